/-! WHAT WOULD BE PAID ON A DAY (class) -/
def v_pon (V : am_Vw) (e i : Int) : Int := am_sumb (vQ V).toNat (fun p => if (vT V p = 0 ∧ vE V p = e) ∧ v_paid V (p : Int) = true ∧ (i = -9 ∨ vH V p = i) then vN V p else 0)
theorem v_pon_le {V : am_Vw} (hv : v_ok V) (e i : Int) : 0 ≤ v_pon V e i ∧ v_pon V e i ≤ 640 := by
  have hQ := v_ok_Q hv
  have h1 := am_sumb_le (n := (vQ V).toNat) (g := fun p => if (vT V p = 0 ∧ vE V p = e) ∧ v_paid V (p : Int) = true ∧ (i = -9 ∨ vH V p = i) then vN V p else 0) (A := 0) (B := 40) (fun k hk => by
    have h2 := v_ok_p hv k (by omega)
    show 0 ≤ (if (vT V k = 0 ∧ vE V k = e) ∧ v_paid V (k : Int) = true ∧ (i = -9 ∨ vH V k = i) then vN V k else 0) ∧ (if (vT V k = 0 ∧ vE V k = e) ∧ v_paid V (k : Int) = true ∧ (i = -9 ∨ vH V k = i) then vN V k else 0) ≤ 40
    split <;> omega)
  unfold v_pon
  omega
theorem lp_KO_paidOn {d L kp : Nat} {h : Nat → Nat → Int} {Q : Option am_V → am_H → Prop} {e i : Int} (j : Option am_V) (hd : 3 ≤ d) (hv : v_ok (am_wv h 2)) : am_Wp d 150 5 [some (Sum.inr (Sum.inr 2)), some (Sum.inl (e)), some (Sum.inl (i)), some (Sum.inl (0)), some (Sum.inl (0)), j] [] (am_SH L, h, am_RR kp) Q = Q (some (Sum.inl (v_pon (am_wv h 2) e i))) (am_SH L, h, am_RR kp) := by
  have hQ := wv_Q hv
  have hP := wv_P hv
  have hD := wv_D hv
  refine am_dn_eq (J := Option am_V) (n := (h 2 1).toNat) (fun k j => am_Wp d 150 5 [some (Sum.inr (Sum.inr 2)), some (Sum.inl (e)), some (Sum.inl (i)), some (Sum.inl (am_sumb k (fun p => if (h 12 p = 0 ∧ h 10 p = e) ∧ v_paid (am_wv h 2) (p : Int) = true ∧ (i = -9 ∨ h 8 p = i) then h 9 p else 0))), some (Sum.inl ((k : Int))), j] [] (am_SH L, h, am_RR kp) Q) (Q (some (Sum.inl (v_pon (am_wv h 2) e i))) (am_SH L, h, am_RR kp)) (fun k hk ih j => ?_) (fun j => ?_) j
  · have ih2 : ∀ j, am_Wp d 150 5 [some (Sum.inr (Sum.inr 2)), some (Sum.inl (e)), some (Sum.inl (i)), some (Sum.inl (am_sumb (k + 1) (fun p => if (h 12 p = 0 ∧ h 10 p = e) ∧ v_paid (am_wv h 2) (p : Int) = true ∧ (i = -9 ∨ h 8 p = i) then h 9 p else 0))), some (Sum.inl (((k + 1 : Nat) : Int))), j] [] (am_SH L, h, am_RR kp) Q = Q (some (Sum.inl (v_pon (am_wv h 2) e i))) (am_SH L, h, am_RR kp) := ih
    clear ih
    show am_Wp d 150 5 [some (Sum.inr (Sum.inr 2)), some (Sum.inl (e)), some (Sum.inl (i)), some (Sum.inl (am_sumb k (fun p => if (h 12 p = 0 ∧ h 10 p = e) ∧ v_paid (am_wv h 2) (p : Int) = true ∧ (i = -9 ∨ h 8 p = i) then h 9 p else 0))), some (Sum.inl ((k : Int))), j] [] (am_SH L, h, am_RR kp) Q = _
    have hb := am_sumb_le (n := k) (g := fun p => if (h 12 p = 0 ∧ h 10 p = e) ∧ v_paid (am_wv h 2) (p : Int) = true ∧ (i = -9 ∨ h 8 p = i) then h 9 p else 0) (A := 0) (B := 40) (fun p hp => by
      have hp1 := wv_p hv p (by omega)
      have hq1 := wv_q hv p (by omega)
      have hw1 := wv_w hv p (by omega)
      have ho1 : v_open (am_wv h 2) (p : Int) = decide (h 12 p = 0) := v_open_nat hv (show (p : Int) < h 2 1 by omega)
      show 0 ≤ (if (h 12 p = 0 ∧ h 10 p = e) ∧ v_paid (am_wv h 2) (p : Int) = true ∧ (i = -9 ∨ h 8 p = i) then h 9 p else 0) ∧ (if (h 12 p = 0 ∧ h 10 p = e) ∧ v_paid (am_wv h 2) (p : Int) = true ∧ (i = -9 ∨ h 8 p = i) then h 9 p else 0) ≤ 40
      (repeat' split) <;> omega)
    have hp1 := wv_p hv k (by omega)
    have hq1 := wv_q hv k (by omega)
    have hw1 := wv_w hv k (by omega)
    have ho1 : v_open (am_wv h 2) (k : Int) = decide (h 12 k = 0) := v_open_nat hv (show (k : Int) < h 2 1 by omega)
    rw [am_sumb_s] at ih2
    refine (bq_KO_paidOn_5 (by omega)).trans ?_
    simp (disch := first | exact hv | omega) only [bq_KO_paidOn_0, bq_KO_paidOn_11, bq_KO_paidOn_30, bq_KO_paidOn_26, bq_KO_paidOn_35, bq_KO_paidOn_79, bq_KO_paidOn_48, bq_KO_paidOn_57, bq_KO_paidOn_67, bq_KO_paidOn_77, sp_World_papers_2, sp_World_holderOf_2, sp_World_isOpen_2, sp_World_dueOf_2, sp_World_wouldBePaid_2, sp_World_quartersOf_2, Option.toList_some, Option.toList_none, List.cons_append, List.nil_append, am_bi0, am_bi1, am_bft, true_and, reduceCtorEq, or_false, false_or, or_true, true_or, am_gd, am_incn, am_lk_nat, Int.toNat_natCast, ↓reduceIte, Int.reduceEq, am_add_ok, ho1, decide_eq_false_iff_not, decide_eq_true_eq]
    rw [if_neg (by omega)]
    by_cases q1 : h 12 k = 0 <;> by_cases q2 : h 10 k = e <;> by_cases q3 : i = -9 <;> by_cases q4 : h 8 k = i <;> cases q5 : v_paid (am_wv h 2) (k : Int) <;> simp only [q1, q2, q3, q4, q5, true_and, and_true, false_and, and_false, true_or, or_true, false_or, or_false, ↓reduceIte, reduceCtorEq, Int.add_zero, not_true_eq_false, not_false_eq_true, Int.reduceEq, Int.reduceNeg, eq_self] at ih2 ⊢ <;> first | exact ih2 _ | (exfalso; omega)
  · show am_Wp d 150 5 [some (Sum.inr (Sum.inr 2)), some (Sum.inl (e)), some (Sum.inl (i)), some (Sum.inl (am_sumb ((h 2 1).toNat) (fun p => if (h 12 p = 0 ∧ h 10 p = e) ∧ v_paid (am_wv h 2) (p : Int) = true ∧ (i = -9 ∨ h 8 p = i) then h 9 p else 0))), some (Sum.inl ((((h 2 1).toNat : Nat) : Int))), j] [] (am_SH L, h, am_RR kp) Q = _
    refine (bq_KO_paidOn_5 (by omega)).trans ?_
    simp (disch := first | exact hv | omega) only [bq_KO_paidOn_0, bq_KO_paidOn_11, bq_KO_paidOn_30, bq_KO_paidOn_26, bq_KO_paidOn_35, bq_KO_paidOn_79, bq_KO_paidOn_48, bq_KO_paidOn_57, bq_KO_paidOn_67, bq_KO_paidOn_77, sp_World_papers_2, sp_World_holderOf_2, sp_World_isOpen_2, sp_World_dueOf_2, sp_World_wouldBePaid_2, sp_World_quartersOf_2, Option.toList_some, Option.toList_none, List.cons_append, List.nil_append, am_bi0, am_bi1, am_bft, true_and, reduceCtorEq, or_false, false_or, or_true, true_or, am_gd, am_incn, am_lk_nat, Int.toNat_natCast, ↓reduceIte, Int.reduceEq]
    rw [if_pos (by omega)]
    try rfl

theorem sp_KO_paidOn {d L kp : Nat} {h : Nat → Nat → Int} {Q : Option am_V → am_H → Prop} {e i : Int} (hd : 3 ≤ d) (hv : v_ok (am_wv h 2)) : am_Wp d 150 0 [some (Sum.inr (Sum.inr 2)), some (Sum.inl e), some (Sum.inl i), none, none, none] [] (am_SH L, h, am_RR kp) Q = Q (some (Sum.inl (v_pon (am_wv h 2) e i))) (am_SH L, h, am_RR kp) := by
  rw [bq_KO_paidOn_0]
  exact lp_KO_paidOn none hd hv
