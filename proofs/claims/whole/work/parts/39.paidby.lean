/-! THE CALLS paidBy, rich (class) -/
def v_pb (V : am_Vw) (n : Nat) : Int := am_sumb n (fun k => v_pon V (vD V + (k : Int)) (-9))
def a_paidBy (V : am_Vw) (n : Int) : am_V × Nat := if n < vD V then (Sum.inl (-4), 4) else if 98 < n then (Sum.inl (-6), 6) else (Sum.inl (v_pb V (n - vD V + 1).toNat), 0)
def v_kis (V : am_Vw) (i : Int) (n : Nat) : Int := am_for (fun k s => am_add s (v_pon V (vD V + (k : Int)) i)) n (am_lk (vS V) 7 i)
def v_rich (V : am_Vw) (i v : Int) : Option Nat := am_fst (fun k => decide (v ≤ v_kis V i (k + 1))) (99 - vD V).toNat 0
def a_rich (V : am_Vw) (i v : Int) : am_V × Nat := if v_isP V i = false then (Sum.inl (-1), 1) else if v < 0 then (Sum.inl (-4), 4) else if 999 < v then (Sum.inl (-6), 6) else match v_rich V i v with
  | some k => (Sum.inl (vD V + (k : Int)), 0)
  | none => (Sum.inl (-9), 0)
theorem v_kis_s {V : am_Vw} {i : Int} {n : Nat} : v_kis V i (n + 1) = am_add (v_kis V i n) (v_pon V (vD V + (n : Int)) i) := rfl
theorem lp_KO_paidBy {d L kp : Nat} {h : Nat → Nat → Int} {Q : Option am_V → am_H → Prop} {i : Int} (hd : 4 ≤ d) (hv : v_ok (am_wv h 2)) (h0i : h 2 2 ≤ i) (h1i : i ≤ 98) : am_Wp d 152 41 [some (Sum.inr (Sum.inr 1)), some (Sum.inl (i)), some (Sum.inl (0)), some (Sum.inl ((h 2 2 + ((0 : Nat) : Int))))] [] (am_SH L, h, am_RR kp) Q = Q (some (Sum.inl (v_pb (am_wv h 2) (i - h 2 2 + 1).toNat))) (am_SH L, h, am_RR kp) := by
  have hQ := wv_Q hv
  have hP := wv_P hv
  have hD := wv_D hv
  refine am_up_eq (n := (i - h 2 2 + 1).toNat) (fun k => am_Wp d 152 41 [some (Sum.inr (Sum.inr 1)), some (Sum.inl (i)), some (Sum.inl (am_sumb k (fun p => v_pon (am_wv h 2) (h 2 2 + (p : Int)) (-9)))), some (Sum.inl ((h 2 2 + (k : Int))))] [] (am_SH L, h, am_RR kp) Q) (Q (some (Sum.inl (v_pb (am_wv h 2) (i - h 2 2 + 1).toNat))) (am_SH L, h, am_RR kp)) (fun k hk => ?_) ?_
  · show am_Wp d 152 41 [some (Sum.inr (Sum.inr 1)), some (Sum.inl (i)), some (Sum.inl (am_sumb k (fun p => v_pon (am_wv h 2) (h 2 2 + (p : Int)) (-9)))), some (Sum.inl ((h 2 2 + (k : Int))))] [] (am_SH L, h, am_RR kp) Q = am_Wp d 152 41 [some (Sum.inr (Sum.inr 1)), some (Sum.inl (i)), some (Sum.inl (am_sumb (k + 1) (fun p => v_pon (am_wv h 2) (h 2 2 + (p : Int)) (-9)))), some (Sum.inl ((h 2 2 + ((k + 1 : Nat) : Int))))] [] (am_SH L, h, am_RR kp) Q
    have hb := am_sumb_le (n := k) (g := fun p => v_pon (am_wv h 2) (h 2 2 + (p : Int)) (-9)) (A := 0) (B := 640) (fun p hp => by
      have hw1 := v_pon_le hv (h 2 2 + (p : Int)) (-9)
      show 0 ≤ (v_pon (am_wv h 2) (h 2 2 + (p : Int)) (-9)) ∧ (v_pon (am_wv h 2) (h 2 2 + (p : Int)) (-9)) ≤ 640
      omega)
    have hw1 := v_pon_le hv (h 2 2 + (k : Int)) (-9)
    rw [am_sumb_s] 
    refine (bq_KO_paidBy_41 (by omega)).trans ?_
    simp (disch := first | exact hv | omega) only [bq_KO_paidBy_0, bq_KO_paidBy_8, bq_KO_paidBy_40, bq_KO_paidBy_30, bq_KO_paidBy_17, bq_KO_paidBy_57, sp_World_day_2, sp_KO_refuse, sp_KO_paidOn, Option.toList_some, Option.toList_none, List.cons_append, List.nil_append, am_bi0, am_bi1, am_bft, true_and, reduceCtorEq, or_false, false_or, or_true, true_or, am_gd, am_incn, am_lk_nat, Int.toNat_natCast, ↓reduceIte, Int.reduceEq, am_add_ok]
    rw [if_neg (by omega), show h 2 2 + (k : Int) + 1 = h 2 2 + ((k + 1 : Nat) : Int) by omega]
  · show am_Wp d 152 41 [some (Sum.inr (Sum.inr 1)), some (Sum.inl (i)), some (Sum.inl (am_sumb ((i - h 2 2 + 1).toNat) (fun p => v_pon (am_wv h 2) (h 2 2 + (p : Int)) (-9)))), some (Sum.inl ((h 2 2 + (((i - h 2 2 + 1).toNat : Nat) : Int))))] [] (am_SH L, h, am_RR kp) Q = _
    refine (bq_KO_paidBy_41 (by omega)).trans ?_
    simp (disch := first | exact hv | omega) only [bq_KO_paidBy_0, bq_KO_paidBy_8, bq_KO_paidBy_40, bq_KO_paidBy_30, bq_KO_paidBy_17, bq_KO_paidBy_57, sp_World_day_2, sp_KO_refuse, sp_KO_paidOn, Option.toList_some, Option.toList_none, List.cons_append, List.nil_append, am_bi0, am_bi1, am_bft, true_and, reduceCtorEq, or_false, false_or, or_true, true_or, am_gd, am_incn, am_lk_nat, Int.toNat_natCast, ↓reduceIte, Int.reduceEq]
    rw [if_pos (by omega)]
    try rfl

theorem c_paidBy {d L kp : Nat} {h : Nat → Nat → Int} {i : Int} (hd : 4 ≤ d) (hv : v_ok (am_wv h 2)) : am_An L 41 (a_paidBy (am_wv h 2) i) h (fun Q => am_Wp d 152 0 [some (Sum.inr (Sum.inr 1)), some (Sum.inl i), none, none] [] (am_SH L, h, am_RR kp) Q) := by
  have hQ := wv_Q hv
  have hP := wv_P hv
  have hD := wv_D hv
  intro Q hq
  have hq2 : Q (some (a_paidBy (am_wv h 2) i).1) (am_SH L, am_bump 41 (a_paidBy (am_wv h 2) i).2 h, am_RR kp) := hq _ kp am_keep_r
  show am_Wp d 152 0 [some (Sum.inr (Sum.inr 1)), some (Sum.inl i), none, none] [] (am_SH L, h, am_RR kp) Q
  unfold a_paidBy at hq2
  simp (disch := first | exact hv | omega) only [bq_KO_paidBy_0, bq_KO_paidBy_8, bq_KO_paidBy_40, bq_KO_paidBy_30, bq_KO_paidBy_17, bq_KO_paidBy_57, sp_World_day_2, sp_KO_refuse, sp_KO_paidOn, Option.toList_some, Option.toList_none, List.cons_append, List.nil_append, am_bi0, am_bi1, am_bft, true_and, reduceCtorEq, or_false, false_or, or_true, true_or, am_gd, am_incn, am_lk_nat, Int.toNat_natCast, ↓reduceIte, Int.reduceEq, Int.reduceAdd, Int.reduceNeg, Int.reduceToNat]
  by_cases q1 : i < h 2 2
  · simp only [if_pos q1, if_neg (show ¬ h 2 2 ≤ i by omega)] at hq2 ⊢
    exact hq2
  · simp only [if_neg q1, if_pos (show h 2 2 ≤ i by omega)] at hq2 ⊢
    by_cases q2 : 98 < i
    · simp only [if_pos q2, if_neg (show ¬ i ≤ 98 by omega)] at hq2 ⊢
      exact hq2
    · simp only [if_neg q2, if_pos (show i ≤ 98 by omega)] at hq2 ⊢
      have h9 := lp_KO_paidBy (L := L) (kp := kp) (Q := Q) (i := i) hd hv (by omega) (by omega)
      rw [show h 2 2 + ((0 : Nat) : Int) = h 2 2 by omega] at h9
      exact h9.mpr hq2
