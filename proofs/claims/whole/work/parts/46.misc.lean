/-! SMALL LOOPS OF THE WORLD -/
theorem v_opens_le {V : am_Vw} (hv : v_ok V) : 0 ≤ v_opens V ∧ v_opens V ≤ 16 := by
  have hQ := v_ok_Q hv
  have h1 := am_sumb_le (n := (vQ V).toNat) (g := fun p => if vT V p = 0 then 1 else 0) (A := 0) (B := 1) (fun k _ => by
    show 0 ≤ (if vT V k = 0 then (1 : Int) else 0) ∧ (if vT V k = 0 then (1 : Int) else 0) ≤ 1
    split <;> omega)
  unfold v_opens
  omega
def v_dueb (V : am_Vw) (n : Nat) : Nat := am_bits n (fun p => v_due V p)
theorem v_dueb_s {V : am_Vw} {k : Nat} (hk : k < 30) : ((v_dueb V (k + 1) : Nat) : Int) = if v_due V k = true then am_or ((v_dueb V k : Nat) : Int) (am_shl 1 (k : Int)) else ((v_dueb V k : Nat) : Int) := by
  have h1 := am_bits_lt (n := k) (c := fun p => v_due V p)
  have h2 : 2 ^ k ≤ 2 ^ 30 := Nat.pow_le_pow_right (by omega) (by omega)
  cases hc : v_due V k with
  | true =>
    rw [if_pos rfl, am_shl1 (by omega)]
    have e := am_or_ok (a := v_dueb V k) (b := 2 ^ k) (by unfold v_dueb; omega) (by omega)
    rw [e]
    unfold v_dueb
    rw [am_bits_or (c := fun p => v_due V p) hc]
  | false =>
    rw [if_neg (by simp)]
    show ((am_bits k _ + (bif v_due V k then 2 ^ k else 0) : Nat) : Int) = _
    rw [hc]; rfl
theorem lp_World_openPapers_2 {d L kp : Nat} {h : Nat → Nat → Int} {Q : Option am_V → am_H → Prop} (hd : 2 ≤ d) (hv : v_ok (am_wv h 2)) : am_Wp d 178 4 [some (Sum.inr (Sum.inr 2)), some (Sum.inl (0)), some (Sum.inl (0))] [] (am_SH L, h, am_RR kp) Q = Q (some (Sum.inl (v_opens (am_wv h 2)))) (am_SH L, h, am_RR kp) := by
  have hQ := wv_Q hv
  have hP := wv_P hv
  have hD := wv_D hv
  refine am_up_eq (n := (h 2 1).toNat) (fun k => am_Wp d 178 4 [some (Sum.inr (Sum.inr 2)), some (Sum.inl (am_sumb k (fun p => if h 12 p = 0 then 1 else 0))), some (Sum.inl ((k : Int)))] [] (am_SH L, h, am_RR kp) Q) (Q (some (Sum.inl (v_opens (am_wv h 2)))) (am_SH L, h, am_RR kp)) (fun k hk => ?_) ?_
  · show am_Wp d 178 4 [some (Sum.inr (Sum.inr 2)), some (Sum.inl (am_sumb k (fun p => if h 12 p = 0 then 1 else 0))), some (Sum.inl ((k : Int)))] [] (am_SH L, h, am_RR kp) Q = am_Wp d 178 4 [some (Sum.inr (Sum.inr 2)), some (Sum.inl (am_sumb (k + 1) (fun p => if h 12 p = 0 then 1 else 0))), some (Sum.inl (((k + 1 : Nat) : Int)))] [] (am_SH L, h, am_RR kp) Q
    have hb := am_sumb_le (n := k) (g := fun p => if h 12 p = 0 then 1 else 0) (A := 0) (B := 1) (fun p hp => by
      have hp1 := wv_p hv p (by omega)
      have hq1 := wv_q hv p (by omega)
      have hw1 := wv_w hv p (by omega)
      have ho1 : v_open (am_wv h 2) (p : Int) = decide (h 12 p = 0) := v_open_nat hv (show (p : Int) < h 2 1 by omega)
      show 0 ≤ (if h 12 p = 0 then 1 else 0) ∧ (if h 12 p = 0 then 1 else 0) ≤ 1
      (repeat' split) <;> omega)
    have hp1 := wv_p hv k (by omega)
    have hq1 := wv_q hv k (by omega)
    have hw1 := wv_w hv k (by omega)
    have ho1 : v_open (am_wv h 2) (k : Int) = decide (h 12 k = 0) := v_open_nat hv (show (k : Int) < h 2 1 by omega)
    rw [am_sumb_s] 
    refine (bq_World_openPapers_4 (by omega)).trans ?_
    simp (disch := first | exact hv | omega) only [bq_World_openPapers_0, bq_World_openPapers_17, bq_World_openPapers_23, sp_World_isOpen_2, Option.toList_some, Option.toList_none, List.cons_append, List.nil_append, am_bi0, am_bi1, am_bft, true_and, reduceCtorEq, or_false, false_or, or_true, true_or, am_gd, am_incn, am_lk_nat, Int.toNat_natCast, ↓reduceIte, Int.reduceEq, am_add_ok, ho1, decide_eq_false_iff_not, decide_eq_true_eq]
    rw [if_neg (by omega)]
    (repeat' split) <;> first | rfl | (simp_all; done) | omega
  · show am_Wp d 178 4 [some (Sum.inr (Sum.inr 2)), some (Sum.inl (am_sumb ((h 2 1).toNat) (fun p => if h 12 p = 0 then 1 else 0))), some (Sum.inl ((((h 2 1).toNat : Nat) : Int)))] [] (am_SH L, h, am_RR kp) Q = _
    refine (bq_World_openPapers_4 (by omega)).trans ?_
    simp (disch := first | exact hv | omega) only [bq_World_openPapers_0, bq_World_openPapers_17, bq_World_openPapers_23, sp_World_isOpen_2, Option.toList_some, Option.toList_none, List.cons_append, List.nil_append, am_bi0, am_bi1, am_bft, true_and, reduceCtorEq, or_false, false_or, or_true, true_or, am_gd, am_incn, am_lk_nat, Int.toNat_natCast, ↓reduceIte, Int.reduceEq]
    rw [if_pos (by omega)]
    try rfl

theorem sp_World_openPapers_2 {d L kp : Nat} {h : Nat → Nat → Int} {Q : Option am_V → am_H → Prop} (hd : 2 ≤ d) (hv : v_ok (am_wv h 2)) : am_Wp d 178 0 [some (Sum.inr (Sum.inr 2)), none, none] [] (am_SH L, h, am_RR kp) Q = Q (some (Sum.inl (v_opens (am_wv h 2)))) (am_SH L, h, am_RR kp) := by
  rw [bq_World_openPapers_0]
  exact lp_World_openPapers_2 hd hv

theorem lp_World_allKissed_2 {d L kp : Nat} {h : Nat → Nat → Int} {Q : Option am_V → am_H → Prop} (hd : 1 ≤ d) (hv : v_ok (am_wv h 2)) : am_Wp d 187 4 [some (Sum.inr (Sum.inr 2)), some (Sum.inl (0)), some (Sum.inl (0))] [] (am_SH L, h, am_RR kp) Q = Q (some (Sum.inl (v_kissed (am_wv h 2) (h 2 0).toNat))) (am_SH L, h, am_RR kp) := by
  have hQ := wv_Q hv
  have hP := wv_P hv
  have hD := wv_D hv
  refine am_up_eq (n := (h 2 0).toNat) (fun k => am_Wp d 187 4 [some (Sum.inr (Sum.inr 2)), some (Sum.inl (v_kissed (am_wv h 2) k)), some (Sum.inl ((k : Int)))] [] (am_SH L, h, am_RR kp) Q) (Q (some (Sum.inl (v_kissed (am_wv h 2) (h 2 0).toNat))) (am_SH L, h, am_RR kp)) (fun k hk => ?_) ?_
  · show am_Wp d 187 4 [some (Sum.inr (Sum.inr 2)), some (Sum.inl (v_kissed (am_wv h 2) k)), some (Sum.inl ((k : Int)))] [] (am_SH L, h, am_RR kp) Q = am_Wp d 187 4 [some (Sum.inr (Sum.inr 2)), some (Sum.inl (v_kissed (am_wv h 2) (k + 1))), some (Sum.inl (((k + 1 : Nat) : Int)))] [] (am_SH L, h, am_RR kp) Q
    skip
    rw [show v_kissed (am_wv h 2) (k + 1) = am_add (v_kissed (am_wv h 2) k) (h 5 k) from rfl] 
    refine (bq_World_allKissed_4 (by omega)).trans ?_
    simp (disch := first | exact hv | omega) only [bq_World_allKissed_0, bq_World_allKissed_21, sp_at_5, Option.toList_some, Option.toList_none, List.cons_append, List.nil_append, am_bi0, am_bi1, am_bft, true_and, reduceCtorEq, or_false, false_or, or_true, true_or, am_gd, am_incn, am_lk_nat, Int.toNat_natCast, ↓reduceIte, Int.reduceEq]
    rw [if_neg (by omega)]
  · show am_Wp d 187 4 [some (Sum.inr (Sum.inr 2)), some (Sum.inl (v_kissed (am_wv h 2) ((h 2 0).toNat))), some (Sum.inl ((((h 2 0).toNat : Nat) : Int)))] [] (am_SH L, h, am_RR kp) Q = _
    refine (bq_World_allKissed_4 (by omega)).trans ?_
    simp (disch := first | exact hv | omega) only [bq_World_allKissed_0, bq_World_allKissed_21, sp_at_5, Option.toList_some, Option.toList_none, List.cons_append, List.nil_append, am_bi0, am_bi1, am_bft, true_and, reduceCtorEq, or_false, false_or, or_true, true_or, am_gd, am_incn, am_lk_nat, Int.toNat_natCast, ↓reduceIte, Int.reduceEq]
    rw [if_pos (by omega)]
    try rfl

theorem sp_World_allKissed_2 {d L kp : Nat} {h : Nat → Nat → Int} {Q : Option am_V → am_H → Prop} (hd : 1 ≤ d) (hv : v_ok (am_wv h 2)) : am_Wp d 187 0 [some (Sum.inr (Sum.inr 2)), none, none] [] (am_SH L, h, am_RR kp) Q = Q (some (Sum.inl (v_kissed (am_wv h 2) (h 2 0).toNat))) (am_SH L, h, am_RR kp) := by
  rw [bq_World_allKissed_0]
  exact lp_World_allKissed_2 hd hv

theorem lp_World_dueToday_2 {d L kp : Nat} {h : Nat → Nat → Int} {Q : Option am_V → am_H → Prop} (hd : 2 ≤ d) (hv : v_ok (am_wv h 2)) : am_Wp d 39 4 [some (Sum.inr (Sum.inr 2)), some (Sum.inl (0)), some (Sum.inl (0))] [] (am_SH L, h, am_RR kp) Q = Q (some (Sum.inl (((v_dueb (am_wv h 2) (h 2 1).toNat : Nat) : Int)))) (am_SH L, h, am_RR kp) := by
  have hQ := wv_Q hv
  have hP := wv_P hv
  have hD := wv_D hv
  refine am_up_eq (n := (h 2 1).toNat) (fun k => am_Wp d 39 4 [some (Sum.inr (Sum.inr 2)), some (Sum.inl (((v_dueb (am_wv h 2) k : Nat) : Int))), some (Sum.inl ((k : Int)))] [] (am_SH L, h, am_RR kp) Q) (Q (some (Sum.inl (((v_dueb (am_wv h 2) (h 2 1).toNat : Nat) : Int)))) (am_SH L, h, am_RR kp)) (fun k hk => ?_) ?_
  · show am_Wp d 39 4 [some (Sum.inr (Sum.inr 2)), some (Sum.inl (((v_dueb (am_wv h 2) k : Nat) : Int))), some (Sum.inl ((k : Int)))] [] (am_SH L, h, am_RR kp) Q = am_Wp d 39 4 [some (Sum.inr (Sum.inr 2)), some (Sum.inl (((v_dueb (am_wv h 2) (k + 1) : Nat) : Int))), some (Sum.inl (((k + 1 : Nat) : Int)))] [] (am_SH L, h, am_RR kp) Q
    have hp1 := wv_p hv k (by omega)
    have hq1 := wv_q hv k (by omega)
    have hw1 := wv_w hv k (by omega)
    have ho1 : v_open (am_wv h 2) (k : Int) = decide (h 12 k = 0) := v_open_nat hv (show (k : Int) < h 2 1 by omega)
    have hdu : (v_due (am_wv h 2) k = true) = (h 12 k = 0 ∧ h 10 k = h 2 2) := decide_eq_true_eq
    rw [v_dueb_s (show k < 30 by omega)] 
    refine (bq_World_dueToday_4 (by omega)).trans ?_
    simp (disch := first | exact hv | omega) only [bq_World_dueToday_0, bq_World_dueToday_17, bq_World_dueToday_41, bq_World_dueToday_28, sp_World_isOpen_2, sp_at_10, Option.toList_some, Option.toList_none, List.cons_append, List.nil_append, am_bi0, am_bi1, am_bft, true_and, reduceCtorEq, or_false, false_or, or_true, true_or, am_gd, am_incn, am_lk_nat, Int.toNat_natCast, ↓reduceIte, Int.reduceEq, ho1, decide_eq_false_iff_not, decide_eq_true_eq, hdu]
    rw [if_neg (by omega)]
    (repeat' split) <;> first | rfl | (simp_all; done) | omega
  · show am_Wp d 39 4 [some (Sum.inr (Sum.inr 2)), some (Sum.inl (((v_dueb (am_wv h 2) ((h 2 1).toNat) : Nat) : Int))), some (Sum.inl ((((h 2 1).toNat : Nat) : Int)))] [] (am_SH L, h, am_RR kp) Q = _
    refine (bq_World_dueToday_4 (by omega)).trans ?_
    simp (disch := first | exact hv | omega) only [bq_World_dueToday_0, bq_World_dueToday_17, bq_World_dueToday_41, bq_World_dueToday_28, sp_World_isOpen_2, sp_at_10, Option.toList_some, Option.toList_none, List.cons_append, List.nil_append, am_bi0, am_bi1, am_bft, true_and, reduceCtorEq, or_false, false_or, or_true, true_or, am_gd, am_incn, am_lk_nat, Int.toNat_natCast, ↓reduceIte, Int.reduceEq]
    rw [if_pos (by omega)]
    try rfl

theorem sp_World_dueToday_2 {d L kp : Nat} {h : Nat → Nat → Int} {Q : Option am_V → am_H → Prop} (hd : 2 ≤ d) (hv : v_ok (am_wv h 2)) : am_Wp d 39 0 [some (Sum.inr (Sum.inr 2)), none, none] [] (am_SH L, h, am_RR kp) Q = Q (some (Sum.inl (((v_dueb (am_wv h 2) (h 2 1).toNat : Nat) : Int)))) (am_SH L, h, am_RR kp) := by
  rw [bq_World_dueToday_0]
  exact lp_World_dueToday_2 hd hv
