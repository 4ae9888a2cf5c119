/-! THE CALL looks -/
theorem lp_KO_looks {d L kp : Nat} {h : Nat → Nat → Int} {Q : Option am_V → am_H → Prop} {i : Int} (hd : 2 ≤ d) (hv : v_ok (am_wv h 2)) (h0i : 0 ≤ i) (h1i : i ≤ 99) : am_Wp d 121 26 [some (Sum.inr (Sum.inr 1)), some (Sum.inl (i)), some (Sum.inl (0))] [] (am_SH L, h, am_RR kp) Q = (match am_fst (fun k => decide (i + 1 ≤ ((2 ^ k : Nat) : Int))) 7 0 with | some k => Q (some (Sum.inl ((k : Int)))) (am_SH L, h, am_RR kp) | none => Q (some (Sum.inl (7))) (am_SH L, h, am_RR kp)) := by
  have hQ := wv_Q hv
  have hP := wv_P hv
  have hD := wv_D hv
  refine am_fst_eq (n := 7) (fun p => decide (i + 1 ≤ ((2 ^ p : Nat) : Int))) (fun k => am_Wp d 121 26 [some (Sum.inr (Sum.inr 1)), some (Sum.inl (i)), some (Sum.inl ((k : Int)))] [] (am_SH L, h, am_RR kp) Q) (fun k => Q (some (Sum.inl ((k : Int)))) (am_SH L, h, am_RR kp)) (Q (some (Sum.inl (7))) (am_SH L, h, am_RR kp)) (fun k hk => ?_) ?_
  · show am_Wp d 121 26 [some (Sum.inr (Sum.inr 1)), some (Sum.inl (i)), some (Sum.inl ((k : Int)))] [] (am_SH L, h, am_RR kp) Q = (match (decide (i + 1 ≤ ((2 ^ k : Nat) : Int)) : Bool) with | true => Q (some (Sum.inl ((k : Int)))) (am_SH L, h, am_RR kp) | false => am_Wp d 121 26 [some (Sum.inr (Sum.inr 1)), some (Sum.inl (i)), some (Sum.inl (((k + 1 : Nat) : Int)))] [] (am_SH L, h, am_RR kp) Q)
    have e1 := am_shl1 (k := k) (by omega)
    have e2 := am_add_ok (x := i) (y := 1) (by omega) (by omega)
    refine (bq_KO_looks_26 ).trans ?_
    simp (disch := first | exact hv | omega) only [bq_KO_looks_0, bq_KO_looks_23, bq_KO_looks_10, bq_KO_looks_47, sp_KO_refuse, Option.toList_some, Option.toList_none, List.cons_append, List.nil_append, am_bi0, am_bi1, am_bft, true_and, reduceCtorEq, or_false, false_or, or_true, true_or, am_gd, am_incn, am_lk_nat, Int.toNat_natCast, ↓reduceIte, Int.reduceEq, e1, e2]
    rw [if_neg (by omega)]
    by_cases q1 : i + 1 ≤ ((2 ^ k : Nat) : Int)
    · rw [decide_eq_true q1, if_pos q1]
    · rw [decide_eq_false q1, if_neg q1]
  · show am_Wp d 121 26 [some (Sum.inr (Sum.inr 1)), some (Sum.inl (i)), some (Sum.inl (((7 : Nat) : Int)))] [] (am_SH L, h, am_RR kp) Q = _
    refine (bq_KO_looks_26 ).trans ?_
    simp (disch := first | exact hv | omega) only [bq_KO_looks_0, bq_KO_looks_23, bq_KO_looks_10, bq_KO_looks_47, sp_KO_refuse, Option.toList_some, Option.toList_none, List.cons_append, List.nil_append, am_bi0, am_bi1, am_bft, true_and, reduceCtorEq, or_false, false_or, or_true, true_or, am_gd, am_incn, am_lk_nat, Int.toNat_natCast, ↓reduceIte, Int.reduceEq]
    rw [if_pos (by omega)]
    rfl

theorem c_looks {d L kp : Nat} {h : Nat → Nat → Int} {i : Int} (hd : 2 ≤ d) (hv : v_ok (am_wv h 2)) : am_An L 41 (a_looks i) h (fun Q => am_Wp d 121 0 [some (Sum.inr (Sum.inr 1)), some (Sum.inl i), none] [] (am_SH L, h, am_RR kp) Q) := by
  have hQ := wv_Q hv
  have hP := wv_P hv
  have hD := wv_D hv
  intro Q hq
  have hq2 : Q (some (a_looks i).1) (am_SH L, am_bump 41 (a_looks i).2 h, am_RR kp) := hq _ kp am_keep_r
  show am_Wp d 121 0 [some (Sum.inr (Sum.inr 1)), some (Sum.inl i), none] [] (am_SH L, h, am_RR kp) Q
  unfold a_looks at hq2
  simp (disch := first | exact hv | omega) only [bq_KO_looks_0, bq_KO_looks_23, bq_KO_looks_10, bq_KO_looks_47, sp_KO_refuse, Option.toList_some, Option.toList_none, List.cons_append, List.nil_append, am_bi0, am_bi1, am_bft, true_and, reduceCtorEq, or_false, false_or, or_true, true_or, am_gd, am_incn, am_lk_nat, Int.toNat_natCast, ↓reduceIte, Int.reduceEq, Int.reduceAdd, Int.reduceNeg, Int.reduceToNat]
  by_cases q1 : i < 0
  · simp (disch := first | exact hv | omega) only [if_pos q1, if_neg (show ¬ 0 ≤ i by omega), am_bi0, reduceCtorEq, bq_KO_looks_0, bq_KO_looks_23, bq_KO_looks_10, bq_KO_looks_47, Option.toList_some, Option.toList_none, List.cons_append, List.nil_append, Int.reduceLE, ↓reduceIte] at hq2 ⊢
    exact hq2
  · by_cases q2 : 99 < i
    · simp (disch := first | exact hv | omega) only [if_neg q1, if_pos q2, if_pos (show 0 ≤ i by omega), if_neg (show ¬ i ≤ 99 by omega), bq_KO_looks_0, bq_KO_looks_23, bq_KO_looks_10, bq_KO_looks_47, Option.toList_some, Option.toList_none, List.cons_append, List.nil_append, Int.reduceLE, ↓reduceIte] at hq2 ⊢
      exact hq2
    · simp (disch := first | exact hv | omega) only [if_neg q1, if_neg q2, if_pos (show 0 ≤ i by omega), if_pos (show i ≤ 99 by omega), bq_KO_looks_0, bq_KO_looks_23, bq_KO_looks_10, bq_KO_looks_47, Option.toList_some, Option.toList_none, List.cons_append, List.nil_append, Int.reduceLE, ↓reduceIte] at hq2 ⊢
      refine (lp_KO_looks (by omega) hv (by omega) (by omega)).mpr ?_
      unfold v_looks at hq2
      revert hq2
      cases am_fst (fun k => decide (i + 1 ≤ ((2 ^ k : Nat) : Int))) 7 0 <;> exact fun w => w

theorem lp_M_looks {d L kp : Nat} {h : Nat → Nat → Int} {Q : Option am_V → am_H → Prop} {i : Int} (hd : 1 ≤ d) (hv : v_ok (am_mv h)) (h0i : 0 ≤ i) (h1i : i ≤ 99) : am_Wp d 251 29 [some (Sum.inr (Sum.inr 70)), some (Sum.inl (i)), some (Sum.inl (0))] [] (am_SH L, h, am_RR kp) Q = (match am_fst (fun k => decide (i + 1 ≤ ((2 ^ k : Nat) : Int))) 7 0 with | some k => Q (some (Sum.inl ((k : Int)))) (am_SH L, h, am_RR kp) | none => Q (some (Sum.inl (7))) (am_SH L, h, am_RR kp)) := by
  have hQ := mv_Q hv
  have hP := mv_P hv
  have hD := mv_D hv
  refine am_fst_eq (n := 7) (fun p => decide (i + 1 ≤ ((2 ^ p : Nat) : Int))) (fun k => am_Wp d 251 29 [some (Sum.inr (Sum.inr 70)), some (Sum.inl (i)), some (Sum.inl ((k : Int)))] [] (am_SH L, h, am_RR kp) Q) (fun k => Q (some (Sum.inl ((k : Int)))) (am_SH L, h, am_RR kp)) (Q (some (Sum.inl (7))) (am_SH L, h, am_RR kp)) (fun k hk => ?_) ?_
  · show am_Wp d 251 29 [some (Sum.inr (Sum.inr 70)), some (Sum.inl (i)), some (Sum.inl ((k : Int)))] [] (am_SH L, h, am_RR kp) Q = (match (decide (i + 1 ≤ ((2 ^ k : Nat) : Int)) : Bool) with | true => Q (some (Sum.inl ((k : Int)))) (am_SH L, h, am_RR kp) | false => am_Wp d 251 29 [some (Sum.inr (Sum.inr 70)), some (Sum.inl (i)), some (Sum.inl (((k + 1 : Nat) : Int)))] [] (am_SH L, h, am_RR kp) Q)
    have e1 := am_shl1 (k := k) (by omega)
    have e2 := am_add_ok (x := i) (y := 1) (by omega) (by omega)
    refine (bq_M_looks_29 ).trans ?_
    simp (disch := first | exact hv | omega) only [bq_M_looks_0, bq_M_looks_12, bq_M_looks_23, bq_M_looks_26, sp_M_wrongNumber, sp_M_refuse, Option.toList_some, Option.toList_none, List.cons_append, List.nil_append, am_bi0, am_bi1, am_bft, true_and, reduceCtorEq, or_false, false_or, or_true, true_or, am_gd, am_incn, am_lk_nat, Int.toNat_natCast, ↓reduceIte, Int.reduceEq, e1, e2]
    by_cases q1 : i + 1 ≤ ((2 ^ k : Nat) : Int)
    · rw [decide_eq_true q1, if_pos q1]
    · rw [decide_eq_false q1, if_neg q1]
  · show am_Wp d 251 29 [some (Sum.inr (Sum.inr 70)), some (Sum.inl (i)), some (Sum.inl (((7 : Nat) : Int)))] [] (am_SH L, h, am_RR kp) Q = _
    refine (bq_M_looks_29 ).trans ?_
    simp (disch := first | exact hv | omega) only [bq_M_looks_0, bq_M_looks_12, bq_M_looks_23, bq_M_looks_26, sp_M_wrongNumber, sp_M_refuse, Option.toList_some, Option.toList_none, List.cons_append, List.nil_append, am_bi0, am_bi1, am_bft, true_and, reduceCtorEq, or_false, false_or, or_true, true_or, am_gd, am_incn, am_lk_nat, Int.toNat_natCast, ↓reduceIte, Int.reduceEq]
    have e1 := am_shl1 (k := 7) (by omega)
    have e2 := am_add_ok (x := i) (y := 1) (by omega) (by omega)
    rw [e1, e2, if_pos (by omega)]
    rfl

theorem m_looks {d L kp : Nat} {h : Nat → Nat → Int} {i : Int} (hd : 1 ≤ d) (hv : v_ok (am_mv h)) : am_An L 81 (a_looks i) h (fun Q => am_Wp d 251 0 [some (Sum.inr (Sum.inr 70)), some (Sum.inl i), none] [] (am_SH L, h, am_RR kp) Q) := by
  have hQ := mv_Q hv
  have hP := mv_P hv
  have hD := mv_D hv
  intro Q hq
  have hq2 : Q (some (a_looks i).1) (am_SH L, am_bump 81 (a_looks i).2 (am_up h 70 13 0), am_RR kp) := hq _ kp (am_keep_up rfl am_keep_r)
  clear hq
  have hv2 : v_ok (am_mv (am_up h 70 13 0)) := hv
  try rw [show am_mv h = am_mv (am_up h 70 13 0) from rfl] at hq2
  show am_Wp d 251 0 [some (Sum.inr (Sum.inr 70)), some (Sum.inl i), none] [] (am_SH L, h, am_RR kp) Q
  refine (show _ = _ from bq_M_looks_0 (by omega)).mpr ?_
  clear hv hQ hP hD
  generalize am_up h 70 13 0 = g at hq2 hv2 ⊢
  have hv := hv2
  have hQ := mv_Q hv
  have hP := mv_P hv
  have hD := mv_D hv
  unfold a_looks at hq2
  simp (disch := first | exact hv | omega) only [bq_M_looks_0, bq_M_looks_12, bq_M_looks_23, bq_M_looks_26, sp_M_wrongNumber, sp_M_refuse, Option.toList_some, Option.toList_none, List.cons_append, List.nil_append, am_bi0, am_bi1, am_bft, true_and, reduceCtorEq, or_false, false_or, or_true, true_or, am_gd, am_incn, am_lk_nat, Int.toNat_natCast, ↓reduceIte, Int.reduceEq, Int.reduceAdd, Int.reduceNeg, Int.reduceToNat]
  by_cases q1 : i < 0
  · simp (disch := first | exact hv | omega) only [if_pos q1, if_neg (show ¬ 0 ≤ i by omega), am_bi0, reduceCtorEq, bq_M_looks_0, bq_M_looks_12, bq_M_looks_23, bq_M_looks_26, Option.toList_some, Option.toList_none, List.cons_append, List.nil_append, Int.reduceLE, ↓reduceIte, m_wrong, Int.reduceLT, sp_M_refuse, Int.reduceNeg, Int.reduceToNat] at hq2 ⊢
    exact hq2
  · by_cases q2 : 99 < i
    · simp (disch := first | exact hv | omega) only [if_neg q1, if_pos q2, if_pos (show 0 ≤ i by omega), if_neg (show ¬ i ≤ 99 by omega), bq_M_looks_0, bq_M_looks_12, bq_M_looks_23, bq_M_looks_26, Option.toList_some, Option.toList_none, List.cons_append, List.nil_append, Int.reduceLE, ↓reduceIte, m_wrong, Int.reduceLT, sp_M_refuse, Int.reduceNeg, Int.reduceToNat] at hq2 ⊢
      exact hq2
    · simp (disch := first | exact hv | omega) only [if_neg q1, if_neg q2, if_pos (show 0 ≤ i by omega), if_pos (show i ≤ 99 by omega), bq_M_looks_0, bq_M_looks_12, bq_M_looks_23, bq_M_looks_26, Option.toList_some, Option.toList_none, List.cons_append, List.nil_append, Int.reduceLE, ↓reduceIte, m_wrong, Int.reduceLT] at hq2 ⊢
      refine (lp_M_looks (by omega) hv (by omega) (by omega)).mpr ?_
      unfold v_looks at hq2
      revert hq2
      cases am_fst (fun k => decide (i + 1 ≤ ((2 ^ k : Nat) : Int))) 7 0 <;> exact fun w => w
