/-! THE CALL paidBy of the reference, whole -/
theorem m_paidBy {d L kp : Nat} {h : Nat → Nat → Int} {i : Int} (hd : 4 ≤ d) (hv : v_ok (am_mv h)) : am_An L 81 (a_paidBy (am_mv h) i) h (fun Q => am_Wp d 273 0 [some (Sum.inr (Sum.inr 70)), some (Sum.inl i), none] [] (am_SH L, h, am_RR kp) Q) := by
  have hQ := mv_Q hv
  have hP := mv_P hv
  have hD := mv_D hv
  intro Q hq
  have hq2 : ∀ g kq, am_keep (am_up h 70 13 0) g → Q (some (a_paidBy (am_mv h) i).1) (am_SH L, am_bump 81 (a_paidBy (am_mv h) i).2 g, am_RR kq) := fun g kq hk => hq g kq (am_keep_t (am_keep_up rfl am_keep_r) hk)
  clear hq
  have hv2 : v_ok (am_mv (am_up h 70 13 0)) := hv
  try rw [show am_mv h = am_mv (am_up h 70 13 0) from rfl] at hq2
  show am_Wp d 273 0 [some (Sum.inr (Sum.inr 70)), some (Sum.inl i), none] [] (am_SH L, h, am_RR kp) Q
  refine (show _ = _ from bq_M_paidBy_0 (by omega)).mpr ?_
  clear hv hQ hP hD
  generalize am_up h 70 13 0 = g at hq2 hv2 ⊢
  have hv := hv2
  have hQ := mv_Q hv
  have hP := mv_P hv
  have hD := mv_D hv
  unfold a_paidBy at hq2
  by_cases q1 : i < g 70 5
  · have em : m_wrong i (g 70 5) 98 = -4 := if_pos q1
    simp only [if_pos q1] at hq2
    simp (disch := first | exact hv | omega) only [bq_M_paidBy_0, bq_M_paidBy_15, bq_M_paidBy_29, bq_M_paidBy_81, bq_M_paidBy_57, bq_M_paidBy_32, Option.toList_some, Option.toList_none, List.cons_append, List.nil_append, am_bi0, am_bi1, am_bft, true_and, reduceCtorEq, or_false, false_or, or_true, true_or, am_gd, am_incn, am_lk_nat, Int.toNat_natCast, ↓reduceIte, Int.reduceEq, sp_M_wrongNumber, sp_M_refuse, Int.reduceLE, Int.reduceNeg, Int.reduceToNat, em]
    exact hq2 g kp am_keep_r
  · by_cases q2 : 98 < i
    · have em : m_wrong i (g 70 5) 98 = -6 := (if_neg q1).trans (if_pos q2)
      simp only [if_neg q1, if_pos q2] at hq2
      simp (disch := first | exact hv | omega) only [bq_M_paidBy_0, bq_M_paidBy_15, bq_M_paidBy_29, bq_M_paidBy_81, bq_M_paidBy_57, bq_M_paidBy_32, Option.toList_some, Option.toList_none, List.cons_append, List.nil_append, am_bi0, am_bi1, am_bft, true_and, reduceCtorEq, or_false, false_or, or_true, true_or, am_gd, am_incn, am_lk_nat, Int.toNat_natCast, ↓reduceIte, Int.reduceEq, sp_M_wrongNumber, sp_M_refuse, Int.reduceLE, Int.reduceNeg, Int.reduceToNat, em]
      exact hq2 g kp am_keep_r
    · have em : m_wrong i (g 70 5) 98 = 0 := (if_neg q1).trans (if_neg q2)
      simp only [if_neg q1, if_neg q2] at hq2
      simp (disch := first | exact hv | omega) only [bq_M_paidBy_0, bq_M_paidBy_15, bq_M_paidBy_29, bq_M_paidBy_81, bq_M_paidBy_57, bq_M_paidBy_32, Option.toList_some, Option.toList_none, List.cons_append, List.nil_append, am_bi0, am_bi1, am_bft, true_and, reduceCtorEq, or_false, false_or, or_true, true_or, am_gd, am_incn, am_lk_nat, Int.toNat_natCast, ↓reduceIte, Int.reduceEq, sp_M_wrongNumber, sp_M_refuse, Int.reduceLE, Int.reduceNeg, Int.reduceToNat, em, sp_M_carryAll_t86]
      have hvt : v_ok (am_mv (am_tkk g 86 127)) := hv
      have h9 := lp_M_paidBy (L := L) (kp := 87) (Q := Q) (h := am_tkk g 86 127) (i := i) (d := d) (by omega) hvt (show g 70 5 ≤ i by omega) (by omega)
      refine h9.mpr ?_
      exact hq2 _ 87 (am_keep_run hv)
