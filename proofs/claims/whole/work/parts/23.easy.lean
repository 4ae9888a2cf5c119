/-! THE CALLS, those with little in them -/
theorem c_person {d L kp : Nat} {h : Nat → Nat → Int} {i w : Int} (hd : 4 ≤ d) (hv : v_ok (am_wv h 2)) : am_An L 41 (a_person (am_wv h 2) i w) h (fun Q => am_Wp d 44 0 [some (Sum.inr (Sum.inr 1)), some (Sum.inl i), some (Sum.inl w)] [] (am_SH L, h, am_RR kp) Q) := by
  have hQ := wv_Q hv
  have hP := wv_P hv
  have hD := wv_D hv
  intro Q hq
  have hq2 : Q (some (a_person (am_wv h 2) i w).1) (am_SH L, am_bump 41 (a_person (am_wv h 2) i w).2 h, am_RR kp) := hq _ kp am_keep_r
  show am_Wp d 44 0 [some (Sum.inr (Sum.inr 1)), some (Sum.inl i), some (Sum.inl w)] [] (am_SH L, h, am_RR kp) Q
  unfold a_person at hq2
  simp (disch := first | exact hv | omega) only [bq_KO_person_0, bq_KO_person_8, bq_KO_person_52, bq_KO_person_61, bq_KO_person_70, bq_KO_person_79, bq_KO_person_88, bq_KO_person_97, bq_KO_person_16, bq_KO_person_60, bq_KO_person_69, bq_KO_person_78, bq_KO_person_87, bq_KO_person_96, bq_KO_person_103, sp_World_isPerson_2, sp_KO_refuse, sp_World_kindOf_2, sp_World_figureOf_2, sp_World_kissedOf_2, sp_World_purseOf_2, sp_World_unwillingOf_2, Option.toList_some, Option.toList_none, List.cons_append, List.nil_append, am_bi0, am_bi1, am_bft, true_and, reduceCtorEq, or_false, false_or, or_true, true_or, am_gd, am_incn, am_lk_nat, Int.toNat_natCast, Int.reduceAdd, Int.reduceNeg, Int.reduceToNat]
  revert hq2
  (repeat' split) <;> intro hq2 <;> first | exact hq2 | (exfalso; omega) | (simp_all; done)

theorem m_person {d L kp : Nat} {h : Nat → Nat → Int} {i w : Int} (hd : 3 ≤ d) (hv : v_ok (am_mv h)) : am_An L 81 (a_person (am_mv h) i w) h (fun Q => am_Wp d 213 0 [some (Sum.inr (Sum.inr 70)), some (Sum.inl i), some (Sum.inl w)] [] (am_SH L, h, am_RR kp) Q) := by
  have hQ := mv_Q hv
  have hP := mv_P hv
  have hD := mv_D hv
  intro Q hq
  have hq2 : Q (some (a_person (am_mv h) i w).1) (am_SH L, am_bump 81 (a_person (am_mv h) i w).2 (am_up h 70 13 0), am_RR kp) := hq _ kp (am_keep_up rfl am_keep_r)
  clear hq
  have hv2 : v_ok (am_mv (am_up h 70 13 0)) := hv
  rw [show am_mv h = am_mv (am_up h 70 13 0) from rfl] at hq2
  show am_Wp d 213 0 [some (Sum.inr (Sum.inr 70)), some (Sum.inl i), some (Sum.inl w)] [] (am_SH L, h, am_RR kp) Q
  refine (show _ = _ from bq_M_person_0 (by omega)).mpr ?_
  clear hv hQ hP hD
  generalize am_up h 70 13 0 = g at hq2 hv2 ⊢
  have hv := hv2
  have hQ := mv_Q hv
  have hP := mv_P hv
  have hD := mv_D hv
  unfold a_person at hq2
  simp (disch := first | exact hv | omega) only [bq_M_person_0, bq_M_person_10, bq_M_person_25, bq_M_person_22, bq_M_person_31, bq_M_person_76, bq_M_person_83, bq_M_person_90, bq_M_person_97, bq_M_person_103, bq_M_person_40, bq_M_person_102, bq_M_person_43, sp_M_isOne, sp_M_in, sp_M_purseOf, sp_M_refuse, Option.toList_some, Option.toList_none, List.cons_append, List.nil_append, am_bi0, am_bi1, am_bft, true_and, reduceCtorEq, or_false, false_or, or_true, true_or, am_gd, am_incn, am_lk_nat, Int.toNat_natCast, Int.reduceAdd, Int.reduceNeg, Int.reduceToNat]
  cases hi : v_isP (am_mv g) i
  · simp only [hi, if_true, reduceCtorEq, if_false, am_bi0, am_bi1] at hq2 ⊢
    first | exact hq2 | (simp_all; done)
  · have hi2 := v_isP_iff.1 hi
    dsimp only [vP, vQ, vD, vK, vF, vS, vU, vO, vH, vN, vE, vG, vT, am_mv, am_wv] at hi2
    simp (disch := omega) only [hi, reduceCtorEq, if_false, am_lk_in, am_gd] at hq2 ⊢
    revert hq2
    (repeat' split) <;> intro hq2 <;> first | exact hq2 | (exfalso; simp_all; omega) | (simp_all; done)
