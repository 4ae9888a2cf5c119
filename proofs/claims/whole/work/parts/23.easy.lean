/-! THE CALLS, those with little in them -/
theorem c_person {d L kp : Nat} {h : Nat → Nat → Int} {i w : Int} (hd : 4 ≤ d) (hv : v_ok (am_wv h 2)) : am_An L 41 (a_person (am_wv h 2) i w) h (fun Q => am_Wp d 44 0 [some (Sum.inr (Sum.inr 1)), some (Sum.inl i), some (Sum.inl w)] [] (am_SH L, h, am_RR kp) Q) := by
  have hQ := wv_Q hv
  have hP := wv_P hv
  have hD := wv_D hv
  intro Q hq
  have hq2 : Q (some (a_person (am_wv h 2) i w).1) (am_SH L, am_bump 41 (a_person (am_wv h 2) i w).2 h, am_RR kp) := hq _ kp am_keep_r
  show am_Wp d 44 0 [some (Sum.inr (Sum.inr 1)), some (Sum.inl i), some (Sum.inl w)] [] (am_SH L, h, am_RR kp) Q
  unfold a_person at hq2
  simp (disch := first | exact hv | omega) only [bq_KO_person_0, bq_KO_person_8, bq_KO_person_52, bq_KO_person_61, bq_KO_person_70, bq_KO_person_79, bq_KO_person_88, bq_KO_person_97, bq_KO_person_16, bq_KO_person_60, bq_KO_person_69, bq_KO_person_78, bq_KO_person_87, bq_KO_person_96, bq_KO_person_103, sp_World_isPerson_2, sp_KO_refuse, sp_World_kindOf_2, sp_World_figureOf_2, sp_World_kissedOf_2, sp_World_purseOf_2, sp_World_unwillingOf_2, Option.toList_some, Option.toList_none, List.cons_append, List.nil_append, am_bi0, am_bi1, am_bft, true_and, reduceCtorEq, or_false, false_or, or_true, true_or, am_gd, am_incn, am_lk_nat, Int.toNat_natCast, Int.reduceAdd, Int.reduceNeg, Int.reduceToNat]
  revert hq2
  (repeat' split) <;> intro hq2 <;> first | exact hq2 | (exfalso; omega) | (simp_all; done)

theorem m_person {d L kp : Nat} {h : Nat → Nat → Int} {i w : Int} (hd : 3 ≤ d) (hv : v_ok (am_mv h)) : am_An L 81 (a_person (am_mv h) i w) h (fun Q => am_Wp d 213 0 [some (Sum.inr (Sum.inr 70)), some (Sum.inl i), some (Sum.inl w)] [] (am_SH L, h, am_RR kp) Q) := by
  have hQ := mv_Q hv
  have hP := mv_P hv
  have hD := mv_D hv
  intro Q hq
  have hq2 : Q (some (a_person (am_mv h) i w).1) (am_SH L, am_bump 81 (a_person (am_mv h) i w).2 (am_up h 70 13 0), am_RR kp) := hq _ kp (am_keep_up rfl am_keep_r)
  clear hq
  have hv2 : v_ok (am_mv (am_up h 70 13 0)) := hv
  try rw [show am_mv h = am_mv (am_up h 70 13 0) from rfl] at hq2
  show am_Wp d 213 0 [some (Sum.inr (Sum.inr 70)), some (Sum.inl i), some (Sum.inl w)] [] (am_SH L, h, am_RR kp) Q
  refine (show _ = _ from bq_M_person_0 (by omega)).mpr ?_
  clear hv hQ hP hD
  generalize am_up h 70 13 0 = g at hq2 hv2 ⊢
  have hv := hv2
  have hQ := mv_Q hv
  have hP := mv_P hv
  have hD := mv_D hv
  unfold a_person at hq2
  simp (disch := first | exact hv | omega) only [bq_M_person_0, bq_M_person_10, bq_M_person_25, bq_M_person_22, bq_M_person_31, bq_M_person_76, bq_M_person_83, bq_M_person_90, bq_M_person_97, bq_M_person_103, bq_M_person_40, bq_M_person_102, bq_M_person_43, sp_M_isOne, sp_M_in, sp_M_purseOf, sp_M_refuse, Option.toList_some, Option.toList_none, List.cons_append, List.nil_append, am_bi0, am_bi1, am_bft, true_and, reduceCtorEq, or_false, false_or, or_true, true_or, am_gd, am_incn, am_lk_nat, Int.toNat_natCast, Int.reduceAdd, Int.reduceNeg, Int.reduceToNat]
  cases hi : v_isP (am_mv g) i
  · simp only [hi, if_true, reduceCtorEq, if_false, am_bi0, am_bi1, not_true_eq_false, not_false_eq_true] at hq2 ⊢
    first | exact hq2 | (simp_all; done)
  · have hi2 := v_isP_iff.1 hi
    dsimp only [vP, vQ, vD, vK, vF, vS, vU, vO, vH, vN, vE, vG, vT, am_mv, am_wv] at hi2
    simp (disch := first | exact hv | omega) only [hi, reduceCtorEq, if_false, am_lk_in, am_gd] at hq2 ⊢
    revert hq2
    (repeat' split) <;> intro hq2 <;> first | exact hq2 | (exfalso; simp_all; omega) | (simp_all; done)

theorem c_paper {d L kp : Nat} {h : Nat → Nat → Int} {i w : Int} (hd : 3 ≤ d) (hv : v_ok (am_wv h 2)) : am_An L 41 (a_paper (am_wv h 2) i w) h (fun Q => am_Wp d 51 0 [some (Sum.inr (Sum.inr 1)), some (Sum.inl i), some (Sum.inl w)] [] (am_SH L, h, am_RR kp) Q) := by
  have hQ := wv_Q hv
  have hP := wv_P hv
  have hD := wv_D hv
  intro Q hq
  have hq2 : Q (some (a_paper (am_wv h 2) i w).1) (am_SH L, am_bump 41 (a_paper (am_wv h 2) i w).2 h, am_RR kp) := hq _ kp am_keep_r
  show am_Wp d 51 0 [some (Sum.inr (Sum.inr 1)), some (Sum.inl i), some (Sum.inl w)] [] (am_SH L, h, am_RR kp) Q
  unfold a_paper at hq2
  simp (disch := first | exact hv | omega) only [bq_KO_paper_0, bq_KO_paper_8, bq_KO_paper_60, bq_KO_paper_69, bq_KO_paper_78, bq_KO_paper_87, bq_KO_paper_96, bq_KO_paper_105, bq_KO_paper_114, bq_KO_paper_123, bq_KO_paper_16, bq_KO_paper_68, bq_KO_paper_77, bq_KO_paper_86, bq_KO_paper_95, bq_KO_paper_104, bq_KO_paper_113, bq_KO_paper_122, bq_KO_paper_129, sp_World_isPaper_2, sp_KO_refuse, sp_World_debtorOf_2, sp_World_holderOf_2, sp_World_quartersOf_2, sp_World_dueOf_2, sp_World_forgedOf_2, sp_World_stateOf_2, sp_World_worthOf_2, Option.toList_some, Option.toList_none, List.cons_append, List.nil_append, am_bi0, am_bi1, am_bft, true_and, reduceCtorEq, or_false, false_or, or_true, true_or, am_gd, am_incn, am_lk_nat, Int.toNat_natCast, Int.reduceAdd, Int.reduceNeg, Int.reduceToNat]
  revert hq2
  (repeat' split) <;> intro hq2 <;> first | exact hq2 | (exfalso; omega) | (simp_all; done)

theorem m_paper {d L kp : Nat} {h : Nat → Nat → Int} {i w : Int} (hd : 2 ≤ d) (hv : v_ok (am_mv h)) : am_An L 81 (a_paper (am_mv h) i w) h (fun Q => am_Wp d 217 0 [some (Sum.inr (Sum.inr 70)), some (Sum.inl i), some (Sum.inl w)] [] (am_SH L, h, am_RR kp) Q) := by
  have hQ := mv_Q hv
  have hP := mv_P hv
  have hD := mv_D hv
  intro Q hq
  have hq2 : Q (some (a_paper (am_mv h) i w).1) (am_SH L, am_bump 81 (a_paper (am_mv h) i w).2 (am_up h 70 13 0), am_RR kp) := hq _ kp (am_keep_up rfl am_keep_r)
  clear hq
  have hv2 : v_ok (am_mv (am_up h 70 13 0)) := hv
  try rw [show am_mv h = am_mv (am_up h 70 13 0) from rfl] at hq2
  show am_Wp d 217 0 [some (Sum.inr (Sum.inr 70)), some (Sum.inl i), some (Sum.inl w)] [] (am_SH L, h, am_RR kp) Q
  refine (show _ = _ from bq_M_paper_0 (by omega)).mpr ?_
  clear hv hQ hP hD
  generalize am_up h 70 13 0 = g at hq2 hv2 ⊢
  have hv := hv2
  have hQ := mv_Q hv
  have hP := mv_P hv
  have hD := mv_D hv
  unfold a_paper at hq2
  simp (disch := first | exact hv | omega) only [bq_M_paper_0, bq_M_paper_10, bq_M_paper_25, bq_M_paper_22, bq_M_paper_31, bq_M_paper_84, bq_M_paper_91, bq_M_paper_98, bq_M_paper_105, bq_M_paper_112, bq_M_paper_119, bq_M_paper_126, bq_M_paper_40, bq_M_paper_131, bq_M_paper_43, sp_M_isPaper, sp_M_in, sp_M_worthOf, sp_M_refuse, Option.toList_some, Option.toList_none, List.cons_append, List.nil_append, am_bi0, am_bi1, am_bft, true_and, reduceCtorEq, or_false, false_or, or_true, true_or, am_gd, am_incn, am_lk_nat, Int.toNat_natCast, Int.reduceAdd, Int.reduceNeg, Int.reduceToNat]
  cases hi : v_isQ (am_mv g) i
  · simp only [hi, if_true, reduceCtorEq, if_false, am_bi0, am_bi1, not_true_eq_false, not_false_eq_true] at hq2 ⊢
    first | exact hq2 | (simp_all; done)
  · have hi2 := v_isQ_iff.1 hi
    dsimp only [vP, vQ, vD, vK, vF, vS, vU, vO, vH, vN, vE, vG, vT, am_mv, am_wv] at hi2
    simp (disch := first | exact hv | omega) only [hi, reduceCtorEq, if_false, am_lk_in, am_gd, bq_M_paper_0, bq_M_paper_10, bq_M_paper_25, bq_M_paper_22, bq_M_paper_31, bq_M_paper_84, bq_M_paper_91, bq_M_paper_98, bq_M_paper_105, bq_M_paper_112, bq_M_paper_119, bq_M_paper_126, bq_M_paper_40, bq_M_paper_131, bq_M_paper_43, sp_M_isPaper, sp_M_in, sp_M_worthOf, sp_M_refuse, Option.toList_some, Option.toList_none, List.cons_append, List.nil_append, am_bi0, am_bi1, am_bft, true_and, reduceCtorEq, or_false, false_or, or_true, true_or, am_gd, am_incn, am_lk_nat, Int.toNat_natCast] at hq2 ⊢
    revert hq2
    (repeat' split) <;> intro hq2 <;> first | exact hq2 | (exfalso; simp_all; omega) | (simp_all; done)

theorem lp_KO_heirs {d L kp : Nat} {h : Nat → Nat → Int} {Q : Option am_V → am_H → Prop} {i : Int} (hd : 3 ≤ d) (hv : v_ok (am_wv h 2)) : am_Wp d 155 21 [some (Sum.inr (Sum.inr 1)), some (Sum.inl (i)), some (Sum.inl (0)), some (Sum.inl (0))] [] (am_SH L, h, am_RR kp) Q = Q (some (Sum.inl (v_heirs (am_wv h 2) i))) (am_SH L, h, am_RR kp) := by
  have hQ := wv_Q hv
  have hP := wv_P hv
  have hD := wv_D hv
  refine am_up_eq (n := (h 2 1).toNat) (fun k => am_Wp d 155 21 [some (Sum.inr (Sum.inr 1)), some (Sum.inl (i)), some (Sum.inl (am_sumb k (fun p => if h 7 p = i then v_worth (am_wv h 2) (p : Int) else 0))), some (Sum.inl ((k : Int)))] [] (am_SH L, h, am_RR kp) Q) (Q (some (Sum.inl (v_heirs (am_wv h 2) i))) (am_SH L, h, am_RR kp)) (fun k hk => ?_) ?_
  · show am_Wp d 155 21 [some (Sum.inr (Sum.inr 1)), some (Sum.inl (i)), some (Sum.inl (am_sumb k (fun p => if h 7 p = i then v_worth (am_wv h 2) (p : Int) else 0))), some (Sum.inl ((k : Int)))] [] (am_SH L, h, am_RR kp) Q = am_Wp d 155 21 [some (Sum.inr (Sum.inr 1)), some (Sum.inl (i)), some (Sum.inl (am_sumb (k + 1) (fun p => if h 7 p = i then v_worth (am_wv h 2) (p : Int) else 0))), some (Sum.inl (((k + 1 : Nat) : Int)))] [] (am_SH L, h, am_RR kp) Q
    have hb := am_sumb_le (n := k) (g := fun p => if h 7 p = i then v_worth (am_wv h 2) (p : Int) else 0) (A := 0) (B := 40) (fun p hp => by
      have hp1 := wv_p hv p (by omega)
      have hq1 := wv_q hv p (by omega)
      have hw1 := wv_w hv p (by omega)
      have ho1 : v_open (am_wv h 2) (p : Int) = decide (h 12 p = 0) := v_open_nat hv (show (p : Int) < h 2 1 by omega)
      show 0 ≤ (if h 7 p = i then v_worth (am_wv h 2) (p : Int) else 0) ∧ (if h 7 p = i then v_worth (am_wv h 2) (p : Int) else 0) ≤ 40
      (repeat' split) <;> omega)
    have hp1 := wv_p hv k (by omega)
    have hq1 := wv_q hv k (by omega)
    have hw1 := wv_w hv k (by omega)
    have ho1 : v_open (am_wv h 2) (k : Int) = decide (h 12 k = 0) := v_open_nat hv (show (k : Int) < h 2 1 by omega)
    rw [am_sumb_s] 
    refine (bq_KO_heirs_21 (by omega)).trans ?_
    simp (disch := first | exact hv | omega) only [bq_KO_heirs_0, bq_KO_heirs_8, bq_KO_heirs_16, bq_KO_heirs_29, bq_KO_heirs_40, bq_KO_heirs_55, bq_KO_heirs_53, sp_World_isPerson_2, sp_KO_refuse, sp_World_papers_2, sp_World_debtorOf_2, sp_World_worthOf_2, Option.toList_some, Option.toList_none, List.cons_append, List.nil_append, am_bi0, am_bi1, am_bft, true_and, reduceCtorEq, or_false, false_or, or_true, true_or, am_gd, am_incn, am_lk_nat, Int.toNat_natCast, am_add_ok, ho1, decide_eq_false_iff_not, decide_eq_true_eq]
    rw [if_neg (by omega)]
    (repeat' split) <;> first | rfl | (simp_all; done) | omega
  · show am_Wp d 155 21 [some (Sum.inr (Sum.inr 1)), some (Sum.inl (i)), some (Sum.inl (am_sumb ((h 2 1).toNat) (fun p => if h 7 p = i then v_worth (am_wv h 2) (p : Int) else 0))), some (Sum.inl ((((h 2 1).toNat : Nat) : Int)))] [] (am_SH L, h, am_RR kp) Q = _
    refine (bq_KO_heirs_21 (by omega)).trans ?_
    simp (disch := first | exact hv | omega) only [bq_KO_heirs_0, bq_KO_heirs_8, bq_KO_heirs_16, bq_KO_heirs_29, bq_KO_heirs_40, bq_KO_heirs_55, bq_KO_heirs_53, sp_World_isPerson_2, sp_KO_refuse, sp_World_papers_2, sp_World_debtorOf_2, sp_World_worthOf_2, Option.toList_some, Option.toList_none, List.cons_append, List.nil_append, am_bi0, am_bi1, am_bft, true_and, reduceCtorEq, or_false, false_or, or_true, true_or, am_gd, am_incn, am_lk_nat, Int.toNat_natCast]
    rw [if_pos (by omega)]
    try rfl

theorem c_heirs {d L kp : Nat} {h : Nat → Nat → Int} {i : Int} (hd : 3 ≤ d) (hv : v_ok (am_wv h 2)) : am_An L 41 (a_heirs (am_wv h 2) i) h (fun Q => am_Wp d 155 0 [some (Sum.inr (Sum.inr 1)), some (Sum.inl i), none, none] [] (am_SH L, h, am_RR kp) Q) := by
  have hQ := wv_Q hv
  have hP := wv_P hv
  have hD := wv_D hv
  intro Q hq
  have hq2 : Q (some (a_heirs (am_wv h 2) i).1) (am_SH L, am_bump 41 (a_heirs (am_wv h 2) i).2 h, am_RR kp) := hq _ kp am_keep_r
  show am_Wp d 155 0 [some (Sum.inr (Sum.inr 1)), some (Sum.inl i), none, none] [] (am_SH L, h, am_RR kp) Q
  unfold a_heirs at hq2
  simp (disch := first | exact hv | omega) only [bq_KO_heirs_0, bq_KO_heirs_8, bq_KO_heirs_16, bq_KO_heirs_29, bq_KO_heirs_40, bq_KO_heirs_55, bq_KO_heirs_53, sp_World_isPerson_2, sp_KO_refuse, sp_World_papers_2, sp_World_debtorOf_2, sp_World_worthOf_2, lp_KO_heirs, Option.toList_some, Option.toList_none, List.cons_append, List.nil_append, am_bi0, am_bi1, am_bft, true_and, reduceCtorEq, or_false, false_or, or_true, true_or, am_gd, am_incn, am_lk_nat, Int.toNat_natCast, Int.reduceAdd, Int.reduceNeg, Int.reduceToNat]
  revert hq2
  (repeat' split) <;> intro hq2 <;> first | exact hq2 | (exfalso; omega) | (simp_all; done)

theorem lp_M_heirs {d L kp : Nat} {h : Nat → Nat → Int} {Q : Option am_V → am_H → Prop} {i : Int} (hd : 2 ≤ d) (hv : v_ok (am_mv h)) : am_Wp d 275 23 [some (Sum.inr (Sum.inr 70)), some (Sum.inl (i)), some (Sum.inl (0)), some (Sum.inl (0))] [] (am_SH L, h, am_RR kp) Q = Q (some (Sum.inl (v_heirs (am_mv h) i))) (am_SH L, h, am_RR kp) := by
  have hQ := mv_Q hv
  have hP := mv_P hv
  have hD := mv_D hv
  refine am_up_eq (n := (h 70 6).toNat) (fun k => am_Wp d 275 23 [some (Sum.inr (Sum.inr 70)), some (Sum.inl (i)), some (Sum.inl (am_sumb k (fun p => if h 75 p = i then v_worth (am_mv h) (p : Int) else 0))), some (Sum.inl ((k : Int)))] [] (am_SH L, h, am_RR kp) Q) (Q (some (Sum.inl (v_heirs (am_mv h) i))) (am_SH L, h, am_RR kp)) (fun k hk => ?_) ?_
  · show am_Wp d 275 23 [some (Sum.inr (Sum.inr 70)), some (Sum.inl (i)), some (Sum.inl (am_sumb k (fun p => if h 75 p = i then v_worth (am_mv h) (p : Int) else 0))), some (Sum.inl ((k : Int)))] [] (am_SH L, h, am_RR kp) Q = am_Wp d 275 23 [some (Sum.inr (Sum.inr 70)), some (Sum.inl (i)), some (Sum.inl (am_sumb (k + 1) (fun p => if h 75 p = i then v_worth (am_mv h) (p : Int) else 0))), some (Sum.inl (((k + 1 : Nat) : Int)))] [] (am_SH L, h, am_RR kp) Q
    have hb := am_sumb_le (n := k) (g := fun p => if h 75 p = i then v_worth (am_mv h) (p : Int) else 0) (A := 0) (B := 40) (fun p hp => by
      have hp1 := mv_p hv p (by omega)
      have hq1 := mv_q hv p (by omega)
      have hw1 := mv_w hv p (by omega)
      show 0 ≤ (if h 75 p = i then v_worth (am_mv h) (p : Int) else 0) ∧ (if h 75 p = i then v_worth (am_mv h) (p : Int) else 0) ≤ 40
      (repeat' split) <;> omega)
    have hp1 := mv_p hv k (by omega)
    have hq1 := mv_q hv k (by omega)
    have hw1 := mv_w hv k (by omega)
    rw [am_sumb_s] 
    refine (bq_M_heirs_23 (by omega)).trans ?_
    simp (disch := first | exact hv | omega) only [bq_M_heirs_0, bq_M_heirs_10, bq_M_heirs_18, bq_M_heirs_51, bq_M_heirs_47, sp_M_isOne, sp_M_refuse, sp_M_worthOf, Option.toList_some, Option.toList_none, List.cons_append, List.nil_append, am_bi0, am_bi1, am_bft, true_and, reduceCtorEq, or_false, false_or, or_true, true_or, am_gd, am_incn, am_lk_nat, Int.toNat_natCast, am_add_ok]
    rw [if_neg (by omega)]
    (repeat' split) <;> first | rfl | (simp_all; done) | omega
  · show am_Wp d 275 23 [some (Sum.inr (Sum.inr 70)), some (Sum.inl (i)), some (Sum.inl (am_sumb ((h 70 6).toNat) (fun p => if h 75 p = i then v_worth (am_mv h) (p : Int) else 0))), some (Sum.inl ((((h 70 6).toNat : Nat) : Int)))] [] (am_SH L, h, am_RR kp) Q = _
    refine (bq_M_heirs_23 (by omega)).trans ?_
    simp (disch := first | exact hv | omega) only [bq_M_heirs_0, bq_M_heirs_10, bq_M_heirs_18, bq_M_heirs_51, bq_M_heirs_47, sp_M_isOne, sp_M_refuse, sp_M_worthOf, Option.toList_some, Option.toList_none, List.cons_append, List.nil_append, am_bi0, am_bi1, am_bft, true_and, reduceCtorEq, or_false, false_or, or_true, true_or, am_gd, am_incn, am_lk_nat, Int.toNat_natCast]
    rw [if_pos (by omega)]
    try rfl

theorem m_heirs {d L kp : Nat} {h : Nat → Nat → Int} {i : Int} (hd : 2 ≤ d) (hv : v_ok (am_mv h)) : am_An L 81 (a_heirs (am_mv h) i) h (fun Q => am_Wp d 275 0 [some (Sum.inr (Sum.inr 70)), some (Sum.inl i), none, none] [] (am_SH L, h, am_RR kp) Q) := by
  have hQ := mv_Q hv
  have hP := mv_P hv
  have hD := mv_D hv
  intro Q hq
  have hq2 : Q (some (a_heirs (am_mv h) i).1) (am_SH L, am_bump 81 (a_heirs (am_mv h) i).2 (am_up h 70 13 0), am_RR kp) := hq _ kp (am_keep_up rfl am_keep_r)
  clear hq
  have hv2 : v_ok (am_mv (am_up h 70 13 0)) := hv
  try rw [show am_mv h = am_mv (am_up h 70 13 0) from rfl] at hq2
  show am_Wp d 275 0 [some (Sum.inr (Sum.inr 70)), some (Sum.inl i), none, none] [] (am_SH L, h, am_RR kp) Q
  refine (show _ = _ from bq_M_heirs_0 (by omega)).mpr ?_
  clear hv hQ hP hD
  generalize am_up h 70 13 0 = g at hq2 hv2 ⊢
  have hv := hv2
  have hQ := mv_Q hv
  have hP := mv_P hv
  have hD := mv_D hv
  unfold a_heirs at hq2
  simp (disch := first | exact hv | omega) only [bq_M_heirs_0, bq_M_heirs_10, bq_M_heirs_18, bq_M_heirs_51, bq_M_heirs_47, sp_M_isOne, sp_M_refuse, sp_M_worthOf, lp_M_heirs, Option.toList_some, Option.toList_none, List.cons_append, List.nil_append, am_bi0, am_bi1, am_bft, true_and, reduceCtorEq, or_false, false_or, or_true, true_or, am_gd, am_incn, am_lk_nat, Int.toNat_natCast, Int.reduceAdd, Int.reduceNeg, Int.reduceToNat]
  revert hq2
  (repeat' split) <;> intro hq2 <;> first | exact hq2 | (exfalso; omega) | (simp_all; done)

theorem lp_KO_last {d L kp : Nat} {h : Nat → Nat → Int} {Q : Option am_V → am_H → Prop} (hd : 2 ≤ d) (hv : v_ok (am_wv h 2)) : am_Wp d 151 5 [some (Sum.inr (Sum.inr 1)), some (Sum.inl (-9)), some (Sum.inl (0))] [] (am_SH L, h, am_RR kp) Q = Q (some (Sum.inl (v_lastf (am_wv h 2) (h 2 1).toNat))) (am_SH L, h, am_RR kp) := by
  have hQ := wv_Q hv
  have hP := wv_P hv
  have hD := wv_D hv
  refine am_up_eq (n := (h 2 1).toNat) (fun k => am_Wp d 151 5 [some (Sum.inr (Sum.inr 1)), some (Sum.inl (v_lastf (am_wv h 2) k)), some (Sum.inl ((k : Int)))] [] (am_SH L, h, am_RR kp) Q) (Q (some (Sum.inl (v_lastf (am_wv h 2) (h 2 1).toNat))) (am_SH L, h, am_RR kp)) (fun k hk => ?_) ?_
  · show am_Wp d 151 5 [some (Sum.inr (Sum.inr 1)), some (Sum.inl (v_lastf (am_wv h 2) k)), some (Sum.inl ((k : Int)))] [] (am_SH L, h, am_RR kp) Q = am_Wp d 151 5 [some (Sum.inr (Sum.inr 1)), some (Sum.inl (v_lastf (am_wv h 2) (k + 1))), some (Sum.inl (((k + 1 : Nat) : Int)))] [] (am_SH L, h, am_RR kp) Q
    have hp1 := wv_p hv k (by omega)
    have hq1 := wv_q hv k (by omega)
    have hw1 := wv_w hv k (by omega)
    have ho1 : v_open (am_wv h 2) (k : Int) = decide (h 12 k = 0) := v_open_nat hv (show (k : Int) < h 2 1 by omega)
    rw [v_lastf_s] 
    refine (bq_KO_last_5 (by omega)).trans ?_
    simp (disch := first | exact hv | omega) only [bq_KO_last_0, bq_KO_last_13, bq_KO_last_24, bq_KO_last_40, bq_KO_last_36, sp_World_papers_2, sp_World_isOpen_2, sp_World_dueOf_2, Option.toList_some, Option.toList_none, List.cons_append, List.nil_append, am_bi0, am_bi1, am_bft, true_and, reduceCtorEq, or_false, false_or, or_true, true_or, am_gd, am_incn, am_lk_nat, Int.toNat_natCast, ho1, decide_eq_false_iff_not, decide_eq_true_eq, am_max]
    rw [if_neg (by omega)]
    (repeat' split) <;> first | rfl | (simp_all; done) | omega
  · show am_Wp d 151 5 [some (Sum.inr (Sum.inr 1)), some (Sum.inl (v_lastf (am_wv h 2) ((h 2 1).toNat))), some (Sum.inl ((((h 2 1).toNat : Nat) : Int)))] [] (am_SH L, h, am_RR kp) Q = _
    refine (bq_KO_last_5 (by omega)).trans ?_
    simp (disch := first | exact hv | omega) only [bq_KO_last_0, bq_KO_last_13, bq_KO_last_24, bq_KO_last_40, bq_KO_last_36, sp_World_papers_2, sp_World_isOpen_2, sp_World_dueOf_2, Option.toList_some, Option.toList_none, List.cons_append, List.nil_append, am_bi0, am_bi1, am_bft, true_and, reduceCtorEq, or_false, false_or, or_true, true_or, am_gd, am_incn, am_lk_nat, Int.toNat_natCast]
    rw [if_pos (by omega)]
    try rfl

theorem c_last {d L kp : Nat} {h : Nat → Nat → Int} (hd : 2 ≤ d) (hv : v_ok (am_wv h 2)) : am_An L 41 (a_last (am_wv h 2)) h (fun Q => am_Wp d 151 0 [some (Sum.inr (Sum.inr 1)), none, none] [] (am_SH L, h, am_RR kp) Q) := by
  have hQ := wv_Q hv
  have hP := wv_P hv
  have hD := wv_D hv
  intro Q hq
  have hq2 : Q (some (a_last (am_wv h 2)).1) (am_SH L, am_bump 41 (a_last (am_wv h 2)).2 h, am_RR kp) := hq _ kp am_keep_r
  show am_Wp d 151 0 [some (Sum.inr (Sum.inr 1)), none, none] [] (am_SH L, h, am_RR kp) Q
  unfold a_last at hq2
  simp (disch := first | exact hv | omega) only [bq_KO_last_0, bq_KO_last_13, bq_KO_last_24, bq_KO_last_40, bq_KO_last_36, sp_World_papers_2, sp_World_isOpen_2, sp_World_dueOf_2, lp_KO_last, Option.toList_some, Option.toList_none, List.cons_append, List.nil_append, am_bi0, am_bi1, am_bft, true_and, reduceCtorEq, or_false, false_or, or_true, true_or, am_gd, am_incn, am_lk_nat, Int.toNat_natCast, Int.reduceAdd, Int.reduceNeg, Int.reduceToNat]
  revert hq2
  (repeat' split) <;> intro hq2 <;> first | exact hq2 | (exfalso; omega) | (simp_all; done)

theorem lp_M_last {d L kp : Nat} {h : Nat → Nat → Int} {Q : Option am_V → am_H → Prop} (hv : v_ok (am_mv h)) : am_Wp d 272 10 [some (Sum.inr (Sum.inr 70)), some (Sum.inl (-9)), some (Sum.inl (0))] [] (am_SH L, h, am_RR kp) Q = Q (some (Sum.inl (v_lastf (am_mv h) (h 70 6).toNat))) (am_SH L, h, am_RR kp) := by
  have hQ := mv_Q hv
  have hP := mv_P hv
  have hD := mv_D hv
  refine am_up_eq (n := (h 70 6).toNat) (fun k => am_Wp d 272 10 [some (Sum.inr (Sum.inr 70)), some (Sum.inl (v_lastf (am_mv h) k)), some (Sum.inl ((k : Int)))] [] (am_SH L, h, am_RR kp) Q) (Q (some (Sum.inl (v_lastf (am_mv h) (h 70 6).toNat))) (am_SH L, h, am_RR kp)) (fun k hk => ?_) ?_
  · show am_Wp d 272 10 [some (Sum.inr (Sum.inr 70)), some (Sum.inl (v_lastf (am_mv h) k)), some (Sum.inl ((k : Int)))] [] (am_SH L, h, am_RR kp) Q = am_Wp d 272 10 [some (Sum.inr (Sum.inr 70)), some (Sum.inl (v_lastf (am_mv h) (k + 1))), some (Sum.inl (((k + 1 : Nat) : Int)))] [] (am_SH L, h, am_RR kp) Q
    have hp1 := mv_p hv k (by omega)
    have hq1 := mv_q hv k (by omega)
    have hw1 := mv_w hv k (by omega)
    rw [show v_lastf (am_mv h) (k + 1) = if h 80 k = 0 ∧ v_lastf (am_mv h) k < h 78 k then h 78 k else v_lastf (am_mv h) k from rfl] 
    refine (bq_M_last_10 ).trans ?_
    simp (disch := first | exact hv | omega) only [bq_M_last_0, bq_M_last_46, bq_M_last_47, Option.toList_some, Option.toList_none, List.cons_append, List.nil_append, am_bi0, am_bi1, am_bft, true_and, reduceCtorEq, or_false, false_or, or_true, true_or, am_gd, am_incn, am_lk_nat, Int.toNat_natCast]
    rw [if_neg (by omega)]
    (repeat' split) <;> first | rfl | (simp_all; done) | omega
  · show am_Wp d 272 10 [some (Sum.inr (Sum.inr 70)), some (Sum.inl (v_lastf (am_mv h) ((h 70 6).toNat))), some (Sum.inl ((((h 70 6).toNat : Nat) : Int)))] [] (am_SH L, h, am_RR kp) Q = _
    refine (bq_M_last_10 ).trans ?_
    simp (disch := first | exact hv | omega) only [bq_M_last_0, bq_M_last_46, bq_M_last_47, Option.toList_some, Option.toList_none, List.cons_append, List.nil_append, am_bi0, am_bi1, am_bft, true_and, reduceCtorEq, or_false, false_or, or_true, true_or, am_gd, am_incn, am_lk_nat, Int.toNat_natCast]
    rw [if_pos (by omega)]
    try rfl

theorem m_last {d L kp : Nat} {h : Nat → Nat → Int} (hv : v_ok (am_mv h)) : am_An L 81 (a_last (am_mv h)) h (fun Q => am_Wp d 272 0 [some (Sum.inr (Sum.inr 70)), none, none] [] (am_SH L, h, am_RR kp) Q) := by
  have hQ := mv_Q hv
  have hP := mv_P hv
  have hD := mv_D hv
  intro Q hq
  have hq2 : Q (some (a_last (am_mv h)).1) (am_SH L, am_bump 81 (a_last (am_mv h)).2 (am_up h 70 13 0), am_RR kp) := hq _ kp (am_keep_up rfl am_keep_r)
  clear hq
  have hv2 : v_ok (am_mv (am_up h 70 13 0)) := hv
  try rw [show am_mv h = am_mv (am_up h 70 13 0) from rfl] at hq2
  show am_Wp d 272 0 [some (Sum.inr (Sum.inr 70)), none, none] [] (am_SH L, h, am_RR kp) Q
  refine (show _ = _ from bq_M_last_0 ).mpr ?_
  clear hv hQ hP hD
  generalize am_up h 70 13 0 = g at hq2 hv2 ⊢
  have hv := hv2
  have hQ := mv_Q hv
  have hP := mv_P hv
  have hD := mv_D hv
  unfold a_last at hq2
  simp (disch := first | exact hv | omega) only [bq_M_last_0, bq_M_last_46, bq_M_last_47, lp_M_last, Option.toList_some, Option.toList_none, List.cons_append, List.nil_append, am_bi0, am_bi1, am_bft, true_and, reduceCtorEq, or_false, false_or, or_true, true_or, am_gd, am_incn, am_lk_nat, Int.toNat_natCast, Int.reduceAdd, Int.reduceNeg, Int.reduceToNat]
  revert hq2
  (repeat' split) <;> intro hq2 <;> first | exact hq2 | (exfalso; omega) | (simp_all; done)

theorem lp_KO_insiders {d L kp : Nat} {h : Nat → Nat → Int} {Q : Option am_V → am_H → Prop} (hd : 2 ≤ d) (hv : v_ok (am_wv h 2)) : am_Wp d 125 4 [some (Sum.inr (Sum.inr 2)), some (Sum.inl (0)), some (Sum.inl (0))] [] (am_SH L, h, am_RR kp) Q = Q (some (Sum.inl (((v_ins (am_wv h 2) (h 2 1).toNat : Nat) : Int)))) (am_SH L, h, am_RR kp) := by
  have hQ := wv_Q hv
  have hP := wv_P hv
  have hD := wv_D hv
  refine am_up_eq (n := (h 2 1).toNat) (fun k => am_Wp d 125 4 [some (Sum.inr (Sum.inr 2)), some (Sum.inl (((v_ins (am_wv h 2) k : Nat) : Int))), some (Sum.inl ((k : Int)))] [] (am_SH L, h, am_RR kp) Q) (Q (some (Sum.inl (((v_ins (am_wv h 2) (h 2 1).toNat : Nat) : Int)))) (am_SH L, h, am_RR kp)) (fun k hk => ?_) ?_
  · show am_Wp d 125 4 [some (Sum.inr (Sum.inr 2)), some (Sum.inl (((v_ins (am_wv h 2) k : Nat) : Int))), some (Sum.inl ((k : Int)))] [] (am_SH L, h, am_RR kp) Q = am_Wp d 125 4 [some (Sum.inr (Sum.inr 2)), some (Sum.inl (((v_ins (am_wv h 2) (k + 1) : Nat) : Int))), some (Sum.inl (((k + 1 : Nat) : Int)))] [] (am_SH L, h, am_RR kp) Q
    have hp1 := wv_p hv k (by omega)
    have hq1 := wv_q hv k (by omega)
    have hw1 := wv_w hv k (by omega)
    have ho1 : v_open (am_wv h 2) (k : Int) = decide (h 12 k = 0) := v_open_nat hv (show (k : Int) < h 2 1 by omega)
    rw [v_ins_s hv (show k < 16 by omega)] 
    refine (bq_KO_insiders_4 (by omega)).trans ?_
    simp (disch := first | exact hv | omega) only [bq_KO_insiders_0, bq_KO_insiders_9, bq_KO_insiders_17, bq_KO_insiders_38, bq_KO_insiders_27, bq_KO_insiders_34, sp_World_papers_2, sp_World_isOpen_2, sp_World_debtorOf_2, sp_World_holderOf_2, Option.toList_some, Option.toList_none, List.cons_append, List.nil_append, am_bi0, am_bi1, am_bft, true_and, reduceCtorEq, or_false, false_or, or_true, true_or, am_gd, am_incn, am_lk_nat, Int.toNat_natCast, ho1, decide_eq_false_iff_not, decide_eq_true_eq]
    rw [if_neg (by omega)]
    (repeat' split) <;> first | rfl | (simp_all; done) | omega
  · show am_Wp d 125 4 [some (Sum.inr (Sum.inr 2)), some (Sum.inl (((v_ins (am_wv h 2) ((h 2 1).toNat) : Nat) : Int))), some (Sum.inl ((((h 2 1).toNat : Nat) : Int)))] [] (am_SH L, h, am_RR kp) Q = _
    refine (bq_KO_insiders_4 (by omega)).trans ?_
    simp (disch := first | exact hv | omega) only [bq_KO_insiders_0, bq_KO_insiders_9, bq_KO_insiders_17, bq_KO_insiders_38, bq_KO_insiders_27, bq_KO_insiders_34, sp_World_papers_2, sp_World_isOpen_2, sp_World_debtorOf_2, sp_World_holderOf_2, Option.toList_some, Option.toList_none, List.cons_append, List.nil_append, am_bi0, am_bi1, am_bft, true_and, reduceCtorEq, or_false, false_or, or_true, true_or, am_gd, am_incn, am_lk_nat, Int.toNat_natCast]
    rw [if_pos (by omega)]
    try rfl

theorem sp_KO_insiders {d L kp : Nat} {h : Nat → Nat → Int} {Q : Option am_V → am_H → Prop} (hd : 2 ≤ d) (hv : v_ok (am_wv h 2)) : am_Wp d 125 0 [some (Sum.inr (Sum.inr 2)), none, none] [] (am_SH L, h, am_RR kp) Q = Q (some (Sum.inl (((v_ins (am_wv h 2) (h 2 1).toNat : Nat) : Int)))) (am_SH L, h, am_RR kp) := by
  rw [bq_KO_insiders_0]
  exact lp_KO_insiders hd hv

theorem c_inIt {d L kp : Nat} {h : Nat → Nat → Int} (hd : 3 ≤ d) (hv : v_ok (am_wv h 2)) : am_An L 41 (a_inIt (am_wv h 2)) h (fun Q => am_Wp d 124 0 [some (Sum.inr (Sum.inr 1))] [] (am_SH L, h, am_RR kp) Q) := by
  have hQ := wv_Q hv
  have hP := wv_P hv
  have hD := wv_D hv
  intro Q hq
  have hq2 : Q (some (a_inIt (am_wv h 2)).1) (am_SH L, am_bump 41 (a_inIt (am_wv h 2)).2 h, am_RR kp) := hq _ kp am_keep_r
  show am_Wp d 124 0 [some (Sum.inr (Sum.inr 1))] [] (am_SH L, h, am_RR kp) Q
  unfold a_inIt at hq2
  simp (disch := first | exact hv | omega) only [bq_KO_inIt_0, bq_KO_inIt_7, sp_KO_insiders, Option.toList_some, Option.toList_none, List.cons_append, List.nil_append, am_bi0, am_bi1, am_bft, true_and, reduceCtorEq, or_false, false_or, or_true, true_or, am_gd, am_incn, am_lk_nat, Int.toNat_natCast, Int.reduceAdd, Int.reduceNeg, Int.reduceToNat]
  revert hq2
  (repeat' split) <;> intro hq2 <;> first | exact hq2 | (exfalso; omega) | (simp_all; done)

theorem lp_M_inBits {d L kp : Nat} {h : Nat → Nat → Int} {Q : Option am_V → am_H → Prop} (hv : v_ok (am_mv h)) : am_Wp d 256 4 [some (Sum.inr (Sum.inr 70)), some (Sum.inl (0)), some (Sum.inl (0))] [] (am_SH L, h, am_RR kp) Q = Q (some (Sum.inl (((v_ins (am_mv h) (h 70 6).toNat : Nat) : Int)))) (am_SH L, h, am_RR kp) := by
  have hQ := mv_Q hv
  have hP := mv_P hv
  have hD := mv_D hv
  refine am_up_eq (n := (h 70 6).toNat) (fun k => am_Wp d 256 4 [some (Sum.inr (Sum.inr 70)), some (Sum.inl (((v_ins (am_mv h) k : Nat) : Int))), some (Sum.inl ((k : Int)))] [] (am_SH L, h, am_RR kp) Q) (Q (some (Sum.inl (((v_ins (am_mv h) (h 70 6).toNat : Nat) : Int)))) (am_SH L, h, am_RR kp)) (fun k hk => ?_) ?_
  · show am_Wp d 256 4 [some (Sum.inr (Sum.inr 70)), some (Sum.inl (((v_ins (am_mv h) k : Nat) : Int))), some (Sum.inl ((k : Int)))] [] (am_SH L, h, am_RR kp) Q = am_Wp d 256 4 [some (Sum.inr (Sum.inr 70)), some (Sum.inl (((v_ins (am_mv h) (k + 1) : Nat) : Int))), some (Sum.inl (((k + 1 : Nat) : Int)))] [] (am_SH L, h, am_RR kp) Q
    have hp1 := mv_p hv k (by omega)
    have hq1 := mv_q hv k (by omega)
    have hw1 := mv_w hv k (by omega)
    have hl := v_ins_lt hv (n := k) (by omega)
    have e0 : am_or ((v_ins (am_mv h) k : Nat) : Int) 0 = ((v_ins (am_mv h) k : Nat) : Int) := am_or_0 ⟨by omega, by omega⟩
    rw [v_ins_s hv (show k < 16 by omega)] 
    refine (bq_M_inBits_4 ).trans ?_
    simp (disch := first | exact hv | omega) only [bq_M_inBits_0, bq_M_inBits_43, Option.toList_some, Option.toList_none, List.cons_append, List.nil_append, am_bi0, am_bi1, am_bft, true_and, reduceCtorEq, or_false, false_or, or_true, true_or, am_gd, am_incn, am_lk_nat, Int.toNat_natCast, e0]
    rw [if_neg (by omega)]
    (repeat' split) <;> first | rfl | (simp_all; done) | omega
  · show am_Wp d 256 4 [some (Sum.inr (Sum.inr 70)), some (Sum.inl (((v_ins (am_mv h) ((h 70 6).toNat) : Nat) : Int))), some (Sum.inl ((((h 70 6).toNat : Nat) : Int)))] [] (am_SH L, h, am_RR kp) Q = _
    refine (bq_M_inBits_4 ).trans ?_
    simp (disch := first | exact hv | omega) only [bq_M_inBits_0, bq_M_inBits_43, Option.toList_some, Option.toList_none, List.cons_append, List.nil_append, am_bi0, am_bi1, am_bft, true_and, reduceCtorEq, or_false, false_or, or_true, true_or, am_gd, am_incn, am_lk_nat, Int.toNat_natCast]
    rw [if_pos (by omega)]
    try rfl

theorem sp_M_inBits {d L kp : Nat} {h : Nat → Nat → Int} {Q : Option am_V → am_H → Prop} (hv : v_ok (am_mv h)) : am_Wp d 256 0 [some (Sum.inr (Sum.inr 70)), none, none] [] (am_SH L, h, am_RR kp) Q = Q (some (Sum.inl (((v_ins (am_mv h) (h 70 6).toNat : Nat) : Int)))) (am_SH L, h, am_RR kp) := by
  rw [bq_M_inBits_0]
  exact lp_M_inBits hv

theorem m_inIt {d L kp : Nat} {h : Nat → Nat → Int} (hd : 1 ≤ d) (hv : v_ok (am_mv h)) : am_An L 81 (a_inIt (am_mv h)) h (fun Q => am_Wp d 255 0 [some (Sum.inr (Sum.inr 70))] [] (am_SH L, h, am_RR kp) Q) := by
  have hQ := mv_Q hv
  have hP := mv_P hv
  have hD := mv_D hv
  intro Q hq
  have hq2 : Q (some (a_inIt (am_mv h)).1) (am_SH L, am_bump 81 (a_inIt (am_mv h)).2 (am_up h 70 13 0), am_RR kp) := hq _ kp (am_keep_up rfl am_keep_r)
  clear hq
  have hv2 : v_ok (am_mv (am_up h 70 13 0)) := hv
  try rw [show am_mv h = am_mv (am_up h 70 13 0) from rfl] at hq2
  show am_Wp d 255 0 [some (Sum.inr (Sum.inr 70))] [] (am_SH L, h, am_RR kp) Q
  refine (show _ = _ from bq_M_inIt_0 (by omega)).mpr ?_
  clear hv hQ hP hD
  generalize am_up h 70 13 0 = g at hq2 hv2 ⊢
  have hv := hv2
  have hQ := mv_Q hv
  have hP := mv_P hv
  have hD := mv_D hv
  unfold a_inIt at hq2
  simp (disch := first | exact hv | omega) only [bq_M_inIt_0, bq_M_inIt_9, sp_M_inBits, Option.toList_some, Option.toList_none, List.cons_append, List.nil_append, am_bi0, am_bi1, am_bft, true_and, reduceCtorEq, or_false, false_or, or_true, true_or, am_gd, am_incn, am_lk_nat, Int.toNat_natCast, Int.reduceAdd, Int.reduceNeg, Int.reduceToNat]
  revert hq2
  (repeat' split) <;> intro hq2 <;> first | exact hq2 | (exfalso; omega) | (simp_all; done)
