/-! THE CALLS bestBuy, stuck, looks -/
theorem lp_KO_bestBuy {d L kp : Nat} {h : Nat → Nat → Int} {Q : Option am_V → am_H → Prop} {i : Int} (j : Option am_V) (hd : 4 ≤ d) (hv : v_ok (am_wv h 2)) : am_Wp d 109 25 [some (Sum.inr (Sum.inr 1)), some (Sum.inl (i)), some (Sum.inl ((v_best (am_wv h 2) i 0).1)), some (Sum.inl ((v_best (am_wv h 2) i 0).2)), some (Sum.inl (0)), j] [] (am_SH L, h, am_RR kp) Q = Q (some (Sum.inl ((v_best (am_wv h 2) i (h 2 0).toNat).1))) (am_SH L, h, am_RR kp) := by
  have hQ := wv_Q hv
  have hP := wv_P hv
  have hD := wv_D hv
  refine am_dn_eq (J := Option am_V) (n := (h 2 0).toNat) (fun k j => am_Wp d 109 25 [some (Sum.inr (Sum.inr 1)), some (Sum.inl (i)), some (Sum.inl ((v_best (am_wv h 2) i k).1)), some (Sum.inl ((v_best (am_wv h 2) i k).2)), some (Sum.inl ((k : Int))), j] [] (am_SH L, h, am_RR kp) Q) (Q (some (Sum.inl ((v_best (am_wv h 2) i (h 2 0).toNat).1))) (am_SH L, h, am_RR kp)) (fun k hk ih j => ?_) (fun j => ?_) j
  · have ih2 : ∀ j, am_Wp d 109 25 [some (Sum.inr (Sum.inr 1)), some (Sum.inl (i)), some (Sum.inl ((v_best (am_wv h 2) i (k + 1)).1)), some (Sum.inl ((v_best (am_wv h 2) i (k + 1)).2)), some (Sum.inl (((k + 1 : Nat) : Int))), j] [] (am_SH L, h, am_RR kp) Q = Q (some (Sum.inl ((v_best (am_wv h 2) i (h 2 0).toNat).1))) (am_SH L, h, am_RR kp) := ih
    clear ih
    show am_Wp d 109 25 [some (Sum.inr (Sum.inr 1)), some (Sum.inl (i)), some (Sum.inl ((v_best (am_wv h 2) i k).1)), some (Sum.inl ((v_best (am_wv h 2) i k).2)), some (Sum.inl ((k : Int))), j] [] (am_SH L, h, am_RR kp) Q = _
    skip
    rw [v_best_s] at ih2
    refine (bq_KO_bestBuy_25 (by omega)).trans ?_
    simp (disch := first | exact hv | omega) only [bq_KO_bestBuy_0, bq_KO_bestBuy_8, bq_KO_bestBuy_16, bq_KO_bestBuy_34, bq_KO_bestBuy_57, bq_KO_bestBuy_71, sp_World_isPerson_2, sp_KO_refuse, sp_World_people_2, sp_KO_gainBy, Option.toList_some, Option.toList_none, List.cons_append, List.nil_append, am_bi0, am_bi1, am_bft, true_and, reduceCtorEq, or_false, false_or, or_true, true_or, am_gd, am_incn, am_lk_nat, Int.toNat_natCast, ↓reduceIte, Int.reduceEq]
    rw [if_neg (by omega)]
    revert ih2
    (repeat' split) <;> intro ih2 <;> first | exact ih2 _ | (simp_all; done) | omega
  · show am_Wp d 109 25 [some (Sum.inr (Sum.inr 1)), some (Sum.inl (i)), some (Sum.inl ((v_best (am_wv h 2) i ((h 2 0).toNat)).1)), some (Sum.inl ((v_best (am_wv h 2) i ((h 2 0).toNat)).2)), some (Sum.inl ((((h 2 0).toNat : Nat) : Int))), j] [] (am_SH L, h, am_RR kp) Q = _
    refine (bq_KO_bestBuy_25 (by omega)).trans ?_
    simp (disch := first | exact hv | omega) only [bq_KO_bestBuy_0, bq_KO_bestBuy_8, bq_KO_bestBuy_16, bq_KO_bestBuy_34, bq_KO_bestBuy_57, bq_KO_bestBuy_71, sp_World_isPerson_2, sp_KO_refuse, sp_World_people_2, sp_KO_gainBy, Option.toList_some, Option.toList_none, List.cons_append, List.nil_append, am_bi0, am_bi1, am_bft, true_and, reduceCtorEq, or_false, false_or, or_true, true_or, am_gd, am_incn, am_lk_nat, Int.toNat_natCast, ↓reduceIte, Int.reduceEq]
    rw [if_pos (by omega)]
    try rfl

theorem c_bestBuy {d L kp : Nat} {h : Nat → Nat → Int} {i : Int} (hd : 4 ≤ d) (hv : v_ok (am_wv h 2)) : am_An L 41 (a_bestBuy (am_wv h 2) i) h (fun Q => am_Wp d 109 0 [some (Sum.inr (Sum.inr 1)), some (Sum.inl i), none, none, none, none] [] (am_SH L, h, am_RR kp) Q) := by
  have hQ := wv_Q hv
  have hP := wv_P hv
  have hD := wv_D hv
  intro Q hq
  have hq2 : Q (some (a_bestBuy (am_wv h 2) i).1) (am_SH L, am_bump 41 (a_bestBuy (am_wv h 2) i).2 h, am_RR kp) := hq _ kp am_keep_r
  show am_Wp d 109 0 [some (Sum.inr (Sum.inr 1)), some (Sum.inl i), none, none, none, none] [] (am_SH L, h, am_RR kp) Q
  unfold a_bestBuy at hq2
  simp (disch := first | exact hv | omega) only [bq_KO_bestBuy_0, bq_KO_bestBuy_8, bq_KO_bestBuy_16, bq_KO_bestBuy_34, bq_KO_bestBuy_57, bq_KO_bestBuy_71, sp_World_isPerson_2, sp_KO_refuse, sp_World_people_2, sp_KO_gainBy, Option.toList_some, Option.toList_none, List.cons_append, List.nil_append, am_bi0, am_bi1, am_bft, true_and, reduceCtorEq, or_false, false_or, or_true, true_or, am_gd, am_incn, am_lk_nat, Int.toNat_natCast, ↓reduceIte, Int.reduceEq, Int.reduceAdd, Int.reduceNeg, Int.reduceToNat]
  cases hi : v_isP (am_wv h 2) i
  · simp only [hi, if_true, reduceCtorEq, if_false] at hq2 ⊢
    first | exact hq2 | (simp_all; done)
  · have hi2 := v_isP_iff.1 hi
    dsimp only [vP, vQ, vD, vK, vF, vS, vU, vO, vH, vN, vE, vG, vT, am_mv, am_wv] at hi2
    simp only [hi, if_true, reduceCtorEq, if_false] at hq2 ⊢
    refine (lp_KO_bestBuy none (by omega) hv).mpr ?_
    exact hq2

theorem lp_M_bestBuy {d L kp : Nat} {h : Nat → Nat → Int} {Q : Option am_V → am_H → Prop} {i : Int} (j : Option am_V) (hd : 3 ≤ d) (hv : v_ok (am_mv h)) (h0i : 0 ≤ i) (h1i : i < 7) : am_Wp d 246 27 [some (Sum.inr (Sum.inr 70)), some (Sum.inl (i)), some (Sum.inl ((v_best (am_mv h) i 0).1)), some (Sum.inl ((v_best (am_mv h) i 0).2)), some (Sum.inl (0)), j] [] (am_SH L, h, am_RR kp) Q = Q (some (Sum.inl ((v_best (am_mv h) i (h 70 0).toNat).1))) (am_SH L, h, am_RR kp) := by
  have hQ := mv_Q hv
  have hP := mv_P hv
  have hD := mv_D hv
  refine am_dn_eq (J := Option am_V) (n := (h 70 0).toNat) (fun k j => am_Wp d 246 27 [some (Sum.inr (Sum.inr 70)), some (Sum.inl (i)), some (Sum.inl ((v_best (am_mv h) i k).1)), some (Sum.inl ((v_best (am_mv h) i k).2)), some (Sum.inl ((k : Int))), j] [] (am_SH L, h, am_RR kp) Q) (Q (some (Sum.inl ((v_best (am_mv h) i (h 70 0).toNat).1))) (am_SH L, h, am_RR kp)) (fun k hk ih j => ?_) (fun j => ?_) j
  · have ih2 : ∀ j, am_Wp d 246 27 [some (Sum.inr (Sum.inr 70)), some (Sum.inl (i)), some (Sum.inl ((v_best (am_mv h) i (k + 1)).1)), some (Sum.inl ((v_best (am_mv h) i (k + 1)).2)), some (Sum.inl (((k + 1 : Nat) : Int))), j] [] (am_SH L, h, am_RR kp) Q = Q (some (Sum.inl ((v_best (am_mv h) i (h 70 0).toNat).1))) (am_SH L, h, am_RR kp) := ih
    clear ih
    show am_Wp d 246 27 [some (Sum.inr (Sum.inr 70)), some (Sum.inl (i)), some (Sum.inl ((v_best (am_mv h) i k).1)), some (Sum.inl ((v_best (am_mv h) i k).2)), some (Sum.inl ((k : Int))), j] [] (am_SH L, h, am_RR kp) Q = _
    skip
    rw [v_best_s] at ih2
    refine (bq_M_bestBuy_27 (by omega)).trans ?_
    simp (disch := first | exact hv | omega) only [bq_M_bestBuy_0, bq_M_bestBuy_10, bq_M_bestBuy_18, bq_M_bestBuy_53, bq_M_bestBuy_67, bq_M_bestBuy_80, sp_M_isOne, sp_M_refuse, sp_M_gainOf, Option.toList_some, Option.toList_none, List.cons_append, List.nil_append, am_bi0, am_bi1, am_bft, true_and, reduceCtorEq, or_false, false_or, or_true, true_or, am_gd, am_incn, am_lk_nat, Int.toNat_natCast, ↓reduceIte, Int.reduceEq]
    rw [if_neg (by omega)]
    revert ih2
    (repeat' split) <;> intro ih2 <;> first | exact ih2 _ | (simp_all; done) | omega
  · show am_Wp d 246 27 [some (Sum.inr (Sum.inr 70)), some (Sum.inl (i)), some (Sum.inl ((v_best (am_mv h) i ((h 70 0).toNat)).1)), some (Sum.inl ((v_best (am_mv h) i ((h 70 0).toNat)).2)), some (Sum.inl ((((h 70 0).toNat : Nat) : Int))), j] [] (am_SH L, h, am_RR kp) Q = _
    refine (bq_M_bestBuy_27 (by omega)).trans ?_
    simp (disch := first | exact hv | omega) only [bq_M_bestBuy_0, bq_M_bestBuy_10, bq_M_bestBuy_18, bq_M_bestBuy_53, bq_M_bestBuy_67, bq_M_bestBuy_80, sp_M_isOne, sp_M_refuse, sp_M_gainOf, Option.toList_some, Option.toList_none, List.cons_append, List.nil_append, am_bi0, am_bi1, am_bft, true_and, reduceCtorEq, or_false, false_or, or_true, true_or, am_gd, am_incn, am_lk_nat, Int.toNat_natCast, ↓reduceIte, Int.reduceEq]
    rw [if_pos (by omega)]
    try rfl

theorem m_bestBuy {d L kp : Nat} {h : Nat → Nat → Int} {i : Int} (hd : 3 ≤ d) (hv : v_ok (am_mv h)) : am_An L 81 (a_bestBuy (am_mv h) i) h (fun Q => am_Wp d 246 0 [some (Sum.inr (Sum.inr 70)), some (Sum.inl i), none, none, none, none] [] (am_SH L, h, am_RR kp) Q) := by
  have hQ := mv_Q hv
  have hP := mv_P hv
  have hD := mv_D hv
  intro Q hq
  have hq2 : Q (some (a_bestBuy (am_mv h) i).1) (am_SH L, am_bump 81 (a_bestBuy (am_mv h) i).2 (am_up h 70 13 0), am_RR kp) := hq _ kp (am_keep_up rfl am_keep_r)
  clear hq
  have hv2 : v_ok (am_mv (am_up h 70 13 0)) := hv
  try rw [show am_mv h = am_mv (am_up h 70 13 0) from rfl] at hq2
  show am_Wp d 246 0 [some (Sum.inr (Sum.inr 70)), some (Sum.inl i), none, none, none, none] [] (am_SH L, h, am_RR kp) Q
  refine (show _ = _ from bq_M_bestBuy_0 (by omega)).mpr ?_
  clear hv hQ hP hD
  generalize am_up h 70 13 0 = g at hq2 hv2 ⊢
  have hv := hv2
  have hQ := mv_Q hv
  have hP := mv_P hv
  have hD := mv_D hv
  unfold a_bestBuy at hq2
  simp (disch := first | exact hv | omega) only [bq_M_bestBuy_0, bq_M_bestBuy_10, bq_M_bestBuy_18, bq_M_bestBuy_53, bq_M_bestBuy_67, bq_M_bestBuy_80, sp_M_isOne, sp_M_refuse, sp_M_gainOf, Option.toList_some, Option.toList_none, List.cons_append, List.nil_append, am_bi0, am_bi1, am_bft, true_and, reduceCtorEq, or_false, false_or, or_true, true_or, am_gd, am_incn, am_lk_nat, Int.toNat_natCast, ↓reduceIte, Int.reduceEq, Int.reduceAdd, Int.reduceNeg, Int.reduceToNat]
  cases hi : v_isP (am_mv g) i
  · simp only [hi, if_true, reduceCtorEq, if_false] at hq2 ⊢
    first | exact hq2 | (simp_all; done)
  · have hi2 := v_isP_iff.1 hi
    dsimp only [vP, vQ, vD, vK, vF, vS, vU, vO, vH, vN, vE, vG, vT, am_mv, am_wv] at hi2
    simp only [hi, if_true, reduceCtorEq, if_false] at hq2 ⊢
    refine (lp_M_bestBuy none (by omega) hv (by omega) (by omega)).mpr ?_
    exact hq2
