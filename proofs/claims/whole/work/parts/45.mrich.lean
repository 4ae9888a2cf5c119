/-! THE CALL rich of the reference -/
theorem lp_M_rich {d L kp : Nat} {h : Nat → Nat → Int} {Q : Option am_V → am_H → Prop} {i e : Int} {j : Option am_V} (hd : 4 ≤ d) (hv : v_ok (am_mv h)) (h0i : 0 ≤ i) (h1i : i < 7) : am_Wp d 271 49 [some (Sum.inr (Sum.inr 70)), some (Sum.inl i), some (Sum.inl e), j, some (Sum.inl (-9))] [] (am_SH L, am_runk h 0, am_RR kp) Q = (match v_rich (am_mv h) i e with | some k => Q (some (Sum.inl (h 70 5 + (k : Int)))) (am_SH L, am_puk (am_runk h (k + 1)) 86 127, am_RR 87) | none => Q (some (Sum.inl (-9))) (am_SH L, am_puk (am_runk h (99 - h 70 5).toNat) 86 127, am_RR 87)) := by
  have hQ := mv_Q hv
  have hP := mv_P hv
  have hD := mv_D hv
  refine am_fst_eq (n := (99 - h 70 5).toNat) (fun k => decide (e ≤ v_kis (am_mv h) i (k + 1))) (fun k => am_Wp d 271 49 [some (Sum.inr (Sum.inr 70)), some (Sum.inl i), some (Sum.inl e), j, some (Sum.inl (-9))] [] (am_SH L, am_runk h k, am_RR kp) Q) (fun k => Q (some (Sum.inl (h 70 5 + (k : Int)))) (am_SH L, am_puk (am_runk h (k + 1)) 86 127, am_RR 87)) (Q (some (Sum.inl (-9))) (am_SH L, am_puk (am_runk h (99 - h 70 5).toNat) 86 127, am_RR 87)) (fun k hk => ?_) ?_
  · show am_Wp d 271 49 [some (Sum.inr (Sum.inr 70)), some (Sum.inl i), some (Sum.inl e), j, some (Sum.inl (-9))] [] (am_SH L, am_runk h k, am_RR kp) Q = (match (decide (e ≤ v_kis (am_mv h) i (k + 1)) : Bool) with | true => Q (some (Sum.inl (h 70 5 + (k : Int)))) (am_SH L, am_puk (am_runk h (k + 1)) 86 127, am_RR 87) | false => am_Wp d 271 49 [some (Sum.inr (Sum.inr 70)), some (Sum.inl i), some (Sum.inl e), j, some (Sum.inl (-9))] [] (am_SH L, am_runk h (k + 1), am_RR kp) Q)
    have hvk : v_ok (am_mv (am_runk h k)) := by
      rw [am_runk_mv]
      exact v_run_ok hv (show h 70 5 + (k : Int) ≤ 99 by omega)
    have ek : am_falk 73 80 (am_runk h k) (am_mv (am_runk h k)) (am_runk h k 70 6).toNat 73 i.toNat = v_kis (am_mv h) i (k + 1) := by
      have e1 := v_run_S hv h0i h1i (k := k + 1) (show h 70 5 + ((k + 1 : Nat) : Int) ≤ 99 by omega)
      rw [← am_runk_mv] at e1
      exact e1
    have ed : am_falk 73 80 (am_runk h k) (am_mv (am_runk h k)) (am_runk h k 70 6).toNat 70 5 = h 70 5 + (k : Int) := am_runk_D
    refine (bq_M_rich_49 (by omega)).trans ?_
    rw [am_runk_D, if_neg (by omega), if_neg (by omega), sp_M_fallDue (by omega) hvk]
    simp only [Option.toList_some, List.cons_append, List.nil_append]
    rw [bq_M_rich_67, am_gd (by omega) (by omega), ek]
    by_cases q1 : e ≤ v_kis (am_mv h) i (k + 1)
    · rw [decide_eq_true q1, if_neg (by omega), bq_M_rich_87, am_runk_s hv (by omega), ed]
      have ex : am_Wp d 271 102 [some (Sum.inr (Sum.inr 70)), some (Sum.inl i), some (Sum.inl e), j, some (Sum.inl (h 70 5 + (k : Int)))] [] (am_SH L, am_runk h (k + 1), am_RR kp) Q = Q (some (Sum.inl (h 70 5 + (k : Int)))) (am_SH L, am_puk (am_runk h (k + 1)) 86 127, am_RR 87) := by
        rw [bq_M_rich_102 (by omega), sp_M_carryAll_p86 (by omega)]
        simp only [Option.toList_none, List.nil_append]
        rw [bq_M_rich_111]
      refine (bq_M_rich_49 (by omega)).trans ?_
      by_cases q3 : 99 ≤ am_runk h (k + 1) 70 5
      · rw [if_pos q3, ex]
      · rw [if_neg q3, if_pos (by omega), ex]
    · rw [decide_eq_false q1, if_pos (by omega), bq_M_rich_87, am_runk_s hv (by omega)]
  · show am_Wp d 271 49 [some (Sum.inr (Sum.inr 70)), some (Sum.inl i), some (Sum.inl e), j, some (Sum.inl (-9))] [] (am_SH L, am_runk h (99 - h 70 5).toNat, am_RR kp) Q = _
    refine (bq_M_rich_49 (by omega)).trans ?_
    rw [am_runk_D, if_pos (by omega), bq_M_rich_102 (by omega), sp_M_carryAll_p86 (by omega)]
    simp only [Option.toList_none, List.nil_append]
    rw [bq_M_rich_111]

theorem m_rich {d L kp : Nat} {h : Nat → Nat → Int} {i e : Int} (hd : 4 ≤ d) (hv : v_ok (am_mv h)) : am_An L 81 (a_rich (am_mv h) i e) h (fun Q => am_Wp d 271 0 [some (Sum.inr (Sum.inr 70)), some (Sum.inl i), some (Sum.inl e), none, none] [] (am_SH L, h, am_RR kp) Q) := by
  have hQ := mv_Q hv
  have hP := mv_P hv
  have hD := mv_D hv
  intro Q hq
  have hq2 : ∀ g kq, am_keep (am_up h 70 13 0) g → Q (some (a_rich (am_mv h) i e).1) (am_SH L, am_bump 81 (a_rich (am_mv h) i e).2 g, am_RR kq) := fun g kq hk => hq g kq (am_keep_t (am_keep_up rfl am_keep_r) hk)
  clear hq
  have hv2 : v_ok (am_mv (am_up h 70 13 0)) := hv
  try rw [show am_mv h = am_mv (am_up h 70 13 0) from rfl] at hq2
  show am_Wp d 271 0 [some (Sum.inr (Sum.inr 70)), some (Sum.inl i), some (Sum.inl e), none, none] [] (am_SH L, h, am_RR kp) Q
  refine (show _ = _ from bq_M_rich_0 (by omega)).mpr ?_
  clear hv hQ hP hD
  generalize am_up h 70 13 0 = g at hq2 hv2 ⊢
  have hv := hv2
  have hQ := mv_Q hv
  have hP := mv_P hv
  have hD := mv_D hv
  unfold a_rich at hq2
  cases hi : v_isP (am_mv g) i
  · simp only [hi, ↓reduceIte] at hq2
    simp (disch := first | exact hv | omega) only [bq_M_rich_0, bq_M_rich_10, bq_M_rich_25, bq_M_rich_21, bq_M_rich_35, bq_M_rich_102, bq_M_rich_67, bq_M_rich_111, bq_M_rich_87, Option.toList_some, Option.toList_none, List.cons_append, List.nil_append, am_bi0, am_bi1, am_bft, true_and, reduceCtorEq, or_false, false_or, or_true, true_or, am_gd, am_incn, am_lk_nat, Int.toNat_natCast, ↓reduceIte, Int.reduceEq, sp_M_isOne, sp_M_wrongNumber, sp_M_refuse, Int.reduceLE, Int.reduceNeg, Int.reduceToNat, hi]
    exact hq2 g kp am_keep_r
  · have hi2 := v_isP_iff.1 hi
    dsimp only [vP, vQ, vD, vK, vF, vS, vU, vO, vH, vN, vE, vG, vT, am_mv, am_wv] at hi2
    simp only [hi, ↓reduceIte, reduceCtorEq] at hq2
    by_cases q1 : e < 0
    · have em : m_wrong e 0 999 = -4 := if_pos q1
      simp only [if_pos q1] at hq2
      simp (disch := first | exact hv | omega) only [bq_M_rich_0, bq_M_rich_10, bq_M_rich_25, bq_M_rich_21, bq_M_rich_35, bq_M_rich_102, bq_M_rich_67, bq_M_rich_111, bq_M_rich_87, Option.toList_some, Option.toList_none, List.cons_append, List.nil_append, am_bi0, am_bi1, am_bft, true_and, reduceCtorEq, or_false, false_or, or_true, true_or, am_gd, am_incn, am_lk_nat, Int.toNat_natCast, ↓reduceIte, Int.reduceEq, sp_M_isOne, sp_M_wrongNumber, sp_M_refuse, Int.reduceLE, Int.reduceNeg, Int.reduceToNat, hi, em]
      exact hq2 g kp am_keep_r
    · by_cases q2 : 999 < e
      · have em : m_wrong e 0 999 = -6 := (if_neg q1).trans (if_pos q2)
        simp only [if_neg q1, if_pos q2] at hq2
        simp (disch := first | exact hv | omega) only [bq_M_rich_0, bq_M_rich_10, bq_M_rich_25, bq_M_rich_21, bq_M_rich_35, bq_M_rich_102, bq_M_rich_67, bq_M_rich_111, bq_M_rich_87, Option.toList_some, Option.toList_none, List.cons_append, List.nil_append, am_bi0, am_bi1, am_bft, true_and, reduceCtorEq, or_false, false_or, or_true, true_or, am_gd, am_incn, am_lk_nat, Int.toNat_natCast, ↓reduceIte, Int.reduceEq, sp_M_isOne, sp_M_wrongNumber, sp_M_refuse, Int.reduceLE, Int.reduceNeg, Int.reduceToNat, hi, em]
        exact hq2 g kp am_keep_r
      · have em : m_wrong e 0 999 = 0 := (if_neg q1).trans (if_neg q2)
        simp only [if_neg q1, if_neg q2] at hq2
        simp (disch := first | exact hv | omega) only [bq_M_rich_0, bq_M_rich_10, bq_M_rich_25, bq_M_rich_21, bq_M_rich_35, bq_M_rich_102, bq_M_rich_67, bq_M_rich_111, bq_M_rich_87, Option.toList_some, Option.toList_none, List.cons_append, List.nil_append, am_bi0, am_bi1, am_bft, true_and, reduceCtorEq, or_false, false_or, or_true, true_or, am_gd, am_incn, am_lk_nat, Int.toNat_natCast, ↓reduceIte, Int.reduceEq, sp_M_isOne, sp_M_wrongNumber, sp_M_refuse, Int.reduceLE, Int.reduceNeg, Int.reduceToNat, hi, em, sp_M_carryAll_t86]
        have hvt : v_ok (am_mv (am_tkk g 86 127)) := hv
        have h9 := fun j => lp_M_rich (L := L) (kp := 87) (Q := Q) (h := am_tkk g 86 127) (i := i) (e := e) (d := d) (j := j) (by omega) hvt (by omega) (by omega)
        refine (h9 _).mpr ?_
        have er : am_mv (am_tkk g 86 127) = am_mv g := rfl
        rw [er]
        revert hq2
        cases v_rich (am_mv g) i e with
        | none => exact fun w => w _ 87 (am_keep_run hv)
        | some k => exact fun w => w _ 87 (am_keep_run hv)
