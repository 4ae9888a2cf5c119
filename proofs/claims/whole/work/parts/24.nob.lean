theorem lp_KO_nobodyWill {d L kp : Nat} {h : Nat → Nat → Int} {Q : Option am_V → am_H → Prop} (hd : 3 ≤ d) (hv : v_ok (am_wv h 2)) : am_Wp d 90 2 [some (Sum.inr (Sum.inr 1)), some (Sum.inl (0))] [] (am_SH L, h, am_RR kp) Q = (match v_nobody (am_wv h 2) with | some k => Q (some (Sum.inl ((k : Int)))) (am_SH L, h, am_RR kp) | none => Q (some (Sum.inl (-9))) (am_SH L, h, am_RR kp)) := by
  have hQ := wv_Q hv
  have hP := wv_P hv
  have hD := wv_D hv
  refine am_fst_eq (n := (h 2 1).toNat) (fun p => decide (vT (am_wv h 2) p = 0 ∧ vD (am_wv h 2) ≤ vE (am_wv h 2) p) && !v_paid (am_wv h 2) (p : Int)) (fun k => am_Wp d 90 2 [some (Sum.inr (Sum.inr 1)), some (Sum.inl ((k : Int)))] [] (am_SH L, h, am_RR kp) Q) (fun k => Q (some (Sum.inl ((k : Int)))) (am_SH L, h, am_RR kp)) (Q (some (Sum.inl (-9))) (am_SH L, h, am_RR kp)) (fun k hk => ?_) ?_
  · show am_Wp d 90 2 [some (Sum.inr (Sum.inr 1)), some (Sum.inl ((k : Int)))] [] (am_SH L, h, am_RR kp) Q = (match (decide (vT (am_wv h 2) k = 0 ∧ vD (am_wv h 2) ≤ vE (am_wv h 2) k) && !v_paid (am_wv h 2) (k : Int) : Bool) with | true => Q (some (Sum.inl ((k : Int)))) (am_SH L, h, am_RR kp) | false => am_Wp d 90 2 [some (Sum.inr (Sum.inr 1)), some (Sum.inl (((k + 1 : Nat) : Int)))] [] (am_SH L, h, am_RR kp) Q)
    have hp1 := wv_p hv k (by omega)
    have hq1 := wv_q hv k (by omega)
    have hw1 := wv_w hv k (by omega)
    have ho1 : v_open (am_wv h 2) (k : Int) = decide (h 12 k = 0) := v_open_nat hv (show (k : Int) < h 2 1 by omega)
    refine (bq_KO_nobodyWill_2 (by omega)).trans ?_
    simp (disch := first | exact hv | omega) only [bq_KO_nobodyWill_0, bq_KO_nobodyWill_10, bq_KO_nobodyWill_21, bq_KO_nobodyWill_55, bq_KO_nobodyWill_32, bq_KO_nobodyWill_39, bq_KO_nobodyWill_50, sp_World_papers_2, sp_World_isOpen_2, sp_World_dueOf_2, sp_World_day_2, sp_World_wouldBePaid_2, Option.toList_some, Option.toList_none, List.cons_append, List.nil_append, am_bi0, am_bi1, am_bft, true_and, reduceCtorEq, or_false, false_or, or_true, true_or, am_gd, am_incn, am_lk_nat, Int.toNat_natCast, ho1, decide_eq_false_iff_not, decide_eq_true_eq]
    cases hpd : v_paid (am_wv h 2) (k : Int) <;> (
      rw [if_neg (by omega)]
      by_cases q1 : h 12 k = 0
      · by_cases q2 : h 2 2 ≤ h 10 k
        · rw [decide_eq_true (show vT (am_wv h 2) k = 0 ∧ vD (am_wv h 2) ≤ vE (am_wv h 2) k from ⟨q1, q2⟩)]
          simp [q1, q2, Int.not_lt.2 q2]
        · rw [decide_eq_false (show ¬ (vT (am_wv h 2) k = 0 ∧ vD (am_wv h 2) ≤ vE (am_wv h 2) k) from fun w => q2 w.2)]
          simp [q1, Int.not_le.1 q2]
      · rw [decide_eq_false (show ¬ (vT (am_wv h 2) k = 0 ∧ vD (am_wv h 2) ≤ vE (am_wv h 2) k) from fun w => q1 w.1)]
        simp [q1])
  · show am_Wp d 90 2 [some (Sum.inr (Sum.inr 1)), some (Sum.inl ((((h 2 1).toNat : Nat) : Int)))] [] (am_SH L, h, am_RR kp) Q = _
    refine (bq_KO_nobodyWill_2 (by omega)).trans ?_
    simp (disch := first | exact hv | omega) only [bq_KO_nobodyWill_0, bq_KO_nobodyWill_10, bq_KO_nobodyWill_21, bq_KO_nobodyWill_55, bq_KO_nobodyWill_32, bq_KO_nobodyWill_39, bq_KO_nobodyWill_50, sp_World_papers_2, sp_World_isOpen_2, sp_World_dueOf_2, sp_World_day_2, sp_World_wouldBePaid_2, Option.toList_some, Option.toList_none, List.cons_append, List.nil_append, am_bi0, am_bi1, am_bft, true_and, reduceCtorEq, or_false, false_or, or_true, true_or, am_gd, am_incn, am_lk_nat, Int.toNat_natCast]
    rw [if_pos (by omega)]

theorem c_nobodyWill {d L kp : Nat} {h : Nat → Nat → Int} (hd : 3 ≤ d) (hv : v_ok (am_wv h 2)) : am_An L 41 (a_nobodyWill (am_wv h 2)) h (fun Q => am_Wp d 90 0 [some (Sum.inr (Sum.inr 1)), none] [] (am_SH L, h, am_RR kp) Q) := by
  have hQ := wv_Q hv
  have hP := wv_P hv
  have hD := wv_D hv
  intro Q hq
  have hq2 : Q (some (a_nobodyWill (am_wv h 2)).1) (am_SH L, am_bump 41 (a_nobodyWill (am_wv h 2)).2 h, am_RR kp) := hq _ kp am_keep_r
  show am_Wp d 90 0 [some (Sum.inr (Sum.inr 1)), none] [] (am_SH L, h, am_RR kp) Q
  unfold a_nobodyWill at hq2
  simp (disch := first | exact hv | omega) only [bq_KO_nobodyWill_0, bq_KO_nobodyWill_10, bq_KO_nobodyWill_21, bq_KO_nobodyWill_55, bq_KO_nobodyWill_32, bq_KO_nobodyWill_39, bq_KO_nobodyWill_50, sp_World_papers_2, sp_World_isOpen_2, sp_World_dueOf_2, sp_World_day_2, sp_World_wouldBePaid_2, lp_KO_nobodyWill, Option.toList_some, Option.toList_none, List.cons_append, List.nil_append, am_bi0, am_bi1, am_bft, true_and, reduceCtorEq, or_false, false_or, or_true, true_or, am_gd, am_incn, am_lk_nat, Int.toNat_natCast, Int.reduceAdd, Int.reduceNeg, Int.reduceToNat]
  cases hf : v_nobody (am_wv h 2)
  · simp only [hf] at hq2 ⊢
    exact hq2
  · simp only [hf] at hq2 ⊢
    exact hq2

theorem lp_M_nobodyWill {d L kp : Nat} {h : Nat → Nat → Int} {Q : Option am_V → am_H → Prop} (hd : 3 ≤ d) (hv : v_ok (am_mv h)) : am_Wp d 234 7 [some (Sum.inr (Sum.inr 70)), some (Sum.inl (0))] [] (am_SH L, h, am_RR kp) Q = (match v_nobody (am_mv h) with | some k => Q (some (Sum.inl ((k : Int)))) (am_SH L, h, am_RR kp) | none => Q (some (Sum.inl (-9))) (am_SH L, h, am_RR kp)) := by
  have hQ := mv_Q hv
  have hP := mv_P hv
  have hD := mv_D hv
  refine am_fst_eq (n := (h 70 6).toNat) (fun p => decide (vT (am_mv h) p = 0 ∧ vD (am_mv h) ≤ vE (am_mv h) p) && !v_paid (am_mv h) (p : Int)) (fun k => am_Wp d 234 7 [some (Sum.inr (Sum.inr 70)), some (Sum.inl ((k : Int)))] [] (am_SH L, h, am_RR kp) Q) (fun k => Q (some (Sum.inl ((k : Int)))) (am_SH L, h, am_RR kp)) (Q (some (Sum.inl (-9))) (am_SH L, h, am_RR kp)) (fun k hk => ?_) ?_
  · show am_Wp d 234 7 [some (Sum.inr (Sum.inr 70)), some (Sum.inl ((k : Int)))] [] (am_SH L, h, am_RR kp) Q = (match (decide (vT (am_mv h) k = 0 ∧ vD (am_mv h) ≤ vE (am_mv h) k) && !v_paid (am_mv h) (k : Int) : Bool) with | true => Q (some (Sum.inl ((k : Int)))) (am_SH L, h, am_RR kp) | false => am_Wp d 234 7 [some (Sum.inr (Sum.inr 70)), some (Sum.inl (((k + 1 : Nat) : Int)))] [] (am_SH L, h, am_RR kp) Q)
    have hp1 := mv_p hv k (by omega)
    have hq1 := mv_q hv k (by omega)
    have hw1 := mv_w hv k (by omega)
    refine (bq_M_nobodyWill_7 (by omega)).trans ?_
    simp (disch := first | exact hv | omega) only [bq_M_nobodyWill_0, bq_M_nobodyWill_47, bq_M_nobodyWill_42, sp_M_wouldBePaid, Option.toList_some, Option.toList_none, List.cons_append, List.nil_append, am_bi0, am_bi1, am_bft, true_and, reduceCtorEq, or_false, false_or, or_true, true_or, am_gd, am_incn, am_lk_nat, Int.toNat_natCast]
    cases hpd : v_paid (am_mv h) (k : Int) <;> (
      rw [if_neg (by omega)]
      by_cases q1 : h 80 k = 0
      · by_cases q2 : h 70 5 ≤ h 78 k
        · rw [decide_eq_true (show vT (am_mv h) k = 0 ∧ vD (am_mv h) ≤ vE (am_mv h) k from ⟨q1, q2⟩)]
          simp [q1, q2, Int.not_lt.2 q2]
        · rw [decide_eq_false (show ¬ (vT (am_mv h) k = 0 ∧ vD (am_mv h) ≤ vE (am_mv h) k) from fun w => q2 w.2)]
          simp [q1, Int.not_le.1 q2]
      · rw [decide_eq_false (show ¬ (vT (am_mv h) k = 0 ∧ vD (am_mv h) ≤ vE (am_mv h) k) from fun w => q1 w.1)]
        simp [q1])
  · show am_Wp d 234 7 [some (Sum.inr (Sum.inr 70)), some (Sum.inl ((((h 70 6).toNat : Nat) : Int)))] [] (am_SH L, h, am_RR kp) Q = _
    refine (bq_M_nobodyWill_7 (by omega)).trans ?_
    simp (disch := first | exact hv | omega) only [bq_M_nobodyWill_0, bq_M_nobodyWill_47, bq_M_nobodyWill_42, sp_M_wouldBePaid, Option.toList_some, Option.toList_none, List.cons_append, List.nil_append, am_bi0, am_bi1, am_bft, true_and, reduceCtorEq, or_false, false_or, or_true, true_or, am_gd, am_incn, am_lk_nat, Int.toNat_natCast]
    rw [if_pos (by omega)]

theorem m_nobodyWill {d L kp : Nat} {h : Nat → Nat → Int} (hd : 3 ≤ d) (hv : v_ok (am_mv h)) : am_An L 81 (a_nobodyWill (am_mv h)) h (fun Q => am_Wp d 234 0 [some (Sum.inr (Sum.inr 70)), none] [] (am_SH L, h, am_RR kp) Q) := by
  have hQ := mv_Q hv
  have hP := mv_P hv
  have hD := mv_D hv
  intro Q hq
  have hq2 : Q (some (a_nobodyWill (am_mv h)).1) (am_SH L, am_bump 81 (a_nobodyWill (am_mv h)).2 (am_up h 70 13 0), am_RR kp) := hq _ kp (am_keep_up rfl am_keep_r)
  clear hq
  have hv2 : v_ok (am_mv (am_up h 70 13 0)) := hv
  try rw [show am_mv h = am_mv (am_up h 70 13 0) from rfl] at hq2
  show am_Wp d 234 0 [some (Sum.inr (Sum.inr 70)), none] [] (am_SH L, h, am_RR kp) Q
  refine (show _ = _ from bq_M_nobodyWill_0 ).mpr ?_
  clear hv hQ hP hD
  generalize am_up h 70 13 0 = g at hq2 hv2 ⊢
  have hv := hv2
  have hQ := mv_Q hv
  have hP := mv_P hv
  have hD := mv_D hv
  unfold a_nobodyWill at hq2
  simp (disch := first | exact hv | omega) only [bq_M_nobodyWill_0, bq_M_nobodyWill_47, bq_M_nobodyWill_42, sp_M_wouldBePaid, lp_M_nobodyWill, Option.toList_some, Option.toList_none, List.cons_append, List.nil_append, am_bi0, am_bi1, am_bft, true_and, reduceCtorEq, or_false, false_or, or_true, true_or, am_gd, am_incn, am_lk_nat, Int.toNat_natCast, Int.reduceAdd, Int.reduceNeg, Int.reduceToNat]
  cases hf : v_nobody (am_mv g)
  · simp only [hf] at hq2 ⊢
    exact hq2
  · simp only [hf] at hq2 ⊢
    exact hq2
