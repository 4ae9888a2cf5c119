/-! THE CALL count -/
theorem sp_Letters_size {d L kp : Nat} {h : Nat → Nat → Int} {Q : Option am_V → am_H → Prop} : am_Wp d 16 0 [some (Sum.inr (Sum.inr 27))] [] (am_SH L, h, am_RR kp) Q = Q (some (Sum.inl (h 27 1))) (am_SH L, h, am_RR kp) := by
  simp (disch := omega) only [bq_Letters_size_0, Option.toList_some, Option.toList_none, List.cons_append, List.nil_append, am_bi0, am_bi1, am_bft, true_and, reduceCtorEq, or_false, false_or, or_true, true_or]
  

theorem sp_Past_size {d L kp : Nat} {h : Nat → Nat → Int} {Q : Option am_V → am_H → Prop} : am_Wp d 188 0 [some (Sum.inr (Sum.inr 24))] [] (am_SH L, h, am_RR kp) Q = Q (some (Sum.inl (h 24 3))) (am_SH L, h, am_RR kp) := by
  simp (disch := omega) only [bq_Past_size_0, Option.toList_some, Option.toList_none, List.cons_append, List.nil_append, am_bi0, am_bi1, am_bft, true_and, reduceCtorEq, or_false, false_or, or_true, true_or]
  

def a_count (V : am_Vw) (ln rm tn : Int) (rf : Nat → Int) (w : Int) : am_V × Nat := (Sum.inl (if w = 0 then vP V else if w = 1 then vQ V else if w = 2 then vD V else if w = 3 then v_opens V else if w = 4 then v_kissed V (vP V).toNat else if w = 5 then ln else if w = 6 then rm else if w = 7 then tn else if 11 ≤ w ∧ w ≤ 16 then rf (w - 10).toNat else -9), 0)
theorem c_count {d L kp : Nat} {h : Nat → Nat → Int} {w : Int} (hd : 3 ≤ d) (hv : v_ok (am_wv h 2)) : am_An L 41 (a_count (am_wv h 2) (h 27 1) (h 1 6) (h 24 3) (h 41) w) h (fun Q => am_Wp d 186 0 [some (Sum.inr (Sum.inr 1)), some (Sum.inl w)] [] (am_SH L, h, am_RR kp) Q) := by
  intro Q hq
  show am_Wp d 186 0 [some (Sum.inr (Sum.inr 1)), some (Sum.inl w)] [] (am_SH L, h, am_RR kp) Q
  have h3 := hq h kp am_keep_r
  unfold a_count at h3
  dsimp only [am_bump] at h3
  by_cases w0 : w = 0
  · subst w0
    simp only [↓reduceIte, Int.reduceEq, Int.reduceAdd, Int.zero_add] at h3
    have r0 : am_Wp d 186 0 [some (Sum.inr (Sum.inr 1)), some (Sum.inl (0))] [] (am_SH L, h, am_RR kp) Q = am_Wp d 186 48 [some (Sum.inr (Sum.inr 1)), some (Sum.inl (0))] [] (am_SH L, h, am_RR kp) Q := by
      rw [bq_KO_count_0]
      simp only [↓reduceIte, Int.reduceEq, Int.reduceAdd, Int.zero_add]
    rw [r0, bq_KO_count_48 (by omega)]
    rw [sp_World_people_2]
    simp only [Option.toList_some, Option.toList_none, List.cons_append, List.nil_append]
    rw [bq_KO_count_55]
    exact h3
  by_cases w1 : w = 1
  · subst w1
    simp only [↓reduceIte, Int.reduceEq, Int.reduceAdd, Int.zero_add] at h3
    have r0 : am_Wp d 186 0 [some (Sum.inr (Sum.inr 1)), some (Sum.inl (1))] [] (am_SH L, h, am_RR kp) Q = am_Wp d 186 56 [some (Sum.inr (Sum.inr 1)), some (Sum.inl (1))] [] (am_SH L, h, am_RR kp) Q := by
      rw [bq_KO_count_0]
      simp only [↓reduceIte, Int.reduceEq, Int.reduceAdd, Int.zero_add]
    rw [r0, bq_KO_count_56 (by omega)]
    rw [sp_World_papers_2]
    simp only [Option.toList_some, Option.toList_none, List.cons_append, List.nil_append]
    rw [bq_KO_count_63]
    exact h3
  by_cases w2 : w = 2
  · subst w2
    simp only [↓reduceIte, Int.reduceEq, Int.reduceAdd, Int.zero_add] at h3
    have r0 : am_Wp d 186 0 [some (Sum.inr (Sum.inr 1)), some (Sum.inl (2))] [] (am_SH L, h, am_RR kp) Q = am_Wp d 186 64 [some (Sum.inr (Sum.inr 1)), some (Sum.inl (2))] [] (am_SH L, h, am_RR kp) Q := by
      rw [bq_KO_count_0]
      simp only [↓reduceIte, Int.reduceEq, Int.reduceAdd, Int.zero_add]
    rw [r0, bq_KO_count_64 (by omega)]
    rw [sp_World_day_2]
    simp only [Option.toList_some, Option.toList_none, List.cons_append, List.nil_append]
    rw [bq_KO_count_71]
    exact h3
  by_cases w3 : w = 3
  · subst w3
    simp only [↓reduceIte, Int.reduceEq, Int.reduceAdd, Int.zero_add] at h3
    have r0 : am_Wp d 186 0 [some (Sum.inr (Sum.inr 1)), some (Sum.inl (3))] [] (am_SH L, h, am_RR kp) Q = am_Wp d 186 72 [some (Sum.inr (Sum.inr 1)), some (Sum.inl (3))] [] (am_SH L, h, am_RR kp) Q := by
      rw [bq_KO_count_0]
      simp only [↓reduceIte, Int.reduceEq, Int.reduceAdd, Int.zero_add]
    rw [r0, bq_KO_count_72 (by omega)]
    rw [sp_World_openPapers_2 (by omega) hv]
    simp only [Option.toList_some, Option.toList_none, List.cons_append, List.nil_append]
    rw [bq_KO_count_79]
    exact h3
  by_cases w4 : w = 4
  · subst w4
    simp only [↓reduceIte, Int.reduceEq, Int.reduceAdd, Int.zero_add] at h3
    have r0 : am_Wp d 186 0 [some (Sum.inr (Sum.inr 1)), some (Sum.inl (4))] [] (am_SH L, h, am_RR kp) Q = am_Wp d 186 80 [some (Sum.inr (Sum.inr 1)), some (Sum.inl (4))] [] (am_SH L, h, am_RR kp) Q := by
      rw [bq_KO_count_0]
      simp only [↓reduceIte, Int.reduceEq, Int.reduceAdd, Int.zero_add]
    rw [r0, bq_KO_count_80 (by omega)]
    rw [sp_World_allKissed_2 (by omega) hv]
    simp only [Option.toList_some, Option.toList_none, List.cons_append, List.nil_append]
    rw [bq_KO_count_87]
    exact h3
  by_cases w5 : w = 5
  · subst w5
    simp only [↓reduceIte, Int.reduceEq, Int.reduceAdd, Int.zero_add] at h3
    have r0 : am_Wp d 186 0 [some (Sum.inr (Sum.inr 1)), some (Sum.inl (5))] [] (am_SH L, h, am_RR kp) Q = am_Wp d 186 88 [some (Sum.inr (Sum.inr 1)), some (Sum.inl (5))] [] (am_SH L, h, am_RR kp) Q := by
      rw [bq_KO_count_0]
      simp only [↓reduceIte, Int.reduceEq, Int.reduceAdd, Int.zero_add]
    rw [r0, bq_KO_count_88 (by omega)]
    rw [sp_Letters_size]
    simp only [Option.toList_some, Option.toList_none, List.cons_append, List.nil_append]
    rw [bq_KO_count_95]
    exact h3
  by_cases w6 : w = 6
  · subst w6
    simp only [↓reduceIte, Int.reduceEq, Int.reduceAdd, Int.zero_add] at h3
    have r0 : am_Wp d 186 0 [some (Sum.inr (Sum.inr 1)), some (Sum.inl (6))] [] (am_SH L, h, am_RR kp) Q = am_Wp d 186 96 [some (Sum.inr (Sum.inr 1)), some (Sum.inl (6))] [] (am_SH L, h, am_RR kp) Q := by
      rw [bq_KO_count_0]
      simp only [↓reduceIte, Int.reduceEq, Int.reduceAdd, Int.zero_add]
    rw [r0, bq_KO_count_96]
    exact h3
  by_cases w7 : w = 7
  · subst w7
    simp only [↓reduceIte, Int.reduceEq, Int.reduceAdd, Int.zero_add] at h3
    have r0 : am_Wp d 186 0 [some (Sum.inr (Sum.inr 1)), some (Sum.inl (7))] [] (am_SH L, h, am_RR kp) Q = am_Wp d 186 101 [some (Sum.inr (Sum.inr 1)), some (Sum.inl (7))] [] (am_SH L, h, am_RR kp) Q := by
      rw [bq_KO_count_0]
      simp only [↓reduceIte, Int.reduceEq, Int.reduceAdd, Int.zero_add]
    rw [r0, bq_KO_count_101 (by omega)]
    rw [sp_Past_size]
    simp only [Option.toList_some, Option.toList_none, List.cons_append, List.nil_append]
    rw [bq_KO_count_108]
    exact h3
  simp only [w0, w1, w2, w3, w4, w5, w6, w7, ↓reduceIte] at h3
  rw [bq_KO_count_0]
  simp only [w0, w1, w2, w3, w4, w5, w6, w7, ↓reduceIte, Int.reduceEq, Int.reduceAdd, Int.zero_add]
  rw [bq_KO_count_109 (by omega)]
  by_cases q1 : w < 11
  · rw [if_neg (by omega)] at h3
    rw [if_pos q1, bq_KO_count_135, bq_KO_count_137]
    exact h3
  by_cases q2 : 16 < w
  · rw [if_neg (by omega)] at h3
    rw [if_neg q1, if_pos q2, bq_KO_count_135, bq_KO_count_137]
    exact h3
  rw [if_pos (by omega)] at h3
  rw [if_neg q1, if_neg q2, sp_at_41, am_sub_ok (by omega) (by omega), am_lk_in (by omega) (by omega)]
  simp only [Option.toList_some, Option.toList_none, List.cons_append, List.nil_append]
  rw [bq_KO_count_132, bq_KO_count_137]
  exact h3
theorem lp_M_count3 {d L kp : Nat} {h : Nat → Nat → Int} {Q : Option am_V → am_H → Prop} {w : Int} (hd : 1 ≤ d) (hv : v_ok (am_mv h)) : am_Wp d 291 73 [some (Sum.inr (Sum.inr 70)), some (Sum.inl (w)), some (Sum.inl (0)), some (Sum.inl (0))] [] (am_SH L, h, am_RR kp) Q = Q (some (Sum.inl (v_opens (am_mv h)))) (am_SH L, h, am_RR kp) := by
  have hQ := mv_Q hv
  have hP := mv_P hv
  have hD := mv_D hv
  refine am_up_eq (n := (h 70 6).toNat) (fun k => am_Wp d 291 73 [some (Sum.inr (Sum.inr 70)), some (Sum.inl (w)), some (Sum.inl (am_sumb k (fun p => if h 80 p = 0 then 1 else 0))), some (Sum.inl ((k : Int)))] [] (am_SH L, h, am_RR kp) Q) (Q (some (Sum.inl (v_opens (am_mv h)))) (am_SH L, h, am_RR kp)) (fun k hk => ?_) ?_
  · show am_Wp d 291 73 [some (Sum.inr (Sum.inr 70)), some (Sum.inl (w)), some (Sum.inl (am_sumb k (fun p => if h 80 p = 0 then 1 else 0))), some (Sum.inl ((k : Int)))] [] (am_SH L, h, am_RR kp) Q = am_Wp d 291 73 [some (Sum.inr (Sum.inr 70)), some (Sum.inl (w)), some (Sum.inl (am_sumb (k + 1) (fun p => if h 80 p = 0 then 1 else 0))), some (Sum.inl (((k + 1 : Nat) : Int)))] [] (am_SH L, h, am_RR kp) Q
    have hb := am_sumb_le (n := k) (g := fun p => if h 80 p = 0 then 1 else 0) (A := 0) (B := 1) (fun p hp => by
      have hp1 := mv_p hv p (by omega)
      have hq1 := mv_q hv p (by omega)
      have hw1 := mv_w hv p (by omega)
      show 0 ≤ (if h 80 p = 0 then 1 else 0) ∧ (if h 80 p = 0 then 1 else 0) ≤ 1
      (repeat' split) <;> omega)
    have hp1 := mv_p hv k (by omega)
    have hq1 := mv_q hv k (by omega)
    have hw1 := mv_w hv k (by omega)
    rw [am_sumb_s] 
    refine (bq_M_count_73 ).trans ?_
    simp (disch := first | exact hv | omega) only [bq_M_count_0, bq_M_count_56, bq_M_count_61, bq_M_count_66, bq_M_count_71, bq_M_count_106, bq_M_count_133, bq_M_count_138, bq_M_count_143, bq_M_count_148, bq_M_count_108, bq_M_count_159, bq_M_count_96, bq_M_count_176, sp_M_in, Option.toList_some, Option.toList_none, List.cons_append, List.nil_append, am_bi0, am_bi1, am_bft, true_and, reduceCtorEq, or_false, false_or, or_true, true_or, am_gd, am_incn, am_lk_nat, Int.toNat_natCast, ↓reduceIte, Int.reduceEq, am_add_ok]
    rw [if_neg (by omega)]
    (repeat' split) <;> first | rfl | (simp_all; done) | omega
  · show am_Wp d 291 73 [some (Sum.inr (Sum.inr 70)), some (Sum.inl (w)), some (Sum.inl (am_sumb ((h 70 6).toNat) (fun p => if h 80 p = 0 then 1 else 0))), some (Sum.inl ((((h 70 6).toNat : Nat) : Int)))] [] (am_SH L, h, am_RR kp) Q = _
    refine (bq_M_count_73 ).trans ?_
    simp (disch := first | exact hv | omega) only [bq_M_count_0, bq_M_count_56, bq_M_count_61, bq_M_count_66, bq_M_count_71, bq_M_count_106, bq_M_count_133, bq_M_count_138, bq_M_count_143, bq_M_count_148, bq_M_count_108, bq_M_count_159, bq_M_count_96, bq_M_count_176, sp_M_in, Option.toList_some, Option.toList_none, List.cons_append, List.nil_append, am_bi0, am_bi1, am_bft, true_and, reduceCtorEq, or_false, false_or, or_true, true_or, am_gd, am_incn, am_lk_nat, Int.toNat_natCast, ↓reduceIte, Int.reduceEq]
    rw [if_pos (by omega)]
    try rfl

theorem lp_M_count4 {d L kp : Nat} {h : Nat → Nat → Int} {Q : Option am_V → am_H → Prop} {w : Int} (j : Option am_V) (hd : 1 ≤ d) (hv : v_ok (am_mv h)) : am_Wp d 291 108 [some (Sum.inr (Sum.inr 70)), some (Sum.inl (w)), some (Sum.inl (0)), some (Sum.inl (0))] [] (am_SH L, h, am_RR kp) Q = Q (some (Sum.inl (v_kissed (am_mv h) (h 70 0).toNat))) (am_SH L, h, am_RR kp) := by
  have hQ := mv_Q hv
  have hP := mv_P hv
  have hD := mv_D hv
  refine am_dn_eq (J := Option am_V) (n := (h 70 0).toNat) (fun k j => am_Wp d 291 108 [some (Sum.inr (Sum.inr 70)), some (Sum.inl (w)), some (Sum.inl (v_kissed (am_mv h) k)), some (Sum.inl ((k : Int)))] [] (am_SH L, h, am_RR kp) Q) (Q (some (Sum.inl (v_kissed (am_mv h) (h 70 0).toNat))) (am_SH L, h, am_RR kp)) (fun k hk ih j => ?_) (fun j => ?_) j
  · have ih2 : ∀ j, am_Wp d 291 108 [some (Sum.inr (Sum.inr 70)), some (Sum.inl (w)), some (Sum.inl (v_kissed (am_mv h) (k + 1))), some (Sum.inl (((k + 1 : Nat) : Int)))] [] (am_SH L, h, am_RR kp) Q = Q (some (Sum.inl (v_kissed (am_mv h) (h 70 0).toNat))) (am_SH L, h, am_RR kp) := ih
    clear ih
    show am_Wp d 291 108 [some (Sum.inr (Sum.inr 70)), some (Sum.inl (w)), some (Sum.inl (v_kissed (am_mv h) k)), some (Sum.inl ((k : Int)))] [] (am_SH L, h, am_RR kp) Q = _
    skip
    rw [show v_kissed (am_mv h) (k + 1) = am_add (v_kissed (am_mv h) k) (h 73 k) from rfl] at ih2
    refine (bq_M_count_108 ).trans ?_
    simp (disch := first | exact hv | omega) only [bq_M_count_0, bq_M_count_56, bq_M_count_61, bq_M_count_66, bq_M_count_71, bq_M_count_106, bq_M_count_133, bq_M_count_138, bq_M_count_143, bq_M_count_148, bq_M_count_73, bq_M_count_159, bq_M_count_96, bq_M_count_176, sp_M_in, Option.toList_some, Option.toList_none, List.cons_append, List.nil_append, am_bi0, am_bi1, am_bft, true_and, reduceCtorEq, or_false, false_or, or_true, true_or, am_gd, am_incn, am_lk_nat, Int.toNat_natCast, ↓reduceIte, Int.reduceEq]
    rw [if_neg (by omega)]
    exact ih2 none
  · show am_Wp d 291 108 [some (Sum.inr (Sum.inr 70)), some (Sum.inl (w)), some (Sum.inl (v_kissed (am_mv h) ((h 70 0).toNat))), some (Sum.inl ((((h 70 0).toNat : Nat) : Int)))] [] (am_SH L, h, am_RR kp) Q = _
    refine (bq_M_count_108 ).trans ?_
    simp (disch := first | exact hv | omega) only [bq_M_count_0, bq_M_count_56, bq_M_count_61, bq_M_count_66, bq_M_count_71, bq_M_count_106, bq_M_count_133, bq_M_count_138, bq_M_count_143, bq_M_count_148, bq_M_count_73, bq_M_count_159, bq_M_count_96, bq_M_count_176, sp_M_in, Option.toList_some, Option.toList_none, List.cons_append, List.nil_append, am_bi0, am_bi1, am_bft, true_and, reduceCtorEq, or_false, false_or, or_true, true_or, am_gd, am_incn, am_lk_nat, Int.toNat_natCast, ↓reduceIte, Int.reduceEq]
    rw [if_pos (by omega)]
    try rfl

theorem m_count {d L kp : Nat} {h : Nat → Nat → Int} {w : Int} (hd : 1 ≤ d) (hv : v_ok (am_mv h)) : am_An L 81 (a_count (am_mv h) (h 70 16) (h 70 46) (h 70 31) (h 81) w) h (fun Q => am_Wp d 291 0 [some (Sum.inr (Sum.inr 70)), some (Sum.inl w), none, none] [] (am_SH L, h, am_RR kp) Q) := by
  intro Q hq
  show am_Wp d 291 0 [some (Sum.inr (Sum.inr 70)), some (Sum.inl w), none, none] [] (am_SH L, h, am_RR kp) Q
  have h3 := hq (am_up h 70 13 0) kp (am_keep_up rfl am_keep_r)
  unfold a_count at h3
  dsimp only [am_bump] at h3
  by_cases w0 : w = 0
  · subst w0
    simp only [↓reduceIte, Int.reduceEq, Int.reduceAdd, Int.zero_add] at h3
    have r0 : am_Wp d 291 0 [some (Sum.inr (Sum.inr 70)), some (Sum.inl (0)), none, none] [] (am_SH L, h, am_RR kp) Q = am_Wp d 291 56 [some (Sum.inr (Sum.inr 70)), some (Sum.inl (0)), some (Sum.inl (0)), none] [] (am_SH L, (am_up h 70 13 0), am_RR kp) Q := by
      rw [bq_M_count_0]
      simp only [↓reduceIte, Int.reduceEq, Int.reduceAdd, Int.zero_add]
    rw [r0, bq_M_count_56]
    exact h3
  by_cases w1 : w = 1
  · subst w1
    simp only [↓reduceIte, Int.reduceEq, Int.reduceAdd, Int.zero_add] at h3
    have r0 : am_Wp d 291 0 [some (Sum.inr (Sum.inr 70)), some (Sum.inl (1)), none, none] [] (am_SH L, h, am_RR kp) Q = am_Wp d 291 61 [some (Sum.inr (Sum.inr 70)), some (Sum.inl (1)), some (Sum.inl (0)), none] [] (am_SH L, (am_up h 70 13 0), am_RR kp) Q := by
      rw [bq_M_count_0]
      simp only [↓reduceIte, Int.reduceEq, Int.reduceAdd, Int.zero_add]
    rw [r0, bq_M_count_61]
    exact h3
  by_cases w2 : w = 2
  · subst w2
    simp only [↓reduceIte, Int.reduceEq, Int.reduceAdd, Int.zero_add] at h3
    have r0 : am_Wp d 291 0 [some (Sum.inr (Sum.inr 70)), some (Sum.inl (2)), none, none] [] (am_SH L, h, am_RR kp) Q = am_Wp d 291 66 [some (Sum.inr (Sum.inr 70)), some (Sum.inl (2)), some (Sum.inl (0)), none] [] (am_SH L, (am_up h 70 13 0), am_RR kp) Q := by
      rw [bq_M_count_0]
      simp only [↓reduceIte, Int.reduceEq, Int.reduceAdd, Int.zero_add]
    rw [r0, bq_M_count_66]
    exact h3
  by_cases w3 : w = 3
  · subst w3
    simp only [↓reduceIte, Int.reduceEq, Int.reduceAdd, Int.zero_add] at h3
    have r0 : am_Wp d 291 0 [some (Sum.inr (Sum.inr 70)), some (Sum.inl (3)), none, none] [] (am_SH L, h, am_RR kp) Q = am_Wp d 291 71 [some (Sum.inr (Sum.inr 70)), some (Sum.inl (3)), some (Sum.inl (0)), none] [] (am_SH L, (am_up h 70 13 0), am_RR kp) Q := by
      rw [bq_M_count_0]
      simp only [↓reduceIte, Int.reduceEq, Int.reduceAdd, Int.zero_add]
    rw [r0, bq_M_count_71]
    exact (lp_M_count3 (h := (am_up h 70 13 0)) hd hv).mpr h3
  by_cases w4 : w = 4
  · subst w4
    simp only [↓reduceIte, Int.reduceEq, Int.reduceAdd, Int.zero_add] at h3
    have r0 : am_Wp d 291 0 [some (Sum.inr (Sum.inr 70)), some (Sum.inl (4)), none, none] [] (am_SH L, h, am_RR kp) Q = am_Wp d 291 106 [some (Sum.inr (Sum.inr 70)), some (Sum.inl (4)), some (Sum.inl (0)), none] [] (am_SH L, (am_up h 70 13 0), am_RR kp) Q := by
      rw [bq_M_count_0]
      simp only [↓reduceIte, Int.reduceEq, Int.reduceAdd, Int.zero_add]
    rw [r0, bq_M_count_106]
    exact (lp_M_count4 (h := (am_up h 70 13 0)) none hd hv).mpr h3
  by_cases w5 : w = 5
  · subst w5
    simp only [↓reduceIte, Int.reduceEq, Int.reduceAdd, Int.zero_add] at h3
    have r0 : am_Wp d 291 0 [some (Sum.inr (Sum.inr 70)), some (Sum.inl (5)), none, none] [] (am_SH L, h, am_RR kp) Q = am_Wp d 291 133 [some (Sum.inr (Sum.inr 70)), some (Sum.inl (5)), some (Sum.inl (0)), none] [] (am_SH L, (am_up h 70 13 0), am_RR kp) Q := by
      rw [bq_M_count_0]
      simp only [↓reduceIte, Int.reduceEq, Int.reduceAdd, Int.zero_add]
    rw [r0, bq_M_count_133]
    exact h3
  by_cases w6 : w = 6
  · subst w6
    simp only [↓reduceIte, Int.reduceEq, Int.reduceAdd, Int.zero_add] at h3
    have r0 : am_Wp d 291 0 [some (Sum.inr (Sum.inr 70)), some (Sum.inl (6)), none, none] [] (am_SH L, h, am_RR kp) Q = am_Wp d 291 138 [some (Sum.inr (Sum.inr 70)), some (Sum.inl (6)), some (Sum.inl (0)), none] [] (am_SH L, (am_up h 70 13 0), am_RR kp) Q := by
      rw [bq_M_count_0]
      simp only [↓reduceIte, Int.reduceEq, Int.reduceAdd, Int.zero_add]
    rw [r0, bq_M_count_138]
    exact h3
  by_cases w7 : w = 7
  · subst w7
    simp only [↓reduceIte, Int.reduceEq, Int.reduceAdd, Int.zero_add] at h3
    have r0 : am_Wp d 291 0 [some (Sum.inr (Sum.inr 70)), some (Sum.inl (7)), none, none] [] (am_SH L, h, am_RR kp) Q = am_Wp d 291 143 [some (Sum.inr (Sum.inr 70)), some (Sum.inl (7)), some (Sum.inl (0)), none] [] (am_SH L, (am_up h 70 13 0), am_RR kp) Q := by
      rw [bq_M_count_0]
      simp only [↓reduceIte, Int.reduceEq, Int.reduceAdd, Int.zero_add]
    rw [r0, bq_M_count_143]
    exact h3
  simp only [w0, w1, w2, w3, w4, w5, w6, w7, ↓reduceIte] at h3
  rw [bq_M_count_0]
  simp only [w0, w1, w2, w3, w4, w5, w6, w7, ↓reduceIte, Int.reduceEq, Int.reduceAdd, Int.zero_add]
  rw [bq_M_count_148 (by omega), sp_M_in]
  simp only [Option.toList_some, Option.toList_none, List.cons_append, List.nil_append]
  rw [bq_M_count_159]
  by_cases q1 : 11 ≤ w ∧ w ≤ 16
  · rw [if_pos q1] at h3
    rw [decide_eq_true q1, if_neg am_b0, am_sub_ok (by omega) (by omega), am_gd (by omega) (by omega), bq_M_count_176]
    exact h3
  · rw [if_neg q1] at h3
    rw [decide_eq_false q1, if_pos am_bif, bq_M_count_176]
    exact h3