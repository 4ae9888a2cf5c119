/-! THE REFERENCE'S STATEMENTS COME -/
def m_fr (h g : Nat → Nat → Int) : Prop := ∀ c j, (c = 70 → ¬ (j = 0 ∨ j = 5 ∨ j = 6)) → ¬ (71 ≤ c ∧ c ≤ 80) → g c j = h c j
/-- what was told of a statement -/
def m_told (le : Nat → Int) (g : Nat → Nat → Int) (k s : Nat) : Prop := g 83 k = (s : Int) ∧ g 84 k = le s ∧ (le s = 100 → g 85 (5 * k) = u_d le s 1 ∧ g 85 (5 * k + 1) = 0) ∧ (le s = 109 → g 85 (5 * k) = u_dd le s 1 ∧ g 85 (5 * k + 1) = u_d le s 3) ∧ (le s = 111 → g 85 (5 * k) = u_d le s 1 ∧ g 85 (5 * k + 1) = u_d le s 2 ∧ g 85 (5 * k + 2) = u_dd le s 3 ∧ g 85 (5 * k + 3) = u_dd le s 5 ∧ g 85 (5 * k + 4) = if le (s + 7) = 120 then 1 else 0) ∧ (le s = 112 → g 85 (5 * k) = u_d le s 1 ∧ g 85 (5 * k + 1) = u_d le s 2) ∧ (le s = 117 → g 85 (5 * k) = u_d le s 1 ∧ g 85 (5 * k + 1) = u_d le s 2)
theorem sp_M_comes {d L kp : Nat} {h : Nat → Nat → Int} {Q : Option am_V → am_H → Prop} {le : Nat → Int} {n s k : Nat} (hd : 8 ≤ d) (hf : u_fit le n s) (h49 : k < 49) (ht : m_told le h k s) (hv : v_ok (am_mv h)) (hq1 : ∀ g U, u_do le s (am_mv h) = some U → am_mv g = U → m_fr h g → Q (some (Sum.inl 1)) (am_SH L, g, am_RR kp)) (hq2 : u_do le s (am_mv h) = none → Q (some (Sum.inl 0)) (am_SH L, h, am_RR kp)) : am_Wp d 200 0 [some (Sum.inr (Sum.inr 70)), some (Sum.inl (k : Int)), none, none, none, none, none] [] (am_SH L, h, am_RR kp) Q := by
  have hQ := mv_Q hv
  have hP := mv_P hv
  have hD := mv_D hv
  obtain ⟨-, t84, t100, t109, t111, t112, t117⟩ := ht
  have m5 : am_mul 5 (k : Int) = ((5 * k : Nat) : Int) := by rw [am_mul_ok (by omega) (by omega)]; omega
  have m51 : am_add ((5 * k : Nat) : Int) 1 = ((5 * k + 1 : Nat) : Int) := am_incn (by omega)
  have m52 : am_add ((5 * k : Nat) : Int) 2 = ((5 * k + 2 : Nat) : Int) := by rw [am_add_ok (by omega) (by omega)]; omega
  have m53 : am_add ((5 * k : Nat) : Int) 3 = ((5 * k + 3 : Nat) : Int) := by rw [am_add_ok (by omega) (by omega)]; omega
  have m54 : am_add ((5 * k : Nat) : Int) 4 = ((5 * k + 4 : Nat) : Int) := by rw [am_add_ok (by omega) (by omega)]; omega
  rw [bq_M_comes_0, m5, m51, am_gd (by omega) (by omega), am_gd (by omega) (by omega), am_gd (by omega) (by omega), Int.toNat_natCast, Int.toNat_natCast, Int.toNat_natCast, t84]
  unfold u_do at hq1 hq2
  rcases u_x_cases (le s) with ⟨e, hx⟩ | ⟨e, hx⟩ | ⟨e, hx⟩ | ⟨e, hx⟩ | ⟨e, hx⟩ | ⟨-, hx⟩
  · rw [if_pos e] at hq1 hq2
    obtain ⟨v0, v1⟩ := t100 e
    have hl := u_l_of (m := 3) hx rfl
    have d1 := u_dig hf (i := 1) (by omega) (by rw [u_t_of hx]; rfl)
    obtain ⟨a, ha⟩ := Int.eq_ofNat_of_zero_le d1.2.1
    rw [ha] at hq1 hq2 v0
    rw [v0, v1, if_neg (by omega), if_neg (by omega), if_neg (by omega), if_neg (by omega), if_neg (by omega), if_neg (by omega), if_neg (by omega), if_neg (by omega), if_neg (by omega), bq_M_comes_337, am_add_ok (by omega) (by omega)]
    have eD : vD (am_mv h) = h 70 5 := rfl
    by_cases q : vD (am_mv h) + (a : Int) ≤ 99
    · rw [if_neg (by omega), bq_M_comes_353]
      have hq3 := hq1 (am_runk h a) _ (if_pos q) (by rw [am_runk_mv, Int.toNat_natCast]) (fun c j h1 h2 => am_runk_o (by omega) (by omega) (fun w => h1 w.1 (by omega)))
      have key := am_up_fr (a := 0) (n := a) (fun i => am_Wp d 200 358 [some (Sum.inr (Sum.inr 70)), some (Sum.inl ((k : Int))), some (Sum.inl (((5 * k : Nat) : Int))), some (Sum.inl ((a : Int))), some (Sum.inl (0)), some (Sum.inl (1)), some (Sum.inl ((i : Int)))] [] (am_SH L, am_runk h i, am_RR kp) Q) (Q (some (Sum.inl 1)) (am_SH L, am_runk h a, am_RR kp)) (by omega) (fun i h1 h2 => ?_) ?_
      · exact (show am_Wp d 200 358 [some (Sum.inr (Sum.inr 70)), some (Sum.inl ((k : Int))), some (Sum.inl (((5 * k : Nat) : Int))), some (Sum.inl ((a : Int))), some (Sum.inl (0)), some (Sum.inl (1)), some (Sum.inl (0))] [] (am_SH L, h, am_RR kp) Q = _ from key).mpr hq3
      · show am_Wp d 200 358 [some (Sum.inr (Sum.inr 70)), some (Sum.inl ((k : Int))), some (Sum.inl (((5 * k : Nat) : Int))), some (Sum.inl ((a : Int))), some (Sum.inl (0)), some (Sum.inl (1)), some (Sum.inl ((i : Int)))] [] (am_SH L, am_runk h i, am_RR kp) Q = am_Wp d 200 358 [some (Sum.inr (Sum.inr 70)), some (Sum.inl ((k : Int))), some (Sum.inl (((5 * k : Nat) : Int))), some (Sum.inl ((a : Int))), some (Sum.inl (0)), some (Sum.inl (1)), some (Sum.inl (((i + 1 : Nat) : Int)))] [] (am_SH L, am_fday (am_runk h i), am_RR kp) Q
        have hvk : v_ok (am_mv (am_runk h i)) := by
          rw [am_runk_mv]; exact v_run_ok hv (by omega)
        have eDk : am_runk h i 70 5 = h 70 5 + (i : Int) := by
          have : vD (am_mv (am_runk h i)) = vD (am_mv h) + (i : Int) := by rw [am_runk_mv]; exact v_run_c.2.2.1
          exact this
        refine (bq_M_comes_358 (by omega)).trans ?_
        rw [if_neg (by omega), if_neg (by omega), sp_M_fallDue (by omega) hvk]
        simp only [Option.toList_some, Option.toList_none, List.cons_append, List.nil_append]
        rw [bq_M_comes_373, am_incn (by omega), show am_falk 73 80 (am_runk h i) (am_mv (am_runk h i)) (am_runk h i 70 6).toNat 70 5 = am_runk h i 70 5 from rfl, am_add_ok (by omega) (by omega)]
        rfl
      · show am_Wp d 200 358 [some (Sum.inr (Sum.inr 70)), some (Sum.inl ((k : Int))), some (Sum.inl (((5 * k : Nat) : Int))), some (Sum.inl ((a : Int))), some (Sum.inl (0)), some (Sum.inl (1)), some (Sum.inl ((a : Int)))] [] (am_SH L, am_runk h a, am_RR kp) Q = _
        refine (bq_M_comes_358 (by omega)).trans ?_
        rw [if_pos (by omega), bq_M_comes_390, am_11]
    · rw [if_pos (by omega), bq_M_comes_353, bq_M_comes_358 (by omega)]
      have hq3 := hq2 (if_neg q)
      have r : am_Wp d 200 390 [some (Sum.inr (Sum.inr 70)), some (Sum.inl ((k : Int))), some (Sum.inl (((5 * k : Nat) : Int))), some (Sum.inl ((a : Int))), some (Sum.inl (0)), some (Sum.inl (0)), some (Sum.inl (0))] [] (am_SH L, h, am_RR kp) Q := by
        rw [bq_M_comes_390, am_01]; exact hq3
      by_cases q2 : (a : Int) ≤ 0
      · rw [if_pos q2]; exact r
      · rw [if_neg q2, if_pos rfl]; exact r
  · rw [if_neg (by omega), if_pos e] at hq1 hq2
    obtain ⟨v0, v1⟩ := t109 e
    rw [v0, v1, if_pos e, bq_M_comes_288 (by omega), sp_M_isPaper (by omega) hv]
    simp only [Option.toList_some, Option.toList_none, List.cons_append, List.nil_append]
    rw [bq_M_comes_293 (by omega)]
    have r319 : v_take (am_mv h) (u_dd le s 1) (u_d le s 3) = false → am_Wp d 200 319 [some (Sum.inr (Sum.inr 70)), some (Sum.inl ((k : Int))), some (Sum.inl (((5 * k : Nat) : Int))), some (Sum.inl ((u_dd le s 1))), some (Sum.inl ((u_d le s 3))), some (Sum.inl (1)), none] [] (am_SH L, h, am_RR kp) Q := fun w => by
      rw [bq_M_comes_319, bq_M_comes_320 (by omega), if_pos rfl, bq_M_comes_334, am_01]
      exact hq2 (if_neg (by rw [w]; decide))
    cases e1 : v_isQ (am_mv h) (u_dd le s 1)
    · rw [if_pos am_bif]
      refine r319 ?_
      unfold v_take v_open
      rw [e1]; rfl
    · rw [if_neg am_b0, sp_M_isOne (by omega) hv]
      simp only [Option.toList_some, Option.toList_none, List.cons_append, List.nil_append]
      rw [bq_M_comes_302 (by omega)]
      cases e2 : v_isP (am_mv h) (u_d le s 3)
      · rw [if_pos am_bif]
        refine r319 ?_
        unfold v_take
        rw [e2, Bool.and_false, Bool.false_and, Bool.false_and]
      · obtain ⟨f1, f2⟩ := v_isQ_iff.1 e1
        obtain ⟨f3, f4⟩ := v_isP_iff.1 e2
        rw [if_neg am_b0, sp_M_canGo (by omega) hv f1 f2 f3 f4]
        simp only [Option.toList_some, Option.toList_none, List.cons_append, List.nil_append]
        rw [bq_M_comes_312]
        cases e3 : v_take (am_mv h) (u_dd le s 1) (u_d le s 3)
        · rw [if_pos am_bif]
          exact r319 e3
        · obtain ⟨p, hp, h16, ho⟩ := v_take_o hv e3
          rw [if_neg am_b0, bq_M_comes_320 (by omega), if_neg (by omega), hp, sp_M_makeOver h16]
          simp only [Option.toList_some, Option.toList_none, List.cons_append, List.nil_append]
          rw [bq_M_comes_334, am_11]
          refine hq1 _ _ (if_pos e3) ?_ (fun c j h1 h2 => by rw [am_upo (by omega), am_upo (by omega)])
          rw [hp, Int.toNat_natCast]; rfl
  · rw [if_neg (by omega), if_neg (by omega), if_pos e] at hq1 hq2
    obtain ⟨v0, v1, v2, v3, v4⟩ := t111 e
    have hl := u_l_of (m := 9) hx rfl
    have d3 := u_dig hf (i := 3) (by omega) (by rw [u_t_of hx]; rfl)
    have d4 := u_dig hf (i := 4) (by omega) (by rw [u_t_of hx]; rfl)
    have d5 := u_dig hf (i := 5) (by omega) (by rw [u_t_of hx]; rfl)
    have d6 := u_dig hf (i := 6) (by omega) (by rw [u_t_of hx]; rfl)
    have f3 : u_dd le s 3 = 10 * u_d le s 3 + u_d le s 4 := rfl
    have f5 : u_dd le s 5 = 10 * u_d le s 5 + u_d le s 6 := rfl
    have eQ : vQ (am_mv h) = h 70 6 := rfl
    rw [v0, v1, if_neg (by omega), if_neg (by omega), if_pos (by omega), bq_M_comes_191 (by omega), sp_M_areTwo (by omega) hv]
    simp only [Option.toList_some, Option.toList_none, List.cons_append, List.nil_append]
    rw [bq_M_comes_198 (by omega)]
    have r246 : ¬ (v_two (am_mv h) (u_d le s 1) (u_d le s 2) = true ∧ vQ (am_mv h) < 16 ∧ 1 ≤ u_dd le s 3 ∧ u_dd le s 3 ≤ 40 ∧ 0 ≤ u_dd le s 5 ∧ u_dd le s 5 ≤ 98) → am_Wp d 200 246 [some (Sum.inr (Sum.inr 70)), some (Sum.inl ((k : Int))), some (Sum.inl (((5 * k : Nat) : Int))), some (Sum.inl ((u_d le s 1))), some (Sum.inl ((u_d le s 2))), some (Sum.inl (1)), none] [] (am_SH L, h, am_RR kp) Q := fun w => by
      rw [bq_M_comes_246, bq_M_comes_247 (by omega), if_pos rfl, bq_M_comes_285, am_01]
      exact hq2 (if_neg w)
    cases e1 : v_two (am_mv h) (u_d le s 1) (u_d le s 2)
    · rw [if_pos am_bif]
      exact r246 (fun w => by have := w.1; rw [e1] at this; cases this)
    · rw [if_neg am_b0, m52, am_gd (by omega) (by omega), Int.toNat_natCast, v2, sp_M_in]
      simp only [Option.toList_some, Option.toList_none, List.cons_append, List.nil_append]
      rw [bq_M_comes_217, m53]
      by_cases q1 : 1 ≤ u_dd le s 3 ∧ u_dd le s 3 ≤ 40
      · rw [decide_eq_true q1, if_neg am_b0, am_gd (by omega) (by omega), Int.toNat_natCast, v3]
        by_cases q2 : 99 ≤ u_dd le s 5
        · rw [if_pos q2]
          exact r246 (fun w => by omega)
        · rw [if_neg q2]
          by_cases q3 : 16 ≤ h 70 6
          · rw [if_pos q3]
            exact r246 (fun w => by omega)
          · obtain ⟨K, hK⟩ := Int.eq_ofNat_of_zero_le hQ.1
            rw [if_neg q3, bq_M_comes_247 (by omega), if_neg (by omega), m52, m53, m54, am_gd (by omega) (by omega), am_gd (by omega) (by omega), am_gd (by omega) (by omega), Int.toNat_natCast, Int.toNat_natCast, Int.toNat_natCast, v2, v3, v4, sp_M_paperComes (k := K) hK (by omega)]
            simp only [Option.toList_some, Option.toList_none, List.cons_append, List.nil_append]
            rw [bq_M_comes_285, am_11]
            refine hq1 _ _ (if_pos ⟨e1, by omega, q1.1, q1.2, by omega, by omega⟩) ?_ (fun c j h1 h2 => ?_)
            · have e2 : vQ (am_mv h) = (K : Int) := hK
              unfold v_pap
              rw [e2, Int.toNat_natCast, am_incn (by omega)]
              rfl
            · have e7 : ∀ x, am_up (am_up (am_up (am_up (am_up (am_up (am_up h 75 K (u_d le s 1)) 76 K (u_d le s 2)) 77 K (u_dd le s 3)) 78 K (u_dd le s 5)) 79 K (if le (s + 7) = 120 then 1 else 0)) 80 K 0) 70 6 x c j = am_up (am_up (am_up (am_up (am_up (am_up h 75 K (u_d le s 1)) 76 K (u_d le s 2)) 77 K (u_dd le s 3)) 78 K (u_dd le s 5)) 79 K (if le (s + 7) = 120 then 1 else 0)) 80 K 0 c j := fun x => by
                by_cases q7 : c = 70
                · subst q7
                  exact (if_pos rfl).trans (if_neg (fun w => h1 rfl (by omega)))
                · exact am_upo q7
              rw [e7, am_upo (by omega), am_upo (by omega), am_upo (by omega), am_upo (by omega), am_upo (by omega), am_upo (by omega)]
      · rw [decide_eq_false q1, if_pos am_bif]
        exact r246 (fun w => by omega)
  · rw [if_neg (by omega), if_neg (by omega), if_neg (by omega), if_pos e] at hq1 hq2
    obtain ⟨v0, v1⟩ := t112 e
    have hl := u_l_of (m := 4) hx rfl
    have d1 := u_dig hf (i := 1) (by omega) (by rw [u_t_of hx]; rfl)
    have d2 := u_dig hf (i := 2) (by omega) (by rw [u_t_of hx]; rfl)
    have eP : vP (am_mv h) = h 70 0 := rfl
    rw [v0, v1, if_neg (by omega), if_neg (by omega), if_neg (by omega), if_pos (by omega), bq_M_comes_80]
    by_cases q1 : 6 ≤ u_d le s 1
    · rw [if_pos q1, bq_M_comes_99, bq_M_comes_100, if_pos rfl, bq_M_comes_158, am_01]
      exact hq2 (if_neg (by omega))
    · rw [if_neg q1]
      by_cases q2 : 7 ≤ h 70 0
      · rw [if_pos q2, bq_M_comes_99, bq_M_comes_100, if_pos rfl, bq_M_comes_158, am_01]
        exact hq2 (if_neg (by omega))
      · obtain ⟨P, hK⟩ := Int.eq_ofNat_of_zero_le hP.1
        rw [if_neg q2, bq_M_comes_100, if_neg (by omega)]
        simp (disch := omega) only [am_upo, hK, am_gd, Int.toNat_natCast, am_incn]
        rw [bq_M_comes_158, am_11]
        refine hq1 _ _ (if_pos ⟨by omega, by omega, by omega⟩) ?_ (fun c j h1 h2 => ?_)
        · have e2 : vP (am_mv h) = (P : Int) := hK
          unfold v_per
          rw [e2, Int.toNat_natCast, am_incn (by omega)]
          rfl
        · have e7 : ∀ x, am_up (am_up (am_up (am_up (am_up h 71 P (u_d le s 1)) 72 P (u_d le s 2)) 73 P 0) 74 P 0) 70 0 x c j = am_up (am_up (am_up (am_up h 71 P (u_d le s 1)) 72 P (u_d le s 2)) 73 P 0) 74 P 0 c j := fun x => by
            by_cases q7 : c = 70
            · subst q7
              exact (if_pos rfl).trans (if_neg (fun w => h1 rfl (by omega)))
            · exact am_upo q7
          rw [e7, am_upo (by omega), am_upo (by omega), am_upo (by omega), am_upo (by omega)]
  · rw [if_neg (by omega), if_neg (by omega), if_neg (by omega), if_neg (by omega), if_pos e] at hq1 hq2
    obtain ⟨v0, v1⟩ := t117 e
    rw [v0, v1, if_neg (by omega), if_neg (by omega), if_neg (by omega), if_neg (by omega), if_neg (by omega), if_neg (by omega), if_neg (by omega), if_neg (by omega), if_pos (by omega), bq_M_comes_161 (by omega), sp_M_areTwo (by omega) hv]
    simp only [Option.toList_some, Option.toList_none, List.cons_append, List.nil_append]
    rw [bq_M_comes_168]
    cases ht : v_two (am_mv h) (u_d le s 1) (u_d le s 2)
    · rw [if_pos am_bif, bq_M_comes_188, show am_bi false = 0 from rfl, am_01]
      exact hq2 (if_neg (by rw [ht]; decide))
    · obtain ⟨f1, f2, -⟩ := v_two_iff.1 ht
      have hP2 : vP (am_mv h) ≤ 7 := hP.2
      obtain ⟨a, ha⟩ := Int.eq_ofNat_of_zero_le f1.1
      obtain ⟨c, hc⟩ := Int.eq_ofNat_of_zero_le f2.1
      rw [if_neg am_b0, am_gd (by omega) (by omega), am_gd (by omega) (by omega), bq_M_comes_188, show am_bi true = 1 from rfl, am_11]
      refine hq1 _ _ (if_pos ht) ?_ (fun c j h1 h2 => am_upo (by omega))
      rw [ha, hc, Int.toNat_natCast, Int.toNat_natCast]; rfl
  · have h1 := hf.1
    rw [u_l_of (m := 0) hx rfl] at h1
    omega