/-! THE CALL deaths -/
theorem an_pow_le {b i : Nat} (hb : b ≤ 20) (hi : i ≤ 12) : b ^ i ≤ 4096000000000000 := by
  have h1 : b ^ i ≤ 20 ^ i := Nat.pow_le_pow_left hb i
  have h2 : 20 ^ i ≤ 20 ^ 12 := Nat.pow_le_pow_right (by omega) hi
  have h3 : (20 : Nat) ^ 12 = 4096000000000000 := by decide
  omega
theorem an_pow_s {b i : Nat} (hb : b ≤ 20) (hi : i + 1 ≤ 12) : am_lmul ((b ^ i : Nat) : Int) (b : Int) = ((b ^ (i + 1) : Nat) : Int) := by
  have h1 := an_pow_le (b := b) (i := i + 1) hb hi
  have e : ((b ^ (i + 1) : Nat) : Int) = ((b ^ i : Nat) : Int) * (b : Int) := by rw [Nat.pow_succ]; push_cast; rfl
  rw [an_lmul_ok (by rw [← e]; omega) (by rw [← e]; omega), e]
def a_deaths (V : am_Vw) (p t u : Int) : am_V × Nat := if v_isQ V p = false then (Sum.inr (Sum.inl 4000000000000000001), 1) else if t < 2 then (Sum.inr (Sum.inl 4000000000000000004), 4) else if 20 < t then (Sum.inr (Sum.inl 4000000000000000006), 6) else if ¬ (u = 0 ∨ u = 1) then (Sum.inr (Sum.inl 4000000000000000002), 2) else if ¬ (vT V p.toNat = 0 ∧ 0 ≤ vE V p.toNat - vD V ∧ vE V p.toNat - vD V ≤ 12) then (Sum.inr (Sum.inl 4000000000000000003), 3) else (Sum.inr (Sum.inl (((if u = 0 then t.toNat - 1 else t.toNat) ^ (vE V p.toNat - vD V).toNat : Nat) : Int)), 0)
theorem c_deaths {d L kp : Nat} {h : Nat → Nat → Int} {i t u : Int} (hd : 3 ≤ d) (hv : v_ok (am_wv h 2)) : am_An L 41 (a_deaths (am_wv h 2) i t u) h (fun Q => am_Wp d 130 0 [some (Sum.inr (Sum.inr 1)), some (Sum.inl i), some (Sum.inl t), some (Sum.inl u), none, none, none, none] [] (am_SH L, h, am_RR kp) Q) := by
  have hQ := wv_Q hv
  have hP := wv_P hv
  have hD := wv_D hv
  intro Q hq
  show am_Wp d 130 0 [some (Sum.inr (Sum.inr 1)), some (Sum.inl i), some (Sum.inl t), some (Sum.inl u), none, none, none, none] [] (am_SH L, h, am_RR kp) Q
  have h3 := hq h kp am_keep_r
  unfold a_deaths at h3
  rw [bq_KO_deaths_0 (by omega), sp_World_isPaper_2]
  simp only [Option.toList_some, Option.toList_none, List.cons_append, List.nil_append]
  rw [bq_KO_deaths_8 (by omega)]
  cases hi : v_isQ (am_wv h 2) i with
  | false =>
    rw [if_pos hi] at h3
    rw [if_pos am_bif]
    rw [sp_KO_refuseLong (by omega) (by omega) (by omega)]
    simp only [Option.toList_some, Option.toList_none, List.cons_append, List.nil_append]
    rw [bq_KO_deaths_16]
    exact h3
  | true =>
    rw [hi, if_neg (by simp)] at h3
    rw [if_neg am_b0]
    have hi2 := v_isQ_iff.1 hi
    dsimp only [vP, vQ, vD, vK, vF, vS, vU, vO, vH, vN, vE, vG, vT, am_mv, am_wv] at hi2
    obtain ⟨p, rfl⟩ := Int.eq_ofNat_of_zero_le hi2.1
    rw [Int.toNat_natCast] at h3
    have hp := wv_p hv p (by omega)
    by_cases q1 : t < 2
    · rw [if_pos q1] at h3
      rw [if_neg (by omega)]
      rw [sp_KO_refuseLong (by omega) (by omega) (by omega)]
      simp only [Option.toList_some, Option.toList_none, List.cons_append, List.nil_append]
      rw [bq_KO_deaths_28]
      exact h3
    rw [if_neg q1] at h3
    rw [if_pos (by omega)]
    by_cases q2 : 20 < t
    · rw [if_pos q2] at h3
      rw [if_neg (by omega)]
      rw [sp_KO_refuseLong (by omega) (by omega) (by omega)]
      simp only [Option.toList_some, Option.toList_none, List.cons_append, List.nil_append]
      rw [bq_KO_deaths_41]
      exact h3
    rw [if_neg q2] at h3
    rw [if_pos (by omega)]
    by_cases q3 : u = 0 ∨ u = 1
    · rw [if_neg (not_not_intro q3)] at h3
      have r58 : am_Wp d 130 58 [some (Sum.inr (Sum.inr 1)), some (Sum.inl ((p : Int))), some (Sum.inl (t)), some (Sum.inl (u)), none, none, none, none] [] (am_SH L, h, am_RR kp) Q := by
        rw [bq_KO_deaths_58 (by omega), sp_World_dueOf_2 (by omega)]
        simp only [Option.toList_some, Option.toList_none, List.cons_append, List.nil_append]
        rw [bq_KO_deaths_66 (by omega), sp_World_day_2]
        simp only [Option.toList_some, Option.toList_none, List.cons_append, List.nil_append]
        rw [bq_KO_deaths_73 (by omega), sp_World_isOpen_2 (by omega), am_lk_nat (by omega), v_open_nat hv (show (p : Int) < h 2 1 by omega), am_sub_ok (by omega) (by omega)]
        simp only [Option.toList_some, Option.toList_none, List.cons_append, List.nil_append]
        have ed : vE (am_wv h 2) p = h 10 p := rfl
        have et : vT (am_wv h 2) p = h 12 p := rfl
        have e2 : vD (am_wv h 2) = h 2 2 := rfl
        rw [ed, et, e2] at h3
        rw [bq_KO_deaths_84, et]
        have r99 : ¬ (h 12 p = 0 ∧ 0 ≤ h 10 p - h 2 2 ∧ h 10 p - h 2 2 ≤ 12) → am_Wp d 130 99 [some (Sum.inr (Sum.inr 1)), some (Sum.inl ((p : Int))), some (Sum.inl (t)), some (Sum.inl (u)), some (Sum.inl (h 10 p - h 2 2)), none, none, none] [] (am_SH L, h, am_RR kp) Q := fun w => by
          rw [if_pos w] at h3
          rw [bq_KO_deaths_99 (by omega), sp_KO_refuseLong (by omega) (by omega) (by omega)]
          simp only [Option.toList_some, Option.toList_none, List.cons_append, List.nil_append]
          rw [bq_KO_deaths_105]
          exact h3
        by_cases q4 : h 12 p = 0
        · rw [decide_eq_true q4, if_neg am_b0]
          by_cases q5 : h 10 p - h 2 2 < 0
          · rw [if_pos q5]; exact r99 (fun w => by omega)
          · rw [if_neg q5]
            by_cases q6 : h 10 p - h 2 2 ≤ 12
            · rw [if_pos q6]
              rw [if_neg (not_not_intro ⟨q4, by omega, q6⟩)] at h3
              obtain ⟨n, rfl⟩ := Int.eq_ofNat_of_zero_le (show 0 ≤ t by omega)
              obtain ⟨k, hk⟩ := Int.eq_ofNat_of_zero_le (show 0 ≤ h 10 p - h 2 2 by omega)
              rw [hk, Int.toNat_natCast, Int.toNat_natCast] at h3
              rw [hk]
              have hbase : (if u = 0 then am_sub (n : Int) 1 else (n : Int)) = ((if u = 0 then n - 1 else n : Nat) : Int) := by
                by_cases qu : u = 0
                · rw [if_pos qu, if_pos qu, am_sub_ok (by omega) (by omega)]; omega
                · rw [if_neg qu, if_neg qu]
              have hb20 : (if u = 0 then n - 1 else n) ≤ 20 := by split <;> omega
              generalize (if u = 0 then n - 1 else n) = b at h3 hbase hb20
              refine (am_dn_fr (J := Option am_V) (a := 0) (n := k) (fun i j => am_Wp d 130 112 [some (Sum.inr (Sum.inr 1)), some (Sum.inl ((p : Int))), some (Sum.inl ((n : Int))), some (Sum.inl (u)), some (Sum.inl ((k : Int))), some (Sum.inr (Sum.inl (((b ^ i : Nat) : Int)))), j, some (Sum.inl ((i : Int)))] [] (am_SH L, h, am_RR kp) Q) (Q (some (Sum.inr (Sum.inl ((b ^ k : Nat) : Int)))) (am_SH L, h, am_RR kp)) (by omega) (fun i _ hik ih j => ?_) (fun j => ?_) none).mpr h3
              · refine (bq_KO_deaths_112).trans ?_
                rw [if_neg (by omega)]
                have i2 := ih none
                have es := an_pow_s (b := b) (i := i) hb20 (by omega)
                by_cases qu : u = 0
                · rw [if_pos qu] at hbase
                  rw [if_pos qu, bq_KO_deaths_134, am_incn (by omega), hbase, es]
                  exact i2
                · rw [if_neg qu] at hbase
                  rw [if_neg qu, bq_KO_deaths_134, am_incn (by omega), hbase, es]
                  rw [hbase] at i2
                  exact i2
              · refine (bq_KO_deaths_112).trans ?_
                rw [if_pos (by omega)]
            · rw [if_neg q6]; exact r99 (fun w => by omega)
        · rw [decide_eq_false q4, if_pos am_bif]; exact r99 (fun w => q4 w.1)
      rcases q3 with q3 | q3
      · rw [if_pos q3]; exact r58
      · rw [if_neg (by omega), if_pos q3]; exact r58
    · rw [if_pos q3] at h3
      rw [if_neg (fun w => q3 (Or.inl w)), if_neg (fun w => q3 (Or.inr w))]
      rw [sp_KO_refuseLong (by omega) (by omega) (by omega)]
      simp only [Option.toList_some, Option.toList_none, List.cons_append, List.nil_append]
      rw [bq_KO_deaths_57]
      exact h3
theorem lp_M_deaths {d L kp : Nat} {h : Nat → Nat → Int} {Q : Option am_V → am_H → Prop} {p n k : Nat} {u : Int} (j : Option am_V × Option am_V × Option am_V × Option am_V) {E : Prop}  (hv : v_ok (am_mv h)) (hp : (p : Int) < h 70 6) (hn : n ≤ 20) (hn1 : 1 ≤ n) (hk : k ≤ 12) (he : h 78 p = h 70 5 + (k : Int)) (hd : 1 ≤ d) (hE : ∀ j : Option am_V × Option am_V × Option am_V × Option am_V, am_Wp d 260 105 [some (Sum.inr (Sum.inr 70)), some (Sum.inl ((p : Int))), some (Sum.inl ((n : Int))), some (Sum.inl (u)), j.1, some (Sum.inr (Sum.inl ((((n - 1) ^ k : Nat) : Int)))), j.2.1, some (Sum.inr (Sum.inl (((n ^ k : Nat) : Int)))), j.2.2.1, some (Sum.inl (h 78 p)), j.2.2.2] [] (am_SH L, h, am_RR kp) Q = E) : am_Wp d 260 105 [some (Sum.inr (Sum.inr 70)), some (Sum.inl ((p : Int))), some (Sum.inl ((n : Int))), some (Sum.inl (u)), j.1, some (Sum.inr (Sum.inl ((((n - 1) ^ 0 : Nat) : Int)))), j.2.1, some (Sum.inr (Sum.inl (((n ^ 0 : Nat) : Int)))), j.2.2.1, some (Sum.inl (h 70 5)), j.2.2.2] [] (am_SH L, h, am_RR kp) Q = E := by
  have hQ := mv_Q hv
  have hP := mv_P hv
  have hD := mv_D hv
  have h0 := am_dn_fr (J := Option am_V × Option am_V × Option am_V × Option am_V) (a := 0) (n := k) (fun i j => am_Wp d 260 105 [some (Sum.inr (Sum.inr 70)), some (Sum.inl ((p : Int))), some (Sum.inl ((n : Int))), some (Sum.inl (u)), j.1, some (Sum.inr (Sum.inl ((((n - 1) ^ i : Nat) : Int)))), j.2.1, some (Sum.inr (Sum.inl (((n ^ i : Nat) : Int)))), j.2.2.1, some (Sum.inl (h 70 5 + (i : Int))), j.2.2.2] [] (am_SH L, h, am_RR kp) Q) E (by omega) (fun i _ hik ih j => ?_) (fun j => ?_) j
  · rw [show h 70 5 + ((0 : Nat) : Int) = h 70 5 by omega] at h0
    exact h0
  · have hp2 := mv_p hv p (by omega)
    refine (bq_M_deaths_105 (by omega)).trans ?_
    rw [am_gd (by omega) (by omega), Int.toNat_natCast, if_neg (by omega), am_add_ok (by omega) (by omega)]
    have es := an_pow_s (b := n - 1) (i := i) (by omega) (by omega)
    have et := an_pow_s (b := n) (i := i) (by omega) (by omega)
    have e1 : am_sub (n : Int) 1 = ((n - 1 : Nat) : Int) ∨ n = 0 := by
      by_cases q : n = 0
      · exact Or.inr q
      · exact Or.inl (by rw [am_sub_ok (by omega) (by omega)]; omega)
    have i2 : ∀ j1 j2 j3 j4 : Option am_V, am_Wp d 260 105 [some (Sum.inr (Sum.inr 70)), some (Sum.inl ((p : Int))), some (Sum.inl ((n : Int))), some (Sum.inl (u)), j1, some (Sum.inr (Sum.inl ((((n - 1) ^ (i + 1) : Nat) : Int)))), j2, some (Sum.inr (Sum.inl (((n ^ (i + 1) : Nat) : Int)))), j3, some (Sum.inl (h 70 5 + ((i + 1 : Nat) : Int))), j4] [] (am_SH L, h, am_RR kp) Q = E := fun j1 j2 j3 j4 => ih (j1, j2, j3, j4)
    rcases e1 with e1 | e1
    · rw [e1, es, et, show h 70 5 + (i : Int) + 1 = h 70 5 + ((i + 1 : Nat) : Int) by omega]
      exact i2 _ _ _ _
    · exact absurd e1 (by omega)
  · have h2 := hE j
    rw [he] at h2
    exact h2
theorem m_deaths {d L kp : Nat} {h : Nat → Nat → Int} {i t u : Int} (hd : 2 ≤ d) (hv : v_ok (am_mv h)) : am_An L 81 (a_deaths (am_mv h) i t u) h (fun Q => am_Wp d 260 0 [some (Sum.inr (Sum.inr 70)), some (Sum.inl i), some (Sum.inl t), some (Sum.inl u), none, none, none, none, none, none, none] [] (am_SH L, h, am_RR kp) Q) := by
  have hQ := mv_Q hv
  have hP := mv_P hv
  have hD := mv_D hv
  intro Q hq
  have hq2 : ∀ g' kq, am_keep (am_up h 70 13 0) g' → Q (some (a_deaths (am_mv h) i t u).1) (am_SH L, am_bump 81 (a_deaths (am_mv h) i t u).2 g', am_RR kq) := fun g' kq hk => hq g' kq (am_keep_t (am_keep_up rfl am_keep_r) hk)
  clear hq
  have hv2 : v_ok (am_mv (am_up h 70 13 0)) := hv
  try rw [show am_mv h = am_mv (am_up h 70 13 0) from rfl] at hq2
  show am_Wp d 260 0 [some (Sum.inr (Sum.inr 70)), some (Sum.inl i), some (Sum.inl t), some (Sum.inl u), none, none, none, none, none, none, none] [] (am_SH L, h, am_RR kp) Q
  refine (show _ = _ from bq_M_deaths_0 (by omega)).mpr ?_
  clear hv hQ hP hD
  generalize am_up h 70 13 0 = g at hq2 hv2 ⊢
  have hv := hv2
  have hQ := mv_Q hv2
  have hP := mv_P hv
  have hD := mv_D hv
  have h3 := hq2 g kp am_keep_r
  unfold a_deaths at h3
  have r74 : ∀ (z : Int) (r : Nat) (j4 : Option am_V), -6 ≤ z ∧ z ≤ -1 → r = (-z).toNat → Q (some (Sum.inr (Sum.inl (4000000000000000000 - z)))) (am_SH L, am_bump 81 r g, am_RR kp) → am_Wp d 260 74 [some (Sum.inr (Sum.inr 70)), some (Sum.inl (i)), some (Sum.inl (t)), some (Sum.inl (u)), j4, none, none, none, none, none, none] [Sum.inl z] (am_SH L, g, am_RR kp) Q := fun z r j4 hz hr hq4 => by
    rw [bq_M_deaths_74 (by omega), if_neg (by omega), sp_M_refuse (by omega) (by omega), ← hr]
    simp only [Option.toList_some, Option.toList_none, List.cons_append, List.nil_append]
    rw [bq_M_deaths_90, an_lsub_ok (by omega) (by omega)]
    exact hq4
  have r29 : ∀ (z : Int) (r : Nat), -6 ≤ z ∧ z ≤ -1 → r = (-z).toNat → Q (some (Sum.inr (Sum.inl (4000000000000000000 - z)))) (am_SH L, am_bump 81 r g, am_RR kp) → am_Wp d 260 29 [some (Sum.inr (Sum.inr 70)), some (Sum.inl (i)), some (Sum.inl (t)), some (Sum.inl (u)), none, none, none, none, none, none, none] [Sum.inl z] (am_SH L, g, am_RR kp) Q := fun z r hz hr hq4 => by
    rw [bq_M_deaths_29 (by omega), if_neg (by omega), bq_M_deaths_72]
    exact r74 z r _ hz hr hq4
  rw [sp_M_isPaper (by omega) hv]
  simp only [Option.toList_some, Option.toList_none, List.cons_append, List.nil_append]
  rw [bq_M_deaths_10 (by omega)]
  cases hi : v_isQ (am_mv g) i with
  | false =>
    rw [if_pos hi] at h3
    rw [if_pos am_bif, bq_M_deaths_24 (by omega), sp_M_wrongBit (by omega), if_neg (fun w => by have := w.1; omega)]
    simp only [Option.toList_some, Option.toList_none, List.cons_append, List.nil_append]
    exact r29 (-1) 1 (by omega) rfl h3
  | true =>
    rw [hi, if_neg (by simp)] at h3
    have hi2 := v_isQ_iff.1 hi
    dsimp only [vP, vQ, vD, vK, vF, vS, vU, vO, vH, vN, vE, vG, vT, am_mv, am_wv] at hi2
    obtain ⟨p, rfl⟩ := Int.eq_ofNat_of_zero_le hi2.1
    rw [Int.toNat_natCast] at h3
    have hp := mv_p hv p (by omega)
    rw [if_neg am_b0, sp_M_wrongNumber]
    simp only [Option.toList_some, Option.toList_none, List.cons_append, List.nil_append]
    rw [bq_M_deaths_20, bq_M_deaths_24 (by omega), sp_M_wrongBit (by omega)]
    simp only [Option.toList_some, Option.toList_none, List.cons_append, List.nil_append]
    by_cases q1 : t < 2
    · have em : m_wrong t 2 20 = -4 := if_pos q1
      rw [if_pos q1] at h3
      rw [em, if_neg (fun w => by have := w.1; omega)]
      exact r29 (-4) 4 (by omega) rfl h3
    rw [if_neg q1] at h3
    by_cases q2 : 20 < t
    · have em : m_wrong t 2 20 = -6 := (if_neg q1).trans (if_pos q2)
      rw [if_pos q2] at h3
      rw [em, if_neg (fun w => by have := w.1; omega)]
      exact r29 (-6) 6 (by omega) rfl h3
    rw [if_neg q2] at h3
    have em : m_wrong t 2 20 = 0 := (if_neg q1).trans (if_neg q2)
    rw [em]
    by_cases q3 : u = 0 ∨ u = 1
    · rw [if_neg (not_not_intro q3)] at h3
      rw [if_neg (fun w => w.2 (by omega)), bq_M_deaths_29 (by omega), if_pos rfl, am_gd (by omega) (by omega), Int.toNat_natCast, am_gd (by omega) (by omega)]
      have ed : vE (am_mv g) p = g 78 p := rfl
      have et : vT (am_mv g) p = g 80 p := rfl
      have e2 : vD (am_mv g) = g 70 5 := rfl
      rw [ed, et, e2] at h3
      have r67 : ¬ (g 80 p = 0 ∧ 0 ≤ g 78 p - g 70 5 ∧ g 78 p - g 70 5 ≤ 12) → am_Wp d 260 67 [some (Sum.inr (Sum.inr 70)), some (Sum.inl ((p : Int))), some (Sum.inl (t)), some (Sum.inl (u)), some (Sum.inl (0)), none, none, none, none, none, none] [] (am_SH L, g, am_RR kp) Q := fun w => by
        rw [if_pos w] at h3
        rw [bq_M_deaths_67]
        exact r74 (-3) 3 _ (by omega) rfl h3
      by_cases q4 : g 80 p = 0
      · rw [if_pos q4, am_sub_ok (by omega) (by omega), sp_M_in]
        simp only [Option.toList_some, Option.toList_none, List.cons_append, List.nil_append]
        rw [bq_M_deaths_64]
        by_cases q5 : 0 ≤ g 78 p - g 70 5 ∧ g 78 p - g 70 5 ≤ 12
        · rw [if_neg (not_not_intro ⟨q4, q5⟩)] at h3
          obtain ⟨n, rfl⟩ := Int.eq_ofNat_of_zero_le (show 0 ≤ t by omega)
          obtain ⟨k, hk⟩ := Int.eq_ofNat_of_zero_le q5.1
          rw [hk, Int.toNat_natCast, Int.toNat_natCast] at h3
          have h4 : Q (some (Sum.inr (Sum.inl (((if u = 0 then n - 1 else n) ^ k : Nat) : Int)))) (am_SH L, g, am_RR kp) := h3
          clear h3
          rw [decide_eq_true q5, if_neg am_b0, bq_M_deaths_72, bq_M_deaths_74 (by omega), if_pos (by omega)]
          refine (lp_M_deaths (d := d) (h := g) (p := p) (n := n) (u := u) (E := True) (k := k) (some (Sum.inl 0), none, none, none) hv (by omega) (by omega) (by omega) (by omega) (by omega) (by omega) (fun j => eq_true ?_)).mpr trivial
          have b1 := an_pow_le (b := n - 1) (i := k) (by omega) (by omega)
          have b2 := an_pow_le (b := n) (i := k) (by omega) (by omega)
          have hco : Nat.gcd ((n - 1) ^ k) (n ^ k) = 1 := by
            have hc : Nat.Coprime (n - 1) n := by
              have h5 : Nat.gcd (n - 1) n ∣ 1 := by
                have h6 := Nat.gcd_dvd_left (n - 1) n
                have h7 := Nat.gcd_dvd_right (n - 1) n
                have h8 := Nat.dvd_sub h7 h6
                rw [show n - (n - 1) = 1 by omega] at h8
                exact h8
              exact Nat.dvd_one.1 h5
            exact Nat.Coprime.pow k k hc
          rw [bq_M_deaths_105 (by omega), am_gd (by omega) (by omega), Int.toNat_natCast, if_pos (by omega), sp_M_divisor (by omega) (by omega), hco]
          simp only [Option.toList_some, Option.toList_none, List.cons_append, List.nil_append]
          have d1 : am_ldiv (((n - 1) ^ k : Nat) : Int) ((1 : Nat) : Int) = (((n - 1) ^ k : Nat) : Int) := by
            rw [an_ldiv_ok (by omega) (by omega) (by omega) (by omega)]; exact Int.ediv_one _
          have d2 : am_ldiv ((n ^ k : Nat) : Int) ((1 : Nat) : Int) = ((n ^ k : Nat) : Int) := by
            rw [an_ldiv_ok (by omega) (by omega) (by omega) (by omega)]; exact Int.ediv_one _
          have hn0 : (¬ ((1 : Nat) : Int) = 0) = True := eq_true (by omega)
          rw [bq_M_deaths_145, d1, d2]
          simp only [hn0, true_and, bq_M_deaths_164]
          by_cases qu : u = 0
          · rw [if_pos qu] at h4 ⊢
            exact h4
          · rw [if_neg qu] at h4 ⊢
            exact h4
        · rw [decide_eq_false q5, if_pos am_bif]
          exact r67 (fun w => q5 w.2)
      · rw [if_neg q4]
        exact r67 (fun w => q4 w.1)
    · rw [if_pos q3] at h3
      rw [if_pos ⟨rfl, fun w => q3 (by omega)⟩]
      exact r29 (-2) 2 (by omega) rfl h3