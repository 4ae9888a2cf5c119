/-! THE CALLS through, chain, comesIn, stands of the class -/
def a_through (V : am_Vw) (w : Int) : am_V × Nat := if w = 0 then (Sum.inl (v_set V (-9) (vP V).toNat).2, 0) else if w = 1 then (Sum.inl ((v_cut V (-9) (vP V).toNat : Nat) : Int), 0) else (Sum.inl (-2), 2)
def a_chain (V : am_Vw) (a b : Int) : am_V × Nat := if (v_isP V a && v_isP V b) = false then (Sum.inl (-1), 1) else (Sum.inl (v_oi (v_far V (-9) a.toNat (2 ^ b.toNat))), 0)
def a_comesIn (V : am_Vw) (a : Int) : am_V × Nat := if v_isP V a = false then (Sum.inl (-1), 1) else (Sum.inl (v_oi (v_far V (-9) a.toNat (v_ins V (vQ V).toNat))), 0)
def v_std (V : am_Vw) (n : Nat) : Int × Int := am_for (fun a s => if s.1 < (v_set V (a : Int) (vP V).toNat).2 then ((v_set V (a : Int) (vP V).toNat).2, (a : Int)) else s) n ((v_set V (-9) (vP V).toNat).2, -9)
theorem v_std_s {V : am_Vw} {n : Nat} : v_std V (n + 1) = if (v_std V n).1 < (v_set V (n : Int) (vP V).toNat).2 then ((v_set V (n : Int) (vP V).toNat).2, (n : Int)) else v_std V n := rfl
def a_stands (V : am_Vw) : am_V × Nat := (Sum.inl (v_std V (vP V).toNat).2, 0)
theorem c_through {d L kp : Nat} {h : Nat → Nat → Int} {i : Int} (hd : 4 ≤ d) (hv : v_ok (am_wv h 2)) : am_An L 41 (a_through (am_wv h 2) i) h (fun Q => am_Wp d 82 0 [some (Sum.inr (Sum.inr 1)), some (Sum.inl i)] [] (am_SH L, h, am_RR kp) Q) := by
  have hQ := wv_Q hv
  have hP := wv_P hv
  have hD := wv_D hv
  intro Q hq
  show am_Wp d 82 0 [some (Sum.inr (Sum.inr 1)), some (Sum.inl i)] [] (am_SH L, h, am_RR kp) Q
  by_cases q0 : i = 0
  · subst q0
    have r0 : am_Wp d 82 0 [some (Sum.inr (Sum.inr 1)), some (Sum.inl (0))] [] (am_SH L, h, am_RR kp) Q = am_Wp d 82 16 [some (Sum.inr (Sum.inr 1)), some (Sum.inl (0))] [] (am_SH L, h, am_RR kp) Q := by
      rw [bq_KO_through_0 (by omega)]
      simp only [↓reduceIte, Int.reduceEq]
    rw [r0, bq_KO_through_16 (by omega)]
    refine sp_Ledger_readI (by omega) hv (fun g hk hw hl => ?_)
    simp only [Option.toList_some, Option.toList_none, List.cons_append, List.nil_append]
    rw [bq_KO_through_27 (by omega)]
    refine sp_Company_look (by omega) (by rw [hw]; exact hv) (fun g2 hk2 hw2 hl2 hc => ?_)
    have hv2 : v_ok (am_wv g2 2) := by rw [hw2, hw]; exact hv
    simp only [Option.toList_some, Option.toList_none, List.cons_append, List.nil_append]
    have h3 := hq g2 kp (am_keep_t hk hk2)
    rw [← hw, ← hw2] at h3

    rw [bq_KO_through_40 (by omega), if_pos rfl, sp_Settlement_settled (by omega) hv2 (hl2 hl) hc]
    simp only [Option.toList_some, Option.toList_none, List.cons_append, List.nil_append]
    rw [bq_KO_through_59, bq_KO_through_77]
    exact h3
  · by_cases q1 : i = 1
    · subst q1
      have r0 : am_Wp d 82 0 [some (Sum.inr (Sum.inr 1)), some (Sum.inl (1))] [] (am_SH L, h, am_RR kp) Q = am_Wp d 82 16 [some (Sum.inr (Sum.inr 1)), some (Sum.inl (1))] [] (am_SH L, h, am_RR kp) Q := by
        rw [bq_KO_through_0 (by omega)]
        simp only [↓reduceIte, Int.reduceEq]
      rw [r0, bq_KO_through_16 (by omega)]
      refine sp_Ledger_readI (by omega) hv (fun g hk hw hl => ?_)
      simp only [Option.toList_some, Option.toList_none, List.cons_append, List.nil_append]
      rw [bq_KO_through_27 (by omega)]
      refine sp_Company_look (by omega) (by rw [hw]; exact hv) (fun g2 hk2 hw2 hl2 hc => ?_)
      have hv2 : v_ok (am_wv g2 2) := by rw [hw2, hw]; exact hv
      simp only [Option.toList_some, Option.toList_none, List.cons_append, List.nil_append]
      have h3 := hq g2 kp (am_keep_t hk hk2)
      rw [← hw, ← hw2] at h3

      rw [bq_KO_through_40 (by omega), if_neg (by omega), sp_Settlement_cut (by omega) hv2 (hl2 hl) hc]
      simp only [Option.toList_some, Option.toList_none, List.cons_append, List.nil_append]
      rw [bq_KO_through_77]
      exact h3
    · have h3 := hq h kp am_keep_r
      unfold a_through at h3
      rw [if_neg q0, if_neg q1] at h3
      rw [bq_KO_through_0 (by omega), if_neg q0, if_neg q1, sp_KO_refuse (by omega) (by omega) (by omega)]
      simp only [Option.toList_some, Option.toList_none, List.cons_append, List.nil_append]
      rw [bq_KO_through_15]
      exact h3
theorem c_chain {d L kp : Nat} {h : Nat → Nat → Int} {i e : Int} (hd : 3 ≤ d) (hv : v_ok (am_wv h 2)) : am_An L 41 (a_chain (am_wv h 2) i e) h (fun Q => am_Wp d 122 0 [some (Sum.inr (Sum.inr 1)), some (Sum.inl i), some (Sum.inl e)] [] (am_SH L, h, am_RR kp) Q) := by
  have hQ := wv_Q hv
  have hP := wv_P hv
  have hD := wv_D hv
  intro Q hq
  show am_Wp d 122 0 [some (Sum.inr (Sum.inr 1)), some (Sum.inl i), some (Sum.inl e)] [] (am_SH L, h, am_RR kp) Q
  have e0 : (v_isP (am_wv h 2) i && v_isP (am_wv h 2) e) = false → am_Wp d 122 0 [some (Sum.inr (Sum.inr 1)), some (Sum.inl i), some (Sum.inl e)] [] (am_SH L, h, am_RR kp) Q := fun w => by
    have h3 := hq h kp am_keep_r
    unfold a_chain at h3
    rw [if_pos w] at h3
    rw [bq_KO_chain_0 (by omega), sp_World_isPerson_2]
    simp only [Option.toList_some, Option.toList_none, List.cons_append, List.nil_append]
    rw [bq_KO_chain_8 (by omega)]
    cases hi : v_isP (am_wv h 2) i with
    | false =>
      rw [if_pos am_bif, bq_KO_chain_22 (by omega), sp_KO_refuse (by omega) (by omega) (by omega)]
      simp only [Option.toList_some, Option.toList_none, List.cons_append, List.nil_append]
      rw [bq_KO_chain_27]
      exact h3
    | true =>
      rw [if_neg am_b0, sp_World_isPerson_2]
      simp only [Option.toList_some, Option.toList_none, List.cons_append, List.nil_append]
      rw [hi, Bool.true_and] at w
      rw [bq_KO_chain_19 (by omega), w, if_pos am_bif, bq_KO_chain_22 (by omega), sp_KO_refuse (by omega) (by omega) (by omega)]
      simp only [Option.toList_some, Option.toList_none, List.cons_append, List.nil_append]
      rw [bq_KO_chain_27]
      exact h3
  cases hie : (v_isP (am_wv h 2) i && v_isP (am_wv h 2) e) with
  | false => exact e0 hie
  | true =>
    clear e0
    have hie2 := Bool.and_eq_true_iff.1 hie
    have hi2 := v_isP_iff.1 hie2.1
    have he2 := v_isP_iff.1 hie2.2
    dsimp only [vP, vQ, vD, vK, vF, vS, vU, vO, vH, vN, vE, vG, vT, am_mv, am_wv] at hi2 he2
    rw [bq_KO_chain_0 (by omega), sp_World_isPerson_2]
    simp only [Option.toList_some, Option.toList_none, List.cons_append, List.nil_append]
    rw [bq_KO_chain_8 (by omega), hie2.1, if_neg am_b0, sp_World_isPerson_2]
    simp only [Option.toList_some, Option.toList_none, List.cons_append, List.nil_append]
    rw [bq_KO_chain_19 (by omega), hie2.2, if_neg am_b0]
    refine sp_Company_look (by omega) hv (fun g2 hk2 hw2 hl2 hc => ?_)
    have hv2 : v_ok (am_wv g2 2) := by rw [hw2]; exact hv
    have ep : g2 2 0 = h 2 0 := congrArg vP hw2
    simp only [Option.toList_some, Option.toList_none, List.cons_append, List.nil_append]
    have h3 := hq g2 kp hk2
    rw [← hw2] at h3
    obtain ⟨a, rfl⟩ := Int.eq_ofNat_of_zero_le hi2.1
    obtain ⟨b, rfl⟩ := Int.eq_ofNat_of_zero_le he2.1
    unfold a_chain at h3
    rw [hw2, hie, if_neg (by simp), ← hw2, Int.toNat_natCast, Int.toNat_natCast] at h3
    have hp : 2 ^ b < 2 ^ 7 := Nat.pow_lt_pow_right (by omega) (by omega)
    rw [bq_KO_chain_41 (by omega), am_shl1 (by omega), sp_Company_steps (by omega) hv2 hc (by omega) hp]
    simp only [Option.toList_some, Option.toList_none, List.cons_append, List.nil_append]
    rw [bq_KO_chain_52]
    exact h3
theorem c_comesIn {d L kp : Nat} {h : Nat → Nat → Int} {i : Int} (hd : 3 ≤ d) (hv : v_ok (am_wv h 2)) : am_An L 41 (a_comesIn (am_wv h 2) i) h (fun Q => am_Wp d 126 0 [some (Sum.inr (Sum.inr 1)), some (Sum.inl i)] [] (am_SH L, h, am_RR kp) Q) := by
  have hQ := wv_Q hv
  have hP := wv_P hv
  have hD := wv_D hv
  intro Q hq
  show am_Wp d 126 0 [some (Sum.inr (Sum.inr 1)), some (Sum.inl i)] [] (am_SH L, h, am_RR kp) Q
  cases hi : v_isP (am_wv h 2) i with
  | false =>
    have h3 := hq h kp am_keep_r
    unfold a_comesIn at h3
    rw [if_pos hi] at h3
    rw [bq_KO_comesIn_0 (by omega), sp_World_isPerson_2]
    simp only [Option.toList_some, Option.toList_none, List.cons_append, List.nil_append]
    rw [bq_KO_comesIn_8 (by omega), hi, if_pos am_bif, sp_KO_refuse (by omega) (by omega) (by omega)]
    simp only [Option.toList_some, Option.toList_none, List.cons_append, List.nil_append]
    rw [bq_KO_comesIn_16]
    exact h3
  | true =>
    have hi2 := v_isP_iff.1 hi
    dsimp only [vP, vQ, vD, vK, vF, vS, vU, vO, vH, vN, vE, vG, vT, am_mv, am_wv] at hi2
    rw [bq_KO_comesIn_0 (by omega), sp_World_isPerson_2]
    simp only [Option.toList_some, Option.toList_none, List.cons_append, List.nil_append]
    rw [bq_KO_comesIn_8 (by omega), hi, if_neg am_b0]
    refine sp_Company_look (by omega) hv (fun g2 hk2 hw2 hl2 hc => ?_)
    have hv2 : v_ok (am_wv g2 2) := by rw [hw2]; exact hv
    have ep : g2 2 0 = h 2 0 := congrArg vP hw2
    simp only [Option.toList_some, Option.toList_none, List.cons_append, List.nil_append]
    have h3 := hq g2 kp hk2
    rw [← hw2] at h3
    have eq' : g2 2 1 = h 2 1 := congrArg vQ hw2
    obtain ⟨a, rfl⟩ := Int.eq_ofNat_of_zero_le hi2.1
    unfold a_comesIn at h3
    rw [hw2, hi, if_neg (by simp), ← hw2, Int.toNat_natCast] at h3
    have hp := v_ins_lt hv2 (n := (g2 2 1).toNat) (by omega)
    rw [bq_KO_comesIn_30 (by omega), sp_KO_insiders (by omega) hv2]
    simp only [Option.toList_some, Option.toList_none, List.cons_append, List.nil_append]
    rw [bq_KO_comesIn_42 (by omega), sp_Company_steps (by omega) hv2 hc (by omega) hp]
    simp only [Option.toList_some, Option.toList_none, List.cons_append, List.nil_append]
    rw [bq_KO_comesIn_45]
    exact h3
theorem lp_KO_stands {d L kp : Nat} {h0 : Nat → Nat → Int} {V : am_Vw} {Q : Option am_V → am_H → Prop} (hd : 4 ≤ d) (hv : v_ok V) (hq : ∀ g, am_keep h0 g → Q (some (Sum.inl (v_std V (vP V).toNat).2)) (am_SH L, g, am_RR kp)) (j : (Nat → Nat → Int) × Option am_V) (hj : am_keep h0 j.1 ∧ am_wv j.1 2 = V ∧ am_led j.1) : am_Wp d 148 45 [some (Sum.inr (Sum.inr 1)), some (Sum.inl ((v_std V 0).1)), some (Sum.inl ((v_std V 0).2)), some (Sum.inl (0)), j.2] [] (am_SH L, j.1, am_RR kp) Q := by
  have hP := v_ok_P hv
  refine am_im_fr (J := (Nat → Nat → Int) × Option am_V) (a := 0) (n := (vP V).toNat) (fun _ j => am_keep h0 j.1 ∧ am_wv j.1 2 = V ∧ am_led j.1) (fun a j => am_Wp d 148 45 [some (Sum.inr (Sum.inr 1)), some (Sum.inl ((v_std V a).1)), some (Sum.inl ((v_std V a).2)), some (Sum.inl ((a : Int))), j.2] [] (am_SH L, j.1, am_RR kp) Q) (by omega) (fun a j _ ha hj ih => ?_) (fun j hj => ?_) j hj
  · obtain ⟨g, j2⟩ := j
    obtain ⟨h1, h2, h3⟩ := hj
    have hp : g 2 0 = vP V := congrArg vP h2
    have hvg : v_ok (am_wv g 2) := by rw [h2]; exact hv
    show am_Wp d 148 45 [some (Sum.inr (Sum.inr 1)), some (Sum.inl ((v_std V a).1)), some (Sum.inl ((v_std V a).2)), some (Sum.inl ((a : Int))), j2] [] (am_SH L, g, am_RR kp) Q
    rw [bq_KO_stands_45 (by omega), sp_World_people_2]
    simp only [Option.toList_some, Option.toList_none, List.cons_append, List.nil_append]
    rw [bq_KO_stands_53 (by omega), hp, if_neg (by omega)]
    refine sp_Company_look (by omega) hvg (fun g2 k1 k2 k3 k4 => ?_)
    simp only [Option.toList_some, Option.toList_none, List.cons_append, List.nil_append]
    rw [bq_KO_stands_68 (by omega), sp_Settlement_settled (by omega) (by rw [k2]; exact hvg) (k3 h3) k4]
    simp only [Option.toList_some, Option.toList_none, List.cons_append, List.nil_append]
    have ep : (g2 2 0).toNat = (vP V).toNat := by
      rw [← hp]
      exact congrArg (fun w => (vP w).toNat) k2
    rw [bq_KO_stands_83, k2, h2, ep, bq_KO_stands_96, bq_KO_stands_96, am_incn (by omega)]
    have hs := v_std_s (V := V) (n := a)
    by_cases q1 : (v_std V a).1 < (v_set V (a : Int) (vP V).toNat).2
    · rw [if_pos q1] at hs
      rw [if_neg (by omega)]
      have h9 := ih (g2, some (Sum.inl (v_set V (a : Int) (vP V).toNat).2)) ⟨am_keep_t h1 k1, k2.trans h2, k3 h3⟩
      rw [hs] at h9
      exact h9
    · rw [if_neg q1] at hs
      rw [if_pos (by omega)]
      have h9 := ih (g2, some (Sum.inl (v_set V (a : Int) (vP V).toNat).2)) ⟨am_keep_t h1 k1, k2.trans h2, k3 h3⟩
      rw [hs] at h9
      exact h9
  · obtain ⟨g, j2⟩ := j
    obtain ⟨h1, h2, h3⟩ := hj
    have hp : g 2 0 = vP V := congrArg vP h2
    show am_Wp d 148 45 [some (Sum.inr (Sum.inr 1)), some (Sum.inl ((v_std V (vP V).toNat).1)), some (Sum.inl ((v_std V (vP V).toNat).2)), some (Sum.inl ((((vP V).toNat : Nat) : Int))), j2] [] (am_SH L, g, am_RR kp) Q
    rw [bq_KO_stands_45 (by omega), sp_World_people_2]
    simp only [Option.toList_some, Option.toList_none, List.cons_append, List.nil_append]
    rw [bq_KO_stands_53 (by omega), hp, if_pos (by omega)]
    exact hq g h1
theorem c_stands {d L kp : Nat} {h : Nat → Nat → Int} (hd : 4 ≤ d) (hv : v_ok (am_wv h 2)) : am_An L 41 (a_stands (am_wv h 2)) h (fun Q => am_Wp d 148 0 [some (Sum.inr (Sum.inr 1)), none, none, none, none] [] (am_SH L, h, am_RR kp) Q) := by
  have hQ := wv_Q hv
  have hP := wv_P hv
  have hD := wv_D hv
  intro Q hq
  show am_Wp d 148 0 [some (Sum.inr (Sum.inr 1)), none, none, none, none] [] (am_SH L, h, am_RR kp) Q
  rw [bq_KO_stands_0 (by omega)]
  refine sp_Ledger_readI (by omega) hv (fun g hk hw hl => ?_)
  simp only [Option.toList_some, Option.toList_none, List.cons_append, List.nil_append]
  rw [bq_KO_stands_11 (by omega)]
  refine sp_Company_look (by omega) (by rw [hw]; exact hv) (fun g2 hk2 hw2 hl2 hc => ?_)
  have hv2 : v_ok (am_wv g2 2) := by rw [hw2, hw]; exact hv
  simp only [Option.toList_some, Option.toList_none, List.cons_append, List.nil_append]
  have ep : vP (am_wv g2 2) = g2 2 0 := rfl
  rw [bq_KO_stands_24 (by omega), sp_Settlement_settled (by omega) hv2 (hl2 hl) hc]
  simp only [Option.toList_some, Option.toList_none, List.cons_append, List.nil_append]
  rw [bq_KO_stands_39]
  refine lp_KO_stands (h0 := h) (V := am_wv g2 2) hd hv2 (fun g3 k3 => ?_) (g2, none) ⟨am_keep_t hk hk2, rfl, hl2 hl⟩
  have h3 := hq g3 kp k3
  rw [← hw, ← hw2] at h3
  exact h3