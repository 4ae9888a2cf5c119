/-! street OF BOTH -/
theorem m_told_c {le : Nat → Int} {g g2 : Nat → Nat → Int} {k s : Nat} (ht : m_told le g k s) (h3 : g2 83 k = g 83 k) (h4 : g2 84 k = g 84 k) (h5 : ∀ i, i < 5 → g2 85 (5 * k + i) = g 85 (5 * k + i)) : m_told le g2 k s := by
  have h50 : g2 85 (5 * k) = g 85 (5 * k) := h5 0 (by omega)
  unfold m_told
  rw [h3, h4, h50, h5 1 (by omega), h5 2 (by omega), h5 3 (by omega), h5 4 (by omega)]
  exact ht
theorem c_S_eq {h g : Nat → Nat → Int} (e : ∀ c, c ≤ 41 → g c = h c) : c_S g = c_S h := by
  show (((_, _, _), _, _, _, _, _, _, _, _, _, _), (((_, _, _), _, _, _, _, _, _, _, _, _, _), ((_, _, _), _, _, _, _, _, _, _, _, _, _)), _, _, _, _, _, _, _, _, _, _) = _
  rw [e 2 (by omega), e 3 (by omega), e 4 (by omega), e 5 (by omega), e 6 (by omega), e 7 (by omega), e 8 (by omega), e 9 (by omega), e 10 (by omega), e 11 (by omega), e 12 (by omega), e 13 (by omega), e 14 (by omega), e 15 (by omega), e 16 (by omega), e 17 (by omega), e 18 (by omega), e 19 (by omega), e 20 (by omega), e 21 (by omega), e 22 (by omega), e 23 (by omega), e 29 (by omega), e 30 (by omega), e 31 (by omega), e 32 (by omega), e 33 (by omega), e 34 (by omega), e 35 (by omega), e 36 (by omega), e 37 (by omega), e 38 (by omega), e 39 (by omega), e 1 (by omega), e 25 (by omega), e 26 (by omega), e 24 (by omega), e 28 (by omega), e 27 (by omega), e 40 (by omega), e 41 (by omega)]
def m_frt (h g : Nat → Nat → Int) : Prop := ∀ c j, ¬ (c = 70 ∧ (j = 0 ∨ j = 5 ∨ j = 6 ∨ j = 13 ∨ j = 16 ∨ j = 17 ∨ j = 18 ∨ j = 19 ∨ j = 26 ∨ j = 27)) → ¬ (71 ≤ c ∧ c ≤ 80) → ¬ (83 ≤ c ∧ c ≤ 86) → g c j = h c j
theorem m_S_frt {h g : Nat → Nat → Int} (hf : m_frt h g) (h16 : g 70 16 = 0) : m_S g = (am_mv g, h 70 25, h 87, h 88, h 70 31, h 82, 0, h 98, h 70 46, h 81) ∧ c_S g = c_S h ∧ g 0 = h 0 := by
  have e : ∀ c, ¬ c = 70 → ¬ (71 ≤ c ∧ c ≤ 80) → ¬ (83 ≤ c ∧ c ≤ 86) → g c = h c := fun c h1 h2 h3 => funext fun j => hf c j (fun w => h1 w.1) h2 h3
  refine ⟨?_, c_S_eq (fun c hc => e c (by omega) (by omega) (by omega)), e 0 (by omega) (by omega) (by omega)⟩
  show (am_mv g, g 70 25, g 87, g 88, g 70 31, g 82, g 70 16, g 98, g 70 46, g 81) = _
  rw [h16, hf 70 25 (by omega) (by omega) (by omega), hf 70 31 (by omega) (by omega) (by omega), hf 70 46 (by omega) (by omega) (by omega), e 87 (by omega) (by omega) (by omega), e 88 (by omega) (by omega) (by omega), e 82 (by omega) (by omega) (by omega), e 98 (by omega) (by omega) (by omega), e 81 (by omega) (by omega) (by omega)]
abbrev m_Ss (h : Nat → Nat → Int) (W : am_Vw) (tn : Int) : am_MS := (W, h 70 25, h 87, h 88, tn, h 82, 0, h 98, h 70 46, h 81)
def m_frs (h g : Nat → Nat → Int) : Prop := ∀ c j, ¬ (c = 70 ∧ (j = 13 ∨ j = 17 ∨ j = 18 ∨ j = 19)) → ¬ (83 ≤ c ∧ c ≤ 85) → g c j = h c j
theorem m_frs_t {h g : Nat → Nat → Int} (hf : m_frs h g) : m_frt h g := fun c j h1 h2 h3 => hf c j (by omega) (by omega)
theorem m_frs_mv {h g : Nat → Nat → Int} (hf : m_frs h g) : am_mv g = am_mv h := by
  have e : ∀ c, ¬ c = 70 → ¬ (83 ≤ c ∧ c ≤ 85) → g c = h c := fun c h1 h2 => funext fun j => hf c j (fun w => h1 w.1) h2
  exact am_mv_mk (hf 70 0 (by omega) (by omega)) (hf 70 6 (by omega) (by omega)) (hf 70 5 (by omega) (by omega)) (e 71 (by omega) (by omega)) (e 72 (by omega) (by omega)) (e 73 (by omega) (by omega)) (e 74 (by omega) (by omega)) (e 75 (by omega) (by omega)) (e 76 (by omega) (by omega)) (e 77 (by omega) (by omega)) (e 78 (by omega) (by omega)) (e 79 (by omega) (by omega)) (e 80 (by omega) (by omega))
def m_I1 (h : Nat → Nat → Int) (k : Nat) (g : Nat → Nat → Int) : Prop := g 70 17 = (u_S (h 82) k : Int) ∧ g 70 18 = 0 ∧ g 70 19 = (k : Int) ∧ (∀ j, j < k → m_told (h 82) g j (u_S (h 82) j)) ∧ m_frs h g
/-- k statements read -/
theorem lp_M_street {d L kp : Nat} {h : Nat → Nat → Int} {Q : Option am_V → am_H → Prop} {n k : Nat} (hd : 8 ≤ d) (hn : h 70 16 = (n : Int)) (h96 : n ≤ 96) (h8 : ∀ j, 0 ≤ h 82 j ∧ h 82 j ≤ 255) (hf : ∀ j, j < k → u_fit (h 82) n (u_S (h 82) j)) (hE : ∀ g, m_I1 h k g → am_Wp d 192 20 [some (Sum.inr (Sum.inr 70)), none] [] (am_SH L, g, am_RR kp) Q) : am_Wp d 192 0 [some (Sum.inr (Sum.inr 70)), none] [] (am_SH L, h, am_RR kp) Q := by
  have hmo := u_S_mono hf
  rw [bq_M_street_0]
  refine am_im_fr (J := Nat → Nat → Int) (a := 0) (n := k) (fun k g => m_I1 h k g) (fun k g => am_Wp d 192 20 [some (Sum.inr (Sum.inr 70)), none] [] (am_SH L, g, am_RR kp) Q) (by omega) (fun m g h1 h2 hi ih => ?_) hE (am_up (am_up (am_up (am_up h 70 13 0) 70 17 0) 70 18 0) 70 19 0) ⟨rfl, rfl, rfl, fun j hj => absurd hj (by omega), fun c j h1 h2 => ?_⟩
  · obtain ⟨i1, i2, i3, i4, i5⟩ := hi
    obtain ⟨o1, o2, o3⟩ := hmo m (by omega)
    have o4 := o2 h2
    have e16 : g 70 16 = (n : Int) := (i5 70 16 (by omega) (by omega)).trans hn
    have e82 : g 82 = h 82 := funext fun j => i5 82 j (by omega) (by omega)
    have r45 : am_Wp d 192 45 [some (Sum.inr (Sum.inr 70)), none] [] (am_SH L, g, am_RR kp) Q := by
      rw [bq_M_street_45 (by omega)]
      refine sp_M_rsGood (n := n) (s := u_S (h 82) m) (k := m) (by omega) e16 h96 (by rw [e82]; exact h8) i3 (by omega) i1 i2 (by rw [e82]; exact hf m h2) (fun g2 b1 b2 b3 b4 b5 => ?_)
      rw [e82] at b1 b4
      simp only [Option.toList_some, Option.toList_none, List.cons_append, List.nil_append]
      rw [bq_M_street_49]
      refine ih g2 ⟨b1, b2, b3, fun j hj => ?_, fun c j h1 h2 => ?_⟩
      · by_cases q : j = m
        · rw [q]; exact b4
        · exact m_told_c (i4 j (by omega)) (b5 83 j (by omega) (by omega) (by omega) (by omega)) (b5 84 j (by omega) (by omega) (by omega) (by omega)) (fun i hi => b5 85 (5 * j + i) (by omega) (by omega) (by omega) (by omega))
      · exact (b5 c j (by omega) (by omega) (by omega) (by omega)).trans (i5 c j h1 h2)
    rw [bq_M_street_20, if_pos i2]
    by_cases q : g 70 19 = 0
    · rw [if_pos q]; exact r45
    · rw [if_neg q, if_neg (by omega)]; exact r45
  · have e : ∀ (f : Nat → Nat → Int) (i : Nat) (x : Int), ¬ (c = 70 ∧ j = i) → am_up f 70 i x c j = f c j := fun f i x hc => by
      unfold am_up
      by_cases q : c = 70
      · rw [if_pos q, if_neg (fun w => hc ⟨q, w⟩)]
      · rw [if_neg q]
    rw [e _ _ _ (by omega), e _ _ _ (by omega), e _ _ _ (by omega), e _ _ _ (by omega)]
theorem m_streetBad {d : Nat} {h : Nat → Nat → Int} {n k i : Nat} (hd : 30 ≤ d) (hn : h 70 16 = (n : Int)) (h96 : n ≤ 96) (h8 : ∀ j, 0 ≤ h 82 j ∧ h 82 j ≤ 255) (hb : u_Bad (h 82) n k i) : am_SM h (Sum.inl (-1000 - ((u_S (h 82) k + i : Nat) : Int))) (m_Ss h (am_mv h) (h 70 31)) (fun L kp Q => am_Wp d 192 0 [some (Sum.inr (Sum.inr 70)), none] [] (am_SH L, h, am_RR kp) Q) := by
  intro L kp Q hq
  show am_Wp d 192 0 [some (Sum.inr (Sum.inr 70)), none] [] (am_SH L, h, am_RR kp) Q
  obtain ⟨hb1, hb2, hb3⟩ := hb
  obtain ⟨o1, o2, o3⟩ := u_S_mono hb1 k (by omega)
  have hSn : u_S (h 82) k ≤ n := by
    rcases hb2 with q | q
    · subst q; show 0 ≤ n; omega
    · omega
  have hi9 : i ≤ 9 := by
    rcases hb3 with ⟨-, h4⟩ | ⟨h4, -⟩
    · omega
    · have := u_l_3 (show 0 < u_l (h 82 (u_S (h 82) k)) by omega); omega
  refine lp_M_street (by omega) hn h96 h8 hb1 (fun g hi => ?_)
  obtain ⟨i1, i2, i3, i4, i5⟩ := hi
  have e16 : g 70 16 = (n : Int) := (i5 70 16 (by omega) (by omega)).trans hn
  have e82 : g 82 = h 82 := funext fun j => i5 82 j (by omega) (by omega)
  have r45 : am_Wp d 192 45 [some (Sum.inr (Sum.inr 70)), none] [] (am_SH L, g, am_RR kp) Q := by
    rw [bq_M_street_45 (by omega)]
    refine sp_M_rsBad (n := n) (s := u_S (h 82) k) (k := k) (i := i) (by omega) e16 h96 (by rw [e82]; exact h8) i3 (by omega) i1 i2 hSn (by rw [e82]; exact hb3) (fun g2 b1 b2 b3 b5 => ?_)
    simp only [Option.toList_some, Option.toList_none, List.cons_append, List.nil_append]
    have e18 : am_up g2 70 16 0 70 18 = 1 := b2
    have e17 : am_up g2 70 16 0 70 17 = ((u_S (h 82) k + i : Nat) : Int) := b1
    rw [bq_M_street_49, bq_M_street_20, if_neg (by omega), bq_M_street_52 (by omega), if_neg (by omega), e17, am_sub_ok (by omega) (by omega)]
    have hfs : m_frs h g2 := fun c j h1 h2 => (b5 c j (by omega) (by omega) (by omega) (by omega)).trans (i5 c j h1 h2)
    have hf2 : m_frt h (am_up g2 70 16 0) := fun c j h1 h2 h3 => by
      have : am_up g2 70 16 0 c j = g2 c j := by
        unfold am_up
        by_cases q : c = 70
        · rw [if_pos q, if_neg (fun w => h1 ⟨q, by omega⟩)]
        · rw [if_neg q]
      exact this.trans (m_frs_t hfs c j h1 h2 h3)
    obtain ⟨s1, s2, s3⟩ := m_S_frt hf2 rfl
    have em : am_mv (am_up g2 70 16 0) = am_mv h := (show am_mv g2 = am_mv h from m_frs_mv hfs)
    rw [em] at s1
    exact hq _ kp s3 s1 s2
  rw [bq_M_street_20, if_pos i2]
  by_cases q : g 70 19 = 0
  · rw [if_pos q]; exact r45
  · rw [if_neg q, if_neg (by rcases hb2 with q2 | q2 <;> omega)]; exact r45
def m_I2 (h : Nat → Nat → Int) (K k : Nat) (g : Nat → Nat → Int) : Prop := u_V (h 82) (am_mv h) k = some (am_mv g) ∧ g 70 16 = 0 ∧ g 70 19 = (K : Int) ∧ (∀ j, j < K → m_told (h 82) g j (u_S (h 82) j)) ∧ (∀ j, j < 127 → g 86 j = am_car h j) ∧ m_frt h g
theorem m_I2_n {h g g2 : Nat → Nat → Int} {K k : Nat} (hi : m_I2 h K k g) (hu : u_V (h 82) (am_mv h) (k + 1) = some (am_mv g2)) (hf : m_fr g g2) : m_I2 h K (k + 1) g2 := by
  obtain ⟨i1, i2, i3, i4, i5, i6⟩ := hi
  refine ⟨hu, (hf 70 16 (by omega) (by omega)).trans i2, (hf 70 19 (by omega) (by omega)).trans i3, fun j hj => ?_, fun j hj => (hf 86 j (by omega) (by omega)).trans (i5 j hj), fun c j h1 h2 h3 => (hf c j (by omega) h2).trans (i6 c j h1 h2 h3)⟩
  exact m_told_c (i4 j hj) (hf 83 j (by omega) (by omega)) (hf 84 j (by omega) (by omega)) (fun i hi => hf 85 (5 * j + i) (by omega) (by omega))
/-- k of K statements have come -/
theorem lp_M_street2 {d L kp : Nat} {h : Nat → Nat → Int} {Q : Option am_V → am_H → Prop} {n K k : Nat} {U : am_Vw} (hd : 10 ≤ d) (hn : h 70 16 = (n : Int)) (h96 : n ≤ 96) (h8 : ∀ j, 0 ≤ h 82 j ∧ h 82 j ≤ 255) (hg : u_Good (h 82) n K) (hv : v_ok (am_mv h)) (hz : v_z (am_mv h)) (hk : k ≤ K) (hU : u_V (h 82) (am_mv h) k = some U) (hE : ∀ g kp, m_I2 h K k g → am_Wp d 192 84 [some (Sum.inr (Sum.inr 70)), some (Sum.inl ((k : Int)))] [] (am_SH L, g, am_RR kp) Q) : am_Wp d 192 0 [some (Sum.inr (Sum.inr 70)), none] [] (am_SH L, h, am_RR kp) Q := by
  obtain ⟨g1, g2, g3⟩ := hg
  have hmo := u_S_mono g2
  have hmK := (hmo K (by omega)).1
  refine lp_M_street (by omega) hn h96 h8 g2 (fun g hi => ?_)
  obtain ⟨i1, i2, i3, i4, i5⟩ := hi
  have e16 : g 70 16 = (n : Int) := (i5 70 16 (by omega) (by omega)).trans hn
  have em : am_mv (am_up g 70 16 0) = am_mv h := (show am_mv g = am_mv h from m_frs_mv i5)
  rw [bq_M_street_20, if_pos i2, if_neg (by omega), if_pos (by omega), bq_M_street_52 (by omega), if_pos (show am_up g 70 16 0 70 18 = 0 from i2), sp_M_carryAll_t86 (by omega)]
  simp only [Option.toList_some, Option.toList_none, List.cons_append, List.nil_append]
  rw [bq_M_street_82]
  have f0 : ∀ c j, ¬ c = 86 → ¬ (c = 70 ∧ (j = 16 ∨ j = 26 ∨ j = 27)) → am_tkk (am_up g 70 16 0) 86 127 c j = g c j := fun c j h1 h2 => by
    rw [am_tkk_a h1 (fun w => ⟨fun w2 => h2 ⟨w, by omega⟩, fun w2 => h2 ⟨w, by omega⟩⟩)]
    unfold am_up
    by_cases q : c = 70
    · rw [if_pos q, if_neg (fun w => h2 ⟨q, by omega⟩)]
    · rw [if_neg q]
  have key := am_im_fr (J := Nat → Nat → Int) (a := 0) (n := k) (fun k g => m_I2 h K k g) (fun k g => am_Wp d 192 84 [some (Sum.inr (Sum.inr 70)), some (Sum.inl (k : Int))] [] (am_SH L, g, am_RR 87) Q) (by omega) (fun m f h1 h2 hi ih => ?_) (fun g hi => hE g 87 hi) (am_tkk (am_up g 70 16 0) 86 127) ⟨?_, rfl, ?_, fun j hj => ?_, fun j hj => ?_, fun c j h1 h2 h3 => ?_⟩
  · exact key
  · have hi0 := hi
    obtain ⟨b1, b2, b3, b4, b5, b6⟩ := hi
    obtain ⟨v1, v2⟩ := u_V_ok (n := n) (K := K) g2 hv hz m _ (by omega) b1
    have o3 := (hmo m (by omega)).1
    have o4 := (hmo m (by omega)).2.1 (by omega)
    obtain ⟨W, hW⟩ := u_V_lt (V := am_mv h) (k := m + 1) (k - (m + 1)) (by rw [show m + 1 + (k - (m + 1)) = k by omega]; exact hU)
    rw [u_V_s b1] at hW
    rw [bq_M_street_84 (by omega), if_neg (by omega)]
    refine sp_M_comes (n := n) (s := u_S (h 82) m) (k := m) (by omega) (g2 m (by omega)) (by omega) (b4 m (by omega)) v1 (fun f2 U2 hu hw hf2 => ?_) (fun hu => ?_)
    · simp only [Option.toList_some, Option.toList_none, List.cons_append, List.nil_append]
      rw [bq_M_street_97 (by omega), if_neg (by omega), am_incn (by omega)]
      exact ih f2 (m_I2_n hi0 (by rw [u_V_s b1, hu, hw]) hf2)
    · rw [hu] at hW; cases hW
  · show some (am_mv h) = some (am_mv (am_tkk (am_up g 70 16 0) 86 127))
    have : am_mv (am_tkk (am_up g 70 16 0) 86 127) = am_mv (am_up g 70 16 0) := rfl
    rw [this, em]
  · exact (f0 70 19 (by omega) (by omega)).trans i3
  · exact m_told_c (i4 j hj) (f0 83 j (by omega) (by omega)) (f0 84 j (by omega) (by omega)) (fun i hi => f0 85 (5 * j + i) (by omega) (by omega))
  · show (if j < 127 then am_car (am_up g 70 16 0) j else _) = _
    rw [if_pos hj]
    exact am_car_c em
  · exact (f0 c j (by omega) (by omega)).trans (i5 c j (by omega) (by omega))
theorem m_streetFail {d : Nat} {h : Nat → Nat → Int} {n K k : Nat} {U : am_Vw} (hd : 30 ≤ d) (hn : h 70 16 = (n : Int)) (h96 : n ≤ 96) (h8 : ∀ j, 0 ≤ h 82 j ∧ h 82 j ≤ 255) (hg : u_Good (h 82) n K) (hv : v_ok (am_mv h)) (hz : v_z (am_mv h)) (hk : k < K) (hU : u_V (h 82) (am_mv h) k = some U) (hN : u_do (h 82) (u_S (h 82) k) U = none) : am_SM h (Sum.inl (-2000 - (u_S (h 82) k : Int))) (m_Ss h (am_mv h) (h 70 31)) (fun L kp Q => am_Wp d 192 0 [some (Sum.inr (Sum.inr 70)), none] [] (am_SH L, h, am_RR kp) Q) := by
  intro L kp Q hq
  show am_Wp d 192 0 [some (Sum.inr (Sum.inr 70)), none] [] (am_SH L, h, am_RR kp) Q
  refine lp_M_street2 (by omega) hn h96 h8 hg hv hz (by omega) hU (fun f kp hi => ?_)
  obtain ⟨b1, b2, b3, b4, b5, b6⟩ := hi
  obtain ⟨v1, v2⟩ := u_V_ok (n := n) (K := K) hg.2.1 hv hz k _ (by omega) b1
  have o := u_S_mono hg.2.1 k (by omega)
  have o4 := o.2.1 hk
  have eU : am_mv f = U := by have := b1.symm.trans hU; injection this
  rw [bq_M_street_84 (by omega), if_neg (by omega)]
  refine sp_M_comes (n := n) (s := u_S (h 82) k) (k := k) (by omega) (hg.2.1 k hk) (by omega) (b4 k hk) v1 (fun f2 U2 hu hw hf2 => ?_) (fun hu => ?_)
  · rw [eU, hN] at hu; cases hu
  · simp only [Option.toList_some, Option.toList_none, List.cons_append, List.nil_append]
    have e83 : am_puk f 86 127 83 k = (u_S (h 82) k : Int) := (b4 k hk).1
    rw [bq_M_street_97 (by omega), if_pos rfl, sp_M_carryAll_p86 (by omega)]
    simp only [Option.toList_some, Option.toList_none, List.cons_append, List.nil_append]
    rw [bq_M_street_109, am_gd (by omega) (by omega), Int.toNat_natCast, e83, am_sub_ok (by omega) (by omega)]
    have em : am_mv (am_puk f 86 127) = am_mv h := by
      refine (v_puk v2).trans (Eq.trans (v_of_c (u := am_car h) (b := 0) (fun j hj => ?_)) (v_of_car hz))
      rw [Nat.zero_add]; exact b5 j hj
    have hf2 : m_frt h (am_puk f 86 127) := fun c j h1 h2 h3 => by
      refine Eq.trans ?_ (b6 c j h1 h2 h3)
      have hix : ¬ am_ix c j < 127 := by
        unfold am_ix
        by_cases q : c = 70
        · rw [if_pos q, if_neg (fun w => h1 ⟨q, by omega⟩), if_neg (fun w => h1 ⟨q, by omega⟩), if_neg (fun w => h1 ⟨q, by omega⟩)]; omega
        · rw [if_neg q]
          by_cases q2 : c < 71
          · rw [if_pos q2]; omega
          · rw [if_neg q2, if_neg (by omega), if_neg (by omega)]; omega
      unfold am_puk
      rw [if_neg hix]
      by_cases q : c = 70
      · rw [if_pos q, if_neg (fun w => h1 ⟨q, by omega⟩), if_neg (fun w => h1 ⟨q, by omega⟩)]
      · rw [if_neg q]
    obtain ⟨s1, s2, s3⟩ := m_S_frt hf2 b2
    rw [em] at s1
    exact hq _ _ s3 s1 s2
theorem m_streetDone {d : Nat} {h : Nat → Nat → Int} {n K : Nat} {U : am_Vw} (hd : 30 ≤ d) (hn : h 70 16 = (n : Int)) (h96 : n ≤ 96) (h8 : ∀ j, 0 ≤ h 82 j ∧ h 82 j ≤ 255) (hg : u_Good (h 82) n K) (hv : v_ok (am_mv h)) (hz : v_z (am_mv h)) (hU : u_V (h 82) (am_mv h) K = some U) : am_SM h (Sum.inl (K : Int)) (m_Ss h U 0) (fun L kp Q => am_Wp d 192 0 [some (Sum.inr (Sum.inr 70)), none] [] (am_SH L, h, am_RR kp) Q) := by
  intro L kp Q hq
  show am_Wp d 192 0 [some (Sum.inr (Sum.inr 70)), none] [] (am_SH L, h, am_RR kp) Q
  refine lp_M_street2 (by omega) hn h96 h8 hg hv hz (by omega) hU (fun f kp hi => ?_)
  obtain ⟨b1, b2, b3, b4, b5, b6⟩ := hi
  have eU : am_mv f = U := by have := b1.symm.trans hU; injection this
  have e19 : am_up f 70 31 0 70 19 = (K : Int) := b3
  rw [bq_M_street_84 (by omega), if_pos (by omega), e19]
  obtain ⟨s1, s2, s3⟩ := m_S_frt b6 b2
  refine hq _ _ s3 ?_ s2
  show (am_mv f, f 70 25, f 87, f 88, 0, f 82, f 70 16, f 98, f 70 46, f 81) = _
  have s4 := m_S_c (g := f) (h := f) rfl
  have k1 := congrArg (fun m : am_MS => m.2.1) s1
  have k2 := congrArg (fun m : am_MS => m.2.2.1) s1
  have k3 := congrArg (fun m : am_MS => m.2.2.2.1) s1
  have k5 := congrArg (fun m : am_MS => m.2.2.2.2.2.1) s1
  have k7 := congrArg (fun m : am_MS => m.2.2.2.2.2.2.2.1) s1
  have k8 := congrArg (fun m : am_MS => m.2.2.2.2.2.2.2.2.1) s1
  have k9 := congrArg (fun m : am_MS => m.2.2.2.2.2.2.2.2.2) s1
  rw [eU, b2, show f 70 25 = h 70 25 from k1, show f 87 = h 87 from k2, show f 88 = h 88 from k3, show f 82 = h 82 from k5, show f 98 = h 98 from k7, show f 70 46 = h 70 46 from k8, show f 81 = h 81 from k9]
theorem m_Ss_c {g h : Nat → Nat → Int} (e : m_S g = m_S h) {W : am_Vw} {t : Int} : m_Ss g W t = m_Ss h W t := by
  obtain ⟨k0, k1, k2, k3, k4, k5, k6, k7, k8, k9⟩ := m_S_c e
  show (W, g 70 25, g 87, g 88, t, g 82, 0, g 98, g 70 46, g 81) = _
  rw [k1, k2, k3, k5, k7, k8, k9]
theorem p_street {d : Nat} (hd : 30 ≤ d) : am_PR am_isI (fun h L kp Q => am_Wp d 18 0 [some (Sum.inr (Sum.inr 1)), none] [] (am_SH L, h, am_RR kp) Q) (fun h L kp Q => am_Wp d 192 0 [some (Sum.inr (Sum.inr 70)), none] [] (am_SH L, h, am_RR kp) Q) := by
  intro h hi
  have hi0 := hi
  obtain ⟨⟨b1, b2, b3⟩, ⟨⟨b4, b4d⟩, b5⟩, b6, ⟨c1, c2, c3, c4⟩, b8, b9⟩ := am_INV_u.1 hi
  obtain ⟨n, hn⟩ := Int.eq_ofNat_of_zero_le c3.1
  have h96 : n ≤ 96 := by omega
  have gf : ∀ g, m_S g = m_S h → g 70 16 = (n : Int) ∧ g 82 = h 28 ∧ am_mv g = am_wv h 2 ∧ g 70 31 = h 70 31 := fun g e => by
    obtain ⟨k0, k1, k2, k3, k4, k5, k6, k7, k8, k9⟩ := m_S_c e
    exact ⟨by rw [k6, c2, hn], by rw [k5, c1], by rw [k0, b3], k4⟩
  rcases u_all (le := h 28) (n := n) h96 with ⟨k, i, hb⟩ | ⟨K, hg⟩
  · refine ⟨Sum.inl _, _, m_Ss h (am_wv h 2) (h 70 31), ⟨_, rfl⟩, c_streetBad hd hn h96 hb, fun g e1 e2 => ?_, ⟨b1, b2, rfl⟩, ⟨⟨b4, b4d⟩, b5⟩, b6, ⟨c1, rfl, by omega, c4⟩, b8, b9⟩
    obtain ⟨f1, f2, f3, f4⟩ := gf g e2
    have hm := m_streetBad (h := g) (n := n) (k := k) (i := i) hd f1 h96 (by rw [f2]; exact c4) (by rw [f2]; exact hb)
    rw [m_Ss_c e2, f2, f3, f4] at hm
    exact hm
  · rcases u_run_tri (le := h 28) (V := am_wv h 2) K with ⟨k, U, hk, hU, hN⟩ | ⟨U, hU⟩
    · have hzU := (u_V_ok (n := n) (K := K) hg.2.1 b1 b2 k U (by omega) hU).2
      refine ⟨Sum.inl _, _, m_Ss h (am_wv h 2) (h 70 31), ⟨_, rfl⟩, c_streetFail hd hn h96 hg c4 b1 b2 b4d hk hU hN, fun g e1 e2 => ?_, ⟨b1, b2, rfl⟩, ⟨⟨b4, hzU⟩, b5⟩, b6, ⟨c1, rfl, by omega, c4⟩, b8, b9⟩
      obtain ⟨f1, f2, f3, f4⟩ := gf g e2
      have hm := m_streetFail (h := g) (n := n) (K := K) (k := k) (U := U) hd f1 h96 (by rw [f2]; exact c4) (by rw [f2]; exact hg) (by rw [f3]; exact b1) (by rw [f3]; exact b2) hk (by rw [f2, f3]; exact hU) (by rw [f2]; exact hN)
      rw [m_Ss_c e2, f2, f3, f4] at hm
      exact hm
    · obtain ⟨hvU, hzU⟩ := u_V_ok (n := n) (K := K) hg.2.1 b1 b2 K U (by omega) hU
      refine ⟨Sum.inl _, _, m_Ss h U 0, ⟨_, rfl⟩, c_streetDone hd hn h96 hg c4 b1 b2 b4d hU, fun g e1 e2 => ?_, ⟨hvU, hzU, rfl⟩, ⟨⟨b4, hzU⟩, b5⟩, i_P_0 b6, ⟨c1, rfl, by omega, c4⟩, b8, b9.1, v_nI_0 b9.2 (u_V_nl (n := n) (K := K) hg.2.1 b1 b2 b9.2.1 K U (by omega) hU)⟩
      obtain ⟨f1, f2, f3, f4⟩ := gf g e2
      have hm := m_streetDone (h := g) (n := n) (K := K) (U := U) hd f1 h96 (by rw [f2]; exact c4) (by rw [f2]; exact hg) (by rw [f3]; exact b1) (by rw [f3]; exact b2) (by rw [f2, f3]; exact hU)
      rw [m_Ss_c e2] at hm
      exact hm