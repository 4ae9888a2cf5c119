/-! ring, round OF BOTH -/
def r_fq (h g : Nat → Nat → Int) : Prop := ∀ c j, ¬ (c = 99 ∨ c = 100) → ¬ (c = 70 ∧ j = 47) → g c j = h c j
theorem r_fq_mv {h g : Nat → Nat → Int} (hf : r_fq h g) : am_mv g = am_mv h := by
  have e : ∀ c, ¬ (c = 99 ∨ c = 100) → ¬ c = 70 → g c = h c := fun c hc h7 => funext fun j => hf c j hc (fun w => h7 w.1)
  exact am_mv_mk (hf 70 0 (by omega) (by omega)) (hf 70 6 (by omega) (by omega)) (hf 70 5 (by omega) (by omega)) (e 71 (by omega) (by omega)) (e 72 (by omega) (by omega)) (e 73 (by omega) (by omega)) (e 74 (by omega) (by omega)) (e 75 (by omega) (by omega)) (e 76 (by omega) (by omega)) (e 77 (by omega) (by omega)) (e 78 (by omega) (by omega)) (e 79 (by omega) (by omega)) (e 80 (by omega) (by omega))
theorem r_fq_keep {h g : Nat → Nat → Int} (hf : r_fq h g) : am_keep h g := fun c j hr => hf c j (fun w => by
  rcases w with w | w <;> subst w <;> cases hr) (fun w => by
  obtain ⟨w1, w2⟩ := w
  subst w1; subst w2; cases hr)
theorem r_fq_m {h g g2 : Nat → Nat → Int} (hf : r_fq h g) (hm : r_fm g g2) : r_fq h g2 := fun c j h1 h2 => (hm c j (by omega)).trans (hf c j h1 h2)
theorem r_fq_u {h g : Nat → Nat → Int} {a j : Nat} {v : Int} (hf : r_fq h g) (ha : a = 99 ∨ a = 100 ∨ (a = 70 ∧ j = 47)) : r_fq h (am_up g a j v) := fun c i h1 h2 => by
  refine Eq.trans ?_ (hf c i h1 h2)
  unfold am_up
  by_cases q : c = a
  · rw [if_pos q, if_neg (fun w => ?_)]
    subst q; subst w
    omega
  · rw [if_neg q]
/-- one start: nothing -/
theorem lp_M_sr0 {d L kp n P p : Nat} {h g : Nat → Nat → Int} {b : Option am_V} {Q : Option am_V → am_H → Prop} (hd : 5 ≤ d) (hv : v_ok (am_mv h)) (hP : h 70 0 = (P : Int)) (hP7 : P ≤ 7) (hn : n ≤ P) (hn2 : 2 ≤ n) (hp : p < P) (hf : r_fq h g) (h47 : g 70 47 = -9) (hno : ∀ f, r_Full (r_E (am_mv h)) n f → ¬ f 0 = p) (hq : ∀ g2, r_fq h g2 → g2 70 47 = -9 → am_Wp d 266 25 [some (Sum.inr (Sum.inr 70)), some (Sum.inl (n : Int)), some (Sum.inl ((p + 1 : Nat) : Int)), b] [] (am_SH L, g2, am_RR kp) Q) : am_Wp d 266 25 [some (Sum.inr (Sum.inr 70)), some (Sum.inl (n : Int)), some (Sum.inl (p : Int)), b] [] (am_SH L, g, am_RR kp) Q := by
  have e70 : g 70 0 = (P : Int) := (hf 70 0 (by omega) (by omega)).trans hP
  have em : am_mv (am_up g 100 0 (p : Int)) = (am_mv h) := r_fq_mv (r_fq_u hf (by omega))
  rw [bq_M_seekRing_25 (by omega), if_neg (by omega), if_neg (by omega)]
  refine ⟨by omega, ?_⟩
  refine sp_M_closes0 (h := am_up g 100 0 (p : Int)) (P := P) (p := p) (by omega) (by rw [em]; exact hv) e70 (by omega) hn2 hp am_upe (by rw [em]; exact hno) (fun g2 hg2 => ?_)
  simp only [Option.toList_some, Option.toList_none, List.cons_append, List.nil_append]
  rw [bq_M_seekRing_52, if_pos rfl, bq_M_seekRing_85, am_incn (by omega)]
  exact hq g2 (r_fq_m (r_fq_u hf (by omega)) hg2) ((hg2 70 47 (by omega)).trans h47)
/-- a length without a ring -/
theorem lp_M_srn {d L kp n P : Nat} {h g : Nat → Nat → Int} {a b : Option am_V} {Q : Option am_V → am_H → Prop} (hd : 5 ≤ d) (hv : v_ok (am_mv h)) (hP : h 70 0 = (P : Int)) (hP7 : P ≤ 7) (hn : n ≤ P) (hn2 : 2 ≤ n) (hf : r_fq h g) (h47 : g 70 47 = -9) (hno : ∀ f, ¬ r_Full (r_E (am_mv h)) n f) (hq : ∀ a g2, r_fq h g2 → g2 70 47 = -9 → am_Wp d 266 8 [some (Sum.inr (Sum.inr 70)), some (Sum.inl ((n + 1 : Nat) : Int)), a, b] [] (am_SH L, g2, am_RR kp) Q) : am_Wp d 266 8 [some (Sum.inr (Sum.inr 70)), some (Sum.inl (n : Int)), a, b] [] (am_SH L, g, am_RR kp) Q := by
  have e70 : ∀ g, r_fq h g → g 70 0 = (P : Int) := fun g hf => (hf 70 0 (by omega) (by omega)).trans hP
  rw [bq_M_seekRing_8, e70 g hf, if_neg (by omega), if_neg (by omega)]
  refine am_im_fr (J := Nat → Nat → Int) (a := 0) (n := P) (fun p g => r_fq h g ∧ g 70 47 = -9) (fun p g => am_Wp d 266 25 [some (Sum.inr (Sum.inr 70)), some (Sum.inl (n : Int)), some (Sum.inl (p : Int)), b] [] (am_SH L, g, am_RR kp) Q) (by omega) (fun p g h1 h2 hi ih => ?_) (fun g hi => ?_) g ⟨hf, h47⟩
  · exact lp_M_sr0 hd hv hP hP7 hn hn2 h2 hi.1 hi.2 (fun f hf2 _ => hno f hf2) (fun g2 x y => ih g2 ⟨x, y⟩)
  · rw [bq_M_seekRing_25 (by omega), e70 g hi.1, if_pos (by omega), bq_M_seekRing_91, am_incn (by omega)]
    exact hq _ g hi.1 hi.2
theorem sp_M_seekRing {d L kp : Nat} {h : Nat → Nat → Int} {Q : Option am_V → am_H → Prop} (hd : 6 ≤ d) (hv : v_ok (am_mv h)) (hnl : v_nl (am_mv h)) (hq1 : (∀ n f, ¬ r_Full (r_E (am_mv h)) n f) → ∀ g, r_fq h g → g 70 47 = -9 → Q none (am_SH L, g, am_RR kp)) (hq2 : ∀ m c, r_Best (r_E (am_mv h)) m c → ∀ g, r_fq h g → g 70 47 = (m : Int) → m ≤ 7 → (∀ k, k < m → c k < 7) → (∀ k, k < m → g 99 k = (c k : Int)) → Q none (am_SH L, g, am_RR kp)) : am_Wp d 266 0 [some (Sum.inr (Sum.inr 70)), none, none, none] [] (am_SH L, h, am_RR kp) Q := by
  have hP1 := mv_P hv
  obtain ⟨P, hP⟩ := Int.eq_ofNat_of_zero_le hP1.1
  have hP7 : P ≤ 7 := by omega
  have hlt : ∀ a b, r_E (am_mv h) a b → a < P ∧ b < P := fun a b hab => by
    have h1 := r_E_lt hv hab
    rw [show (vP (am_mv h)).toNat = P by rw [show vP (am_mv h) = (P : Int) from hP]; exact Int.toNat_natCast P] at h1
    exact h1
  have e70 : ∀ g, r_fq h g → g 70 0 = (P : Int) := fun g hf => (hf 70 0 (by omega) (by omega)).trans hP
  rw [bq_M_seekRing_0]
  have f0 : r_fq h (am_up h 70 47 (-9)) := r_fq_u (fun _ _ _ _ => rfl) (by omega)
  by_cases hex : ∃ n f, r_Full (r_E (am_mv h)) n f
  · obtain ⟨m, c, hb⟩ := r_best_ex hex
    have hq3 := hq2 m c hb
    clear hq1 hq2
    have h2 := hb.1.1
    have hcP := (r_full_pre hlt hb.1 (Nat.le_refl m)).1
    have hmP : m ≤ P := r_pigeon P m c hcP hb.1.2.2.2
    have hc0 := hcP 0 (by omega)
    refine am_im_fr (J := (Nat → Nat → Int) × Option am_V) (a := 2) (n := m) (fun n j => r_fq h j.1 ∧ j.1 70 47 = -9) (fun n j => am_Wp d 266 8 [some (Sum.inr (Sum.inr 70)), some (Sum.inl (n : Int)), j.2, none] [] (am_SH L, j.1, am_RR kp) Q) (by omega) (fun n j h3 h4 hi ih => ?_) (fun j hi => ?_) (am_up h 70 47 (-9), none) ⟨f0, (show am_up h 70 47 (-9) 70 47 = -9 from am_upe)⟩
    · refine lp_M_srn (by omega) hv hP hP7 (by omega) (by omega) hi.1 hi.2 (fun f hf => ?_) (fun a g2 x y => ih (g2, a) ⟨x, y⟩)
      have := hb.2.1 n f hf
      omega
    · obtain ⟨g, a⟩ := j
      obtain ⟨i1, i2⟩ := hi
      dsimp only at i1 i2 ⊢
      rw [bq_M_seekRing_8, e70 g i1, if_neg (by omega), if_neg (by omega)]
      refine am_im_fr (J := Nat → Nat → Int) (a := 0) (n := c 0) (fun p g => r_fq h g ∧ g 70 47 = -9) (fun p g => am_Wp d 266 25 [some (Sum.inr (Sum.inr 70)), some (Sum.inl (m : Int)), some (Sum.inl (p : Int)), none] [] (am_SH L, g, am_RR kp) Q) (by omega) (fun p g h3 h4 hi ih => ?_) (fun g hi => ?_) g ⟨i1, i2⟩
      · refine lp_M_sr0 (by omega) hv hP hP7 hmP h2 (by omega) hi.1 hi.2 (fun f hf w => ?_) (fun g2 x y => ih g2 ⟨x, y⟩)
        have := hb.2.2 f 0 hf (by omega) (fun j hj => absurd hj (by omega))
        omega
      · obtain ⟨i1, i2⟩ := hi
        have em : am_mv (am_up g 100 0 (c 0 : Int)) = (am_mv h) := r_fq_mv (r_fq_u i1 (by omega))
        rw [bq_M_seekRing_25 (by omega), e70 g i1, if_neg (by omega), if_neg (by omega)]
        refine ⟨by omega, ?_⟩
        refine sp_M_closes1 (h := am_up g 100 0 (c 0 : Int)) (P := P) (c := c) (by omega) (by rw [em]; exact hv) (e70 g i1) (by omega) (by rw [em]; exact hlt) (by rw [em]; exact hb.1) (by rw [em]; exact fun f k hf _ hk ha => hb.2.2 f k hf hk ha) am_upe (fun g2 hg2 h100 => ?_)
        have fq2 : r_fq h g2 := r_fq_m (r_fq_u i1 (by omega)) hg2
        simp only [Option.toList_some, Option.toList_none, List.cons_append, List.nil_append]
        rw [bq_M_seekRing_52, if_neg (by omega)]
        have key := am_im_fr (J := Nat → Nat → Int) (a := 0) (n := m) (fun k f => r_fq h f ∧ f 70 47 = (m : Int) ∧ (∀ j, j < m → f 100 j = (c j : Int)) ∧ (∀ j, j < k → f 99 j = (c j : Int))) (fun k f => am_Wp d 266 62 [some (Sum.inr (Sum.inr 70)), some (Sum.inl (m : Int)), some (Sum.inl (c 0 : Int)), some (Sum.inl (k : Int))] [] (am_SH L, f, am_RR kp) Q) (by omega) (fun k f h3 h4 hi ih => ?_) (fun f hi => ?_) (am_up g2 70 47 (m : Int)) ⟨r_fq_u fq2 (by omega), am_upe, h100, fun j hj => absurd hj (by omega)⟩
        · exact key
        · obtain ⟨k1, k2, k3, k4⟩ := hi
          rw [bq_M_seekRing_62, if_neg (by omega), am_gd (by omega) (by omega), am_gd (by omega) (by omega), Int.toNat_natCast, am_incn (by omega), k3 k h4]
          refine ih _ ⟨r_fq_u k1 (by omega), k2, k3, fun j hj => ?_⟩
          by_cases q : j = k
          · rw [q]; exact am_upe
          · rw [am_upj q]; exact k4 j (by omega)
        · obtain ⟨k1, k2, k3, k4⟩ := hi
          have e9 : am_Wp d 266 25 [some (Sum.inr (Sum.inr 70)), some (Sum.inl (m : Int)), some (Sum.inl ((c 0 + 1 : Nat) : Int)), some (Sum.inl (m : Int))] [] (am_SH L, f, am_RR kp) Q := by
            have r91 : am_Wp d 266 91 [some (Sum.inr (Sum.inr 70)), some (Sum.inl (m : Int)), some (Sum.inl ((c 0 + 1 : Nat) : Int)), some (Sum.inl (m : Int))] [] (am_SH L, f, am_RR kp) Q := by
              rw [bq_M_seekRing_91, bq_M_seekRing_8, e70 f k1, am_incn (by omega)]
              have r97 := hq3 f k1 k2 (by omega) (fun k hk => by have := hcP k hk; omega) k4
              by_cases q : (P : Int) < ((m + 1 : Nat) : Int)
              · rw [if_pos q, bq_M_seekRing_97]; exact r97
              · rw [if_neg q, if_pos (by omega), bq_M_seekRing_97]; exact r97
            rw [bq_M_seekRing_25 (by omega), e70 f k1]
            by_cases q : (P : Int) ≤ ((c 0 + 1 : Nat) : Int)
            · rw [if_pos q]; exact r91
            · rw [if_neg q, if_pos (by omega)]; exact r91
          rw [bq_M_seekRing_62, if_pos (by omega), bq_M_seekRing_85, am_incn (by omega)]
          exact e9
  · have hno : ∀ n f, ¬ r_Full (r_E (am_mv h)) n f := fun n f hf => hex ⟨n, f, hf⟩
    by_cases hP2 : P < 2
    · rw [bq_M_seekRing_8, e70 _ f0, if_pos (by omega), bq_M_seekRing_97]
      exact hq1 hno _ f0 am_upe
    · refine am_im_fr (J := (Nat → Nat → Int) × Option am_V) (a := 2) (n := P + 1) (fun n j => r_fq h j.1 ∧ j.1 70 47 = -9) (fun n j => am_Wp d 266 8 [some (Sum.inr (Sum.inr 70)), some (Sum.inl (n : Int)), j.2, none] [] (am_SH L, j.1, am_RR kp) Q) (by omega) (fun n j h3 h4 hi ih => ?_) (fun j hi => ?_) (am_up h 70 47 (-9), none) ⟨f0, (show am_up h 70 47 (-9) 70 47 = -9 from am_upe)⟩
      · exact lp_M_srn (by omega) hv hP hP7 (by omega) (by omega) hi.1 hi.2 (hno n) (fun a g2 x y => ih (g2, a) ⟨x, y⟩)
      · rw [bq_M_seekRing_8, e70 _ hi.1, if_pos (by omega), bq_M_seekRing_97]
        exact hq1 hno _ hi.1 hi.2
theorem m_ring {d L kp : Nat} {h : Nat → Nat → Int} {i : Int} {A : am_V × Nat} (hd : 30 ≤ d) (hv : v_ok (am_mv h)) (hn : v_nl (am_mv h)) (hA1 : (∀ n f, ¬ r_Full (r_E (am_mv h)) n f) → A = a_ringN i) (hA2 : ∀ m c, r_Best (r_E (am_mv h)) m c → A = a_ringB m c i) : am_An L 81 A h (fun Q => am_Wp d 265 0 [some (Sum.inr (Sum.inr 70)), some (Sum.inl i)] [] (am_SH L, h, am_RR kp) Q) := by
  intro Q hq
  show am_Wp d 265 0 [some (Sum.inr (Sum.inr 70)), some (Sum.inl i)] [] (am_SH L, h, am_RR kp) Q
  by_cases q : i < -1
  · have hA : A = (Sum.inl (-4), 4) := by
      by_cases hex : ∃ n f, r_Full (r_E (am_mv h)) n f
      · obtain ⟨m, c, hb⟩ := r_best_ex hex
        rw [hA2 m c hb]; exact if_pos q
      · rw [hA1 (fun n f hf => hex ⟨n, f, hf⟩)]; exact if_pos q
    rw [hA] at hq
    rw [bq_M_ring_0 (by omega), if_neg (by omega), sp_M_refuse (by omega) (by omega)]
    simp only [Option.toList_some, Option.toList_none, List.cons_append, List.nil_append]
    rw [bq_M_ring_16]
    exact hq _ kp am_keep_70
  · have em : am_mv (am_up h 70 13 0) = (am_mv h) := rfl
    rw [bq_M_ring_0 (by omega), if_pos (by omega)]
    refine sp_M_seekRing (h := am_up h 70 13 0) (by omega) hv hn (fun hno g hf h47 => ?_) (fun m c hb g hf h47 hm7 hc7 h99 => ?_)
    · rw [em] at hno
      rw [hA1 hno] at hq
      unfold a_ringN at hq
      rw [if_neg q] at hq
      simp only [Option.toList_some, Option.toList_none, List.cons_append, List.nil_append]
      rw [bq_M_ring_21]
      have hq2 := hq g kp (am_keep_t am_keep_70 (r_fq_keep hf))
      by_cases q0 : 0 ≤ i
      · rw [if_pos q0, if_pos (by omega), bq_M_ring_51]; exact hq2
      · rw [if_neg q0, h47, bq_M_ring_51]; exact hq2
    · rw [em] at hb
      have h2 := hb.1.1
      rw [hA2 m c hb] at hq
      unfold a_ringB at hq
      rw [if_neg q] at hq
      have hq2 := hq g kp (am_keep_t am_keep_70 (r_fq_keep hf))
      simp only [Option.toList_some, Option.toList_none, List.cons_append, List.nil_append]
      rw [bq_M_ring_21, h47]
      by_cases q0 : 0 ≤ i
      · rw [if_pos q0]
        rw [if_neg (by omega)] at hq2
        by_cases q1 : i < (m : Int)
        · obtain ⟨k, rfl⟩ := Int.eq_ofNat_of_zero_le q0
          rw [if_pos q1, Int.toNat_natCast] at hq2
          rw [if_neg (by omega), am_gd (by omega) (by omega), Int.toNat_natCast, h99 k (by omega), bq_M_ring_51]
          exact hq2
        · rw [if_neg q1] at hq2
          rw [if_pos (by omega), bq_M_ring_51]; exact hq2
      · rw [if_pos (by omega)] at hq2
        rw [if_neg q0, bq_M_ring_51]; exact hq2
theorem m_round {d L kp : Nat} {h : Nat → Nat → Int} {A : am_V × Nat} (hd : 30 ≤ d) (hv : v_ok (am_mv h)) (hn : v_nl (am_mv h)) (hA1 : (∀ n f, ¬ r_Full (r_E (am_mv h)) n f) → A = (Sum.inl (-9), 0)) (hA2 : ∀ m c, r_Best (r_E (am_mv h)) m c → A = (Sum.inl (r_min (r_w (am_mv h) c m) m), 0)) : am_An L 81 A h (fun Q => am_Wp d 269 0 [some (Sum.inr (Sum.inr 70)), none, none, none] [] (am_SH L, h, am_RR kp) Q) := by
  intro Q hq
  show am_Wp d 269 0 [some (Sum.inr (Sum.inr 70)), none, none, none] [] (am_SH L, h, am_RR kp) Q
  have em : am_mv (am_up h 70 13 0) = (am_mv h) := rfl
  rw [bq_M_round_0 (by omega)]
  refine sp_M_seekRing (h := am_up h 70 13 0) (by omega) hv hn (fun hno g hf h47 => ?_) (fun m c hb g hf h47 hm7 hc7 h99 => ?_)
  · rw [em] at hno
    rw [hA1 hno] at hq
    simp only [Option.toList_some, Option.toList_none, List.cons_append, List.nil_append]
    rw [bq_M_round_9, bq_M_round_14 (by omega), if_pos (by omega)]
    exact hq g kp (am_keep_t am_keep_70 (r_fq_keep hf))
  · rw [em] at hb
    have h2 := hb.1.1
    rw [hA2 m c hb] at hq
    have hq2 := hq g kp (am_keep_t am_keep_70 (r_fq_keep hf))
    have emg : am_mv g = (am_mv h) := (r_fq_mv hf).trans em
    have hw : ∀ k, 0 ≤ r_w (am_mv h) c m k ∧ r_w (am_mv h) c m k ≤ 640 := fun k => v_owes_le hv _ _
    simp only [Option.toList_some, Option.toList_none, List.cons_append, List.nil_append]
    rw [bq_M_round_9]
    have key := am_dn_fr (J := Option am_V) (a := 0) (n := m) (fun k j => am_Wp d 269 14 [some (Sum.inr (Sum.inr 70)), some (Sum.inl (if k = 0 then -9 else r_min (r_w (am_mv h) c m) k)), some (Sum.inl (k : Int)), j] [] (am_SH L, g, am_RR kp) Q) (Q (some (Sum.inl (r_min (r_w (am_mv h) c m) m))) (am_SH L, g, am_RR kp)) (by omega) (fun k h3 h4 ih j => ?_) (fun j => ?_) none
    · exact (show am_Wp d 269 14 [some (Sum.inr (Sum.inr 70)), some (Sum.inl ((-9))), some (Sum.inl (0)), none] [] (am_SH L, g, am_RR kp) Q = _ from key).mpr hq2
    · have er : am_rem (am_add (k : Int) 1) (m : Int) = ((if k + 1 < m then k + 1 else 0 : Nat) : Int) := by
        rw [am_incn (by omega), am_rem_ok (by omega) (by omega) (by omega) (by omega)]
        by_cases q : k + 1 < m
        · rw [if_pos q]; exact Int.emod_eq_of_lt (by omega) (by omega)
        · rw [if_neg q, show k + 1 = m by omega]; exact Int.emod_self
      have ht : (if k + 1 < m then k + 1 else 0) < m := by split <;> omega
      have hwk := hw k
      have hrk := r_min_le hw k
      have ew : v_owes (am_mv h) (c k : Int) (c (if k + 1 < m then k + 1 else 0) : Int) = r_w (am_mv h) c m k := rfl
      have ih2 := ih (some (Sum.inl (r_w (am_mv h) c m k)))
      rw [if_neg (by omega)] at ih2
      refine (bq_M_round_14 (by omega)).trans ?_
      rw [h47, if_neg (by omega), am_gd (by omega) (by omega), er]
      refine (propext ⟨fun w => w.2.2, fun w => ⟨by omega, by omega, w⟩⟩ : _ = _).trans ?_
      rw [Int.toNat_natCast, Int.toNat_natCast, h99 k h4, h99 _ ht, sp_M_owesOf (by rw [emg]; exact hv), emg, ew]
      simp only [Option.toList_some, Option.toList_none, List.cons_append, List.nil_append]
      rw [bq_M_round_45]
      have e55 : r_min (r_w (am_mv h) c m) (k + 1) = r_w (am_mv h) c m k → am_Wp d 269 55 [some (Sum.inr (Sum.inr 70)), some (Sum.inl (if k = 0 then -9 else r_min (r_w (am_mv h) c m) k)), some (Sum.inl (k : Int)), some (Sum.inl (r_w (am_mv h) c m k))] [] (am_SH L, g, am_RR kp) Q = Q (some (Sum.inl (r_min (r_w (am_mv h) c m) m))) (am_SH L, g, am_RR kp) := fun w => by
        rw [bq_M_round_55, bq_M_round_60, am_incn (by omega), ← w]
        rw [← w] at ih2
        exact ih2
      have em1 : r_min (r_w (am_mv h) c m) (k + 1) = if r_w (am_mv h) c m k < r_min (r_w (am_mv h) c m) k then r_w (am_mv h) c m k else r_min (r_w (am_mv h) c m) k := rfl
      by_cases q0 : k = 0
      · rw [if_pos (show (if k = 0 then (-9 : Int) else r_min (r_w (am_mv h) c m) k) < 0 by rw [if_pos q0]; omega)]
        refine e55 ?_
        rw [em1, q0, show r_min (r_w (am_mv h) c m) 0 = 1000000 from rfl]
        rw [q0] at hwk
        rw [if_pos (by omega)]
      · rw [if_neg q0] at e55 ⊢
        rw [if_neg (by omega)]
        by_cases q1 : r_min (r_w (am_mv h) c m) k ≤ r_w (am_mv h) c m k
        · rw [if_pos q1, bq_M_round_60, am_incn (by omega)]
          rw [em1, if_neg (by omega)] at ih2
          exact ih2
        · rw [if_neg q1]
          exact e55 (by rw [em1, if_pos (by omega)])
    · refine (bq_M_round_14 (by omega)).trans ?_
      rw [h47, if_pos (by omega), if_neg (by omega)]
theorem am_PR_An1 {T : am_V → Prop} {WC WM : (Nat → Nat → Int) → Nat → Nat → (Option am_V → am_H → Prop) → Prop} (hAll : ∀ h, am_INV (c_S h) (m_S h) → ∃ A : am_V × Nat, T A.1 ∧ (∀ L kp, am_An L 41 A h (WC h L kp)) ∧ ∀ g L kp, m_S g = m_S h → am_An L 81 A g (WM g L kp)) : am_PR T WC WM := fun h hi => by
  obtain ⟨A, hT, hc, hm⟩ := hAll h hi
  refine ⟨A.1, c_rf A.2 (c_S h), m_rf A.2 (m_S h), hT, am_SC_An (fun L kp => hc L kp), fun g e1 e2 => ?_, am_INV_rf hi⟩
  rw [← e2]
  exact am_SM_An (fun L kp => hm g L kp e2)
theorem am_INV_n {h : Nat → Nat → Int} (hi : am_INV (c_S h) (m_S h)) : v_nl (am_wv h 2) := (am_INV_u.1 hi).2.2.2.2.2.2.1
theorem r_best_uniq {E : Nat → Nat → Prop} {m n : Nat} {c e : Nat → Nat} (h1 : r_Best E m c) (h2 : r_Best E n e) : m = n ∧ ∀ k, k < m → c k = e k := by
  have a := h1.2.1 n e h2.1
  have b := h2.2.1 m c h1.1
  have hmn : m = n := by omega
  subst hmn
  refine ⟨rfl, ?_⟩
  have key : ∀ k, ∀ j, j < k → j < m → c j = e j := by
    intro k
    induction k with
    | zero => intro j hj; omega
    | succ k ih =>
      intro j hj hjm
      have ag : ∀ i, i < j → c i = e i := fun i hi => ih i (by omega) (by omega)
      have x := h1.2.2 e j h2.1 hjm (fun i hi => (ag i hi).symm)
      have y := h2.2.2 c j h1.1 hjm ag
      omega
  exact fun k hk => key (k + 1) k (by omega) hk
theorem a_ringB_c {m : Nat} {c e : Nat → Nat} {i : Int} (hce : ∀ k, k < m → c k = e k) : a_ringB m c i = a_ringB m e i := by
  unfold a_ringB
  by_cases q : i < (m : Int)
  · by_cases q2 : i = -1
    · rw [if_pos q2, if_pos q2]
    · rw [if_neg q2, if_neg q2, if_pos q, if_pos q]
      by_cases q3 : i < -1
      · rw [if_pos q3, if_pos q3]
      · rw [hce i.toNat (by omega)]
  · rw [if_neg q, if_neg q]
theorem p_ring {d : Nat} {i : Int} (hd : 30 ≤ d) : am_PR am_isI (fun h L kp Q => am_Wp d 139 0 [some (Sum.inr (Sum.inr 1)), some (Sum.inl i)] [] (am_SH L, h, am_RR kp) Q) (fun h L kp Q => am_Wp d 265 0 [some (Sum.inr (Sum.inr 70)), some (Sum.inl i)] [] (am_SH L, h, am_RR kp) Q) := by
  refine am_PR_An1 (fun h hi => ?_)
  have hn := am_INV_n hi
  have hv := (am_INV_u.1 hi).1.1
  by_cases hex : ∃ n f, r_Full (r_E (am_wv h 2)) n f
  · obtain ⟨m, c, hb⟩ := r_best_ex hex
    have f1 : (∀ n f, ¬ r_Full (r_E (am_wv h 2)) n f) → a_ringB m c i = a_ringN i := fun w => absurd hb.1 (w m c)
    have f2 : ∀ m2 c2, r_Best (r_E (am_wv h 2)) m2 c2 → a_ringB m c i = a_ringB m2 c2 i := fun m2 c2 hb2 => by
      obtain ⟨u1, u2⟩ := r_best_uniq hb hb2
      subst u1
      exact a_ringB_c u2
    refine ⟨a_ringB m c i, (by unfold a_ringB; split <;> exact ⟨_, rfl⟩), fun L kp => c_ring hd hv hn f1 f2, fun g L kp eg => ?_⟩
    have eg2 := (am_INV_g hi eg).2.2
    exact m_ring hd (am_INV_g hi eg).1 (by rw [eg2]; exact hn) (by rw [eg2]; exact f1) (by rw [eg2]; exact f2)
  · have f1 : (∀ n f, ¬ r_Full (r_E (am_wv h 2)) n f) → a_ringN i = a_ringN i := fun _ => rfl
    have f2 : ∀ m2 c2, r_Best (r_E (am_wv h 2)) m2 c2 → a_ringN i = a_ringB m2 c2 i := fun m2 c2 hb2 => absurd ⟨m2, c2, hb2.1⟩ hex
    refine ⟨a_ringN i, (by unfold a_ringN; split <;> exact ⟨_, rfl⟩), fun L kp => c_ring hd hv hn f1 f2, fun g L kp eg => ?_⟩
    have eg2 := (am_INV_g hi eg).2.2
    exact m_ring hd (am_INV_g hi eg).1 (by rw [eg2]; exact hn) (by rw [eg2]; exact f1) (by rw [eg2]; exact f2)
theorem r_min_c {w z : Nat → Int} : ∀ k, (∀ j, j < k → w j = z j) → r_min w k = r_min z k := by
  intro k
  induction k with
  | zero => exact fun _ => rfl
  | succ k ih =>
    intro h
    show am_min (r_min w k) (w k) = am_min (r_min z k) (z k)
    rw [ih (fun j hj => h j (by omega)), h k (by omega)]
theorem p_round {d : Nat} (hd : 30 ≤ d) : am_PR am_isI (fun h L kp Q => am_Wp d 146 0 [some (Sum.inr (Sum.inr 1))] [] (am_SH L, h, am_RR kp) Q) (fun h L kp Q => am_Wp d 269 0 [some (Sum.inr (Sum.inr 70)), none, none, none] [] (am_SH L, h, am_RR kp) Q) := by
  refine am_PR_An1 (fun h hi => ?_)
  have hn := am_INV_n hi
  have hv := (am_INV_u.1 hi).1.1
  by_cases hex : ∃ n f, r_Full (r_E (am_wv h 2)) n f
  · obtain ⟨m, c, hb⟩ := r_best_ex hex
    have f1 : (∀ n f, ¬ r_Full (r_E (am_wv h 2)) n f) → ((Sum.inl (r_min (r_w (am_wv h 2) c m) m), 0) : am_V × Nat) = (Sum.inl (-9), 0) := fun w => absurd hb.1 (w m c)
    have f2 : ∀ m2 c2, r_Best (r_E (am_wv h 2)) m2 c2 → ((Sum.inl (r_min (r_w (am_wv h 2) c m) m), 0) : am_V × Nat) = (Sum.inl (r_min (r_w (am_wv h 2) c2 m2) m2), 0) := fun m2 c2 hb2 => by
      obtain ⟨u1, u2⟩ := r_best_uniq hb hb2
      subst u1
      rw [r_min_c m (w := r_w (am_wv h 2) c m) (z := r_w (am_wv h 2) c2 m) (fun j hj => by
        unfold r_w
        rw [u2 j hj, u2 _ (show (if j + 1 < m then j + 1 else 0) < m by split <;> omega)])]
    refine ⟨(Sum.inl (r_min (r_w (am_wv h 2) c m) m), 0), ⟨_, rfl⟩, fun L kp => c_round hd hv hn f1 f2, fun g L kp eg => ?_⟩
    have eg2 := (am_INV_g hi eg).2.2
    exact m_round hd (am_INV_g hi eg).1 (by rw [eg2]; exact hn) (by rw [eg2]; exact f1) (by rw [eg2]; exact f2)
  · have f1 : (∀ n f, ¬ r_Full (r_E (am_wv h 2)) n f) → ((Sum.inl (-9), 0) : am_V × Nat) = (Sum.inl (-9), 0) := fun _ => rfl
    have f2 : ∀ m2 c2, r_Best (r_E (am_wv h 2)) m2 c2 → ((Sum.inl (-9), 0) : am_V × Nat) = (Sum.inl (r_min (r_w (am_wv h 2) c2 m2) m2), 0) := fun m2 c2 hb2 => absurd ⟨m2, c2, hb2.1⟩ hex
    refine ⟨(Sum.inl (-9), 0), ⟨_, rfl⟩, fun L kp => c_round hd hv hn f1 f2, fun g L kp eg => ?_⟩
    have eg2 := (am_INV_g hi eg).2.2
    exact m_round hd (am_INV_g hi eg).1 (by rw [eg2]; exact hn) (by rw [eg2]; exact f1) (by rw [eg2]; exact f2)