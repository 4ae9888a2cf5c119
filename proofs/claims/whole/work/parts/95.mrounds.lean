/-! ROUNDS of the reference -/
theorem an_apb_m {s : an_T} {S n m : Nat} (hnm : n ≤ m) (h : an_apb s S n = false) : an_apb s S m = false := by
  induction m with
  | zero => rw [show n = 0 by omega] at h; exact h
  | succ m ih =>
    by_cases q : n = m + 1
    · rw [← q]; exact h
    · rw [an_apb_s, ih (by omega)]; rfl
theorem sp_M_areApart {d L kp : Nat} {h : Nat → Nat → Int} {Q : Option am_V → am_H → Prop} {s : an_T} {S : Nat} (hd : 1 ≤ d) (ht : an_tm h s) (hok : an_tok 7 s) (h21 : s.1 ≤ 21) (hS : S < 2 ^ 21) : am_Wp d 283 0 [some (Sum.inr (Sum.inr 70)), some (Sum.inl (S : Int)), none, none, none] [] (am_SH L, h, am_RR kp) Q = Q (some (Sum.inl (am_bi (an_apb s S s.1)))) (am_SH L, h, am_RR kp) := by
  apply propext
  have h0 : ∀ n, n ≤ s.1 → an_seen s S n < 2 ^ 7 := fun n hn => an_seen_lt hok hn
  have both : ∀ (i : Nat), i < s.1 → am_or (am_shl 1 (am_div (h 93 ((i : Int)).toNat) 10)) (am_shl 1 (am_rem (h 93 ((i : Int)).toNat) 10)) = ((an_bt s i : Nat) : Int) ∧ an_bt s i < 2 ^ 7 := fun i hi => by
    have h1 := hok i hi
    have h2 := (ht.2 i hi).1
    have pa : 2 ^ (s.2 i).1 < 2 ^ 7 := Nat.pow_lt_pow_right (by omega) (by omega)
    have pb : 2 ^ (s.2 i).2.1 < 2 ^ 7 := Nat.pow_lt_pow_right (by omega) (by omega)
    have ediv : am_div ((10 * (s.2 i).1 + (s.2 i).2.1 : Nat) : Int) 10 = ((s.2 i).1 : Int) := by rw [am_div_ok (by omega) (by omega) (by omega) (by omega)]; omega
    have erem : am_rem ((10 * (s.2 i).1 + (s.2 i).2.1 : Nat) : Int) 10 = ((s.2 i).2.1 : Int) := by rw [am_rem_ok (by omega) (by omega) (by omega) (by omega)]; omega
    rw [Int.toNat_natCast, h2, ediv, erem, am_shl1 (by omega), am_shl1 (by omega), am_or_ok (by omega) (by omega)]
    exact ⟨rfl, an_bt_lt hok hi⟩
  have key : ∀ (X : Prop), (∀ (v : Bool), an_apb s S s.1 = v → X = Q (some (Sum.inl (am_bi v))) (am_SH L, h, am_RR kp)) → (am_Wp d 283 0 [some (Sum.inr (Sum.inr 70)), some (Sum.inl (S : Int)), none, none, none] [] (am_SH L, h, am_RR kp) Q) = X := by
    intro X hX
    rw [bq_M_areApart_0]
    have k2 : ∀ m k, k + m = s.1 → an_apb s S k = true → ∀ j, am_Wp d 283 4 [some (Sum.inr (Sum.inr 70)), some (Sum.inl ((S : Int))), some (Sum.inl (((an_seen s S k : Nat) : Int))), some (Sum.inl ((k : Int))), j] [] (am_SH L, h, am_RR kp) Q = X := by
      intro m
      induction m with
      | zero =>
        intro k hk hap j
        have hks : k = s.1 := by omega
        subst hks
        rw [bq_M_areApart_4 (by omega), ht.1, if_pos (Int.le_refl _)]
        exact (hX true hap).symm
      | succ m ih =>
        intro k hk hap j
        have hb := both k (by omega)
        have hl := h0 k (by omega)
        have es := an_apb_s (s := s) (S := S) (n := k)
        rw [bq_M_areApart_4 (by omega), ht.1, if_neg (by omega), am_gd (by omega) (by omega), am_gd (by omega) (by omega), hb.1, sp_M_hasBit (by omega) (by omega) (by omega) (by omega), am_has_tb (by omega) (by omega)]
        simp only [Option.toList_some, Option.toList_none, List.cons_append, List.nil_append]
        rw [bq_M_areApart_42]
        simp only [bq_M_areApart_59]
        rw [am_incn (by omega), am_and_ok (by omega) (by omega), am_or_ok (by omega) (by omega)]
        rw [hap, Bool.true_and] at es
        cases hx : Nat.testBit S k with
        | false =>
          rw [hx] at es
          rw [if_pos am_bif]
          have h9 := ih (k + 1) (by omega) (by rw [es]; rfl) (some (Sum.inl ((an_bt s k : Nat) : Int)))
          rw [an_seen_s, hx] at h9
          have e0 : an_seen s S k ||| (bif false then an_bt s k else 0) = an_seen s S k := Nat.or_zero _
          rw [e0] at h9
          exact h9
        | true =>
          rw [hx, Bool.true_and] at es
          rw [if_neg am_b0]
          by_cases q : an_seen s S k &&& an_bt s k = 0
          · rw [decide_eq_true q] at es
            rw [if_pos (by omega)]
            have h9 := ih (k + 1) (by omega) (by rw [es]; rfl) (some (Sum.inl ((an_bt s k : Nat) : Int)))
            rw [an_seen_s, hx] at h9
            exact h9
          · rw [decide_eq_false q] at es
            rw [if_neg (by omega)]
            have h8 := an_apb_m (show k + 1 ≤ s.1 by omega) (by rw [es]; rfl)
            exact (hX false h8).symm
    exact k2 s.1 0 (by omega) rfl none
  have h1 := key (Q (some (Sum.inl (am_bi (an_apb s S s.1)))) (am_SH L, h, am_RR kp)) (fun v hv => by rw [hv])
  exact h1 ▸ Iff.rfl
theorem lp_M_rounds_i {d L kp : Nat} {h g : Nat → Nat → Int} {Q : Option am_V → am_H → Prop} {s : an_T} {S : Nat} (hd : 3 ≤ d) (ht : an_tm h s) (hok : an_tok 7 s) (h7 : s.1 ≤ 7) (hg : (∀ a i, ¬ a = 101 → g a i = h a i) ∧ (∀ x, x < S → an_mn (an_ap s) x (g 101 x))) (hS : S < 2 ^ 7) (hS0 : 0 < S) (K : ∀ v : Int, an_mn (an_ap s) S v → ∀ j2 j3 j4 : Option am_V, am_Wp d 284 34 [some (Sum.inr (Sum.inr 70)), some (Sum.inl (((S + 1 : Nat) : Int))), j2, j3, j4] [] (am_SH L, (am_up g 101 S v), am_RR kp) Q) : ∀ j : Int × Option am_V, ((0 ≤ j.1 ∧ j.1 ≤ 99) ∧ (j.1 = 99 ∨ ∃ y, S < y ∧ an_sb y S ∧ an_ap s y ∧ j.1 = 1 + g 101 (an_dif S y)) ∧ (∀ y, S < y → an_sb y S → an_ap s y → j.1 ≤ 1 + g 101 (an_dif S y))) → am_Wp d 284 49 [some (Sum.inr (Sum.inr 70)), some (Sum.inl ((S : Int))), some (Sum.inl (j.1)), some (Sum.inl ((S : Int))), j.2] [] (am_SH L, g, am_RR kp) Q := by
  obtain ⟨k1, k2⟩ := hg
  have htg : an_tm g s := by
    refine ⟨by rw [k1 70 37 (by omega)]; exact ht.1, fun i hi => ?_⟩
    rw [k1 93 i (by omega), k1 94 i (by omega)]
    exact ht.2 i hi
  have hb7 : ∀ x, x < S → 0 ≤ g 101 x ∧ g 101 x ≤ 7 := fun x hx => by
    have := an_mn_le (n := 7) (fun t _ => an_ap_1 (s := s) (t := t)) (by omega) (k2 x hx)
    omega
  refine an_sm_loop (J := Int × Option am_V) (m := S) (fun b j => (0 ≤ j.1 ∧ j.1 ≤ 99) ∧ (j.1 = 99 ∨ ∃ y, b < y ∧ an_sb y S ∧ an_ap s y ∧ j.1 = 1 + g 101 (an_dif S y)) ∧ (∀ y, b < y → an_sb y S → an_ap s y → j.1 ≤ 1 + g 101 (an_dif S y))) (fun b j => am_Wp d 284 49 [some (Sum.inr (Sum.inr 70)), some (Sum.inl ((S : Int))), some (Sum.inl (j.1)), some (Sum.inl ((b : Int))), j.2] [] (am_SH L, g, am_RR kp) Q) (fun b j hb hbs hj ih => ?_) (fun j hj => ?_)
  · obtain ⟨m, j4⟩ := j
    obtain ⟨m1, m2, m3⟩ := hj
    dsimp only at m1 m2 m3
    have hle := an_sb_le hbs
    have hlt := an_dif_lt hbs (by omega)
    have h3 := hb7 _ hlt
    have hnx := fun c (hc : an_sb c S) (h1 : (b - 1) &&& S < c) => show c = b ∨ b < c from by
      by_cases q : c < b
      · have := an_sm_up b b S c (Nat.le_refl b) hb hbs hc q
        omega
      · omega
    have hlt2 := an_sm_lt (m := S) hb
    have enx : am_and (am_sub (b : Int) 1) (S : Int) = (((b - 1) &&& S : Nat) : Int) := by
      rw [am_sub_ok (by omega) (by omega), show (b : Int) - 1 = ((b - 1 : Nat) : Int) by omega, am_and_ok (by omega) (by omega)]
    show am_Wp d 284 49 [some (Sum.inr (Sum.inr 70)), some (Sum.inl ((S : Int))), some (Sum.inl (m)), some (Sum.inl ((b : Int))), j4] [] (am_SH L, g, am_RR kp) Q
    rw [bq_M_rounds_49 (by omega), if_neg (by omega), sp_M_areApart (by omega) htg hok (by omega) (by omega)]
    simp only [Option.toList_some, Option.toList_none, List.cons_append, List.nil_append]
    rw [bq_M_rounds_58, an_dif_ok (by omega) (by omega), am_gd (by omega) (by omega), Int.toNat_natCast, am_add_ok (by omega) (by omega)]
    simp only [bq_M_rounds_78, bq_M_rounds_92]
    rw [enx]
    cases hx : an_apb s b s.1 with
    | false =>
      rw [if_pos am_bif, if_pos (by omega)]
      refine ih (m, _) ⟨m1, ?_, fun y y1 y2 y3 => ?_⟩
      · rcases m2 with m2 | ⟨y, y1, y2⟩
        · exact Or.inl m2
        · exact Or.inr ⟨y, by omega, y2⟩
      · rcases hnx y y2 y1 with q | q
        · rw [q] at y3; unfold an_ap at y3; rw [hx] at y3; cases y3
        · exact m3 y q y2 y3
    | true =>
      rw [if_neg am_b0]
      by_cases q : m ≤ 1 + g 101 (an_dif S b)
      · rw [if_pos q]
        refine ih (m, _) ⟨m1, ?_, fun y y1 y2 y3 => ?_⟩
        · rcases m2 with m2 | ⟨y, y1, y2⟩
          · exact Or.inl m2
          · exact Or.inr ⟨y, by omega, y2⟩
        · rcases hnx y y2 y1 with q2 | q2
          · rw [q2]; exact q
          · exact m3 y q2 y2 y3
      · rw [if_neg q]
        refine ih (1 + g 101 (an_dif S b), _) ⟨by show 0 ≤ 1 + g 101 (an_dif S b) ∧ 1 + g 101 (an_dif S b) ≤ 99; omega, Or.inr ⟨b, hlt2, hbs, hx, rfl⟩, fun y y1 y2 y3 => ?_⟩
        show 1 + g 101 (an_dif S b) ≤ 1 + g 101 (an_dif S y)
        rcases hnx y y2 y1 with q2 | q2
        · rw [q2]; exact Int.le_refl _
        · have := m3 y q2 y2 y3
          omega
  · obtain ⟨m, j4⟩ := j
    obtain ⟨m1, m2, m3⟩ := hj
    dsimp only at m1 m2 m3
    show am_Wp d 284 49 [some (Sum.inr (Sum.inr 70)), some (Sum.inl ((S : Int))), some (Sum.inl (m)), some (Sum.inl (0)), j4] [] (am_SH L, g, am_RR kp) Q
    rw [bq_M_rounds_49 (by omega), if_pos (by omega), am_gd (by omega) (by omega), am_incn (by omega), Int.toNat_natCast]
    refine K m ?_ _ _ _
    have key2 : ∀ k, an_pt (an_ap s) k S → m ≤ (k : Int) := by
      intro k hk
      cases k with
      | zero =>
        have h0 : S = 0 := hk
        omega
      | succ k =>
        obtain ⟨R, r1, r2, r3, r4⟩ := hk
        have h5 := m3 R (by omega) r2 r3
        obtain ⟨j, g1, g2, g3⟩ := k2 _ (an_dif_lt r2 r1)
        have := g3 k r4
        omega
    obtain ⟨k0, hk0, hk1⟩ := an_pt_one 7 (fun t _ => an_ap_1 (s := s) (t := t)) hS
    have h6 := key2 k0 hk1
    rcases m2 with m2 | ⟨y, y1, y2, y3, y4⟩
    · omega
    · obtain ⟨j, g1, g2, g3⟩ := k2 _ (an_dif_lt y2 (by omega))
      refine ⟨j + 1, by omega, ⟨y, by omega, y2, y3, g2⟩, fun i hi => ?_⟩
      have := key2 i hi
      omega
theorem m_rounds {d L kp : Nat} {h : Nat → Nat → Int} (hd : 30 ≤ d) (hv : v_ok (am_mv h)) : am_An L 81 (a_rounds (am_mv h)) h (fun Q => am_Wp d 284 0 [some (Sum.inr (Sum.inr 70)), none, none, none, none] [] (am_SH L, h, am_RR kp) Q) := by
  have hQ := mv_Q hv
  have hP := mv_P hv
  have hD := mv_D hv
  intro Q hq
  have hq2 : ∀ g' kq, am_keep (am_up h 70 13 0) g' → Q (some (a_rounds (am_mv h)).1) (am_SH L, am_bump 81 (a_rounds (am_mv h)).2 g', am_RR kq) := fun g' kq hk => hq g' kq (am_keep_t (am_keep_up rfl am_keep_r) hk)
  clear hq
  have hv2 : v_ok (am_mv (am_up h 70 13 0)) := hv
  try rw [show am_mv h = am_mv (am_up h 70 13 0) from rfl] at hq2
  show am_Wp d 284 0 [some (Sum.inr (Sum.inr 70)), none, none, none, none] [] (am_SH L, h, am_RR kp) Q
  refine (show _ = _ from bq_M_rounds_0 (by omega)).mpr ?_
  clear hv hQ hP hD
  generalize am_up h 70 13 0 = g at hq2 hv2 ⊢
  have hv := hv2
  have hQ := mv_Q hv2
  have hP := mv_P hv
  have hD := mv_D hv
  refine sp_M_layTwos (by omega) hv (fun f k1 k2 => ?_)
  have kk := an_lt_keep k1
  have hok := v_twos_ok hv
  have h3 := fun g2 kq (m : am_keep f g2) => hq2 g2 kq (am_keep_t kk m)
  unfold a_rounds at h3
  generalize v_twos (am_mv g) = s at k2 hok h3
  have ht := k2
  simp only [Option.toList_some, Option.toList_none, List.cons_append, List.nil_append]
  rw [bq_M_rounds_9 (by omega), ht.1]
  by_cases q2 : 7 < s.1
  · have h4 := h3 f kp am_keep_r
    rw [if_pos q2] at h4
    rw [if_neg (by omega), sp_M_refuse (by omega) (by omega)]
    simp only [Option.toList_some, Option.toList_none, List.cons_append, List.nil_append]
    rw [bq_M_rounds_24]
    exact h4
  · rw [if_pos (by omega)]
    refine ⟨⟨by omega, by omega⟩, ?_⟩
    have hp7 : 2 ^ s.1 ≤ 2 ^ 7 := Nat.pow_le_pow_right (by omega) (by omega)
    have hpp := Nat.two_pow_pos s.1
    have key := am_im_fr (J := (Nat → Nat → Int) × Option am_V × Option am_V × Option am_V) (a := 1) (n := 2 ^ s.1) (fun S j => (∀ a i, ¬ a = 101 → j.1 a i = f a i) ∧ (∀ x, x < S → an_mn (an_ap s) x (j.1 101 x))) (fun S j => am_Wp d 284 34 [some (Sum.inr (Sum.inr 70)), some (Sum.inl ((S : Int))), j.2.1, j.2.2.1, j.2.2.2] [] (am_SH L, j.1, am_RR kp) Q) (by omega) (fun S j hS1 hS2 hj ih => ?_) (fun j hj => ?_)
    · refine key (am_up f 101 0 0, none, none, none) ⟨fun a j h1 => ?_, fun x hx => ?_⟩
      · show am_up f 101 0 0 a j = f a j
        unfold am_up
        rw [if_neg h1]
      · rw [show x = 0 by omega]
        exact an_mn_0
    · obtain ⟨G, j2, j3, j4⟩ := j
      have hj2 : (∀ a i, ¬ a = 101 → G a i = f a i) ∧ (∀ x, x < S → an_mn (an_ap s) x (G 101 x)) := hj
      have g37 : G 70 37 = (s.1 : Int) := by rw [hj2.1 70 37 (by omega)]; exact ht.1
      have hsg : am_shl 1 (G 70 37) = ((2 ^ s.1 : Nat) : Int) := by rw [g37, am_shl1 (by omega)]
      show am_Wp d 284 34 [some (Sum.inr (Sum.inr 70)), some (Sum.inl ((S : Int))), j2, j3, j4] [] (am_SH L, G, am_RR kp) Q
      rw [bq_M_rounds_34, hsg, if_neg (by omega)]
      refine lp_M_rounds_i (h := f) (by omega) ht hok.2.1 (by omega) hj2 (Nat.lt_of_lt_of_le hS2 hp7) (by omega) (fun v hv2 j2 j3 j4 => ih (am_up G 101 S v, j2, j3, j4) ⟨fun a j h1 => ?_, fun x hx => ?_⟩) (99, j4) ⟨⟨by omega, Int.le_refl _⟩, Or.inl rfl, fun y y1 y2 => absurd (an_sb_le y2) (by omega)⟩
      · show am_up G 101 S v a j = f a j
        unfold am_up
        rw [if_neg h1]
        exact hj2.1 a j h1
      · show an_mn (an_ap s) x (am_up G 101 S v 101 x)
        by_cases q : x = S
        · rw [q, am_up_y]; exact hv2
        · rw [am_up_n q]; exact hj2.2 x (by omega)
    · obtain ⟨G, j2, j3, j4⟩ := j
      have hj2 : (∀ a i, ¬ a = 101 → G a i = f a i) ∧ (∀ x, x < (2 ^ s.1) → an_mn (an_ap s) x (G 101 x)) := hj
      have g37 : G 70 37 = (s.1 : Int) := by rw [hj2.1 70 37 (by omega)]; exact ht.1
      have hsg : am_shl 1 (G 70 37) = ((2 ^ s.1 : Nat) : Int) := by rw [g37, am_shl1 (by omega)]
      have es : am_sub ((2 ^ s.1 : Nat) : Int) 1 = ((2 ^ s.1 - 1 : Nat) : Int) := by rw [am_sub_ok (by omega) (by omega)]; omega
      have h5 := an_mnv_eq (hj2.2 (2 ^ s.1 - 1) (by omega))
      have h4 := h3 G kp (fun a j hr => hj2.1 a j (fun w => by rw [w] at hr; cases hr))
      rw [if_neg q2] at h4
      show am_Wp d 284 34 [some (Sum.inr (Sum.inr 70)), some (Sum.inl (((2 ^ s.1 : Nat) : Int))), j2, j3, j4] [] (am_SH L, G, am_RR kp) Q
      rw [bq_M_rounds_34, hsg, if_pos (Int.le_refl _), es, am_gd (by omega) (by omega), Int.toNat_natCast, h5]
      exact h4