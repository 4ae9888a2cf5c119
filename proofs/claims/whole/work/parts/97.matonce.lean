/-! AT ONCE of the reference -/
def an_dj (s : an_T) (i j : Nat) : Prop := an_bt s i &&& an_bt s j = 0
theorem an_dj_i {s : an_T} {i j : Nat} : an_dj s i j ↔ ∀ p, ¬ (Nat.testBit (an_bt s i) p = true ∧ Nat.testBit (an_bt s j) p = true) := by
  constructor
  · intro h p hp
    exact am_and_ne.2 ⟨p, hp⟩ h
  · intro h
    by_cases q : an_bt s i &&& an_bt s j = 0
    · exact q
    · obtain ⟨p, hp⟩ := am_and_ne.1 q
      exact absurd hp (h p)
theorem an_dj_s {s : an_T} {i j : Nat} (h : an_dj s i j) : an_dj s j i := by
  rw [an_dj_i] at h ⊢
  exact fun p hp => h p ⟨hp.2, hp.1⟩
theorem an_dj_n {s : an_T} {i j : Nat} (h : an_dj s i j) : ¬ i = j := fun w => by
  rw [an_dj_i] at h
  rw [← w] at h
  exact h (s.2 i).1 ⟨an_bt_in.2 (Or.inl rfl), an_bt_in.2 (Or.inl rfl)⟩
theorem an_seen_0 {s : an_T} {S X : Nat} : ∀ n, an_seen s S n &&& X = 0 ↔ ∀ i, i < n → Nat.testBit S i = true → an_bt s i &&& X = 0 := by
  intro n
  induction n with
  | zero => exact ⟨fun _ i hi => by omega, fun _ => Nat.zero_and X⟩
  | succ n ih =>
    rw [an_seen_s, Nat.and_or_distrib_right, Nat.or_eq_zero_iff, ih]
    constructor
    · rintro ⟨h1, h2⟩ i hi hb
      by_cases q : i = n
      · rw [q] at hb ⊢
        rw [hb] at h2
        exact h2
      · exact h1 i (by omega) hb
    · intro h
      refine ⟨fun i hi hb => h i (by omega) hb, ?_⟩
      cases hb : Nat.testBit S n with
      | true => exact h n (by omega) hb
      | false => exact Nat.zero_and X
theorem an_ap_i {s : an_T} {S : Nat} : ∀ n, an_apb s S n = true ↔ ∀ i j, i < j → j < n → Nat.testBit S i = true → Nat.testBit S j = true → an_dj s i j := by
  intro n
  induction n with
  | zero => exact ⟨fun _ i j _ hj => by omega, fun _ => rfl⟩
  | succ n ih =>
    rw [an_apb_s, Bool.and_eq_true, ih]
    constructor
    · rintro ⟨h1, h2⟩ i j hij hj bi bj
      by_cases q : j = n
      · rw [q] at bj ⊢
        rw [bj, Bool.true_and, Bool.not_not, decide_eq_true_eq, an_seen_0] at h2
        exact h2 i (by omega) bi
      · exact h1 i j hij (by omega) bi bj
    · intro h
      refine ⟨fun i j hij hj => h i j hij (by omega), ?_⟩
      cases hb : Nat.testBit S n with
      | false => rfl
      | true =>
        rw [Bool.true_and, Bool.not_not, decide_eq_true_eq, an_seen_0]
        exact fun i hi bi => h i n hi (by omega) bi hb
theorem an_ap_2 {s : an_T} {a b : Nat} (hab : a < b) (hb : b < s.1) : an_apb s (2 ^ a ||| 2 ^ b) s.1 = true ↔ an_dj s a b := by
  rw [an_ap_i]
  have e : ∀ j, Nat.testBit (2 ^ a ||| 2 ^ b) j = true ↔ (a = j ∨ b = j) := fun j => by
    rw [Nat.testBit_or, Bool.or_eq_true, an_p2_in, an_p2_in]
  constructor
  · intro h
    exact h a b hab hb ((e a).2 (Or.inl rfl)) ((e b).2 (Or.inr rfl))
  · intro h i j hij hj bi bj
    have h1 := (e i).1 bi
    have h2 := (e j).1 bj
    rw [show i = a by omega, show j = b by omega]
    exact h
theorem an_ap_3 {s : an_T} {a b c : Nat} (hab : a < b) (hbc : b < c) (hc : c < s.1) : an_apb s (2 ^ a ||| 2 ^ b ||| 2 ^ c) s.1 = true ↔ (an_dj s a b ∧ an_dj s a c ∧ an_dj s b c) := by
  rw [an_ap_i]
  have e : ∀ j, Nat.testBit (2 ^ a ||| 2 ^ b ||| 2 ^ c) j = true ↔ (a = j ∨ b = j ∨ c = j) := fun j => by
    rw [Nat.testBit_or, Nat.testBit_or, Bool.or_eq_true, Bool.or_eq_true, an_p2_in, an_p2_in, an_p2_in, or_assoc]
  constructor
  · intro h
    have ea := (e a).2 (Or.inl rfl)
    have eb := (e b).2 (Or.inr (Or.inl rfl))
    have ec := (e c).2 (Or.inr (Or.inr rfl))
    exact ⟨h a b hab (by omega) ea eb, h a c (by omega) hc ea ec, h b c hbc hc eb ec⟩
  · rintro ⟨h1, h2, h3⟩ i j hij hj bi bj
    have w1 := (e i).1 bi
    have w2 := (e j).1 bj
    rcases (show (i = a ∧ j = b) ∨ (i = a ∧ j = c) ∨ (i = b ∧ j = c) by omega) with w | w | w
    · rw [w.1, w.2]; exact h1
    · rw [w.1, w.2]; exact h2
    · rw [w.1, w.2]; exact h3
theorem an_sb_dj {s : an_T} {U i j : Nat} (hj : an_sb (an_bt s j) U) (h : an_dj s i j) : an_sb (an_bt s j) (an_dif U (an_bt s i)) := fun p hp => by
  rw [an_dif_in]
  rw [an_dj_i] at h
  exact ⟨hj p hp, fun w => h p ⟨w, hp⟩⟩
theorem an_dj_sb {s : an_T} {U i j : Nat} (h : an_sb (an_bt s j) (an_dif U (an_bt s i))) : an_dj s i j := by
  rw [an_dj_i]
  intro p hp
  have := h p hp.2
  rw [an_dif_in] at this
  exact this.2 hp.1
/-- what has been tried before -/
def an_ao (s : an_T) (U a b b2 c v : Nat) : Prop := v ≤ 3 ∧ an_pd s v U ∧ ((0 < a ∨ 0 < b2) → 1 ≤ v) ∧ (∀ x y, x < y → y < s.1 → (x < a ∨ (x = a ∧ y < b2)) → an_dj s x y → 2 ≤ v) ∧ (∀ x y z, x < y → y < z → z < s.1 → (x < a ∨ (x = a ∧ (y < b ∨ (y = b ∧ z < c)))) → an_dj s x y → an_dj s x z → an_dj s y z → 3 ≤ v)
theorem an_ao_0 {s : an_T} {U : Nat} : an_ao s U 0 0 0 0 0 := ⟨by omega, True.intro, by omega, fun x y _ _ h => by omega, fun x y z _ _ _ h => by omega⟩
theorem an_ao_a {s : an_T} {U a v : Nat} (hU : ∀ i, i < s.1 → an_sb (an_bt s i) U) (ha : a < s.1) (h : an_ao s U a 0 0 0 v) : an_ao s U a (a + 1) (a + 1) 0 (if 1 ≤ v then v else 1) := by
  obtain ⟨h1, h2, h3, h4, h5⟩ := h
  refine ⟨by split <;> omega, ?_, fun _ => by split <;> omega, fun x y hxy hy hl hd => ?_, fun x y z hxy hyz hz hl d1 d2 d3 => ?_⟩
  · by_cases q : 1 ≤ v
    · rw [if_pos q]; exact h2
    · rw [if_neg q]; exact ⟨a, ha, hU a ha, True.intro⟩
  · have := h4 x y hxy hy (by omega) hd
    rw [if_pos (by omega)]; omega
  · have := h5 x y z hxy hyz hz (by omega) d1 d2 d3
    rw [if_pos (by omega)]; omega
theorem an_ao_b {s : an_T} {U a b v : Nat} (hU : ∀ i, i < s.1 → an_sb (an_bt s i) U) (hab : a < b) (hb : b < s.1) (h : an_ao s U a b b 0 v) (w : Nat) (hw : (w = v ∧ (2 ≤ v ∨ ¬ an_dj s a b)) ∨ (w = 2 ∧ v < 2 ∧ an_dj s a b)) : an_ao s U a b (b + 1) (b + 1) w := by
  obtain ⟨h1, h2, h3, h4, h5⟩ := h
  refine ⟨by omega, ?_, fun _ => by have := h3 (Or.inr (by omega)); omega, fun x y hxy hy hl hd => ?_, fun x y z hxy hyz hz hl d1 d2 d3 => ?_⟩
  · rcases hw with ⟨q, _⟩ | ⟨q, _, q2⟩
    · rw [q]; exact h2
    · rw [q]; exact ⟨a, by omega, hU a (by omega), b, hb, an_sb_dj (hU b hb) q2, True.intro⟩
  · by_cases q : x = a ∧ y = b
    · rw [q.1, q.2] at hd
      rcases hw with ⟨q1, q2 | q2⟩ | ⟨q1, _⟩
      · omega
      · exact absurd hd q2
      · omega
    · have := h4 x y hxy hy (by omega) hd
      omega
  · have := h5 x y z hxy hyz hz (by omega) d1 d2 d3
    omega
theorem an_ao_c {s : an_T} {U a b c v : Nat} (hU : ∀ i, i < s.1 → an_sb (an_bt s i) U) (hab : a < b) (hbc : b < c) (hc : c < s.1) (h : an_ao s U a b (b + 1) c v) (w : Nat) (hw : (w = v ∧ (3 ≤ v ∨ ¬ (an_dj s a b ∧ an_dj s a c ∧ an_dj s b c))) ∨ (w = 3 ∧ v < 3 ∧ (an_dj s a b ∧ an_dj s a c ∧ an_dj s b c))) : an_ao s U a b (b + 1) (c + 1) w := by
  obtain ⟨h1, h2, h3, h4, h5⟩ := h
  refine ⟨by omega, ?_, fun _ => by have := h3 (Or.inr (by omega)); omega, fun x y hxy hy hl hd => ?_, fun x y z hxy hyz hz hl d1 d2 d3 => ?_⟩
  · rcases hw with ⟨q, _⟩ | ⟨q, _, q1, q2, q3⟩
    · rw [q]; exact h2
    · rw [q]
      refine ⟨a, by omega, hU a (by omega), b, by omega, an_sb_dj (hU b (by omega)) q1, c, hc, fun p hp => ?_, True.intro⟩
      rw [an_dif_in]
      exact ⟨an_sb_dj (hU c hc) q2 p hp, fun w => (an_dj_i.1 q3) p ⟨w, hp⟩⟩
  · have := h4 x y hxy hy hl hd
    omega
  · by_cases q : x = a ∧ y = b ∧ z = c
    · rw [q.1, q.2.1] at d1
      rw [q.1, q.2.2] at d2
      rw [q.2.1, q.2.2] at d3
      rcases hw with ⟨q1, q2 | q2⟩ | ⟨q1, _⟩
      · omega
      · exact absurd ⟨d1, d2, d3⟩ q2
      · omega
    · have := h5 x y z hxy hyz hz (by omega) d1 d2 d3
      omega
theorem an_ao_d {s : an_T} {U a b v : Nat} (h : an_ao s U a b (b + 1) s.1 v) : an_ao s U a (b + 1) (b + 1) 0 v := by
  obtain ⟨h1, h2, h3, h4, h5⟩ := h
  exact ⟨h1, h2, h3, h4, fun x y z hxy hyz hz hl => h5 x y z hxy hyz hz (by omega)⟩
theorem an_ao_e {s : an_T} {U a v : Nat} (ha : a < s.1) (h : an_ao s U a s.1 s.1 0 v) : an_ao s U (a + 1) 0 0 0 v := by
  obtain ⟨h1, h2, h3, h4, h5⟩ := h
  exact ⟨h1, h2, fun _ => h3 (by omega), fun x y hxy hy hl => h4 x y hxy hy (by omega), fun x y z hxy hyz hz hl => h5 x y z hxy hyz hz (by omega)⟩
theorem an_ao_z {s : an_T} {U v : Nat} (hok : an_tok 7 s) (hU : U < 2 ^ 7) (h : an_ao s U s.1 0 0 0 v) : an_px s U (v : Int) := by
  obtain ⟨h1, h2, h3, h4, h5⟩ := h
  refine ⟨v, rfl, h2, fun j hj => ?_⟩
  have p1 := an_pd_pc hok hj
  have p2 := an_pc_lt (by omega) hU
  match j, hj with
  | 0, _ => omega
  | 1, hj =>
    obtain ⟨a, a1, _⟩ := hj
    exact h3 (by omega)
  | 2, hj =>
    obtain ⟨a, a1, a2, b, b1, b2, _⟩ := hj
    have d := an_dj_sb b2
    have := an_dj_n d
    rcases (show a < b ∨ b < a by omega) with q | q
    · exact h4 a b q b1 (by omega) d
    · exact h4 b a q a1 (by omega) (an_dj_s d)
  | 3, hj =>
    obtain ⟨a, a1, a2, b, b1, b2, c, c1, c2, _⟩ := hj
    have d1 := an_dj_sb b2
    have d3 := an_dj_sb c2
    have d2 : an_dj s a c := an_dj_sb (an_sb_t c2 an_dif_sb)
    have n1 := an_dj_n d1
    have n2 := an_dj_n d2
    have n3 := an_dj_n d3
    have e1 := an_dj_s d1
    have e2 := an_dj_s d2
    have e3 := an_dj_s d3
    rcases (show (a < b ∧ b < c) ∨ (a < c ∧ c < b) ∨ (b < a ∧ a < c) ∨ (b < c ∧ c < a) ∨ (c < a ∧ a < b) ∨ (c < b ∧ b < a) by omega) with q | q | q | q | q | q
    · exact h5 a b c q.1 q.2 c1 (by omega) d1 d2 d3
    · exact h5 a c b q.1 q.2 b1 (by omega) d2 d1 e3
    · exact h5 b a c q.1 q.2 c1 (by omega) e1 d3 d2
    · exact h5 b c a q.1 q.2 a1 (by omega) d3 e1 e2
    · exact h5 c a b q.1 q.2 b1 (by omega) e2 e3 d1
    · exact h5 c b a q.1 q.2 a1 (by omega) e3 e2 e1
  | j + 4, _ => omega
theorem lp_M_atOnce_c {d L kp : Nat} {h : Nat → Nat → Int} {Q : Option am_V → am_H → Prop} {s : an_T} {U a b : Nat} (hd : 3 ≤ d) (ht : an_tm h s) (hok : an_tok 7 s) (h21 : s.1 ≤ 21) (hU : ∀ i, i < s.1 → an_sb (an_bt s i) U) (hab : a < b) (hb : b < s.1) (K : ∀ v : Nat, an_ao s U a (b + 1) (b + 1) 0 v → ∀ j4 j5 : Option am_V, am_Wp d 282 36 [some (Sum.inr (Sum.inr 70)), some (Sum.inl ((v : Int))), some (Sum.inl ((a : Int))), some (Sum.inl (((b + 1 : Nat) : Int))), j4, j5] [] (am_SH L, h, am_RR kp) Q) : ∀ v : Nat, an_ao s U a b (b + 1) (b + 1) v → am_Wp d 282 78 [some (Sum.inr (Sum.inr 70)), some (Sum.inl ((v : Int))), some (Sum.inl ((a : Int))), some (Sum.inl ((b : Int))), some (Sum.inl (((2 ^ a ||| 2 ^ b : Nat) : Int))), some (Sum.inl (((b + 1 : Nat) : Int)))] [] (am_SH L, h, am_RR kp) Q := by
  have pa : 2 ^ a < 2 ^ 21 := Nat.pow_lt_pow_right (by omega) (by omega)
  have pb : 2 ^ b < 2 ^ 21 := Nat.pow_lt_pow_right (by omega) (by omega)
  have pab := Nat.or_lt_two_pow pa pb
  refine am_im_fr (J := Nat) (a := b + 1) (n := s.1) (fun c v => an_ao s U a b (b + 1) c v) (fun c v => am_Wp d 282 78 [some (Sum.inr (Sum.inr 70)), some (Sum.inl ((v : Int))), some (Sum.inl ((a : Int))), some (Sum.inl ((b : Int))), some (Sum.inl (((2 ^ a ||| 2 ^ b : Nat) : Int))), some (Sum.inl ((c : Int)))] [] (am_SH L, h, am_RR kp) Q) (by omega) (fun c v hc1 hc2 hj ih => ?_) (fun v hj => ?_)
  · have pc : 2 ^ c < 2 ^ 21 := Nat.pow_lt_pow_right (by omega) (by omega)
    have pabc := Nat.or_lt_two_pow pab pc
    have e111 : ∀ w : Nat, ((w = v ∧ (3 ≤ v ∨ ¬ (an_dj s a b ∧ an_dj s a c ∧ an_dj s b c))) ∨ (w = 3 ∧ v < 3 ∧ (an_dj s a b ∧ an_dj s a c ∧ an_dj s b c))) → am_Wp d 282 111 [some (Sum.inr (Sum.inr 70)), some (Sum.inl ((v : Int))), some (Sum.inl ((a : Int))), some (Sum.inl ((b : Int))), some (Sum.inl (((2 ^ a ||| 2 ^ b : Nat) : Int))), some (Sum.inl ((c : Int)))] [Sum.inl (w : Int)] (am_SH L, h, am_RR kp) Q := fun w hw => by
      rw [bq_M_atOnce_111, am_incn (by omega)]
      exact ih w (an_ao_c hU hab (by omega) hc2 hj w hw)
    rw [bq_M_atOnce_78 (by omega), ht.1, if_neg (by omega)]
    by_cases q : 3 ≤ v
    · rw [if_pos (by omega), bq_M_atOnce_110]
      exact e111 v (Or.inl ⟨rfl, Or.inl q⟩)
    · rw [if_neg (by omega), am_shl1 (by omega), am_or_ok (by omega) (by omega), sp_M_areApart (by omega) ht hok h21 pabc]
      simp only [Option.toList_some, Option.toList_none, List.cons_append, List.nil_append]
      rw [bq_M_atOnce_103]
      have e3 := an_ap_3 hab (show b < c by omega) hc2
      cases hx : an_apb s (2 ^ a ||| 2 ^ b ||| 2 ^ c) s.1 with
      | true =>
        rw [if_neg am_b0]
        exact e111 3 (Or.inr ⟨rfl, by omega, e3.1 hx⟩)
      | false =>
        rw [if_pos am_bif, bq_M_atOnce_110]
        exact e111 v (Or.inl ⟨rfl, Or.inr (fun w => by have := e3.2 w; rw [hx] at this; cases this)⟩)
  · show am_Wp d 282 78 [some (Sum.inr (Sum.inr 70)), some (Sum.inl ((v : Int))), some (Sum.inl ((a : Int))), some (Sum.inl ((b : Int))), some (Sum.inl (((2 ^ a ||| 2 ^ b : Nat) : Int))), some (Sum.inl ((s.1 : Int)))] [] (am_SH L, h, am_RR kp) Q
    rw [bq_M_atOnce_78 (by omega), ht.1, if_pos (Int.le_refl _), am_incn (by omega)]
    exact K v (an_ao_d hj) _ _
theorem lp_M_atOnce_b {d L kp : Nat} {h : Nat → Nat → Int} {Q : Option am_V → am_H → Prop} {s : an_T} {U a : Nat} (hd : 3 ≤ d) (ht : an_tm h s) (hok : an_tok 7 s) (h21 : s.1 ≤ 21) (hU : ∀ i, i < s.1 → an_sb (an_bt s i) U) (ha : a < s.1) (K : ∀ v : Nat, an_ao s U (a + 1) 0 0 0 v → ∀ j3 j4 j5 : Option am_V, am_Wp d 282 13 [some (Sum.inr (Sum.inr 70)), some (Sum.inl ((v : Int))), some (Sum.inl (((a + 1 : Nat) : Int))), j3, j4, j5] [] (am_SH L, h, am_RR kp) Q) : ∀ j : Nat × Option am_V × Option am_V, an_ao s U a (a + 1) (a + 1) 0 j.1 → am_Wp d 282 36 [some (Sum.inr (Sum.inr 70)), some (Sum.inl ((j.1 : Int))), some (Sum.inl ((a : Int))), some (Sum.inl (((a + 1 : Nat) : Int))), j.2.1, j.2.2] [] (am_SH L, h, am_RR kp) Q := by
  have pa : 2 ^ a < 2 ^ 21 := Nat.pow_lt_pow_right (by omega) (by omega)
  refine am_im_fr (J := Nat × Option am_V × Option am_V) (a := a + 1) (n := s.1) (fun b j => an_ao s U a b b 0 j.1) (fun b j => am_Wp d 282 36 [some (Sum.inr (Sum.inr 70)), some (Sum.inl ((j.1 : Int))), some (Sum.inl ((a : Int))), some (Sum.inl ((b : Int))), j.2.1, j.2.2] [] (am_SH L, h, am_RR kp) Q) (by omega) (fun b j hb1 hb2 hj ih => ?_) (fun j hj => ?_)
  · obtain ⟨v, j4, j5⟩ := j
    have hj2 : an_ao s U a b b 0 v := hj
    have pb : 2 ^ b < 2 ^ 21 := Nat.pow_lt_pow_right (by omega) (by omega)
    have pab := Nat.or_lt_two_pow pa pb
    have e72 : ∀ w : Nat, ((w = v ∧ (2 ≤ v ∨ ¬ an_dj s a b)) ∨ (w = 2 ∧ v < 2 ∧ an_dj s a b)) → am_Wp d 282 72 [some (Sum.inr (Sum.inr 70)), some (Sum.inl ((v : Int))), some (Sum.inl ((a : Int))), some (Sum.inl ((b : Int))), some (Sum.inl (((2 ^ a ||| 2 ^ b : Nat) : Int))), j5] [Sum.inl (w : Int)] (am_SH L, h, am_RR kp) Q := fun w hw => by
      rw [bq_M_atOnce_72, am_incn (by omega)]
      exact lp_M_atOnce_c hd ht hok h21 hU (by omega) hb2 (fun v2 hv2 x4 x5 => ih (v2, x4, x5) hv2) w (an_ao_b hU (by omega) hb2 hj2 w hw)
    show am_Wp d 282 36 [some (Sum.inr (Sum.inr 70)), some (Sum.inl ((v : Int))), some (Sum.inl ((a : Int))), some (Sum.inl ((b : Int))), j4, j5] [] (am_SH L, h, am_RR kp) Q
    rw [bq_M_atOnce_36 (by omega), ht.1, if_neg (by omega), am_shl1 (by omega), am_shl1 (by omega), am_or_ok (by omega) (by omega)]
    by_cases q : 2 ≤ v
    · rw [if_pos (by omega), bq_M_atOnce_71]
      exact e72 v (Or.inl ⟨rfl, Or.inl q⟩)
    · rw [if_neg (by omega), sp_M_areApart (by omega) ht hok h21 pab]
      simp only [Option.toList_some, Option.toList_none, List.cons_append, List.nil_append]
      rw [bq_M_atOnce_64]
      have e3 := an_ap_2 (show a < b by omega) hb2
      cases hx : an_apb s (2 ^ a ||| 2 ^ b) s.1 with
      | true =>
        rw [if_neg am_b0]
        exact e72 2 (Or.inr ⟨rfl, by omega, e3.1 hx⟩)
      | false =>
        rw [if_pos am_bif, bq_M_atOnce_71]
        exact e72 v (Or.inl ⟨rfl, Or.inr (fun w => by have := e3.2 w; rw [hx] at this; cases this)⟩)
  · obtain ⟨v, j4, j5⟩ := j
    show am_Wp d 282 36 [some (Sum.inr (Sum.inr 70)), some (Sum.inl ((v : Int))), some (Sum.inl ((a : Int))), some (Sum.inl ((s.1 : Int))), j4, j5] [] (am_SH L, h, am_RR kp) Q
    rw [bq_M_atOnce_36 (by omega), ht.1, if_pos (Int.le_refl _), am_incn (by omega)]
    exact K v (an_ao_e ha hj) _ _ _
theorem m_atOnce {d L kp : Nat} {h : Nat → Nat → Int} (hd : 30 ≤ d) (hv : v_ok (am_mv h)) : am_An L 81 (a_atOnce (am_mv h)) h (fun Q => am_Wp d 282 0 [some (Sum.inr (Sum.inr 70)), none, none, none, none, none] [] (am_SH L, h, am_RR kp) Q) := by
  have hQ := mv_Q hv
  have hP := mv_P hv
  have hD := mv_D hv
  intro Q hq
  have hq2 : ∀ g' kq, am_keep (am_up h 70 13 0) g' → Q (some (a_atOnce (am_mv h)).1) (am_SH L, am_bump 81 (a_atOnce (am_mv h)).2 g', am_RR kq) := fun g' kq hk => hq g' kq (am_keep_t (am_keep_up rfl am_keep_r) hk)
  clear hq
  have hv2 : v_ok (am_mv (am_up h 70 13 0)) := hv
  try rw [show am_mv h = am_mv (am_up h 70 13 0) from rfl] at hq2
  show am_Wp d 282 0 [some (Sum.inr (Sum.inr 70)), none, none, none, none, none] [] (am_SH L, h, am_RR kp) Q
  refine (show _ = _ from bq_M_atOnce_0 (by omega)).mpr ?_
  clear hv hQ hP hD
  generalize am_up h 70 13 0 = g at hq2 hv2 ⊢
  have hv := hv2
  have hQ := mv_Q hv2
  have hP := mv_P hv
  have hD := mv_D hv
  refine sp_M_layTwos (by omega) hv (fun f k1 k2 => ?_)
  have kk := an_lt_keep k1
  have hok := v_twos_ok hv
  have hP0 : (0 : Int) ≤ vP (am_mv g) ∧ vP (am_mv g) ≤ 7 := ⟨(show 0 ≤ g 70 0 by omega), (show g 70 0 ≤ 7 by omega)⟩
  have h3 := hq2 f kp kk
  unfold a_atOnce at h3
  have hU : ∀ i, i < (v_twos (am_mv g)).1 → an_sb (an_bt (v_twos (am_mv g)) i) (2 ^ (vP (am_mv g)).toNat - 1) := fun i hi p hp => by
    have h5 := hok.1 i hi
    rw [an_bt_in] at hp
    rw [Nat.testBit_two_pow_sub_one, decide_eq_true_eq]
    omega
  have hU7 : 2 ^ (vP (am_mv g)).toNat - 1 < 2 ^ 7 := by
    have h6 : 2 ^ (vP (am_mv g)).toNat ≤ 2 ^ 7 := Nat.pow_le_pow_right (by omega) (by omega)
    have := Nat.two_pow_pos (vP (am_mv g)).toNat
    omega
  generalize 2 ^ (vP (am_mv g)).toNat - 1 = U at h3 hU hU7
  generalize v_twos (am_mv g) = s at k2 hok h3 hU
  have ht := k2
  simp only [Option.toList_some, Option.toList_none, List.cons_append, List.nil_append]
  rw [bq_M_atOnce_9]
  refine am_im_fr (J := Nat × Option am_V × Option am_V × Option am_V) (a := 0) (n := s.1) (fun a j => an_ao s U a 0 0 0 j.1) (fun a j => am_Wp d 282 13 [some (Sum.inr (Sum.inr 70)), some (Sum.inl ((j.1 : Int))), some (Sum.inl ((a : Int))), j.2.1, j.2.2.1, j.2.2.2] [] (am_SH L, f, am_RR kp) Q) (by omega) (fun a j _ ha hj ih => ?_) (fun j hj => ?_) (0, none, none, none) an_ao_0
  · obtain ⟨v, j3, j4, j5⟩ := j
    have hj2 : an_ao s U a 0 0 0 v := hj
    have h31 : ∀ w : Nat, an_ao s U a (a + 1) (a + 1) 0 w → am_Wp d 282 31 [some (Sum.inr (Sum.inr 70)), some (Sum.inl ((v : Int))), some (Sum.inl ((a : Int))), j3, j4, j5] [Sum.inl (w : Int)] (am_SH L, f, am_RR kp) Q := fun w hw => by
      rw [bq_M_atOnce_31, am_incn (by omega)]
      exact lp_M_atOnce_b (by omega) ht hok.2.1 hok.2.2 hU ha (fun v2 hv2 x3 x4 x5 => ih (v2, x3, x4, x5) hv2) (w, j4, j5) hw
    have h7 := an_ao_a hU ha hj2
    show am_Wp d 282 13 [some (Sum.inr (Sum.inr 70)), some (Sum.inl ((v : Int))), some (Sum.inl ((a : Int))), j3, j4, j5] [] (am_SH L, f, am_RR kp) Q
    rw [bq_M_atOnce_13, ht.1, if_neg (by omega)]
    by_cases q : 1 ≤ v
    · rw [if_pos q] at h7
      rw [if_pos (by omega)]
      exact h31 v h7
    · rw [if_neg q] at h7
      rw [if_neg (by omega)]
      exact h31 1 h7
  · obtain ⟨v, j3, j4, j5⟩ := j
    show am_Wp d 282 13 [some (Sum.inr (Sum.inr 70)), some (Sum.inl ((v : Int))), some (Sum.inl ((s.1 : Int))), j3, j4, j5] [] (am_SH L, f, am_RR kp) Q
    rw [bq_M_atOnce_13, ht.1, if_pos (Int.le_refl _), an_pxv_eq (an_ao_z hok.2.1 hU7 hj)]
    exact h3