/-! PAYMENTS: the fewest, of the class -/
def an_z (N : Nat → Int) (P : Nat) : Nat := am_bits P (fun p => decide (N p = 0))
def an_so (N : Nat → Int) (P : Nat) : Nat := am_bits P (fun p => !decide (N p = 0))
def an_ns (N : Nat → Int) (P S : Nat) : Int := am_sumb P (fun p => bif Nat.testBit S p then N p else 0)
def an_okp (N : Nat → Int) (P S : Nat) : Prop := an_ns N P S = 0 ∧ an_sb S (an_so N P)
noncomputable def v_pay (N : Nat → Int) (P : Nat) : Int := am_pc (an_so N P) - an_mxv (an_okp N P) (an_so N P)
def an_L (N : Nat → Int) (P i : Nat) : Int := N (an_nu (an_z N P) i)
def an_okc (N : Nat → Int) (P s : Nat) : Prop := v_ss (an_L N P) s 7 = 0
def an_ph (N : Nat → Int) (P s : Nat) : Nat := am_bits P (fun p => !decide (N p = 0) && Nat.testBit s (an_cu (an_z N P) p))
section ANPAY
variable {N : Nat → Int} {P : Nat}
theorem an_z_tb {p : Nat} (hp : p < P) : Nat.testBit (an_z N P) p = decide (N p = 0) := by
  unfold an_z
  rw [am_bits_tb, decide_eq_true hp, Bool.true_and]
theorem an_so_tb {p : Nat} : Nat.testBit (an_so N P) p = (decide (p < P) && !decide (N p = 0)) := am_bits_tb
theorem an_ph_tb {s p : Nat} : Nat.testBit (an_ph N P s) p = (decide (p < P) && (!decide (N p = 0) && Nat.testBit s (an_cu (an_z N P) p))) := am_bits_tb
theorem an_ph_in {s p : Nat} : Nat.testBit (an_ph N P s) p = true ↔ p < P ∧ ¬ N p = 0 ∧ Nat.testBit s (an_cu (an_z N P) p) = true := by
  rw [an_ph_tb, Bool.and_eq_true, Bool.and_eq_true, decide_eq_true_eq, Bool.not_eq_true', decide_eq_false_iff_not]
theorem an_nuz {p : Nat} (hp : p < P) (h7 : P ≤ 7) (h0 : ¬ N p = 0) : an_nu (an_z N P) (an_cu (an_z N P) p) = p := an_nu_eq (by omega) (by rw [an_z_tb hp]; exact decide_eq_false h0)
theorem an_cuz {p : Nat} (hp : p < P) (h0 : ¬ N p = 0) : an_cu (an_z N P) p < an_cu (an_z N P) P := an_cu_lt hp (by rw [an_z_tb hp]; exact decide_eq_false h0)
theorem an_inz {i : Nat} (h7 : P ≤ 7) (hi : i < an_cu (an_z N P) P) : an_nu (an_z N P) i < P ∧ ¬ N (an_nu (an_z N P) i) = 0 ∧ an_cu (an_z N P) (an_nu (an_z N P) i) = i := by
  obtain ⟨p, h1, h2, h3⟩ := an_cu_ex hi
  have h4 : ¬ N p = 0 := by
    rw [an_z_tb h1] at h2
    exact of_decide_eq_false h2
  have h5 := an_nuz h1 h7 h4
  rw [h3] at h5
  rw [h5]
  exact ⟨h1, h4, h3⟩
theorem an_ph_dif {s x : Nat} : an_ph N P (an_dif s x) = an_dif (an_ph N P s) (an_ph N P x) := by
  apply Nat.eq_of_testBit_eq
  intro p
  rw [an_ph_tb, an_dif_tb, an_dif_tb, an_ph_tb, an_ph_tb]
  cases decide (p < P) <;> cases (!decide (N p = 0)) <;> cases Nat.testBit s (an_cu (an_z N P) p) <;> cases Nat.testBit x (an_cu (an_z N P) p) <;> rfl
theorem an_ph_ne {s : Nat} (h7 : P ≤ 7) (hs : s < 2 ^ an_cu (an_z N P) P) (h0 : ¬ s = 0) : ¬ an_ph N P s = 0 := by
  obtain ⟨i, hi⟩ := an_ne0.1 h0
  have h1 := Nat.ge_two_pow_of_testBit hi
  have h2 : i < an_cu (an_z N P) P := (Nat.pow_lt_pow_iff_right (by omega : 1 < 2)).1 (by omega)
  obtain ⟨h3, h4, h5⟩ := an_inz h7 h2
  exact an_ne0.2 ⟨an_nu (an_z N P) i, an_ph_in.2 ⟨h3, h4, by rw [h5]; exact hi⟩⟩
theorem an_ph_sb {x s : Nat} (h : an_sb x s) : an_sb (an_ph N P x) (an_ph N P s) := fun p hp => by
  rw [an_ph_in] at hp ⊢
  exact ⟨hp.1, hp.2.1, h _ hp.2.2⟩
theorem an_ph_so {s : Nat} : an_sb (an_ph N P s) (an_so N P) := fun p hp => by
  rw [an_ph_in] at hp
  rw [an_so_tb, decide_eq_true hp.1, decide_eq_false hp.2.1]
  rfl
theorem an_ph_ex {T s : Nat} (h7 : P ≤ 7) (hT : an_sb T (an_ph N P s)) : ∃ x, an_sb x s ∧ an_ph N P x = T ∧ x < 2 ^ an_cu (an_z N P) P := by
  refine ⟨am_bits (an_cu (an_z N P) P) (fun i => Nat.testBit T (an_nu (an_z N P) i)), fun i hi => ?_, ?_, am_bits_lt⟩
  · rw [am_bits_tb, Bool.and_eq_true, decide_eq_true_eq] at hi
    have h1 := (an_ph_in.1 (hT _ hi.2)).2.2
    rw [(an_inz h7 hi.1).2.2] at h1
    exact h1
  · apply Nat.eq_of_testBit_eq
    intro p
    have h1 : Nat.testBit (an_ph N P (am_bits (an_cu (an_z N P) P) (fun i => Nat.testBit T (an_nu (an_z N P) i)))) p = true ↔ Nat.testBit T p = true := by
      rw [an_ph_in]
      constructor
      · rintro ⟨w1, w2, w3⟩
        rw [am_bits_tb, Bool.and_eq_true, an_nuz w1 h7 w2] at w3
        exact w3.2
      · intro w
        have h2 := an_ph_in.1 (hT p w)
        refine ⟨h2.1, h2.2.1, ?_⟩
        rw [am_bits_tb, an_nuz h2.1 h7 h2.2.1, decide_eq_true (an_cuz h2.1 h2.2.1), w]
        rfl
    cases h3 : Nat.testBit T p with
    | true => exact h1.2 h3
    | false =>
      cases h4 : Nat.testBit (an_ph N P (am_bits (an_cu (an_z N P) P) (fun i => Nat.testBit T (an_nu (an_z N P) i)))) p with
      | false => rfl
      | true => rw [h1.1 h4] at h3; cases h3
theorem an_ph_sum {s : Nat} (h7 : P ≤ 7) (hs : s < 2 ^ an_cu (an_z N P) P) : v_ss (an_L N P) s 7 = an_ns N P (an_ph N P s) := by
  have hn : an_cu (an_z N P) P ≤ 7 := Nat.le_trans an_cu_le h7
  have h1 : v_ss (an_L N P) s 7 = am_sumb (an_cu (an_z N P) P) (fun i => bif Nat.testBit s i then an_L N P i else 0) := am_sumb_tr hn (fun j h2 _ => by
    rw [Nat.testBit_lt_two_pow (Nat.lt_of_lt_of_le hs (Nat.pow_le_pow_right (by omega) h2))]; rfl)
  rw [h1]
  have key : ∀ p, p ≤ P → am_sumb (an_cu (an_z N P) p) (fun i => bif Nat.testBit s i then an_L N P i else 0) = am_sumb p (fun p => bif Nat.testBit (an_ph N P s) p then N p else 0) := by
    intro p
    induction p with
    | zero => exact fun _ => rfl
    | succ p ih =>
      intro hp
      rw [am_sumb_s, ← ih (by omega), an_cu_s, an_z_tb (by omega), an_ph_tb, decide_eq_true (show p < P by omega), Bool.true_and]
      by_cases q : N p = 0
      · rw [decide_eq_true q]
        show am_sumb (an_cu (an_z N P) p + 0) _ = _ + 0
        rw [Nat.add_zero, Int.add_zero]
      · rw [decide_eq_false q]
        show am_sumb (an_cu (an_z N P) p + 1) _ = _
        rw [am_sumb_s]
        have h3 : an_L N P (an_cu (an_z N P) p) = N p := by
          unfold an_L
          rw [an_nuz (by omega) h7 q]
        rw [h3]
        rfl
  exact key P (Nat.le_refl P)
theorem an_ph_all (h7 : P ≤ 7) : an_ph N P (2 ^ an_cu (an_z N P) P - 1) = an_so N P := by
  apply Nat.eq_of_testBit_eq
  intro p
  rw [an_ph_tb, an_so_tb, Nat.testBit_two_pow_sub_one]
  by_cases q : p < P
  · by_cases q2 : N p = 0
    · rw [decide_eq_true q2]; rfl
    · rw [decide_eq_true (an_cuz q q2), Bool.and_true]
  · rw [decide_eq_false q]; rfl
theorem an_pt_ph (h7 : P ≤ 7) : ∀ (k : Nat) {s : Nat}, s < 2 ^ an_cu (an_z N P) P → (an_pt (an_okc N P) k s ↔ an_pt (an_okp N P) k (an_ph N P s)) := by
  intro k
  induction k with
  | zero =>
    intro s hs
    constructor
    · intro w
      have w2 : s = 0 := w
      rw [w2]
      apply Nat.eq_of_testBit_eq
      intro p
      rw [an_ph_tb, Nat.zero_testBit, Bool.and_false, Bool.and_false, Nat.zero_testBit]
    · intro w
      have w2 : an_ph N P s = 0 := w
      refine Classical.byContradiction (fun q => an_ph_ne h7 hs q w2)
  | succ k ih =>
    intro s hs
    constructor
    · rintro ⟨x, h1, h2, h3, h4⟩
      have hx : x < 2 ^ an_cu (an_z N P) P := Nat.lt_of_le_of_lt (an_sb_le h2) hs
      refine ⟨an_ph N P x, an_ph_ne h7 hx h1, an_ph_sb h2, ⟨?_, an_ph_so⟩, ?_⟩
      · rw [← an_ph_sum h7 hx]; exact h3
      · rw [← an_ph_dif]
        exact (ih (Nat.lt_of_le_of_lt an_dif_le hs)).1 h4
    · rintro ⟨T, h1, h2, h3, h4⟩
      obtain ⟨x, g1, g2, g3⟩ := an_ph_ex h7 h2
      rw [← g2] at h1 h3 h4
      refine ⟨x, fun w => h1 ?_, g1, ?_, ?_⟩
      · rw [w]
        apply Nat.eq_of_testBit_eq
        intro p
        rw [an_ph_tb, Nat.zero_testBit, Bool.and_false, Bool.and_false, Nat.zero_testBit]
      · show v_ss (an_L N P) x 7 = 0
        rw [an_ph_sum h7 g3]
        exact h3.1
      · rw [← an_ph_dif] at h4
        exact (ih (Nat.lt_of_le_of_lt an_dif_le hs)).2 h4
theorem an_mx_ph (h7 : P ≤ 7) {s : Nat} {v : Int} (hs : s < 2 ^ an_cu (an_z N P) P) (h : an_mx (an_okc N P) s v) : an_mx (an_okp N P) (an_ph N P s) v := by
  rcases h with ⟨h1, h2⟩ | ⟨k, h1, h2, h3⟩
  · exact Or.inl ⟨h1, fun k hk => h2 k ((an_pt_ph h7 k hs).2 hk)⟩
  · exact Or.inr ⟨k, h1, (an_pt_ph h7 k hs).1 h2, fun j hj => h3 j ((an_pt_ph h7 j hs).2 hj)⟩
theorem an_so_pc (h7 : P ≤ 7) : am_pc (an_so N P) = (an_cu (an_z N P) P : Int) := by
  unfold am_pc
  rw [am_sumb_tr (n := P) (by omega) (fun j h1 _ => by rw [an_so_tb, decide_eq_false (by omega)]; rfl)]
  have key : ∀ p, p ≤ P → am_sumb p (fun i => bif Nat.testBit (an_so N P) i then 1 else 0) = (an_cu (an_z N P) p : Int) := by
    intro p
    induction p with
    | zero => exact fun _ => rfl
    | succ p ih =>
      intro hp
      rw [am_sumb_s, ih (by omega), an_cu_s, an_z_tb (by omega), an_so_tb, decide_eq_true (show p < P by omega), Bool.true_and]
      by_cases q : N p = 0
      · rw [decide_eq_true q]
        show (an_cu (an_z N P) p : Int) + 0 = ((an_cu (an_z N P) p + 0 : Nat) : Int)
        omega
      · rw [decide_eq_false q]
        show (an_cu (an_z N P) p : Int) + 1 = ((an_cu (an_z N P) p + 1 : Nat) : Int)
        omega
  exact key P (Nat.le_refl P)
theorem v_ss_dif {f : Nat → Int} {s x : Nat} (h : an_sb x s) : v_ss f (an_dif s x) 7 = v_ss f s 7 - v_ss f x 7 := by
  unfold v_ss
  rw [← am_sumb_sub]
  refine am_sumb_eq (fun j _ => ?_)
  rw [an_dif_tb]
  cases h1 : Nat.testBit x j with
  | true => rw [h j h1]; show (0 : Int) = f j - f j; omega
  | false =>
    cases Nat.testBit s j
    · rfl
    · show f j = f j - 0; omega
end ANPAY
/-- what is known of sums and groups below s0 -/
def an_gp (N : Nat → Int) (P : Nat) (h g : Nat → Nat → Int) (s0 : Nat) : Prop := (∀ a j, ¬ a = 48 → ¬ a = 49 → ¬ a = 50 → g a j = h a j) ∧ (∀ j, j < an_cu (an_z N P) P → g 48 j = an_L N P j) ∧ (∀ s, s < s0 → g 49 s = v_ss (an_L N P) s 7) ∧ (∀ s, s < s0 → 0 ≤ g 50 s ∧ g 50 s ≤ (s : Int) ∧ (an_okc N P s → an_mx (an_okc N P) s (g 50 s)))
theorem an_top {n t : Nat} (h1 : 2 ^ t ≤ n) (h2 : n < 2 ^ (t + 1)) : Nat.testBit n t = true := Nat.testBit_of_two_pow_le_and_two_pow_add_one_gt h1 h2
theorem sp_Settlement_mostGroups {d L kp : Nat} {h : Nat → Nat → Int} {Q : Option am_V → am_H → Prop} {N : Nat → Int} {P s t : Nat} (hd : 1 ≤ d) (h49 : ∀ x, x ≤ s → h 49 x = v_ss (an_L N P) x 7) (h50 : ∀ x, x < s → 0 ≤ h 50 x ∧ h 50 x ≤ (x : Int)) (hs : s < 2 ^ 7) (h1 : 2 ^ t ≤ s) (h2 : s < 2 ^ (t + 1)) (ht : t < 7) (hq : ∀ m : Int, (0 ≤ m ∧ m ≤ (s : Int)) ∧ (m = 0 ∨ ∃ y, (2 ^ t ≤ y ∧ y < (s + 1)) ∧ an_sb y s ∧ an_okc N P y ∧ m = 1 + h 50 (an_dif s y)) ∧ (∀ y, 2 ^ t ≤ y → y < (s + 1) → an_sb y s → an_okc N P y → 1 + h 50 (an_dif s y) ≤ m) → Q (some (Sum.inl m)) (am_SH L, h, am_RR kp)) : am_Wp d 81 0 [some (Sum.inr (Sum.inr 47)), some (Sum.inl (s : Int)), some (Sum.inl (t : Int)), none, none] [] (am_SH L, h, am_RR kp) Q := by
  have hp2 : 2 ^ t < 2 ^ 7 := Nat.pow_lt_pow_right (by omega) (by omega)
  have key := am_im_fr (J := Int) (a := 2 ^ t) (n := s + 1) (fun x m => (0 ≤ m ∧ m ≤ (s : Int)) ∧ (m = 0 ∨ ∃ y, (2 ^ t ≤ y ∧ y < x) ∧ an_sb y s ∧ an_okc N P y ∧ m = 1 + h 50 (an_dif s y)) ∧ (∀ y, 2 ^ t ≤ y → y < x → an_sb y s → an_okc N P y → 1 + h 50 (an_dif s y) ≤ m)) (fun x m => am_Wp d 81 7 [some (Sum.inr (Sum.inr 47)), some (Sum.inl ((s : Int))), some (Sum.inl ((t : Int))), some (Sum.inl (m)), some (Sum.inl ((x : Int)))] [] (am_SH L, h, am_RR kp) Q) (by omega) (fun x m hx1 hx2 hm ih => ?_) (fun m hm => ?_)
  · rw [bq_Settlement_mostGroups_0, am_shl1 (by omega)]
    exact key 0 ⟨by omega, Or.inl rfl, fun x w1 w2 => absurd w1 (by omega)⟩
  · rw [bq_Settlement_mostGroups_7 (by omega), if_neg (by omega), an_dif_ok (by omega) (by omega)]
    obtain ⟨m1, m2, m3⟩ := hm
    have keep : ¬ (an_sb x s ∧ an_okc N P x) → am_Wp d 81 52 [some (Sum.inr (Sum.inr 47)), some (Sum.inl ((s : Int))), some (Sum.inl ((t : Int))), some (Sum.inl (m)), some (Sum.inl ((x : Int)))] [] (am_SH L, h, am_RR kp) Q := fun hn => by
      rw [bq_Settlement_mostGroups_52, am_incn (by omega)]
      refine ih m ⟨m1, ?_, fun y w1 w2 w3 w4 => ?_⟩
      · rcases m2 with m2 | ⟨y, w1, w2⟩
        · exact Or.inl m2
        · exact Or.inr ⟨y, ⟨w1.1, by omega⟩, w2⟩
      · by_cases q : y = x
        · rw [q] at w3 w4; exact absurd ⟨w3, w4⟩ hn
        · exact m3 y w1 (by omega) w3 w4
    by_cases q1 : an_dif x s = 0
    · have hsb := an_sb_0.1 q1
      rw [if_pos (by omega), sp_at_49, am_lk_nat (by omega), h49 x (by omega)]
      simp only [Option.toList_some, Option.toList_none, List.cons_append, List.nil_append]
      rw [bq_Settlement_mostGroups_31 (by omega)]
      by_cases q2 : v_ss (an_L N P) x 7 = 0
      · have hlt := an_dif_lt hsb (show ¬ x = 0 by have := Nat.two_pow_pos t; omega)
        have hg := h50 _ hlt
        have hxor : am_xor (s : Int) (x : Int) = ((an_dif s x : Nat) : Int) := by
          rw [am_xor_ok (by omega) (by omega), an_dif_xor hsb]
        rw [if_pos q2, hxor, sp_at_50, am_lk_nat (by omega)]
        simp only [Option.toList_some, Option.toList_none, List.cons_append, List.nil_append]
        rw [bq_Settlement_mostGroups_47, am_add_ok (by omega) (by omega), bq_Settlement_mostGroups_52, am_incn (by omega)]
        refine ih _ ⟨?_, ?_, fun y w1 w2 w3 w4 => ?_⟩
        · unfold am_max; split <;> omega
        · unfold am_max
          by_cases q3 : m < 1 + h 50 (an_dif s x)
          · rw [if_pos q3]; exact Or.inr ⟨x, ⟨hx1, by omega⟩, hsb, q2, rfl⟩
          · rw [if_neg q3]
            rcases m2 with m2 | ⟨y, w1, w2⟩
            · exact Or.inl m2
            · exact Or.inr ⟨y, ⟨w1.1, by omega⟩, w2⟩
        · by_cases q : y = x
          · rw [q]; unfold am_max; split <;> omega
          · have := m3 y w1 (by omega) w3 w4
            unfold am_max; split <;> omega
      · rw [if_neg q2]
        exact keep (fun w => q2 w.2)
    · rw [if_neg (by omega)]
      exact keep (fun w => q1 (an_sb_0.2 w.1))
  · show am_Wp d 81 7 [some (Sum.inr (Sum.inr 47)), some (Sum.inl ((s : Int))), some (Sum.inl ((t : Int))), some (Sum.inl (m)), some (Sum.inl (((s + 1 : Nat) : Int)))] [] (am_SH L, h, am_RR kp) Q
    rw [bq_Settlement_mostGroups_7 (by omega), if_pos (by omega)]
    exact hq m hm