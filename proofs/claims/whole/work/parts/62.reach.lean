/-! WHO COMES TO WHOM: balls of steps in masks, when they stand still -/
def am_arn (fm : Nat → Nat) (x n : Nat) : Nat := am_for (fun c s => bif Nat.testBit x c then s ||| fm c else s) n x
theorem am_arn_s {fm : Nat → Nat} {x n : Nat} : am_arn fm x (n + 1) = bif Nat.testBit x n then am_arn fm x n ||| fm n else am_arn fm x n := rfl
theorem am_arn_tb {fm : Nat → Nat} {x n b : Nat} : Nat.testBit (am_arn fm x n) b = true ↔ Nat.testBit x b = true ∨ ∃ c, c < n ∧ Nat.testBit x c = true ∧ Nat.testBit (fm c) b = true := by
  induction n with
  | zero =>
    show Nat.testBit x b = true ↔ _
    constructor
    · exact Or.inl
    · rintro (h | ⟨c, h1, _⟩)
      · exact h
      · omega
  | succ n ih =>
    rw [am_arn_s]
    cases hx : Nat.testBit x n with
    | true =>
      show Nat.testBit (am_arn fm x n ||| fm n) b = true ↔ _
      rw [Nat.testBit_or, Bool.or_eq_true, ih]
      constructor
      · rintro ((h | ⟨c, h1, h2, h3⟩) | h)
        · exact Or.inl h
        · exact Or.inr ⟨c, by omega, h2, h3⟩
        · exact Or.inr ⟨n, by omega, hx, h⟩
      · rintro (h | ⟨c, h1, h2, h3⟩)
        · exact Or.inl (Or.inl h)
        · by_cases h4 : c = n
          · rw [h4] at h3; exact Or.inr h3
          · exact Or.inl (Or.inr ⟨c, by omega, h2, h3⟩)
    | false =>
      show Nat.testBit (am_arn fm x n) b = true ↔ _
      rw [ih]
      constructor
      · rintro (h | ⟨c, h1, h2, h3⟩)
        · exact Or.inl h
        · exact Or.inr ⟨c, by omega, h2, h3⟩
      · rintro (h | ⟨c, h1, h2, h3⟩)
        · exact Or.inl h
        · by_cases h4 : c = n
          · rw [h4, hx] at h2; cases h2
          · exact Or.inr ⟨c, by omega, h2, h3⟩
theorem am_arn_lt {fm : Nat → Nat} {x n m : Nat} (hx : x < 2 ^ m) (hf : ∀ c, c < n → fm c < 2 ^ m) : am_arn fm x n < 2 ^ m := by
  induction n with
  | zero => exact hx
  | succ n ih =>
    rw [am_arn_s]
    have h1 := ih (fun c hc => hf c (by omega))
    cases Nat.testBit x n with
    | true => exact Nat.or_lt_two_pow h1 (hf n (by omega))
    | false => exact h1
/-- the ball of r steps around a -/
def am_bm (fm : Nat → Nat) (n a : Nat) : Nat → Nat
  | 0 => 2 ^ a
  | r + 1 => am_arn fm (am_bm fm n a r) n
def am_in (fm : Nat → Nat) (n a r b : Nat) : Prop := Nat.testBit (am_bm fm n a r) b = true
theorem am_in_0 {fm : Nat → Nat} {n a b : Nat} : am_in fm n a 0 b ↔ b = a := by
  unfold am_in am_bm
  rw [Nat.testBit_two_pow, decide_eq_true_eq]
  exact ⟨fun h => h.symm, fun h => h.symm⟩
theorem am_in_s {fm : Nat → Nat} {n a r b : Nat} : am_in fm n a (r + 1) b ↔ am_in fm n a r b ∨ ∃ c, c < n ∧ am_in fm n a r c ∧ Nat.testBit (fm c) b = true := am_arn_tb
theorem am_bm_lt {fm : Nat → Nat} {n a r : Nat} (ha : a < n) (hf : ∀ c, c < n → fm c < 2 ^ n) : am_bm fm n a r < 2 ^ n := by
  induction r with
  | zero => exact Nat.pow_lt_pow_right (by omega) ha
  | succ r ih => exact am_arn_lt ih hf
theorem am_in_lt {fm : Nat → Nat} {n a r b : Nat} (ha : a < n) (hf : ∀ c, c < n → fm c < 2 ^ n) (h : am_in fm n a r b) : b < n := by
  by_cases h1 : b < n
  · exact h1
  · have h2 : am_bm fm n a r < 2 ^ b := Nat.lt_of_lt_of_le (am_bm_lt ha hf) (Nat.pow_le_pow_right (by omega) (by omega))
    unfold am_in at h
    rw [Nat.testBit_lt_two_pow h2] at h
    cases h
theorem am_in_m {fm : Nat → Nat} {n a b r q : Nat} (hrq : r ≤ q) (h : am_in fm n a r b) : am_in fm n a q b := by
  induction q with
  | zero => rw [show r = 0 by omega] at h; exact h
  | succ q ih =>
    by_cases h1 : r = q + 1
    · rw [← h1]; exact h
    · exact am_in_s.2 (Or.inl (ih (by omega)))
/-- the way the other way round: first a step, then a ball -/
theorem am_in_p {fm : Nat → Nat} {n a r b : Nat} (ha : a < n) (hf : ∀ c, c < n → fm c < 2 ^ n) : am_in fm n a (r + 1) b ↔ am_in fm n a r b ∨ ∃ c, c < n ∧ Nat.testBit (fm a) c = true ∧ am_in fm n c r b := by
  induction r generalizing b with
  | zero =>
    rw [am_in_s, am_in_0]
    constructor
    · rintro (h | ⟨c, h1, h2, h3⟩)
      · exact Or.inl h
      · rw [am_in_0] at h2
        rw [h2] at h3
        refine Or.inr ⟨b, ?_, h3, am_in_0.2 rfl⟩
        by_cases hb : b < n
        · exact hb
        · have h4 : fm a < 2 ^ b := Nat.lt_of_lt_of_le (hf a ha) (Nat.pow_le_pow_right (by omega) (by omega))
          rw [Nat.testBit_lt_two_pow h4] at h3
          cases h3
    · rintro (h | ⟨c, h1, h2, h3⟩)
      · exact Or.inl h
      · rw [am_in_0] at h3
        rw [← h3] at h2
        exact Or.inr ⟨a, ha, am_in_0.2 rfl, h2⟩
  | succ r ih =>
    rw [am_in_s (r := r + 1)]
    constructor
    · rintro (h | ⟨c, h1, h2, h3⟩)
      · exact Or.inl h
      · rcases ih.1 h2 with h4 | ⟨e, h4, h5, h6⟩
        · exact Or.inl (am_in_s.2 (Or.inr ⟨c, h1, h4, h3⟩))
        · exact Or.inr ⟨e, h4, h5, am_in_s.2 (Or.inr ⟨c, h1, h6, h3⟩)⟩
    · rintro (h | ⟨e, h4, h5, h6⟩)
      · exact Or.inl h
      · rcases am_in_s.1 h6 with h7 | ⟨c, h1, h2, h3⟩
        · exact Or.inl (ih.2 (Or.inr ⟨e, h4, h5, h7⟩))
        · exact Or.inr ⟨c, h1, ih.2 (Or.inr ⟨e, h4, h5, h2⟩), h3⟩
/-- from n steps on nothing more comes -/
theorem am_bm_st {fm : Nat → Nat} {n a : Nat} (ha : a < n) (hf : ∀ c, c < n → fm c < 2 ^ n) : am_bm fm n a (n + 1) = am_bm fm n a n := by
  have key : ∀ r, am_bm fm n a (r + 1) = am_bm fm n a r ∨ (r : Int) + 1 ≤ am_sumb n (fun b => bif Nat.testBit (am_bm fm n a r) b then 1 else 0) := by
    intro r
    induction r with
    | zero =>
      refine Or.inr ?_
      have h1 := am_sumb_mono (n := n) (f := fun k => if k = a then 1 else 0) (g := fun b => bif Nat.testBit (am_bm fm n a 0) b then 1 else 0) (fun k hk => by
        show (if k = a then (1 : Int) else 0) ≤ (bif Nat.testBit (am_bm fm n a 0) k then 1 else 0)
        by_cases h2 : k = a
        · have h3 : Nat.testBit (am_bm fm n a 0) k = true := am_in_0.2 h2
          rw [if_pos h2, h3]; exact Int.le_refl _
        · rw [if_neg h2]
          cases Nat.testBit (am_bm fm n a 0) k
          · exact Int.le_refl _
          · exact (by decide : (0 : Int) ≤ 1))
      rw [am_sumb_one ha] at h1
      exact h1
    | succ r ih =>
      by_cases hs : am_bm fm n a (r + 1) = am_bm fm n a r
      · left
        show am_arn fm (am_bm fm n a (r + 1)) n = _
        rw [hs]
        exact hs
      · right
        have h1 := ih.resolve_left hs
        have h2 : ∃ b, am_in fm n a (r + 1) b ∧ ¬ am_in fm n a r b := by
          refine Classical.byContradiction (fun hn => hs ?_)
          apply Nat.eq_of_testBit_eq
          intro b
          by_cases h3 : am_in fm n a r b
          · have h4 : am_in fm n a (r + 1) b := am_in_s.2 (Or.inl h3)
            unfold am_in at h3 h4
            rw [h3, h4]
          · have h4 : ¬ am_in fm n a (r + 1) b := fun w => hn ⟨b, w, h3⟩
            unfold am_in at h3 h4
            rw [Bool.not_eq_true] at h3 h4
            rw [h3, h4]
        obtain ⟨b, h3, h4⟩ := h2
        have hb := am_in_lt ha hf h3
        have h5 := am_sumb_mono (n := n) (f := fun k => (bif Nat.testBit (am_bm fm n a r) k then 1 else 0) + (if k = b then 1 else 0)) (g := fun k => bif Nat.testBit (am_bm fm n a (r + 1)) k then 1 else 0) (fun k hk => by
          show (bif Nat.testBit (am_bm fm n a r) k then (1 : Int) else 0) + (if k = b then 1 else 0) ≤ (bif Nat.testBit (am_bm fm n a (r + 1)) k then 1 else 0)
          by_cases h6 : k = b
          · have h7 : Nat.testBit (am_bm fm n a r) k = false := by rw [h6]; unfold am_in at h4; rw [Bool.not_eq_true] at h4; exact h4
            have h8 : Nat.testBit (am_bm fm n a (r + 1)) k = true := by rw [h6]; exact h3
            rw [h7, h8, if_pos h6]
            exact (by decide : (0 : Int) + 1 ≤ 1)
          · rw [if_neg h6]
            cases h7 : Nat.testBit (am_bm fm n a r) k with
            | true =>
              have h8 : Nat.testBit (am_bm fm n a (r + 1)) k = true := am_in_s.2 (Or.inl h7)
              rw [h8]
              exact (by decide : (1 : Int) + 0 ≤ 1)
            | false =>
              cases Nat.testBit (am_bm fm n a (r + 1)) k
              · exact (by decide : (0 : Int) + 0 ≤ 0)
              · exact (by decide : (0 : Int) + 0 ≤ 1))
        rw [am_sumb_add, am_sumb_one hb] at h5
        show ((r + 1 : Nat) : Int) + 1 ≤ _
        omega
  rcases key n with h | h
  · exact h
  · have h1 := am_sumb_le (n := n) (g := fun b => bif Nat.testBit (am_bm fm n a n) b then 1 else 0) (A := 0) (B := 1) (fun k _ => by
      show 0 ≤ (bif Nat.testBit (am_bm fm n a n) k then (1 : Int) else 0) ∧ (bif Nat.testBit (am_bm fm n a n) k then (1 : Int) else 0) ≤ 1
      cases Nat.testBit (am_bm fm n a n) k
      · exact (by decide : (0 : Int) ≤ 0 ∧ (0 : Int) ≤ 1)
      · exact (by decide : (0 : Int) ≤ 1 ∧ (1 : Int) ≤ 1))
    omega
theorem am_in_st {fm : Nat → Nat} {n a b r : Nat} (ha : a < n) (hf : ∀ c, c < n → fm c < 2 ^ n) (h : am_in fm n a r b) : am_in fm n a n b := by
  have h1 : ∀ q, am_bm fm n a (n + q) = am_bm fm n a n := by
    intro q
    induction q with
    | zero => rfl
    | succ q ih =>
      show am_arn fm (am_bm fm n a (n + q)) n = _
      rw [ih]
      exact am_bm_st ha hf
  by_cases h2 : r ≤ n
  · exact am_in_m h2 h
  · unfold am_in at h ⊢
    rw [← h1 (r - n), show n + (r - n) = r by omega]
    exact h
/-- all that one comes to is closed under a step -/
theorem am_in_c {fm : Nat → Nat} {n a b c : Nat} (ha : a < n) (hf : ∀ c, c < n → fm c < 2 ^ n) (hc : c < n) (h : am_in fm n a n c) (hs : Nat.testBit (fm c) b = true) : am_in fm n a n b :=
  am_in_st (r := n + 1) ha hf (am_in_s.2 (Or.inr ⟨c, hc, h, hs⟩))
theorem am_in_tr {fm : Nat → Nat} {n a b c r : Nat} (ha : a < n) (hb : b < n) (hf : ∀ c, c < n → fm c < 2 ^ n) (h1 : am_in fm n a n b) (h2 : am_in fm n b r c) : am_in fm n a n c := by
  induction r generalizing c with
  | zero => rw [am_in_0.1 h2]; exact h1
  | succ r ih =>
    rcases am_in_s.1 h2 with h3 | ⟨e, h3, h4, h5⟩
    · exact ih h3
    · exact am_in_c ha hf h3 (ih h4) h5
theorem am_in_sy {fm : Nat → Nat} {n a b r : Nat} (ha : a < n) (hf : ∀ c, c < n → fm c < 2 ^ n) (hsy : ∀ a b, a < n → b < n → Nat.testBit (fm a) b = Nat.testBit (fm b) a) (h : am_in fm n a r b) : am_in fm n b r a := by
  induction r generalizing b with
  | zero => exact am_in_0.2 (am_in_0.1 h).symm
  | succ r ih =>
    have hb := am_in_lt ha hf h
    rw [am_in_p hb hf]
    rcases am_in_s.1 h with h3 | ⟨c, h3, h4, h5⟩
    · exact Or.inl (ih h3)
    · exact Or.inr ⟨c, h3, by rw [hsy b c hb h3]; exact h5, ih h4⟩
/-- the same company from each of it -/
theorem am_bm_eq {fm : Nat → Nat} {n a b : Nat} (ha : a < n) (hf : ∀ c, c < n → fm c < 2 ^ n) (hsy : ∀ a b, a < n → b < n → Nat.testBit (fm a) b = Nat.testBit (fm b) a) (h : am_in fm n a n b) : am_bm fm n b n = am_bm fm n a n := by
  have hb := am_in_lt ha hf h
  apply Nat.eq_of_testBit_eq
  intro c
  have h1 : am_in fm n b n c ↔ am_in fm n a n c := ⟨fun w => am_in_tr ha hb hf h w, fun w => am_in_tr hb ha hf (am_in_sy ha hf hsy h) w⟩
  unfold am_in at h1
  cases h2 : Nat.testBit (am_bm fm n b n) c with
  | true => exact (h1.1 h2).symm
  | false =>
    cases h3 : Nat.testBit (am_bm fm n a n) c with
    | false => rfl
    | true => rw [h1.2 h3] at h2; cases h2
