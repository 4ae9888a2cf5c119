/-! the first of some; two parts of a sum -/
theorem am_fst_some {n : Nat} {c : Nat → Bool} : ∀ {k j : Nat}, am_fst c n k = some j → (k ≤ j ∧ j < k + n) ∧ c j = true ∧ ∀ i, k ≤ i → i < j → c i = false := by
  induction n with
  | zero => intro k j h; cases h
  | succ n ih =>
    intro k j h
    unfold am_fst at h
    cases hc : c k with
    | true =>
      rw [hc] at h
      cases h
      exact ⟨⟨by omega, by omega⟩, hc, fun i h1 h2 => by omega⟩
    | false =>
      rw [hc] at h
      have h1 := ih h
      refine ⟨⟨by omega, by omega⟩, h1.2.1, fun i h2 h3 => ?_⟩
      by_cases h4 : i = k
      · rw [h4]; exact hc
      · exact h1.2.2 i (by omega) h3
theorem am_fst_none {n : Nat} {c : Nat → Bool} : ∀ {k : Nat}, am_fst c n k = none → ∀ i, k ≤ i → i < k + n → c i = false := by
  induction n with
  | zero => intro k _ i h1 h2; omega
  | succ n ih =>
    intro k h i h1 h2
    unfold am_fst at h
    cases hc : c k with
    | true => rw [hc] at h; cases h
    | false =>
      rw [hc] at h
      by_cases h4 : i = k
      · rw [h4]; exact hc
      · exact ih h i (by omega) (by omega)
theorem am_sumb_mono {n : Nat} {f g : Nat → Int} (hg : ∀ k, k < n → f k ≤ g k) : am_sumb n f ≤ am_sumb n g := by
  induction n with
  | zero => exact Int.le_refl _
  | succ n ih =>
    have h1 := ih (fun k hk => hg k (by omega))
    have h2 := hg n (by omega)
    rw [am_sumb_s, am_sumb_s]
    omega
theorem am_sumb_two {n i j : Nat} {g : Nat → Int} (hg : ∀ k, k < n → 0 ≤ g k) (hi : i < n) (hj : j < n) (hij : ¬ i = j) : g i + g j ≤ am_sumb n g := by
  have h1 := am_sumb_mono (n := n) (f := fun k => (if k = i then g i else 0) + (if k = j then g j else 0)) (g := g) (fun k hk => by
    have h2 := hg k hk
    show (if k = i then g i else 0) + (if k = j then g j else 0) ≤ g k
    by_cases h3 : k = i
    · rw [if_pos h3, if_neg (fun w => hij (h3.symm.trans w)), h3]; omega
    · rw [if_neg h3]
      by_cases h4 : k = j
      · rw [if_pos h4, h4]; omega
      · rw [if_neg h4]; omega)
  rw [am_sumb_add, am_sumb_one hi, am_sumb_one hj] at h1
  exact h1
