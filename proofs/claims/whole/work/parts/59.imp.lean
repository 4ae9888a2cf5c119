/-! loops that use the heap for themselves -/
theorem am_dn_imp {J : Type} {n : Nat} (I : Nat → J → Prop) (P : Nat → J → Prop) (h1 : ∀ k j, k < n → I k j → (∀ i, I (k + 1) i → P (k + 1) i) → P k j) (h2 : ∀ j, I n j → P n j) : ∀ j, I 0 j → P 0 j := by
  have key : ∀ m k, k + m = n → ∀ j, I k j → P k j := by
    intro m
    induction m with
    | zero => intro k hk; rw [show k = n by omega]; exact h2
    | succ m ih => intro k hk j hj; exact h1 k j (by omega) hj (ih (k + 1) (by omega))
  exact key n 0 (by omega)
