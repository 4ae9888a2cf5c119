/-! whether for one of some numbers something holds -/
def am_any : Nat → (Nat → Bool) → Bool
  | 0, _ => false
  | n + 1, c => am_any n c || c n
theorem am_any_iff {n : Nat} {c : Nat → Bool} : am_any n c = true ↔ ∃ k, k < n ∧ c k = true := by
  induction n with
  | zero => simp [am_any]
  | succ n ih =>
    show (am_any n c || c n) = true ↔ _
    rw [Bool.or_eq_true, ih]
    constructor
    · rintro (⟨k, h1, h2⟩ | h2)
      · exact ⟨k, by omega, h2⟩
      · exact ⟨n, by omega, h2⟩
    · rintro ⟨k, h1, h2⟩
      by_cases h3 : k = n
      · rw [h3] at h2; exact Or.inr h2
      · exact Or.inl ⟨k, by omega, h2⟩
theorem am_any_eq {n : Nat} (c : Nat → Bool) (P : Nat → Prop) (T F : Prop) (h1 : ∀ k, k < n → P k = (match c k with | true => T | false => P (k + 1))) (h2 : P n = F) : P 0 = (match am_any n c with | true => T | false => F) := by
  have h3 : ∀ k, k ≤ n → P 0 = (match am_any k c with | true => T | false => P k) := by
    intro k
    induction k with
    | zero => intro _; rfl
    | succ k ih =>
      intro hk
      rw [ih (by omega)]
      show _ = (match am_any k c || c k with | true => T | false => P (k + 1))
      cases am_any k c with
      | true => rfl
      | false => exact h1 k (by omega)
  rw [h3 n (Nat.le_refl n), h2]
theorem am_sub_r1 : am_sub 1000000000 (-1) = 1000000001 := by rw [am_sub_ok (by omega) (by omega)]; rfl
def v_oth (V : am_Vw) (p : Int) : Bool := am_any (vP V).toNat (fun t => !decide ((t : Int) = am_lk (vO V) 16 p) && v_take V p (t : Int))
def v_stuck (V : am_Vw) (n : Nat) : Nat := am_bits n (fun p => decide (vT V p = 0) && !v_oth V (p : Int))
def a_stuck (V : am_Vw) : am_V × Nat := (Sum.inl ((v_stuck V (vQ V).toNat : Nat) : Int), 0)
theorem v_stuck_s {V : am_Vw} {k : Nat} (hk : k < 30) : ((v_stuck V (k + 1) : Nat) : Int) = if (decide (vT V k = 0) && !v_oth V (k : Int)) = true then am_or ((v_stuck V k : Nat) : Int) (am_shl 1 (k : Int)) else ((v_stuck V k : Nat) : Int) := by
  have h1 := am_bits_lt (n := k) (c := fun p => decide (vT V p = 0) && !v_oth V (p : Int))
  have h2 : 2 ^ k ≤ 2 ^ 30 := Nat.pow_le_pow_right (by omega) (by omega)
  cases hc : (decide (vT V k = 0) && !v_oth V (k : Int)) with
  | true =>
    rw [if_pos rfl, am_shl1 (by omega)]
    have e := am_or_ok (a := v_stuck V k) (b := 2 ^ k) (by unfold v_stuck; omega) (by omega)
    rw [e]
    unfold v_stuck
    rw [am_bits_or (c := fun p => decide (vT V p = 0) && !v_oth V (p : Int)) hc]
  | false =>
    rw [if_neg (by simp)]
    show ((am_bits k _ + (bif (decide (vT V k = 0) && !v_oth V (k : Int)) then 2 ^ k else 0) : Nat) : Int) = _
    rw [hc]; rfl
def v_looks (n : Int) : Nat := match am_fst (fun k => decide (n + 1 ≤ ((2 ^ k : Nat) : Int))) 7 0 with
  | some k => k
  | none => 7
def a_looks (n : Int) : am_V × Nat := if n < 0 then (Sum.inl (-4), 4) else if 99 < n then (Sum.inl (-6), 6) else (Sum.inl ((v_looks n : Nat) : Int), 0)
def v_best (V : am_Vw) (b : Int) (n : Nat) : Int × Int := am_for (fun k s => if s.2 < (if (k : Int) = b then 0 else v_gain V b (k : Int)) then ((k : Int), if (k : Int) = b then 0 else v_gain V b (k : Int)) else s) n (-9, 0)
def a_bestBuy (V : am_Vw) (b : Int) : am_V × Nat := if v_isP V b = false then (Sum.inl (-1), 1) else (Sum.inl (v_best V b (vP V).toNat).1, 0)
theorem v_best_s {V : am_Vw} {b : Int} {k : Nat} : v_best V b (k + 1) = if (v_best V b k).2 < (if (k : Int) = b then 0 else v_gain V b (k : Int)) then ((k : Int), if (k : Int) = b then 0 else v_gain V b (k : Int)) else v_best V b k := rfl
theorem v_gain_0 {V : am_Vw} {b d : Int} (hs : v_shuns V b d = true) : v_gain V b d = 0 := by
  unfold v_gain
  rw [hs]
  simp only [reduceCtorEq, and_false, if_false]
  exact am_sumb_0
theorem v_two_iff {V : am_Vw} {i j : Int} : v_two V i j = true ↔ (0 ≤ i ∧ i < vP V) ∧ (0 ≤ j ∧ j < vP V) ∧ ¬ i = j := by
  unfold v_two
  rw [Bool.and_eq_true, Bool.and_eq_true, v_isP_iff, v_isP_iff]
  simp [and_assoc]
