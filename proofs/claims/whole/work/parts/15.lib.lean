/-! PURE ROWS: numbers, bits, loops -/
theorem am_add_ok {x y : Int} (h1 : -2147483648 ≤ x + y) (h2 : x + y ≤ 2147483647) : am_add x y = x + y := by
  unfold am_add
  rw [← Int32.ofInt_add, am_to32 ⟨h1, h2⟩]
theorem am_sub_ok {x y : Int} (h1 : -2147483648 ≤ x - y) (h2 : x - y ≤ 2147483647) : am_sub x y = x - y := by
  unfold am_sub
  rw [← Int32.ofInt_sub, am_to32 ⟨h1, h2⟩]
theorem am_mul_ok {x y : Int} (h1 : -2147483648 ≤ x * y) (h2 : x * y ≤ 2147483647) : am_mul x y = x * y := by
  unfold am_mul
  rw [← Int32.ofInt_mul, am_to32 ⟨h1, h2⟩]
theorem am_neg_ok {x : Int} (h1 : -2147483647 ≤ x) (h2 : x ≤ 2147483647) : am_neg x = -x := by
  unfold am_neg
  rw [← Int32.ofInt_neg, am_to32 ⟨by omega, by omega⟩]
theorem am_div_ok {x y : Int} (h1 : 0 ≤ x) (h2 : x ≤ 2147483647) (h3 : 0 < y) (h4 : y ≤ 2147483647) : am_div x y = x / y := by
  unfold am_div
  have hx := am_to32 (z := x) ⟨by omega, h2⟩
  have hy := am_to32 (z := y) ⟨by omega, h4⟩
  rw [Jvm.Kit.i32_div (by rw [hx, hy]; omega), hx, hy, Int.tdiv_eq_ediv_of_nonneg h1]
theorem am_rem_ok {x y : Int} (h1 : 0 ≤ x) (h2 : x ≤ 2147483647) (h3 : 0 < y) (h4 : y ≤ 2147483647) : am_rem x y = x % y := by
  have hd := am_div_ok h1 h2 h3 h4
  unfold am_div at hd
  have e : Int32.ofInt x / Int32.ofInt y = Int32.ofInt (x / y) := by rw [← hd, Int32.ofInt_toInt]
  unfold am_rem
  have h5 : x / y * y + x % y = x := Int.ediv_mul_add_emod x y
  have h6 := Int.emod_nonneg x (by omega : y ≠ 0)
  have h7 := Int.emod_lt_of_pos x h3
  rw [e, ← Int32.ofInt_mul, ← Int32.ofInt_sub, am_to32 ⟨by omega, by omega⟩]
  omega
theorem am_and_ok {a b : Nat} (ha : a < 2147483648) (hb : b < 2147483648) : am_and (a : Int) (b : Int) = ((a &&& b : Nat) : Int) := by
  have e : Int32.ofInt (a : Int) &&& Int32.ofInt (b : Int) = Int32.ofInt ((a &&& b : Nat) : Int) := Int32.toBitVec.inj (by simp [BitVec.ofNat_and])
  have h1 : a &&& b ≤ a := Nat.and_le_left
  unfold am_and
  rw [e, am_to32 ⟨by omega, by omega⟩]
theorem am_or_ok {a b : Nat} (ha : a < 2147483648) (hb : b < 2147483648) : am_or (a : Int) (b : Int) = ((a ||| b : Nat) : Int) := by
  have e : Int32.ofInt (a : Int) ||| Int32.ofInt (b : Int) = Int32.ofInt ((a ||| b : Nat) : Int) := Int32.toBitVec.inj (by simp [BitVec.ofNat_or])
  have h1 : a ||| b < 2 ^ 31 := Nat.or_lt_two_pow (by omega) (by omega)
  unfold am_or
  rw [e, am_to32 ⟨by omega, by omega⟩]
theorem am_xor_ok {a b : Nat} (ha : a < 2147483648) (hb : b < 2147483648) : am_xor (a : Int) (b : Int) = ((a ^^^ b : Nat) : Int) := by
  have e : Int32.ofInt (a : Int) ^^^ Int32.ofInt (b : Int) = Int32.ofInt ((a ^^^ b : Nat) : Int) := Int32.toBitVec.inj (by simp [BitVec.ofNat_xor])
  have h1 : a ^^^ b < 2 ^ 31 := Nat.xor_lt_two_pow (by omega) (by omega)
  unfold am_xor
  rw [e, am_to32 ⟨by omega, by omega⟩]
theorem am_shl_ok {a k : Nat} (hk : k < 31) (ha : a * 2 ^ k < 2147483648) : am_shl (a : Int) (k : Int) = ((a * 2 ^ k : Nat) : Int) := by
  have h1 : ∀ k : Nat, k < 31 → ((Int32.ofInt (k : Int) &&& 31).toBitVec.smod 32).toNat = k := by decide +kernel
  have hp : 0 < 2 ^ k := Nat.two_pow_pos k
  have ha2 : a ≤ a * 2 ^ k := Nat.le_mul_of_pos_right a hp
  have hx := am_to32 (z := (a : Int)) ⟨by omega, by omega⟩
  have e : ((a * 2 ^ k : Nat) : Int) = (a : Int) * 2 ^ k := by push_cast; rfl
  unfold am_shl
  rw [Jvm.Kit.i32_shl (k := k) _ _ (h1 k hk) (by rw [hx, ← e]; omega) (by rw [hx, ← e]; omega), hx, e]
theorem am_shr_ok {a k : Nat} (hk : k < 31) (ha : a < 2147483648) : am_shr (a : Int) (k : Int) = ((a / 2 ^ k : Nat) : Int) := by
  have h1 : ∀ k : Nat, k < 31 → ((Int32.ofInt (k : Int) &&& 31).toBitVec.smod 32).toNat = k := by decide +kernel
  have hx := am_to32 (z := (a : Int)) ⟨by omega, by omega⟩
  unfold am_shr
  rw [Jvm.Kit.i32_shr (k := k) _ _ (h1 k hk), hx]
  push_cast
  rfl
/-- a Boolean as an int -/
def am_bi (b : Bool) : Int := match b with | true => 1 | false => 0
theorem am_bi0 {b : Bool} : (am_bi b = 0) = (b = false) := by cases b <;> simp [am_bi]
theorem am_bi01 {b : Bool} : (am_bi b = 0 ∨ am_bi b = 1) = True := by cases b <;> simp [am_bi]
/-- a loop that counts -/
def am_for {α : Type} (f : Nat → α → α) : Nat → α → α
  | 0, a => a
  | n + 1, a => f n (am_for f n a)
theorem am_for_eq {α : Type} {n : Nat} (f : Nat → α → α) (I : Nat → α → Prop) (P : Nat → α → Prop) (E : α → Prop) (a : α) (h0 : I 0 a) (h1 : ∀ k a, k < n → I k a → P k a = P (k + 1) (f k a) ∧ I (k + 1) (f k a)) (h2 : ∀ a, I n a → P n a = E a) : P 0 a = E (am_for f n a) := by
  have key : ∀ k, k ≤ n → P 0 a = P k (am_for f k a) ∧ I k (am_for f k a) := by
    intro k
    induction k with
    | zero => exact fun _ => ⟨rfl, h0⟩
    | succ k ih =>
      intro hk
      obtain ⟨e1, e2⟩ := ih (by omega)
      obtain ⟨e3, e4⟩ := h1 k _ (by omega) e2
      exact ⟨e1.trans e3, e4⟩
  obtain ⟨e1, e2⟩ := key n (Nat.le_refl n)
  exact e1.trans (h2 _ e2)
/-- the first number below n for which something holds -/
def am_fst (c : Nat → Bool) : Nat → Nat → Option Nat
  | 0, _ => none
  | n + 1, k => match c k with
    | true => some k
    | false => am_fst c n (k + 1)
theorem am_fst_eq {n : Nat} (c : Nat → Bool) (P : Nat → Prop) (Rt : Nat → Prop) (E : Prop) (h1 : ∀ k, k < n → P k = (match c k with | true => Rt k | false => P (k + 1))) (h2 : P n = E) : P 0 = (match am_fst c n 0 with | some k => Rt k | none => E) := by
  have key : ∀ m k, k + m = n → P k = (match am_fst c m k with | some k => Rt k | none => E) := by
    intro m
    induction m with
    | zero =>
      intro k hk
      rw [show k = n by omega, h2]
      rfl
    | succ m ih =>
      intro k hk
      rw [h1 k (by omega)]
      unfold am_fst
      cases hc : c k with
      | true => rfl
      | false => exact ih (k + 1) (by omega)
  exact key n 0 (by omega)
/-- looks at an array, puts into it, with nothing outside it -/
def am_lk (f : Nat → Int) (n : Nat) (i : Int) : Int := if 0 ≤ i ∧ i < (n : Int) then f i.toNat else 0
def am_put (h : Nat → Nat → Int) (a n : Nat) (i v : Int) : Nat → Nat → Int := if 0 ≤ i ∧ i < (n : Int) then am_up h a i.toNat v else h
def am_fill (h : Nat → Nat → Int) (a n : Nat) (v : Int) : Nat → Nat → Int := fun b j => if b = a then (if j < n then v else h b j) else h b j
def am_cpy (h : Nat → Nat → Int) (a b n : Nat) : Nat → Nat → Int := fun c j => if c = b then (if j < n then h a j else h c j) else h c j
def am_has (x i : Int) : Bool := decide (0 ≤ i ∧ i < 31 ∧ ¬ am_and (am_shr x i) 1 = 0)
theorem am_fill_0 (h : Nat → Nat → Int) (a : Nat) (v : Int) : am_fill h a 0 v = h := by
  funext b j
  unfold am_fill
  by_cases h1 : b = a
  · rw [if_pos h1, if_neg (by omega)]
  · rw [if_neg h1]
theorem am_fill_s (h : Nat → Nat → Int) (a n : Nat) (v : Int) : am_up (am_fill h a n v) a n v = am_fill h a (n + 1) v := by
  funext b j
  unfold am_up am_fill
  by_cases h1 : b = a
  · rw [if_pos h1]
    by_cases h2 : j = n
    · rw [if_pos h2, if_pos h1, if_pos (show j < n + 1 by omega)]
    · rw [if_neg h2, if_pos h1, if_pos h1]
      by_cases h3 : j < n
      · rw [if_pos h3, if_pos (show j < n + 1 by omega)]
      · rw [if_neg h3, if_neg (show ¬ j < n + 1 by omega)]
  · rw [if_neg h1, if_neg h1, if_neg h1]
theorem am_cpy_0 (h : Nat → Nat → Int) (a b : Nat) : am_cpy h a b 0 = h := by
  funext c j
  unfold am_cpy
  by_cases h1 : c = b
  · rw [if_pos h1, if_neg (by omega)]
  · rw [if_neg h1]
theorem am_cpy_s (h : Nat → Nat → Int) (a b : Nat) (hab : a ≠ b) (n : Nat) : am_up (am_cpy h a b n) b n (am_cpy h a b n a n) = am_cpy h a b (n + 1) := by
  funext c j
  have e : am_cpy h a b n a n = h a n := by
    unfold am_cpy
    rw [if_neg hab]
  rw [e]
  unfold am_up am_cpy
  by_cases h1 : c = b
  · rw [if_pos h1]
    by_cases h2 : j = n
    · rw [if_pos h2, if_pos h1, if_pos (show j < n + 1 by omega), h2]
    · rw [if_neg h2, if_pos h1, if_pos h1]
      by_cases h3 : j < n
      · rw [if_pos h3, if_pos (show j < n + 1 by omega)]
      · rw [if_neg h3, if_neg (show ¬ j < n + 1 by omega)]
  · rw [if_neg h1, if_neg h1, if_neg h1]
