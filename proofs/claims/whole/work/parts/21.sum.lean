/-! SUMS, SETS OF BITS: what loops come to -/
def am_sumb : Nat → (Nat → Int) → Int
  | 0, _ => 0
  | n + 1, g => am_sumb n g + g n
theorem am_sumb_le {n : Nat} {g : Nat → Int} {A B : Int} (hg : ∀ k, k < n → A ≤ g k ∧ g k ≤ B) : (n : Int) * A ≤ am_sumb n g ∧ am_sumb n g ≤ (n : Int) * B := by
  induction n with
  | zero => exact ⟨by simp [am_sumb], by simp [am_sumb]⟩
  | succ n ih =>
    have h1 := ih (fun k hk => hg k (by omega))
    have h2 := hg n (by omega)
    have e1 : ((n + 1 : Nat) : Int) * A = (n : Int) * A + A := by push_cast; rw [Int.add_mul, Int.one_mul]
    have e2 : ((n + 1 : Nat) : Int) * B = (n : Int) * B + B := by push_cast; rw [Int.add_mul, Int.one_mul]
    have e3 : am_sumb (n + 1) g = am_sumb n g + g n := rfl
    omega
theorem am_sumb_eq {n : Nat} {g f : Nat → Int} (hg : ∀ k, k < n → g k = f k) : am_sumb n g = am_sumb n f := by
  induction n with
  | zero => rfl
  | succ n ih =>
    show am_sumb n g + g n = am_sumb n f + f n
    rw [ih (fun k hk => hg k (by omega)), hg n (by omega)]
theorem am_sumb_0 {n : Nat} : am_sumb n (fun _ => 0) = 0 := by
  induction n with
  | zero => rfl
  | succ n ih => show am_sumb n (fun _ => 0) + 0 = 0; omega
theorem am_sumb_add {n : Nat} {g f : Nat → Int} : am_sumb n (fun k => g k + f k) = am_sumb n g + am_sumb n f := by
  induction n with
  | zero => rfl
  | succ n ih =>
    show am_sumb n (fun k => g k + f k) + (g n + f n) = am_sumb n g + g n + (am_sumb n f + f n)
    omega
theorem am_sumb_sub {n : Nat} {g f : Nat → Int} : am_sumb n (fun k => g k - f k) = am_sumb n g - am_sumb n f := by
  induction n with
  | zero => rfl
  | succ n ih =>
    show am_sumb n (fun k => g k - f k) + (g n - f n) = am_sumb n g + g n - (am_sumb n f + f n)
    omega
theorem am_sumb_swap {n m : Nat} {g : Nat → Nat → Int} : am_sumb n (fun i => am_sumb m (fun j => g i j)) = am_sumb m (fun j => am_sumb n (fun i => g i j)) := by
  induction n with
  | zero => exact am_sumb_0.symm
  | succ n ih =>
    show am_sumb n (fun i => am_sumb m (fun j => g i j)) + am_sumb m (fun j => g n j) = am_sumb m (fun j => am_sumb n (fun i => g i j) + g n j)
    rw [ih, am_sumb_add]
/-- just one place counts -/
theorem am_sumb_one {n i : Nat} {x : Int} (hi : i < n) : am_sumb n (fun k => if k = i then x else 0) = x := by
  induction n with
  | zero => omega
  | succ n ih =>
    show am_sumb n (fun k => if k = i then x else 0) + (if n = i then x else 0) = x
    by_cases h1 : n = i
    · rw [if_pos h1, am_sumb_eq (f := fun _ => 0) (fun k hk => if_neg (by omega)), am_sumb_0]; omega
    · rw [if_neg h1, ih (by omega)]; omega
theorem am_for_ext {α : Type} {n : Nat} {f g : Nat → α → α} {a : α} (hf : ∀ k a, k < n → f k a = g k a) : am_for f n a = am_for g n a := by
  induction n with
  | zero => rfl
  | succ n ih =>
    show f n (am_for f n a) = g n (am_for g n a)
    rw [ih (fun k a hk => hf k a (by omega)), hf n _ (by omega)]
theorem am_for_ind {α : Type} {n : Nat} {f : Nat → α → α} {a : α} (I : Nat → α → Prop) (h0 : I 0 a) (h1 : ∀ k a, k < n → I k a → I (k + 1) (f k a)) : I n (am_for f n a) := by
  induction n with
  | zero => exact h0
  | succ n ih => exact h1 n _ (by omega) (ih (fun k a hk => h1 k a (by omega)))
/-- sums of ints with little in each -/
theorem am_for_sum {n : Nat} {g : Nat → Int} {f : Nat → Int → Int} (B : Int) (hB : 0 ≤ B) (hn : (n : Int) * B ≤ 2147483647) (hg : ∀ k, k < n → -B ≤ g k ∧ g k ≤ B) (hf : ∀ k s, k < n → am_i32 s → am_i32 (s + g k) → f k s = s + g k) : am_for f n 0 = am_sumb n g := by
  have key := am_for_ind (n := n) (f := f) (a := 0) (fun k s => s = am_sumb k g ∧ -(k * B) ≤ s ∧ s ≤ k * B) ⟨rfl, by simp, by simp⟩ (fun k s hk hs => by
    have h2 := hg k hk
    have e1 : ((k + 1 : Nat) : Int) * B = (k : Int) * B + B := by push_cast; rw [Int.add_mul, Int.one_mul]
    have e2 : ((k + 1 : Nat) : Int) * B ≤ (n : Int) * B := Int.mul_le_mul_of_nonneg_right (by omega) hB
    have e3 : am_sumb (k + 1) g = am_sumb k g + g k := rfl
    have e4 := hf k s hk ⟨by omega, by omega⟩ ⟨by omega, by omega⟩
    rw [e4]
    exact ⟨by omega, by omega, by omega⟩)
  exact key.1
theorem am_add_i {s x : Int} (h : am_i32 (s + x)) : am_add s x = s + x := am_add_ok h.1 h.2
/-- the set of those below n for which something holds, as a number -/
def am_bits : Nat → (Nat → Bool) → Nat
  | 0, _ => 0
  | n + 1, c => am_bits n c + (bif c n then 2 ^ n else 0)
theorem am_bits_lt {n : Nat} {c : Nat → Bool} : am_bits n c < 2 ^ n := by
  induction n with
  | zero => exact Nat.one_pos
  | succ n ih =>
    show am_bits n c + (bif c n then 2 ^ n else 0) < 2 ^ (n + 1)
    rw [Nat.pow_succ]
    cases c n with
    | true => show am_bits n c + 2 ^ n < _; omega
    | false => show am_bits n c + 0 < _; omega
theorem am_bits_tb {n i : Nat} {c : Nat → Bool} : Nat.testBit (am_bits n c) i = (decide (i < n) && c i) := by
  induction n with
  | zero => show Nat.testBit 0 i = _; simp
  | succ n ih =>
    show Nat.testBit (am_bits n c + (bif c n then 2 ^ n else 0)) i = _
    cases hc : c n with
    | true =>
      show Nat.testBit (am_bits n c + 2 ^ n) i = _
      rw [Nat.add_comm]
      by_cases h1 : i = n
      · rw [h1, Nat.testBit_two_pow_add_eq, Nat.testBit_lt_two_pow am_bits_lt, hc]; simp
      · by_cases h2 : i < n
        · rw [Nat.testBit_two_pow_add_gt h2, ih, decide_eq_true h2, decide_eq_true (show i < n + 1 by omega)]
        · rw [decide_eq_false (show ¬ i < n + 1 by omega)]
          have h3 : 2 ^ n + am_bits n c < 2 ^ i := by
            have h4 : 2 ^ (n + 1) ≤ 2 ^ i := Nat.pow_le_pow_right (by omega) (by omega)
            have h5 := am_bits_lt (n := n) (c := c)
            rw [Nat.pow_succ] at h4
            omega
          rw [Nat.testBit_lt_two_pow h3]; rfl
    | false =>
      show Nat.testBit (am_bits n c + 0) i = _
      rw [Nat.add_zero, ih]
      by_cases h1 : i = n
      · rw [h1, hc]; simp
      · by_cases h2 : i < n
        · rw [decide_eq_true h2, decide_eq_true (show i < n + 1 by omega)]
        · rw [decide_eq_false h2, decide_eq_false (show ¬ i < n + 1 by omega)]
theorem am_bits_or {n : Nat} {c : Nat → Bool} (hc : c n = true) : am_bits n c ||| 2 ^ n = am_bits (n + 1) c := by
  apply Nat.eq_of_testBit_eq
  intro i
  rw [Nat.testBit_or, am_bits_tb, am_bits_tb, Nat.testBit_two_pow]
  by_cases h1 : n = i
  · rw [← h1, hc]; simp
  · by_cases h2 : i < n
    · rw [decide_eq_true h2, decide_eq_true (show i < n + 1 by omega), decide_eq_false h1]; simp
    · rw [decide_eq_false h2, decide_eq_false (show ¬ i < n + 1 by omega), decide_eq_false h1]; simp
theorem am_shl1 {k : Nat} (hk : k < 31) : am_shl 1 (k : Int) = ((2 ^ k : Nat) : Int) := by
  have h1 : 2 ^ k ≤ 2 ^ 30 := Nat.pow_le_pow_right (by omega) (by omega)
  have := am_shl_ok (a := 1) (k := k) hk (by omega)
  rw [show ((1 : Nat) : Int) = 1 from rfl, Nat.one_mul] at this
  exact this
theorem am_for_bits {n : Nat} {c : Nat → Bool} {f : Nat → Int → Int} (hn : n ≤ 31) (hf : ∀ k (s : Nat), k < n → s < 2 ^ k → f k (s : Int) = if c k = true then am_or (s : Int) (am_shl 1 (k : Int)) else (s : Int)) : am_for f n 0 = ((am_bits n c : Nat) : Int) := by
  have key := am_for_ind (n := n) (f := f) (a := 0) (fun k s => s = ((am_bits k c : Nat) : Int)) rfl (fun k s hk hs => by
    have h1 := am_bits_lt (n := k) (c := c)
    have h2 : 2 ^ k ≤ 2 ^ 30 := Nat.pow_le_pow_right (by omega) (by omega)
    rw [hs, hf k _ hk h1]
    cases hc : c k with
    | true =>
      rw [if_pos rfl, am_shl1 (by omega), am_or_ok (by omega) (by omega), am_bits_or hc]
    | false =>
      rw [if_neg (by simp)]
      show _ = ((am_bits k c + (bif c k then 2 ^ k else 0) : Nat) : Int)
      rw [hc]; rfl)
  exact key
/-- all bits of some numbers -/
def am_orb : Nat → (Nat → Nat) → Nat
  | 0, _ => 0
  | n + 1, g => am_orb n g ||| g n
theorem am_orb_lt {n m : Nat} {g : Nat → Nat} (hg : ∀ k, k < n → g k < 2 ^ m) : am_orb n g < 2 ^ m := by
  induction n with
  | zero => exact Nat.two_pow_pos m
  | succ n ih => exact Nat.or_lt_two_pow (ih (fun k hk => hg k (by omega))) (hg n (by omega))
theorem am_orb_eq {n : Nat} {g f : Nat → Nat} (hg : ∀ k, k < n → g k = f k) : am_orb n g = am_orb n f := by
  induction n with
  | zero => rfl
  | succ n ih => show am_orb n g ||| g n = am_orb n f ||| f n; rw [ih (fun k hk => hg k (by omega)), hg n (by omega)]
theorem am_orb_tb {n i : Nat} {g : Nat → Nat} : Nat.testBit (am_orb n g) i = true ↔ ∃ k, k < n ∧ Nat.testBit (g k) i = true := by
  induction n with
  | zero => show Nat.testBit 0 i = true ↔ _; simp
  | succ n ih =>
    show Nat.testBit (am_orb n g ||| g n) i = true ↔ _
    rw [Nat.testBit_or, Bool.or_eq_true, ih]
    constructor
    · rintro (⟨k, h1, h2⟩ | h2)
      · exact ⟨k, by omega, h2⟩
      · exact ⟨n, by omega, h2⟩
    · rintro ⟨k, h1, h2⟩
      by_cases h3 : k = n
      · rw [h3] at h2; exact Or.inr h2
      · exact Or.inl ⟨k, by omega, h2⟩
theorem am_for_orb {n : Nat} {g : Nat → Nat} {f : Nat → Int → Int} (hg : ∀ k, k < n → g k < 2 ^ 31) (hf : ∀ k (s : Nat), k < n → s < 2 ^ 31 → f k (s : Int) = am_or (s : Int) ((g k : Nat) : Int)) : am_for f n 0 = ((am_orb n g : Nat) : Int) := by
  have key := am_for_ind (n := n) (f := f) (a := 0) (fun k s => s = ((am_orb k g : Nat) : Int)) rfl (fun k s hk hs => by
    have h1 := am_orb_lt (n := k) (m := 31) (g := g) (fun j hj => hg j (by omega))
    have h2 := hg k hk
    rw [hs, hf k _ hk h1, am_or_ok (by omega) (by omega)]
    rfl)
  exact key
/-! what both answer, over a World -/
theorem v_open_nat {V : am_Vw} (hv : v_ok V) {p : Nat} (hp : (p : Int) < vQ V) : v_open V (p : Int) = decide (vT V p = 0) := by
  have hQ := v_ok_Q hv
  unfold v_open
  rw [v_isQ_iff.2 ⟨by omega, hp⟩, am_lk_nat (by omega), Bool.true_and]
theorem v_later_le {V : am_Vw} (hv : v_ok V) {p : Nat} (hp : p < 16) : 0 ≤ v_later V (p : Int) ∧ v_later V (p : Int) ≤ vN V p := by
  have h1 := v_ok_p hv p hp
  have hD := v_ok_D hv
  have hm : ∀ z : Int, 0 ≤ am_max 0 z ∧ (am_max 0 z ≤ z ∨ am_max 0 z = 0) := fun z => by
    unfold am_max
    by_cases h2 : 0 < z
    · rw [if_pos h2]; omega
    · rw [if_neg h2]; omega
  have hi : ∀ z : Int, am_min 100 z ≤ 100 ∧ (am_min 100 z = 100 ∨ am_min 100 z = z) := fun z => by
    unfold am_min
    by_cases h2 : z < 100
    · rw [if_pos h2]; omega
    · rw [if_neg h2]; omega
  unfold v_later
  rw [am_lk_nat hp, am_lk_nat hp, am_sub_ok (x := vE V p) (by omega) (by omega)]
  have h3 := hm (vE V p - vD V)
  rw [am_mul_ok (x := 2) (by omega) (by omega)]
  have h4 := hi (2 * am_max 0 (vE V p - vD V))
  have h5 : 0 ≤ vN V p * am_min 100 (2 * am_max 0 (vE V p - vD V)) := Int.mul_nonneg (by omega) (by omega)
  have h6 : vN V p * am_min 100 (2 * am_max 0 (vE V p - vD V)) ≤ vN V p * 100 := Int.mul_le_mul_of_nonneg_left (by omega) (by omega)
  rw [am_mul_ok (x := vN V p) (by omega) (by omega), am_div_ok (by omega) (by omega) (by omega) (by omega), am_sub_ok (by omega) (by omega)]
  omega
theorem v_worth_le {V : am_Vw} (hv : v_ok V) {p : Nat} (hp : p < 16) : 0 ≤ v_worth V (p : Int) ∧ v_worth V (p : Int) ≤ vN V p := by
  have h1 := v_ok_p hv p hp
  have h2 := v_later_le hv hp
  have h3 := v_ok_i hv (vO V p).toNat (by omega)
  have e2 := am_div_ok (x := v_later V (p : Int)) (y := 2) (by omega) (by omega) (by omega) (by omega)
  have e10 := am_div_ok (x := vN V p) (y := 10) (by omega) (by omega) (by omega) (by omega)
  have es := am_sub_ok (x := vN V p) (y := vN V p / 10) (by omega) (by omega)
  have ef := am_sub_ok (x := v_later V (p : Int)) (y := vF V (vO V p).toNat) (by omega) (by omega)
  unfold v_worth
  rw [am_lk_nat hp, am_lk_nat hp, am_lk_nat hp, am_lk_in (f := vF V) (by omega) (by omega), e2, e10, es, ef]
  unfold am_max
  (repeat' split) <;> omega
theorem am_up_eq {n : Nat} (P : Nat → Prop) (E : Prop) (h1 : ∀ k, k < n → P k = P (k + 1)) (h2 : P n = E) : P 0 = E := by
  have key : ∀ k, k ≤ n → P 0 = P k := by
    intro k
    induction k with
    | zero => exact fun _ => rfl
    | succ k ih => exact fun hk => (ih (by omega)).trans (h1 k (by omega))
  exact (key n (Nat.le_refl n)).trans h2
theorem wv_p {h : Nat → Nat → Int} (hv : v_ok (am_wv h 2)) (p : Nat) (hp : p < 16) : (0 ≤ h 7 p ∧ h 7 p ≤ 6) ∧ (0 ≤ h 8 p ∧ h 8 p ≤ 6) ∧ (0 ≤ h 9 p ∧ h 9 p ≤ 40) ∧ (0 ≤ h 10 p ∧ h 10 p ≤ 98) ∧ (0 ≤ h 11 p ∧ h 11 p ≤ 1) ∧ (0 ≤ h 12 p ∧ h 12 p ≤ 3) := v_ok_p hv p hp
theorem wv_i {h : Nat → Nat → Int} (hv : v_ok (am_wv h 2)) (i : Nat) (hi : i < 7) : (0 ≤ h 3 i ∧ h 3 i ≤ 5) ∧ (0 ≤ h 4 i ∧ h 4 i ≤ 9) ∧ am_i32 (h 5 i) ∧ (0 ≤ h 6 i ∧ h 6 i ≤ 127) := v_ok_i hv i hi
theorem wv_q {h : Nat → Nat → Int} (hv : v_ok (am_wv h 2)) (p : Nat) (hp : (p : Int) < h 2 1) : h 7 p < h 2 0 ∧ h 8 p < h 2 0 ∧ 1 ≤ h 9 p := v_ok_q hv p hp
theorem wv_P {h : Nat → Nat → Int} (hv : v_ok (am_wv h 2)) : 0 ≤ h 2 0 ∧ h 2 0 ≤ 7 := hv.1
theorem wv_Q {h : Nat → Nat → Int} (hv : v_ok (am_wv h 2)) : 0 ≤ h 2 1 ∧ h 2 1 ≤ 16 := hv.2.1
theorem wv_D {h : Nat → Nat → Int} (hv : v_ok (am_wv h 2)) : 0 ≤ h 2 2 ∧ h 2 2 ≤ 99 := hv.2.2.1
theorem wv_w {h : Nat → Nat → Int} (hv : v_ok (am_wv h 2)) (p : Nat) (hp : p < 16) : 0 ≤ v_worth (am_wv h 2) (p : Int) ∧ v_worth (am_wv h 2) (p : Int) ≤ h 9 p := v_worth_le hv hp
theorem mv_w {h : Nat → Nat → Int} (hv : v_ok (am_mv h)) (p : Nat) (hp : p < 16) : 0 ≤ v_worth (am_mv h) (p : Int) ∧ v_worth (am_mv h) (p : Int) ≤ h 77 p := v_worth_le hv hp
theorem am_sumb_s {n : Nat} {g : Nat → Int} : am_sumb (n + 1) g = am_sumb n g + g n := rfl
def v_ps (V : am_Vw) (g : Nat → Int) : Int := am_sumb (vQ V).toNat g
def v_purse (V : am_Vw) (i : Int) : Int := am_sumb (vQ V).toNat (fun p => if vH V p = i then v_worth V (p : Int) else 0)
def v_owes (V : am_Vw) (a b : Int) : Int := am_sumb (vQ V).toNat (fun p => if vT V p = 0 ∧ vO V p = a ∧ vH V p = b then vN V p else 0)
def v_net (V : am_Vw) (i : Int) : Int := am_sumb (vP V).toNat (fun o => v_owes V (o : Int) i - v_owes V i (o : Int))
def v_heirs (V : am_Vw) (i : Int) : Int := am_sumb (vQ V).toNat (fun p => if vO V p = i then v_worth V (p : Int) else 0)
def v_opens (V : am_Vw) : Int := am_sumb (vQ V).toNat (fun p => if vT V p = 0 then 1 else 0)
theorem v_owes_le {V : am_Vw} (hv : v_ok V) (a b : Int) : 0 ≤ v_owes V a b ∧ v_owes V a b ≤ 640 := by
  have hQ := v_ok_Q hv
  have h1 := am_sumb_le (n := (vQ V).toNat) (g := fun p => if vT V p = 0 ∧ vO V p = a ∧ vH V p = b then vN V p else 0) (A := 0) (B := 40) (fun k hk => by
    have h2 := v_ok_p hv k (by omega)
    show 0 ≤ (if vT V k = 0 ∧ vO V k = a ∧ vH V k = b then vN V k else 0) ∧ (if vT V k = 0 ∧ vO V k = a ∧ vH V k = b then vN V k else 0) ≤ 40
    split <;> omega)
  unfold v_owes
  omega
theorem am_dn_eq {J : Type} {n : Nat} (P : Nat → J → Prop) (E : Prop) (h1 : ∀ k, k < n → (∀ j, P (k + 1) j = E) → ∀ j, P k j = E) (h2 : ∀ j, P n j = E) : ∀ j, P 0 j = E := by
  have key : ∀ m k, k + m = n → ∀ j, P k j = E := by
    intro m
    induction m with
    | zero => intro k hk; rw [show k = n by omega]; exact h2
    | succ m ih => intro k hk; exact h1 k (by omega) (ih (k + 1) (by omega))
  exact key n 0 (by omega)
def am_An (L c : Nat) (a : am_V × Nat) (h : Nat → Nat → Int) (W : (Option am_V → am_H → Prop) → Prop) : Prop := ∀ Q : Option am_V → am_H → Prop, (∀ g kq, am_keep h g → Q (some a.1) (am_SH L, am_bump c a.2 g, am_RR kq)) → W Q
theorem v_heirs_le {V : am_Vw} (hv : v_ok V) (i : Int) : 0 ≤ v_heirs V i ∧ v_heirs V i ≤ 640 := by
  have hQ := v_ok_Q hv
  have h1 := am_sumb_le (n := (vQ V).toNat) (g := fun p => if vO V p = i then v_worth V (p : Int) else 0) (A := 0) (B := 40) (fun k hk => by
    have h2 := v_ok_p hv k (by omega)
    have h3 := v_worth_le hv (p := k) (by omega)
    show 0 ≤ (if vO V k = i then v_worth V (k : Int) else 0) ∧ (if vO V k = i then v_worth V (k : Int) else 0) ≤ 40
    split <;> omega)
  unfold v_heirs
  omega
theorem v_purse_le {V : am_Vw} (hv : v_ok V) (i : Int) : 0 ≤ v_purse V i ∧ v_purse V i ≤ 640 := by
  have hQ := v_ok_Q hv
  have h1 := am_sumb_le (n := (vQ V).toNat) (g := fun p => if vH V p = i then v_worth V (p : Int) else 0) (A := 0) (B := 40) (fun k hk => by
    have h2 := v_ok_p hv k (by omega)
    have h3 := v_worth_le hv (p := k) (by omega)
    show 0 ≤ (if vH V k = i then v_worth V (k : Int) else 0) ∧ (if vH V k = i then v_worth V (k : Int) else 0) ≤ 40
    split <;> omega)
  unfold v_purse
  omega
/-! what the calls answer, and the number of the refusal (0: none) -/
def a_person (V : am_Vw) (i w : Int) : am_V × Nat := if v_isP V i = false then (Sum.inl (-1), 1) else if w = 0 then (Sum.inl (am_lk (vK V) 7 i), 0) else if w = 1 then (Sum.inl (am_lk (vF V) 7 i), 0) else if w = 2 then (Sum.inl (am_lk (vS V) 7 i), 0) else if w = 3 then (Sum.inl (v_purse V i), 0) else if w = 4 then (Sum.inl (am_lk (vU V) 7 i), 0) else (Sum.inl (-2), 2)
def a_paper (V : am_Vw) (p w : Int) : am_V × Nat := if v_isQ V p = false then (Sum.inl (-1), 1) else if w = 0 then (Sum.inl (am_lk (vO V) 16 p), 0) else if w = 1 then (Sum.inl (am_lk (vH V) 16 p), 0) else if w = 2 then (Sum.inl (am_lk (vN V) 16 p), 0) else if w = 3 then (Sum.inl (am_lk (vE V) 16 p), 0) else if w = 4 then (Sum.inl (am_lk (vG V) 16 p), 0) else if w = 5 then (Sum.inl (am_lk (vT V) 16 p), 0) else if w = 6 then (Sum.inl (v_worth V p), 0) else (Sum.inl (-2), 2)
def a_heirs (V : am_Vw) (i : Int) : am_V × Nat := if v_isP V i = false then (Sum.inl (-1), 1) else (Sum.inl (v_heirs V i), 0)
def v_kissed (V : am_Vw) (n : Nat) : Int := am_for (fun k s => am_add s (vS V k)) n 0
def v_lastf (V : am_Vw) (n : Nat) : Int := am_for (fun k s => if vT V k = 0 ∧ s < vE V k then vE V k else s) n (-9)
def a_last (V : am_Vw) : am_V × Nat := (Sum.inl (v_lastf V (vQ V).toNat), 0)
def v_ins (V : am_Vw) (n : Nat) : Nat := am_orb n (fun p => if vT V p = 0 then 2 ^ (vO V p).toNat ||| 2 ^ (vH V p).toNat else 0)
def a_inIt (V : am_Vw) : am_V × Nat := (Sum.inl ((v_ins V (vQ V).toNat : Nat) : Int), 0)
def v_nobody (V : am_Vw) : Option Nat := am_fst (fun p => decide (vT V p = 0 ∧ vD V ≤ vE V p) && !v_paid V (p : Int)) (vQ V).toNat 0
def a_nobodyWill (V : am_Vw) : am_V × Nat := match v_nobody V with
  | some k => (Sum.inl (k : Int), 0)
  | none => (Sum.inl (-9), 0)
def v_gain (V : am_Vw) (b d : Int) : Int := am_sumb (vQ V).toNat (fun p => if vT V p = 0 ∧ vO V p = d ∧ ¬ vH V p = b ∧ v_shuns V b d = false then (if vG V p = 0 then vN V p else 0) - v_worth V (p : Int) else 0)
def a_gain (V : am_Vw) (b d : Int) : am_V × Nat := if v_two V b d = false then (Sum.inl 1000000001, 1) else (Sum.inl (v_gain V b d), 0)
theorem am_shl1i {x : Int} (h0 : 0 ≤ x) (h1 : x < 31) : am_shl 1 x = ((2 ^ x.toNat : Nat) : Int) := by
  obtain ⟨n, rfl⟩ := Int.eq_ofNat_of_zero_le h0
  exact am_shl1 (by omega)
theorem am_p2 {x : Int} (h1 : x ≤ 6) : 2 ^ x.toNat < 2 ^ 7 := Nat.pow_lt_pow_right (by omega) (by omega)
theorem am_or_0 {x : Int} (hx : am_i32 x) : am_or x 0 = x := by
  unfold am_or
  rw [show Int32.ofInt 0 = 0 from rfl, Int32.or_zero, am_to32 hx]
theorem v_ins_lt {V : am_Vw} (hv : v_ok V) {n : Nat} (hn : n ≤ 16) : v_ins V n < 2 ^ 7 := am_orb_lt (fun k hk => by
  have h1 := v_ok_p hv k (by omega)
  show (if vT V k = 0 then 2 ^ (vO V k).toNat ||| 2 ^ (vH V k).toNat else 0) < 2 ^ 7
  split
  · exact Nat.or_lt_two_pow (am_p2 (by omega)) (am_p2 (by omega))
  · omega)
theorem v_ins_s {V : am_Vw} (hv : v_ok V) {k : Nat} (hk : k < 16) : ((v_ins V (k + 1) : Nat) : Int) = if vT V k = 0 then am_or ((v_ins V k : Nat) : Int) (am_or (am_shl 1 (vO V k)) (am_shl 1 (vH V k))) else ((v_ins V k : Nat) : Int) := by
  have h1 := v_ok_p hv k hk
  have h2 := v_ins_lt hv (n := k) (by omega)
  have h3 := am_p2 (x := vO V k) (by omega)
  have h4 := am_p2 (x := vH V k) (by omega)
  have h5 : 2 ^ (vO V k).toNat ||| 2 ^ (vH V k).toNat < 2 ^ 7 := Nat.or_lt_two_pow h3 h4
  have e : v_ins V (k + 1) = v_ins V k ||| (if vT V k = 0 then 2 ^ (vO V k).toNat ||| 2 ^ (vH V k).toNat else 0) := rfl
  rw [e, am_shl1i (by omega) (by omega), am_shl1i (by omega) (by omega), am_or_ok (by omega) (by omega), am_or_ok (by omega) (by omega)]
  split
  · rfl
  · rw [Nat.or_zero]
theorem v_lastf_s {V : am_Vw} {k : Nat} : v_lastf V (k + 1) = if vT V k = 0 ∧ v_lastf V k < vE V k then vE V k else v_lastf V k := rfl
theorem v_kissed_s {V : am_Vw} {k : Nat} : v_kissed V (k + 1) = am_add (v_kissed V k) (vS V k) := rfl
theorem am_fst_ext {n : Nat} {c e : Nat → Bool} : ∀ k, (∀ j, k ≤ j → j < k + n → c j = e j) → am_fst c n k = am_fst e n k := by
  induction n with
  | zero => intro k _; rfl
  | succ n ih =>
    intro k hc
    unfold am_fst
    rw [hc k (by omega) (by omega), ih (k + 1) (fun j h1 h2 => hc j (by omega) (by omega))]
