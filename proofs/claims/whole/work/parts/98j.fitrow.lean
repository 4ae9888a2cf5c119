/-! FITS: rows, columns, submasks -/
def v_rc (x n i : Nat) : Int := am_sumb n (fun j => if Nat.testBit x (n * i + j) = true then 1 else 0)
def v_cc (x n j : Nat) : Int := am_sumb n (fun i => if Nat.testBit x (n * i + j) = true then 1 else 0)
theorem an_rw_tb {x n i j : Nat} : Nat.testBit (an_rw x n i) j = (decide (j < n) && Nat.testBit x (n * i + j)) := by
  unfold an_rw
  rw [Nat.testBit_mod_two_pow, Nat.testBit_div_two_pow, Nat.add_comm j]
theorem an_rw_pc {x n i : Nat} (hn : n ≤ 16) : am_pc (an_rw x n i) = v_rc x n i := by
  unfold am_pc v_rc
  rw [am_sumb_tr (n := n) (m := 16) hn (fun j h1 h2 => by
    show (bif Nat.testBit (an_rw x n i) j then (1 : Int) else 0) = 0
    rw [an_rw_tb, decide_eq_false (by omega)]; rfl)]
  exact am_sumb_eq (fun j hj => by
    show (bif Nat.testBit (an_rw x n i) j then (1 : Int) else 0) = if Nat.testBit x (n * i + j) = true then 1 else 0
    rw [an_rw_tb, decide_eq_true hj, Bool.true_and]
    cases Nat.testBit x (n * i + j) <;> rfl)
theorem am_sumb_mulr {n : Nat} {f : Nat → Int} {c : Int} : am_sumb n (fun i => f i * c) = am_sumb n f * c := by
  induction n with
  | zero => show (0 : Int) = 0 * c; rw [Int.zero_mul]
  | succ n ih => rw [am_sumb_s, ih, am_sumb_s, Int.add_mul]
theorem an_ow_cc {x n : Nat} : am_sumb n (fun i => an_ow (an_rw x n i) n) = am_sumb n (fun j => v_cc x n j * ((2 ^ (7 * j) : Nat) : Int)) := by
  have e1 : am_sumb n (fun i => an_ow (an_rw x n i) n) = am_sumb n (fun i => am_sumb n (fun j => (if Nat.testBit x (n * i + j) = true then 1 else 0) * ((2 ^ (7 * j) : Nat) : Int))) := am_sumb_eq (fun i _ => by
    show an_ow (an_rw x n i) n = _
    unfold an_ow
    refine am_sumb_eq (fun j hj => ?_)
    show (if Nat.testBit (an_rw x n i) j = true then ((2 ^ (7 * j) : Nat) : Int) else 0) = (if Nat.testBit x (n * i + j) = true then 1 else 0) * ((2 ^ (7 * j) : Nat) : Int)
    rw [an_rw_tb, decide_eq_true hj, Bool.true_and]
    by_cases q : Nat.testBit x (n * i + j) = true
    · rw [if_pos q, if_pos q, Int.one_mul]
    · rw [if_neg q, if_neg q, Int.zero_mul])
  rw [e1, am_sumb_swap]
  exact am_sumb_eq (fun j _ => am_sumb_mulr)
theorem an_b128_le {a : Nat → Int} : ∀ n, (∀ j, j < n → 0 ≤ a j ∧ a j ≤ 127) → 0 ≤ am_sumb n (fun j => a j * ((2 ^ (7 * j) : Nat) : Int)) ∧ am_sumb n (fun j => a j * ((2 ^ (7 * j) : Nat) : Int)) < ((2 ^ (7 * n) : Nat) : Int) := by
  intro n
  induction n with
  | zero => intro _; exact ⟨Int.le_refl 0, (by decide : (0 : Int) < 1)⟩
  | succ n ih =>
    intro h
    have h1 := ih (fun j hj => h j (by omega))
    have h2 := h n (by omega)
    have hp := Nat.two_pow_pos (7 * n)
    have h4 : 2 ^ (7 * (n + 1)) = 128 * 2 ^ (7 * n) := by
      rw [show 7 * (n + 1) = 7 * n + 7 by omega, Nat.pow_add, Nat.mul_comm]
    have h5 := Int.mul_le_mul_of_nonneg_right h2.2 (show 0 ≤ ((2 ^ (7 * n) : Nat) : Int) by omega)
    have h6 := Int.mul_nonneg h2.1 (show 0 ≤ ((2 ^ (7 * n) : Nat) : Int) by omega)
    rw [am_sumb_s]
    omega
theorem an_b128_u {a b : Nat → Int} : ∀ n, (∀ j, j < n → 0 ≤ a j ∧ a j ≤ 127) → (∀ j, j < n → 0 ≤ b j ∧ b j ≤ 127) → am_sumb n (fun j => a j * ((2 ^ (7 * j) : Nat) : Int)) = am_sumb n (fun j => b j * ((2 ^ (7 * j) : Nat) : Int)) → ∀ j, j < n → a j = b j := by
  intro n
  induction n with
  | zero => exact fun _ _ _ j hj => by omega
  | succ n ih =>
    intro ha hb he
    have a1 := an_b128_le n (fun j hj => ha j (by omega))
    have b1 := an_b128_le n (fun j hj => hb j (by omega))
    have hp := Nat.two_pow_pos (7 * n)
    rw [am_sumb_s, am_sumb_s] at he
    have hab : a n = b n := by
      by_cases q1 : a n < b n
      · have h5 := Int.mul_le_mul_of_nonneg_right (show a n + 1 ≤ b n by omega) (show 0 ≤ ((2 ^ (7 * n) : Nat) : Int) by omega)
        rw [Int.add_mul, Int.one_mul] at h5
        omega
      · by_cases q2 : b n < a n
        · have h5 := Int.mul_le_mul_of_nonneg_right (show b n + 1 ≤ a n by omega) (show 0 ≤ ((2 ^ (7 * n) : Nat) : Int) by omega)
          rw [Int.add_mul, Int.one_mul] at h5
          omega
        · omega
    rw [hab] at he
    intro j hj
    by_cases q : j = n
    · rw [q]; exact hab
    · exact ih (fun j hj => ha j (by omega)) (fun j hj => hb j (by omega)) (by omega) j (by omega)
theorem an_wt_sum {ρ : Nat → Int} {n : Nat} : ∀ m, (∀ j, j < m → 0 ≤ ρ (n + j)) → ((an_wt ρ n m : Nat) : Int) = am_sumb m (fun j => ρ (n + j) * ((2 ^ (7 * j) : Nat) : Int)) := by
  intro m
  induction m with
  | zero => exact fun _ => rfl
  | succ m ih =>
    intro h
    obtain ⟨t, ht⟩ := Int.eq_ofNat_of_zero_le (h m (by omega))
    rw [am_sumb_s, ← ih (fun j hj => h j (by omega)), ht]
    show ((an_wt ρ n m + (ρ (n + m)).toNat * 2 ^ (7 * m) : Nat) : Int) = _
    rw [ht, Int.toNat_natCast, Int.natCast_add, Int.natCast_mul]
def v_my (V : am_Vw) (n : Nat) (t : Nat) : Bool := !Nat.testBit (v_br V (t / n)) (t % n)
def v_may (V : am_Vw) (n m : Nat) : Nat := am_bits m (v_my V n)
theorem v_cc_le {x n j : Nat} : 0 ≤ v_cc x n j ∧ v_cc x n j ≤ (n : Int) := by
  have h := am_sumb_le (n := n) (g := fun i => if Nat.testBit x (n * i + j) = true then 1 else 0) (A := 0) (B := 1) (fun k _ => by
    show 0 ≤ (if Nat.testBit x (n * k + j) = true then (1 : Int) else 0) ∧ (if Nat.testBit x (n * k + j) = true then (1 : Int) else 0) ≤ 1
    split <;> omega)
  unfold v_cc
  omega
theorem an_ij {n i j : Nat} (hi : i < n) (hj : j < n) : n * i + j < n * n ∧ (n * i + j) / n = i ∧ (n * i + j) % n = j := by
  have h1 := Nat.mul_le_mul_left n (show i + 1 ≤ n by omega)
  rw [Nat.mul_succ] at h1
  refine ⟨by omega, ?_, ?_⟩
  · rw [Nat.mul_add_div (by omega), Nat.div_eq_of_lt hj, Nat.add_zero]
  · rw [Nat.mul_add_mod, Nat.mod_eq_of_lt hj]
theorem v_may_sb {V : am_Vw} {n x : Nat} (hn : 0 < n) (hx : x < 2 ^ (n * n)) : (∀ i, i < n → an_rw x n i &&& v_br V i = 0) ↔ an_sb x (v_may V n (n * n)) := by
  constructor
  · intro h t ht
    have htn : t < n * n := by
      by_cases q : t < n * n
      · exact q
      · rw [Nat.testBit_lt_two_pow (Nat.lt_of_lt_of_le hx (Nat.pow_le_pow_right (by omega) (show n * n ≤ t by omega)))] at ht
        cases ht
    have hdi : t / n < n := Nat.div_lt_of_lt_mul htn
    have hmo := Nat.mod_lt t hn
    have hdm := Nat.div_add_mod t n
    unfold v_may
    rw [am_bits_tb, decide_eq_true htn, Bool.true_and]
    unfold v_my
    cases hb : Nat.testBit (v_br V (t / n)) (t % n) with
    | false => rfl
    | true =>
      exact absurd (h (t / n) hdi) (am_and_ne.2 ⟨t % n, by rw [an_rw_tb, decide_eq_true hmo, Bool.true_and, hdm]; exact ht, hb⟩)
  · intro h i hi
    by_cases q : an_rw x n i &&& v_br V i = 0
    · exact q
    · obtain ⟨b, b1, b2⟩ := am_and_ne.1 q
      rw [an_rw_tb, Bool.and_eq_true, decide_eq_true_eq] at b1
      obtain ⟨e1, e2, e3⟩ := an_ij hi b1.1
      have h2 := h _ b1.2
      unfold v_may at h2
      rw [am_bits_tb, Bool.and_eq_true] at h2
      have h3 := h2.2
      unfold v_my at h3
      rw [e2, e3, b2] at h3
      cases h3
/-- kissed as the row says -/
def v_kd (ρ : Nat → Int) (n m x : Nat) : Prop := ∀ i, i < m → v_rc x n i = ρ i ∧ v_cc x n i = ρ (n + i)
theorem an_fk_i {V : am_Vw} {ρ : Nat → Int} {n x : Nat} (hn : 0 < n) (hn4 : n ≤ 4) (hr : ∀ i, i < 12 → 0 ≤ ρ i ∧ ρ i ≤ 99) (hx : x < 2 ^ (n * n)) : an_fk V ρ n n 0 ((an_wt ρ n n : Nat) : Int) x ↔ (an_sb x (v_may V n (n * n)) ∧ v_kd ρ n n x) := by
  unfold an_fk v_kd
  rw [an_ow_cc, an_wt_sum n (fun j hj => (hr (n + j) (by omega)).1), ← v_may_sb hn hx]
  have hz : ∀ i, 0 + i = i := Nat.zero_add
  constructor
  · rintro ⟨h1, h2⟩
    have h3 := an_b128_u n (fun j hj => by have := hr (n + j) (by omega); exact ⟨this.1, by omega⟩) (fun j _ => by have := v_cc_le (x := x) (n := n) (j := j); exact ⟨this.1, by omega⟩) h2
    refine ⟨fun i hi => ?_, fun i hi => ⟨?_, (h3 i hi).symm⟩⟩
    · have := (h1 i hi).1
      rw [hz] at this
      exact this
    · have := (h1 i hi).2
      rw [hz, an_rw_pc (by omega)] at this
      exact this
  · rintro ⟨h1, h2⟩
    refine ⟨fun i hi => ?_, am_sumb_eq (fun j hj => ?_)⟩
    · rw [hz, an_rw_pc (by omega)]
      exact ⟨h1 i hi, (h2 i hi).1⟩
    · show ρ (n + j) * ((2 ^ (7 * j) : Nat) : Int) = v_cc x n j * ((2 ^ (7 * j) : Nat) : Int)
      rw [(h2 j hj).2]