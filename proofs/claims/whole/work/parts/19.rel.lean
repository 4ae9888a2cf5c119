/-! RANGES of what a World holds; which places of the heap last from call to call -/
def am_i32 (x : Int) : Prop := -2147483648 ≤ x ∧ x ≤ 2147483647
def v_ok (V : am_Vw) : Prop := (0 ≤ vP V ∧ vP V ≤ 7) ∧ (0 ≤ vQ V ∧ vQ V ≤ 16) ∧ (0 ≤ vD V ∧ vD V ≤ 99)
  ∧ (∀ i : Nat, i < 7 → (0 ≤ vK V i ∧ vK V i ≤ 5) ∧ (0 ≤ vF V i ∧ vF V i ≤ 9) ∧ am_i32 (vS V i) ∧ (0 ≤ vU V i ∧ vU V i ≤ 127))
  ∧ (∀ p : Nat, p < 16 → (0 ≤ vO V p ∧ vO V p ≤ 6) ∧ (0 ≤ vH V p ∧ vH V p ≤ 6) ∧ (0 ≤ vN V p ∧ vN V p ≤ 40) ∧ (0 ≤ vE V p ∧ vE V p ≤ 98) ∧ (0 ≤ vG V p ∧ vG V p ≤ 1) ∧ (0 ≤ vT V p ∧ vT V p ≤ 3))
  ∧ (∀ p : Nat, (p : Int) < vQ V → vO V p < vP V ∧ vH V p < vP V ∧ 1 ≤ vN V p)
theorem v_ok_P {V : am_Vw} (hv : v_ok V) : 0 ≤ vP V ∧ vP V ≤ 7 := hv.1
theorem v_ok_Q {V : am_Vw} (hv : v_ok V) : 0 ≤ vQ V ∧ vQ V ≤ 16 := hv.2.1
theorem v_ok_D {V : am_Vw} (hv : v_ok V) : 0 ≤ vD V ∧ vD V ≤ 99 := hv.2.2.1
theorem v_ok_i {V : am_Vw} (hv : v_ok V) (i : Nat) (hi : i < 7) : (0 ≤ vK V i ∧ vK V i ≤ 5) ∧ (0 ≤ vF V i ∧ vF V i ≤ 9) ∧ am_i32 (vS V i) ∧ (0 ≤ vU V i ∧ vU V i ≤ 127) := hv.2.2.2.1 i hi
theorem v_ok_p {V : am_Vw} (hv : v_ok V) (p : Nat) (hp : p < 16) : (0 ≤ vO V p ∧ vO V p ≤ 6) ∧ (0 ≤ vH V p ∧ vH V p ≤ 6) ∧ (0 ≤ vN V p ∧ vN V p ≤ 40) ∧ (0 ≤ vE V p ∧ vE V p ≤ 98) ∧ (0 ≤ vG V p ∧ vG V p ≤ 1) ∧ (0 ≤ vT V p ∧ vT V p ≤ 3) := hv.2.2.2.2.1 p hp
theorem v_ok_q {V : am_Vw} (hv : v_ok V) (p : Nat) (hp : (p : Int) < vQ V) : vO V p < vP V ∧ vH V p < vP V ∧ 1 ≤ vN V p := hv.2.2.2.2.2 p hp
theorem am_lk_in {f : Nat → Int} {n : Nat} {i : Int} (h0 : 0 ≤ i) (h1 : i < (n : Int)) : am_lk f n i = f i.toNat := if_pos ⟨h0, h1⟩
theorem am_lk_nat {f : Nat → Int} {n i : Nat} (h1 : i < n) : am_lk f n (i : Int) = f i := by
  rw [am_lk_in (by omega) (by omega), Int.toNat_natCast]
def am_rel (a j : Nat) : Bool := bif Nat.beq a 1 then (Nat.beq j 2 || Nat.beq j 6) else bif Nat.beq a 24 then (Nat.beq j 2 || Nat.beq j 3) else bif Nat.beq a 27 then Nat.beq j 1 else bif Nat.beq a 70 then (Nat.beq j 0 || Nat.beq j 5 || Nat.beq j 6 || Nat.beq j 16 || Nat.beq j 25 || Nat.beq j 31 || Nat.beq j 46) else (Nat.ble a 39 || (Nat.ble 40 a && Nat.ble a 41) || (Nat.ble 71 a && Nat.ble a 82) || (Nat.ble 87 a && Nat.ble a 88) || Nat.beq a 98)
def am_keep (h g : Nat → Nat → Int) : Prop := ∀ a j, am_rel a j = true → g a j = h a j
theorem am_keep_r {h : Nat → Nat → Int} : am_keep h h := fun _ _ _ => rfl
theorem am_keep_t {h g f : Nat → Nat → Int} (h1 : am_keep h g) (h2 : am_keep g f) : am_keep h f := fun a j hr => (h2 a j hr).trans (h1 a j hr)
theorem am_keep_up {h g : Nat → Nat → Int} {a j : Nat} {v : Int} (hr : am_rel a j = false) (hk : am_keep h g) : am_keep h (am_up g a j v) := by
  intro b i hb
  unfold am_up
  by_cases h1 : b = a
  · by_cases h2 : i = j
    · rw [h1, h2, hr] at hb; cases hb
    · rw [if_pos h1, if_neg h2]; exact hk b i hb
  · rw [if_neg h1]; exact hk b i hb
theorem am_keep_put {h g : Nat → Nat → Int} {a n : Nat} {i v : Int} (hr : ∀ j, am_rel a j = false) (hk : am_keep h g) : am_keep h (am_put g a n i v) := by
  unfold am_put
  by_cases h1 : 0 ≤ i ∧ i < (n : Int)
  · rw [if_pos h1]; exact am_keep_up (hr _) hk
  · rw [if_neg h1]; exact hk
theorem am_keep_fill {h g : Nat → Nat → Int} {a n : Nat} {v : Int} (hr : ∀ j, am_rel a j = false) (hk : am_keep h g) : am_keep h (am_fill g a n v) := by
  intro b i hb
  unfold am_fill
  by_cases h1 : b = a
  · rw [h1, hr] at hb; cases hb
  · rw [if_neg h1]; exact hk b i hb
theorem am_keep_cpy {h g : Nat → Nat → Int} {a b n : Nat} (hr : ∀ j, am_rel b j = false) (hk : am_keep h g) : am_keep h (am_cpy g a b n) := by
  intro c i hb
  unfold am_cpy
  by_cases h1 : c = b
  · rw [h1, hr] at hb; cases hb
  · rw [if_neg h1]; exact hk c i hb
theorem am_keep_c {h g : Nat → Nat → Int} (hk : am_keep h g) (a : Nat) (ha : ∀ j, am_rel a j = true) : g a = h a := funext fun j => hk a j (ha j)
theorem am_keep_mv {h g : Nat → Nat → Int} (hk : am_keep h g) : am_mv g = am_mv h := by
  show (_, _, _, _, _, _, _, _, _, _, _) = _
  rw [hk 70 0 rfl, hk 70 6 rfl, hk 70 5 rfl, am_keep_c hk 71 (fun _ => rfl), am_keep_c hk 72 (fun _ => rfl), am_keep_c hk 73 (fun _ => rfl), am_keep_c hk 74 (fun _ => rfl), am_keep_c hk 75 (fun _ => rfl), am_keep_c hk 76 (fun _ => rfl), am_keep_c hk 77 (fun _ => rfl), am_keep_c hk 78 (fun _ => rfl), am_keep_c hk 79 (fun _ => rfl), am_keep_c hk 80 (fun _ => rfl)]
theorem am_keep_wv {h g : Nat → Nat → Int} (hk : am_keep h g) : am_wv g 2 = am_wv h 2 := by
  show (_, _, _, _, _, _, _, _, _, _, _) = _
  rw [hk 2 0 rfl, hk 2 1 rfl, hk 2 2 rfl, am_keep_c hk 3 (fun _ => rfl), am_keep_c hk 4 (fun _ => rfl), am_keep_c hk 5 (fun _ => rfl), am_keep_c hk 6 (fun _ => rfl), am_keep_c hk 7 (fun _ => rfl), am_keep_c hk 8 (fun _ => rfl), am_keep_c hk 9 (fun _ => rfl), am_keep_c hk 10 (fun _ => rfl), am_keep_c hk 11 (fun _ => rfl), am_keep_c hk 12 (fun _ => rfl)]
/-- one refusal more of the number -r, counted at a -/
def am_bump (a r : Nat) (h : Nat → Nat → Int) : Nat → Nat → Int := match r with
  | 0 => h
  | _ => am_up h a r (am_add (h a r) 1)
/-! bits -/
theorem am_has_tb {x i : Nat} (hx : x < 2147483648) (hi : i < 31) : am_has (x : Int) (i : Int) = Nat.testBit x i := by
  unfold am_has
  rw [am_shr_ok hi hx]
  have h1 : x / 2 ^ i < 2147483648 := Nat.lt_of_le_of_lt (Nat.div_le_self _ _) hx
  have e := am_and_ok (a := x / 2 ^ i) (b := 1) h1 (by omega)
  rw [show ((1 : Nat) : Int) = 1 from rfl] at e
  rw [e, Nat.and_one_is_mod]
  cases ht : Nat.testBit x i with
  | true =>
    rw [Nat.testBit_eq_decide_div_mod_eq] at ht
    have := of_decide_eq_true ht
    exact decide_eq_true (by omega)
  | false =>
    rw [Nat.testBit_eq_decide_div_mod_eq] at ht
    have := of_decide_eq_false ht
    exact decide_eq_false (by omega)
theorem am_bit_has {x i : Int} (hx : 0 ≤ x) (hx2 : x < 2147483648) (hi : 0 ≤ i) (hi2 : i < 31) : decide (am_and (am_shr x i) 1 = 1) = am_has x i := by
  obtain ⟨n, rfl⟩ := Int.eq_ofNat_of_zero_le hx
  obtain ⟨k, rfl⟩ := Int.eq_ofNat_of_zero_le hi
  unfold am_has
  rw [am_shr_ok (by omega) (by omega)]
  have h1 : n / 2 ^ k < 2147483648 := Nat.lt_of_le_of_lt (Nat.div_le_self _ _) (by omega)
  have e := am_and_ok (a := n / 2 ^ k) (b := 1) h1 (by omega)
  rw [show ((1 : Nat) : Int) = 1 from rfl] at e
  rw [e, Nat.and_one_is_mod]
  exact decide_eq_decide.2 (by omega)
def v_two (V : am_Vw) (a b : Int) : Bool := v_isP V a && v_isP V b && !decide (a = b)
theorem v_isP_iff {V : am_Vw} {i : Int} : v_isP V i = true ↔ 0 ≤ i ∧ i < vP V := by simp [v_isP]
theorem v_isQ_iff {V : am_Vw} {i : Int} : v_isQ V i = true ↔ 0 ≤ i ∧ i < vQ V := by simp [v_isQ]
theorem am_gd {x n : Int} {A : Prop} (h0 : 0 ≤ x) (h1 : x < n) : ((0 ≤ x ∧ x < n) ∧ A) = A := propext ⟨fun w => w.2, fun w => ⟨⟨h0, h1⟩, w⟩⟩
theorem am_incn {k : Nat} (hk : k < 2147483647) : am_add (k : Int) 1 = ((k + 1 : Nat) : Int) := by
  rw [am_add_ok (by omega) (by omega)]; rfl
theorem mv_p {h : Nat → Nat → Int} (hv : v_ok (am_mv h)) (p : Nat) (hp : p < 16) : (0 ≤ h 75 p ∧ h 75 p ≤ 6) ∧ (0 ≤ h 76 p ∧ h 76 p ≤ 6) ∧ (0 ≤ h 77 p ∧ h 77 p ≤ 40) ∧ (0 ≤ h 78 p ∧ h 78 p ≤ 98) ∧ (0 ≤ h 79 p ∧ h 79 p ≤ 1) ∧ (0 ≤ h 80 p ∧ h 80 p ≤ 3) := v_ok_p hv p hp
theorem mv_i {h : Nat → Nat → Int} (hv : v_ok (am_mv h)) (i : Nat) (hi : i < 7) : (0 ≤ h 71 i ∧ h 71 i ≤ 5) ∧ (0 ≤ h 72 i ∧ h 72 i ≤ 9) ∧ am_i32 (h 73 i) ∧ (0 ≤ h 74 i ∧ h 74 i ≤ 127) := v_ok_i hv i hi
theorem mv_q {h : Nat → Nat → Int} (hv : v_ok (am_mv h)) (p : Nat) (hp : (p : Int) < h 70 6) : h 75 p < h 70 0 ∧ h 76 p < h 70 0 ∧ 1 ≤ h 77 p := v_ok_q hv p hp
theorem mv_P {h : Nat → Nat → Int} (hv : v_ok (am_mv h)) : 0 ≤ h 70 0 ∧ h 70 0 ≤ 7 := hv.1
theorem mv_Q {h : Nat → Nat → Int} (hv : v_ok (am_mv h)) : 0 ≤ h 70 6 ∧ h 70 6 ≤ 16 := hv.2.1
theorem mv_D {h : Nat → Nat → Int} (hv : v_ok (am_mv h)) : 0 ≤ h 70 5 ∧ h 70 5 ≤ 99 := hv.2.2.1
