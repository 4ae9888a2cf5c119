/-! THE VOTES over a DEBTOR, gathered -/
def v_vt (V : am_Vw) (e : Int) (n j : Nat) : Int := am_sumb n (fun p => if (vT V p = 0 ∧ vO V p = e) ∧ vH V p = (j : Int) then vN V p else 0)
def v_vh (V : am_Vw) (e : Int) (n : Nat) : Nat := am_orb n (fun p => if vT V p = 0 ∧ vO V p = e then 2 ^ (vH V p).toNat else 0)
def v_va (V : am_Vw) (e : Int) (n : Nat) : Int := am_sumb n (fun p => if vT V p = 0 ∧ vO V p = e then vN V p else 0)
def am_votk (h : Nat → Nat → Int) (V : am_Vw) (e : Int) (n : Nat) : Nat → Nat → Int := fun a j => if a = 62 then (if j < 7 then v_vt V e n j else h a j) else if a = 61 then (if j = 1 then ((v_vh V e n : Nat) : Int) else if j = 3 then v_va V e n else h a j) else h a j
theorem v_vt_s {V : am_Vw} {e : Int} {n j : Nat} : v_vt V e (n + 1) j = v_vt V e n j + (if (vT V n = 0 ∧ vO V n = e) ∧ vH V n = (j : Int) then vN V n else 0) := rfl
theorem v_va_s {V : am_Vw} {e : Int} {n : Nat} : v_va V e (n + 1) = v_va V e n + (if vT V n = 0 ∧ vO V n = e then vN V n else 0) := rfl
theorem v_vh_s {V : am_Vw} {e : Int} {n : Nat} : v_vh V e (n + 1) = v_vh V e n ||| (if vT V n = 0 ∧ vO V n = e then 2 ^ (vH V n).toNat else 0) := rfl
theorem v_vt_le {V : am_Vw} (hv : v_ok V) {n : Nat} (hn : n ≤ 16) (e : Int) (j : Nat) : 0 ≤ v_vt V e n j ∧ v_vt V e n j ≤ 640 := by
  have h1 := am_sumb_le (n := n) (g := fun p => if (vT V p = 0 ∧ vO V p = e) ∧ vH V p = (j : Int) then vN V p else 0) (A := 0) (B := 40) (fun k hk => by
    have h2 := v_ok_p hv k (by omega)
    show 0 ≤ (if (vT V k = 0 ∧ vO V k = e) ∧ vH V k = (j : Int) then vN V k else 0) ∧ (if (vT V k = 0 ∧ vO V k = e) ∧ vH V k = (j : Int) then vN V k else 0) ≤ 40
    split <;> omega)
  unfold v_vt
  omega
theorem v_va_le {V : am_Vw} (hv : v_ok V) {n : Nat} (hn : n ≤ 16) (e : Int) : 0 ≤ v_va V e n ∧ v_va V e n ≤ 640 := by
  have h1 := am_sumb_le (n := n) (g := fun p => if vT V p = 0 ∧ vO V p = e then vN V p else 0) (A := 0) (B := 40) (fun k hk => by
    have h2 := v_ok_p hv k (by omega)
    show 0 ≤ (if vT V k = 0 ∧ vO V k = e then vN V k else 0) ∧ (if vT V k = 0 ∧ vO V k = e then vN V k else 0) ≤ 40
    split <;> omega)
  unfold v_va
  omega
theorem v_vh_lt {V : am_Vw} (hv : v_ok V) {n : Nat} (hn : n ≤ 16) (e : Int) : v_vh V e n < 2 ^ 7 := am_orb_lt (fun k hk => by
  have h1 := v_ok_p hv k (by omega)
  show (if vT V k = 0 ∧ vO V k = e then 2 ^ (vH V k).toNat else 0) < 2 ^ 7
  split
  · exact am_p2 (by omega)
  · omega)
theorem am_votk_n {h : Nat → Nat → Int} {V : am_Vw} {e : Int} {k : Nat} (hn : ¬ (vT V k = 0 ∧ vO V k = e)) : am_votk h V e (k + 1) = am_votk h V e k := by
  have e1 : ∀ j, v_vt V e (k + 1) j = v_vt V e k j := fun j => by rw [v_vt_s, if_neg (fun w => hn w.1)]; omega
  have e2 : v_va V e (k + 1) = v_va V e k := by rw [v_va_s, if_neg hn]; omega
  have e3 : v_vh V e (k + 1) = v_vh V e k := by rw [v_vh_s, if_neg hn, Nat.or_zero]
  funext a j
  unfold am_votk
  rw [e1, e2, e3]
theorem am_votk_s {h : Nat → Nat → Int} {V : am_Vw} {e : Int} {k c : Nat} (hv : v_ok V) (hk : k < 16) (hy : vT V k = 0 ∧ vO V k = e) (hc : vH V k = (c : Int)) : am_up (am_up (am_up (am_votk h V e k) 62 c (am_add (v_vt V e k c) (vN V k))) 61 1 (am_or ((v_vh V e k : Nat) : Int) (am_shl 1 (c : Int)))) 61 3 (am_add (v_va V e k) (vN V k)) = am_votk h V e (k + 1) := by
  have hp := v_ok_p hv k hk
  have b1 := v_vt_le hv (n := k) (by omega) e c
  have b2 := v_va_le hv (n := k) (by omega) e
  have b3 := v_vh_lt hv (n := k) (by omega) e
  have b4 : 2 ^ c < 2 ^ 7 := Nat.pow_lt_pow_right (by omega) (by omega)
  have e1 : ∀ j, v_vt V e (k + 1) j = if j = c then v_vt V e k c + vN V k else v_vt V e k j := fun j => by
    rw [v_vt_s, hc]
    by_cases h1 : j = c
    · rw [if_pos ⟨hy, by omega⟩, if_pos h1, h1]
    · rw [if_neg (fun w => h1 (by have := w.2; omega)), if_neg h1]; omega
  have e2 : v_va V e (k + 1) = v_va V e k + vN V k := by rw [v_va_s, if_pos hy]
  have e3 : am_or ((v_vh V e k : Nat) : Int) (am_shl 1 (c : Int)) = ((v_vh V e (k + 1) : Nat) : Int) := by
    rw [am_shl1 (by omega), am_or_ok (by omega) (by omega), v_vh_s, if_pos hy, hc]; rfl
  rw [am_add_ok (x := v_vt V e k c) (by omega) (by omega), am_add_ok (x := v_va V e k) (by omega) (by omega), e3]
  funext a j
  unfold am_up am_votk
  rw [e1, e2]
  by_cases h1 : a = 61
  · subst h1
    simp only [show ¬ (61 = 62) by omega, if_false, if_true]
    by_cases h2 : j = 3
    · subst h2; simp only [show ¬ (3 = 1) by omega, if_false, if_true]
    · simp only [h2, if_false]
      by_cases h3 : j = 1
      · simp only [h3, if_true]
      · simp only [h3, if_false]
  · simp only [h1, if_false]
    by_cases h2 : a = 62
    · simp only [h2, if_true]
      by_cases h3 : j = c
      · rw [if_pos h3, if_pos (by omega), if_pos h3]
      · rw [if_neg h3, if_neg h3]
    · simp only [h2, if_false]