/-! FITS: the count as one sum -/
noncomputable def an_i1 (P : Prop) : Int := @ite Int P (Classical.propDecidable P) 1 0
theorem an_i1_y {P : Prop} (h : P) : an_i1 P = 1 := by unfold an_i1; rw [if_pos h]
theorem an_i1_n {P : Prop} (h : ¬ P) : an_i1 P = 0 := by unfold an_i1; rw [if_neg h]
theorem am_sumb_cat {m a : Nat} {F : Nat → Int} : am_sumb (m + a) F = am_sumb m F + am_sumb a (fun s => F (m + s)) := by
  induction a with
  | zero => show am_sumb m F = am_sumb m F + 0; omega
  | succ a ih =>
    rw [show m + (a + 1) = m + a + 1 by omega, am_sumb_s, ih, am_sumb_s]
    omega
theorem am_sumb_mul {a b : Nat} {F : Nat → Int} : am_sumb (a * b) F = am_sumb b (fun y => am_sumb a (fun s => F (a * y + s))) := by
  induction b with
  | zero => rfl
  | succ b ih => rw [Nat.mul_succ, am_sumb_cat, ih, am_sumb_s]
theorem am_sumb_front {k : Nat} {f : Nat → Int} : am_sumb (k + 1) f = f 0 + am_sumb k (fun i => f (i + 1)) := by
  have h := am_sumb_cat (m := 1) (a := k) (F := f)
  rw [show 1 + k = k + 1 by omega] at h
  rw [h, show am_sumb 1 f = f 0 by show 0 + f 0 = f 0; omega]
  congr 1
  exact am_sumb_eq (fun i _ => by rw [show 1 + i = i + 1 by omega])
def an_rw (x n i : Nat) : Nat := x / 2 ^ (n * i) % 2 ^ n
theorem an_rw_0 {n s y : Nat} (hs : s < 2 ^ n) : an_rw (2 ^ n * y + s) n 0 = s := by
  unfold an_rw
  rw [Nat.mul_zero, Nat.pow_zero, Nat.div_one, Nat.mul_add_mod, Nat.mod_eq_of_lt hs]
theorem an_rw_s {n s y i : Nat} (hs : s < 2 ^ n) : an_rw (2 ^ n * y + s) n (i + 1) = an_rw y n i := by
  unfold an_rw
  rw [show n * (i + 1) = n + n * i by rw [Nat.mul_succ, Nat.add_comm], Nat.pow_add, ← Nat.div_div_eq_div_mul, Nat.mul_add_div (Nat.two_pow_pos n), Nat.div_eq_of_lt hs, Nat.add_zero]
def an_fk (V : am_Vw) (ρ : Nat → Int) (n k p : Nat) (w : Int) (x : Nat) : Prop := (∀ i, i < k → an_rw x n i &&& v_br V (p + i) = 0 ∧ am_pc (an_rw x n i) = ρ (p + i)) ∧ w = am_sumb k (fun i => an_ow (an_rw x n i) n)
theorem an_fk_s {V : am_Vw} {ρ : Nat → Int} {n k p s y : Nat} {w : Int} (hs : s < 2 ^ n) : an_fk V ρ n (k + 1) p w (2 ^ n * y + s) ↔ ((s &&& v_br V p = 0 ∧ am_pc s = ρ p) ∧ an_fk V ρ n k (p + 1) (w - an_ow s n) y) := by
  unfold an_fk
  have e : am_sumb k (fun i => an_ow (an_rw (2 ^ n * y + s) n (i + 1)) n) = am_sumb k (fun i => an_ow (an_rw y n i) n) := am_sumb_eq (fun i _ => by rw [an_rw_s hs])
  rw [am_sumb_front, an_rw_0 hs, e]
  constructor
  · rintro ⟨h1, h2⟩
    have h3 := h1 0 (by omega)
    rw [an_rw_0 hs, Nat.add_zero] at h3
    refine ⟨h3, fun i hi => ?_, by omega⟩
    have h4 := h1 (i + 1) (by omega)
    rw [an_rw_s hs, show p + (i + 1) = p + 1 + i by omega] at h4
    exact h4
  · rintro ⟨h1, h2, h3⟩
    refine ⟨fun i hi => ?_, by omega⟩
    match i with
    | 0 => rw [an_rw_0 hs, Nat.add_zero]; exact h1
    | i + 1 =>
      rw [an_rw_s hs, show p + (i + 1) = p + 1 + i by omega]
      exact h2 i (by omega)
theorem an_kw_sum {V : am_Vw} {ρ : Nat → Int} {n : Nat} : ∀ (k p : Nat) (w : Int), an_kw V ρ n k p w = am_sumb (2 ^ (n * k)) (fun x => an_i1 (an_fk V ρ n k p w x)) := by
  intro k
  induction k with
  | zero =>
    intro p w
    show (if w = 0 then (1 : Int) else 0) = am_sumb 1 (fun x => an_i1 (an_fk V ρ n 0 p w x))
    show (if w = 0 then (1 : Int) else 0) = 0 + an_i1 (an_fk V ρ n 0 p w 0)
    by_cases q : w = 0
    · rw [if_pos q, an_i1_y ⟨fun i hi => by omega, q⟩]; rfl
    · rw [if_neg q, an_i1_n (fun h => q h.2)]; rfl
  | succ k ih =>
    intro p w
    rw [an_kw_s, Nat.mul_succ, Nat.add_comm (n * k) n, Nat.pow_add, am_sumb_mul, am_sumb_swap]
    refine am_sumb_eq (fun s hs => ?_)
    show (if s &&& v_br V p = 0 ∧ am_pc s = ρ p then an_kw V ρ n k (p + 1) (w - an_ow s n) else 0) = am_sumb (2 ^ (n * k)) (fun y => an_i1 (an_fk V ρ n (k + 1) p w (2 ^ n * y + s)))
    by_cases q : s &&& v_br V p = 0 ∧ am_pc s = ρ p
    · rw [if_pos q, ih]
      refine am_sumb_eq (fun y _ => ?_)
      show an_i1 _ = an_i1 _
      rw [show an_fk V ρ n (k + 1) p w (2 ^ n * y + s) = an_fk V ρ n k (p + 1) (w - an_ow s n) y from propext ((an_fk_s hs).trans ⟨fun h => h.2, fun h => ⟨q, h⟩⟩)]
    · rw [if_neg q]
      have e : am_sumb (2 ^ (n * k)) (fun y => an_i1 (an_fk V ρ n (k + 1) p w (2 ^ n * y + s))) = am_sumb (2 ^ (n * k)) (fun _ => 0) := am_sumb_eq (fun y _ => an_i1_n (fun h => q ((an_fk_s hs).1 h).1))
      rw [e, am_sumb_0]