/-! WHAT IS CARRIED COMES BACK; DAYS GONE THROUGH -/
theorem am_car_ix {h : Nat → Nat → Int} {b j : Nat} (hi : am_ix b j < 127) : am_car h (am_ix b j) = h b j := by
  by_cases h0 : b = 70
  · subst h0
    by_cases h1 : j = 0
    · subst h1; rfl
    · by_cases h2 : j = 5
      · subst h2; rfl
      · by_cases h3 : j = 6
        · subst h3; rfl
        · unfold am_ix at hi
          rw [if_pos rfl, if_neg h1, if_neg h2, if_neg h3] at hi
          omega
  · by_cases h1 : b < 71
    · unfold am_ix at hi
      rw [if_neg h0, if_pos h1] at hi
      omega
    · by_cases h2 : b < 75
      · by_cases h3 : j < 7
        · have e : am_ix b j = 3 + 4 * j + (b - 71) := by unfold am_ix; rw [if_neg h0, if_neg h1, if_pos h2, if_pos h3]
          rw [e, am_car_1 h3 (by omega), show 71 + (b - 71) = b by omega]
        · unfold am_ix at hi
          rw [if_neg h0, if_neg h1, if_pos h2, if_neg h3] at hi
          omega
      · by_cases h4 : b < 81
        · by_cases h3 : j < 16
          · have e : am_ix b j = 31 + 6 * j + (b - 75) := by unfold am_ix; rw [if_neg h0, if_neg h1, if_neg h2, if_pos h4, if_pos h3]
            rw [e, am_car_2 (by omega), show 75 + (b - 75) = b by omega]
          · unfold am_ix at hi
            rw [if_neg h0, if_neg h1, if_neg h2, if_pos h4, if_neg h3] at hi
            omega
        · unfold am_ix at hi
          rw [if_neg h0, if_neg h1, if_neg h2, if_neg h4] at hi
          omega
theorem am_back {h G : Nat → Nat → Int} (h86 : ∀ n, n < 127 → G 86 n = am_car h n) (hk : ∀ b j, am_rel b j = true → ¬ am_ix b j < 127 → G b j = h b j) : am_keep h (am_puk G 86 127) := by
  intro b j hr
  unfold am_puk
  by_cases h1 : am_ix b j < 127
  · rw [if_pos h1, h86 _ h1, am_car_ix h1]
  · rw [if_neg h1]
    by_cases h2 : b = 70
    · subst h2
      by_cases h3 : j = 26
      · subst h3; cases hr
      · by_cases h4 : j = 27
        · subst h4; cases hr
        · rw [if_pos rfl, if_neg h3, if_neg h4]; exact hk 70 j hr h1
    · rw [if_neg h2]; exact hk b j hr h1
def am_fday (h : Nat → Nat → Int) : Nat → Nat → Int := am_up (am_falk 73 80 h (am_mv h) (h 70 6).toNat) 70 5 (h 70 5 + 1)
def am_runk (h : Nat → Nat → Int) : Nat → Nat → Nat → Int
  | 0 => h
  | k + 1 => am_fday (am_runk h k)
def v_day1 (V : am_Vw) : am_Vw := ((vP V, vQ V, vD V + 1), (v_falv V (vQ V).toNat).2)
def v_run (V : am_Vw) : Nat → am_Vw
  | 0 => V
  | k + 1 => v_day1 (v_run V k)
theorem am_fday_mv {h : Nat → Nat → Int} : am_mv (am_fday h) = v_day1 (am_mv h) := rfl
theorem am_runk_mv {h : Nat → Nat → Int} {k : Nat} : am_mv (am_runk h k) = v_run (am_mv h) k := by
  induction k with
  | zero => rfl
  | succ k ih =>
    show am_mv (am_fday (am_runk h k)) = v_day1 (v_run (am_mv h) k)
    rw [am_fday_mv, ih]
theorem am_runk_o {h : Nat → Nat → Int} {k b j : Nat} (h1 : ¬ b = 73) (h2 : ¬ b = 80) (h3 : ¬ (b = 70 ∧ j = 5)) : am_runk h k b j = h b j := by
  induction k with
  | zero => rfl
  | succ k ih =>
    show am_up (am_falk 73 80 (am_runk h k) _ _) 70 5 _ b j = _
    unfold am_up
    have e : am_falk 73 80 (am_runk h k) (am_mv (am_runk h k)) (am_runk h k 70 6).toNat b j = am_runk h k b j := by
      unfold am_falk
      rw [if_neg h2, if_neg h1]
    by_cases h4 : b = 70
    · rw [if_pos h4, if_neg (fun w => h3 ⟨h4, w⟩), e, ih]
    · rw [if_neg h4, e, ih]
theorem v_run_c {V : am_Vw} {k : Nat} : vP (v_run V k) = vP V ∧ vQ (v_run V k) = vQ V ∧ vD (v_run V k) = vD V + (k : Int) ∧ vK (v_run V k) = vK V ∧ vF (v_run V k) = vF V ∧ vU (v_run V k) = vU V ∧ vO (v_run V k) = vO V ∧ vH (v_run V k) = vH V ∧ vN (v_run V k) = vN V ∧ vE (v_run V k) = vE V ∧ vG (v_run V k) = vG V := by
  induction k with
  | zero => exact ⟨rfl, rfl, (Int.add_zero _).symm, rfl, rfl, rfl, rfl, rfl, rfl, rfl, rfl⟩
  | succ k ih =>
    obtain ⟨a1, a2, a3, a4, a5, a6, a7, a8, a9, a10, a11⟩ := ih
    exact ⟨a1, a2, by show vD (v_run V k) + 1 = _; omega, a4, a5, a6, a7, a8, a9, a10, a11⟩
theorem v_run_paid {V : am_Vw} {k : Nat} {p : Int} : v_paid (v_run V k) p = v_paid V p := by
  obtain ⟨a1, a2, a3, a4, a5, a6, a7, a8, a9, a10, a11⟩ := v_run_c (V := V) (k := k)
  unfold v_paid v_friend v_shuns
  rw [a6, a7, a8, a11]
theorem v_run_ok {V : am_Vw} (hv : v_ok V) {k : Nat} (hk : vD V + (k : Int) ≤ 99) : v_ok (v_run V k) := by
  induction k with
  | zero => exact hv
  | succ k ih =>
    have h1 := ih (by omega)
    have h2 := v_ok_falv h1 (vQ (v_run V k)).toNat
    have h3 := (v_run_c (V := V) (k := k)).2.2.1
    have h4 := v_ok_D hv
    refine ⟨h2.1, h2.2.1, ⟨?_, ?_⟩, h2.2.2.2.1, h2.2.2.2.2.1, h2.2.2.2.2.2⟩
    · show 0 ≤ vD (v_run V k) + 1; omega
    · show vD (v_run V k) + 1 ≤ 99; omega
/-- what stands open behind k days: what stood open and is not DUE on one of them -/
theorem v_run_T {V : am_Vw} {k p : Nat} (hp : (p : Int) < vQ V) : vT (v_run V k) p = 0 ↔ vT V p = 0 ∧ ¬ (vD V ≤ vE V p ∧ vE V p < vD V + (k : Int)) := by
  induction k with
  | zero => exact ⟨fun w => ⟨w, by omega⟩, fun w => w.1⟩
  | succ k ih =>
    obtain ⟨a1, a2, a3, a4, a5, a6, a7, a8, a9, a10, a11⟩ := v_run_c (V := V) (k := k)
    have e : vT (v_run V (k + 1)) p = v_st (v_run V k) (vQ (v_run V k)).toNat p := rfl
    rw [e]
    unfold v_st
    have hdu : v_due (v_run V k) p = true ↔ vT (v_run V k) p = 0 ∧ vE V p = vD V + (k : Int) := by
      unfold v_due
      rw [decide_eq_true_eq, a10, a3]
    by_cases h1 : v_due (v_run V k) p = true
    · rw [if_pos ⟨by rw [a2]; omega, h1⟩]
      have h2 := hdu.1 h1
      constructor
      · intro w
        by_cases h3 : v_paid (v_run V k) (p : Int) = true
        · rw [if_pos h3] at w; omega
        · rw [if_neg h3] at w; omega
      · intro w; exact absurd (show vD V ≤ vE V p ∧ vE V p < vD V + ((k + 1 : Nat) : Int) by omega) w.2
    · rw [if_neg (fun w => h1 w.2), ih]
      constructor
      · intro w
        refine ⟨w.1, fun w2 => ?_⟩
        have h3 : vE V p = vD V + (k : Int) := by
          have := w.2
          omega
        exact h1 (hdu.2 ⟨ih.2 w, h3⟩)
      · intro w
        exact ⟨w.1, fun w2 => w.2 ⟨w2.1, by omega⟩⟩
theorem v_run_sum {V : am_Vw} {k : Nat} : v_fsum (v_run V k) (vQ V).toNat = v_pon V (vD V + (k : Int)) (-9) := by
  obtain ⟨a1, a2, a3, a4, a5, a6, a7, a8, a9, a10, a11⟩ := v_run_c (V := V) (k := k)
  unfold v_fsum v_pon
  refine am_sumb_eq (fun p hp => ?_)
  have h1 := v_run_T (V := V) (k := k) (p := p) (by omega)
  have hdu : v_due (v_run V k) p = true ↔ vT V p = 0 ∧ vE V p = vD V + (k : Int) := by
    unfold v_due
    rw [decide_eq_true_eq, a10, a3, h1]
    constructor
    · intro w; exact ⟨w.1.1, w.2⟩
    · intro w; exact ⟨⟨w.1, by omega⟩, w.2⟩
  rw [v_run_paid, a9]
  by_cases h2 : (vT V p = 0 ∧ vE V p = vD V + (k : Int)) ∧ v_paid V (p : Int) = true
  · rw [if_pos ⟨hdu.2 h2.1, h2.2⟩, if_pos ⟨h2.1, h2.2, Or.inl rfl⟩]
  · rw [if_neg (fun w => h2 ⟨hdu.1 w.1, w.2⟩), if_neg (fun w => h2 ⟨w.1, w.2.1⟩)]
