/-! KISSED, DAY BY DAY -/
theorem am_add_add {s a b : Int} : am_add (am_add s a) b = am_add s (a + b) := by
  unfold am_add
  rw [Int32.ofInt_toInt, Int32.ofInt_add, Int32.add_assoc]
theorem v_ki_sum {V : am_Vw} {n j : Nat} (hS : am_i32 (vS V j)) : v_ki V n j = am_add (vS V j) (am_sumb n (fun p => if v_due V p = true ∧ v_paid V (p : Int) = true ∧ vH V p = (j : Int) then vN V p else 0)) := by
  induction n with
  | zero =>
    show vS V j = am_add (vS V j) 0
    rw [am_add_ok (by have := hS.1; omega) (by have := hS.2; omega), Int.add_zero]
  | succ n ih =>
    rw [v_ki_s, am_sumb_s, ih]
    by_cases h1 : v_due V n = true ∧ v_paid V (n : Int) = true ∧ vH V n = (j : Int)
    · rw [if_pos h1, if_pos h1, am_add_add]
    · rw [if_neg h1, if_neg h1, Int.add_zero]
theorem v_run_S {V : am_Vw} (hv : v_ok V) {i : Int} (h0 : 0 ≤ i) (h1 : i < 7) {k : Nat} (hk : vD V + (k : Int) ≤ 99) : vS (v_run V k) i.toNat = v_kis V i k := by
  induction k with
  | zero =>
    show vS V i.toNat = am_lk (vS V) 7 i
    rw [am_lk_in h0 h1]
  | succ k ih =>
    have hok := v_run_ok hv (k := k) (by omega)
    have hi := (v_ok_i hok i.toNat (by omega)).2.2.1
    obtain ⟨a1, a2, a3, a4, a5, a6, a7, a8, a9, a10, a11⟩ := v_run_c (V := V) (k := k)
    show v_ki (v_run V k) (vQ (v_run V k)).toNat i.toNat = _
    rw [v_ki_sum hi, ih (by omega), v_kis_s]
    have e : am_sumb (vQ (v_run V k)).toNat (fun p => if v_due (v_run V k) p = true ∧ v_paid (v_run V k) (p : Int) = true ∧ vH (v_run V k) p = (i.toNat : Int) then vN (v_run V k) p else 0) = v_pon V (vD V + (k : Int)) i := by
      unfold v_pon
      rw [a2]
      refine am_sumb_eq (fun p hp => ?_)
      have h3 := v_run_T (V := V) (k := k) (p := p) (by omega)
      have hdu : v_due (v_run V k) p = true ↔ vT V p = 0 ∧ vE V p = vD V + (k : Int) := by
        unfold v_due
        rw [decide_eq_true_eq, a10, a3, h3]
        constructor
        · intro w; exact ⟨w.1.1, w.2⟩
        · intro w; exact ⟨⟨w.1, by omega⟩, w.2⟩
      rw [v_run_paid, a9, a8]
      by_cases h2 : (vT V p = 0 ∧ vE V p = vD V + (k : Int)) ∧ v_paid V (p : Int) = true ∧ vH V p = i
      · rw [if_pos ⟨hdu.2 h2.1, h2.2.1, by omega⟩, if_pos ⟨h2.1, h2.2.1, Or.inr h2.2.2⟩]
      · rw [if_neg (fun w => h2 ⟨hdu.1 w.1, w.2.1, by have := w.2.2; omega⟩), if_neg (fun w => h2 ⟨w.1, w.2.1, by rcases w.2.2 with w3 | w3 <;> omega⟩)]
    rw [e]
