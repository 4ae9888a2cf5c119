/-! ORDERS, RISING: which two is told i-th in the k-th; sooner ones -/
def an_cu (U : Nat) : Nat → Nat
  | 0 => 0
  | n + 1 => an_cu U n + (bif Nat.testBit U n then 0 else 1)
theorem an_cu_s {U n : Nat} : an_cu U (n + 1) = an_cu U n + (bif Nat.testBit U n then 0 else 1) := rfl
theorem an_cu_m {U n m : Nat} (h : n ≤ m) : an_cu U n ≤ an_cu U m := by
  induction m with
  | zero => rw [show n = 0 by omega]; exact Nat.le_refl _
  | succ m ih =>
    by_cases q : n = m + 1
    · rw [q]; exact Nat.le_refl _
    · have := ih (by omega)
      rw [an_cu_s]
      omega
theorem an_cu_lt {U n m : Nat} (h : n < m) (hn : Nat.testBit U n = false) : an_cu U n < an_cu U m := by
  have h1 := an_cu_m (U := U) (show n + 1 ≤ m from h)
  rw [an_cu_s, hn] at h1
  exact h1
theorem an_cu_le {U n : Nat} : an_cu U n ≤ n := by
  induction n with
  | zero => exact Nat.le_refl _
  | succ n ih =>
    rw [an_cu_s]
    cases Nat.testBit U n
    · show an_cu U n + 1 ≤ n + 1; omega
    · show an_cu U n + 0 ≤ n + 1; omega
theorem an_cu_ex {U m j : Nat} (h : j < an_cu U m) : ∃ n, n < m ∧ Nat.testBit U n = false ∧ an_cu U n = j := by
  induction m with
  | zero => exact absurd h (Nat.not_lt_zero j)
  | succ m ih =>
    by_cases q : j < an_cu U m
    · obtain ⟨n, h1, h2, h3⟩ := ih q
      exact ⟨n, by omega, h2, h3⟩
    · rw [an_cu_s] at h
      cases hx : Nat.testBit U m with
      | true => rw [hx] at h; exact absurd h q
      | false =>
        rw [hx] at h
        have h2 : j < an_cu U m + 1 := h
        exact ⟨m, by omega, hx, by omega⟩
theorem an_cu_or {U n m : Nat} (hn : n < m) (hx : Nat.testBit U n = false) : an_cu (U ||| 2 ^ n) m + 1 = an_cu U m := by
  have key : ∀ m, an_cu (U ||| 2 ^ n) m + (if n < m then 1 else 0) = an_cu U m := by
    intro m
    induction m with
    | zero => rw [if_neg (by omega)]; rfl
    | succ m ih =>
      rw [an_cu_s, an_cu_s, Nat.testBit_or, Nat.testBit_two_pow]
      by_cases q : n = m
      · rw [decide_eq_true q, Bool.or_true, ← q, hx]
        rw [← q, if_neg (by omega)] at ih
        rw [if_pos (by omega)]
        show an_cu (U ||| 2 ^ n) n + 0 + 1 = an_cu U n + 1
        omega
      · rw [decide_eq_false q, Bool.or_false]
        by_cases q2 : n < m
        · rw [if_pos q2] at ih
          rw [if_pos (by omega)]
          omega
        · rw [if_neg q2] at ih
          rw [if_neg (by omega)]
          omega
  have h1 := key m
  rw [if_pos hn] at h1
  exact h1
def an_nu (U j : Nat) : Nat := (am_fst (fun n => !Nat.testBit U n && decide (an_cu U n = j)) 32 0).getD 0
theorem an_nu_eq {U n : Nat} (hn : n < 32) (hx : Nat.testBit U n = false) : an_nu U (an_cu U n) = n := by
  unfold an_nu
  cases hf : am_fst (fun i => !Nat.testBit U i && decide (an_cu U i = an_cu U n)) 32 0 with
  | none =>
    have h1 := am_fst_none hf n (by omega) (by omega)
    rw [hx, decide_eq_true rfl] at h1
    cases h1
  | some k =>
    obtain ⟨h1, h2, h3⟩ := am_fst_some hf
    rw [Bool.and_eq_true, decide_eq_true_eq] at h2
    show k = n
    have h4 : Nat.testBit U k = false := by
      have := h2.1
      cases h5 : Nat.testBit U k with
      | false => rfl
      | true => rw [h5] at this; cases this
    by_cases q : k < n
    · have := an_cu_lt q h4; omega
    · by_cases q2 : n < k
      · have := an_cu_lt q2 hx; omega
      · omega
/-- behind i of the k-th order of m: those told (bits), what is left of k -/
def an_lo (m k : Nat) : Nat → Nat × Nat
  | 0 => (0, k)
  | i + 1 => ((an_lo m k i).1 ||| 2 ^ an_nu (an_lo m k i).1 ((an_lo m k i).2 / an_fac (m - 1 - i)), (an_lo m k i).2 % an_fac (m - 1 - i))
def an_od (m k i : Nat) : Nat := an_nu (an_lo m k i).1 ((an_lo m k i).2 / an_fac (m - 1 - i))
theorem an_lo_s {m k i : Nat} : an_lo m k (i + 1) = ((an_lo m k i).1 ||| 2 ^ an_od m k i, (an_lo m k i).2 % an_fac (m - 1 - i)) := rfl
theorem an_fac_s {m i : Nat} (hi : i < m) : an_fac (m - i) = an_fac (m - 1 - i) * (m - i) := by
  rw [show m - i = (m - 1 - i) + 1 by omega]
  rfl
theorem an_lo_in {m k : Nat} (hm : m ≤ 7) (hk : k < an_fac m) : ∀ i, i ≤ m → (an_lo m k i).2 < an_fac (m - i) ∧ an_cu (an_lo m k i).1 m = m - i := by
  intro i
  induction i with
  | zero =>
    intro _
    refine ⟨hk, ?_⟩
    have h1 : ∀ m, an_cu 0 m = m := by
      intro m
      induction m with
      | zero => rfl
      | succ m ih => rw [an_cu_s, ih, Nat.zero_testBit]; rfl
    exact h1 m
  | succ i ih =>
    intro hi
    obtain ⟨h1, h2⟩ := ih (by omega)
    have hf := an_fac_pos (n := m - 1 - i)
    rw [an_fac_s (by omega)] at h1
    have h3 : (an_lo m k i).2 / an_fac (m - 1 - i) < m - i := Nat.div_lt_of_lt_mul h1
    obtain ⟨n, h4, h5, h6⟩ := an_cu_ex (U := (an_lo m k i).1) (m := m) (j := (an_lo m k i).2 / an_fac (m - 1 - i)) (by omega)
    have h7 : an_od m k i = n := by
      unfold an_od
      rw [← h6]
      exact an_nu_eq (by omega) h5
    rw [an_lo_s, h7]
    refine ⟨?_, ?_⟩
    · rw [show m - (i + 1) = m - 1 - i by omega]
      exact Nat.mod_lt _ hf
    · have := an_cu_or h4 h5
      show an_cu ((an_lo m k i).1 ||| 2 ^ n) m = _
      omega
theorem an_od_in {m k i : Nat} (hm : m ≤ 7) (hk : k < an_fac m) (hi : i < m) : an_od m k i < m ∧ Nat.testBit (an_lo m k i).1 (an_od m k i) = false ∧ an_cu (an_lo m k i).1 (an_od m k i) = (an_lo m k i).2 / an_fac (m - 1 - i) := by
  obtain ⟨h1, h2⟩ := an_lo_in hm hk i (by omega)
  rw [an_fac_s hi] at h1
  have h3 : (an_lo m k i).2 / an_fac (m - 1 - i) < m - i := Nat.div_lt_of_lt_mul h1
  obtain ⟨n, h4, h5, h6⟩ := an_cu_ex (U := (an_lo m k i).1) (m := m) (j := (an_lo m k i).2 / an_fac (m - 1 - i)) (by omega)
  have h7 : an_od m k i = n := by
    unfold an_od
    rw [← h6]
    exact an_nu_eq (by omega) h5
  rw [h7]
  exact ⟨h4, h5, h6⟩
/-- the orders from K on that begin alike: those told are U -/
def an_bk (m i K U : Nat) : Prop := ∀ q, q < an_fac (m - i) → an_lo m (K + q) i = (U, q) ∧ ∀ j, j < i → an_od m (K + q) j = an_od m K j
theorem an_bk_0 {m : Nat} : an_bk m 0 0 0 := fun q _ => ⟨by show (0, 0 + q) = (0, q); rw [Nat.zero_add], fun j hj => absurd hj (Nat.not_lt_zero j)⟩
theorem an_bk_s {m i K U n : Nat} (hm : m ≤ 7) (hi : i < m) (hU : an_cu U m = m - i) (hb : an_bk m i K U) (hn : n < m) (hx : Nat.testBit U n = false) : an_bk m (i + 1) (K + an_cu U n * an_fac (m - 1 - i)) (U ||| 2 ^ n) ∧ an_od m (K + an_cu U n * an_fac (m - 1 - i)) i = n ∧ (∀ j, j < i → an_od m (K + an_cu U n * an_fac (m - 1 - i)) j = an_od m K j) := by
  have hf := an_fac_pos (n := m - 1 - i)
  have h1 := an_cu_lt hn hx
  have h2 : ∀ q, q < an_fac (m - 1 - i) → an_cu U n * an_fac (m - 1 - i) + q < an_fac (m - i) := fun q hq => by
    rw [an_fac_s hi]
    have h3 : (an_cu U n + 1) * an_fac (m - 1 - i) ≤ (m - i) * an_fac (m - 1 - i) := Nat.mul_le_mul_right _ (by omega)
    rw [Nat.add_mul, Nat.one_mul, Nat.mul_comm (m - i)] at h3
    omega
  have h4 : ∀ q, q < an_fac (m - 1 - i) → an_lo m (K + an_cu U n * an_fac (m - 1 - i) + q) i = (U, an_cu U n * an_fac (m - 1 - i) + q) ∧ (∀ j, j < i → an_od m (K + an_cu U n * an_fac (m - 1 - i) + q) j = an_od m K j) ∧ an_od m (K + an_cu U n * an_fac (m - 1 - i) + q) i = n := fun q hq => by
    have h5 := hb _ (h2 q hq)
    rw [← Nat.add_assoc] at h5
    refine ⟨h5.1, h5.2, ?_⟩
    unfold an_od
    rw [h5.1]
    show an_nu U ((an_cu U n * an_fac (m - 1 - i) + q) / an_fac (m - 1 - i)) = n
    rw [Nat.mul_comm, Nat.mul_add_div hf, Nat.div_eq_of_lt hq, Nat.add_zero]
    exact an_nu_eq (by omega) hx
  have h6 := h4 0 hf
  rw [Nat.add_zero] at h6
  refine ⟨fun q hq => ?_, h6.2.2, h6.2.1⟩
  rw [show m - (i + 1) = m - 1 - i by omega] at hq
  obtain ⟨h7, h8, h9⟩ := h4 q hq
  refine ⟨?_, fun j hj => ?_⟩
  · rw [an_lo_s, h9, h7]
    show (U ||| 2 ^ n, (an_cu U n * an_fac (m - 1 - i) + q) % an_fac (m - 1 - i)) = (U ||| 2 ^ n, q)
    rw [Nat.mul_comm, Nat.mul_add_mod, Nat.mod_eq_of_lt hq]
  · by_cases q2 : j = i
    · rw [q2, h9, h6.2.2]
    · rw [h8 j (by omega), h6.2.1 j (by omega)]
/-- the first of the least -/
def an_up (e : Nat → Int) (k : Nat) (s : Int × Nat) : Int × Nat := if e k < s.1 then (e k, k) else s
def an_fl (e : Nat → Int) (K N : Nat) (s : Int × Nat) : Int × Nat := am_for (fun q s => an_up e (K + q) s) N s
theorem an_fl_s {e : Nat → Int} {K N : Nat} {s : Int × Nat} : an_fl e K (N + 1) s = an_up e (K + N) (an_fl e K N s) := by
  unfold an_fl
  exact am_for_s
theorem an_fl_0 {e : Nat → Int} {K : Nat} {s : Int × Nat} : an_fl e K 0 s = s := rfl
theorem an_fl_a {e : Nat → Int} {K N M : Nat} {s : Int × Nat} : an_fl e K (N + M) s = an_fl e (K + N) M (an_fl e K N s) := by
  induction M with
  | zero => rfl
  | succ M ih => rw [← Nat.add_assoc, an_fl_s, ih, an_fl_s, Nat.add_assoc]
theorem an_fl_id {e : Nat → Int} {K N : Nat} {s : Int × Nat} (h : ∀ q, q < N → s.1 ≤ e (K + q)) : an_fl e K N s = s := by
  induction N with
  | zero => rfl
  | succ N ih =>
    have h1 := h N (by omega)
    rw [an_fl_s, ih (fun q hq => h q (by omega))]
    unfold an_up
    rw [if_neg (by omega)]
theorem an_fl_le {e : Nat → Int} {K N : Nat} {s : Int × Nat} : (an_fl e K N s).1 ≤ s.1 := by
  induction N with
  | zero => exact Int.le_refl _
  | succ N ih =>
    rw [an_fl_s]
    unfold an_up
    by_cases q : e (K + N) < (an_fl e K N s).1
    · rw [if_pos q]; show e (K + N) ≤ _; omega
    · rw [if_neg q]; exact ih
/-- the reference's: below 0 none is told -/
def an_rf (e : Nat → Int) (n : Nat) : Int × Nat := am_for (fun k s => if s.1 < 0 ∨ e k < s.1 then (e k, k) else s) n (-1, 0)
theorem an_rf_s {e : Nat → Int} {n : Nat} : an_rf e (n + 1) = if (an_rf e n).1 < 0 ∨ e n < (an_rf e n).1 then (e n, n) else an_rf e n := by
  unfold an_rf
  exact am_for_s
theorem an_rf_fl {e : Nat → Int} (he : ∀ k, 0 ≤ e k ∧ e k < 1000000) : ∀ n, an_rf e (n + 1) = an_fl e 0 (n + 1) (1000000, 0) ∧ 0 ≤ (an_rf e (n + 1)).1 := by
  intro n
  induction n with
  | zero =>
    have h1 := he 0
    have e1 : an_rf e 1 = (e 0, 0) := by
      rw [an_rf_s]
      exact if_pos (Or.inl (show (-1 : Int) < 0 by decide))
    have e2 : an_fl e 0 1 (1000000, 0) = (e 0, 0) := by
      rw [an_fl_s]
      exact if_pos (show e (0 + 0) < 1000000 from h1.2)
    rw [e1, e2]
    exact ⟨rfl, h1.1⟩
  | succ n ih =>
    have h1 := he (n + 1)
    rw [an_rf_s, an_fl_s, ← ih.1]
    unfold an_up
    rw [Nat.zero_add]
    by_cases q : e (n + 1) < (an_rf e (n + 1)).1
    · rw [if_pos (Or.inr q), if_pos q]
      exact ⟨rfl, h1.1⟩
    · rw [if_neg q, if_neg (fun w => by rcases w with w | w <;> omega)]
      exact ⟨rfl, ih.2⟩
/-! when an order is done; nobody is done sooner than what is ahead of him takes -/
def an_oe (s : an_T) (k : Nat) : Int := (an_sc s.2 (an_od s.1 k) s.1).2
def an_aU (s : an_T) (U p : Nat) : Int := am_sumb s.1 (fun t => if Nat.testBit U t = false ∧ ((s.2 t).1 = p ∨ (s.2 t).2.1 = p) then (s.2 t).2.2 else 0)
theorem an_aU_0 {s : an_T} {p : Nat} : an_aU s 0 p = an_ah s p := by
  unfold an_aU an_ah
  refine am_sumb_eq (fun t _ => ?_)
  by_cases q : (s.2 t).1 = p ∨ (s.2 t).2.1 = p
  · rw [if_pos q, if_pos ⟨Nat.zero_testBit t, q⟩]
  · rw [if_neg q, if_neg (fun w => q w.2)]
theorem an_aU_or {s : an_T} {U p n : Nat} (hn : n < s.1) (hx : Nat.testBit U n = false) : an_aU s (U ||| 2 ^ n) p = an_aU s U p - (if (s.2 n).1 = p ∨ (s.2 n).2.1 = p then (s.2 n).2.2 else 0) := by
  have h1 := am_sumb_one (n := s.1) (i := n) (x := if (s.2 n).1 = p ∨ (s.2 n).2.1 = p then (s.2 n).2.2 else 0) hn
  have key : an_aU s (U ||| 2 ^ n) p = am_sumb s.1 (fun t => (if Nat.testBit U t = false ∧ ((s.2 t).1 = p ∨ (s.2 t).2.1 = p) then (s.2 t).2.2 else 0) - (if t = n then (if (s.2 n).1 = p ∨ (s.2 n).2.1 = p then (s.2 n).2.2 else 0) else 0)) := am_sumb_eq (fun t _ => by
    show (if Nat.testBit (U ||| 2 ^ n) t = false ∧ ((s.2 t).1 = p ∨ (s.2 t).2.1 = p) then (s.2 t).2.2 else 0) = (if Nat.testBit U t = false ∧ ((s.2 t).1 = p ∨ (s.2 t).2.1 = p) then (s.2 t).2.2 else 0) - (if t = n then (if (s.2 n).1 = p ∨ (s.2 n).2.1 = p then (s.2 n).2.2 else 0) else 0)
    rw [Nat.testBit_or, Nat.testBit_two_pow]
    by_cases q : t = n
    · rw [if_pos q, decide_eq_true q.symm, Bool.or_true, if_neg (fun w => by cases w.1), q]
      by_cases q2 : (s.2 n).1 = p ∨ (s.2 n).2.1 = p
      · rw [if_pos ⟨hx, q2⟩, if_pos q2]; omega
      · rw [if_neg (fun w => q2 w.2), if_neg q2]; rfl
    · rw [if_neg q, decide_eq_false (fun w => q w.symm), Bool.or_false, Int.sub_zero])
  rw [key, am_sumb_sub, h1]
  rfl
theorem an_aU_f {s : an_T} {U p : Nat} (hU : an_cu U s.1 = 0) : an_aU s U p = 0 := by
  unfold an_aU
  refine (am_sumb_eq (f := fun _ => 0) (fun t ht => if_neg (fun w => ?_))).trans am_sumb_0
  have := an_cu_lt ht w.1
  omega
theorem an_aU_le {n : Nat} {s : an_T} (hs : an_tok n s) (h7 : s.1 ≤ 7) (U p : Nat) : 0 ≤ an_aU s U p ∧ an_aU s U p ≤ 4480 := by
  have h1 := am_sumb_le (n := s.1) (g := fun t => if Nat.testBit U t = false ∧ ((s.2 t).1 = p ∨ (s.2 t).2.1 = p) then (s.2 t).2.2 else 0) (A := 0) (B := 640) (fun k hk => by
    have h2 := hs k hk
    show 0 ≤ (if Nat.testBit U k = false ∧ ((s.2 k).1 = p ∨ (s.2 k).2.1 = p) then (s.2 k).2.2 else 0) ∧ (if Nat.testBit U k = false ∧ ((s.2 k).1 = p ∨ (s.2 k).2.1 = p) then (s.2 k).2.2 else 0) ≤ 640
    split <;> omega)
  unfold an_aU
  omega
theorem an_fs_up {T : Nat → Nat × Nat × Int} {t p : Nat} {F : Nat → Int} (hx : 0 ≤ (T t).2.2) : F p + (if (T t).1 = p ∨ (T t).2.1 = p then (T t).2.2 else 0) ≤ an_fs T t F p ∧ (¬ ((T t).1 = p ∨ (T t).2.1 = p) → an_fs T t F p = F p) := by
  have h1 : F (T t).1 ≤ am_max (F (T t).1) (F (T t).2.1) ∧ F (T t).2.1 ≤ am_max (F (T t).1) (F (T t).2.1) := by
    unfold am_max; split <;> omega
  have hd : an_dn T t F = am_max (F (T t).1) (F (T t).2.1) + (T t).2.2 := rfl
  unfold an_fs am_sx
  by_cases q2 : p = (T t).2.1
  · rw [if_pos q2, if_pos (Or.inr q2.symm), hd, q2]
    exact ⟨by omega, fun w => absurd (Or.inr rfl) w⟩
  · rw [if_neg q2]
    by_cases q1 : p = (T t).1
    · rw [if_pos q1, if_pos (Or.inl q1.symm), hd, q1]
      exact ⟨by omega, fun w => absurd (Or.inl rfl) w⟩
    · rw [if_neg q1, if_neg (fun w => by rcases w with w | w <;> omega), Int.add_zero]
      exact ⟨Int.le_refl _, fun _ => rfl⟩
/-- the latest is the greatest of all -/
theorem an_sc_up {T : Nat → Nat × Nat × Int} {ord : Nat → Nat} {m n : Nat} (hT : an_tok m (n, T)) (ho : ∀ i, i < n → ord i < n) : ∀ i, i ≤ n → ∀ p, (an_sc T ord i).1 p ≤ (an_sc T ord i).2 := by
  intro i
  induction i with
  | zero => exact fun _ _ => Int.le_refl _
  | succ i ih =>
    intro hi p
    have h1 := ih (by omega) p
    rw [an_sc_s]
    show an_fs T (ord i) (an_sc T ord i).1 p ≤ am_max (an_sc T ord i).2 (an_dn T (ord i) (an_sc T ord i).1)
    have h2 : (an_sc T ord i).2 ≤ am_max (an_sc T ord i).2 (an_dn T (ord i) (an_sc T ord i).1) ∧ an_dn T (ord i) (an_sc T ord i).1 ≤ am_max (an_sc T ord i).2 (an_dn T (ord i) (an_sc T ord i).1) := by
      unfold am_max; split <;> omega
    unfold an_fs am_sx
    (repeat' split) <;> omega
theorem an_sc_at {T : Nat → Nat × Nat × Int} {ord : Nat → Nat} {m n : Nat} (hT : an_tok m (n, T)) (ho : ∀ i, i < n → ord i < n) : ∀ i, i ≤ n → (an_sc T ord i).2 = 0 ∨ ∃ p, p < m ∧ (an_sc T ord i).1 p = (an_sc T ord i).2 := by
  intro i
  induction i with
  | zero => exact fun _ => Or.inl rfl
  | succ i ih =>
    intro hi
    have h0 := hT (ord i) (ho i (by omega))
    dsimp only at h0
    have h1 := ih (by omega)
    have h9 := an_sc_up hT ho i (by omega)
    rw [an_sc_s]
    show am_max (an_sc T ord i).2 (an_dn T (ord i) (an_sc T ord i).1) = 0 ∨ ∃ p, p < m ∧ an_fs T (ord i) (an_sc T ord i).1 p = am_max (an_sc T ord i).2 (an_dn T (ord i) (an_sc T ord i).1)
    have hd : an_fs T (ord i) (an_sc T ord i).1 (T (ord i)).2.1 = an_dn T (ord i) (an_sc T ord i).1 := if_pos rfl
    by_cases q : (an_sc T ord i).2 < an_dn T (ord i) (an_sc T ord i).1
    · right
      refine ⟨(T (ord i)).2.1, h0.2.1, ?_⟩
      rw [hd]
      exact (if_pos q).symm
    · have em : am_max (an_sc T ord i).2 (an_dn T (ord i) (an_sc T ord i).1) = (an_sc T ord i).2 := if_neg q
      rw [em]
      rcases h1 with h1 | ⟨p, h2, h3⟩
      · exact Or.inl h1
      · right
        refine ⟨p, h2, ?_⟩
        have h4 := an_fs_up (T := T) (t := ord i) (p := p) (F := (an_sc T ord i).1) (by omega)
        by_cases q2 : (T (ord i)).1 = p ∨ (T (ord i)).2.1 = p
        · have h5 := h4.1
          rw [if_pos q2] at h5
          have h6 : an_fs T (ord i) (an_sc T ord i).1 p = an_dn T (ord i) (an_sc T ord i).1 := by
            unfold an_fs am_sx
            rcases q2 with q2 | q2
            · rw [q2]
              by_cases q3 : p = (T (ord i)).2.1
              · rw [if_pos q3]
              · rw [if_neg q3, if_pos rfl]
            · rw [if_pos q2.symm]
          omega
        · rw [h4.2 q2]; exact h3
theorem an_lb {m n k : Nat} {T : Nat → Nat × Nat × Int} (hT : an_tok m (n, T)) (hn : n ≤ 7) (hk : k < an_fac n) (p : Nat) : ∀ j i, i + j = n → (an_sc T (an_od n k) i).1 p + an_aU (n, T) (an_lo n k i).1 p ≤ an_oe (n, T) k := by
  intro j
  induction j with
  | zero =>
    intro i hi
    have h1 := an_lo_in hn hk n (Nat.le_refl n)
    rw [show i = n by omega, an_aU_f (s := (n, T)) (by show an_cu (an_lo n k n).1 n = 0; omega), Int.add_zero]
    exact an_sc_up hT (fun i hi => (an_od_in hn hk hi).1) n (Nat.le_refl n) p
  | succ j ih =>
    intro i hi
    have h1 := ih (i + 1) (by omega)
    have h2 := an_od_in hn hk (show i < n by omega)
    have h3 := hT (an_od n k i) h2.1
    dsimp only at h3
    have h4 := an_fs_up (T := T) (t := an_od n k i) (p := p) (F := (an_sc T (an_od n k) i).1) (by omega)
    rw [an_sc_s, an_lo_s] at h1
    have h5 := an_aU_or (s := (n, T)) (U := (an_lo n k i).1) (p := p) h2.1 h2.2.1
    dsimp only at h1 h5
    rw [h5] at h1
    omega
