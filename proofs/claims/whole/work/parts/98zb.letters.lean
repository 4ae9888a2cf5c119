/-! A STREET'S LETTERS, on paper -/
def u_x (c : Int) : Nat := if c = 100 then 4 else if c = 109 then 3 else if c = 111 then 2 else if c = 112 then 0 else if c = 117 then 1 else 5
def u_t (c : Int) : List Int := am_txt.getD (u_x c) []
def u_l (c : Int) : Nat := (u_t c).length
def u_suit (f x : Int) : Bool := if f = 57 then decide (48 ≤ x ∧ x ≤ 57) else if f = 61 then decide (x = 61 ∨ x = 120) else decide (x = f)
def u_S (le : Nat → Int) : Nat → Nat
  | 0 => 0
  | k + 1 => u_S le k + u_l (le (u_S le k))
def u_at (le : Nat → Int) (n s i : Nat) : Prop := s + i < n ∧ u_suit ((u_t (le s)).getD i 0) (le (s + i)) = true
def u_fit (le : Nat → Int) (n s : Nat) : Prop := 0 < u_l (le s) ∧ ∀ i, i < u_l (le s) → u_at le n s i
def u_bad (le : Nat → Int) (n s i : Nat) : Prop := (u_l (le s) = 0 ∧ i = 0) ∨ (i < u_l (le s) ∧ (∀ j, j < i → u_at le n s j) ∧ ¬ u_at le n s i)
theorem u_x_cases (c : Int) : (c = 100 ∧ u_x c = 4) ∨ (c = 109 ∧ u_x c = 3) ∨ (c = 111 ∧ u_x c = 2) ∨ (c = 112 ∧ u_x c = 0) ∨ (c = 117 ∧ u_x c = 1) ∨ ((¬ c = 100 ∧ ¬ c = 109 ∧ ¬ c = 111 ∧ ¬ c = 112 ∧ ¬ c = 117) ∧ u_x c = 5) := by
  unfold u_x
  by_cases q1 : c = 100
  · exact Or.inl ⟨q1, if_pos q1⟩
  · by_cases q2 : c = 109
    · exact Or.inr (Or.inl ⟨q2, by rw [if_neg q1, if_pos q2]⟩)
    · by_cases q3 : c = 111
      · exact Or.inr (Or.inr (Or.inl ⟨q3, by rw [if_neg q1, if_neg q2, if_pos q3]⟩))
      · by_cases q4 : c = 112
        · exact Or.inr (Or.inr (Or.inr (Or.inl ⟨q4, by rw [if_neg q1, if_neg q2, if_neg q3, if_pos q4]⟩)))
        · by_cases q5 : c = 117
          · exact Or.inr (Or.inr (Or.inr (Or.inr (Or.inl ⟨q5, by rw [if_neg q1, if_neg q2, if_neg q3, if_neg q4, if_pos q5]⟩))))
          · exact Or.inr (Or.inr (Or.inr (Or.inr (Or.inr ⟨⟨q1, q2, q3, q4, q5⟩, by rw [if_neg q1, if_neg q2, if_neg q3, if_neg q4, if_neg q5]⟩))))
theorem u_l_of {c : Int} {x m : Nat} (hx : u_x c = x) (hm : (am_txt.getD x []).length = m) : u_l c = m := by
  unfold u_l u_t; rw [hx]; exact hm
theorem u_l_3 {c : Int} (hc : 0 < u_l c) : 3 ≤ u_l c ∧ u_l c ≤ 9 := by
  rcases u_x_cases c with ⟨-, h⟩ | ⟨-, h⟩ | ⟨-, h⟩ | ⟨-, h⟩ | ⟨-, h⟩ | ⟨-, h⟩
  · have := u_l_of (m := 3) h rfl; omega
  · have := u_l_of (m := 5) h rfl; omega
  · have := u_l_of (m := 9) h rfl; omega
  · have := u_l_of (m := 4) h rfl; omega
  · have := u_l_of (m := 4) h rfl; omega
  · have := u_l_of (m := 0) h rfl; omega
theorem u_first {P : Nat → Prop} : ∀ m, (∃ i, i < m ∧ (∀ j, j < i → P j) ∧ ¬ P i) ∨ (∀ i, i < m → P i) := by
  intro m
  induction m with
  | zero => exact Or.inr (fun i hi => absurd hi (by omega))
  | succ m ih =>
    rcases ih with ⟨i, h1, h2⟩ | h
    · exact Or.inl ⟨i, by omega, h2⟩
    · by_cases q : P m
      · exact Or.inr (fun i hi => by
          by_cases q2 : i = m
          · rw [q2]; exact q
          · exact h i (by omega))
      · exact Or.inl ⟨m, by omega, h, q⟩
theorem u_tri {le : Nat → Int} {n s : Nat} : (∃ i, u_bad le n s i) ∨ u_fit le n s := by
  by_cases q : u_l (le s) = 0
  · exact Or.inl ⟨0, Or.inl ⟨q, rfl⟩⟩
  · rcases u_first (P := u_at le n s) (u_l (le s)) with ⟨i, h1, h2, h3⟩ | h
    · exact Or.inl ⟨i, Or.inr ⟨h1, h2, h3⟩⟩
    · exact Or.inr ⟨by omega, h⟩
/-- a letter with which no STREET can go on -/
def u_Bad (le : Nat → Int) (n k i : Nat) : Prop := (∀ j, j < k → u_fit le n (u_S le j)) ∧ (k = 0 ∨ u_S le k < n) ∧ u_bad le n (u_S le k) i
def u_Good (le : Nat → Int) (n K : Nat) : Prop := 0 < K ∧ (∀ j, j < K → u_fit le n (u_S le j)) ∧ u_S le K = n
theorem u_S_s {le : Nat → Int} {k : Nat} : u_S le (k + 1) = u_S le k + u_l (le (u_S le k)) := rfl
theorem u_fit_lt {le : Nat → Int} {n s : Nat} (hf : u_fit le n s) : s + u_l (le s) ≤ n := by
  have h1 := u_l_3 hf.1
  have h2 := (hf.2 (u_l (le s) - 1) (by omega)).1
  omega
theorem u_S_mono {le : Nat → Int} {n K : Nat} (hf : ∀ j, j < K → u_fit le n (u_S le j)) : ∀ k, k ≤ K → 3 * k ≤ u_S le k ∧ (k < K → u_S le k < n) ∧ (0 < k → u_S le k ≤ n) := by
  intro k
  induction k with
  | zero =>
    intro _
    refine ⟨by omega, fun h => ?_, fun h => absurd h (by omega)⟩
    have h1 := u_fit_lt (hf 0 h)
    have h2 := u_l_3 (hf 0 h).1
    omega
  | succ k ih =>
    intro hk
    have h1 := hf k (by omega)
    have h2 := u_l_3 h1.1
    have h3 := u_fit_lt h1
    have h4 := ih (by omega)
    rw [u_S_s]
    refine ⟨by omega, fun h => ?_, fun _ => h3⟩
    have h5 := u_fit_lt (hf (k + 1) h)
    have h6 := u_l_3 (hf (k + 1) h).1
    rw [u_S_s] at h5 h6
    omega
theorem u_all {le : Nat → Int} {n : Nat} (hn : n ≤ 96) : (∃ k i, u_Bad le n k i) ∨ (∃ K, u_Good le n K) := by
  have key : ∀ m, ((∃ k i, u_Bad le n k i) ∨ (∃ K, u_Good le n K)) ∨ ((∀ j, j < m → u_fit le n (u_S le j)) ∧ (m = 0 ∨ u_S le m < n)) := by
    intro m
    induction m with
    | zero => exact Or.inr ⟨fun j hj => absurd hj (by omega), Or.inl rfl⟩
    | succ m ih =>
      rcases ih with h | ⟨h1, h2⟩
      · exact Or.inl h
      · rcases u_tri (le := le) (n := n) (s := u_S le m) with ⟨i, hi⟩ | hf
        · exact Or.inl (Or.inl ⟨m, i, h1, h2, hi⟩)
        · have hall : ∀ j, j < m + 1 → u_fit le n (u_S le j) := fun j hj => by
            by_cases q : j = m
            · rw [q]; exact hf
            · exact h1 j (by omega)
          have h3 := u_fit_lt hf
          by_cases q : u_S le (m + 1) = n
          · exact Or.inl (Or.inr ⟨m + 1, by omega, hall, q⟩)
          · refine Or.inr ⟨hall, Or.inr ?_⟩
            rw [u_S_s] at q ⊢
            omega
  rcases key 97 with h | ⟨h1, h2⟩
  · exact h
  · have h3 := (u_S_mono h1 97 (by omega)).1
    rcases h2 with h2 | h2 <;> omega
/-! what a statement does -/
def u_d (le : Nat → Int) (s i : Nat) : Int := le (s + i) - 48
def u_dd (le : Nat → Int) (s i : Nat) : Int := 10 * u_d le s i + u_d le s (i + 1)
def u_do (le : Nat → Int) (s : Nat) (V : am_Vw) : Option am_Vw :=
  if le s = 100 then (if vD V + u_d le s 1 ≤ 99 then some (v_run V (u_d le s 1).toNat) else none)
  else if le s = 109 then (if v_take V (u_dd le s 1) (u_d le s 3) = true then some (v_ovr V (u_dd le s 1).toNat (u_d le s 3)) else none)
  else if le s = 111 then (if v_two V (u_d le s 1) (u_d le s 2) = true ∧ vQ V < 16 ∧ 1 ≤ u_dd le s 3 ∧ u_dd le s 3 ≤ 40 ∧ 0 ≤ u_dd le s 5 ∧ u_dd le s 5 ≤ 98 then some (v_pap V (u_d le s 1) (u_d le s 2) (u_dd le s 3) (u_dd le s 5) (if le (s + 7) = 120 then 1 else 0)) else none)
  else if le s = 112 then (if (0 ≤ u_d le s 1 ∧ u_d le s 1 ≤ 5) ∧ (0 ≤ u_d le s 2 ∧ u_d le s 2 ≤ 9) ∧ vP V < 7 then some (v_per V (u_d le s 1) (u_d le s 2)) else none)
  else if le s = 117 then (if v_two V (u_d le s 1) (u_d le s 2) = true then some (v_flip V (u_d le s 1).toNat (u_d le s 2).toNat) else none)
  else none
def u_V (le : Nat → Int) (V : am_Vw) : Nat → Option am_Vw
  | 0 => some V
  | k + 1 => match u_V le V k with
    | none => none
    | some U => u_do le (u_S le k) U
theorem u_V_s {le : Nat → Int} {V U : am_Vw} {k : Nat} (hu : u_V le V k = some U) : u_V le V (k + 1) = u_do le (u_S le k) U := by
  show (match u_V le V k with | none => none | some U => u_do le (u_S le k) U) = _
  rw [hu]
theorem u_suit9 {x : Int} (h : u_suit 57 x = true) : 48 ≤ x ∧ x ≤ 57 := by
  unfold u_suit at h
  rw [if_pos rfl] at h
  exact of_decide_eq_true h
theorem u_dig {le : Nat → Int} {n s i : Nat} (hf : u_fit le n s) (hi : i < u_l (le s)) (h9 : (u_t (le s)).getD i 0 = 57) : s + i < n ∧ 0 ≤ u_d le s i ∧ u_d le s i ≤ 9 := by
  have h1 := hf.2 i hi
  unfold u_at at h1
  rw [h9] at h1
  have h2 := u_suit9 h1.2
  unfold u_d
  exact ⟨h1.1, by omega, by omega⟩
theorem u_t_of {c : Int} {x : Nat} (hx : u_x c = x) : u_t c = am_txt.getD x [] := by unfold u_t; rw [hx]
theorem u_run_tri {le : Nat → Int} {V : am_Vw} : ∀ K, (∃ k U, k < K ∧ u_V le V k = some U ∧ u_do le (u_S le k) U = none) ∨ (∃ U, u_V le V K = some U) := by
  intro K
  induction K with
  | zero => exact Or.inr ⟨V, rfl⟩
  | succ K ih =>
    rcases ih with ⟨k, U, h1, h2, h3⟩ | ⟨U, h⟩
    · exact Or.inl ⟨k, U, by omega, h2, h3⟩
    · have h4 := u_V_s h
      cases h5 : u_do le (u_S le K) U with
      | none => exact Or.inl ⟨K, U, by omega, h, h5⟩
      | some W => exact Or.inr ⟨W, h4.trans h5⟩
theorem u_V_lt {le : Nat → Int} {V U : am_Vw} {k : Nat} : ∀ m, u_V le V (k + m) = some U → ∃ W, u_V le V k = some W := by
  intro m
  induction m generalizing U with
  | zero => exact fun h => ⟨U, h⟩
  | succ m ih =>
    intro h
    cases h2 : u_V le V (k + m) with
    | none =>
      have h3 : u_V le V (k + m + 1) = none := by
        show (match u_V le V (k + m) with | none => none | some U => u_do le (u_S le (k + m)) U) = _
        rw [h2]
      rw [show k + (m + 1) = k + m + 1 by omega, h3] at h
      cases h
    | some W => exact ih h2
theorem u_do_ok {le : Nat → Int} {n s : Nat} {V U : am_Vw} (hf : u_fit le n s) (hv : v_ok V) (hz : v_z V) (hu : u_do le s V = some U) : v_ok U ∧ v_z U := by
  have hP := v_ok_P hv
  revert hu
  unfold u_do
  rcases u_x_cases (le s) with ⟨e, hx⟩ | ⟨e, hx⟩ | ⟨e, hx⟩ | ⟨e, hx⟩ | ⟨e, hx⟩ | ⟨⟨e1, e2, e3, e4, e5⟩, hx⟩
  · rw [if_pos e]
    have hl := u_l_of (m := 3) hx rfl
    have d1 := u_dig hf (i := 1) (by omega) (by rw [u_t_of hx]; rfl)
    split
    · intro w
      obtain ⟨a, ha⟩ := Int.eq_ofNat_of_zero_le d1.2.1
      injection w with w
      rw [← w, ha, Int.toNat_natCast]
      refine ⟨v_run_ok hv (by omega), ?_⟩
      have key : ∀ k : Nat, vD V + (k : Int) ≤ 99 → v_z (v_run V k) := fun k => by
        induction k with
        | zero => exact fun _ => hz
        | succ k ih => exact fun hk => v_z_day1 (v_run_ok hv (by omega)) (ih (by omega))
      exact key a (by omega)
    · intro w; cases w
  · rw [if_neg (by omega), if_pos e]
    split
    · rename_i ht
      intro w
      injection w with w
      obtain ⟨p, hp, h16, ho⟩ := v_take_o hv ht
      have h3 : v_isP V (u_d le s 3) = true := by
        unfold v_take at ht
        rw [Bool.and_eq_true, Bool.and_eq_true, Bool.and_eq_true] at ht
        exact ht.1.1.2
      rw [← w, hp, Int.toNat_natCast]
      exact ⟨v_ok_ovr hv h16 (v_isP_iff.1 h3), v_z_ovr hz h16⟩
    · intro w; cases w
  · rw [if_neg (by omega), if_neg (by omega), if_pos e]
    split
    · rename_i hc
      intro w
      injection w with w
      rw [← w]
      exact ⟨v_ok_pap hv hc.1 hc.2.1 ⟨hc.2.2.1, hc.2.2.2.1⟩ hc.2.2.2.2 (by split <;> omega), v_z_pap hv hz hc.2.1⟩
    · intro w; cases w
  · rw [if_neg (by omega), if_neg (by omega), if_neg (by omega), if_pos e]
    split
    · rename_i hc
      intro w
      injection w with w
      rw [← w]
      exact ⟨v_ok_per hv hc.2.2 hc.1 hc.2.1, v_z_per hv hz hc.2.2⟩
    · intro w; cases w
  · rw [if_neg (by omega), if_neg (by omega), if_neg (by omega), if_neg (by omega), if_pos e]
    split
    · rename_i hc
      intro w
      injection w with w
      obtain ⟨f1, f2, -⟩ := v_two_iff.1 hc
      rw [← w]
      exact ⟨v_ok_flip hv (by omega) (by omega), v_z_flip hz (by omega)⟩
    · intro w; cases w
  · rw [if_neg e1, if_neg e2, if_neg e3, if_neg e4, if_neg e5]
    intro w; cases w
theorem u_do_nl {le : Nat → Int} {s : Nat} {V U : am_Vw} (hv : v_ok V) (hn : v_nl V) (hu : u_do le s V = some U) : v_nl U := by
  revert hu
  unfold u_do
  split
  · split
    · intro w
      injection w with w
      rw [← w]; exact v_nl_run hn _
    · intro w; cases w
  · split
    · split
      · intro w
        injection w with w
        rw [← w]; exact v_nl_ovr hn
      · intro w; cases w
    · split
      · split
        · rename_i hc
          intro w
          injection w with w
          rw [← w]; exact v_nl_pap hv hn hc.1 hc.2.1
        · intro w; cases w
      · split
        · split
          · intro w
            injection w with w
            rw [← w]; exact v_nl_per hn
          · intro w; cases w
        · split
          · split
            · intro w
              injection w with w
              rw [← w]; exact v_nl_flip hn
            · intro w; cases w
          · intro w; cases w
theorem u_V_ok {le : Nat → Int} {n K : Nat} {V : am_Vw} (hf : ∀ j, j < K → u_fit le n (u_S le j)) (hv : v_ok V) (hz : v_z V) : ∀ k U, k ≤ K → u_V le V k = some U → v_ok U ∧ v_z U := by
  intro k
  induction k with
  | zero =>
    intro U _ h
    injection h with h
    rw [← h]; exact ⟨hv, hz⟩
  | succ k ih =>
    intro U hk h
    cases h2 : u_V le V k with
    | none =>
      have h3 : u_V le V (k + 1) = none := by
        show (match u_V le V k with | none => none | some U => u_do le (u_S le k) U) = _
        rw [h2]
      rw [h3] at h; cases h
    | some W =>
      have h4 := ih W (by omega) h2
      rw [u_V_s h2] at h
      exact u_do_ok (hf k (by omega)) h4.1 h4.2 h
theorem u_V_nl {le : Nat → Int} {n K : Nat} {V : am_Vw} (hf : ∀ j, j < K → u_fit le n (u_S le j)) (hv : v_ok V) (hz : v_z V) (hn : v_nl V) : ∀ k U, k ≤ K → u_V le V k = some U → v_nl U := by
  intro k
  induction k with
  | zero =>
    intro U _ h
    injection h with h
    rw [← h]; exact hn
  | succ k ih =>
    intro U hk h
    cases h2 : u_V le V k with
    | none =>
      have h3 : u_V le V (k + 1) = none := by
        show (match u_V le V k with | none => none | some U => u_do le (u_S le k) U) = _
        rw [h2]
      rw [h3] at h; cases h
    | some W =>
      rw [u_V_s h2] at h
      exact u_do_nl (u_V_ok hf hv hz k W (by omega) h2).1 (ih W (by omega) h2) h