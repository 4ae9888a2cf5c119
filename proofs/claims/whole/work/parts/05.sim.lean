
/-! THE SMALL MACHINE IS THE MACHINE: what a state of the one says of the other -/
/-- classes' ids, their slots, the class of int arrays, the first new address, where the cells are -/
abbrev am_G : Type := (Nat → ClassId) × (Nat → Nat → Nat) × ClassId × Nat × (Nat → Nat)
def am_TG : List Jvm.Cond := lw_tbl.filter goodWord
theorem am_okW_in {i : Nat} {w : Jvm.Cond} (h : am_okW i w = true) : w ∈ am_TG := by
  simp only [am_okW, Bool.and_eq_true] at h
  exact List.mem_filter.mpr ⟨am_wd_in h.1, h.2⟩
theorem am_TG_good : ∀ w ∈ am_TG, (w.onTables && w.keeps) = true ∨ ∃ ty, w = .arrayClass ty := fun w h => good_of_word (List.mem_filter.mp h).2
theorem am_goodIn {ws : List Jvm.Cond} (h : ∀ w ∈ ws, w ∈ am_TG) : GoodIn am_TG ws := fun w hw => ⟨h w hw, am_TG_good w (h w hw)⟩
def am_cl : List vw_C := am_cs.map fun q => (q.1, (fun k => q.2.1.getD k ("", "", "", false)), q.2.1.length)
theorem am_cl_at {ci : Nat} (h : ci < 12) : am_cl[ci]? = some (am_R ci, am_T ci, am_N ci) := by
  have hl : ci < am_cs.length := h
  have e : am_cs.getD ci ("", [], [], 0, 0) = am_cs[ci] := by rw [List.getD_eq_getElem?_getD, List.getElem?_eq_getElem hl]; rfl
  have eT : am_T ci = fun k => am_cs[ci].2.1.getD k ("", "", "", false) := by funext k; show (am_cls ci).2.1.getD k _ = _; unfold am_cls; rw [e]
  simp only [am_cl, List.getElem?_map, List.getElem?_eq_getElem hl, Option.map_some, am_R, am_N, am_cls, e, eT]
def am_rv (ph : Nat → Nat) : am_V → Value
  | .inl z => .int (Int32.ofInt z)
  | .inr (.inl z) => .long (Int64.ofInt z)
  | .inr (.inr a) => .ref (ph a)
def am_okv : am_V → Prop
  | .inl z => -2147483648 ≤ z ∧ z ≤ 2147483647
  | .inr (.inl z) => -9223372036854775808 ≤ z ∧ z ≤ 9223372036854775807
  | .inr (.inr _) => True
theorem am_ok32 (y : Int32) : am_okv (.inl y.toInt) := by
  have h1 := y.le_toInt
  have h2 := y.toInt_lt
  exact ⟨by omega, by omega⟩
theorem am_ok64 (y : Int64) : am_okv (.inr (.inl y.toInt)) := by
  have h1 := y.le_toInt
  have h2 := y.toInt_lt
  exact ⟨by omega, by omega⟩
theorem am_to32 {z : Int} (h : am_okv (.inl z)) : (Int32.ofInt z).toInt = z := Int32.toInt_ofInt_of_le (by have := h.1; omega) (by have := h.2; omega)
theorem am_to64 {z : Int} (h : am_okv (.inr (.inl z))) : (Int64.ofInt z).toInt = z := Int64.toInt_ofInt_of_le (by have := h.1; omega) (by have := h.2; omega)
theorem am_eq32 {y z : Int} (hy : am_okv (.inl y)) (hz : am_okv (.inl z)) : Int32.ofInt y = Int32.ofInt z ↔ y = z := ⟨fun h => by rw [← am_to32 hy, ← am_to32 hz, h], fun h => by rw [h]⟩
theorem am_lt32 {y z : Int} (hy : am_okv (.inl y)) (hz : am_okv (.inl z)) : Int32.ofInt y < Int32.ofInt z ↔ y < z := by rw [Int32.lt_iff_toInt_lt, am_to32 hy, am_to32 hz]
theorem am_le32 {y z : Int} (hy : am_okv (.inl y)) (hz : am_okv (.inl z)) : Int32.ofInt y ≤ Int32.ofInt z ↔ y ≤ z := by rw [Int32.le_iff_toInt_le, am_to32 hy, am_to32 hz]
theorem am_z32 : am_okv (.inl 0) := ⟨by omega, by omega⟩
def am_ll (ph : Nat → Nat) : Nat → am_L → List (Nat × Value)
  | _, [] => []
  | i, none :: t => am_ll ph (i + 1) t
  | i, some v :: t => (i, am_rv ph v) :: am_ll ph (i + 1) t
theorem am_get_mem {ph : Nat → Nat} {v : am_V} : ∀ {ls : am_L} {i j : Nat}, am_get ls i = some v → (j + i, am_rv ph v) ∈ am_ll ph j ls
  | [], i, j, h => by simp [am_get] at h
  | o :: t, 0, j, h => by
    simp only [am_get] at h
    subst h
    exact List.mem_cons_self
  | o :: t, i + 1, j, h => by
    have h2 := am_get_mem (ph := ph) (ls := t) (i := i) (j := j + 1) h
    rw [show j + 1 + i = j + (i + 1) by omega] at h2
    cases o with
    | none => exact h2
    | some w => exact List.mem_cons_of_mem _ h2
theorem am_get_in {v : am_V} : ∀ {ls : am_L} {i : Nat}, am_get ls i = some v → some v ∈ ls
  | [], i, h => by simp [am_get] at h
  | o :: t, 0, h => by
    simp only [am_get] at h
    subst h
    exact List.mem_cons_self
  | o :: t, i + 1, h => List.mem_cons_of_mem _ (am_get_in (ls := t) h)
theorem am_ll_ge {ph : Nat → Nat} : ∀ {ls : am_L} {j : Nat} {q : Nat × Value}, q ∈ am_ll ph j ls → j ≤ q.1 ∧ ∃ v, some v ∈ ls ∧ q.2 = am_rv ph v
  | [], j, q, h => by simp [am_ll] at h
  | none :: t, j, q, h => by
    obtain ⟨h1, v, h2, h3⟩ := am_ll_ge (ls := t) h
    exact ⟨by omega, v, List.mem_cons_of_mem _ h2, h3⟩
  | some w :: t, j, q, h => by
    rcases List.mem_cons.mp h with rfl | h
    · exact ⟨Nat.le_refl _, w, List.mem_cons_self, rfl⟩
    · obtain ⟨h1, v, h2, h3⟩ := am_ll_ge (ls := t) h
      exact ⟨by omega, v, List.mem_cons_of_mem _ h2, h3⟩
theorem am_set_ll {ph : Nat → Nat} {v : am_V} : ∀ {ls : am_L} {i j : Nat} {q : Nat × Value}, q ∈ am_ll ph j (am_set v i ls) → q = (j + i, am_rv ph v) ∨ (q ∈ am_ll ph j ls ∧ q.1 ≠ j + i)
  | [], i, j, q, h => by simp [am_set, am_ll] at h
  | o :: t, 0, j, q, h => by
    rcases List.mem_cons.mp (show q ∈ (j, am_rv ph v) :: am_ll ph (j + 1) t from h) with h5 | h5
    · exact Or.inl h5
    · have h1 := (am_ll_ge h5).1
      refine Or.inr ⟨?_, by omega⟩
      cases o with
      | none => exact h5
      | some w => exact List.mem_cons_of_mem _ h5
  | none :: t, i + 1, j, q, h => by
    rcases am_set_ll (ls := t) (i := i) (j := j + 1) h with h | ⟨h, h2⟩
    · exact Or.inl (by rw [h]; congr 1; omega)
    · exact Or.inr ⟨h, by omega⟩
  | some w :: t, i + 1, j, q, h => by
    rcases List.mem_cons.mp (show q ∈ (j, am_rv ph w) :: am_ll ph (j + 1) (am_set v i t) from h) with h | h
    · exact Or.inr ⟨by rw [h]; exact List.mem_cons_self, by rw [h]; show j ≠ j + (i + 1); omega⟩
    · rcases am_set_ll (ls := t) (i := i) (j := j + 1) h with h | ⟨h, h2⟩
      · exact Or.inl (by rw [h]; congr 1; omega)
      · exact Or.inr ⟨List.mem_cons_of_mem _ h, by omega⟩
theorem am_set_in {v w : am_V} : ∀ {ls : am_L} {i : Nat}, some w ∈ am_set v i ls → w = v ∨ some w ∈ ls
  | [], i, h => by simp [am_set] at h
  | o :: t, 0, h => by
    rcases List.mem_cons.mp (show some w ∈ some v :: t from h) with h | h
    · exact Or.inl (Option.some.inj h)
    · exact Or.inr (List.mem_cons_of_mem _ h)
  | o :: t, i + 1, h => by
    rcases List.mem_cons.mp (show some w ∈ o :: am_set v i t from h) with h | h
    · exact Or.inr (by rw [h]; exact List.mem_cons_self)
    · rcases am_set_in (ls := t) h with h | h
      · exact Or.inl h
      · exact Or.inr (List.mem_cons_of_mem _ h)
theorem am_rv_two {ph : Nat → Nat} {v : am_V} : am_two v = true ↔ (am_rv ph v).category = 2 := by
  rcases v with z | z | a <;> simp [am_two, am_rv, Value.category]
theorem am_dr_ll {ph : Nat → Nat} {ls : am_L} {j : Nat} {q : Nat × Value} (h : q ∈ am_ll ph j (am_dr ls)) : q ∈ am_ll ph j ls ∧ q.1 ≠ j := by
  cases ls with
  | nil => simp [am_dr, am_ll] at h
  | cons o t =>
    have h1 : q ∈ am_ll ph (j + 1) t := h
    have h2 := (am_ll_ge h1).1
    refine ⟨?_, by omega⟩
    cases o with
    | none => exact h1
    | some w => exact List.mem_cons_of_mem _ h1
theorem am_k2_ll {ph : Nat → Nat} {o : Option am_V} {t t' : am_L} {j : Nat} {q : Nat × Value} (ht : ∀ q, q ∈ am_ll ph (j + 1) t' → q ∈ am_ll ph (j + 1) t) (h : q ∈ am_ll ph j (am_k2 o :: t')) : q ∈ am_ll ph j (o :: t) ∧ (q.1 = j → q.2.category ≠ 2) := by
  rcases o with _ | z | z | a
  · exact ⟨ht q h, fun e => by have := (am_ll_ge (show q ∈ am_ll ph (j + 1) t' from h)).1; omega⟩
  · rcases List.mem_cons.mp (show q ∈ (j, am_rv ph (.inl z)) :: am_ll ph (j + 1) t' from h) with h | h
    · rw [h]; exact ⟨List.mem_cons_self, fun _ => by simp [am_rv, Value.category]⟩
    · exact ⟨List.mem_cons_of_mem _ (ht q h), fun e => by have := (am_ll_ge h).1; omega⟩
  · have h1 : q ∈ am_ll ph (j + 1) t' := h
    exact ⟨List.mem_cons_of_mem _ (ht q h1), fun e => by have := (am_ll_ge h1).1; omega⟩
  · rcases List.mem_cons.mp (show q ∈ (j, am_rv ph (.inr (.inr a))) :: am_ll ph (j + 1) t' from h) with h | h
    · rw [h]; exact ⟨List.mem_cons_self, fun _ => by simp [am_rv, Value.category]⟩
    · exact ⟨List.mem_cons_of_mem _ (ht q h), fun e => by have := (am_ll_ge h).1; omega⟩
theorem am_setK_ll {ph : Nat → Nat} {v : am_V} : ∀ {ls : am_L} {i j : Nat} {q : Nat × Value}, q ∈ am_ll ph j (am_setK v i ls) → q = (j + i, am_rv ph v) ∨ (q ∈ am_ll ph j ls ∧ q.1 ≠ j + i ∧ (q.1 + 1 = j + i → q.2.category ≠ 2) ∧ (am_two v = true → q.1 ≠ j + i + 1))
  | [], i, j, q, h => by simp [am_setK, am_ll] at h
  | o :: t, 0, j, q, h => by
    have lift : ∀ {q}, q ∈ am_ll ph (j + 1) t → q ∈ am_ll ph j (o :: t) := by
      intro q h5
      clear h
      cases o with
      | none => exact h5
      | some w => exact List.mem_cons_of_mem _ h5
    cases hv : am_two v with
    | true =>
      simp only [am_setK, hv] at h
      rcases List.mem_cons.mp (show q ∈ (j, am_rv ph v) :: am_ll ph (j + 1) (am_dr t) from h) with h | h
      · exact Or.inl h
      · obtain ⟨h1, h2⟩ := am_dr_ll h
        have h3 := (am_ll_ge h1).1
        exact Or.inr ⟨lift h1, by omega, fun e => by omega, fun _ => by omega⟩
    | false =>
      simp only [am_setK, hv] at h
      rcases List.mem_cons.mp (show q ∈ (j, am_rv ph v) :: am_ll ph (j + 1) t from h) with h | h
      · exact Or.inl h
      · have h3 := (am_ll_ge h).1
        exact Or.inr ⟨lift h, by omega, fun e => by omega, fun e => by simp at e⟩
  | o :: t, i + 1, j, q, h => by
    have ih := fun q => am_setK_ll (ph := ph) (v := v) (ls := t) (i := i) (j := j + 1) (q := q)
    cases i with
    | zero =>
      simp only [am_setK] at h
      have h0 : q ∈ am_ll ph j (am_k2 o :: am_setK v 0 t) := h
      -- the head, or the rest
      by_cases hq : q.1 = j
      · obtain ⟨h1, h2⟩ := am_k2_ll (ph := ph) (o := o) (t := am_setK v 0 t) (t' := am_setK v 0 t) (j := j) (q := q) (fun _ h => h) h0
        refine Or.inr ⟨?_, by omega, fun _ => h2 hq, fun _ => by omega⟩
        cases o with
        | none =>
          have := (am_ll_ge (show q ∈ am_ll ph (j + 1) (am_setK v 0 t) from h1)).1
          omega
        | some w =>
          rcases List.mem_cons.mp (show q ∈ (j, am_rv ph w) :: am_ll ph (j + 1) (am_setK v 0 t) from h1) with h1 | h1
          · rw [h1]; exact List.mem_cons_self
          · have := (am_ll_ge h1).1
            omega
      · have h1 : q ∈ am_ll ph (j + 1) (am_setK v 0 t) := by
          cases hk : am_k2 o with
          | none => rw [hk] at h0; exact h0
          | some w =>
            rw [hk] at h0
            rcases List.mem_cons.mp (show q ∈ (j, am_rv ph w) :: am_ll ph (j + 1) (am_setK v 0 t) from h0) with h1 | h1
            · rw [h1] at hq; exact absurd rfl hq
            · exact h1
        rcases ih q h1 with h5 | ⟨h5, h2, h3, h4⟩
        · exact Or.inl (by rw [h5])
        · refine Or.inr ⟨?_, by omega, fun e => by omega, fun e => by have := h4 e; omega⟩
          clear h h0
          cases o with
          | none => exact h5
          | some w => exact List.mem_cons_of_mem _ h5
    | succ i =>
      simp only [am_setK] at h
      cases o with
      | none =>
        rcases ih q h with h | ⟨h, h2, h3, h4⟩
        · exact Or.inl (by rw [h]; congr 1; omega)
        · exact Or.inr ⟨h, by omega, fun e => h3 (by omega), fun e => by have := h4 e; omega⟩
      | some w =>
        rcases List.mem_cons.mp (show q ∈ (j, am_rv ph w) :: am_ll ph (j + 1) (am_setK v (i + 1) t) from h) with h | h
        · rw [h]
          exact Or.inr ⟨List.mem_cons_self, by show j ≠ j + (i + 1 + 1); omega, fun e => by have e : j + 1 = j + (i + 1 + 1) := e; omega, fun _ => by show j ≠ j + (i + 1 + 1) + 1; omega⟩
        · rcases ih q h with h | ⟨h, h2, h3, h4⟩
          · exact Or.inl (by rw [h]; congr 1; omega)
          · exact Or.inr ⟨List.mem_cons_of_mem _ h, by omega, fun e => h3 (by omega), fun e => by have := h4 e; omega⟩
theorem am_dr_in {w : am_V} {ls : am_L} (h : some w ∈ am_dr ls) : some w ∈ ls := by
  cases ls with
  | nil => simp [am_dr] at h
  | cons o t =>
    rcases List.mem_cons.mp (show some w ∈ none :: t from h) with h | h
    · cases h
    · exact List.mem_cons_of_mem _ h
theorem am_k2_in {w : am_V} {o : Option am_V} (h : am_k2 o = some w) : o = some w := by
  rcases o with _ | z | z | a <;> simp_all [am_k2]
theorem am_setK_in {v w : am_V} : ∀ {ls : am_L} {i : Nat}, some w ∈ am_setK v i ls → w = v ∨ some w ∈ ls
  | [], i, h => by simp [am_setK] at h
  | o :: t, 0, h => by
    cases hv : am_two v with
    | true =>
      simp only [am_setK, hv] at h
      rcases List.mem_cons.mp h with h | h
      · exact Or.inl (Option.some.inj h)
      · exact Or.inr (List.mem_cons_of_mem _ (am_dr_in h))
    | false =>
      simp only [am_setK, hv] at h
      rcases List.mem_cons.mp h with h | h
      · exact Or.inl (Option.some.inj h)
      · exact Or.inr (List.mem_cons_of_mem _ h)
  | o :: t, i + 1, h => by
    simp only [am_setK] at h
    rcases List.mem_cons.mp h with h | h
    · refine Or.inr ?_
      cases i with
      | zero => rw [am_k2_in h.symm]; exact List.mem_cons_self
      | succ i => simp only at h; rw [h]; exact List.mem_cons_self
    · rcases am_setK_in (ls := t) h with h | h
      · exact Or.inl h
      · exact Or.inr (List.mem_cons_of_mem _ h)
