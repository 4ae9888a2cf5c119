/-! A SET IN PARTS, each of which is well: how many; by the part with the highest -/
def an_sb (x S : Nat) : Prop := ∀ i, Nat.testBit x i = true → Nat.testBit S i = true
theorem an_sb_0 {x S : Nat} : an_dif x S = 0 ↔ an_sb x S := an_dif_0
theorem an_sb_r {x : Nat} : an_sb x x := fun _ h => h
theorem an_sb_le {x S : Nat} (h : an_sb x S) : x ≤ S := an_dif_sub (an_sb_0.2 h)
theorem an_ne0 {x : Nat} : ¬ x = 0 ↔ ∃ i, Nat.testBit x i = true := by
  constructor
  · intro h
    refine Classical.byContradiction (fun hn => h ?_)
    apply Nat.eq_of_testBit_eq
    intro i
    rw [Nat.zero_testBit]
    cases hx : Nat.testBit x i with
    | false => rfl
    | true => exact absurd ⟨i, hx⟩ hn
  · rintro ⟨i, h⟩ h2
    rw [h2, Nat.zero_testBit] at h
    cases h
theorem an_dif_in {S x i : Nat} : Nat.testBit (an_dif S x) i = true ↔ Nat.testBit S i = true ∧ ¬ Nat.testBit x i = true := by
  rw [an_dif_tb, Bool.and_eq_true]
  cases Nat.testBit x i <;> simp
theorem an_dif_lt {S x : Nat} (hx : an_sb x S) (h0 : ¬ x = 0) : an_dif S x < S := by
  have h1 := an_dif_le (x := S) (y := x)
  by_cases q : an_dif S x = S
  · obtain ⟨i, hi⟩ := an_ne0.1 h0
    have h2 := hx i hi
    rw [← q] at h2
    exact absurd hi (an_dif_in.1 h2).2
  · omega
theorem an_dif_xor {S x : Nat} (hx : an_sb x S) : S ^^^ x = an_dif S x := by
  apply Nat.eq_of_testBit_eq
  intro i
  rw [Nat.testBit_xor, an_dif_tb]
  cases h1 : Nat.testBit x i with
  | true => rw [hx i h1]; rfl
  | false => cases Nat.testBit S i <;> rfl
def an_pt (ok : Nat → Prop) : Nat → Nat → Prop
  | 0, S => S = 0
  | k + 1, S => ∃ P, ¬ P = 0 ∧ an_sb P S ∧ ok P ∧ an_pt ok k (an_dif S P)
theorem an_pt_top {ok : Nat → Prop} {t : Nat} : ∀ (k : Nat) {S : Nat}, Nat.testBit S t = true → an_pt ok (k + 1) S → ∃ P, Nat.testBit P t = true ∧ an_sb P S ∧ ok P ∧ an_pt ok k (an_dif S P) := by
  intro k
  induction k with
  | zero =>
    rintro S ht ⟨P, h1, h2, h3, h4⟩
    have h5 : an_dif S P = 0 := h4
    exact ⟨P, an_dif_0.1 h5 t ht, h2, h3, h4⟩
  | succ k ih =>
    rintro S ht ⟨P, h1, h2, h3, h4⟩
    by_cases q : Nat.testBit P t = true
    · exact ⟨P, q, h2, h3, h4⟩
    · obtain ⟨R, r1, r2, r3, r4⟩ := ih (S := an_dif S P) (an_dif_in.2 ⟨ht, q⟩) h4
      refine ⟨R, r1, fun i hi => (an_dif_in.1 (r2 i hi)).1, r3, P, h1, fun i hi => an_dif_in.2 ⟨h2 i hi, fun w => (an_dif_in.1 (r2 i w)).2 hi⟩, h3, ?_⟩
      have e : an_dif (an_dif S R) P = an_dif (an_dif S P) R := by
        apply Nat.eq_of_testBit_eq
        intro i
        rw [an_dif_tb, an_dif_tb, an_dif_tb, an_dif_tb]
        cases Nat.testBit S i <;> cases Nat.testBit P i <;> cases Nat.testBit R i <;> rfl
      rw [e]
      exact r4
/-- the most parts; -1 if there is no way -/
def an_mx (ok : Nat → Prop) (S : Nat) (v : Int) : Prop := (v = -1 ∧ ∀ k, ¬ an_pt ok k S) ∨ ∃ k : Nat, v = (k : Int) ∧ an_pt ok k S ∧ ∀ j, an_pt ok j S → j ≤ k
theorem an_mx_u {ok : Nat → Prop} {S : Nat} {v w : Int} (hv : an_mx ok S v) (hw : an_mx ok S w) : v = w := by
  rcases hv with ⟨h1, h2⟩ | ⟨k, h1, h2, h3⟩
  · rcases hw with ⟨g1, g2⟩ | ⟨j, g1, g2, g3⟩
    · rw [h1, g1]
    · exact absurd g2 (h2 j)
  · rcases hw with ⟨g1, g2⟩ | ⟨j, g1, g2, g3⟩
    · exact absurd h2 (g2 k)
    · have := h3 j g2
      have := g3 k h2
      omega
theorem an_mx_0 {ok : Nat → Prop} : an_mx ok 0 0 := by
  refine Or.inr ⟨0, rfl, rfl, fun j hj => ?_⟩
  cases j with
  | zero => exact Nat.le_refl 0
  | succ j =>
    obtain ⟨P, h1, h2, _⟩ := hj
    obtain ⟨i, hi⟩ := an_ne0.1 h1
    have := h2 i hi
    rw [Nat.zero_testBit] at this
    cases this
/-- from the most of what is left, by any parts -/
theorem an_mx_s {ok : Nat → Prop} {S : Nat} {v : Int} {G : Nat → Int} (hS : ¬ S = 0) (hG : ∀ x, an_sb x S → ¬ x = 0 → an_mx ok (an_dif S x) (G (an_dif S x))) (hv : v = -1 ∨ ∃ x, an_sb x S ∧ ¬ x = 0 ∧ ok x ∧ 0 ≤ G (an_dif S x) ∧ v = G (an_dif S x) + 1) (hm : ∀ x, an_sb x S → ¬ x = 0 → ok x → 0 ≤ G (an_dif S x) → G (an_dif S x) + 1 ≤ v) : an_mx ok S v := by
  have key : ∀ k, an_pt ok k S → (k : Int) ≤ v := by
    intro k hk
    cases k with
    | zero => exact absurd hk hS
    | succ k =>
      obtain ⟨P, h1, h2, h3, h4⟩ := hk
      rcases hG P h2 h1 with ⟨g1, g2⟩ | ⟨j, g1, g2, g3⟩
      · exact absurd h4 (g2 k)
      · have h5 := hm P h2 h1 h3 (by omega)
        have h6 := g3 k h4
        omega
  rcases hv with hv | ⟨x, h1, h2, h3, h4, h5⟩
  · exact Or.inl ⟨hv, fun k hk => by have := key k hk; omega⟩
  · rcases hG x h1 h2 with ⟨g1, g2⟩ | ⟨j, g1, g2, g3⟩
    · omega
    · refine Or.inr ⟨j + 1, by omega, ⟨x, h2, h1, h3, g2⟩, fun i hi => ?_⟩
      have := key i hi
      omega
/-- by the parts with the highest alone, where all that is left can be told in parts -/
theorem an_mx_t {ok : Nat → Prop} {S t : Nat} {v : Int} {G : Nat → Int} (ht : Nat.testBit S t = true) (hok : ok S) (hG : ∀ x, an_sb x S → Nat.testBit x t = true → ok x → an_mx ok (an_dif S x) (G (an_dif S x)) ∧ 0 ≤ G (an_dif S x)) (hv : v = 0 ∨ ∃ x, an_sb x S ∧ Nat.testBit x t = true ∧ ok x ∧ v = 1 + G (an_dif S x)) (hm : ∀ x, an_sb x S → Nat.testBit x t = true → ok x → 1 + G (an_dif S x) ≤ v) : an_mx ok S v := by
  have key : ∀ k, an_pt ok k S → (k : Int) ≤ v := by
    intro k hk
    cases k with
    | zero =>
      have h0 : S = 0 := hk
      rw [h0, Nat.zero_testBit] at ht
      cases ht
    | succ k =>
      obtain ⟨P, h1, h2, h3, h4⟩ := an_pt_top k ht hk
      rcases (hG P h2 h1 h3).1 with ⟨g1, g2⟩ | ⟨j, g1, g2, g3⟩
      · exact absurd h4 (g2 k)
      · have h5 := hm P h2 h1 h3
        have h6 := g3 k h4
        omega
  have hone := hm S an_sb_r ht hok
  have h0 := (hG S an_sb_r ht hok).2
  rcases hv with hv | ⟨x, h1, h2, h3, h5⟩
  · omega
  · rcases (hG x h1 h2 h3).1 with ⟨g1, g2⟩ | ⟨j, g1, g2, g3⟩
    · have := (hG x h1 h2 h3).2; omega
    · refine Or.inr ⟨j + 1, by omega, ⟨x, an_ne0.2 ⟨t, h2⟩, h1, h3, g2⟩, fun i hi => ?_⟩
      have := key i hi
      omega
noncomputable def an_mxv (ok : Nat → Prop) (S : Nat) : Int := @dite Int (∃ v, an_mx ok S v) (Classical.propDecidable _) (fun h => h.choose) (fun _ => 0)
theorem an_mxv_eq {ok : Nat → Prop} {S : Nat} {v : Int} (h : an_mx ok S v) : v = an_mxv ok S := by
  have hx : ∃ v, an_mx ok S v := ⟨v, h⟩
  unfold an_mxv
  rw [dif_pos hx]
  exact an_mx_u h hx.choose_spec
/-! the subsets of a set, falling -/
theorem an_sm_sb {b m : Nat} : an_sb ((b - 1) &&& m) m := fun i hi => by
  rw [Nat.testBit_and, Bool.and_eq_true] at hi
  exact hi.2
theorem an_sm_lt {b m : Nat} (hb : 0 < b) : (b - 1) &&& m < b := by
  have : (b - 1) &&& m ≤ b - 1 := Nat.and_le_left
  omega
theorem an_sb_div {x S : Nat} (h : an_sb x S) : an_sb (x / 2) (S / 2) := fun i hi => by
  have h1 := h (i + 1)
  rw [Nat.testBit_succ, Nat.testBit_succ] at h1
  exact h1 hi
theorem an_sb_mod {x S : Nat} (h : an_sb x S) : x % 2 ≤ S % 2 := by
  have h1 := h 0
  rw [Nat.testBit_zero, Nat.testBit_zero, decide_eq_true_eq, decide_eq_true_eq] at h1
  omega
/-- none between -/
theorem an_sm_up : ∀ (n b m c : Nat), b ≤ n → 0 < b → an_sb b m → an_sb c m → c < b → c ≤ (b - 1) &&& m := by
  intro n
  induction n with
  | zero => intro b m c h1 h2; omega
  | succ n ih =>
    intro b m c h1 h2 h3 h4 h5
    have d1 := an_sb_div h3
    have d2 := an_sb_div h4
    have m1 := an_sb_mod h3
    have m2 := an_sb_mod h4
    have e1 : ((b - 1) &&& m) / 2 = (b - 1) / 2 &&& m / 2 := by
      apply Nat.eq_of_testBit_eq
      intro i
      rw [Nat.testBit_and, ← Nat.testBit_succ, ← Nat.testBit_succ, ← Nat.testBit_succ, Nat.testBit_and]
    have e2 : ((b - 1) &&& m) % 2 = 1 ↔ (b - 1) % 2 = 1 ∧ m % 2 = 1 := by
      have h6 := Nat.testBit_and (b - 1) m 0
      rw [Nat.testBit_zero, Nat.testBit_zero, Nat.testBit_zero] at h6
      constructor
      · intro w
        rw [decide_eq_true w] at h6
        have h7 := Bool.and_eq_true_iff.1 h6.symm
        exact ⟨of_decide_eq_true h7.1, of_decide_eq_true h7.2⟩
      · rintro ⟨w1, w2⟩
        rw [decide_eq_true w1, decide_eq_true w2] at h6
        exact of_decide_eq_true h6
    have dm := Nat.div_add_mod ((b - 1) &&& m) 2
    rcases Nat.mod_two_eq_zero_or_one b with q | q
    · have hb : 0 < b / 2 := by omega
      have h7 := ih (b / 2) (m / 2) (c / 2) (by omega) hb d1 d2 (by omega)
      rw [show b / 2 - 1 = (b - 1) / 2 by omega, ← e1] at h7
      rcases Nat.mod_two_eq_zero_or_one c with q2 | q2
      · omega
      · have h8 : ((b - 1) &&& m) % 2 = 1 := e2.2 ⟨by omega, by omega⟩
        omega
    · have h8 : (b - 1) / 2 = b / 2 := by omega
      rw [h8] at e1
      have h9 : b / 2 &&& m / 2 = b / 2 := by
        apply Nat.eq_of_testBit_eq
        intro i
        rw [Nat.testBit_and]
        cases h10 : Nat.testBit (b / 2) i with
        | false => rfl
        | true => rw [d1 i h10]; rfl
      rw [h9] at e1
      omega
/-- a loop over the subsets, falling to 0 -/
theorem an_sm_loop {J : Type} {m : Nat} (I : Nat → J → Prop) (P : Nat → J → Prop) (h1 : ∀ b j, 0 < b → an_sb b m → I b j → (∀ i, I ((b - 1) &&& m) i → P ((b - 1) &&& m) i) → P b j) (h2 : ∀ j, I 0 j → P 0 j) : ∀ j, I m j → P m j := by
  have key : ∀ n b, b ≤ n → an_sb b m → ∀ j, I b j → P b j := by
    intro n
    induction n with
    | zero =>
      intro b hb _ j hj
      rw [show b = 0 by omega] at hj ⊢
      exact h2 j hj
    | succ n ih =>
      intro b hb hs j hj
      by_cases q : b = 0
      · rw [q] at hj ⊢
        exact h2 j hj
      · have h3 := an_sm_lt (m := m) (show 0 < b by omega)
        exact h1 b j (by omega) hs hj (ih _ (by omega) an_sm_sb)
  exact key m m (Nat.le_refl m) an_sb_r
