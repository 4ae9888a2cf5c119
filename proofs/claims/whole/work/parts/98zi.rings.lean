/-! RINGS, on paper: walks, the best ring -/
def r_R (E : Nat → Nat → Prop) (L a b : Nat) : Prop := ∃ f : Nat → Nat, f 0 = a ∧ f L = b ∧ ∀ i, i < L → E (f i) (f (i + 1))
def r_Full (E : Nat → Nat → Prop) (n : Nat) (f : Nat → Nat) : Prop := 2 ≤ n ∧ (∀ i, i + 1 < n → E (f i) (f (i + 1))) ∧ E (f (n - 1)) (f 0) ∧ (∀ i j, i < j → j < n → ¬ f i = f j)
def r_Best (E : Nat → Nat → Prop) (m : Nat) (c : Nat → Nat) : Prop := r_Full E m c ∧ (∀ n f, r_Full E n f → m ≤ n) ∧ (∀ f k, r_Full E m f → k < m → (∀ j, j < k → f j = c j) → c k ≤ f k)
theorem r_R_1 {E : Nat → Nat → Prop} {a b : Nat} (h : E a b) : r_R E 1 a b := ⟨fun i => if i = 0 then a else b, rfl, rfl, fun i hi => by
  rw [show i = 0 by omega]; exact h⟩
theorem r_R_c {E : Nat → Nat → Prop} {L M a b c : Nat} (h1 : r_R E L a b) (h2 : r_R E M b c) : r_R E (L + M) a c := by
  obtain ⟨f, f0, fL, fs⟩ := h1
  obtain ⟨g, g0, gM, gs⟩ := h2
  refine ⟨fun i => if i < L then f i else g (i - L), ?_, ?_, fun i hi => ?_⟩
  · show (if 0 < L then f 0 else g (0 - L)) = a
    by_cases q : 0 < L
    · rw [if_pos q, f0]
    · have q0 : L = 0 := by omega
      subst q0
      rw [if_neg q, Nat.sub_zero, g0, ← fL, f0]
  · show (if L + M < L then _ else g (L + M - L)) = c
    rw [if_neg (by omega), show L + M - L = M by omega, gM]
  · show E (if i < L then f i else g (i - L)) (if i + 1 < L then f (i + 1) else g (i + 1 - L))
    by_cases q : i < L
    · rw [if_pos q]
      by_cases q2 : i + 1 < L
      · rw [if_pos q2]; exact fs i q
      · rw [if_neg q2, show i + 1 - L = 0 by omega, g0, ← fL, show L = i + 1 by omega]
        exact fs i q
    · rw [if_neg q, if_neg (by omega), show i + 1 - L = i - L + 1 by omega]
      exact gs (i - L) (by omega)
theorem r_R_sub {E : Nat → Nat → Prop} {L : Nat} {f : Nat → Nat} (hf : ∀ i, i < L → E (f i) (f (i + 1))) {i j : Nat} (hij : i ≤ j) (hj : j ≤ L) : r_R E (j - i) (f i) (f j) := ⟨fun t => f (i + t), rfl, by show f (i + (j - i)) = f j; rw [show i + (j - i) = j by omega], fun t ht => by
  have := hf (i + t) (by omega)
  exact this⟩
/-- a closed walk is a ring, or there is a shorter one -/
theorem r_K {E : Nat → Nat → Prop} (hE : ∀ a, ¬ E a a) {L : Nat} {f : Nat → Nat} (hL : 1 ≤ L) (hf : ∀ i, i < L → E (f i) (f (i + 1))) (hc : f L = f 0) : r_Full E L f ∨ ∃ M a, M < L ∧ 1 ≤ M ∧ r_R E M a a := by
  by_cases q : ∃ i j, i < j ∧ j < L ∧ f i = f j
  · obtain ⟨i, j, h1, h2, h3⟩ := q
    have h4 := r_R_sub hf (i := i) (j := j) (by omega) (by omega)
    rw [← h3] at h4
    exact Or.inr ⟨j - i, f i, by omega, by omega, h4⟩
  · refine Or.inl ⟨?_, fun i hi => hf i (by omega), ?_, fun i j h1 h2 h3 => q ⟨i, j, h1, h2, h3⟩⟩
    · refine Decidable.byContradiction fun w => ?_
      have q1 : L = 1 := by omega
      subst q1
      have h1 := hf 0 (by omega)
      rw [show 0 + 1 = 1 from rfl, hc] at h1
      exact hE _ h1
    · have h1 := hf (L - 1) (by omega)
      rw [show L - 1 + 1 = L by omega, hc] at h1
      exact h1
theorem r_full_of {E : Nat → Nat → Prop} (hE : ∀ a, ¬ E a a) : ∀ L, ∀ M a, M ≤ L → 1 ≤ M → r_R E M a a → ∃ n f, n ≤ M ∧ r_Full E n f := by
  intro L
  induction L with
  | zero => intro M a h1 h2; omega
  | succ L ih =>
    intro M a h1 h2 h3
    obtain ⟨f, f0, fM, fs⟩ := h3
    rcases r_K hE h2 fs (by rw [fM, f0]) with h | ⟨N, b, h4, h5, h6⟩
    · exact ⟨M, f, Nat.le_refl _, h⟩
    · obtain ⟨n, g, h7, h8⟩ := ih N b (by omega) h5 h6
      exact ⟨n, g, by omega, h8⟩
theorem r_full_R {E : Nat → Nat → Prop} {n : Nat} {f : Nat → Nat} (hf : r_Full E n f) {i j : Nat} (hij : i ≤ j) (hj : j < n) : r_R E (j - i) (f i) (f j) := r_R_sub (L := n - 1) (fun t ht => hf.2.1 t (by omega)) hij (by omega)
theorem r_full_E {E : Nat → Nat → Prop} {n : Nat} {f : Nat → Nat} (hf : r_Full E n f) {k : Nat} (hk : k < n) : r_R E (n - k) (f k) (f 0) := by
  have h1 := r_R_c (r_full_R hf (i := k) (j := n - 1) (by omega) (by omega)) (r_R_1 hf.2.2.1)
  rw [show n - 1 - k + 1 = n - k by omega] at h1
  exact h1
/-- no closed walk is shorter than the best ring; one as long is a ring -/
theorem r_best_le {E : Nat → Nat → Prop} (hE : ∀ a, ¬ E a a) {m : Nat} {c : Nat → Nat} (hb : r_Best E m c) {L a : Nat} (hL : 1 ≤ L) (hr : r_R E L a a) : m ≤ L := by
  obtain ⟨n, f, h1, h2⟩ := r_full_of hE L L a (Nat.le_refl _) hL hr
  have := hb.2.1 n f h2
  omega
theorem r_best_full {E : Nat → Nat → Prop} (hE : ∀ a, ¬ E a a) {m : Nat} {c : Nat → Nat} (hb : r_Best E m c) {f : Nat → Nat} (hf : ∀ i, i < m → E (f i) (f (i + 1))) (hc : f m = f 0) : r_Full E m f := by
  have h2 := hb.1.1
  rcases r_K hE (by omega) hf hc with h | ⟨M, a, h4, h5, h6⟩
  · exact h
  · have := r_best_le hE hb h5 h6
    omega
theorem r_least {P : Nat → Prop} (h : ∃ n, P n) : ∃ n, P n ∧ ∀ k, P k → n ≤ k := by
  obtain ⟨n, hn⟩ := h
  have key : ∀ m, ∀ n, n ≤ m → P n → ∃ n, P n ∧ ∀ k, P k → n ≤ k := by
    intro m
    induction m with
    | zero => intro n h1 h2; exact ⟨n, h2, fun k _ => by omega⟩
    | succ m ih =>
      intro n h1 h2
      by_cases q : ∃ k, k < n ∧ P k
      · obtain ⟨k, h3, h4⟩ := q
        exact ih k (by omega) h4
      · exact ⟨n, h2, fun k hk => Decidable.byContradiction fun w => q ⟨k, by omega, hk⟩⟩
  exact key n n (Nat.le_refl _) hn
theorem r_best_ex {E : Nat → Nat → Prop} (h : ∃ n f, r_Full E n f) : ∃ m c, r_Best E m c := by
  obtain ⟨m, ⟨f0, hf0⟩, hmin⟩ := r_least h
  have key : ∀ k, k ≤ m → ∃ c, r_Full E m c ∧ ∀ i, i < k → ∀ f, r_Full E m f → (∀ j, j < i → f j = c j) → c i ≤ f i := by
    intro k
    induction k with
    | zero => exact fun _ => ⟨f0, hf0, fun i hi => absurd hi (by omega)⟩
    | succ k ih =>
      intro hk
      obtain ⟨c, hc, hl⟩ := ih (by omega)
      obtain ⟨v, ⟨c2, h1, h2, h3⟩, h4⟩ := r_least (P := fun v => ∃ f, r_Full E m f ∧ (∀ j, j < k → f j = c j) ∧ f k = v) ⟨c k, c, hc, fun _ _ => rfl, rfl⟩
      refine ⟨c2, h1, fun i hi f hf ha => ?_⟩
      by_cases q : i = k
      · subst q
        rw [h3]
        exact h4 (f i) ⟨f, hf, fun j hj => (ha j hj).trans (h2 j hj), rfl⟩
      · rw [h2 i (by omega)]
        exact hl i (by omega) f hf (fun j hj => (ha j hj).trans (h2 j (by omega)))
  obtain ⟨c, hc, hl⟩ := key m (Nat.le_refl _)
  exact ⟨m, c, hc, fun n f hf => hmin n ⟨f, hf⟩, fun f k hf hk ha => hl k hk f hf ha⟩
theorem r_pigeon : ∀ P m (f : Nat → Nat), (∀ i, i < m → f i < P) → (∀ i j, i < j → j < m → ¬ f i = f j) → m ≤ P := by
  intro P
  induction P with
  | zero =>
    intro m f h1 h2
    refine Decidable.byContradiction fun w => ?_
    have := h1 0 (by omega)
    omega
  | succ P ih =>
    intro m f h1 h2
    by_cases q : ∃ i, i < m ∧ f i = P
    · obtain ⟨i, h3, h4⟩ := q
      have h5 := ih (m - 1) (fun j => if j < i then f j else f (j + 1)) (fun j hj => by
        show (if j < i then f j else f (j + 1)) < P
        by_cases q2 : j < i
        · rw [if_pos q2]
          have h6 := h1 j (by omega)
          have h7 := h2 j i q2 h3
          omega
        · rw [if_neg q2]
          have h6 := h1 (j + 1) (by omega)
          have h7 := h2 i (j + 1) (by omega) (by omega)
          omega) (fun a b hab hb => by
        show ¬ (if a < i then f a else f (a + 1)) = (if b < i then f b else f (b + 1))
        by_cases q2 : a < i
        · rw [if_pos q2]
          by_cases q3 : b < i
          · rw [if_pos q3]; exact h2 a b hab (by omega)
          · rw [if_neg q3]; exact h2 a (b + 1) (by omega) (by omega)
        · rw [if_neg q2, if_neg (by omega)]
          exact h2 (a + 1) (b + 1) (by omega) (by omega))
      omega
    · have h5 := ih m f (fun i hi => by
        have h6 := h1 i hi
        have h7 : ¬ f i = P := fun w => q ⟨i, hi, w⟩
        omega) h2
      omega
/-! least steps -/
def r_snd (E : Nat → Nat → Prop) (s : Nat → Int) : Prop := ∀ i j, i < 7 → j < 7 → 1 ≤ s (7 * i + j) ∧ s (7 * i + j) ≤ 1000000 ∧ (s (7 * i + j) < 1000000 → r_R E (s (7 * i + j)).toNat i j)
/-- walks whose inner ones are below B -/
def r_RB (E : Nat → Nat → Prop) (B L a b : Nat) : Prop := ∃ f : Nat → Nat, f 0 = a ∧ f L = b ∧ (∀ i, i < L → E (f i) (f (i + 1))) ∧ ∀ t, 0 < t → t < L → f t < B
def r_cpl (E : Nat → Nat → Prop) (B : Nat) (s : Nat → Int) : Prop := ∀ i j L, i < 7 → j < 7 → 1 ≤ L → r_RB E B L i j → s (7 * i + j) ≤ (L : Int)
theorem r_RB_sub {E : Nat → Nat → Prop} {B L : Nat} {f : Nat → Nat} (hf : ∀ i, i < L → E (f i) (f (i + 1))) {i j : Nat} (hij : i ≤ j) (hj : j ≤ L) (hb : ∀ t, i < t → t < j → f t < B) : r_RB E B (j - i) (f i) (f j) := ⟨fun t => f (i + t), rfl, by show f (i + (j - i)) = f j; rw [show i + (j - i) = j by omega], fun t ht => by
  have := hf (i + t) (by omega)
  exact this, fun t h1 h2 => hb (i + t) (by omega) (by omega)⟩
/-- from B on, B may be passed again: that only lengthens -/
theorem r_from {E : Nat → Nat → Prop} {B : Nat} {s : Nat → Int} (hc : r_cpl E B s) (hB : B < 7) {j : Nat} (hj : j < 7) : ∀ N L, L ≤ N → 1 ≤ L → r_RB E (B + 1) L B j → s (7 * B + j) ≤ (L : Int) := by
  intro N
  induction N with
  | zero => intro L h1 h2; omega
  | succ N ih =>
    intro L h1 h2 h3
    obtain ⟨f, f0, fL, fs, fb⟩ := h3
    by_cases q : ∃ t, 0 < t ∧ t < L ∧ f t = B
    · obtain ⟨t, h4, h5, h6⟩ := q
      have h7 := r_RB_sub (B := B + 1) fs (i := t) (j := L) (by omega) (by omega) (fun u h8 h9 => fb u (by omega) h9)
      rw [h6, fL] at h7
      have := ih (L - t) (by omega) (by omega) h7
      omega
    · exact hc B j L hB hj h2 ⟨f, f0, fL, fs, fun t h4 h5 => by
        have h6 := fb t h4 h5
        have h7 : ¬ f t = B := fun w => q ⟨t, h4, h5, w⟩
        omega⟩
theorem r_step {E : Nat → Nat → Prop} {B : Nat} {s s2 : Nat → Int} (hlt : ∀ a b, E a b → a < 7 ∧ b < 7) (hc : r_cpl E B s) (hB : B < 7) (h1 : ∀ i j, i < 7 → j < 7 → s2 (7 * i + j) ≤ s (7 * i + j)) (h2 : ∀ i j, (∃ x, E i x) → (∃ x, E x j) → s2 (7 * i + j) ≤ s (7 * i + B) + s (7 * B + j)) : r_cpl E (B + 1) s2 := by
  intro i j L hi hj hL hr
  obtain ⟨f, f0, fL, fs, fb⟩ := hr
  by_cases q : ∃ t, 0 < t ∧ t < L ∧ f t = B
  · obtain ⟨t, ⟨h3, h4, h5⟩, h6⟩ := r_least q
    have p1 := r_RB_sub (B := B) fs (i := 0) (j := t) (by omega) (by omega) (fun u h7 h8 => by
      have h9 := fb u h7 (by omega)
      have h10 : ¬ f u = B := fun w => by
        have := h6 u ⟨h7, by omega, w⟩
        omega
      omega)
    rw [f0, h5, Nat.sub_zero] at p1
    have p2 := r_RB_sub (B := B + 1) fs (i := t) (j := L) (by omega) (by omega) (fun u h8 h9 => fb u (by omega) h9)
    rw [h5, fL] at p2
    have q1 := hc i B t hi hB (by omega) p1
    have q2 := r_from hc hB hj (L - t) (L - t) (Nat.le_refl _) (by omega) p2
    have q3 := h2 i j ⟨f 1, by have := fs 0 (by omega); rw [f0] at this; exact this⟩ ⟨f (L - 1), by have := fs (L - 1) (by omega); rw [show L - 1 + 1 = L by omega, fL] at this; exact this⟩
    omega
  · have q1 := hc i j L hi hj hL ⟨f, f0, fL, fs, fun t h4 h5 => by
      have h6 := fb t h4 h5
      have h7 : ¬ f t = B := fun w => q ⟨t, h4, h5, w⟩
      omega⟩
    have := h1 i j hi hj
    omega
theorem r_cpl_0 {E : Nat → Nat → Prop} {s : Nat → Int} (h : ∀ i j, i < 7 → j < 7 → E i j → s (7 * i + j) ≤ 1) : r_cpl E 0 s := by
  intro i j L hi hj hL hr
  obtain ⟨f, f0, fL, fs, fb⟩ := hr
  by_cases q : L = 1
  · subst q
    have h1 := fs 0 (by omega)
    rw [f0, show 0 + 1 = 1 from rfl, fL] at h1
    have := h i j hi hj h1
    omega
  · have := fb 1 (by omega) (by omega)
    omega
/-- the least steps, when all have been passed -/
theorem r_cpl_all {E : Nat → Nat → Prop} {P : Nat} {s : Nat → Int} (hlt : ∀ a b, E a b → a < P ∧ b < P) (hP : P ≤ 7) (hc : r_cpl E P s) {i j L : Nat} (hi : i < 7) (hj : j < 7) (hL : 1 ≤ L) (hr : r_R E L i j) : s (7 * i + j) ≤ (L : Int) := by
  obtain ⟨f, f0, fL, fs⟩ := hr
  exact hc i j L hi hj hL ⟨f, f0, fL, fs, fun t h1 h2 => (hlt _ _ (fs t h2)).1⟩