/-! SETS of papers: the best, by rising bits; the class's search -/
def an_kl (mk : Nat → Nat) (x : Nat) : Prop := ∀ i j, i < j → Nat.testBit x i = true → Nat.testBit x j = true → mk i &&& mk j = 0
def an_vd (c : Nat → Prop) (mk : Nat → Nat) (K : Int) (E : Prop) (x : Nat) : Prop := (∀ i, Nat.testBit x i = true → c i) ∧ an_kl mk x ∧ am_pc x ≤ K ∧ (E → am_pc x = K)
def an_su (f : Nat → Int) (x : Nat) : Int := am_sumb 16 (fun i => bif Nat.testBit x i then f i else 0)
def an_or (mk : Nat → Nat) (x : Nat) : Nat := am_orb 16 (fun i => bif Nat.testBit x i then mk i else 0)
def an_bs (P : Nat → Prop) (f : Nat → Int) (n : Nat) (b m : Int) : Prop := (b = -1 ∧ m = 0 ∧ ∀ x, x < n → ¬ P x) ∨ (∃ x : Nat, m = (x : Int) ∧ x < n ∧ P x ∧ b = f x ∧ ∀ y, y < n → P y → f y ≤ f x ∧ (y < x → f y < f x))
theorem an_bs_u {P : Nat → Prop} {f : Nat → Int} {n : Nat} {b m b2 m2 : Int} (h : an_bs P f n b m) (g : an_bs P f n b2 m2) : b = b2 ∧ m = m2 := by
  rcases h with ⟨h1, h2, h3⟩ | ⟨x, h1, h2, h3, h4, h5⟩
  · rcases g with ⟨g1, g2, g3⟩ | ⟨y, g1, g2, g3, g4, g5⟩
    · exact ⟨by omega, by omega⟩
    · exact absurd g3 (h3 y g2)
  · rcases g with ⟨g1, g2, g3⟩ | ⟨y, g1, g2, g3, g4, g5⟩
    · exact absurd h3 (g3 x h2)
    · have a1 := h5 y g2 g3
      have a2 := g5 x h2 h3
      by_cases q : x < y
      · have := a2.2 q; omega
      · by_cases q2 : y < x
        · have := a1.2 q2; omega
        · rw [show x = y by omega] at h1 h4
          exact ⟨by omega, by omega⟩
theorem an_bs_skip {P : Nat → Prop} {f : Nat → Int} {n n2 : Nat} {b m : Int} (hn : n ≤ n2) (hz : ∀ x, n ≤ x → x < n2 → ¬ P x) (h : an_bs P f n b m) : an_bs P f n2 b m := by
  rcases h with ⟨h1, h2, h3⟩ | ⟨x, h1, h2, h3, h4, h5⟩
  · refine Or.inl ⟨h1, h2, fun x hx => ?_⟩
    by_cases q : x < n
    · exact h3 x q
    · exact hz x (by omega) hx
  · refine Or.inr ⟨x, h1, by omega, h3, h4, fun y hy hp => ?_⟩
    by_cases q : y < n
    · exact h5 y q hp
    · exact absurd hp (hz y (by omega) hy)
theorem an_bs_0 {P : Nat → Prop} {f : Nat → Int} : an_bs P f 0 (-1) 0 := Or.inl ⟨rfl, rfl, fun x hx => by omega⟩
theorem an_bs_s {P : Nat → Prop} {f : Nat → Int} {n : Nat} {b m : Int} (h : an_bs P f n b m) (hp : P n) (h0 : 0 ≤ f n) : an_bs P f (n + 1) (if f n ≤ b then b else f n) (if f n ≤ b then m else (n : Int)) := by
  rcases h with ⟨h1, h2, h3⟩ | ⟨x, h1, h2, h3, h4, h5⟩
  · rw [if_neg (by omega), if_neg (by omega)]
    refine Or.inr ⟨n, rfl, by omega, hp, rfl, fun y hy hq => ?_⟩
    by_cases q : y = n
    · rw [q]; exact ⟨Int.le_refl _, fun w => by omega⟩
    · exact absurd hq (h3 y (by omega))
  · by_cases q : f n ≤ b
    · rw [if_pos q, if_pos q]
      refine Or.inr ⟨x, h1, by omega, h3, h4, fun y hy hq => ?_⟩
      by_cases q2 : y = n
      · rw [q2]; exact ⟨by omega, fun w => by omega⟩
      · exact h5 y (by omega) hq
    · rw [if_neg q, if_neg q]
      refine Or.inr ⟨n, rfl, by omega, hp, rfl, fun y hy hq => ?_⟩
      by_cases q2 : y = n
      · rw [q2]; exact ⟨Int.le_refl _, fun w => by omega⟩
      · have := h5 y (by omega) hq
        exact ⟨by omega, fun _ => by omega⟩
theorem an_rg {B e x : Nat} (he : B % 2 ^ e = 0) (h1 : B ≤ x) (h2 : x < B + 2 ^ e) : ∃ y, y < 2 ^ e ∧ x = B + y ∧ ∀ i, Nat.testBit x i = (if i < e then Nat.testBit y i else Nat.testBit B i) := by
  have hB : 2 ^ e * (B / 2 ^ e) = B := by have := Nat.div_add_mod B (2 ^ e); omega
  refine ⟨x - B, by omega, by omega, fun i => ?_⟩
  have h3 : x - B < 2 ^ e := by omega
  have h4 := Nat.testBit_two_pow_mul_add (B / 2 ^ e) h3 i
  rw [hB, show B + (x - B) = x by omega] at h4
  rw [h4]
  by_cases q : i < e
  · rw [if_pos q, if_pos q]
  · rw [if_neg q, if_neg q, Nat.testBit_div_two_pow, show i - e + e = i by omega]
theorem an_lowz {B e i : Nat} (he : B % 2 ^ e = 0) (hi : i < e) : Nat.testBit B i = false := by
  have := Nat.two_pow_pos e
  obtain ⟨y, h1, h2, h3⟩ := an_rg he (Nat.le_refl B) (by omega)
  rw [h3 i, if_pos hi, show y = 0 by omega, Nat.zero_testBit]
theorem an_m2 {B e p : Nat} (he : B % 2 ^ e = 0) (hp : p ≤ e) : B % 2 ^ p = 0 := Nat.mod_eq_zero_of_dvd (Nat.dvd_trans (Nat.pow_dvd_pow 2 hp) (Nat.dvd_of_mod_eq_zero he))
theorem an_pp {e p : Nat} (hp : p < e) : 2 ^ p + 2 ^ p ≤ 2 ^ e := by
  have := Nat.pow_le_pow_right (show 0 < 2 by omega) (show p + 1 ≤ e by omega)
  rw [Nat.pow_succ] at this
  omega
theorem an_addb {B e p i : Nat} (he : B % 2 ^ e = 0) (hp : p < e) : Nat.testBit (B + 2 ^ p) i = (Nat.testBit B i || decide (p = i)) := by
  have h0 := an_pp hp
  have h00 := Nat.two_pow_pos p
  obtain ⟨y, h1, h2, h3⟩ := an_rg he (show B ≤ B + 2 ^ p by omega) (by omega)
  rw [h3 i, show y = 2 ^ p by omega]
  by_cases q : i < e
  · rw [if_pos q, an_lowz he q, Nat.testBit_two_pow, Bool.false_or]
  · rw [if_neg q, decide_eq_false (by omega), Bool.or_false]
theorem an_addo {B e p : Nat} (he : B % 2 ^ e = 0) (hp : p < e) : B ||| 2 ^ p = B + 2 ^ p := Nat.eq_of_testBit_eq (fun i => by
  rw [an_addb he hp, Nat.testBit_or, Nat.testBit_two_pow])
theorem an_su_add {f : Nat → Int} {B e p : Nat} (he : B % 2 ^ e = 0) (hp : p < e) (h16 : p < 16) : an_su f (B + 2 ^ p) = an_su f B + f p := by
  have h4 := am_sumb_one (n := 16) (i := p) (x := f p) h16
  have key : am_sumb 16 (fun i => bif Nat.testBit (B + 2 ^ p) i then f i else 0) = am_sumb 16 (fun i => (bif Nat.testBit B i then f i else 0) + (if i = p then f p else 0)) := am_sumb_eq (fun i _ => by
    show (bif Nat.testBit (B + 2 ^ p) i then f i else 0) = (bif Nat.testBit B i then f i else 0) + (if i = p then f p else 0)
    rw [an_addb he hp]
    by_cases q : p = i
    · rw [← q, an_lowz he hp, if_pos rfl, decide_eq_true rfl]
      show f p = 0 + f p
      omega
    · rw [if_neg (by omega), decide_eq_false q, Bool.or_false]
      omega)
  unfold an_su
  rw [key, am_sumb_add, h4]
theorem an_pc_su {x : Nat} : am_pc x = an_su (fun _ => 1) x := rfl
theorem an_or_tb {mk : Nat → Nat} {x i : Nat} : Nat.testBit (an_or mk x) i = true ↔ ∃ k, k < 16 ∧ Nat.testBit x k = true ∧ Nat.testBit (mk k) i = true := by
  unfold an_or
  rw [am_orb_tb]
  constructor
  · rintro ⟨k, h1, h2⟩
    cases hb : Nat.testBit x k with
    | true => rw [hb] at h2; exact ⟨k, h1, hb, h2⟩
    | false => rw [hb] at h2; rw [cond_false, Nat.zero_testBit] at h2; cases h2
  · rintro ⟨k, h1, h2, h3⟩
    exact ⟨k, h1, by rw [h2]; exact h3⟩
theorem an_or_add {mk : Nat → Nat} {B e p : Nat} (he : B % 2 ^ e = 0) (hp : p < e) (h16 : p < 16) : an_or mk (B + 2 ^ p) = an_or mk B ||| mk p := Nat.eq_of_testBit_eq (fun i => by
  apply Bool.eq_iff_iff.2
  rw [Nat.testBit_or, Bool.or_eq_true, an_or_tb, an_or_tb]
  constructor
  · rintro ⟨k, h1, h2, h3⟩
    rw [an_addb he hp, Bool.or_eq_true, decide_eq_true_eq] at h2
    rcases h2 with h2 | h2
    · exact Or.inl ⟨k, h1, h2, h3⟩
    · rw [h2]; exact Or.inr h3
  · rintro (⟨k, h1, h2, h3⟩ | h)
    · exact ⟨k, h1, by rw [an_addb he hp, h2]; rfl, h3⟩
    · exact ⟨p, h16, by rw [an_addb he hp, decide_eq_true rfl, Bool.or_true], h⟩)
/-- between, with p the only one below e that it may have -/
theorem an_split {B e p x : Nat} (he : B % 2 ^ e = 0) (hp : p < e) (h1 : B ≤ x) (h2 : x < B + 2 ^ e) (hz : ∀ i, p < i → i < e → Nat.testBit x i = false) : (Nat.testBit x p = false ∧ x < B + 2 ^ p) ∨ (Nat.testBit x p = true ∧ B + 2 ^ p ≤ x ∧ x < B + 2 ^ p + 2 ^ p) := by
  obtain ⟨y, y1, y2, y3⟩ := an_rg he h1 h2
  have hy : ∀ i, p < i → Nat.testBit y i = false := fun i hi => by
    by_cases q : i < e
    · have := y3 i
      rw [if_pos q, hz i hi q] at this
      exact this.symm
    · exact Nat.testBit_lt_two_pow (Nat.lt_of_lt_of_le y1 (Nat.pow_le_pow_right (by omega) (by omega)))
  have hy2 : y < 2 ^ (p + 1) := Nat.lt_pow_two_of_testBit _ (fun i hi => hy i (by omega))
  rw [Nat.pow_succ] at hy2
  have hp2 := y3 p
  rw [if_pos hp] at hp2
  cases hb : Nat.testBit x p with
  | true =>
    rw [hb] at hp2
    have := Nat.ge_two_pow_of_testBit hp2.symm
    exact Or.inr ⟨rfl, by omega, by omega⟩
  | false =>
    rw [hb] at hp2
    have hy3 : y < 2 ^ p := Nat.lt_pow_two_of_testBit _ (fun i hi => by
      by_cases q : i = p
      · rw [q]; exact hp2.symm
      · exact hy i (by omega))
    exact Or.inl ⟨rfl, by omega⟩
theorem an_su_le {f : Nat → Int} {B : Nat} (h : ∀ i, Nat.testBit B i = true → 0 ≤ f i ∧ f i ≤ 40) : 0 ≤ an_su f B ∧ an_su f B ≤ 640 := by
  have h1 := am_sumb_le (n := 16) (g := fun i => bif Nat.testBit B i then f i else 0) (A := 0) (B := 40) (fun k _ => by
    show 0 ≤ (bif Nat.testBit B k then f k else 0) ∧ (bif Nat.testBit B k then f k else 0) ≤ 40
    cases hb : Nat.testBit B k with
    | true => exact h k hb
    | false => exact ⟨(by decide : (0 : Int) ≤ 0), (by decide : (0 : Int) ≤ 40)⟩)
  unfold an_su
  omega
def an_pa (c : Nat → Prop) (pa : Nat → Nat) (o : Nat) : Prop := (∀ q, q < o → pa q < 16) ∧ (∀ q r, q < r → r < o → pa q < pa r) ∧ (∀ i, c i ↔ ∃ q, q < o ∧ pa q = i)
theorem an_pa_lt {c : Nat → Prop} {pa : Nat → Nat} {o q e : Nat} (hpa : an_pa c pa o) (hq : q < o) (he : ∀ r, r < o → (pa r < e ↔ r < q + 1)) : ∀ r, r < o → (pa r < pa q ↔ r < q) := fun r hr => by
  by_cases a : r < q
  · have := hpa.2.1 r q a hq
    omega
  · by_cases b : q < r
    · have := hpa.2.1 q r b hr
      omega
    · rw [show r = q by omega]
      omega
theorem an_pa_z {c : Nat → Prop} {pa : Nat → Nat} {o q e x : Nat} (hpa : an_pa c pa o) (hq : q < o) (he : ∀ r, r < o → (pa r < e ↔ r < q + 1)) (hx : ∀ i, Nat.testBit x i = true → c i) : ∀ i, pa q < i → i < e → Nat.testBit x i = false := fun i h1 h2 => by
  cases hb : Nat.testBit x i with
  | false => rfl
  | true =>
    obtain ⟨r, r1, r2⟩ := (hpa.2.2 i).1 (hx i hb)
    have h3 := (he r r1).1 (by omega)
    by_cases a : r = q
    · rw [a] at r2; omega
    · have := hpa.2.1 r q (by omega) hq
      omega
theorem an_pa_0 {c : Nat → Prop} {pa : Nat → Nat} {o e B x : Nat} (hpa : an_pa c pa o) (he : ∀ r, r < o → (pa r < e ↔ r < 0)) (hB : B % 2 ^ e = 0) (h1 : B ≤ x) (h2 : x < B + 2 ^ e) (hx : ∀ i, Nat.testBit x i = true → c i) : x = B := by
  obtain ⟨y, y1, y2, y3⟩ := an_rg hB h1 h2
  have : y = 0 := Nat.eq_of_testBit_eq (fun i => by
    rw [Nat.zero_testBit]
    by_cases q : i < e
    · cases hb : Nat.testBit y i with
      | false => rfl
      | true =>
        have h3 := y3 i
        rw [if_pos q, hb] at h3
        obtain ⟨r, r1, r2⟩ := (hpa.2.2 i).1 (hx i h3)
        have := (he r r1).1 (by omega)
        omega
    · exact Nat.testBit_lt_two_pow (Nat.lt_of_lt_of_le y1 (Nat.pow_le_pow_right (by omega) (by omega))))
  omega
theorem an_pa_cnt {c : Nat → Prop} {pa : Nat → Nat} {o : Nat} (hpa : an_pa c pa o) : ∀ (q e B x : Nat), q ≤ o → (∀ r, r < o → (pa r < e ↔ r < q)) → B % 2 ^ e = 0 → B ≤ x → x < B + 2 ^ e → (∀ i, Nat.testBit x i = true → c i) → am_pc x ≤ am_pc B + q := by
  intro q
  induction q with
  | zero =>
    intro e B x _ he hB h1 h2 hx
    rw [an_pa_0 hpa he hB h1 h2 hx]
    omega
  | succ q ih =>
    intro e B x hq he hB h1 h2 hx
    have hpe := (he q (by omega)).2 (by omega)
    have h16 := hpa.1 q (by omega)
    have hl := an_pa_lt hpa (by omega) he
    rcases an_split hB hpe h1 h2 (an_pa_z hpa (by omega) he hx) with ⟨s1, s2⟩ | ⟨s1, s2, s3⟩
    · have := ih (pa q) B x (by omega) hl (an_m2 hB (by omega)) h1 s2 hx
      omega
    · have h4 := ih (pa q) (B + 2 ^ pa q) x (by omega) hl (by rw [Nat.add_mod_right]; exact an_m2 hB (by omega)) s2 s3 hx
      have h5 := an_su_add (f := fun _ => 1) hB hpe h16
      rw [← an_pc_su, ← an_pc_su] at h5
      omega
/-- the search from the q lowest offered -/
theorem lp_choose {L : Nat} {kp : Nat} {h : Nat → Nat → Int} {c : Nat → Prop} {mk pa : Nat → Nat} {f : Nat → Int} {K x4 : Int} {o : Nat} (hpa : an_pa c pa o) (ho : o ≤ 16) (hK : 0 ≤ K ∧ K ≤ 16) (h66 : h 66 4 = x4) (h68 : ∀ q, q < o → h 68 q = f (pa q)) (h69 : ∀ q, q < o → h 69 q = ((mk (pa q) : Nat) : Int)) (h67 : ∀ q, q < o → h 67 q = ((pa q : Nat) : Int)) (hf : ∀ i, c i → 0 ≤ f i ∧ f i ≤ 40) (hmk : ∀ i, mk i < 2 ^ 14) : ∀ (q d e B : Nat) (g : Nat → Nat → Int) (Q : Option am_V → am_H → Prop), q + 2 ≤ d → q ≤ o → e ≤ 16 → (∀ r, r < o → (pa r < e ↔ r < q)) → B % 2 ^ e = 0 → (∀ i, Nat.testBit B i = true → c i) → an_kl mk B → am_pc B ≤ K → (x4 = 0 ∨ x4 = 1) → (∀ a i, ¬ a = 66 ∨ i = 4 → g a i = h a i) → an_bs (an_vd c mk K (¬ x4 = 0)) (an_su f) B (g 66 5) (g 66 6) → (∀ g2, (∀ a i, ¬ a = 66 ∨ i = 4 → g2 a i = h a i) → an_bs (an_vd c mk K (¬ x4 = 0)) (an_su f) (B + 2 ^ e) (g2 66 5) (g2 66 6) → Q none (am_SH L, g2, am_RR kp)) → am_Wp d 136 0 [some (Sum.inr (Sum.inr 66)), some (Sum.inl (q - 1 : Int)), some (Sum.inl (K - am_pc B)), some (Sum.inl ((an_or mk B : Nat) : Int)), some (Sum.inl (an_su f B)), some (Sum.inl (B : Int)), none] [] (am_SH L, g, am_RR kp) Q := by
  intro q
  induction q with
  | zero =>
    intro d e B g Q hd hq he16 he hB hBc hBk hBp h4 hk hb K2
    have hs := an_su_le (B := B) (fun i hi => hf i (hBc i hi))
    have hpe := Nat.two_pow_pos e
    have hpc := (an_pc_le (x := B)).1
    have e1 : ((0 : Nat) : Int) - 1 = -1 := by omega
    have g4 : g 66 4 = x4 := (hk 66 4 (Or.inr rfl)).trans h66
    have hz0 : ∀ x, B + 1 ≤ x → x < B + 2 ^ e → ¬ an_vd c mk K (¬ x4 = 0) x := fun x h1 h2 hv => by
      have := an_pa_0 hpa he hB (by omega) h2 hv.1
      omega
    have h42 : ∀ b m : Int, b = g 66 5 → m = g 66 6 → an_bs (an_vd c mk K (¬ x4 = 0)) (an_su f) (B + 1) b m → am_Wp d 136 42 [some (Sum.inr (Sum.inr 66)), some (Sum.inl ((-1))), some (Sum.inl ((K - am_pc B))), some (Sum.inl (((an_or mk B : Nat) : Int))), some (Sum.inl ((an_su f B))), some (Sum.inl ((B : Int))), none] [] (am_SH L, g, am_RR kp) Q := fun b m hb1 hm1 w => by
      rw [bq_Picker_chooseFrom_42]
      refine K2 g hk (an_bs_skip (by omega) hz0 ?_)
      rw [← hb1, ← hm1]
      exact w
    rw [e1, bq_Picker_chooseFrom_0, if_pos (by omega), bq_Picker_chooseFrom_10]
    by_cases qv : an_vd c mk K (¬ x4 = 0) B
    · have hst := an_bs_s hb qv hs.1
      by_cases q1 : an_su f B ≤ g 66 5
      · rw [if_pos q1] at hst ⊢
        rw [if_pos q1] at hst
        exact h42 _ _ rfl rfl hst
      · rw [if_neg q1] at hst ⊢
        rw [if_neg q1] at hst
        have h30 : am_Wp d 136 30 [some (Sum.inr (Sum.inr 66)), some (Sum.inl ((-1))), some (Sum.inl ((K - am_pc B))), some (Sum.inl (((an_or mk B : Nat) : Int))), some (Sum.inl ((an_su f B))), some (Sum.inl ((B : Int))), none] [] (am_SH L, g, am_RR kp) Q := by
          rw [bq_Picker_chooseFrom_30, bq_Picker_chooseFrom_42]
          refine K2 _ (fun a i hai => ?_) (an_bs_skip (by omega) hz0 ?_)
          · unfold am_up
            by_cases w1 : a = 66
            · rw [if_pos w1, if_neg (by omega), if_pos w1, if_neg (by omega)]
              exact hk a i hai
            · rw [if_neg w1, if_neg w1]
              exact hk a i hai
          · exact hst
        by_cases q2 : K - am_pc B = 0
        · rw [if_pos q2]; exact h30
        · rw [if_neg q2, g4]
          by_cases q3 : x4 = 0
          · rw [if_pos q3]; exact h30
          · exact absurd (qv.2.2.2 q3) (by omega)
    · have hst := an_bs_skip (n2 := B + 1) (by omega) (fun x h1 h2 => by rw [show x = B by omega]; exact qv) hb
      by_cases q1 : an_su f B ≤ g 66 5
      · rw [if_pos q1]; exact h42 _ _ rfl rfl hst
      · have n1 : ¬ K - am_pc B = 0 := fun w => qv ⟨hBc, hBk, hBp, fun _ => by omega⟩
        have n2 : ¬ x4 = 0 := fun w => qv ⟨hBc, hBk, hBp, fun w2 => absurd w w2⟩
        rw [if_neg q1, if_neg n1, g4, if_neg n2]
        exact h42 _ _ rfl rfl hst
  | succ q ih =>
    intro d e B g Q hd hq he16 he hB hBc hBk hBp h4 hk hb K2
    have hs := an_su_le (B := B) (fun i hi => hf i (hBc i hi))
    have hpe := Nat.two_pow_pos e
    have hpc := (an_pc_le (x := B)).1
    have e1 : ((q + 1 : Nat) : Int) - 1 = (q : Int) := by omega
    have g4 : g 66 4 = x4 := (hk 66 4 (Or.inr rfl)).trans h66
    have hpq := (he q (by omega)).2 (by omega)
    have h16 := hpa.1 q (by omega)
    have hl := an_pa_lt hpa (by omega) he
    have hpp := an_pp hpq
    have hp0 := Nat.two_pow_pos (pa q)
    have hcp : c (pa q) := (hpa.2.2 (pa q)).2 ⟨q, by omega, rfl⟩
    have hfp := hf (pa q) hcp
    have eQ : am_sub (q : Int) 1 = (q : Int) - 1 := am_sub_ok (by omega) (by omega)
    have hpc2 := an_su_add (f := fun _ => 1) hB hpq h16
    rw [← an_pc_su, ← an_pc_su] at hpc2
    have hin : ∀ x, B ≤ x → x < B + 2 ^ e → an_vd c mk K (¬ x4 = 0) x → (Nat.testBit x (pa q) = false ∧ x < B + 2 ^ pa q) ∨ (Nat.testBit x (pa q) = true ∧ B + 2 ^ pa q ≤ x ∧ x < B + 2 ^ pa q + 2 ^ pa q) := fun x h1 h2 hv => an_split hB hpq h1 h2 (an_pa_z hpa (by omega) he hv.1)
    have hBx : ∀ x, B ≤ x → x < B + 2 ^ e → Nat.testBit x (pa q) = true → ∀ i, Nat.testBit (B + 2 ^ pa q) i = true → Nat.testBit x i = true := fun x h1 h2 hx i hi => by
      rw [an_addb hB hpq, Bool.or_eq_true, decide_eq_true_eq] at hi
      rcases hi with hi | hi
      · obtain ⟨y, y1, y2, y3⟩ := an_rg hB h1 h2
        rw [y3 i]
        by_cases w : i < e
        · rw [an_lowz hB w] at hi; cases hi
        · rw [if_neg w]; exact hi
      · rw [← hi]; exact hx
    have hor : an_or mk B < 2 ^ 14 := am_orb_lt (fun k hk => by
      show (bif Nat.testBit B k then mk k else 0) < 2 ^ 14
      cases Nat.testBit B k
      · exact (by decide : 0 < 2 ^ 14)
      · exact hmk k)
    have hmq := hmk (pa q)
    have r58 : am_Wp d 136 58 [some (Sum.inr (Sum.inr 66)), some (Sum.inl ((q : Int))), some (Sum.inl ((K - am_pc B))), some (Sum.inl (((an_or mk B : Nat) : Int))), some (Sum.inl ((an_su f B))), some (Sum.inl ((B : Int))), none] [] (am_SH L, g, am_RR kp) Q := by
      rw [bq_Picker_chooseFrom_58 (by omega), eQ]
      refine ih (d - 1) (pa q) B g _ (by omega) (by omega) (by omega) hl (an_m2 hB (by omega)) hBc hBk hBp h4 hk hb (fun g1 k1 b1 => ?_)
      simp only [Option.toList_some, Option.toList_none, List.cons_append, List.nil_append]
      rw [bq_Picker_chooseFrom_71 (by omega), sp_at_69, am_lk_nat (by omega), k1 69 q (Or.inl (by omega)), h69 q (by omega)]
      simp only [Option.toList_some, Option.toList_none, List.cons_append, List.nil_append]
      rw [bq_Picker_chooseFrom_79 (by omega), am_and_ok (by omega) (by omega)]
      have r130 : (∀ x, B + 2 ^ pa q ≤ x → x < B + 2 ^ e → ¬ an_vd c mk K (¬ x4 = 0) x) → am_Wp d 136 130 [some (Sum.inr (Sum.inr 66)), some (Sum.inl ((q : Int))), some (Sum.inl ((K - am_pc B))), some (Sum.inl (((an_or mk B : Nat) : Int))), some (Sum.inl ((an_su f B))), some (Sum.inl ((B : Int))), some (Sum.inl (((mk (pa q) : Nat) : Int)))] [] (am_SH L, g1, am_RR kp) Q := fun hz => by
        rw [bq_Picker_chooseFrom_130]
        exact K2 g1 k1 (an_bs_skip (by omega) hz b1)
      by_cases q1 : K - am_pc B ≤ 0
      · rw [if_pos q1]
        refine r130 (fun x h1 h2 hv => ?_)
        rcases hin x (by omega) h2 hv with w | ⟨w1, w2, w3⟩
        · omega
        · have := an_pc_m (hBx x (by omega) h2 w1)
          have := hv.2.2.1
          omega
      · rw [if_neg q1]
        by_cases q2 : an_or mk B &&& mk (pa q) = 0
        · have hk2 : an_kl mk (B + 2 ^ pa q) := fun i j hij hi hj => by
            rw [an_addb hB hpq, Bool.or_eq_true, decide_eq_true_eq] at hi hj
            rcases hi with hi | hi
            · rcases hj with hj | hj
              · exact hBk i j hij hi hj
              · exfalso
                by_cases w : i < e
                · rw [an_lowz hB w] at hi; cases hi
                · omega
            · rcases hj with hj | hj
              · by_cases w : mk i &&& mk j = 0
                · exact w
                · obtain ⟨p, p1, p2⟩ := am_and_ne.1 w
                  exfalso
                  have hj16 : j < 16 := by
                    obtain ⟨r, r1, r2⟩ := (hpa.2.2 j).1 (hBc j hj)
                    have := hpa.1 r r1
                    omega
                  exact am_and_ne.2 ⟨p, an_or_tb.2 ⟨j, hj16, hj, p2⟩, by rw [hi]; exact p1⟩ q2
              · omega
          rw [if_pos (by omega), sp_at_68, am_lk_nat (by omega), k1 68 q (Or.inl (by omega)), h68 q (by omega)]
          simp only [Option.toList_some, Option.toList_none, List.cons_append, List.nil_append]
          rw [bq_Picker_chooseFrom_113 (by omega), sp_at_67, am_lk_nat (by omega), k1 67 q (Or.inl (by omega)), h67 q (by omega)]
          simp only [Option.toList_some, Option.toList_none, List.cons_append, List.nil_append]
          have pk : 2 ^ pa q < 2 ^ 16 := Nat.pow_lt_pow_right (by omega) (by omega)
          have hB16 : B < 2 ^ 16 := Nat.lt_pow_two_of_testBit _ (fun i hi => by
            cases hbb : Nat.testBit B i with
            | false => rfl
            | true =>
              obtain ⟨r, r1, r2⟩ := (hpa.2.2 i).1 (hBc i hbb)
              have := hpa.1 r r1
              omega)
          have eL : am_sub (K - am_pc B) 1 = K - am_pc (B + 2 ^ pa q) := by rw [am_sub_ok (by omega) (by omega), hpc2]; omega
          have eO : am_or ((an_or mk B : Nat) : Int) ((mk (pa q) : Nat) : Int) = ((an_or mk (B + 2 ^ pa q) : Nat) : Int) := by rw [am_or_ok (by omega) (by omega), an_or_add hB hpq h16]
          have eS : am_add (an_su f B) (f (pa q)) = an_su f (B + 2 ^ pa q) := by rw [am_add_ok (by omega) (by omega), an_su_add hB hpq h16]
          have eB : am_or (B : Int) (am_shl 1 ((pa q : Nat) : Int)) = ((B + 2 ^ pa q : Nat) : Int) := by rw [am_shl1 (by omega), am_or_ok (by omega) (by omega), an_addo hB hpq]
          rw [bq_Picker_chooseFrom_125 (by omega), eQ, eL, eO, eS, eB]
          refine ih (d - 1) (pa q) (B + 2 ^ pa q) g1 _ (by omega) (by omega) (by omega) hl (by rw [Nat.add_mod_right]; exact an_m2 hB (by omega)) (fun i hi => ?_) hk2 (by omega) h4 k1 b1 (fun g2 k2 b2 => ?_)
          · rw [an_addb hB hpq, Bool.or_eq_true, decide_eq_true_eq] at hi
            rcases hi with hi | hi
            · exact hBc i hi
            · rw [← hi]; exact hcp
          · simp only [Option.toList_some, Option.toList_none, List.cons_append, List.nil_append]
            rw [bq_Picker_chooseFrom_130]
            refine K2 g2 k2 (an_bs_skip (by omega) (fun x h1 h2 hv => ?_) b2)
            rcases hin x (by omega) h2 hv with w | ⟨w1, w2, w3⟩
            · omega
            · omega
        · rw [if_neg (by omega)]
          refine r130 (fun x h1 h2 hv => ?_)
          rcases hin x (by omega) h2 hv with w | ⟨w1, w2, w3⟩
          · omega
          · obtain ⟨p, p1, p2⟩ := am_and_ne.1 q2
            obtain ⟨k, k2, k3, k4⟩ := an_or_tb.1 p1
            have hke : pa q < k := by
              by_cases w : k < e
              · rw [an_lowz hB w] at k3; cases k3
              · omega
            have hxk := hBx x (by omega) h2 w1 k (by rw [an_addb hB hpq, k3]; rfl)
            exact am_and_ne.2 ⟨p, p2, k4⟩ (hv.2.1 (pa q) k hke w1 hxk)
    rw [e1, bq_Picker_chooseFrom_0, if_neg (by omega), if_pos (by omega), g4]
    by_cases q3 : x4 = 0
    · rw [if_pos q3]; exact r58
    · rw [if_neg q3]
      by_cases q4 : K - am_pc B ≤ am_add (q : Int) 1
      · rw [if_pos q4]; exact r58
      · rw [if_neg q4]
        rw [am_add_ok (by omega) (by omega)] at q4
        refine K2 g hk (an_bs_skip (by omega) (fun x h1 h2 hv => ?_) hb)
        have := an_pa_cnt hpa (q + 1) e B x hq he hB h1 h2 hv.1
        have := hv.2.2.2 q3
        omega