/-! ROUNDS: the fewest, of the class -/
def an_mn (ok : Nat → Prop) (S : Nat) (v : Int) : Prop := ∃ k : Nat, v = (k : Int) ∧ an_pt ok k S ∧ ∀ j, an_pt ok j S → k ≤ j
theorem an_mn_u {ok : Nat → Prop} {S : Nat} {v w : Int} (hv : an_mn ok S v) (hw : an_mn ok S w) : v = w := by
  obtain ⟨k, h1, h2, h3⟩ := hv
  obtain ⟨j, g1, g2, g3⟩ := hw
  have := h3 j g2
  have := g3 k h2
  omega
theorem an_mn_0 {ok : Nat → Prop} : an_mn ok 0 0 := ⟨0, rfl, rfl, fun j _ => Nat.zero_le j⟩
noncomputable def an_mnv (ok : Nat → Prop) (S : Nat) : Int := @dite Int (∃ v, an_mn ok S v) (Classical.propDecidable _) (fun h => h.choose) (fun _ => 0)
theorem an_mnv_eq {ok : Nat → Prop} {S : Nat} {v : Int} (h : an_mn ok S v) : v = an_mnv ok S := by
  have hx : ∃ v, an_mn ok S v := ⟨v, h⟩
  unfold an_mnv
  rw [dif_pos hx]
  exact an_mn_u h hx.choose_spec
/-- one by one -/
theorem an_pt_one {ok : Nat → Prop} : ∀ (n : Nat), (∀ t, t < n → ok (2 ^ t)) → ∀ {S : Nat}, S < 2 ^ n → ∃ k, k ≤ n ∧ an_pt ok k S := by
  intro n
  induction n with
  | zero => exact fun _ S hS => ⟨0, Nat.le_refl 0, by show S = 0; have : (2 : Nat) ^ 0 = 1 := rfl; omega⟩
  | succ n ih =>
    intro hok S hS
    cases hx : Nat.testBit S n with
    | true =>
      have hsb : an_sb (2 ^ n) S := fun i hi => by
        rw [Nat.testBit_two_pow, decide_eq_true_eq] at hi
        rw [← hi]; exact hx
      have hlt : an_dif S (2 ^ n) < 2 ^ n := by
        apply Nat.lt_pow_two_of_testBit
        intro i hi
        rw [an_dif_tb, Nat.testBit_two_pow]
        by_cases q : n = i
        · rw [decide_eq_true q]; simp
        · rw [Nat.testBit_lt_two_pow (Nat.lt_of_lt_of_le hS (Nat.pow_le_pow_right (by omega) (show n + 1 ≤ i by omega)))]; rfl
      obtain ⟨k, h1, h2⟩ := ih (fun t ht => hok t (by omega)) hlt
      exact ⟨k + 1, by omega, 2 ^ n, by have := Nat.two_pow_pos n; omega, hsb, hok n (by omega), h2⟩
    | false =>
      have hlt : S < 2 ^ n := by
        apply Nat.lt_pow_two_of_testBit
        intro i hi
        by_cases q : i = n
        · rw [q]; exact hx
        · exact Nat.testBit_lt_two_pow (Nat.lt_of_lt_of_le hS (Nat.pow_le_pow_right (by omega) (show n + 1 ≤ i by omega)))
      obtain ⟨k, h1, h2⟩ := ih (fun t ht => hok t (by omega)) hlt
      exact ⟨k, by omega, h2⟩
theorem an_mn_le {ok : Nat → Prop} {n S : Nat} {v : Int} (hok : ∀ t, t < n → ok (2 ^ t)) (hS : S < 2 ^ n) (h : an_mn ok S v) : 0 ≤ v ∧ v ≤ (n : Int) := by
  obtain ⟨k, h1, h2, h3⟩ := h
  obtain ⟨j, g1, g2⟩ := an_pt_one n hok hS
  have := h3 j g2
  omega
/-! who is in which two, nobody in two of them -/
def an_bt (s : an_T) (i : Nat) : Nat := 2 ^ (s.2 i).1 ||| 2 ^ (s.2 i).2.1
def an_seen (s : an_T) (S n : Nat) : Nat := am_orb n (fun i => bif Nat.testBit S i then an_bt s i else 0)
def an_apb (s : an_T) (S n : Nat) : Bool := !am_any n (fun i => Nat.testBit S i && !decide (an_seen s S i &&& an_bt s i = 0))
def an_ap (s : an_T) (S : Nat) : Prop := an_apb s S s.1 = true
theorem an_seen_s {s : an_T} {S n : Nat} : an_seen s S (n + 1) = an_seen s S n ||| (bif Nat.testBit S n then an_bt s n else 0) := rfl
theorem an_apb_s {s : an_T} {S n : Nat} : an_apb s S (n + 1) = (an_apb s S n && !(Nat.testBit S n && !decide (an_seen s S n &&& an_bt s n = 0))) := by
  show (!(am_any n _ || _)) = _
  rw [Bool.not_or]
  rfl
theorem an_seen_e {s : an_T} {S R n : Nat} (h : ∀ i, i < n → Nat.testBit S i = Nat.testBit R i) : an_seen s S n = an_seen s R n := by
  unfold an_seen
  exact am_orb_eq (fun i hi => by rw [h i hi])
theorem an_apb_e {s : an_T} {S R n : Nat} (h : ∀ i, i < n → Nat.testBit S i = Nat.testBit R i) : an_apb s S n = an_apb s R n := by
  induction n with
  | zero => rfl
  | succ n ih => rw [an_apb_s, an_apb_s, ih (fun i hi => h i (by omega)), h n (by omega), an_seen_e (fun i hi => h i (by omega))]
theorem an_seen_t {s : an_T} {S n m : Nat} (hnm : n ≤ m) (h : ∀ i, n ≤ i → Nat.testBit S i = false) : an_seen s S m = an_seen s S n := by
  induction m with
  | zero => rw [show n = 0 by omega]
  | succ m ih =>
    by_cases q : n = m + 1
    · rw [q]
    · rw [an_seen_s, ih (by omega), h m (by omega)]
      exact Nat.or_zero _
theorem an_apb_t {s : an_T} {S n m : Nat} (hnm : n ≤ m) (h : ∀ i, n ≤ i → Nat.testBit S i = false) : an_apb s S m = an_apb s S n := by
  induction m with
  | zero => rw [show n = 0 by omega]
  | succ m ih =>
    by_cases q : n = m + 1
    · rw [q]
    · rw [an_apb_s, ih (by omega), h m (by omega)]
      simp
theorem an_bt_lt {s : an_T} (hok : an_tok 7 s) {i : Nat} (hi : i < s.1) : an_bt s i < 2 ^ 7 := by
  have h1 := hok i hi
  exact Nat.or_lt_two_pow (Nat.pow_lt_pow_right (by omega) (by omega)) (Nat.pow_lt_pow_right (by omega) (by omega))
theorem an_seen_lt {s : an_T} (hok : an_tok 7 s) {S n : Nat} (hn : n ≤ s.1) : an_seen s S n < 2 ^ 7 := am_orb_lt (fun k hk => by
  show (bif Nat.testBit S k then an_bt s k else 0) < 2 ^ 7
  cases Nat.testBit S k
  · exact (by decide : 0 < 2 ^ 7)
  · exact an_bt_lt hok (by omega))
theorem an_ap_1 {s : an_T} {t : Nat} : an_ap s (2 ^ t) := by
  have h1 : ∀ n, an_apb s (2 ^ t) n = true ∧ (n ≤ t → an_seen s (2 ^ t) n = 0) := by
    intro n
    induction n with
    | zero => exact ⟨rfl, fun _ => rfl⟩
    | succ n ih =>
      rw [an_apb_s, an_seen_s, ih.1, Nat.testBit_two_pow]
      by_cases q : t = n
      · rw [ih.2 (by omega), Nat.zero_and, decide_eq_true (show (0 : Nat) = 0 from rfl)]
        refine ⟨by simp, fun w => by omega⟩
      · rw [decide_eq_false q]
        refine ⟨by simp, fun w => ?_⟩
        rw [ih.2 (by omega)]
        exact Nat.zero_or _
  exact (h1 s.1).1
/-- with the highest of it -/
theorem an_ap_top {s : an_T} {S t : Nat} (ht : t < s.1) (h1 : 2 ^ t ≤ S) (h2 : S < 2 ^ (t + 1)) : an_apb s S s.1 = (an_apb s (an_dif S (2 ^ t)) s.1 && decide (an_seen s (an_dif S (2 ^ t)) s.1 &&& an_bt s t = 0)) ∧ an_seen s S s.1 = an_seen s (an_dif S (2 ^ t)) s.1 ||| an_bt s t := by
  have htop := an_top h1 h2
  have hz : ∀ i, t + 1 ≤ i → Nat.testBit S i = false := fun i hi => Nat.testBit_lt_two_pow (Nat.lt_of_lt_of_le h2 (Nat.pow_le_pow_right (by omega) hi))
  have hz2 : ∀ i, t ≤ i → Nat.testBit (an_dif S (2 ^ t)) i = false := fun i hi => by
    rw [an_dif_tb, Nat.testBit_two_pow]
    by_cases q : t = i
    · rw [decide_eq_true q]; simp
    · rw [hz i (by omega)]; rfl
  have he : ∀ i, i < t → Nat.testBit S i = Nat.testBit (an_dif S (2 ^ t)) i := fun i hi => by
    rw [an_dif_tb, Nat.testBit_two_pow, decide_eq_false (by omega)]; simp
  rw [an_apb_t (n := t + 1) (by omega) hz, an_seen_t (n := t + 1) (by omega) hz, an_apb_t (n := t) (by omega) hz2, an_seen_t (n := t) (by omega) hz2, an_apb_s, an_seen_s, htop, an_apb_e he, an_seen_e he]
  simp
def an_me (s : an_T) (S : Nat) : Int := bif an_apb s S s.1 then ((an_seen s S s.1 : Nat) : Int) else -9
def an_rp (s : an_T) (h g : Nat → Nat → Int) (s0 : Nat) : Prop := (∀ a j, ¬ a = 59 → ¬ a = 60 → g a j = h a j) ∧ ∀ x, x < s0 → g 60 x = an_me s x ∧ an_mn (an_ap s) x (g 59 x)
theorem sp_Square_peopleOfRound {d L kp : Nat} {h : Nat → Nat → Int} {Q : Option am_V → am_H → Prop} {s : an_T} {S t : Nat} (hd : 1 ≤ d) (hc : an_tc h s) (hok : an_tok 7 s) (h7 : s.1 ≤ 7) (ht : t < s.1) (h1 : 2 ^ t ≤ S) (h2 : S < 2 ^ (t + 1)) (h60 : h 60 (an_dif S (2 ^ t)) = an_me s (an_dif S (2 ^ t))) : am_Wp d 175 0 [some (Sum.inr (Sum.inr 51)), some (Sum.inl (S : Int)), some (Sum.inl (t : Int)), none, none] [] (am_SH L, h, am_RR kp) Q = Q (some (Sum.inl (an_me s S))) (am_SH L, h, am_RR kp) := by
  have htop := an_top h1 h2
  have hp7 : 2 ^ (t + 1) ≤ 2 ^ 7 := Nat.pow_le_pow_right (by omega) (by omega)
  have hsb : an_sb (2 ^ t) S := fun i hi => by
    rw [Nat.testBit_two_pow, decide_eq_true_eq] at hi
    rw [← hi]; exact htop
  have hxor : am_xor (S : Int) ((2 ^ t : Nat) : Int) = ((an_dif S (2 ^ t) : Nat) : Int) := by
    rw [am_xor_ok (by omega) (by omega), an_dif_xor hsb]
  have hle := an_dif_le (x := S) (y := 2 ^ t)
  have h3 := hc.2 t ht
  have h4 := hok t ht
  have hb := an_bt_lt hok ht
  have hs := an_seen_lt hok (S := an_dif S (2 ^ t)) (Nat.le_refl s.1)
  obtain ⟨e1, e2⟩ := an_ap_top ht h1 h2
  have pa : 2 ^ (s.2 t).1 < 2 ^ 7 := Nat.pow_lt_pow_right (by omega) (by omega)
  have pb : 2 ^ (s.2 t).2.1 < 2 ^ 7 := Nat.pow_lt_pow_right (by omega) (by omega)
  have eb : am_or ((2 ^ (s.2 t).1 : Nat) : Int) ((2 ^ (s.2 t).2.1 : Nat) : Int) = ((an_bt s t : Nat) : Int) := am_or_ok (by omega) (by omega)
  rw [bq_Square_peopleOfRound_0 (by omega), am_shl1 (by omega), hxor, sp_at_60, am_lk_nat (by omega), h60]
  simp only [Option.toList_some, Option.toList_none, List.cons_append, List.nil_append]
  rw [bq_Square_peopleOfRound_12 (by omega), sp_at_52, am_lk_nat (by omega), h3.1]
  simp only [Option.toList_some, Option.toList_none, List.cons_append, List.nil_append]
  rw [bq_Square_peopleOfRound_22 (by omega), sp_at_53, am_lk_nat (by omega), h3.2.1]
  simp only [Option.toList_some, Option.toList_none, List.cons_append, List.nil_append]
  rw [bq_Square_peopleOfRound_32, am_shl1 (by omega), am_shl1 (by omega), eb]
  simp only [bq_Square_peopleOfRound_49, bq_Square_peopleOfRound_58]
  unfold an_me
  rw [e1, e2]
  cases hx : an_apb s (an_dif S (2 ^ t)) s.1 with
  | false =>
    rw [cond_false, if_pos rfl]
    rfl
  | true =>
    rw [cond_true, if_neg (by omega), am_and_ok (by omega) (by omega), am_or_ok (by omega) (by omega)]
    by_cases q : an_seen s (an_dif S (2 ^ t)) s.1 &&& an_bt s t = 0
    · rw [if_pos (by omega), decide_eq_true q]; rfl
    · rw [if_neg (by omega), decide_eq_false q]; rfl
theorem sp_Square_roundsOf {d L kp : Nat} {h : Nat → Nat → Int} {Q : Option am_V → am_H → Prop} {s : an_T} {S t : Nat} (hd : 1 ≤ d) (h7 : s.1 ≤ 7) (ht : t < s.1) (h1 : 2 ^ t ≤ S) (h2 : S < 2 ^ (t + 1)) (h60 : ∀ x, x ≤ S → h 60 x = an_me s x) (h59 : ∀ x, x < S → an_mn (an_ap s) x (h 59 x)) (hq : ∀ v, an_mn (an_ap s) S v → Q (some (Sum.inl v)) (am_SH L, h, am_RR kp)) : am_Wp d 176 0 [some (Sum.inr (Sum.inr 51)), some (Sum.inl (S : Int)), some (Sum.inl (t : Int)), none, none] [] (am_SH L, h, am_RR kp) Q := by
  have hp7 : 2 ^ (t + 1) ≤ 2 ^ 7 := Nat.pow_le_pow_right (by omega) (by omega)
  have hpp := Nat.two_pow_pos t
  have hb : ∀ x, x < S → 0 ≤ h 59 x ∧ h 59 x ≤ 7 := fun x hx => by
    have := an_mn_le (n := 7) (fun t _ => an_ap_1 (s := s) (t := t)) (by omega) (h59 x hx)
    omega
  have key := am_im_fr (J := Int) (a := 2 ^ t) (n := S + 1) (fun x m => (0 ≤ m ∧ m ≤ 1000000) ∧ (m = 1000000 ∨ ∃ y, (2 ^ t ≤ y ∧ y < x) ∧ an_sb y S ∧ an_ap s y ∧ m = 1 + h 59 (an_dif S y)) ∧ (∀ y, 2 ^ t ≤ y → y < x → an_sb y S → an_ap s y → m ≤ 1 + h 59 (an_dif S y))) (fun x m => am_Wp d 176 8 [some (Sum.inr (Sum.inr 51)), some (Sum.inl ((S : Int))), some (Sum.inl ((t : Int))), some (Sum.inl (m)), some (Sum.inl ((x : Int)))] [] (am_SH L, h, am_RR kp) Q) (by omega) (fun x m hx1 hx2 hm ih => ?_) (fun m hm => ?_)
  · rw [bq_Square_roundsOf_0, am_shl1 (by omega)]
    exact key 1000000 ⟨by omega, Or.inl rfl, fun x w1 w2 => absurd w1 (by omega)⟩
  · rw [bq_Square_roundsOf_8 (by omega), if_neg (by omega), an_dif_ok (by omega) (by omega)]
    obtain ⟨m1, m2, m3⟩ := hm
    have keep : ¬ (an_sb x S ∧ an_ap s x) → am_Wp d 176 55 [some (Sum.inr (Sum.inr 51)), some (Sum.inl ((S : Int))), some (Sum.inl ((t : Int))), some (Sum.inl (m)), some (Sum.inl ((x : Int)))] [] (am_SH L, h, am_RR kp) Q := fun hn => by
      rw [bq_Square_roundsOf_55, am_incn (by omega)]
      refine ih m ⟨m1, ?_, fun y w1 w2 w3 w4 => ?_⟩
      · rcases m2 with m2 | ⟨y, w1, w2⟩
        · exact Or.inl m2
        · exact Or.inr ⟨y, ⟨w1.1, by omega⟩, w2⟩
      · by_cases q : y = x
        · rw [q] at w3 w4; exact absurd ⟨w3, w4⟩ hn
        · exact m3 y w1 (by omega) w3 w4
    by_cases q1 : an_dif x S = 0
    · have hsb := an_sb_0.1 q1
      rw [if_pos (by omega), sp_at_60, am_lk_nat (by omega), h60 x (by omega)]
      simp only [Option.toList_some, Option.toList_none, List.cons_append, List.nil_append]
      rw [bq_Square_roundsOf_32 (by omega)]
      have eme : an_me s x = bif an_apb s x s.1 then ((an_seen s x s.1 : Nat) : Int) else -9 := rfl
      cases hx : an_apb s x s.1 with
      | true =>
        have hap : an_ap s x := hx
        rw [hx, cond_true] at eme
        have hlt := an_dif_lt hsb (show ¬ x = 0 by omega)
        have hg := hb _ hlt
        have hxor : am_xor (S : Int) (x : Int) = ((an_dif S x : Nat) : Int) := by
          rw [am_xor_ok (by omega) (by omega), an_dif_xor hsb]
        rw [eme, if_neg (by omega), hxor, sp_at_59, am_lk_nat (by omega)]
        simp only [Option.toList_some, Option.toList_none, List.cons_append, List.nil_append]
        rw [bq_Square_roundsOf_50, am_add_ok (by omega) (by omega), bq_Square_roundsOf_55, am_incn (by omega)]
        refine ih _ ⟨?_, ?_, fun y w1 w2 w3 w4 => ?_⟩
        · unfold am_min; split <;> omega
        · unfold am_min
          by_cases q3 : 1 + h 59 (an_dif S x) < m
          · rw [if_pos q3]; exact Or.inr ⟨x, ⟨hx1, by omega⟩, hsb, hap, rfl⟩
          · rw [if_neg q3]
            rcases m2 with m2 | ⟨y, w1, w2⟩
            · exact Or.inl m2
            · exact Or.inr ⟨y, ⟨w1.1, by omega⟩, w2⟩
        · by_cases q : y = x
          · rw [q]; unfold am_min; split <;> omega
          · have := m3 y w1 (by omega) w3 w4
            unfold am_min; split <;> omega
      | false =>
        rw [hx, cond_false] at eme
        rw [eme, if_pos rfl]
        exact keep (fun w => by have := w.2; unfold an_ap at this; rw [hx] at this; cases this)
    · rw [if_neg (by omega)]
      exact keep (fun w => q1 (an_sb_0.2 w.1))
  · show am_Wp d 176 8 [some (Sum.inr (Sum.inr 51)), some (Sum.inl ((S : Int))), some (Sum.inl ((t : Int))), some (Sum.inl (m)), some (Sum.inl (((S + 1 : Nat) : Int)))] [] (am_SH L, h, am_RR kp) Q
    rw [bq_Square_roundsOf_8 (by omega), if_pos (by omega)]
    obtain ⟨m1, m2, m3⟩ := hm
    have htop := an_top h1 h2
    refine hq m ?_
    have key2 : ∀ k, an_pt (an_ap s) k S → m ≤ (k : Int) := by
      intro k hk
      cases k with
      | zero =>
        have h0 : S = 0 := hk
        omega
      | succ k =>
        obtain ⟨R, r1, r2, r3, r4⟩ := an_pt_top k htop hk
        have hge := Nat.ge_two_pow_of_testBit r1
        have hle := an_sb_le r2
        have h5 := m3 R hge (by omega) r2 r3
        obtain ⟨j, g1, g2, g3⟩ := h59 _ (an_dif_lt r2 (by omega))
        have := g3 k r4
        omega
    obtain ⟨k0, hk0, hk1⟩ := an_pt_one 7 (fun t _ => an_ap_1 (s := s) (t := t)) (S := S) (by omega)
    have h6 := key2 k0 hk1
    rcases m2 with m2 | ⟨y, y1, y2, y3, y4⟩
    · omega
    · obtain ⟨j, g1, g2, g3⟩ := h59 _ (an_dif_lt y2 (by omega))
      refine ⟨j + 1, by omega, ⟨y, by omega, y2, y3, g2⟩, fun i hi => ?_⟩
      have := key2 i hi
      omega
theorem lp_FR_i {d L kp : Nat} {h : Nat → Nat → Int} {Q : Option am_V → am_H → Prop} {s : an_T} {t : Nat} (hd : 2 ≤ d) (hc : an_tc h s) (hok : an_tok 7 s) (h7 : s.1 ≤ 7) (ht : t < s.1) (K : ∀ g, an_rp s h g (2 ^ (t + 1)) → ∀ j : Option am_V, am_Wp d 174 20 [some (Sum.inr (Sum.inr 51)), some (Sum.inl (((t + 1 : Nat) : Int))), j] [] (am_SH L, g, am_RR kp) Q) : ∀ g, an_rp s h g (2 ^ t) → am_Wp d 174 38 [some (Sum.inr (Sum.inr 51)), some (Sum.inl ((t : Int))), some (Sum.inl (((2 ^ t : Nat) : Int)))] [] (am_SH L, g, am_RR kp) Q := by
  have hp7 : 2 ^ (t + 1) ≤ 2 ^ 7 := Nat.pow_le_pow_right (by omega) (by omega)
  have hps : 2 ^ (t + 1) = 2 ^ t + 2 ^ t := by rw [Nat.pow_succ]; omega
  have hpp := Nat.two_pow_pos t
  refine am_im_fr (J := Nat → Nat → Int) (a := 2 ^ t) (n := 2 ^ (t + 1)) (fun S g => an_rp s h g S) (fun S g => am_Wp d 174 38 [some (Sum.inr (Sum.inr 51)), some (Sum.inl ((t : Int))), some (Sum.inl ((S : Int)))] [] (am_SH L, g, am_RR kp) Q) (by omega) (fun S g hS1 hS2 hg ih => ?_) (fun g hg => ?_)
  · obtain ⟨k1, k2⟩ := hg
    have htop := an_top hS1 hS2
    have hsb : an_sb (2 ^ t) S := fun i hi => by
      rw [Nat.testBit_two_pow, decide_eq_true_eq] at hi
      rw [← hi]; exact htop
    have hlt := an_dif_lt hsb (by omega)
    have hcg : an_tc g s := by
      refine ⟨by rw [k1 51 0 (by omega) (by omega)]; exact hc.1, fun i hi => ?_⟩
      rw [k1 52 i (by omega) (by omega), k1 53 i (by omega) (by omega), k1 54 i (by omega) (by omega)]
      exact hc.2 i hi
    rw [bq_Square_fewestRounds_38 (by omega), an_shl2 (by omega), if_neg (by omega), sp_Square_peopleOfRound (by omega) hcg hok h7 ht hS1 hS2 (k2 _ hlt).1]
    simp only [Option.toList_some, Option.toList_none, List.cons_append, List.nil_append]
    rw [bq_Square_fewestRounds_56 (by omega), sp_put_60, am_put_nat (by omega)]
    simp only [Option.toList_some, Option.toList_none, List.cons_append, List.nil_append]
    have f60 : ∀ x, x ≤ S → am_up g 60 S (an_me s S) 60 x = an_me s x := fun x hx => by
      by_cases q : x = S
      · rw [q, am_up_y]
      · rw [am_up_n q]; exact (k2 x (by omega)).1
    have f59 : ∀ x, x < S → an_mn (an_ap s) x (am_up g 60 S (an_me s S) 59 x) := fun x hx => (k2 x hx).2
    rw [bq_Square_fewestRounds_59 (by omega)]
    refine sp_Square_roundsOf (by omega) h7 ht hS1 hS2 f60 f59 (fun v hv => ?_)
    simp only [Option.toList_some, Option.toList_none, List.cons_append, List.nil_append]
    rw [bq_Square_fewestRounds_70 (by omega), sp_put_59, am_put_nat (by omega)]
    simp only [Option.toList_some, Option.toList_none, List.cons_append, List.nil_append]
    rw [bq_Square_fewestRounds_73, am_incn (by omega)]
    refine ih _ ⟨fun a j h1 h2 => ?_, fun x hx => ?_⟩
    · unfold am_up
      rw [if_neg h1, if_neg h2]
      exact k1 a j h1 h2
    · refine ⟨f60 x (by omega), ?_⟩
      by_cases q : x = S
      · rw [q, am_up_y]; exact hv
      · rw [am_up_n q]; exact f59 x (by omega)
  · rw [bq_Square_fewestRounds_38 (by omega), an_shl2 (by omega), if_pos (Int.le_refl _), am_incn (by omega)]
    exact K g hg _
theorem sp_Square_fewestRounds {d L kp : Nat} {h : Nat → Nat → Int} {Q : Option am_V → am_H → Prop} {s : an_T} (hd : 2 ≤ d) (hc : an_tc h s) (hok : an_tok 7 s) (h7 : s.1 ≤ 7) (hq : ∀ g, am_keep h g → Q (some (Sum.inl (an_mnv (an_ap s) (2 ^ s.1 - 1)))) (am_SH L, g, am_RR kp)) : am_Wp d 174 0 [some (Sum.inr (Sum.inr 51)), none, none] [] (am_SH L, h, am_RR kp) Q := by
  have p0 : ∀ (f : Nat → Nat → Int) (a : Nat), am_put f a 128 0 0 = am_up f a 0 0 := fun f a => if_pos (by omega)
  have hp7 : 2 ^ s.1 ≤ 2 ^ 7 := Nat.pow_le_pow_right (by omega) h7
  have hpp := Nat.two_pow_pos s.1
  rw [bq_Square_fewestRounds_0 (by omega), sp_put_60, p0]
  simp only [Option.toList_some, Option.toList_none, List.cons_append, List.nil_append]
  rw [bq_Square_fewestRounds_9 (by omega), sp_put_59, p0]
  simp only [Option.toList_some, Option.toList_none, List.cons_append, List.nil_append]
  rw [bq_Square_fewestRounds_18]
  have key := am_im_fr (J := (Nat → Nat → Int) × Option am_V) (a := 0) (n := s.1) (fun t j => an_rp s h j.1 (2 ^ t)) (fun t j => am_Wp d 174 20 [some (Sum.inr (Sum.inr 51)), some (Sum.inl ((t : Int))), j.2] [] (am_SH L, j.1, am_RR kp) Q) (by omega) (fun t j _ ht hj ih => ?_) (fun j hj => ?_)
  · refine key (am_up (am_up h 60 0 0) 59 0 0, none) ⟨fun a j h1 h2 => ?_, fun x hx => ?_⟩
    · show am_up (am_up h 60 0 0) 59 0 0 a j = h a j
      unfold am_up
      rw [if_neg h1, if_neg h2]
    · have hx0 : x = 0 := by have : (2 : Nat) ^ 0 = 1 := rfl; omega
      rw [hx0]
      refine ⟨?_, an_mn_0⟩
      have e1 : an_apb s 0 s.1 = true := by
        have := an_apb_t (s := s) (S := 0) (n := 0) (m := s.1) (Nat.zero_le _) (fun i _ => Nat.zero_testBit i)
        rw [this]; rfl
      have e2 : an_seen s 0 s.1 = 0 := by
        have := an_seen_t (s := s) (S := 0) (n := 0) (m := s.1) (Nat.zero_le _) (fun i _ => Nat.zero_testBit i)
        rw [this]; rfl
      show (0 : Int) = an_me s 0
      unfold an_me
      rw [e1, e2]; rfl
  · obtain ⟨g, j2⟩ := j
    have t0 : g 51 0 = (s.1 : Int) := (hj.1 51 0 (by omega) (by omega)).trans hc.1
    show am_Wp d 174 20 [some (Sum.inr (Sum.inr 51)), some (Sum.inl ((t : Int))), j2] [] (am_SH L, g, am_RR kp) Q
    rw [bq_Square_fewestRounds_20, t0, if_neg (by omega), if_neg (by omega), am_shl1 (by omega)]
    exact lp_FR_i hd hc hok h7 ht (fun g hg j => ih (g, j) hg) g hj
  · obtain ⟨g, j2⟩ := j
    have t0 : g 51 0 = (s.1 : Int) := (hj.1 51 0 (by omega) (by omega)).trans hc.1
    have h3 := (hj.2 (2 ^ s.1 - 1) (by omega)).2
    have h4 := an_mnv_eq h3
    dsimp only at h4
    have em : am_min (s.1 : Int) 7 = (s.1 : Int) := by
      unfold am_min
      by_cases q : (7 : Int) < (s.1 : Int)
      · omega
      · rw [if_neg q]
    have es : am_sub ((2 ^ s.1 : Nat) : Int) 1 = ((2 ^ s.1 - 1 : Nat) : Int) := by rw [am_sub_ok (by omega) (by omega)]; omega
    show am_Wp d 174 20 [some (Sum.inr (Sum.inr 51)), some (Sum.inl ((s.1 : Int))), j2] [] (am_SH L, g, am_RR kp) Q
    rw [bq_Square_fewestRounds_20, t0, if_pos (Int.le_refl _), bq_Square_fewestRounds_85 (by omega), t0, em, am_shl1 (by omega), es, sp_at_59, am_lk_nat (by omega), h4]
    simp only [Option.toList_some, Option.toList_none, List.cons_append, List.nil_append]
    rw [bq_Square_fewestRounds_105]
    refine hq g (fun a j hr => hj.1 a j (fun w => ?_) (fun w => ?_))
    · rw [w] at hr; cases hr
    · rw [w] at hr; cases hr
noncomputable def a_rounds (V : am_Vw) : am_V × Nat := if 7 < (v_twos V).1 then (Sum.inl (-3), 3) else (Sum.inl (an_mnv (an_ap (v_twos V)) (2 ^ (v_twos V).1 - 1)), 0)
theorem c_rounds {d L kp : Nat} {h : Nat → Nat → Int} (hd : 5 ≤ d) (hv : v_ok (am_wv h 2)) : am_An L 41 (a_rounds (am_wv h 2)) h (fun Q => am_Wp d 173 0 [some (Sum.inr (Sum.inr 1))] [] (am_SH L, h, am_RR kp) Q) := by
  have hQ := wv_Q hv
  have hP := wv_P hv
  have hD := wv_D hv
  intro Q hq
  show am_Wp d 173 0 [some (Sum.inr (Sum.inr 1))] [] (am_SH L, h, am_RR kp) Q
  rw [bq_KO_rounds_0 (by omega)]
  refine sp_KO_gatherSquare (by omega) hv (fun g k1 k2 k3 => ?_)
  have hok := v_twos_ok hv
  have k3b : an_tw g (v_twos (am_wv h 2)) := k3
  simp only [Option.toList_some, Option.toList_none, List.cons_append, List.nil_append]
  rw [bq_KO_rounds_4 (by omega), bq_Square_twos_0, k3b.1.1]
  simp only [Option.toList_some, Option.toList_none, List.cons_append, List.nil_append]
  rw [bq_KO_rounds_11 (by omega)]
  have h3 := fun g2 (m : am_keep h g2) => hq g2 kp m
  unfold a_rounds at h3
  by_cases q2 : 7 < (v_twos (am_wv h 2)).1
  · rw [if_pos q2] at h3
    rw [if_neg (by omega), sp_KO_refuse (by omega) (by omega) (by omega)]
    simp only [Option.toList_some, Option.toList_none, List.cons_append, List.nil_append]
    rw [bq_KO_rounds_22]
    exact h3 g k1
  · rw [if_neg q2] at h3
    rw [if_pos (by omega)]
    refine sp_Square_fewestRounds (by omega) k3b.1 hok.2.1 (by omega) (fun g2 m1 => ?_)
    simp only [Option.toList_some, Option.toList_none, List.cons_append, List.nil_append]
    rw [bq_KO_rounds_30]
    exact h3 g2 (am_keep_t k1 m1)