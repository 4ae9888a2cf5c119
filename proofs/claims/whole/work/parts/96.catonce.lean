/-! AT ONCE: the most, of the class -/
def an_pd (s : an_T) : Nat → Nat → Prop
  | 0, _ => True
  | k + 1, S => ∃ i, i < s.1 ∧ an_sb (an_bt s i) S ∧ an_pd s k (an_dif S (an_bt s i))
theorem an_sb_t {x y z : Nat} (h1 : an_sb x y) (h2 : an_sb y z) : an_sb x z := fun i hi => h2 i (h1 i hi)
theorem an_dif_mono {S R x : Nat} (h : an_sb S R) : an_sb (an_dif S x) (an_dif R x) := fun i hi => by
  rw [an_dif_in] at hi ⊢
  exact ⟨h i hi.1, hi.2⟩
theorem an_dif_sb {S x : Nat} : an_sb (an_dif S x) S := fun i hi => by
  rw [an_dif_in] at hi
  exact hi.1
theorem an_pd_m {s : an_T} : ∀ {k S R : Nat}, an_sb S R → an_pd s k S → an_pd s k R := by
  intro k
  induction k with
  | zero => exact fun _ _ => True.intro
  | succ k ih =>
    intro S R h hp
    obtain ⟨i, h1, h2, h3⟩ := hp
    exact ⟨i, h1, an_sb_t h2 h, ih (an_dif_mono h) h3⟩
theorem an_p2_in {a j : Nat} : Nat.testBit (2 ^ a) j = true ↔ a = j := by
  rw [Nat.testBit_two_pow, decide_eq_true_eq]
theorem an_bt_in {s : an_T} {i j : Nat} : Nat.testBit (an_bt s i) j = true ↔ (s.2 i).1 = j ∨ (s.2 i).2.1 = j := by
  unfold an_bt
  rw [Nat.testBit_or, Bool.or_eq_true, an_p2_in, an_p2_in]
theorem an_pc_del {x a : Nat} (ha : a < 16) (hx : Nat.testBit x a = true) : am_pc (an_dif x (2 ^ a)) = am_pc x - 1 := by
  have h4 := am_sumb_one (n := 16) (i := a) (x := 1) ha
  have key : am_sumb 16 (fun i => bif Nat.testBit (an_dif x (2 ^ a)) i then 1 else 0) = am_sumb 16 (fun i => (bif Nat.testBit x i then 1 else 0) - (if i = a then 1 else 0)) := am_sumb_eq (fun i _ => by
    show (bif Nat.testBit (an_dif x (2 ^ a)) i then (1 : Int) else 0) = (bif Nat.testBit x i then 1 else 0) - (if i = a then 1 else 0)
    rw [an_dif_tb, Nat.testBit_two_pow]
    by_cases q : a = i
    · rw [← q, hx, if_pos rfl, decide_eq_true rfl]; rfl
    · rw [if_neg (by omega), decide_eq_false q]
      cases Nat.testBit x i <;> rfl)
  unfold am_pc
  rw [key, am_sumb_sub, h4]
theorem an_pd_pc {s : an_T} (hok : an_tok 7 s) : ∀ {k S : Nat}, an_pd s k S → 2 * (k : Int) ≤ am_pc S := by
  intro k
  induction k with
  | zero => exact fun {S} _ => by have := (an_pc_le (x := S)).1; omega
  | succ k ih =>
    intro S hp
    obtain ⟨i, h1, h2, h3⟩ := hp
    have h4 := hok i h1
    have e1 := an_pc_del (x := S) (a := (s.2 i).1) (by omega) (h2 _ (an_bt_in.2 (Or.inl rfl)))
    have e2 := an_pc_del (x := an_dif S (2 ^ (s.2 i).1)) (a := (s.2 i).2.1) (by omega) (by
      rw [an_dif_in, an_p2_in]
      exact ⟨h2 _ (an_bt_in.2 (Or.inr rfl)), by omega⟩)
    have h5 := ih (an_pd_m (R := an_dif (an_dif S (2 ^ (s.2 i).1)) (2 ^ (s.2 i).2.1)) (fun j hj => by
      rw [an_dif_in, an_bt_in] at hj
      rw [an_dif_in, an_dif_in, an_p2_in, an_p2_in]
      exact ⟨⟨hj.1, fun w => hj.2 (Or.inl w)⟩, fun w => hj.2 (Or.inr w)⟩) h3)
    omega
/-- the last of the set settles with one, or not -/
theorem an_pd_top {s : an_T} (hok : an_tok 7 s) {t : Nat} : ∀ {k S : Nat}, Nat.testBit S t = true → (∀ j, t < j → Nat.testBit S j = false) → an_pd s k S → an_pd s k (an_dif S (2 ^ t)) ∨ ∃ k2 i, k = k2 + 1 ∧ (i < t ∧ Nat.testBit S i = true ∧ ∃ e, e < s.1 ∧ (s.2 e).1 = i ∧ (s.2 e).2.1 = t) ∧ an_pd s k2 (an_dif (an_dif S (2 ^ t)) (2 ^ i)) := by
  intro k
  induction k with
  | zero => exact fun _ _ _ => Or.inl True.intro
  | succ k ih =>
    intro S ht hz hp
    obtain ⟨e, h1, h2, h3⟩ := hp
    have h4 := hok e h1
    have ha := h2 _ (an_bt_in.2 (Or.inl rfl))
    have hb := h2 _ (an_bt_in.2 (Or.inr rfl))
    have hbt : (s.2 e).2.1 ≤ t := by
      by_cases q : t < (s.2 e).2.1
      · rw [hz _ q] at hb; cases hb
      · omega
    by_cases q : (s.2 e).2.1 = t
    · refine Or.inr ⟨k, (s.2 e).1, rfl, ⟨by omega, ha, e, h1, rfl, q⟩, an_pd_m (fun j hj => ?_) h3⟩
      rw [an_dif_in, an_bt_in] at hj
      rw [an_dif_in, an_dif_in, an_p2_in, an_p2_in]
      exact ⟨⟨hj.1, fun w => hj.2 (Or.inr (q.trans w))⟩, fun w => hj.2 (Or.inl w)⟩
    · have nt : ¬ Nat.testBit (an_bt s e) t = true := fun w => by rw [an_bt_in] at w; omega
      rcases ih (S := an_dif S (an_bt s e)) (by rw [an_dif_in]; exact ⟨ht, nt⟩) (fun j hj => by rw [an_dif_tb, hz j hj]; rfl) h3 with h5 | ⟨k2, i, h5, ⟨h6, h7, h8⟩, h9⟩
      · refine Or.inl ⟨e, h1, fun j hj => ?_, an_pd_m (fun j hj => ?_) h5⟩
        · rw [an_dif_in, an_p2_in]
          exact ⟨h2 j hj, fun w => nt (by rw [w]; exact hj)⟩
        · rw [an_dif_in, an_dif_in] at hj
          rw [an_dif_in, an_dif_in]
          exact ⟨⟨hj.1.1, hj.2⟩, hj.1.2⟩
      · rw [an_dif_in] at h7
        refine Or.inr ⟨k2 + 1, i, by omega, ⟨h6, h7.1, h8⟩, ⟨e, h1, fun j hj => ?_, an_pd_m (fun j hj => ?_) h9⟩⟩
        · rw [an_dif_in, an_dif_in, an_p2_in, an_p2_in]
          exact ⟨⟨h2 j hj, fun w => nt (by rw [w]; exact hj)⟩, fun w => h7.2 (by rw [w]; exact hj)⟩
        · rw [an_dif_in, an_dif_in, an_dif_in] at hj
          rw [an_dif_in, an_dif_in, an_dif_in]
          exact ⟨⟨⟨hj.1.1.1, hj.1.2⟩, hj.2⟩, hj.1.1.2⟩
def an_px (s : an_T) (S : Nat) (v : Int) : Prop := ∃ k : Nat, v = (k : Int) ∧ an_pd s k S ∧ ∀ j, an_pd s j S → j ≤ k
theorem an_px_u {s : an_T} {S : Nat} {v w : Int} (hv : an_px s S v) (hw : an_px s S w) : v = w := by
  obtain ⟨k, h1, h2, h3⟩ := hv
  obtain ⟨j, g1, g2, g3⟩ := hw
  have := h3 j g2
  have := g3 k h2
  omega
noncomputable def an_pxv (s : an_T) (S : Nat) : Int := @dite Int (∃ v, an_px s S v) (Classical.propDecidable _) (fun h => h.choose) (fun _ => 0)
theorem an_pxv_eq {s : an_T} {S : Nat} {v : Int} (h : an_px s S v) : v = an_pxv s S := by
  have hx : ∃ v, an_px s S v := ⟨v, h⟩
  unfold an_pxv
  rw [dif_pos hx]
  exact an_px_u h hx.choose_spec
theorem an_px_le {s : an_T} (hok : an_tok 7 s) {S : Nat} {v : Int} (h : an_px s S v) : 0 ≤ v ∧ v ≤ 8 := by
  obtain ⟨k, h1, h2, h3⟩ := h
  have := an_pd_pc hok h2
  have := (an_pc_le (x := S)).2
  omega
theorem an_px_0 {s : an_T} (hok : an_tok 7 s) : an_px s 0 0 := ⟨0, rfl, True.intro, fun j hj => by
  have := an_pd_pc hok hj
  have e0 : am_pc 0 = 0 := by decide
  omega⟩
def an_eg (s : an_T) (i t : Nat) : Prop := ∃ e, e < s.1 ∧ (s.2 e).1 = i ∧ (s.2 e).2.1 = t
/-- what the best with a partner, and without, is -/
theorem an_px_s {s : an_T} (hok : an_tok 7 s) {S t : Nat} (h1 : 2 ^ t ≤ S) (h2 : S < 2 ^ (t + 1)) {v b : Int} {F : Nat → Int} (hF : ∀ x, x < S → an_px s x (F x)) (hv : v = F (an_dif S (2 ^ t))) (hb1 : b = 0 ∨ ∃ i, i < t ∧ Nat.testBit S i = true ∧ an_eg s i t ∧ b = 1 + F (an_dif (an_dif S (2 ^ t)) (2 ^ i))) (hb2 : ∀ i, i < t → Nat.testBit S i = true → an_eg s i t → 1 + F (an_dif (an_dif S (2 ^ t)) (2 ^ i)) ≤ b) : an_px s S (am_max v b) := by
  have htop := an_top h1 h2
  have hz : ∀ j, t < j → Nat.testBit S j = false := fun j hj => Nat.testBit_lt_two_pow (Nat.lt_of_lt_of_le h2 (Nat.pow_le_pow_right (by omega) (show t + 1 ≤ j by omega)))
  have hpp := Nat.two_pow_pos t
  have hsb : an_sb (2 ^ t) S := fun i hi => by
    rw [an_p2_in] at hi
    rw [← hi]; exact htop
  have hlt := an_dif_lt hsb (by omega)
  obtain ⟨kv, v1, v2, v3⟩ := hF _ hlt
  have hl2 := fun i => an_dif_le (x := an_dif S (2 ^ t)) (y := 2 ^ i)
  have up : ∀ j, an_pd s j S → (j : Int) ≤ am_max v b := by
    intro j hj
    rcases an_pd_top hok htop hz hj with q | ⟨k2, i, q1, ⟨q2, q3, q4⟩, q5⟩
    · have := v3 j q
      unfold am_max; split <;> omega
    · have h5 := hb2 i q2 q3 q4
      have h6 := hl2 i
      obtain ⟨kw, w1, w2, w3⟩ := hF (an_dif (an_dif S (2 ^ t)) (2 ^ i)) (by omega)
      have := w3 k2 q5
      unfold am_max; split <;> omega
  have at_ : ∃ k : Nat, am_max v b = (k : Int) ∧ an_pd s k S := by
    have c1 : ∃ k : Nat, v = (k : Int) ∧ an_pd s k S := ⟨kv, hv.trans v1, an_pd_m an_dif_sb v2⟩
    have c2 : b = 0 ∨ ∃ k : Nat, b = (k : Int) ∧ an_pd s k S := by
      rcases hb1 with q | ⟨i, q1, q2, ⟨e, e1, e2, e3⟩, q4⟩
      · exact Or.inl q
      · have h6 := hl2 i
        obtain ⟨kw, w1, w2, w3⟩ := hF (an_dif (an_dif S (2 ^ t)) (2 ^ i)) (by omega)
        refine Or.inr ⟨kw + 1, by omega, e, e1, fun j hj => ?_, an_pd_m (fun j hj => ?_) w2⟩
        · rw [an_bt_in, e2, e3] at hj
          rcases hj with hj | hj
          · rw [← hj]; exact q2
          · rw [← hj]; exact htop
        · rw [an_dif_in, an_dif_in, an_p2_in, an_p2_in] at hj
          rw [an_dif_in, an_bt_in, e2, e3]
          exact ⟨hj.1.1, fun w => w.elim hj.2 hj.1.2⟩
    unfold am_max
    by_cases q : v < b
    · rw [if_pos q]
      rcases c2 with c2 | c2
      · obtain ⟨k, g1, g2⟩ := c1; omega
      · exact c2
    · rw [if_neg q]; exact c1
  obtain ⟨k, g1, g2⟩ := at_
  exact ⟨k, g1, g2, fun j hj => by have := up j hj; omega⟩
noncomputable def an_mt (s : an_T) (m : Nat) : Int := @ite Int (∃ e, e < s.1 ∧ an_bt s e = m) (Classical.propDecidable _) 1 0
theorem an_mt_y {s : an_T} {m : Nat} (h : ∃ e, e < s.1 ∧ an_bt s e = m) : an_mt s m = 1 := by unfold an_mt; rw [if_pos h]
theorem an_mt_n {s : an_T} {m : Nat} (h : ¬ ∃ e, e < s.1 ∧ an_bt s e = m) : an_mt s m = 0 := by unfold an_mt; rw [if_neg h]
theorem an_bt_eg {s : an_T} (hok : an_tok 7 s) {i t : Nat} (hit : i < t) : (∃ e, e < s.1 ∧ an_bt s e = 2 ^ i ||| 2 ^ t) ↔ an_eg s i t := by
  constructor
  · rintro ⟨e, h1, h2⟩
    have h4 := hok e h1
    have h5 : ∀ j, ((s.2 e).1 = j ∨ (s.2 e).2.1 = j) ↔ (i = j ∨ t = j) := fun j => by
      rw [← an_bt_in, h2, Nat.testBit_or, Bool.or_eq_true, an_p2_in, an_p2_in]
    have a1 := (h5 (s.2 e).1).1 (Or.inl rfl)
    have a2 := (h5 (s.2 e).2.1).1 (Or.inr rfl)
    have a3 := (h5 i).2 (Or.inl rfl)
    exact ⟨e, h1, by omega, by omega⟩
  · rintro ⟨e, h1, h2, h3⟩
    exact ⟨e, h1, by unfold an_bt; rw [h2, h3]⟩
theorem sp_Square_withPartner {d L kp : Nat} {h : Nat → Nat → Int} {Q : Option am_V → am_H → Prop} {s : an_T} {R t : Nat} (hd : 1 ≤ d) (hok : an_tok 7 s) (ht : t < 7) (hR : R < 2 ^ t) (hm : (∀ m, m < 128 → h 60 m = an_mt s m)) (h59 : ∀ x, x < 2 ^ t → an_px s x (h 59 x)) (hq : ∀ b, (b = 0 ∨ ∃ i, i < t ∧ Nat.testBit R i = true ∧ an_eg s i t ∧ b = 1 + h 59 (an_dif R (2 ^ i))) ∧ (∀ i, i < t → Nat.testBit R i = true → an_eg s i t → 1 + h 59 (an_dif R (2 ^ i)) ≤ b) ∧ 0 ≤ b ∧ b ≤ 9 → Q (some (Sum.inl b)) (am_SH L, h, am_RR kp)) : am_Wp d 172 0 [some (Sum.inr (Sum.inr 51)), some (Sum.inl (R : Int)), some (Sum.inl (t : Int)), none, none] [] (am_SH L, h, am_RR kp) Q := by
  have hp7 : 2 ^ t < 2 ^ 7 := Nat.pow_lt_pow_right (by omega) (by omega)
  rw [bq_Square_withPartner_0]
  refine am_im_fr (J := Int) (a := 0) (n := t) (fun n b => (b = 0 ∨ ∃ i, i < n ∧ Nat.testBit R i = true ∧ an_eg s i t ∧ b = 1 + h 59 (an_dif R (2 ^ i))) ∧ (∀ i, i < n → Nat.testBit R i = true → an_eg s i t → 1 + h 59 (an_dif R (2 ^ i)) ≤ b) ∧ 0 ≤ b ∧ b ≤ 9) (fun n b => am_Wp d 172 5 [some (Sum.inr (Sum.inr 51)), some (Sum.inl ((R : Int))), some (Sum.inl ((t : Int))), some (Sum.inl (b)), some (Sum.inl ((n : Int)))] [] (am_SH L, h, am_RR kp) Q) (by omega) (fun n b _ hn hb ih => ?_) (fun b hb => ?_) 0 ⟨Or.inl rfl, fun i hi => by omega, by omega, by omega⟩
  · have pi : 2 ^ n < 2 ^ 7 := Nat.pow_lt_pow_right (by omega) (by omega)
    obtain ⟨b1, b2, b3, b4⟩ := hb
    have hno : ¬ (Nat.testBit R n = true ∧ an_eg s n t) → am_Wp d 172 59 [some (Sum.inr (Sum.inr 51)), some (Sum.inl ((R : Int))), some (Sum.inl ((t : Int))), some (Sum.inl (b)), some (Sum.inl ((n : Int)))] [] (am_SH L, h, am_RR kp) Q := fun w => by
      rw [bq_Square_withPartner_59, am_incn (by omega)]
      refine ih b ⟨?_, fun i hi q1 q2 => ?_, b3, b4⟩
      · rcases b1 with q | ⟨i, q1, q2⟩
        · exact Or.inl q
        · exact Or.inr ⟨i, by omega, q2⟩
      · by_cases q : i = n
        · rw [q] at q1 q2; exact absurd ⟨q1, q2⟩ w
        · exact b2 i (by omega) q1 q2
    rw [bq_Square_withPartner_5 (by omega), if_neg (by omega), sp_has, am_has_tb (by omega) (by omega)]
    simp only [Option.toList_some, Option.toList_none, List.cons_append, List.nil_append]
    rw [bq_Square_withPartner_17 (by omega)]
    cases hx : Nat.testBit R n with
    | false =>
      rw [if_pos am_bif]
      exact hno (fun w => by have := w.1; rw [hx] at this; cases this)
    | true =>
      have hor : 2 ^ n ||| 2 ^ t < 2 ^ 7 := Nat.or_lt_two_pow pi hp7
      rw [if_neg am_b0, am_shl1 (by omega), am_shl1 (by omega), am_or_ok (by omega) (by omega), sp_at_60, am_lk_nat (by omega), hm _ (by omega)]
      simp only [Option.toList_some, Option.toList_none, List.cons_append, List.nil_append]
      rw [bq_Square_withPartner_35 (by omega)]
      by_cases q : an_eg s n t
      · have hsb : an_sb (2 ^ n) R := fun i hi => by
          rw [an_p2_in] at hi
          rw [← hi]; exact hx
        have hxor : am_xor (R : Int) ((2 ^ n : Nat) : Int) = ((an_dif R (2 ^ n) : Nat) : Int) := by
          rw [am_xor_ok (by omega) (by omega), an_dif_xor hsb]
        have hle := an_dif_le (x := R) (y := 2 ^ n)
        have h5 := an_px_le hok (h59 (an_dif R (2 ^ n)) (by omega))
        rw [an_mt_y ((an_bt_eg hok (by omega)).2 q), if_pos rfl, am_shl1 (by omega), hxor, sp_at_59, am_lk_nat (by omega)]
        simp only [Option.toList_some, Option.toList_none, List.cons_append, List.nil_append]
        rw [bq_Square_withPartner_54, am_add_ok (by omega) (by omega), bq_Square_withPartner_59, am_incn (by omega)]
        refine ih _ ⟨?_, fun i hi q1 q2 => ?_, ?_, ?_⟩
        · unfold am_max
          by_cases q3 : b < 1 + h 59 (an_dif R (2 ^ n))
          · rw [if_pos q3]; exact Or.inr ⟨n, by omega, hx, q, rfl⟩
          · rw [if_neg q3]
            rcases b1 with q4 | ⟨i, q1, q2⟩
            · exact Or.inl q4
            · exact Or.inr ⟨i, by omega, q2⟩
        · by_cases q3 : i = n
          · rw [q3]; unfold am_max; split <;> omega
          · have := b2 i (by omega) q1 q2
            unfold am_max; split <;> omega
        · unfold am_max; split <;> omega
        · unfold am_max; split <;> omega
      · rw [an_mt_n (fun w => q ((an_bt_eg hok (by omega)).1 w)), if_neg (by omega)]
        exact hno (fun w => q w.2)
  · show am_Wp d 172 5 [some (Sum.inr (Sum.inr 51)), some (Sum.inl ((R : Int))), some (Sum.inl ((t : Int))), some (Sum.inl (b)), some (Sum.inl ((t : Int)))] [] (am_SH L, h, am_RR kp) Q
    rw [bq_Square_withPartner_5 (by omega), if_pos (Int.le_refl _)]
    exact hq b hb
theorem lp_MA_i {d L kp : Nat} {h : Nat → Nat → Int} {Q : Option am_V → am_H → Prop} {s : an_T} {p : Int} {t : Nat} (hd : 2 ≤ d) (hok : an_tok 7 s) (ht : t < 7) (K : ∀ g, ((∀ a i, ¬ a = 59 → ¬ a = 60 → g a i = h a i) ∧ (∀ m, m < 128 → g 60 m = an_mt s m) ∧ ∀ x, x < (2 ^ (t + 1)) → an_px s x (g 59 x)) → ∀ j1 j2 : Option am_V, am_Wp d 171 66 [some (Sum.inr (Sum.inr 51)), some (Sum.inl (p)), some (Sum.inl (((t + 1 : Nat) : Int))), j1, j2] [] (am_SH L, g, am_RR kp) Q) : ∀ j : (Nat → Nat → Int) × Option am_V, ((∀ a i, ¬ a = 59 → ¬ a = 60 → j.1 a i = h a i) ∧ (∀ m, m < 128 → j.1 60 m = an_mt s m) ∧ ∀ x, x < (2 ^ t) → an_px s x (j.1 59 x)) → am_Wp d 171 75 [some (Sum.inr (Sum.inr 51)), some (Sum.inl (p)), some (Sum.inl ((t : Int))), some (Sum.inl (((2 ^ t : Nat) : Int))), j.2] [] (am_SH L, j.1, am_RR kp) Q := by
  have hp7 : 2 ^ (t + 1) ≤ 2 ^ 7 := Nat.pow_le_pow_right (by omega) (by omega)
  have hps : 2 ^ (t + 1) = 2 ^ t + 2 ^ t := by rw [Nat.pow_succ]; omega
  have hpp := Nat.two_pow_pos t
  refine am_im_fr (J := (Nat → Nat → Int) × Option am_V) (a := 2 ^ t) (n := 2 ^ (t + 1)) (fun S j => (∀ a i, ¬ a = 59 → ¬ a = 60 → j.1 a i = h a i) ∧ (∀ m, m < 128 → j.1 60 m = an_mt s m) ∧ ∀ x, x < S → an_px s x (j.1 59 x)) (fun S j => am_Wp d 171 75 [some (Sum.inr (Sum.inr 51)), some (Sum.inl (p)), some (Sum.inl ((t : Int))), some (Sum.inl ((S : Int))), j.2] [] (am_SH L, j.1, am_RR kp) Q) (by omega) (fun S j hS1 hS2 hg ih => ?_) (fun j hg => ?_)
  · obtain ⟨g, j2⟩ := j
    obtain ⟨k1, k2, k3⟩ := hg
    dsimp only at k1 k2 k3
    have htop := an_top hS1 hS2
    have hsb : an_sb (2 ^ t) S := fun i hi => by
      rw [an_p2_in] at hi
      rw [← hi]; exact htop
    have hlt := an_dif_lt hsb (by omega)
    have hR : an_dif S (2 ^ t) < 2 ^ t := by
      apply Nat.lt_pow_two_of_testBit
      intro i hi
      rw [an_dif_tb, Nat.testBit_two_pow]
      by_cases q : t = i
      · rw [decide_eq_true q]; simp
      · rw [Nat.testBit_lt_two_pow (Nat.lt_of_lt_of_le hS2 (Nat.pow_le_pow_right (by omega) (show t + 1 ≤ i by omega)))]; rfl
    have hxor : am_xor (S : Int) ((2 ^ t : Nat) : Int) = ((an_dif S (2 ^ t) : Nat) : Int) := by
      rw [am_xor_ok (by omega) (by omega), an_dif_xor hsb]
    show am_Wp d 171 75 [some (Sum.inr (Sum.inr 51)), some (Sum.inl (p)), some (Sum.inl ((t : Int))), some (Sum.inl ((S : Int))), j2] [] (am_SH L, g, am_RR kp) Q
    rw [bq_Square_mostAtOnce_75 (by omega), an_shl2 (by omega), if_neg (by omega), am_shl1 (by omega), hxor, sp_at_59, am_lk_nat (by omega)]
    simp only [Option.toList_some, Option.toList_none, List.cons_append, List.nil_append]
    rw [bq_Square_mostAtOnce_103 (by omega)]
    refine sp_Square_withPartner (s := s) (by omega) hok ht hR k2 (fun x hx => k3 x (by omega)) (fun b hb => ?_)
    simp only [Option.toList_some, Option.toList_none, List.cons_append, List.nil_append]
    rw [bq_Square_mostAtOnce_110 (by omega), sp_put_59, am_put_nat (by omega)]
    simp only [Option.toList_some, Option.toList_none, List.cons_append, List.nil_append]
    rw [bq_Square_mostAtOnce_116, am_incn (by omega)]
    have hbit : ∀ i, i < t → (Nat.testBit S i = true ↔ Nat.testBit (an_dif S (2 ^ t)) i = true) := fun i hi => by
      rw [an_dif_in, an_p2_in]
      exact ⟨fun w => ⟨w, by omega⟩, fun w => w.1⟩
    refine ih (am_up g 59 S (am_max (g 59 (an_dif S (2 ^ t))) b), some (Sum.inl ((an_dif S (2 ^ t) : Nat) : Int))) ⟨fun a i h1 h2 => ?_, fun m hm => k2 m hm, fun x hx => ?_⟩
    · show am_up g 59 S _ a i = h a i
      unfold am_up
      rw [if_neg h1]
      exact k1 a i h1 h2
    · show an_px s x (am_up g 59 S _ 59 x)
      by_cases q : x = S
      · rw [q, am_up_y]
        refine an_px_s hok hS1 hS2 (F := g 59) k3 rfl ?_ (fun i hi q1 q2 => hb.2.1 i hi ((hbit i hi).1 q1) q2)
        rcases hb.1 with q1 | ⟨i, q1, q2, q3⟩
        · exact Or.inl q1
        · exact Or.inr ⟨i, q1, (hbit i q1).2 q2, q3⟩
      · rw [am_up_n q]; exact k3 x (by omega)
  · obtain ⟨g, j2⟩ := j
    show am_Wp d 171 75 [some (Sum.inr (Sum.inr 51)), some (Sum.inl (p)), some (Sum.inl ((t : Int))), some (Sum.inl (((2 ^ (t + 1) : Nat) : Int))), j2] [] (am_SH L, g, am_RR kp) Q
    rw [bq_Square_mostAtOnce_75 (by omega), an_shl2 (by omega), if_pos (Int.le_refl _), am_incn (by omega)]
    exact K g hg _ _
theorem sp_Square_mostAtOnce {d L kp : Nat} {h : Nat → Nat → Int} {Q : Option am_V → am_H → Prop} {s : an_T} {p : Nat} (hd : 2 ≤ d) (hc : an_tc h s) (hok : an_tok 7 s) (h21 : s.1 ≤ 21) (hp : p ≤ 7) (hq : ∀ g, am_keep h g → Q (some (Sum.inl (an_pxv s (2 ^ p - 1)))) (am_SH L, g, am_RR kp)) : am_Wp d 171 0 [some (Sum.inr (Sum.inr 51)), some (Sum.inl (p : Int)), none, none, none] [] (am_SH L, h, am_RR kp) Q := by
  have p0 : ∀ (f : Nat → Nat → Int) (a : Nat), am_put f a 128 0 0 = am_up f a 0 0 := fun f a => if_pos (by omega)
  have hp7 : 2 ^ p ≤ 2 ^ 7 := Nat.pow_le_pow_right (by omega) hp
  have hpp := Nat.two_pow_pos p
  rw [bq_Square_mostAtOnce_0 (by omega), sp_fill_60]
  simp only [Option.toList_some, Option.toList_none, List.cons_append, List.nil_append]
  rw [bq_Square_mostAtOnce_8]
  refine am_im_fr (J := (Nat → Nat → Int) × Option am_V × Option am_V) (a := 0) (n := s.1) (fun n j => (∀ a i, ¬ a = 60 → j.1 a i = h a i) ∧ ∀ m, m < 128 → j.1 60 m = an_mt (n, s.2) m) (fun n j => am_Wp d 171 10 [some (Sum.inr (Sum.inr 51)), some (Sum.inl ((p : Int))), some (Sum.inl ((n : Int))), j.2.1, j.2.2] [] (am_SH L, j.1, am_RR kp) Q) (by omega) (fun n j _ hn hj ih => ?_) (fun j hj => ?_) (am_fill h 60 128 0, none, none) ⟨fun a i h1 => ?_, fun m hm => ?_⟩
  · obtain ⟨g, j3, j4⟩ := j
    obtain ⟨k1, k2⟩ := hj
    dsimp only at k1 k2
    have t0 : g 51 0 = (s.1 : Int) := (k1 51 0 (by omega)).trans hc.1
    have h3 := hc.2 n hn
    have h4 := hok n hn
    have hb := an_bt_lt hok hn
    show am_Wp d 171 10 [some (Sum.inr (Sum.inr 51)), some (Sum.inl ((p : Int))), some (Sum.inl ((n : Int))), j3, j4] [] (am_SH L, g, am_RR kp) Q
    rw [bq_Square_mostAtOnce_10 (by omega), t0, if_neg (by omega), sp_at_52, am_lk_nat (by omega), k1 52 n (by omega), h3.1]
    simp only [Option.toList_some, Option.toList_none, List.cons_append, List.nil_append]
    rw [bq_Square_mostAtOnce_27 (by omega), am_shl1 (by omega), sp_at_53, am_lk_nat (by omega), k1 53 n (by omega), h3.2.1]
    simp only [Option.toList_some, Option.toList_none, List.cons_append, List.nil_append]
    have pa : 2 ^ (s.2 n).1 < 2 ^ 7 := Nat.pow_lt_pow_right (by omega) (by omega)
    have pb : 2 ^ (s.2 n).2.1 < 2 ^ 7 := Nat.pow_lt_pow_right (by omega) (by omega)
    have eor : am_or ((2 ^ (s.2 n).1 : Nat) : Int) ((2 ^ (s.2 n).2.1 : Nat) : Int) = ((an_bt s n : Nat) : Int) := am_or_ok (by omega) (by omega)
    rw [bq_Square_mostAtOnce_37 (by omega), am_shl1 (by omega), eor, sp_put_60, am_put_nat (by omega)]
    simp only [Option.toList_some, Option.toList_none, List.cons_append, List.nil_append]
    rw [bq_Square_mostAtOnce_49, am_incn (by omega)]
    refine ih (am_up g 60 (an_bt s n) 1, some (Sum.inl ((an_bt s n : Nat) : Int)), j4) ⟨fun a i h1 => ?_, fun m hm => ?_⟩
    · show am_up g 60 (an_bt s n) 1 a i = h a i
      unfold am_up
      rw [if_neg h1]
      exact k1 a i h1
    · show am_up g 60 (an_bt s n) 1 60 m = an_mt (n + 1, s.2) m
      by_cases q : m = an_bt s n
      · rw [q, am_up_y]; exact (an_mt_y (s := (n + 1, s.2)) ⟨n, Nat.lt_succ_self n, rfl⟩).symm
      · rw [am_up_n q, k2 m hm]
        by_cases q2 : ∃ e, e < n ∧ an_bt (n, s.2) e = m
        · obtain ⟨e, e1, e2⟩ := q2
          exact (an_mt_y ⟨e, e1, e2⟩).trans (an_mt_y (s := (n + 1, s.2)) ⟨e, Nat.lt_succ_of_lt e1, e2⟩).symm
        · rw [an_mt_n q2, an_mt_n]
          rintro ⟨e, e1, e2⟩
          have e1b : e < n + 1 := e1
          by_cases q3 : e = n
          · rw [q3] at e2; exact q e2.symm
          · exact q2 ⟨e, by show e < n; omega, e2⟩
  · obtain ⟨g, j3, j4⟩ := j
    obtain ⟨k1, k2⟩ := hj
    dsimp only at k1 k2
    have t0 : g 51 0 = (s.1 : Int) := (k1 51 0 (by omega)).trans hc.1
    show am_Wp d 171 10 [some (Sum.inr (Sum.inr 51)), some (Sum.inl ((p : Int))), some (Sum.inl ((s.1 : Int))), j3, j4] [] (am_SH L, g, am_RR kp) Q
    rw [bq_Square_mostAtOnce_10 (by omega), t0, if_pos (Int.le_refl _), sp_put_59, p0]
    simp only [Option.toList_some, Option.toList_none, List.cons_append, List.nil_append]
    rw [bq_Square_mostAtOnce_64]
    refine am_im_fr (J := (Nat → Nat → Int) × Option am_V × Option am_V) (a := 0) (n := p) (fun t j => (∀ a i, ¬ a = 59 → ¬ a = 60 → j.1 a i = h a i) ∧ (∀ m, m < 128 → j.1 60 m = an_mt s m) ∧ ∀ x, x < (2 ^ t) → an_px s x (j.1 59 x)) (fun t j => am_Wp d 171 66 [some (Sum.inr (Sum.inr 51)), some (Sum.inl ((p : Int))), some (Sum.inl ((t : Int))), j.2.1, j.2.2] [] (am_SH L, j.1, am_RR kp) Q) (by omega) (fun t j _ ht hj ih => ?_) (fun j hj => ?_) (am_up g 59 0 0, j3, j4) ⟨fun a i h1 h2 => ?_, fun m hm => k2 m hm, fun x hx => ?_⟩
    · obtain ⟨f, j5, j6⟩ := j
      show am_Wp d 171 66 [some (Sum.inr (Sum.inr 51)), some (Sum.inl ((p : Int))), some (Sum.inl ((t : Int))), j5, j6] [] (am_SH L, f, am_RR kp) Q
      rw [bq_Square_mostAtOnce_66 (by omega), if_neg (by omega), am_shl1 (by omega)]
      exact lp_MA_i hd hok (by omega) (fun (f : Nat → Nat → Int) hf x1 x2 => ih (f, x1, x2) hf) (f, j6) hj
    · obtain ⟨f, j5, j6⟩ := j
      have hv := hj.2.2 (2 ^ p - 1) (by omega)
      have h4 := an_pxv_eq hv
      dsimp only at h4
      have es : am_sub ((2 ^ p : Nat) : Int) 1 = ((2 ^ p - 1 : Nat) : Int) := by rw [am_sub_ok (by omega) (by omega)]; omega
      show am_Wp d 171 66 [some (Sum.inr (Sum.inr 51)), some (Sum.inl ((p : Int))), some (Sum.inl ((p : Int))), j5, j6] [] (am_SH L, f, am_RR kp) Q
      rw [bq_Square_mostAtOnce_66 (by omega), if_pos (Int.le_refl _), am_shl1 (by omega), es, sp_at_59, am_lk_nat (by omega), h4]
      simp only [Option.toList_some, Option.toList_none, List.cons_append, List.nil_append]
      rw [bq_Square_mostAtOnce_140]
      refine hq f (fun a j hr => hj.1 a j (fun w => ?_) (fun w => ?_))
      · rw [w] at hr; cases hr
      · rw [w] at hr; cases hr
    · show am_up g 59 0 0 a i = h a i
      unfold am_up
      rw [if_neg h1]
      exact k1 a i h2
    · have hx0 : x = 0 := by have : (2 : Nat) ^ 0 = 1 := rfl; omega
      rw [hx0]
      exact an_px_0 hok
  · show am_fill h 60 128 0 a i = h a i
    unfold am_fill
    rw [if_neg h1]
  · rw [an_mt_n (fun w => by obtain ⟨e, e1, _⟩ := w; exact absurd e1 (Nat.not_lt_zero e))]
    show am_fill h 60 128 0 60 m = 0
    unfold am_fill
    rw [if_pos rfl, if_pos hm]
noncomputable def a_atOnce (V : am_Vw) : am_V × Nat := (Sum.inl (an_pxv (v_twos V) (2 ^ (vP V).toNat - 1)), 0)
theorem c_atOnce {d L kp : Nat} {h : Nat → Nat → Int} (hd : 5 ≤ d) (hv : v_ok (am_wv h 2)) : am_An L 41 (a_atOnce (am_wv h 2)) h (fun Q => am_Wp d 170 0 [some (Sum.inr (Sum.inr 1))] [] (am_SH L, h, am_RR kp) Q) := by
  have hQ := wv_Q hv
  have hP := wv_P hv
  have hD := wv_D hv
  intro Q hq
  show am_Wp d 170 0 [some (Sum.inr (Sum.inr 1))] [] (am_SH L, h, am_RR kp) Q
  rw [bq_KO_atOnce_0 (by omega)]
  refine sp_KO_gatherSquare (by omega) hv (fun g k1 k2 k3 => ?_)
  have hok := v_twos_ok hv
  have k3b : an_tw g (v_twos (am_wv h 2)) := k3
  simp only [Option.toList_some, Option.toList_none, List.cons_append, List.nil_append]
  rw [bq_KO_atOnce_4 (by omega), sp_World_people_2]
  simp only [Option.toList_some, Option.toList_none, List.cons_append, List.nil_append]
  have eP : g 2 0 = (((vP (am_wv h 2)).toNat : Nat) : Int) := by
    have e1 : g 2 0 = vP (am_wv h 2) := congrArg vP k2
    have e2 : vP (am_wv h 2) = h 2 0 := rfl
    omega
  rw [bq_KO_atOnce_15 (by omega), eP]
  refine sp_Square_mostAtOnce (by omega) k3b.1 hok.2.1 hok.2.2 (by have e2 : vP (am_wv h 2) = h 2 0 := rfl; omega) (fun g2 m1 => ?_)
  simp only [Option.toList_some, Option.toList_none, List.cons_append, List.nil_append]
  rw [bq_KO_atOnce_18]
  exact hq g2 kp (am_keep_t k1 m1)