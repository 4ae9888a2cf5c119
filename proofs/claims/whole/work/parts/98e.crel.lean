/-! RELIEVED of the class -/
theorem an_su_ins {f : Nat → Int} {T q : Nat} (hq : q < 16) (hT : Nat.testBit T q = false) : an_su f (T ||| 2 ^ q) = an_su f T + f q := by
  have h4 := am_sumb_one (n := 16) (i := q) (x := f q) hq
  have key : am_sumb 16 (fun i => bif Nat.testBit (T ||| 2 ^ q) i then f i else 0) = am_sumb 16 (fun i => (bif Nat.testBit T i then f i else 0) + (if i = q then f q else 0)) := am_sumb_eq (fun i _ => by
    show (bif Nat.testBit (T ||| 2 ^ q) i then f i else 0) = (bif Nat.testBit T i then f i else 0) + (if i = q then f q else 0)
    rw [Nat.testBit_or, Nat.testBit_two_pow]
    by_cases w : q = i
    · rw [← w, hT, if_pos rfl, decide_eq_true rfl]
      show f q = 0 + f q
      omega
    · rw [if_neg (by omega), decide_eq_false w, Bool.or_false]
      omega)
  unfold an_su
  rw [key, am_sumb_add, h4]
theorem an_su_cat {f : Nat → Int} {B e y : Nat} (he : B % 2 ^ e = 0) (hy : y < 2 ^ e) : an_su f (B + y) = an_su f B + an_su f y := by
  obtain ⟨z, z1, z2, z3⟩ := an_rg he (show B ≤ B + y by omega) (by omega)
  have key : am_sumb 16 (fun i => bif Nat.testBit (B + y) i then f i else 0) = am_sumb 16 (fun i => (bif Nat.testBit B i then f i else 0) + (bif Nat.testBit y i then f i else 0)) := am_sumb_eq (fun i _ => by
    show (bif Nat.testBit (B + y) i then f i else 0) = (bif Nat.testBit B i then f i else 0) + (bif Nat.testBit y i then f i else 0)
    rw [z3 i, show z = y by omega]
    by_cases w : i < e
    · rw [if_pos w, an_lowz he w, cond_false]; omega
    · rw [if_neg w, Nat.testBit_lt_two_pow (Nat.lt_of_lt_of_le hy (Nat.pow_le_pow_right (by omega) (show e ≤ i by omega))), cond_false]; omega)
  unfold an_su
  rw [key, am_sumb_add]
theorem an_su_sub {f : Nat → Int} {v : Int} {x : Nat} : an_su (fun i => f i - v) x = an_su f x - v * am_pc x := by
  unfold an_su am_pc
  generalize 16 = n
  induction n with
  | zero => show (0 : Int) = 0 - v * 0; omega
  | succ n ih =>
    rw [am_sumb_s, am_sumb_s, am_sumb_s, ih]
    cases Nat.testBit x n with
    | true => rw [cond_true, cond_true, cond_true, Int.mul_add]; dsimp only; omega
    | false => rw [cond_false, cond_false, cond_false, Int.mul_add]; omega
def an_lg (c : Nat → Prop) (f : Nat → Int) (B m : Nat) (v : Int) : Prop := (∃ y, y < 2 ^ B ∧ (∀ i, Nat.testBit y i = true → c i) ∧ am_pc y ≤ m ∧ an_su f y = v) ∧ ∀ y, y < 2 ^ B → (∀ i, Nat.testBit y i = true → c i) → am_pc y ≤ m → an_su f y ≤ v
theorem an_lg_t {c : Nat → Prop} {f : Nat → Int} {B m T : Nat} {v : Int} (hv : 0 ≤ v) (hT : T < 2 ^ B) (hc : ∀ i, Nat.testBit T i = true → c i) (hm : am_pc T ≤ m) (h1 : ∀ i, Nat.testBit T i = true → v ≤ f i) (h2 : ∀ i, i < B → c i → Nat.testBit T i = false → f i ≤ v) (h3 : v = 0 ∨ ∀ y, am_pc y ≤ m → am_pc y ≤ am_pc T) : an_lg c f B m (an_su f T) := by
  refine ⟨⟨T, hT, hc, hm, rfl⟩, fun y hy hyc hym => ?_⟩
  have key : an_su (fun i => f i - v) y ≤ an_su (fun i => f i - v) T := am_sumb_mono (fun i _ => by
    show (bif Nat.testBit y i then f i - v else 0) ≤ (bif Nat.testBit T i then f i - v else 0)
    cases hb : Nat.testBit y i with
    | true =>
      cases hb2 : Nat.testBit T i with
      | true => exact Int.le_refl _
      | false =>
        have hi : i < B := by
          by_cases q : i < B
          · exact q
          · rw [Nat.testBit_lt_two_pow (Nat.lt_of_lt_of_le hy (Nat.pow_le_pow_right (by omega) (show B ≤ i by omega)))] at hb
            cases hb
        have := h2 i hi (hyc i hb) hb2
        rw [cond_true, cond_false]; omega
    | false =>
      cases hb2 : Nat.testBit T i with
      | true => have := h1 i hb2; rw [cond_true, cond_false]; omega
      | false => exact Int.le_refl _)
  rw [an_su_sub, an_su_sub] at key
  rcases h3 with h3 | h3
  · rw [h3] at key; omega
  · have h5 := h3 y hym
    have h6 := Int.mul_le_mul_of_nonneg_left h5 hv
    omega
def an_rm (c : Nat → Prop) (T r : Nat) : Prop := c r ∧ Nat.testBit T r = false
def an_pk (c : Nat → Prop) (f : Nat → Int) (T p : Nat) (x : Int) : Prop := (x = -9 ∧ ∀ r, r < p → ¬ an_rm c T r) ∨ (∃ q : Nat, x = (q : Int) ∧ q < p ∧ an_rm c T q ∧ ∀ r, r < p → an_rm c T r → f r ≤ f q)
theorem an_pk_n {c : Nat → Prop} {f : Nat → Int} {T p : Nat} {x : Int} (h : an_pk c f T p x) (hn : an_rm c T p → ∃ q : Nat, x = (q : Int) ∧ f p ≤ f q) : an_pk c f T (p + 1) x := by
  rcases h with ⟨h1, h2⟩ | ⟨q, h1, h2, h3, h4⟩
  · refine Or.inl ⟨h1, fun r hr hp => ?_⟩
    by_cases w : r = p
    · rw [w] at hp
      obtain ⟨q, q1, _⟩ := hn hp
      omega
    · exact h2 r (by omega) hp
  · refine Or.inr ⟨q, h1, by omega, h3, fun r hr hp => ?_⟩
    by_cases w : r = p
    · rw [w] at hp ⊢
      obtain ⟨q2, q1, q3⟩ := hn hp
      rw [show q = q2 by omega]; exact q3
    · exact h4 r (by omega) hp
theorem an_pk_y {c : Nat → Prop} {f : Nat → Int} {T p : Nat} {x : Int} (h : an_pk c f T p x) (hp : an_rm c T p) (hx : x = -9 ∨ ∃ q : Nat, x = (q : Int) ∧ f q ≤ f p) : an_pk c f T (p + 1) (p : Int) := by
  refine Or.inr ⟨p, rfl, by omega, hp, fun r hr hr2 => ?_⟩
  by_cases w : r = p
  · rw [w]; exact Int.le_refl _
  · rcases h with ⟨h1, h2⟩ | ⟨q, h1, h2, h3, h4⟩
    · exact absurd hr2 (h2 r (by omega))
    · have := h4 r (by omega) hr2
      rcases hx with hx | ⟨q2, q3, q4⟩
      · omega
      · rw [show q2 = q by omega] at q4; omega
def v_dc (V : am_Vw) (i : Int) (p : Nat) : Prop := v_open V (p : Int) = true ∧ vO V p = i
def v_db (V : am_Vw) (i : Int) (p : Nat) : Bool := v_open V (p : Int) && decide (vO V p = i)
theorem v_db_i {V : am_Vw} {i : Int} {p : Nat} : v_db V i p = true ↔ v_dc V i p := by
  unfold v_db v_dc
  rw [Bool.and_eq_true, decide_eq_true_eq]
def v_rp (V : am_Vw) (i : Int) (y : Nat) : Prop := (∀ j, Nat.testBit y j = true → v_dc V i j) ∧ 0 ≤ v_net V i + an_su (vN V) y
noncomputable def a_relieved (V : am_Vw) (i w : Int) : am_V × Nat := if v_isP V i = false then (Sum.inl (-1), 1) else if w = 0 ∨ w = 1 then (Sum.inl (if w = 0 then 16 - (an_bsv (v_rp V i) (fun y => 16 - am_pc y)).1 else (an_bsv (v_rp V i) (fun y => 16 - am_pc y)).2), 0) else (Sum.inl (-2), 2)
theorem sp_KO_isDebtOf {d L kp : Nat} {h : Nat → Nat → Int} {Q : Option am_V → am_H → Prop} {i : Int} {p : Nat} (hd : 2 ≤ d) (hp : p < 16) : am_Wp d 163 0 [some (Sum.inr (Sum.inr 2)), some (Sum.inl (p : Int)), some (Sum.inl i)] [] (am_SH L, h, am_RR kp) Q = Q (some (Sum.inl (am_bi (v_db (am_wv h 2) i p)))) (am_SH L, h, am_RR kp) := by
  rw [bq_KO_isDebtOf_0 (by omega), sp_World_isOpen_2 (by omega)]
  simp only [Option.toList_some, Option.toList_none, List.cons_append, List.nil_append]
  rw [bq_KO_isDebtOf_5 (by omega)]
  have e7 : h 7 p = vO (am_wv h 2) p := rfl
  have r21 : am_Wp d 163 21 [some (Sum.inr (Sum.inr 2)), some (Sum.inl ((p : Int))), some (Sum.inl (i))] [] (am_SH L, h, am_RR kp) Q = Q (some (Sum.inl 0)) (am_SH L, h, am_RR kp) := by
    rw [bq_KO_isDebtOf_21, bq_KO_isDebtOf_22]
    exact propext ⟨fun w => w.2, fun w => ⟨Or.inl rfl, w⟩⟩
  unfold v_db
  cases v_open (am_wv h 2) (p : Int) with
  | false => rw [if_pos am_bif, r21]; rfl
  | true =>
    rw [if_neg am_b0, sp_World_debtorOf_2 (by omega), am_lk_nat (by omega), e7]
    simp only [Option.toList_some, Option.toList_none, List.cons_append, List.nil_append]
    rw [bq_KO_isDebtOf_13]
    by_cases q : vO (am_wv h 2) p = i
    · rw [if_pos q, bq_KO_isDebtOf_22, decide_eq_true q]
      exact propext ⟨fun w => w.2, fun w => ⟨Or.inr rfl, w⟩⟩
    · rw [if_neg q, r21, decide_eq_false q]; rfl
theorem lp_KO_largest_i {d L kp : Nat} {h : Nat → Nat → Int} {Q : Option am_V → am_H → Prop} {i : Int} {B m T t : Nat} (hd : 4 ≤ d) (hB : B ≤ 16) (hT : T < 2 ^ 16) (K : ∀ (x : Int) (j9 : Option am_V), an_pk (v_dc (am_wv h 2) i) (vN (am_wv h 2)) T B x → am_Wp d 162 29 [some (Sum.inr (Sum.inr 2)), some (Sum.inl (i)), some (Sum.inl ((B : Int))), some (Sum.inl ((m : Int))), some (Sum.inl ((T : Int))), some (Sum.inl ((an_su (vN (am_wv h 2)) T))), some (Sum.inl ((t : Int))), some (Sum.inl (x)), some (Sum.inl ((B : Int))), j9] [] (am_SH L, h, am_RR kp) Q) : ∀ j : Int × Option am_V, an_pk (v_dc (am_wv h 2) i) (vN (am_wv h 2)) T 0 j.1 → am_Wp d 162 29 [some (Sum.inr (Sum.inr 2)), some (Sum.inl (i)), some (Sum.inl ((B : Int))), some (Sum.inl ((m : Int))), some (Sum.inl ((T : Int))), some (Sum.inl ((an_su (vN (am_wv h 2)) T))), some (Sum.inl ((t : Int))), some (Sum.inl (j.1)), some (Sum.inl (0)), j.2] [] (am_SH L, h, am_RR kp) Q := by
  refine am_im_fr (J := Int × Option am_V) (a := 0) (n := B) (fun p j => an_pk (v_dc (am_wv h 2) i) (vN (am_wv h 2)) T p j.1) (fun p j => am_Wp d 162 29 [some (Sum.inr (Sum.inr 2)), some (Sum.inl (i)), some (Sum.inl ((B : Int))), some (Sum.inl ((m : Int))), some (Sum.inl ((T : Int))), some (Sum.inl ((an_su (vN (am_wv h 2)) T))), some (Sum.inl ((t : Int))), some (Sum.inl (j.1)), some (Sum.inl ((p : Int))), j.2] [] (am_SH L, h, am_RR kp) Q) (by omega) (fun p j _ hp hj ih => ?_) (fun j hj => K j.1 j.2 hj)
  obtain ⟨x, j9⟩ := j
  have hj2 : an_pk (v_dc (am_wv h 2) i) (vN (am_wv h 2)) T p x := hj
  have r93 : ∀ (x2 : Int) (j : Option am_V), an_pk (v_dc (am_wv h 2) i) (vN (am_wv h 2)) T (p + 1) x2 → am_Wp d 162 93 [some (Sum.inr (Sum.inr 2)), some (Sum.inl (i)), some (Sum.inl ((B : Int))), some (Sum.inl ((m : Int))), some (Sum.inl ((T : Int))), some (Sum.inl ((an_su (vN (am_wv h 2)) T))), some (Sum.inl ((t : Int))), some (Sum.inl (x2)), some (Sum.inl ((p : Int))), j] [] (am_SH L, h, am_RR kp) Q := fun x2 j w => by
    rw [bq_KO_largestDebts_93, am_incn (by omega)]
    exact ih (x2, j) w
  have r0 : ¬ an_rm (v_dc (am_wv h 2) i) T p → am_Wp d 162 60 [some (Sum.inr (Sum.inr 2)), some (Sum.inl (i)), some (Sum.inl ((B : Int))), some (Sum.inl ((m : Int))), some (Sum.inl ((T : Int))), some (Sum.inl ((an_su (vN (am_wv h 2)) T))), some (Sum.inl ((t : Int))), some (Sum.inl (x)), some (Sum.inl ((p : Int))), j9] [Sum.inl 0] (am_SH L, h, am_RR kp) Q := fun w => by
    rw [bq_KO_largestDebts_60 (by omega), if_pos rfl]
    exact r93 x _ (an_pk_n hj2 (fun w2 => absurd w2 w))
  have r1 : an_rm (v_dc (am_wv h 2) i) T p → am_Wp d 162 60 [some (Sum.inr (Sum.inr 2)), some (Sum.inl (i)), some (Sum.inl ((B : Int))), some (Sum.inl ((m : Int))), some (Sum.inl ((T : Int))), some (Sum.inl ((an_su (vN (am_wv h 2)) T))), some (Sum.inl ((t : Int))), some (Sum.inl (x)), some (Sum.inl ((p : Int))), j9] [Sum.inl 1] (am_SH L, h, am_RR kp) Q := fun w => by
    have e9 : ∀ k, h 9 k = vN (am_wv h 2) k := fun k => rfl
    rw [bq_KO_largestDebts_60 (by omega), if_neg (by omega)]
    by_cases q1 : x = -9
    · rw [if_pos q1, bq_KO_largestDebts_89]
      exact r93 _ _ (an_pk_y hj2 w (Or.inl q1))
    · have hq : ∃ q : Nat, x = (q : Int) ∧ q < p := by
        rcases hj2 with ⟨h1, _⟩ | ⟨q, h1, h2, _⟩
        · exact absurd h1 q1
        · exact ⟨q, h1, h2⟩
      obtain ⟨q, q2, q3⟩ := hq
      rw [if_neg q1, sp_World_quartersOf_2 (by omega), am_lk_nat (by omega), e9]
      simp only [Option.toList_some, Option.toList_none, List.cons_append, List.nil_append]
      rw [bq_KO_largestDebts_80 (by omega), sp_World_quartersOf_2 (by omega), q2, am_lk_nat (by omega), e9]
      simp only [Option.toList_some, Option.toList_none, List.cons_append, List.nil_append]
      rw [bq_KO_largestDebts_86]
      by_cases q4 : vN (am_wv h 2) p ≤ vN (am_wv h 2) q
      · rw [if_pos q4, ← q2]
        exact r93 _ _ (an_pk_n hj2 (fun _ => ⟨q, q2, q4⟩))
      · rw [if_neg q4, bq_KO_largestDebts_89]
        exact r93 _ _ (an_pk_y hj2 w (Or.inr ⟨q, q2, by omega⟩))
  show am_Wp d 162 29 [some (Sum.inr (Sum.inr 2)), some (Sum.inl (i)), some (Sum.inl ((B : Int))), some (Sum.inl ((m : Int))), some (Sum.inl ((T : Int))), some (Sum.inl ((an_su (vN (am_wv h 2)) T))), some (Sum.inl ((t : Int))), some (Sum.inl (x)), some (Sum.inl ((p : Int))), j9] [] (am_SH L, h, am_RR kp) Q
  rw [bq_KO_largestDebts_29 (by omega), if_neg (by omega), sp_KO_isDebtOf (by omega) (by omega)]
  simp only [Option.toList_some, Option.toList_none, List.cons_append, List.nil_append]
  rw [bq_KO_largestDebts_42 (by omega)]
  cases hx : v_db (am_wv h 2) i p with
  | false =>
    rw [if_pos am_bif, bq_KO_largestDebts_59]
    exact r0 (fun w => by have := v_db_i.2 w.1; rw [hx] at this; cases this)
  | true =>
    rw [if_neg am_b0, sp_has, am_has_tb (by omega) (by omega)]
    simp only [Option.toList_some, Option.toList_none, List.cons_append, List.nil_append]
    rw [bq_KO_largestDebts_52]
    cases hb : Nat.testBit T p with
    | false =>
      rw [if_pos am_bif]
      exact r1 ⟨v_db_i.1 hx, hb⟩
    | true =>
      rw [if_neg am_b0, bq_KO_largestDebts_59]
      exact r0 (fun w => by have := w.2; rw [hb] at this; cases this)
theorem sp_KO_largestDebts {d L kp : Nat} {h : Nat → Nat → Int} {Q : Option am_V → am_H → Prop} {i : Int} {B m : Nat} (hd : 5 ≤ d) (hv : v_ok (am_wv h 2)) (hB : B ≤ 16) (hq : ∀ v, an_lg (v_dc (am_wv h 2) i) (vN (am_wv h 2)) B m v → Q (some (Sum.inl v)) (am_SH L, h, am_RR kp)) : am_Wp d 162 0 [some (Sum.inr (Sum.inr 2)), some (Sum.inl i), some (Sum.inl (B : Int)), some (Sum.inl (m : Int)), none, none, none, none, none, none] [] (am_SH L, h, am_RR kp) Q := by
  have hfc : ∀ r, (v_dc (am_wv h 2) i) r → 0 ≤ vN (am_wv h 2) r ∧ vN (am_wv h 2) r ≤ 40 := fun r hr => (v_ok_p hv r (v_open_lt hv hr.1).2).2.2.1
  have hpB : 2 ^ B ≤ 2 ^ 16 := Nat.pow_le_pow_right (by omega) hB
  have hl16 : ∀ {T i : Nat}, T < 2 ^ B → Nat.testBit T i = true → i < B := fun {T i} hT hi => by
    by_cases q : i < B
    · exact q
    · rw [Nat.testBit_lt_two_pow (Nat.lt_of_lt_of_le hT (Nat.pow_le_pow_right (by omega) (show B ≤ i by omega)))] at hi
      cases hi
  have key := am_im_fr (J := Nat × Option am_V × Option am_V × Option am_V) (a := 0) (n := if m ≤ 16 then m else 16) (fun t j => j.1 < 2 ^ B ∧ (∀ r, Nat.testBit j.1 r = true → (v_dc (am_wv h 2) i) r) ∧ am_pc j.1 = (t : Int) ∧ ∃ v : Int, 0 ≤ v ∧ (∀ r, Nat.testBit j.1 r = true → v ≤ vN (am_wv h 2) r) ∧ (∀ r, r < B → (v_dc (am_wv h 2) i) r → Nat.testBit j.1 r = false → vN (am_wv h 2) r ≤ v)) (fun t j => am_Wp d 162 9 [some (Sum.inr (Sum.inr 2)), some (Sum.inl (i)), some (Sum.inl ((B : Int))), some (Sum.inl ((m : Int))), some (Sum.inl ((j.1 : Int))), some (Sum.inl ((an_su (vN (am_wv h 2)) j.1))), some (Sum.inl ((t : Int))), j.2.1, j.2.2.1, j.2.2.2] [] (am_SH L, h, am_RR kp) Q) (by omega) (fun t j _ ht hj ih => ?_) (fun j hj => ?_) (0, none, none, none) ⟨Nat.two_pow_pos B, fun i hi => (by rw [Nat.zero_testBit] at hi; cases hi), (by decide), 40, by omega, fun i hi => (by rw [Nat.zero_testBit] at hi; cases hi), fun i _ hc _ => (hfc i hc).2⟩
  · rw [bq_KO_largestDebts_0]
    have e0 : an_su (vN (am_wv h 2)) 0 = 0 := an_su_0
    dsimp only at key
    rw [e0] at key
    exact key
  · obtain ⟨T, j7, j8, j9⟩ := j
    obtain ⟨a1, a2, a3, v, a4, a5, a6⟩ := hj
    dsimp only at a1 a2 a3 a5 a6
    have htm : t < m ∧ t < 16 := by
      by_cases q : m ≤ 16
      · rw [if_pos q] at ht; omega
      · rw [if_neg q] at ht; omega
    show am_Wp d 162 9 [some (Sum.inr (Sum.inr 2)), some (Sum.inl (i)), some (Sum.inl ((B : Int))), some (Sum.inl ((m : Int))), some (Sum.inl ((T : Int))), some (Sum.inl ((an_su (vN (am_wv h 2)) T))), some (Sum.inl ((t : Int))), j7, j8, j9] [] (am_SH L, h, am_RR kp) Q
    rw [bq_KO_largestDebts_9, if_neg (by omega), if_neg (by omega)]
    refine lp_KO_largest_i (by omega) hB (by omega) (fun x j9 hx => ?_) (-9, j9) (Or.inl ⟨rfl, fun r hr => by omega⟩)
    have hsu := an_su_le (f := (vN (am_wv h 2))) (B := T) (fun r hr => hfc r (a2 r hr))
    rw [bq_KO_largestDebts_29 (by omega), if_pos (Int.le_refl _)]
    rcases hx with ⟨x1, x2⟩ | ⟨q, x1, x2, x3, x4⟩
    · rw [if_pos x1]
      refine hq _ (an_lg_t (v := 0) (Int.le_refl _) a1 a2 (by omega) (fun r hr => (hfc r (a2 r hr)).1) (fun r hr hc hb => absurd ⟨hc, hb⟩ (x2 r hr)) (Or.inl rfl))
    · have e9 : h 9 q = vN (am_wv h 2) q := rfl
      have hq1 := hfc q x3.1
      have pk : 2 ^ q < 2 ^ 16 := Nat.pow_lt_pow_right (by omega) (by omega)
      have pkB : 2 ^ q < 2 ^ B := Nat.pow_lt_pow_right (by omega) (by omega)
      have ei := an_su_ins (f := (vN (am_wv h 2))) (show q < 16 by omega) x3.2
      have ep := an_su_ins (f := fun _ => 1) (show q < 16 by omega) x3.2
      rw [← an_pc_su, ← an_pc_su] at ep
      have hTB := Nat.or_lt_two_pow a1 pkB
      have hbit : ∀ r, Nat.testBit (T ||| 2 ^ q) r = true ↔ (Nat.testBit T r = true ∨ q = r) := fun r => by
        rw [Nat.testBit_or, Bool.or_eq_true, an_p2_in]
      rw [if_neg (by omega), x1, sp_World_quartersOf_2 (by omega), am_lk_nat (by omega), e9, am_shl1 (by omega), am_or_ok (by omega) (by omega)]
      simp only [Option.toList_some, Option.toList_none, List.cons_append, List.nil_append]
      rw [bq_KO_largestDebts_126, am_incn (by omega), am_add_ok (by omega) (by omega), ← ei]
      refine ih (T ||| 2 ^ q, _, _, _) ⟨hTB, fun r hr => ?_, ?_, vN (am_wv h 2) q, hq1.1, fun r hr => ?_, fun r hr hc hb => ?_⟩
      · rcases (hbit r).1 hr with w | w
        · exact a2 r w
        · rw [← w]; exact x3.1
      · show am_pc (T ||| 2 ^ q) = ((t + 1 : Nat) : Int)
        omega
      · rcases (hbit r).1 hr with w | w
        · have b1 := a5 r w
          have b2 := a6 q x2 x3.1 x3.2
          omega
        · rw [w]; exact Int.le_refl _
      · refine x4 r hr ⟨hc, ?_⟩
        cases hb2 : Nat.testBit T r with
        | false => rfl
        | true => have := (hbit r).2 (Or.inl hb2); rw [show Nat.testBit (T ||| 2 ^ q) r = false from hb] at this; cases this
  · obtain ⟨T, j7, j8, j9⟩ := j
    obtain ⟨a1, a2, a3, v, a4, a5, a6⟩ := hj
    dsimp only at a1 a2 a3 a5 a6
    have r135 : am_Wp d 162 135 [some (Sum.inr (Sum.inr 2)), some (Sum.inl (i)), some (Sum.inl ((B : Int))), some (Sum.inl ((m : Int))), some (Sum.inl ((T : Int))), some (Sum.inl ((an_su (vN (am_wv h 2)) T))), some (Sum.inl (((if m ≤ 16 then m else 16 : Nat) : Int))), j7, j8, j9] [] (am_SH L, h, am_RR kp) Q := by
      rw [bq_KO_largestDebts_135]
      refine hq _ (an_lg_t a4 a1 a2 ?_ a5 a6 (Or.inr (fun y hy => ?_)))
      · by_cases q : m ≤ 16
        · rw [if_pos q] at a3; omega
        · rw [if_neg q] at a3; omega
      · have h16 := (an_pc_le (x := y)).2
        by_cases q : m ≤ 16
        · rw [if_pos q] at a3; omega
        · rw [if_neg q] at a3; omega
    show am_Wp d 162 9 [some (Sum.inr (Sum.inr 2)), some (Sum.inl (i)), some (Sum.inl ((B : Int))), some (Sum.inl ((m : Int))), some (Sum.inl ((T : Int))), some (Sum.inl ((an_su (vN (am_wv h 2)) T))), some (Sum.inl (((if m ≤ 16 then m else 16 : Nat) : Int))), j7, j8, j9] [] (am_SH L, h, am_RR kp) Q
    rw [bq_KO_largestDebts_9]
    by_cases q : m ≤ 16
    · rw [if_pos (by rw [if_pos q]; omega)]
      exact r135
    · rw [if_neg (by rw [if_neg q]; omega), if_pos (by rw [if_neg q]; omega)]
      exact r135