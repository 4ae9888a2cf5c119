/-! THE SQUARE: its twos -/
abbrev an_T : Type := Nat × (Nat → Nat × Nat × Int)
def an_ps (s : an_T) (a b : Nat) (x : Int) : an_T := (s.1 + 1, fun j => if j = s.1 then (a, b, x) else s.2 j)
def v_mi (V : am_Vw) (a b : Nat) : Int := if an_abs (v_owes V (a : Int) (b : Int) - v_owes V (b : Int) (a : Int)) < 2 then 2 else an_abs (v_owes V (a : Int) (b : Int) - v_owes V (b : Int) (a : Int))
theorem v_mi_le {V : am_Vw} (hv : v_ok V) {a b : Nat} : 2 ≤ v_mi V a b ∧ v_mi V a b ≤ 640 := by
  have h1 := v_owes_le hv (a : Int) (b : Int)
  have h2 := v_owes_le hv (b : Int) (a : Int)
  unfold v_mi an_abs
  (repeat' split) <;> omega
def v_tw2 (V : am_Vw) (a n : Nat) (s : an_T) : an_T := am_for (fun b s => if a < b ∧ 0 < v_owes V (a : Int) (b : Int) + v_owes V (b : Int) (a : Int) then an_ps s a b (v_mi V a b) else s) n s
def v_tw (V : am_Vw) (n : Nat) : an_T := am_for (fun a s => v_tw2 V a (vP V).toNat s) n (0, fun _ => (0, 0, 0))
theorem v_tw2_s {V : am_Vw} {a n : Nat} {s : an_T} : v_tw2 V a (n + 1) s = if a < n ∧ 0 < v_owes V (a : Int) (n : Int) + v_owes V (n : Int) (a : Int) then an_ps (v_tw2 V a n s) a n (v_mi V a n) else v_tw2 V a n s := by
  unfold v_tw2
  exact am_for_s
theorem v_tw_s {V : am_Vw} {n : Nat} : v_tw V (n + 1) = v_tw2 V n (vP V).toNat (v_tw V n) := by
  unfold v_tw
  exact am_for_s
theorem v_tw2_0 {V : am_Vw} {a n : Nat} {s : an_T} (hn : n ≤ a + 1) : v_tw2 V a n s = s := by
  induction n with
  | zero => rfl
  | succ n ih => rw [v_tw2_s, if_neg (by omega), ih (by omega)]
def an_B : Nat → Nat
  | 0 => 0
  | a + 1 => an_B a + (6 - a)
theorem an_B_le : ∀ a, a < 8 → an_B a ≤ 21 := by decide
/-- what a list of twos of n people holds -/
def an_tok (n : Nat) (s : an_T) : Prop := ∀ i, i < s.1 → (s.2 i).1 < (s.2 i).2.1 ∧ (s.2 i).2.1 < n ∧ 2 ≤ (s.2 i).2.2 ∧ (s.2 i).2.2 ≤ 640
theorem an_tok_ps {n : Nat} {s : an_T} {a b : Nat} {x : Int} (hs : an_tok n s) (hab : a < b) (hb : b < n) (hx : 2 ≤ x ∧ x ≤ 640) : an_tok n (an_ps s a b x) := by
  intro i hi
  have hi2 : i < s.1 + 1 := hi
  show (if i = s.1 then (a, b, x) else s.2 i).1 < (if i = s.1 then (a, b, x) else s.2 i).2.1 ∧ (if i = s.1 then (a, b, x) else s.2 i).2.1 < n ∧ 2 ≤ (if i = s.1 then (a, b, x) else s.2 i).2.2 ∧ (if i = s.1 then (a, b, x) else s.2 i).2.2 ≤ 640
  by_cases q : i = s.1
  · rw [if_pos q]; exact ⟨hab, hb, hx.1, hx.2⟩
  · rw [if_neg q]; exact hs i (by omega)
theorem v_tw2_in {V : am_Vw} (hv : v_ok V) {a n : Nat} {s : an_T} (hs : an_tok (vP V).toNat s) (hn : n ≤ (vP V).toNat) : an_tok (vP V).toNat (v_tw2 V a n s) ∧ s.1 ≤ (v_tw2 V a n s).1 ∧ (v_tw2 V a n s).1 + (a + 1) ≤ s.1 + max n (a + 1) := by
  induction n with
  | zero => exact ⟨hs, Nat.le_refl _, by show s.1 + (a + 1) ≤ _; omega⟩
  | succ n ih =>
    have h1 := ih (by omega)
    rw [v_tw2_s]
    by_cases q : a < n ∧ 0 < v_owes V (a : Int) (n : Int) + v_owes V (n : Int) (a : Int)
    · rw [if_pos q]
      refine ⟨an_tok_ps h1.1 q.1 (by omega) (v_mi_le hv), ?_, ?_⟩
      · show s.1 ≤ (v_tw2 V a n s).1 + 1; omega
      · show (v_tw2 V a n s).1 + 1 + (a + 1) ≤ _; omega
    · rw [if_neg q]
      exact ⟨h1.1, h1.2.1, by omega⟩
theorem v_tw_in {V : am_Vw} (hv : v_ok V) {n : Nat} (hn : n ≤ (vP V).toNat) : an_tok (vP V).toNat (v_tw V n) ∧ (v_tw V n).1 ≤ an_B n := by
  have hP := v_ok_P hv
  induction n with
  | zero => exact ⟨fun i hi => absurd hi (Nat.not_lt_zero i), Nat.le_refl 0⟩
  | succ n ih =>
    have h1 := ih (by omega)
    have h2 := v_tw2_in hv (a := n) h1.1 (Nat.le_refl _)
    rw [v_tw_s]
    refine ⟨h2.1, ?_⟩
    show _ ≤ an_B n + (6 - n)
    omega
theorem v_tw2_21 {V : am_Vw} (hv : v_ok V) {a b : Nat} (ha : a < b) (hb : b < (vP V).toNat) : (v_tw2 V a b (v_tw V a)).1 < 21 := by
  have hP := v_ok_P hv
  have h1 := v_tw_in hv (n := a) (by omega)
  have h2 := v_tw2_in hv (a := a) (n := b) h1.1 (by omega)
  have h3 := an_B_le (a + 1) (by omega)
  have h4 : an_B (a + 1) = an_B a + (6 - a) := rfl
  omega
def an_ah (s : an_T) (p : Nat) : Int := am_sumb s.1 (fun i => if (s.2 i).1 = p ∨ (s.2 i).2.1 = p then (s.2 i).2.2 else 0)
theorem an_ah_ps {s : an_T} {a b p : Nat} {x : Int} : an_ah (an_ps s a b x) p = an_ah s p + (if a = p ∨ b = p then x else 0) := by
  show am_sumb s.1 (fun i => if ((if i = s.1 then (a, b, x) else s.2 i)).1 = p ∨ ((if i = s.1 then (a, b, x) else s.2 i)).2.1 = p then ((if i = s.1 then (a, b, x) else s.2 i)).2.2 else 0) + (if ((if s.1 = s.1 then (a, b, x) else s.2 s.1)).1 = p ∨ ((if s.1 = s.1 then (a, b, x) else s.2 s.1)).2.1 = p then ((if s.1 = s.1 then (a, b, x) else s.2 s.1)).2.2 else 0) = _
  have e2 : (if s.1 = s.1 then (a, b, x) else s.2 s.1) = (a, b, x) := if_pos rfl
  rw [e2]
  congr 1
  refine am_sumb_eq (fun i hi => ?_)
  have e3 : (if i = s.1 then (a, b, x) else s.2 i) = s.2 i := if_neg (by omega)
  show (if ((if i = s.1 then (a, b, x) else s.2 i)).1 = p ∨ ((if i = s.1 then (a, b, x) else s.2 i)).2.1 = p then ((if i = s.1 then (a, b, x) else s.2 i)).2.2 else 0) = _
  rw [e3]
theorem an_ah_le {n : Nat} {s : an_T} (hs : an_tok n s) (h21 : s.1 ≤ 21) (p : Nat) : 0 ≤ an_ah s p ∧ an_ah s p ≤ 13440 := by
  have h1 := am_sumb_le (n := s.1) (g := fun i => if (s.2 i).1 = p ∨ (s.2 i).2.1 = p then (s.2 i).2.2 else 0) (A := 0) (B := 640) (fun k hk => by
    have h2 := hs k hk
    show 0 ≤ (if (s.2 k).1 = p ∨ (s.2 k).2.1 = p then (s.2 k).2.2 else 0) ∧ (if (s.2 k).1 = p ∨ (s.2 k).2.1 = p then (s.2 k).2.2 else 0) ≤ 640
    split <;> omega)
  unfold an_ah
  omega
/-- the class's Square holds these twos -/
def an_tc (g : Nat → Nat → Int) (s : an_T) : Prop := g 51 0 = (s.1 : Int) ∧ ∀ i, i < s.1 → g 52 i = ((s.2 i).1 : Int) ∧ g 53 i = ((s.2 i).2.1 : Int) ∧ g 54 i = (s.2 i).2.2
def an_tw (g : Nat → Nat → Int) (s : an_T) : Prop := an_tc g s ∧ ∀ p, p < 7 → g 56 p = an_ah s p
theorem am_up_n {h : Nat → Nat → Int} {a j i : Nat} {v : Int} (hij : ¬ i = j) : am_up h a j v a i = h a i := by
  unfold am_up
  rw [if_pos rfl, if_neg hij]
theorem am_up_y {h : Nat → Nat → Int} {a j : Nat} {v : Int} : am_up h a j v a j = v := by
  unfold am_up
  rw [if_pos rfl, if_pos rfl]
theorem sp_Square_addTwo {d L kp : Nat} {h : Nat → Nat → Int} {Q : Option am_V → am_H → Prop} {s : an_T} {a b : Nat} {x : Int} (hd : 2 ≤ d) (hs : an_tw h s) (hok : an_tok 7 s) (h21 : s.1 < 21) (hab : a < b) (hb : b < 7) (hx : 2 ≤ x ∧ x ≤ 640) (hq : ∀ g, am_keep h g → am_wv g 2 = am_wv h 2 → (am_led h → am_led g) → an_tw g (an_ps s a b x) → Q none (am_SH L, g, am_RR kp)) : am_Wp d 94 0 [some (Sum.inr (Sum.inr 51)), some (Sum.inl (a : Int)), some (Sum.inl (b : Int)), some (Sum.inl x)] [] (am_SH L, h, am_RR kp) Q := by
  obtain ⟨⟨t0, t1⟩, t2⟩ := hs
  have b1 := an_ah_le hok (by omega) a
  have b2 := an_ah_le hok (by omega) b
  have e56a : h 56 a = an_ah s a := t2 a (by omega)
  have e56b : h 56 b = an_ah s b := t2 b hb
  rw [bq_Square_addTwo_0 (by omega), t0, sp_put_52, am_put_nat h21]
  simp only [Option.toList_some, Option.toList_none, List.cons_append, List.nil_append]
  have f1 : am_up h 52 s.1 (a : Int) 51 0 = (s.1 : Int) := t0
  rw [bq_Square_addTwo_12 (by omega), f1, sp_put_53, am_put_nat h21]
  simp only [Option.toList_some, Option.toList_none, List.cons_append, List.nil_append]
  have f2 : am_up (am_up h 52 s.1 (a : Int)) 53 s.1 (b : Int) 51 0 = (s.1 : Int) := t0
  rw [bq_Square_addTwo_24 (by omega), f2, sp_put_54, am_put_nat h21]
  simp only [Option.toList_some, Option.toList_none, List.cons_append, List.nil_append]
  rw [bq_Square_addTwo_36 (by omega), sp_increase_56 (by omega)]
  simp only [Option.toList_some, Option.toList_none, List.cons_append, List.nil_append]
  rw [bq_Square_addTwo_45 (by omega), sp_increase_56 (by omega)]
  simp only [Option.toList_some, Option.toList_none, List.cons_append, List.nil_append]
  rw [bq_Square_addTwo_54, am_lk_nat (by omega), am_lk_nat (by omega), am_put_nat (by omega), am_put_nat (by omega)]
  have f3 : am_up (am_up (am_up h 52 s.1 (a : Int)) 53 s.1 (b : Int)) 54 s.1 x 56 a = an_ah s a := e56a
  rw [f3, am_add_ok (x := an_ah s a) (by omega) (by omega)]
  have f4 : am_up (am_up (am_up (am_up h 52 s.1 (a : Int)) 53 s.1 (b : Int)) 54 s.1 x) 56 a (an_ah s a + x) 56 b = an_ah s b := by
    rw [am_up_n (by omega)]
    exact e56b
  rw [f4, am_add_ok (x := an_ah s b) (by omega) (by omega)]
  have f5 : am_up (am_up (am_up (am_up (am_up h 52 s.1 (a : Int)) 53 s.1 (b : Int)) 54 s.1 x) 56 a (an_ah s a + x)) 56 b (an_ah s b + x) 51 0 = (s.1 : Int) := t0
  rw [f5, am_incn (by omega)]
  refine hq _ ?_ rfl (fun w => w) ⟨⟨rfl, fun i hi => ?_⟩, fun p hp => ?_⟩
  · exact am_keep_up rfl (am_keep_up rfl (am_keep_up rfl (am_keep_up rfl (am_keep_up rfl (am_keep_up rfl am_keep_r)))))
  · have hi2 : i < s.1 + 1 := hi
    show am_up h 52 s.1 (a : Int) 52 i = (((if i = s.1 then (a, b, x) else s.2 i).1 : Nat) : Int) ∧ am_up (am_up h 52 s.1 (a : Int)) 53 s.1 (b : Int) 53 i = (((if i = s.1 then (a, b, x) else s.2 i).2.1 : Nat) : Int) ∧ am_up (am_up (am_up h 52 s.1 (a : Int)) 53 s.1 (b : Int)) 54 s.1 x 54 i = (if i = s.1 then (a, b, x) else s.2 i).2.2
    by_cases q : i = s.1
    · rw [if_pos q, q, am_up_y, am_up_y, am_up_y]; exact ⟨rfl, rfl, rfl⟩
    · rw [if_neg q, am_up_n q, am_up_n q, am_up_n q]
      exact t1 i (by omega)
  · show am_up (am_up (am_up (am_up (am_up h 52 s.1 (a : Int)) 53 s.1 (b : Int)) 54 s.1 x) 56 a (an_ah s a + x)) 56 b (an_ah s b + x) 56 p = _
    rw [an_ah_ps]
    by_cases q1 : p = b
    · rw [q1, am_up_y, if_pos (Or.inr rfl)]
    · rw [am_up_n q1]
      by_cases q2 : p = a
      · rw [q2, am_up_y, if_pos (Or.inl rfl)]
      · rw [am_up_n q2, if_neg (fun w => by rcases w with w | w <;> omega), Int.add_zero]
        exact t2 p hp
theorem lp_Square_gather_i {d L kp : Nat} {h0 : Nat → Nat → Int} {V : am_Vw} {Q : Option am_V → am_H → Prop} {a : Nat} (hd : 3 ≤ d) (hv : v_ok V) (ha : a < (vP V).toNat) (K : ∀ j : (Nat → Nat → Int) × Option am_V × Option am_V, am_keep h0 j.1 ∧ am_wv j.1 2 = V ∧ am_led j.1 ∧ an_tw j.1 (v_tw V (a + 1)) → am_Wp d 93 15 [some (Sum.inr (Sum.inr 51)), some (Sum.inr (Sum.inr 42)), some (Sum.inl (((a + 1 : Nat) : Int))), some (Sum.inl ((((vP V).toNat : Nat) : Int))), j.2.1, j.2.2] [] (am_SH L, j.1, am_RR kp) Q) : ∀ j : (Nat → Nat → Int) × Option am_V × Option am_V, am_keep h0 j.1 ∧ am_wv j.1 2 = V ∧ am_led j.1 ∧ an_tw j.1 (v_tw V a) → am_Wp d 93 27 [some (Sum.inr (Sum.inr 51)), some (Sum.inr (Sum.inr 42)), some (Sum.inl ((a : Int))), some (Sum.inl (((a + 1 : Nat) : Int))), j.2.1, j.2.2] [] (am_SH L, j.1, am_RR kp) Q := by
  have hP := v_ok_P hv
  have h1 := am_im_fr (J := (Nat → Nat → Int) × Option am_V × Option am_V) (a := a + 1) (n := (vP V).toNat) (fun b j => am_keep h0 j.1 ∧ am_wv j.1 2 = V ∧ am_led j.1 ∧ an_tw j.1 (v_tw2 V a b (v_tw V a))) (fun b j => am_Wp d 93 27 [some (Sum.inr (Sum.inr 51)), some (Sum.inr (Sum.inr 42)), some (Sum.inl ((a : Int))), some (Sum.inl ((b : Int))), j.2.1, j.2.2] [] (am_SH L, j.1, am_RR kp) Q) (by omega) (fun b j hab hb hj ih => ?_) (fun j hj => ?_)
  · intro j hj
    refine h1 j ?_
    show am_keep h0 j.1 ∧ am_wv j.1 2 = V ∧ am_led j.1 ∧ an_tw j.1 (v_tw2 V a (a + 1) (v_tw V a))
    rw [v_tw2_0 (by omega)]
    exact hj
  · obtain ⟨g, j4, j5⟩ := j
    obtain ⟨k1, k2, k3, k4⟩ := hj
    dsimp only at k1 k2 k3 k4
    have hp : g 2 0 = vP V := congrArg vP k2
    have hvg : v_ok (am_wv g 2) := by rw [k2]; exact hv
    have i1 := v_tw_in hv (n := a) (by omega)
    have i2 := v_tw2_in hv (a := a) (n := b) i1.1 (by omega)
    have i3 := v_tw2_21 hv (a := a) (b := b) (by omega) hb
    have hok7 : an_tok 7 (v_tw2 V a b (v_tw V a)) := fun i hi => by have := i2.1 i hi; omega
    have b1 := v_owes_le hv (a : Int) (b : Int)
    have b2 := v_owes_le hv (b : Int) (a : Int)
    show am_Wp d 93 27 [some (Sum.inr (Sum.inr 51)), some (Sum.inr (Sum.inr 42)), some (Sum.inl ((a : Int))), some (Sum.inl ((b : Int))), j4, j5] [] (am_SH L, g, am_RR kp) Q
    rw [bq_Square_gather_27 (by omega), sp_Ledger_people, k3.1, hp]
    simp only [Option.toList_some, Option.toList_none, List.cons_append, List.nil_append]
    rw [bq_Square_gather_32 (by omega), if_neg (by omega), sp_Ledger_owed (by omega), am_led_own k3 (by omega) (by omega) (by omega) (by omega), k2]
    simp only [Option.toList_some, Option.toList_none, List.cons_append, List.nil_append]
    rw [bq_Square_gather_41 (by omega), sp_Ledger_owed (by omega), am_led_own k3 (by omega) (by omega) (by omega) (by omega), k2]
    simp only [Option.toList_some, Option.toList_none, List.cons_append, List.nil_append]
    rw [bq_Square_gather_49]
    have es := v_tw2_s (V := V) (a := a) (n := b) (s := v_tw V a)
    have r61 : 0 < v_owes V (a : Int) (b : Int) + v_owes V (b : Int) (a : Int) → am_Wp d 93 61 [some (Sum.inr (Sum.inr 51)), some (Sum.inr (Sum.inr 42)), some (Sum.inl ((a : Int))), some (Sum.inl ((b : Int))), some (Sum.inl (v_owes V (a : Int) (b : Int))), some (Sum.inl (v_owes V (b : Int) (a : Int)))] [] (am_SH L, g, am_RR kp) Q := fun w => by
      rw [if_pos ⟨by omega, w⟩] at es
      have em : am_max 2 (am_abs (am_sub (v_owes V (a : Int) (b : Int)) (v_owes V (b : Int) (a : Int)))) = v_mi V a b := by
        rw [am_sub_ok (by omega) (by omega), an_abs_ok (by omega) (by omega)]
        unfold v_mi am_max
        by_cases q : an_abs (v_owes V (a : Int) (b : Int) - v_owes V (b : Int) (a : Int)) < 2
        · rw [if_pos q, if_neg (by omega)]
        · rw [if_neg q]
          by_cases q2 : 2 < an_abs (v_owes V (a : Int) (b : Int) - v_owes V (b : Int) (a : Int))
          · rw [if_pos q2]
          · rw [if_neg q2]; omega
      rw [bq_Square_gather_61 (by omega), em]
      refine sp_Square_addTwo (by omega) k4 hok7 i3 (by omega) (by omega) (v_mi_le hv) (fun g2 m1 m2 m3 m4 => ?_)
      simp only [Option.toList_some, Option.toList_none, List.cons_append, List.nil_append]
      rw [bq_Square_gather_79, am_incn (by omega)]
      refine ih (g2, _, _) ⟨am_keep_t k1 m1, m2.trans k2, m3 k3, ?_⟩
      rw [es]
      exact m4
    by_cases q1 : 0 < v_owes V (a : Int) (b : Int)
    · rw [if_pos q1]; exact r61 (by omega)
    · rw [if_neg q1]
      by_cases q2 : v_owes V (b : Int) (a : Int) ≤ 0
      · rw [if_neg (fun w => by have := w.2; omega)] at es
        rw [if_pos q2, bq_Square_gather_79, am_incn (by omega)]
        refine ih (g, _, _) ⟨k1, k2, k3, ?_⟩
        rw [es]
        exact k4
      · rw [if_neg q2]; exact r61 (by omega)
  · obtain ⟨g, j4, j5⟩ := j
    obtain ⟨k1, k2, k3, k4⟩ := hj
    dsimp only at k1 k2 k3 k4
    have hp : g 2 0 = vP V := congrArg vP k2
    show am_Wp d 93 27 [some (Sum.inr (Sum.inr 51)), some (Sum.inr (Sum.inr 42)), some (Sum.inl ((a : Int))), some (Sum.inl ((((vP V).toNat : Nat) : Int))), j4, j5] [] (am_SH L, g, am_RR kp) Q
    rw [bq_Square_gather_27 (by omega), sp_Ledger_people, k3.1, hp]
    simp only [Option.toList_some, Option.toList_none, List.cons_append, List.nil_append]
    rw [bq_Square_gather_32 (by omega), if_pos (by omega), am_incn (by omega)]
    refine K (g, j4, j5) ⟨k1, k2, k3, ?_⟩
    rw [v_tw_s]
    exact k4
theorem lp_Square_gather {d L kp : Nat} {h0 : Nat → Nat → Int} {V : am_Vw} {Q : Option am_V → am_H → Prop} (hd : 3 ≤ d) (hv : v_ok V) (hq : ∀ g, am_keep h0 g → am_wv g 2 = V → am_led g → an_tw g (v_tw V (vP V).toNat) → Q none (am_SH L, g, am_RR kp)) : ∀ j : (Nat → Nat → Int) × Option am_V × Option am_V × Option am_V, am_keep h0 j.1 ∧ am_wv j.1 2 = V ∧ am_led j.1 ∧ an_tw j.1 (v_tw V 0) → am_Wp d 93 15 [some (Sum.inr (Sum.inr 51)), some (Sum.inr (Sum.inr 42)), some (Sum.inl (0)), j.2.1, j.2.2.1, j.2.2.2] [] (am_SH L, j.1, am_RR kp) Q := by
  have hP := v_ok_P hv
  refine am_im_fr (J := (Nat → Nat → Int) × Option am_V × Option am_V × Option am_V) (a := 0) (n := (vP V).toNat) (fun a j => am_keep h0 j.1 ∧ am_wv j.1 2 = V ∧ am_led j.1 ∧ an_tw j.1 (v_tw V a)) (fun a j => am_Wp d 93 15 [some (Sum.inr (Sum.inr 51)), some (Sum.inr (Sum.inr 42)), some (Sum.inl ((a : Int))), j.2.1, j.2.2.1, j.2.2.2] [] (am_SH L, j.1, am_RR kp) Q) (by omega) (fun a j _ ha hj ih => ?_) (fun j hj => ?_)
  · obtain ⟨g, j3, j4, j5⟩ := j
    obtain ⟨k1, k2, k3, k4⟩ := hj
    dsimp only at k1 k2 k3 k4
    have hp : g 2 0 = vP V := congrArg vP k2
    show am_Wp d 93 15 [some (Sum.inr (Sum.inr 51)), some (Sum.inr (Sum.inr 42)), some (Sum.inl ((a : Int))), j3, j4, j5] [] (am_SH L, g, am_RR kp) Q
    rw [bq_Square_gather_15 (by omega), sp_Ledger_people, k3.1, hp]
    simp only [Option.toList_some, Option.toList_none, List.cons_append, List.nil_append]
    rw [bq_Square_gather_20, if_neg (by omega), am_incn (by omega)]
    exact lp_Square_gather_i hd hv ha (fun j hj => ih (j.1, some (Sum.inl (((vP V).toNat : Nat) : Int)), j.2.1, j.2.2) hj) (g, j4, j5) ⟨k1, k2, k3, k4⟩
  · obtain ⟨g, j3, j4, j5⟩ := j
    obtain ⟨k1, k2, k3, k4⟩ := hj
    dsimp only at k1 k2 k3 k4
    have hp : g 2 0 = vP V := congrArg vP k2
    show am_Wp d 93 15 [some (Sum.inr (Sum.inr 51)), some (Sum.inr (Sum.inr 42)), some (Sum.inl ((((vP V).toNat : Nat) : Int))), j3, j4, j5] [] (am_SH L, g, am_RR kp) Q
    rw [bq_Square_gather_15 (by omega), sp_Ledger_people, k3.1, hp]
    simp only [Option.toList_some, Option.toList_none, List.cons_append, List.nil_append]
    rw [bq_Square_gather_20, if_pos (by omega)]
    exact hq g k1 k2 k3 k4
theorem sp_KO_gatherSquare {d L kp : Nat} {h : Nat → Nat → Int} {Q : Option am_V → am_H → Prop} (hd : 4 ≤ d) (hv : v_ok (am_wv h 2)) (hq : ∀ g, am_keep h g → am_wv g 2 = am_wv h 2 → an_tw g (v_tw (am_wv h 2) (h 2 0).toNat) → Q none (am_SH L, g, am_RR kp)) : am_Wp d 92 0 [some (Sum.inr (Sum.inr 1))] [] (am_SH L, h, am_RR kp) Q := by
  rw [bq_KO_gatherSquare_0 (by omega)]
  refine sp_Ledger_readI (by omega) hv (fun g k1 k2 k3 => ?_)
  simp only [Option.toList_some, Option.toList_none, List.cons_append, List.nil_append]
  rw [bq_KO_gatherSquare_11 (by omega), bq_Square_gather_0 (by omega), sp_fill_56]
  simp only [Option.toList_some, Option.toList_none, List.cons_append, List.nil_append]
  rw [bq_Square_gather_13]
  refine lp_Square_gather (h0 := h) (V := am_wv h 2) (by omega) hv (fun g2 m1 m2 _ m3 => ?_) (am_fill (am_up g 51 0 0) 56 7 0, none, none, none) ⟨?_, ?_, ?_, ⟨rfl, fun i hi => absurd hi (Nat.not_lt_zero i)⟩, fun p hp => ?_⟩
  · simp only [Option.toList_some, Option.toList_none, List.cons_append, List.nil_append]
    rw [bq_KO_gatherSquare_22]
    exact hq g2 m1 m2 m3
  · exact am_keep_fill (fun _ => rfl) (am_keep_up rfl k1)
  · exact k2
  · exact k3
  · show (if p < 7 then (0 : Int) else g 56 p) = 0
    rw [if_pos hp]