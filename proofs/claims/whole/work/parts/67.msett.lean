/-! SETTLED THROUGH, of the reference -/
def am_hs (B : Nat → Nat → Int) (s t : Int) : Nat → Nat → Int := am_up (am_up B 70 35 s) 70 36 t
theorem am_hs_u {B : Nat → Nat → Int} {s t s' t' : Int} : am_up (am_up (am_hs B s t) 70 35 s') 70 36 t' = am_hs B s' t' := by
  funext a j
  unfold am_hs am_up
  by_cases h1 : a = 70 <;> by_cases h2 : j = 36 <;> by_cases h3 : j = 35 <;> simp [h1, h2, h3]
def v_cur (V : am_Vw) (p : Int) (n : Nat) : Nat × Nat := am_for (fun a s => bif Nat.testBit s.1 a then s else (s.1 ||| v_cy V p a, if v_tak V (v_cy V p a) (vP V).toNat < v_giv V (v_cy V p a) (vP V).toNat then s.2 ||| v_cy V p a else s.2)) n (0, 0)
theorem v_cur_s {V : am_Vw} {p : Int} {n : Nat} : v_cur V p (n + 1) = bif Nat.testBit (v_cur V p n).1 n then v_cur V p n else ((v_cur V p n).1 ||| v_cy V p n, if v_tak V (v_cy V p n) (vP V).toNat < v_giv V (v_cy V p n) (vP V).toNat then (v_cur V p n).2 ||| v_cy V p n else (v_cur V p n).2) := rfl
theorem v_cur_1 {V : am_Vw} {p : Int} {n : Nat} : (v_cur V p n).1 = (v_set V p n).1 := by
  induction n with
  | zero => rfl
  | succ n ih =>
    rw [v_cur_s, v_set_s, ih]
    cases Nat.testBit (v_set V p n).1 n with
    | true => exact ih
    | false => rfl
theorem v_cur_lt {V : am_Vw} (hv : v_ok V) {p : Int} {n : Nat} (hn : (n : Int) ≤ vP V) : (v_cur V p n).2 < 2 ^ 7 := by
  induction n with
  | zero => exact (by decide : 0 < 2 ^ 7)
  | succ n ih =>
    have h1 := ih (by omega)
    rw [v_cur_s]
    cases Nat.testBit (v_cur V p n).1 n with
    | true => exact h1
    | false =>
      show (if v_tak V (v_cy V p n) (vP V).toNat < v_giv V (v_cy V p n) (vP V).toNat then (v_cur V p n).2 ||| v_cy V p n else (v_cur V p n).2) < 2 ^ 7
      split
      · exact Nat.or_lt_two_pow h1 (v_bm_lt hv (by omega))
      · exact h1
theorem v_cy_own {V : am_Vw} {p : Int} {a : Nat} : Nat.testBit (v_cy V p a) a = true := am_in_m (Nat.zero_le _) (am_in_0.2 rfl)
theorem v_cy_eq {V : am_Vw} {p : Int} {a b : Nat} (ha : (a : Int) < vP V) (h : Nat.testBit (v_cy V p a) b = true) : v_cy V p b = v_cy V p a := am_bm_eq (by omega) (fun _ _ => v_fm_lt) v_fm_sy h
/-- who is seen: all the companies of those below n -/
theorem v_set_tb {V : am_Vw} {p : Int} {n : Nat} {b : Nat} (hn : (n : Int) ≤ vP V) : Nat.testBit (v_set V p n).1 b = true ↔ ∃ a, a < n ∧ Nat.testBit (v_cy V p a) b = true := by
  induction n generalizing b with
  | zero =>
    constructor
    · intro h
      have h2 : Nat.testBit 0 b = true := h
      rw [Nat.zero_testBit] at h2; cases h2
    · rintro ⟨a, h, _⟩; omega
  | succ n ih =>
    have h1 := ih (b := b) (by omega)
    rw [v_set_s]
    cases hx : Nat.testBit (v_set V p n).1 n with
    | true =>
      show Nat.testBit (v_set V p n).1 b = true ↔ _
      rw [h1]
      constructor
      · rintro ⟨a, h2, h3⟩; exact ⟨a, by omega, h3⟩
      · rintro ⟨a, h2, h3⟩
        by_cases h4 : a = n
        · obtain ⟨c, h5, h6⟩ : ∃ a, a < n ∧ Nat.testBit (v_cy V p a) n = true := (ih (by omega)).1 hx
          refine ⟨c, h5, ?_⟩
          rw [← v_cy_eq (by omega) h6, ← h4]; exact h3
        · exact ⟨a, by omega, h3⟩
    | false =>
      show Nat.testBit ((v_set V p n).1 ||| v_cy V p n) b = true ↔ _
      rw [Nat.testBit_or, Bool.or_eq_true, h1]
      constructor
      · rintro (⟨a, h2, h3⟩ | h3)
        · exact ⟨a, by omega, h3⟩
        · exact ⟨n, by omega, h3⟩
      · rintro ⟨a, h2, h3⟩
        by_cases h4 : a = n
        · rw [h4] at h3; exact Or.inr h3
        · exact Or.inl ⟨a, by omega, h3⟩
theorem v_cut_tb {V : am_Vw} {p : Int} {n b : Nat} : Nat.testBit (v_cut V p n) b = true ↔ ∃ a, a < n ∧ v_tak V (v_cy V p a) (vP V).toNat < v_giv V (v_cy V p a) (vP V).toNat ∧ Nat.testBit (v_cy V p a) b = true := by
  induction n with
  | zero =>
    constructor
    · intro h
      have h2 : Nat.testBit 0 b = true := h
      rw [Nat.zero_testBit] at h2; cases h2
    · rintro ⟨a, h, _⟩; omega
  | succ n ih =>
    rw [v_cut_s]
    by_cases hx : v_tak V (v_cy V p n) (vP V).toNat < v_giv V (v_cy V p n) (vP V).toNat
    · rw [if_pos hx, Nat.testBit_or, Bool.or_eq_true, ih]
      constructor
      · rintro (⟨a, h2, h3⟩ | h3)
        · exact ⟨a, by omega, h3⟩
        · exact ⟨n, by omega, hx, h3⟩
      · rintro ⟨a, h2, h3, h5⟩
        by_cases h4 : a = n
        · rw [h4] at h5; exact Or.inr h5
        · exact Or.inl ⟨a, by omega, h3, h5⟩
    · rw [if_neg hx, ih]
      constructor
      · rintro ⟨a, h2, h3⟩; exact ⟨a, by omega, h3⟩
      · rintro ⟨a, h2, h3, h5⟩
        by_cases h4 : a = n
        · rw [h4] at h3; exact absurd h3 hx
        · exact ⟨a, by omega, h3, h5⟩
theorem v_cur_cut {V : am_Vw} {p : Int} {n : Nat} (hn : (n : Int) ≤ vP V) : (v_cur V p n).2 = v_cut V p n := by
  induction n with
  | zero => rfl
  | succ n ih =>
    have h1 := ih (by omega)
    rw [v_cur_s, v_cut_s, v_cur_1]
    cases hx : Nat.testBit (v_set V p n).1 n with
    | false =>
      show (if _ then (v_cur V p n).2 ||| v_cy V p n else (v_cur V p n).2) = _
      rw [h1]
    | true =>
      show (v_cur V p n).2 = _
      rw [h1]
      by_cases hy : v_tak V (v_cy V p n) (vP V).toNat < v_giv V (v_cy V p n) (vP V).toNat
      · rw [if_pos hy]
        obtain ⟨c, h5, h6⟩ := (v_set_tb (by omega)).1 hx
        have h7 := v_cy_eq (V := V) (p := p) (by omega) h6
        apply Nat.eq_of_testBit_eq
        intro b
        rw [Nat.testBit_or]
        cases h8 : Nat.testBit (v_cy V p n) b with
        | false => rw [Bool.or_false]
        | true =>
          rw [Bool.or_true]
          rw [h7] at h8 hy
          exact v_cut_tb.2 ⟨c, h5, hy, h8⟩
      · rw [if_neg hy]
theorem lp_M_settle_o {d L kp : Nat} {B : Nat → Nat → Int} {Q : Option am_V → am_H → Prop} {p : Nat} {y s t : Int} (j : Option am_V) {E : Prop} (hd : 3 ≤ d) (hv : v_ok (am_mv B)) (h92 : ∀ i, i < (B 70 0).toNat → B 92 i = ((v_cy (am_mv B) (-9) i : Nat) : Int)) (hp : p < (B 70 0).toNat) (hE : ∀ j : Option am_V, am_Wp d 232 51 [some (Sum.inr (Sum.inr 70)), some (Sum.inl (y)), some (Sum.inl ((p : Int))), some (Sum.inl (v_giv (am_mv B) (v_cy (am_mv B) (-9) p) (B 70 0).toNat)), some (Sum.inl (v_tak (am_mv B) (v_cy (am_mv B) (-9) p) (B 70 0).toNat)), some (Sum.inl ((((B 70 0).toNat : Nat) : Int))), j] [] (am_SH L, (am_hs B s t), am_RR kp) Q = E) : am_Wp d 232 51 [some (Sum.inr (Sum.inr 70)), some (Sum.inl (y)), some (Sum.inl ((p : Int))), some (Sum.inl (0)), some (Sum.inl (0)), some (Sum.inl (0)), j] [] (am_SH L, (am_hs B s t), am_RR kp) Q = E := by
  have hQ := mv_Q hv
  have hP := mv_P hv
  have hD := mv_D hv
  refine am_dn_fr (J := Option am_V) (a := 0) (n := (B 70 0).toNat) (fun e j => am_Wp d 232 51 [some (Sum.inr (Sum.inr 70)), some (Sum.inl (y)), some (Sum.inl ((p : Int))), some (Sum.inl (v_giv (am_mv B) (v_cy (am_mv B) (-9) p) e)), some (Sum.inl (v_tak (am_mv B) (v_cy (am_mv B) (-9) p) e)), some (Sum.inl ((e : Int))), j] [] (am_SH L, (am_hs B s t), am_RR kp) Q) E (by omega) (fun e _ he ih j => ?_) hE j
  have hvm : v_ok (am_mv (am_hs B s t)) := hv
  have e70 : am_hs B s t 70 0 = B 70 0 := rfl
  have e92 : am_hs B s t 92 ((p : Int)).toNat = (((v_cy (am_mv B) (-9) p) : Nat) : Int) := h92 p hp
  have lx : (v_cy (am_mv B) (-9) p) < 2 ^ 7 := v_bm_lt hv (by show (p : Int) < B 70 0; omega)
  have b1 := v_giv_le hv (x := (v_cy (am_mv B) (-9) p)) (n := e) (by omega)
  have b2 := v_tak_le hv (x := (v_cy (am_mv B) (-9) p)) (n := e) (by omega)
  have b3 := v_net_le hv (i := (e : Int)) (by omega)
  refine (bq_M_settle_51 (by omega)).trans ?_
  rw [e70, if_neg (by omega), am_gd (by omega) (by omega), e92, sp_M_hasBit (by omega) (by omega) (by omega) (by omega), am_has_tb (by omega) (by omega)]
  simp only [Option.toList_some, Option.toList_none, List.cons_append, List.nil_append]
  have i2 := fun z => ih (some (Sum.inl z))
  rw [v_giv_s, v_tak_s] at i2
  rw [bq_M_settle_71 (by omega)]
  revert i2
  cases Nat.testBit (v_cy (am_mv B) (-9) p) e with
  | false =>
    intro i2
    have i3 := i2 0
    simp only [cond_false, Int.add_zero] at i3
    rw [if_pos am_bif, bq_M_settle_84, if_pos (by omega), bq_M_settle_99, if_pos (by omega), bq_M_settle_114, am_incn (by omega), am_add_ok (by omega) (by omega), am_add_ok (by omega) (by omega), Int.add_zero, Int.add_zero]
    exact i3
  | true =>
    intro i2
    have i3 := i2 (v_net (am_mv B) (e : Int))
    simp only [cond_true] at i3
    have en' : v_net (am_mv (am_hs B s t)) (e : Int) = v_net (am_mv B) (e : Int) := rfl
    rw [if_neg am_b0, sp_M_netOf (by omega) hvm, en']
    simp only [Option.toList_some, Option.toList_none, List.cons_append, List.nil_append]
    rw [bq_M_settle_80, bq_M_settle_84]
    by_cases q1 : 0 ≤ v_net (am_mv B) (e : Int)
    · rw [if_neg (show ¬ v_net (am_mv B) (e : Int) < 0 by omega)] at i3
      rw [if_pos q1, bq_M_settle_99]
      by_cases q2 : v_net (am_mv B) (e : Int) ≤ 0
      · rw [if_neg (show ¬ 0 < v_net (am_mv B) (e : Int) by omega)] at i3
        rw [if_pos q2, bq_M_settle_114, am_incn (by omega), am_add_ok (by omega) (by omega), am_add_ok (by omega) (by omega)]
        exact i3
      · rw [if_pos (show 0 < v_net (am_mv B) (e : Int) by omega)] at i3
        rw [if_neg q2, bq_M_settle_114, am_incn (by omega), am_add_ok (by omega) (by omega), am_add_ok (by omega) (by omega)]
        exact i3
    · rw [if_pos (show v_net (am_mv B) (e : Int) < 0 by omega), if_neg (show ¬ 0 < v_net (am_mv B) (e : Int) by omega)] at i3
      rw [if_neg q1, bq_M_settle_99, if_pos (by omega), bq_M_settle_114, am_incn (by omega), am_neg_ok (by omega) (by omega), am_add_ok (by omega) (by omega), am_add_ok (by omega) (by omega)]
      exact i3
theorem lp_M_settle {d L kp : Nat} {B : Nat → Nat → Int} {Q : Option am_V → am_H → Prop} (j : Option am_V × Option am_V × Option am_V × Option am_V) (hd : 3 ≤ d) (hv : v_ok (am_mv B)) (h92 : ∀ i, i < (B 70 0).toNat → B 92 i = ((v_cy (am_mv B) (-9) i : Nat) : Int)) : am_Wp d 232 18 [some (Sum.inr (Sum.inr 70)), some (Sum.inl ((((v_set (am_mv B) (-9) 0).1 : Nat) : Int))), some (Sum.inl (0)), j.1, j.2.1, j.2.2.1, j.2.2.2] [] (am_SH L, (am_hs B (v_set (am_mv B) (-9) 0).2 (((v_cur (am_mv B) (-9) 0).2 : Nat) : Int)), am_RR kp) Q = Q none (am_SH L, (am_hs B (v_set (am_mv B) (-9) (B 70 0).toNat).2 (((v_cur (am_mv B) (-9) (B 70 0).toNat).2 : Nat) : Int)), am_RR kp) := by
  have hQ := mv_Q hv
  have hP := mv_P hv
  have hD := mv_D hv
  refine am_dn_eq (J := Option am_V × Option am_V × Option am_V × Option am_V) (n := (B 70 0).toNat) (fun a j => am_Wp d 232 18 [some (Sum.inr (Sum.inr 70)), some (Sum.inl ((((v_set (am_mv B) (-9) a).1 : Nat) : Int))), some (Sum.inl ((a : Int))), j.1, j.2.1, j.2.2.1, j.2.2.2] [] (am_SH L, (am_hs B (v_set (am_mv B) (-9) a).2 (((v_cur (am_mv B) (-9) a).2 : Nat) : Int)), am_RR kp) Q) (Q none (am_SH L, (am_hs B (v_set (am_mv B) (-9) (B 70 0).toNat).2 (((v_cur (am_mv B) (-9) (B 70 0).toNat).2 : Nat) : Int)), am_RR kp)) (fun a ha ih j => ?_) (fun j => ?_) j
  · have e70 : (am_hs B (v_set (am_mv B) (-9) a).2 (((v_cur (am_mv B) (-9) a).2 : Nat) : Int)) 70 0 = B 70 0 := rfl
    have e92 : (am_hs B (v_set (am_mv B) (-9) a).2 (((v_cur (am_mv B) (-9) a).2 : Nat) : Int)) 92 ((a : Int)).toNat = ((v_cy (am_mv B) (-9) a : Nat) : Int) := h92 a ha
    have b0 := v_set_le hv (p := -9) (n := a) (by show (a : Int) ≤ B 70 0; omega)
    have lx : v_cy (am_mv B) (-9) a < 2 ^ 7 := v_bm_lt hv (by show (a : Int) < B 70 0; omega)
    have lc := v_cur_lt hv (p := -9) (n := a) (by show (a : Int) ≤ B 70 0; omega)
    have b2 := v_mn_le hv (x := v_cy (am_mv B) (-9) a)
    refine (bq_M_settle_18 (by omega)).trans ?_
    rw [e70, if_neg (by omega), sp_M_hasBit (by omega) (by omega) (by omega) (by omega), am_has_tb (by omega) (by omega)]
    simp only [Option.toList_some, Option.toList_none, List.cons_append, List.nil_append]
    rw [bq_M_settle_31]
    rw [v_set_s, v_cur_s, v_cur_1] at ih
    revert ih
    cases hx : Nat.testBit (v_set (am_mv B) (-9) a).1 a with
    | true =>
      intro ih
      rw [if_neg am_b0, bq_M_settle_169, am_incn (by omega)]
      exact ih j
    | false =>
      intro ih
      simp only [cond_false] at ih
      rw [if_pos am_bif, am_gd (by omega) (by omega), e92, am_or_ok (by omega) (by omega)]
      refine lp_M_settle_o _ hd hv h92 ha (fun j' => ?_)
      have i2 := ih (some (Sum.inl (v_giv (am_mv B) (v_cy (am_mv B) (-9) a) (B 70 0).toNat)), some (Sum.inl (v_tak (am_mv B) (v_cy (am_mv B) (-9) a) (B 70 0).toNat)), some (Sum.inl (((B 70 0).toNat : Nat) : Int)), j')
      have e35 : (am_hs B (v_set (am_mv B) (-9) a).2 (((v_cur (am_mv B) (-9) a).2 : Nat) : Int)) 70 35 = (v_set (am_mv B) (-9) a).2 := rfl
      have e36 : ∀ v, (am_up (am_hs B (v_set (am_mv B) (-9) a).2 (((v_cur (am_mv B) (-9) a).2 : Nat) : Int)) 70 35 v) 70 36 = (((v_cur (am_mv B) (-9) a).2 : Nat) : Int) := fun v => rfl
      have f92 : ∀ v, (am_up (am_hs B (v_set (am_mv B) (-9) a).2 (((v_cur (am_mv B) (-9) a).2 : Nat) : Int)) 70 35 v) 92 ((a : Int)).toNat = ((v_cy (am_mv B) (-9) a : Nat) : Int) := fun v => h92 a ha
      have em : v_mn (am_mv B) (v_cy (am_mv B) (-9) a) = am_min (v_giv (am_mv B) (v_cy (am_mv B) (-9) a) (B 70 0).toNat) (v_tak (am_mv B) (v_cy (am_mv B) (-9) a) (B 70 0).toNat) := rfl
      have ep : vP (am_mv B) = B 70 0 := rfl
      rw [ep] at i2
      refine (bq_M_settle_51 (by omega)).trans ?_
      rw [e70, if_pos (by omega), e35]
      have e140 : ∀ z, z = v_mn (am_mv B) (v_cy (am_mv B) (-9) a) → am_Wp d 232 140 [some (Sum.inr (Sum.inr 70)), some (Sum.inl (((((v_set (am_mv B) (-9) a).1 ||| v_cy (am_mv B) (-9) a : Nat)) : Int))), some (Sum.inl ((a : Int))), some (Sum.inl (v_giv (am_mv B) (v_cy (am_mv B) (-9) a) (B 70 0).toNat)), some (Sum.inl (v_tak (am_mv B) (v_cy (am_mv B) (-9) a) (B 70 0).toNat)), some (Sum.inl ((((B 70 0).toNat : Nat) : Int))), j'] [Sum.inl z, Sum.inl (v_set (am_mv B) (-9) a).2, Sum.inr (Sum.inr 70)] (am_SH L, (am_hs B (v_set (am_mv B) (-9) a).2 (((v_cur (am_mv B) (-9) a).2 : Nat) : Int)), am_RR kp) Q = Q none (am_SH L, (am_hs B (v_set (am_mv B) (-9) (B 70 0).toNat).2 (((v_cur (am_mv B) (-9) (B 70 0).toNat).2 : Nat) : Int)), am_RR kp) := fun z hz => by
        rw [bq_M_settle_140, hz, am_add_ok (by omega) (by omega), e36]
        by_cases q1 : v_tak (am_mv B) (v_cy (am_mv B) (-9) a) (B 70 0).toNat < v_giv (am_mv B) (v_cy (am_mv B) (-9) a) (B 70 0).toNat
        · rw [if_pos q1] at i2
          rw [if_neg (by omega), am_gd (by omega) (by omega), f92, bq_M_settle_165, am_or_ok (by omega) (by omega), bq_M_settle_169, am_incn (by omega), am_hs_u]
          exact i2
        · rw [if_neg q1] at i2
          rw [if_pos (by omega), bq_M_settle_165, am_or_0 ⟨by omega, by omega⟩, bq_M_settle_169, am_incn (by omega), am_hs_u]
          exact i2
      by_cases q2 : v_tak (am_mv B) (v_cy (am_mv B) (-9) a) (B 70 0).toNat ≤ v_giv (am_mv B) (v_cy (am_mv B) (-9) a) (B 70 0).toNat
      · rw [if_pos q2]
        refine e140 _ ?_
        rw [em]
        unfold am_min
        by_cases q3 : v_tak (am_mv B) (v_cy (am_mv B) (-9) a) (B 70 0).toNat < v_giv (am_mv B) (v_cy (am_mv B) (-9) a) (B 70 0).toNat
        · rw [if_pos q3]
        · rw [if_neg q3]; omega
      · rw [if_neg q2]
        refine e140 _ ?_
        rw [em]
        unfold am_min
        rw [if_neg (by omega)]
  · have e70 : (am_hs B (v_set (am_mv B) (-9) (B 70 0).toNat).2 (((v_cur (am_mv B) (-9) (B 70 0).toNat).2 : Nat) : Int)) 70 0 = B 70 0 := rfl
    refine (bq_M_settle_18 (by omega)).trans ?_
    rw [e70, if_pos (by omega)]
theorem sp_M_settle {d L kp : Nat} {h : Nat → Nat → Int} {Q : Option am_V → am_H → Prop} (hd : 3 ≤ d) (hv : v_ok (am_mv h)) (hq : ∀ g, am_keep h g → (∀ a j, ¬ a = 70 → ¬ a = 92 → g a j = h a j) → (∀ j, ¬ j = 35 → ¬ j = 36 → g 70 j = h 70 j) → g 70 35 = (v_set (am_mv h) (-9) (h 70 0).toNat).2 → g 70 36 = ((v_cut (am_mv h) (-9) (h 70 0).toNat : Nat) : Int) → Q none (am_SH L, g, am_RR kp)) : am_Wp d 232 0 [some (Sum.inr (Sum.inr 70)), none, none, none, none, none, none] [] (am_SH L, h, am_RR kp) Q := by
  have hQ := mv_Q hv
  have hP := mv_P hv
  have hD := mv_D hv
  rw [bq_M_settle_0 (by omega)]
  refine sp_M_layCircles (by omega) hv ?_
  simp only [Option.toList_some, Option.toList_none, List.cons_append, List.nil_append]
  rw [bq_M_settle_4]
  have hB : v_ok (am_mv (an_arr h 92 (h 70 0).toNat (fun j => ((v_cy (am_mv h) (-9) j : Nat) : Int)))) := hv
  have eh : am_up (am_up (an_arr h 92 (h 70 0).toNat (fun j => ((v_cy (am_mv h) (-9) j : Nat) : Int))) 70 35 0) 70 36 0 = am_hs (an_arr h 92 (h 70 0).toNat (fun j => ((v_cy (am_mv h) (-9) j : Nat) : Int))) 0 0 := rfl
  rw [eh]
  refine (lp_M_settle (B := an_arr h 92 (h 70 0).toNat (fun j => ((v_cy (am_mv h) (-9) j : Nat) : Int))) (none, none, none, none) hd hB (fun i hi => ?_)).mpr ?_
  · have hi2 : i < (h 70 0).toNat := hi
    exact an_arr_i hi2
  · refine hq _ (am_keep_up rfl (am_keep_up rfl (am_keep_arr (fun _ => rfl) am_keep_r))) (fun a j h1 h2 => ?_) (fun j h1 h2 => ?_) rfl ?_
    · show am_up (am_up _ 70 35 _) 70 36 _ a j = _
      unfold am_up an_arr
      rw [if_neg h1, if_neg h1, if_neg h2]
    · show am_up (am_up _ 70 35 _) 70 36 _ 70 j = _
      unfold am_up
      rw [if_pos rfl, if_neg h2, if_pos rfl, if_neg h1]
      rfl
    · show (((v_cur (am_mv h) (-9) (h 70 0).toNat).2 : Nat) : Int) = _
      rw [v_cur_cut (by show (((h 70 0).toNat : Nat) : Int) ≤ h 70 0; omega)]