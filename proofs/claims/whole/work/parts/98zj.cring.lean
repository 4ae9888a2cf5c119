/-! THE CLASS'S RING -/
def r_E (V : am_Vw) (a b : Nat) : Prop := 0 < v_owes V (a : Int) (b : Int)
theorem r_E_ex {V : am_Vw} {a b : Nat} (h : r_E V a b) : ∃ p, p < (vQ V).toNat ∧ vT V p = 0 ∧ vO V p = (a : Int) ∧ vH V p = (b : Int) := by
  refine Classical.byContradiction fun w => ?_
  have e : v_owes V (a : Int) (b : Int) = 0 := (am_sumb_eq (f := fun _ => 0) (fun p hp => if_neg (fun q => w ⟨p, hp, q.1, q.2.1, q.2.2⟩))).trans am_sumb_0
  unfold r_E at h
  omega
theorem r_E_lt {V : am_Vw} (hv : v_ok V) {a b : Nat} (h : r_E V a b) : a < (vP V).toNat ∧ b < (vP V).toNat := by
  obtain ⟨p, h1, h2, h3, h4⟩ := r_E_ex h
  have h5 := v_ok_q hv p (by omega)
  omega
theorem r_E_ne {V : am_Vw} (hn : v_nl V) (a : Nat) : ¬ r_E V a a := fun h => by
  obtain ⟨p, h1, h2, h3, h4⟩ := r_E_ex h
  exact hn p (by omega) h2 (by rw [h3, h4])
theorem am_min_1 {x y : Int} : am_min x y ≤ x ∧ am_min x y ≤ y ∧ (am_min x y = x ∨ am_min x y = y) := by
  unfold am_min
  split <;> omega
theorem sp_Ring_stepsFrom {d L kp : Nat} {h : Nat → Nat → Int} {Q : Option am_V → am_H → Prop} {a b : Nat} (hd : 1 ≤ d) (ha : a < 7) (hb : b < 7) : am_Wp d 142 0 [some (Sum.inr (Sum.inr 63)), some (Sum.inl (a : Int)), some (Sum.inl (b : Int))] [] (am_SH L, h, am_RR kp) Q = Q (some (Sum.inl (h 64 (7 * a + b)))) (am_SH L, h, am_RR kp) := by
  rw [bq_Ring_stepsFrom_0 (by omega), am_mul_ok (by omega) (by omega), am_add_ok (by omega) (by omega), show 7 * (a : Int) + (b : Int) = ((7 * a + b : Nat) : Int) by omega, sp_at_64, am_lk_nat (by omega)]
  simp only [Option.toList_some, Option.toList_none, List.cons_append, List.nil_append]
  rw [bq_Ring_stepsFrom_13]
def r_in (V : am_Vw) (x : Nat) : Int := if v_owes V ((x / 7 : Nat) : Int) ((x % 7 : Nat) : Int) ≤ 0 then 1000000 else 1
theorem r_in_i {V : am_Vw} {a b : Nat} (hb : b < 7) : r_in V (7 * a + b) = if v_owes V (a : Int) (b : Int) ≤ 0 then 1000000 else 1 := by
  unfold r_in
  rw [show (7 * a + b) / 7 = a by omega, show (7 * a + b) % 7 = b by omega]
theorem lp_Ring_m1 {d L kp : Nat} {h : Nat → Nat → Int} {Q : Option am_V → am_H → Prop} (hd : 2 ≤ d) (hl : am_led h) : am_Wp d 141 0 [some (Sum.inr (Sum.inr 63)), some (Sum.inr (Sum.inr 42)), none, none, none, none] [] (am_SH L, h, am_RR kp) Q = am_Wp d 141 58 [some (Sum.inr (Sum.inr 63)), some (Sum.inr (Sum.inr 42)), some (Sum.inl (0)), some (Sum.inl (((7 : Nat) : Int))), none, none] [] (am_SH L, an_arr h 64 49 (r_in (am_wv h 2)), am_RR kp) Q := by
  rw [bq_Ring_measure_0]
  have row : ∀ (i : Nat) (j : Option am_V), i < 7 → am_Wp d 141 2 [some (Sum.inr (Sum.inr 63)), some (Sum.inr (Sum.inr 42)), some (Sum.inl (i : Int)), j, none, none] [] (am_SH L, an_arr h 64 (7 * i) (r_in (am_wv h 2)), am_RR kp) Q = am_Wp d 141 2 [some (Sum.inr (Sum.inr 63)), some (Sum.inr (Sum.inr 42)), some (Sum.inl (((i + 1 : Nat) : Int))), some (Sum.inl (((7 : Nat) : Int))), none, none] [] (am_SH L, an_arr h 64 (7 * (i + 1)) (r_in (am_wv h 2)), am_RR kp) Q := fun i j hi => by
    rw [bq_Ring_measure_2, if_neg (by omega)]
    have k2 := am_up_fr (a := 0) (n := 7) (fun b => am_Wp d 141 10 [some (Sum.inr (Sum.inr 63)), some (Sum.inr (Sum.inr 42)), some (Sum.inl ((i : Int))), some (Sum.inl ((b : Int))), none, none] [] (am_SH L, an_arr h 64 (7 * i + b) (r_in (am_wv h 2)), am_RR kp) Q) (am_Wp d 141 2 [some (Sum.inr (Sum.inr 63)), some (Sum.inr (Sum.inr 42)), some (Sum.inl (((i + 1 : Nat) : Int))), some (Sum.inl (((7 : Nat) : Int))), none, none] [] (am_SH L, an_arr h 64 (7 * (i + 1)) (r_in (am_wv h 2)), am_RR kp) Q) (by omega) (fun b h1 h2 => ?_) ?_
    · exact k2
    · show am_Wp d 141 10 [some (Sum.inr (Sum.inr 63)), some (Sum.inr (Sum.inr 42)), some (Sum.inl ((i : Int))), some (Sum.inl ((b : Int))), none, none] [] (am_SH L, an_arr h 64 (7 * i + b) (r_in (am_wv h 2)), am_RR kp) Q = am_Wp d 141 10 [some (Sum.inr (Sum.inr 63)), some (Sum.inr (Sum.inr 42)), some (Sum.inl ((i : Int))), some (Sum.inl (((b + 1 : Nat) : Int))), none, none] [] (am_SH L, an_arr h 64 (7 * i + (b + 1)) (r_in (am_wv h 2)), am_RR kp) Q
      have hl2 : am_led (an_arr h 64 (7 * i + b) (r_in (am_wv h 2))) := hl
      have eo := am_led_own hl2 (i := (i : Int)) (e := (b : Int)) (by omega) (by omega) (by omega) (by omega)
      have eo2 : am_lk (an_arr h 64 (7 * i + b) (r_in (am_wv h 2)) 43) 49 (am_add (am_mul 7 (i : Int)) (b : Int)) = v_owes (am_wv h 2) (i : Int) (b : Int) := eo
      have ei : am_add (am_mul 7 (i : Int)) (b : Int) = ((7 * i + b : Nat) : Int) := by rw [am_mul_ok (by omega) (by omega), am_add_ok (by omega) (by omega)]; omega
      have fin : ∀ x : Int, x = r_in (am_wv h 2) (7 * i + b) → am_Wp d 141 41 [some (Sum.inr (Sum.inr 63)), some (Sum.inr (Sum.inr 42)), some (Sum.inl (i : Int)), some (Sum.inl (b : Int)), none, none] [Sum.inl x, Sum.inl ((7 * i + b : Nat) : Int), Sum.inr (Sum.inr 64)] (am_SH L, an_arr h 64 (7 * i + b) (r_in (am_wv h 2)), am_RR kp) Q = am_Wp d 141 10 [some (Sum.inr (Sum.inr 63)), some (Sum.inr (Sum.inr 42)), some (Sum.inl ((i : Int))), some (Sum.inl (((b + 1 : Nat) : Int))), none, none] [] (am_SH L, an_arr h 64 (7 * i + (b + 1)) (r_in (am_wv h 2)), am_RR kp) Q := fun x hx => by
        rw [bq_Ring_measure_41 (by omega), sp_put_64, am_put_nat (by omega), hx, an_arr_g]
        simp only [Option.toList_some, Option.toList_none, List.cons_append, List.nil_append]
        rw [bq_Ring_measure_44, am_incn (by omega)]
        rfl
      refine (bq_Ring_measure_10 (by omega)).trans ?_
      rw [if_neg (by omega), sp_Ledger_owed (by omega), eo2, ei]
      simp only [Option.toList_some, Option.toList_none, List.cons_append, List.nil_append]
      rw [bq_Ring_measure_32]
      by_cases q : v_owes (am_wv h 2) (i : Int) (b : Int) ≤ 0
      · rw [if_pos q]
        exact fin _ (by rw [r_in_i h2, if_pos q])
      · rw [if_neg q]
        exact fin _ (by rw [r_in_i h2, if_neg q])
    · show am_Wp d 141 10 [some (Sum.inr (Sum.inr 63)), some (Sum.inr (Sum.inr 42)), some (Sum.inl ((i : Int))), some (Sum.inl (((7 : Nat) : Int))), none, none] [] (am_SH L, an_arr h 64 (7 * i + 7) (r_in (am_wv h 2)), am_RR kp) Q = _
      refine (bq_Ring_measure_10 (by omega)).trans ?_
      rw [if_pos (by omega), am_incn (by omega)]
      rfl
  have k3 := am_dn_fr (J := Option am_V) (a := 0) (n := 7) (fun i j => am_Wp d 141 2 [some (Sum.inr (Sum.inr 63)), some (Sum.inr (Sum.inr 42)), some (Sum.inl (i : Int)), (if i = 0 then none else some (Sum.inl ((7 : Nat) : Int))), none, none] [] (am_SH L, an_arr h 64 (7 * i) (r_in (am_wv h 2)), am_RR kp) Q) (am_Wp d 141 58 [some (Sum.inr (Sum.inr 63)), some (Sum.inr (Sum.inr 42)), some (Sum.inl (0)), some (Sum.inl (((7 : Nat) : Int))), none, none] [] (am_SH L, an_arr h 64 49 (r_in (am_wv h 2)), am_RR kp) Q) (by omega) (fun i h1 h2 ih j => ?_) (fun j => ?_) none
  · have k4 : am_Wp d 141 2 [some (Sum.inr (Sum.inr 63)), some (Sum.inr (Sum.inr 42)), some (Sum.inl (0)), none, none, none] [] (am_SH L, an_arr h 64 0 (r_in (am_wv h 2)), am_RR kp) Q = _ := k3
    rw [an_arr_0] at k4
    exact k4
  · have ih2 := ih none
    rw [if_neg (by omega)] at ih2
    exact (row i _ h2).trans ih2
  · show am_Wp d 141 2 [some (Sum.inr (Sum.inr 63)), some (Sum.inr (Sum.inr 42)), some (Sum.inl ((7 : Nat) : Int)), (if 7 = 0 then none else some (Sum.inl ((7 : Nat) : Int))), none, none] [] (am_SH L, an_arr h 64 (7 * 7) (r_in (am_wv h 2)), am_RR kp) Q = _
    rw [if_neg (by omega), bq_Ring_measure_2, if_pos (by omega)]
def r_fr (h g : Nat → Nat → Int) : Prop := ∀ c j, ¬ c = 64 → g c j = h c j
theorem r_fr_c {h g : Nat → Nat → Int} (hf : r_fr h g) {c : Nat} (hc : ¬ c = 64) : g c = h c := funext fun j => hf c j hc
theorem r_fr_u {h g : Nat → Nat → Int} {i : Nat} {v : Int} (hf : r_fr h g) : r_fr h (am_up g 64 i v) := fun c j hc => (am_upo hc).trans (hf c j hc)
theorem r_snd_in {V : am_Vw} : ∀ s : Nat → Int, (∀ a b, a < 7 → b < 7 → s (7 * a + b) = if v_owes V (a : Int) (b : Int) ≤ 0 then 1000000 else 1) → r_snd (r_E V) s ∧ r_cpl (r_E V) 0 s := by
  intro s hs
  refine ⟨fun i j hi hj => ?_, r_cpl_0 (fun i j hi hj he => ?_)⟩
  · rw [hs i j hi hj]
    by_cases q : v_owes V (i : Int) (j : Int) ≤ 0
    · rw [if_pos q]; omega
    · rw [if_neg q]
      exact ⟨by omega, by omega, fun _ => r_R_1 (show 0 < v_owes V (i : Int) (j : Int) by omega)⟩
  · have he2 : 0 < v_owes V (i : Int) (j : Int) := he
    rw [hs i j hi hj, if_neg (by omega)]; omega
/-- one more is looked at -/
theorem r_upd {E : Nat → Nat → Prop} {s : Nat → Int} {i j B : Nat} (hi : i < 7) (hj : j < 7) (hB : B < 7) (hs : r_snd E s) : r_snd E (am_sx s (7 * i + j) (am_min (s (7 * i + j)) (s (7 * i + B) + s (7 * B + j)))) ∧ ∀ a b, a < 7 → b < 7 → am_sx s (7 * i + j) (am_min (s (7 * i + j)) (s (7 * i + B) + s (7 * B + j))) (7 * a + b) ≤ s (7 * a + b) := by
  obtain ⟨m1, m2, m3⟩ := am_min_1 (x := s (7 * i + j)) (y := s (7 * i + B) + s (7 * B + j))
  obtain ⟨x1, x2, x3⟩ := hs i j hi hj
  obtain ⟨y1, y2, y3⟩ := hs i B hi hB
  obtain ⟨z1, z2, z3⟩ := hs B j hB hj
  refine ⟨fun a b ha hb => ?_, fun a b ha hb => ?_⟩
  · by_cases q : 7 * a + b = 7 * i + j
    · have qa : a = i := by omega
      have qb : b = j := by omega
      subst qa; subst qb
      rw [am_sx_e]
      rcases m3 with m3 | m3
      · rw [m3]; exact ⟨x1, x2, x3⟩
      · refine ⟨by omega, by omega, fun w => ?_⟩
        rw [m3] at w ⊢
        have h1 := r_R_c (y3 (by omega)) (z3 (by omega))
        rw [show (s (7 * a + B)).toNat + (s (7 * B + b)).toNat = (s (7 * a + B) + s (7 * B + b)).toNat by omega] at h1
        exact h1
    · rw [am_sx_n q]; exact hs a b ha hb
  · by_cases q : 7 * a + b = 7 * i + j
    · rw [q, am_sx_e]; exact m1
    · rw [am_sx_n q]; exact Int.le_refl _
theorem sp_Ring_measure {d L kp : Nat} {h : Nat → Nat → Int} {Q : Option am_V → am_H → Prop} {P : Nat} (hd : 2 ≤ d) (hv : v_ok (am_wv h 2)) (hl : am_led h) (hP : h 2 0 = (P : Int)) (hq : ∀ g, r_fr h g → r_snd (r_E (am_wv h 2)) (g 64) → r_cpl (r_E (am_wv h 2)) P (g 64) → Q none (am_SH L, g, am_RR kp)) : am_Wp d 141 0 [some (Sum.inr (Sum.inr 63)), some (Sum.inr (Sum.inr 42)), none, none, none, none] [] (am_SH L, h, am_RR kp) Q := by
  have hP7 : P ≤ 7 := by have := (wv_P hv).2; omega
  have h42 : h 42 2 = (P : Int) := hl.1.trans hP
  have hlt : ∀ a b, r_E (am_wv h 2) a b → a < P ∧ b < P := fun a b hab => by
    have h1 := r_E_lt hv hab
    have e : (vP (am_wv h 2)).toNat = P := by rw [show vP (am_wv h 2) = (P : Int) from hP]; exact Int.toNat_natCast P
    rw [e] at h1; exact h1
  rw [lp_Ring_m1 hd hl]
  have h0 : r_snd (r_E (am_wv h 2)) (an_arr h 64 49 (r_in (am_wv h 2)) 64) ∧ r_cpl (r_E (am_wv h 2)) 0 (an_arr h 64 49 (r_in (am_wv h 2)) 64) := r_snd_in _ (fun a b ha hb => by
    rw [an_arr_i (by omega), r_in_i hb])
  refine am_im_fr (J := (Nat → Nat → Int) × Option am_V × Option am_V × Option am_V) (a := 0) (n := P) (fun B j => r_fr h j.1 ∧ r_snd (r_E (am_wv h 2)) (j.1 64) ∧ r_cpl (r_E (am_wv h 2)) B (j.1 64)) (fun B j => am_Wp d 141 58 [some (Sum.inr (Sum.inr 63)), some (Sum.inr (Sum.inr 42)), some (Sum.inl (B : Int)), j.2.1, j.2.2.1, j.2.2.2] [] (am_SH L, j.1, am_RR kp) Q) (by omega) (fun B j h1 h2 hi ih => ?_) (fun j hi => ?_) (an_arr h 64 49 (r_in (am_wv h 2)), some (Sum.inl ((7 : Nat) : Int)), none, none) ⟨fun c j hc => ?_, h0.1, h0.2⟩
  · obtain ⟨g, a, b, c⟩ := j
    obtain ⟨i1, i2, i3⟩ := hi
    have e42 : g 42 2 = (P : Int) := (i1 42 2 (by omega)).trans h42
    dsimp only at i1 i2 i3 ⊢
    rw [bq_Ring_measure_58 (by omega), sp_Ledger_people, e42]
    simp only [Option.toList_some, Option.toList_none, List.cons_append, List.nil_append]
    rw [bq_Ring_measure_63, if_neg (by omega)]
    refine am_im_fr (J := (Nat → Nat → Int) × Option am_V × Option am_V) (a := 0) (n := P) (fun i j => r_fr h j.1 ∧ r_snd (r_E (am_wv h 2)) (j.1 64) ∧ (∀ x y, x < 7 → y < 7 → j.1 64 (7 * x + y) ≤ g 64 (7 * x + y)) ∧ (∀ x y, x < i → y < P → j.1 64 (7 * x + y) ≤ g 64 (7 * x + B) + g 64 (7 * B + y))) (fun i j => am_Wp d 141 68 [some (Sum.inr (Sum.inr 63)), some (Sum.inr (Sum.inr 42)), some (Sum.inl (B : Int)), some (Sum.inl (i : Int)), j.2.1, j.2.2] [] (am_SH L, j.1, am_RR kp) Q) (by omega) (fun i j h3 h4 hi2 ih2 => ?_) (fun j hi2 => ?_) (g, b, c) ⟨i1, i2, fun x y _ _ => Int.le_refl _, fun x y hx => absurd hx (by omega)⟩
    · obtain ⟨g2, b2, c2⟩ := j
      obtain ⟨k1, k2, k3, k4⟩ := hi2
      have f42 : g2 42 2 = (P : Int) := (k1 42 2 (by omega)).trans h42
      dsimp only at k1 k2 k3 k4 ⊢
      rw [bq_Ring_measure_68 (by omega), sp_Ledger_people, f42]
      simp only [Option.toList_some, Option.toList_none, List.cons_append, List.nil_append]
      rw [bq_Ring_measure_73, if_neg (by omega)]
      refine am_im_fr (J := (Nat → Nat → Int) × Option am_V) (a := 0) (n := P) (fun y j => r_fr h j.1 ∧ r_snd (r_E (am_wv h 2)) (j.1 64) ∧ (∀ x y, x < 7 → y < 7 → j.1 64 (7 * x + y) ≤ g 64 (7 * x + y)) ∧ (∀ x y, x < i → y < P → j.1 64 (7 * x + y) ≤ g 64 (7 * x + B) + g 64 (7 * B + y)) ∧ (∀ z, z < y → j.1 64 (7 * i + z) ≤ g 64 (7 * i + B) + g 64 (7 * B + z))) (fun y j => am_Wp d 141 79 [some (Sum.inr (Sum.inr 63)), some (Sum.inr (Sum.inr 42)), some (Sum.inl (B : Int)), some (Sum.inl (i : Int)), some (Sum.inl (y : Int)), j.2] [] (am_SH L, j.1, am_RR kp) Q) (by omega) (fun y j h5 h6 hi3 ih3 => ?_) (fun j hi3 => ?_) (g2, c2) ⟨k1, k2, k3, k4, fun z hz => absurd hz (by omega)⟩
      · obtain ⟨g3, c3⟩ := j
        obtain ⟨l1, l2, l3, l4, l5⟩ := hi3
        have d42 : g3 42 2 = (P : Int) := (l1 42 2 (by omega)).trans h42
        dsimp only at l1 l2 l3 l4 l5 ⊢
        obtain ⟨x1, x2, -⟩ := l2 i y (by omega) (by omega)
        obtain ⟨y1, y2, -⟩ := l2 i B (by omega) (by omega)
        obtain ⟨z1, z2, -⟩ := l2 B y (by omega) (by omega)
        have ei : am_add (am_mul 7 (i : Int)) (y : Int) = ((7 * i + y : Nat) : Int) := by rw [am_mul_ok (by omega) (by omega), am_add_ok (by omega) (by omega)]; omega
        obtain ⟨u1, u2⟩ := r_upd (i := i) (j := y) (B := B) (by omega) (by omega) (by omega) l2
        obtain ⟨m1, m2, -⟩ := am_min_1 (x := g3 64 (7 * i + y)) (y := g3 64 (7 * i + B) + g3 64 (7 * B + y))
        rw [bq_Ring_measure_79 (by omega), sp_Ledger_people, d42]
        simp only [Option.toList_some, Option.toList_none, List.cons_append, List.nil_append]
        rw [bq_Ring_measure_85 (by omega), if_neg (by omega), sp_Ring_stepsFrom (by omega) (by omega) (by omega)]
        simp only [Option.toList_some, Option.toList_none, List.cons_append, List.nil_append]
        rw [bq_Ring_measure_94 (by omega), sp_Ring_stepsFrom (by omega) (by omega) (by omega)]
        simp only [Option.toList_some, Option.toList_none, List.cons_append, List.nil_append]
        rw [bq_Ring_measure_101 (by omega), sp_Ring_stepsFrom (by omega) (by omega) (by omega), am_add_ok (x := g3 64 (7 * i + B)) (by omega) (by omega), ei]
        simp only [Option.toList_some, Option.toList_none, List.cons_append, List.nil_append]
        rw [bq_Ring_measure_122 (by omega), sp_put_64, am_put_nat (by omega)]
        simp only [Option.toList_some, Option.toList_none, List.cons_append, List.nil_append]
        rw [bq_Ring_measure_130, am_incn (by omega)]
        refine ih3 (am_up g3 64 (7 * i + y) (am_min (g3 64 (7 * i + y)) (g3 64 (7 * i + B) + g3 64 (7 * B + y))), some (Sum.inl (g3 64 (7 * i + B) + g3 64 (7 * B + y)))) ⟨r_fr_u l1, u1, fun a b ha hb => Int.le_trans (u2 a b ha hb) (l3 a b ha hb), fun a b ha hb => Int.le_trans (u2 a b (by omega) (by omega)) (l4 a b ha hb), fun z hz => ?_⟩
        by_cases q : z = y
        · subst q
          refine Int.le_trans (show am_sx (g3 64) (7 * i + z) _ (7 * i + z) ≤ _ by rw [am_sx_e]; exact m2) ?_
          have n1 := l3 i B (by omega) (by omega)
          have n2 := l3 B z (by omega) (by omega)
          omega
        · exact Int.le_trans (u2 i z (by omega) (by omega)) (l5 z (by omega))
      · obtain ⟨g3, c3⟩ := j
        obtain ⟨l1, l2, l3, l4, l5⟩ := hi3
        have d42 : g3 42 2 = (P : Int) := (l1 42 2 (by omega)).trans h42
        dsimp only at l1 l2 l3 l4 l5 ⊢
        rw [bq_Ring_measure_79 (by omega), sp_Ledger_people, d42]
        simp only [Option.toList_some, Option.toList_none, List.cons_append, List.nil_append]
        rw [bq_Ring_measure_85 (by omega), if_pos (by omega), am_incn (by omega)]
        refine ih2 (g3, some (Sum.inl (P : Int)), c3) ⟨l1, l2, l3, fun a b ha hb => ?_⟩
        by_cases q : a = i
        · rw [q]; exact l5 b hb
        · exact l4 a b (by omega) hb
    · obtain ⟨g2, b2, c2⟩ := j
      obtain ⟨k1, k2, k3, k4⟩ := hi2
      have f42 : g2 42 2 = (P : Int) := (k1 42 2 (by omega)).trans h42
      dsimp only at k1 k2 k3 k4 ⊢
      rw [bq_Ring_measure_68 (by omega), sp_Ledger_people, f42]
      simp only [Option.toList_some, Option.toList_none, List.cons_append, List.nil_append]
      rw [bq_Ring_measure_73, if_pos (by omega), am_incn (by omega)]
      refine ih (g2, some (Sum.inl (P : Int)), b2, c2) ⟨k1, k2, r_step (fun a b hab => by have := hlt a b hab; omega) i3 (by omega) k3 (fun a b ⟨x, hx⟩ ⟨y, hy⟩ => k4 a b (hlt _ _ hx).1 (hlt _ _ hy).2)⟩
  · obtain ⟨g, a, b, c⟩ := j
    obtain ⟨i1, i2, i3⟩ := hi
    have e42 : g 42 2 = (P : Int) := (i1 42 2 (by omega)).trans h42
    dsimp only at i1 i2 i3 ⊢
    rw [bq_Ring_measure_58 (by omega), sp_Ledger_people, e42]
    simp only [Option.toList_some, Option.toList_none, List.cons_append, List.nil_append]
    rw [bq_Ring_measure_63, if_pos (by omega)]
    exact hq g i1 i2 i3
  · show (if c = 64 then _ else h c j) = h c j
    exact if_neg hc