/-! THE SQUARE of the reference: its twos, an order done, the busiest -/
def an_tm (g : Nat → Nat → Int) (s : an_T) : Prop := g 70 37 = (s.1 : Int) ∧ ∀ i, i < s.1 → g 93 i = ((10 * (s.2 i).1 + (s.2 i).2.1 : Nat) : Int) ∧ g 94 i = (s.2 i).2.2
/-- what laying the twos leaves -/
def an_lt (h g : Nat → Nat → Int) : Prop := (∀ a j, ¬ a = 93 → ¬ a = 94 → ¬ (a = 70 ∧ j = 37) → g a j = h a j)
theorem an_lt_keep {h g : Nat → Nat → Int} (hl : an_lt h g) : am_keep h g := fun a j hr => hl a j (fun w => by rw [w] at hr; cases hr) (fun w => by rw [w] at hr; cases hr) (fun w => by rw [w.1, w.2] at hr; cases hr)
theorem an_lt_up {h g : Nat → Nat → Int} {m : Nat} {x y z : Int} (hl : an_lt h g) : an_lt h (am_up (am_up (am_up g 93 m x) 94 m y) 70 37 z) := by
  intro a j h1 h2 h3
  unfold am_up
  rw [if_neg h1, if_neg h2]
  by_cases q : a = 70
  · rw [if_pos q, if_neg (fun w => h3 ⟨q, w⟩)]
    exact hl a j h1 h2 h3
  · rw [if_neg q]
    exact hl a j h1 h2 h3
theorem lp_M_layTwos_i {d L kp : Nat} {h : Nat → Nat → Int} {Q : Option am_V → am_H → Prop} {a : Nat} (hd : 1 ≤ d) (hv : v_ok (am_mv h)) (ha : a < (h 70 0).toNat) (K : ∀ j : (Nat → Nat → Int) × Option am_V × Option am_V × Option am_V, an_lt h j.1 ∧ an_tm j.1 (v_tw (am_mv h) (a + 1)) → am_Wp d 236 7 [some (Sum.inr (Sum.inr 70)), some (Sum.inl (((a + 1 : Nat) : Int))), some (Sum.inl ((((h 70 0).toNat : Nat) : Int))), j.2.1, j.2.2.1, j.2.2.2] [] (am_SH L, j.1, am_RR kp) Q) : ∀ j : (Nat → Nat → Int) × Option am_V × Option am_V × Option am_V, an_lt h j.1 ∧ an_tm j.1 (v_tw (am_mv h) a) → am_Wp d 236 19 [some (Sum.inr (Sum.inr 70)), some (Sum.inl ((a : Int))), some (Sum.inl (((a + 1 : Nat) : Int))), j.2.1, j.2.2.1, j.2.2.2] [] (am_SH L, j.1, am_RR kp) Q := by
  have hQ := mv_Q hv
  have hP := mv_P hv
  have hD := mv_D hv
  have h1 := am_im_fr (J := (Nat → Nat → Int) × Option am_V × Option am_V × Option am_V) (a := a + 1) (n := (h 70 0).toNat) (fun b j => an_lt h j.1 ∧ an_tm j.1 (v_tw2 (am_mv h) a b (v_tw (am_mv h) a))) (fun b j => am_Wp d 236 19 [some (Sum.inr (Sum.inr 70)), some (Sum.inl ((a : Int))), some (Sum.inl ((b : Int))), j.2.1, j.2.2.1, j.2.2.2] [] (am_SH L, j.1, am_RR kp) Q) (by omega) (fun b j hab hb hj ih => ?_) (fun j hj => ?_)
  · intro j hj
    refine h1 j ?_
    show an_lt h j.1 ∧ an_tm j.1 (v_tw2 (am_mv h) a (a + 1) (v_tw (am_mv h) a))
    rw [v_tw2_0 (by omega)]
    exact hj
  · obtain ⟨g, j3, j4, j5⟩ := j
    obtain ⟨k1, k2, k3⟩ := hj
    dsimp only at k1 k2 k3
    have kk := an_lt_keep k1
    have e70 : g 70 0 = h 70 0 := kk 70 0 rfl
    have emv : am_mv g = (am_mv h) := am_keep_mv kk
    have hvg : v_ok (am_mv g) := by rw [emv]; exact hv
    have i1 := v_tw_in hv (n := a) (by show a ≤ (h 70 0).toNat; omega)
    have i2 := v_tw2_in hv (a := a) (n := b) i1.1 (by show b ≤ (h 70 0).toNat; omega)
    have i3 := v_tw2_21 hv (a := a) (b := b) (by omega) hb
    have b1 := v_owes_le hv (a : Int) (b : Int)
    have b2 := v_owes_le hv (b : Int) (a : Int)
    have es := v_tw2_s (V := (am_mv h)) (a := a) (n := b) (s := v_tw (am_mv h) a)
    generalize v_tw2 (am_mv h) a b (v_tw (am_mv h) a) = s at k2 k3 i2 i3 es
    show am_Wp d 236 19 [some (Sum.inr (Sum.inr 70)), some (Sum.inl ((a : Int))), some (Sum.inl ((b : Int))), j3, j4, j5] [] (am_SH L, g, am_RR kp) Q
    rw [bq_M_layTwos_19 (by omega), e70, if_neg (by omega), sp_M_owesOf hvg, emv]
    simp only [Option.toList_some, Option.toList_none, List.cons_append, List.nil_append]
    rw [bq_M_layTwos_33 (by omega), sp_M_owesOf hvg, emv]
    simp only [Option.toList_some, Option.toList_none, List.cons_append, List.nil_append]
    rw [bq_M_layTwos_40 (by omega), am_add_ok (by omega) (by omega)]
    by_cases q1 : v_owes (am_mv h) (a : Int) (b : Int) + v_owes (am_mv h) (b : Int) (a : Int) ≤ 0
    · rw [if_neg (fun w => by have := w.2; omega)] at es
      rw [if_pos q1, bq_M_layTwos_104, am_incn (by omega)]
      refine ih (g, _, _, _) ⟨k1, ?_⟩
      rw [es]
      exact ⟨k2, k3⟩
    · rw [if_pos ⟨by omega, by omega⟩] at es
      have ep : am_abs (v_owes (am_mv h) (a : Int) (b : Int) - v_owes (am_mv h) (b : Int) (a : Int)) = an_abs (v_owes (am_mv h) (a : Int) (b : Int) - v_owes (am_mv h) (b : Int) (a : Int)) := an_abs_ok (by omega) (by omega)
      have em : v_mi (am_mv h) a b = if an_abs (v_owes (am_mv h) (a : Int) (b : Int) - v_owes (am_mv h) (b : Int) (a : Int)) < 2 then 2 else an_abs (v_owes (am_mv h) (a : Int) (b : Int) - v_owes (am_mv h) (b : Int) (a : Int)) := rfl
      rw [if_neg q1, am_sub_ok (by omega) (by omega), sp_M_plainly (by omega) (by omega), ep]
      simp only [Option.toList_some, Option.toList_none, List.cons_append, List.nil_append]
      have e10 : am_add (am_mul 10 (a : Int)) (b : Int) = ((10 * a + b : Nat) : Int) := by rw [am_mul_ok (by omega) (by omega), am_add_ok (by omega) (by omega)]; push_cast; rfl
      have r93 : ∀ j5' : Option am_V, am_Wp d 236 93 [some (Sum.inr (Sum.inr 70)), some (Sum.inl ((a : Int))), some (Sum.inl ((b : Int))), some (Sum.inl (v_owes (am_mv h) (a : Int) (b : Int))), some (Sum.inl (v_owes (am_mv h) (b : Int) (a : Int))), j5'] [Sum.inl (v_mi (am_mv h) a b), Sum.inl (s.1 : Int), Sum.inr (Sum.inr 94)] (am_SH L, (am_up g 93 s.1 ((10 * a + b : Nat) : Int)), am_RR kp) Q := fun j5' => by
        have f37 : am_up (am_up g 93 s.1 ((10 * a + b : Nat) : Int)) 94 s.1 (v_mi (am_mv h) a b) 70 37 = (s.1 : Int) := k2
        rw [bq_M_layTwos_93, am_gd (by omega) (by omega), Int.toNat_natCast, f37, bq_M_layTwos_104, am_incn (by omega), am_incn (by omega)]
        refine ih (am_up (am_up (am_up g 93 s.1 ((10 * a + b : Nat) : Int)) 94 s.1 (v_mi (am_mv h) a b)) 70 37 ((s.1 + 1 : Nat) : Int), _, _, _) ⟨an_lt_up k1, ?_⟩
        rw [es]
        refine ⟨rfl, fun i hi => ?_⟩
        have hi2 : i < s.1 + 1 := hi
        show am_up g 93 s.1 ((10 * a + b : Nat) : Int) 93 i = ((10 * (if i = s.1 then (a, b, v_mi (am_mv h) a b) else s.2 i).1 + (if i = s.1 then (a, b, v_mi (am_mv h) a b) else s.2 i).2.1 : Nat) : Int) ∧ am_up (am_up g 93 s.1 ((10 * a + b : Nat) : Int)) 94 s.1 (v_mi (am_mv h) a b) 94 i = (if i = s.1 then (a, b, v_mi (am_mv h) a b) else s.2 i).2.2
        by_cases q : i = s.1
        · rw [if_pos q, q, am_up_y, am_up_y]; exact ⟨rfl, rfl⟩
        · rw [if_neg q, am_up_n q, am_up_n q]
          exact k3 i (by omega)
      have f0 : am_up g 93 s.1 ((10 * a + b : Nat) : Int) 70 37 = (s.1 : Int) := k2
      rw [bq_M_layTwos_56, k2, am_gd (by omega) (by omega), Int.toNat_natCast, e10, f0]
      by_cases q2 : an_abs (v_owes (am_mv h) (a : Int) (b : Int) - v_owes (am_mv h) (b : Int) (a : Int)) < 2
      · rw [if_pos q2] at em
        rw [if_neg (by omega)]
        have := r93 (some (Sum.inl (an_abs (v_owes (am_mv h) (a : Int) (b : Int) - v_owes (am_mv h) (b : Int) (a : Int)))))
        rw [em] at this
        exact this
      · rw [if_neg q2] at em
        rw [if_pos (by omega)]
        have := r93 (some (Sum.inl (an_abs (v_owes (am_mv h) (a : Int) (b : Int) - v_owes (am_mv h) (b : Int) (a : Int)))))
        rw [em] at this
        exact this
  · obtain ⟨g, j3, j4, j5⟩ := j
    obtain ⟨k1, k2⟩ := hj
    dsimp only at k1 k2
    have e70 : g 70 0 = h 70 0 := an_lt_keep k1 70 0 rfl
    show am_Wp d 236 19 [some (Sum.inr (Sum.inr 70)), some (Sum.inl ((a : Int))), some (Sum.inl ((((h 70 0).toNat : Nat) : Int))), j3, j4, j5] [] (am_SH L, g, am_RR kp) Q
    rw [bq_M_layTwos_19 (by omega), e70, if_pos (by omega), am_incn (by omega)]
    refine K (g, j3, j4, j5) ⟨k1, ?_⟩
    rw [v_tw_s]
    exact k2
theorem sp_M_layTwos {d L kp : Nat} {h : Nat → Nat → Int} {Q : Option am_V → am_H → Prop} (hd : 1 ≤ d) (hv : v_ok (am_mv h)) (hq : ∀ g, an_lt h g → an_tm g (v_twos (am_mv h)) → Q none (am_SH L, g, am_RR kp)) : am_Wp d 236 0 [some (Sum.inr (Sum.inr 70)), none, none, none, none, none] [] (am_SH L, h, am_RR kp) Q := by
  have hQ := mv_Q hv
  have hP := mv_P hv
  have hD := mv_D hv
  have h1 := am_im_fr (J := (Nat → Nat → Int) × Option am_V × Option am_V × Option am_V × Option am_V) (a := 0) (n := (h 70 0).toNat) (fun a j => an_lt h j.1 ∧ an_tm j.1 (v_tw (am_mv h) a)) (fun a j => am_Wp d 236 7 [some (Sum.inr (Sum.inr 70)), some (Sum.inl ((a : Int))), j.2.1, j.2.2.1, j.2.2.2.1, j.2.2.2.2] [] (am_SH L, j.1, am_RR kp) Q) (by omega) (fun a j _ ha hj ih => ?_) (fun j hj => ?_)
  · rw [bq_M_layTwos_0]
    refine h1 (am_up h 70 37 0, none, none, none, none) ⟨fun a j h1 h2 h3 => ?_, rfl, fun i hi => absurd hi (Nat.not_lt_zero i)⟩
    show (if a = 70 then (if j = 37 then 0 else h a j) else h a j) = h a j
    by_cases q : a = 70
    · rw [if_pos q, if_neg (fun w => h3 ⟨q, w⟩)]
    · rw [if_neg q]
  · obtain ⟨g, j2, j3, j4, j5⟩ := j
    obtain ⟨k1, k2⟩ := hj
    dsimp only at k1 k2
    have e70 : g 70 0 = h 70 0 := an_lt_keep k1 70 0 rfl
    show am_Wp d 236 7 [some (Sum.inr (Sum.inr 70)), some (Sum.inl ((a : Int))), j2, j3, j4, j5] [] (am_SH L, g, am_RR kp) Q
    rw [bq_M_layTwos_7, e70, if_neg (by omega), am_incn (by omega)]
    exact lp_M_layTwos_i hd hv ha (fun j hj => ih (j.1, some (Sum.inl (((h 70 0).toNat : Nat) : Int)), j.2.1, j.2.2.1, j.2.2.2) hj) (g, j3, j4, j5) ⟨k1, k2⟩
  · obtain ⟨g, j2, j3, j4, j5⟩ := j
    obtain ⟨k1, k2⟩ := hj
    dsimp only at k1 k2
    have e70 : g 70 0 = h 70 0 := an_lt_keep k1 70 0 rfl
    show am_Wp d 236 7 [some (Sum.inr (Sum.inr 70)), some (Sum.inl ((((h 70 0).toNat : Nat) : Int))), j2, j3, j4, j5] [] (am_SH L, g, am_RR kp) Q
    rw [bq_M_layTwos_7, e70, if_pos (by omega)]
    exact hq g k1 k2
theorem sp_M_doneBy {d L kp : Nat} {h : Nat → Nat → Int} {Q : Option am_V → am_H → Prop} {s : an_T} {ord : Nat → Nat} (hd : 1 ≤ d) (ht : an_tm h s) (hok : an_tok 7 s) (h21 : s.1 ≤ 21) (ho : ∀ i, i < s.1 → h 95 i = (ord i : Int) ∧ ord i < s.1) : am_Wp d 238 0 [some (Sum.inr (Sum.inr 70)), none, none, none, none, none] [] (am_SH L, h, am_RR kp) Q = Q (some (Sum.inl (an_sc s.2 ord s.1).2)) (am_SH L, (an_arr h 96 7 (an_sc s.2 ord s.1).1), am_RR kp) := by
  rw [bq_M_doneBy_0]
  have h1 := am_up_eq (n := 7) (fun k => am_Wp d 238 4 [some (Sum.inr (Sum.inr 70)), some (Sum.inl (0)), some (Sum.inl ((k : Int))), none, none, none] [] (am_SH L, (an_arr h 96 k (fun _ => 0)), am_RR kp) Q) (am_Wp d 238 4 [some (Sum.inr (Sum.inr 70)), some (Sum.inl (0)), some (Sum.inl (((7 : Nat) : Int))), none, none, none] [] (am_SH L, (an_arr h 96 7 (fun _ => 0)), am_RR kp) Q) (fun k hk => ?_) rfl
  · have e0 : an_arr h 96 0 (fun _ => 0) = h := an_arr_0
    rw [e0] at h1
    refine h1.trans ?_
    rw [bq_M_doneBy_4, if_pos (by omega)]
    refine am_dn_fr (J := Option am_V × Option am_V × Option am_V) (a := 0) (n := s.1) (fun t j => am_Wp d 238 25 [some (Sum.inr (Sum.inr 70)), some (Sum.inl ((an_sc s.2 ord t).2)), some (Sum.inl ((t : Int))), j.1, j.2.1, j.2.2] [] (am_SH L, (an_arr h 96 7 (an_sc s.2 ord t).1), am_RR kp) Q) (Q (some (Sum.inl (an_sc s.2 ord s.1).2)) (am_SH L, (an_arr h 96 7 (an_sc s.2 ord s.1).1), am_RR kp)) (by omega) (fun i _ hi ih j => ?_) (fun j => ?_) (none, none, none)
    · have hle := an_sc_le (T := s.2) (ord := ord) (n := s.1) (m := 7) hok (fun i hi => (ho i hi).2) i (by omega)
      have hoi := ho i hi
      have h2 := hok (ord i) hoi.2
      have h3 := ht.2 (ord i) hoi.2
      have e37 : (an_arr h 96 7 (an_sc s.2 ord i).1) 70 37 = (s.1 : Int) := ht.1
      have e95 : (an_arr h 96 7 (an_sc s.2 ord i).1) 95 ((i : Int)).toNat = (ord i : Int) := hoi.1
      have e93 : (an_arr h 96 7 (an_sc s.2 ord i).1) 93 (((ord i : Nat) : Int)).toNat = ((10 * (s.2 (ord i)).1 + (s.2 (ord i)).2.1 : Nat) : Int) := h3.1
      have e94 : (an_arr h 96 7 (an_sc s.2 ord i).1) 94 (((ord i : Nat) : Int)).toNat = (s.2 (ord i)).2.2 := h3.2
      have ediv : am_div ((10 * (s.2 (ord i)).1 + (s.2 (ord i)).2.1 : Nat) : Int) 10 = ((s.2 (ord i)).1 : Int) := by rw [am_div_ok (by omega) (by omega) (by omega) (by omega)]; omega
      have erem : am_rem ((10 * (s.2 (ord i)).1 + (s.2 (ord i)).2.1 : Nat) : Int) 10 = ((s.2 (ord i)).2.1 : Int) := by rw [am_rem_ok (by omega) (by omega) (by omega) (by omega)]; omega
      have ea : (an_arr h 96 7 (an_sc s.2 ord i).1) 96 (((s.2 (ord i)).1 : Int)).toNat = (an_sc s.2 ord i).1 (s.2 (ord i)).1 := an_arr_i (by omega)
      have eb : (an_arr h 96 7 (an_sc s.2 ord i).1) 96 (((s.2 (ord i)).2.1 : Int)).toNat = (an_sc s.2 ord i).1 (s.2 (ord i)).2.1 := an_arr_i (by omega)
      have es := an_sc_s (T := s.2) (ord := ord) (n := i)
      have ih3 : ∀ j1 j2 j3 : Option am_V, am_Wp d 238 25 [some (Sum.inr (Sum.inr 70)), some (Sum.inl ((an_sc s.2 ord (i + 1)).2)), some (Sum.inl (((i + 1 : Nat) : Int))), j1, j2, j3] [] (am_SH L, (an_arr h 96 7 (an_sc s.2 ord (i + 1)).1), am_RR kp) Q = Q (some (Sum.inl (an_sc s.2 ord s.1).2)) (am_SH L, (an_arr h 96 7 (an_sc s.2 ord s.1).1), am_RR kp) := fun j1 j2 j3 => ih (j1, j2, j3)
      rw [es] at ih3
      have ba := hle.1 (s.2 (ord i)).1
      have bb := hle.1 (s.2 (ord i)).2.1
      have bm := an_max_le ba bb
      refine (bq_M_doneBy_25).trans ?_
      rw [e37, if_neg (by omega)]
      simp only [e95, e93, ediv, erem, ea, eb]
      have g1 : (0 ≤ (i : Int) ∧ (i : Int) < 21) = True := eq_true (by omega)
      have g2 : (0 ≤ (ord i : Int) ∧ (ord i : Int) < 21) = True := eq_true (by omega)
      have g3 : (0 ≤ ((s.2 (ord i)).1 : Int) ∧ ((s.2 (ord i)).1 : Int) < 7) = True := eq_true (by omega)
      have g4 : (0 ≤ ((s.2 (ord i)).2.1 : Int) ∧ ((s.2 (ord i)).2.1 : Int) < 7) = True := eq_true (by omega)
      simp only [g1, g2, g3, g4, true_and]
      have r96 : ∀ z, z = am_max ((an_sc s.2 ord i).1 (s.2 (ord i)).1) ((an_sc s.2 ord i).1 (s.2 (ord i)).2.1) → am_Wp d 238 96 [some (Sum.inr (Sum.inr 70)), some (Sum.inl ((an_sc s.2 ord i).2)), some (Sum.inl ((i : Int))), some (Sum.inl (((s.2 (ord i)).1 : Int))), some (Sum.inl (((s.2 (ord i)).2.1 : Int))), j.2.2] [Sum.inl z] (am_SH L, (an_arr h 96 7 (an_sc s.2 ord i).1), am_RR kp) Q = Q (some (Sum.inl (an_sc s.2 ord s.1).2)) (am_SH L, (an_arr h 96 7 (an_sc s.2 ord s.1).1), am_RR kp) := fun z hz => by
        rw [bq_M_doneBy_96]
        simp only [e95, e94, g1, g2, g3, g4, true_and]
        have ez : am_add z (s.2 (ord i)).2.2 = an_dn s.2 (ord i) (an_sc s.2 ord i).1 := by
          rw [hz, am_add_ok (by omega) (by omega)]; rfl
        have eh : am_up (am_up (an_arr h 96 7 (an_sc s.2 ord i).1) 96 (((s.2 (ord i)).1 : Int)).toNat (an_dn s.2 (ord i) (an_sc s.2 ord i).1)) 96 (((s.2 (ord i)).2.1 : Int)).toNat (an_dn s.2 (ord i) (an_sc s.2 ord i).1) = (an_arr h 96 7 (an_fs s.2 (ord i) (an_sc s.2 ord i).1)) := by
          rw [Int.toNat_natCast, Int.toNat_natCast, an_arr_u (by omega), an_arr_u (by omega)]
          rfl
        rw [ez, eh]
        simp only [bq_M_doneBy_139]
        rw [am_incn (by omega)]
        have em : am_max (an_sc s.2 ord i).2 (an_dn s.2 (ord i) (an_sc s.2 ord i).1) = if (an_sc s.2 ord i).2 < an_dn s.2 (ord i) (an_sc s.2 ord i).1 then an_dn s.2 (ord i) (an_sc s.2 ord i).1 else (an_sc s.2 ord i).2 := rfl
        rw [em] at ih3
        by_cases q : (an_sc s.2 ord i).2 < an_dn s.2 (ord i) (an_sc s.2 ord i).1
        · rw [if_neg (by omega)]
          have i3 := ih3 (some (Sum.inl ((s.2 (ord i)).1 : Int))) (some (Sum.inl ((s.2 (ord i)).2.1 : Int))) (some (Sum.inl (an_dn s.2 (ord i) (an_sc s.2 ord i).1)))
          rw [if_pos q] at i3
          exact i3
        · rw [if_pos (by omega)]
          have i3 := ih3 (some (Sum.inl ((s.2 (ord i)).1 : Int))) (some (Sum.inl ((s.2 (ord i)).2.1 : Int))) (some (Sum.inl (an_dn s.2 (ord i) (an_sc s.2 ord i).1)))
          rw [if_neg q] at i3
          exact i3
      by_cases q : (an_sc s.2 ord i).1 (s.2 (ord i)).1 ≤ (an_sc s.2 ord i).1 (s.2 (ord i)).2.1
      · rw [if_pos q]
        refine r96 _ ?_
        unfold am_max
        by_cases q2 : (an_sc s.2 ord i).1 (s.2 (ord i)).1 < (an_sc s.2 ord i).1 (s.2 (ord i)).2.1
        · rw [if_pos q2]
        · rw [if_neg q2]; omega
      · rw [if_neg q]
        refine r96 _ ?_
        unfold am_max
        rw [if_neg (by omega)]
    · have e37 : (an_arr h 96 7 (an_sc s.2 ord s.1).1) 70 37 = (s.1 : Int) := ht.1
      refine (bq_M_doneBy_25).trans ?_
      rw [e37, if_pos (by omega)]
  · refine (bq_M_doneBy_4).trans ?_
    have eg := an_arr_g (h := h) (A := 96) (n := k) (c := fun _ => 0)
    rw [if_neg (by omega), am_gd (by omega) (by omega), am_incn (by omega), Int.toNat_natCast, ← eg]
theorem lp_M_busiest_i {d L kp : Nat} {h : Nat → Nat → Int} {Q : Option am_V → am_H → Prop} {s : an_T} {p : Nat} {x1 x2 : Int} (hd : 1 ≤ d) (ht : an_tm h s) (hok : an_tok 7 s) (h21 : s.1 ≤ 21) : am_Wp d 243 30 [some (Sum.inr (Sum.inr 70)), some (Sum.inl (x1)), some (Sum.inl (x2)), some (Sum.inl ((p : Int))), some (Sum.inl (0)), some (Sum.inl (0))] [] (am_SH L, h, am_RR kp) Q = am_Wp d 243 30 [some (Sum.inr (Sum.inr 70)), some (Sum.inl (x1)), some (Sum.inl (x2)), some (Sum.inl ((p : Int))), some (Sum.inl (an_ah s p)), some (Sum.inl ((s.1 : Int)))] [] (am_SH L, h, am_RR kp) Q := by
  refine am_up_eq (n := s.1) (fun i => am_Wp d 243 30 [some (Sum.inr (Sum.inr 70)), some (Sum.inl (x1)), some (Sum.inl (x2)), some (Sum.inl ((p : Int))), some (Sum.inl ((am_sumb i (fun i => if (s.2 i).1 = p ∨ (s.2 i).2.1 = p then (s.2 i).2.2 else 0)))), some (Sum.inl ((i : Int)))] [] (am_SH L, h, am_RR kp) Q) (am_Wp d 243 30 [some (Sum.inr (Sum.inr 70)), some (Sum.inl (x1)), some (Sum.inl (x2)), some (Sum.inl ((p : Int))), some (Sum.inl (an_ah s p)), some (Sum.inl ((s.1 : Int)))] [] (am_SH L, h, am_RR kp) Q) (fun i hi => ?_) rfl
  have h2 := hok i hi
  have h3 := ht.2 i hi
  have b1 := am_sumb_le (n := i) (g := fun i => if (s.2 i).1 = p ∨ (s.2 i).2.1 = p then (s.2 i).2.2 else 0) (A := 0) (B := 640) (fun k hk => by
    have h2 := hok k (by omega)
    show 0 ≤ (if (s.2 k).1 = p ∨ (s.2 k).2.1 = p then (s.2 k).2.2 else 0) ∧ (if (s.2 k).1 = p ∨ (s.2 k).2.1 = p then (s.2 k).2.2 else 0) ≤ 640
    split <;> omega)
  have e93 : h 93 ((i : Int)).toNat = ((10 * (s.2 i).1 + (s.2 i).2.1 : Nat) : Int) := h3.1
  have e94 : h 94 ((i : Int)).toNat = (s.2 i).2.2 := h3.2
  have ediv : am_div ((10 * (s.2 i).1 + (s.2 i).2.1 : Nat) : Int) 10 = ((s.2 i).1 : Int) := by rw [am_div_ok (by omega) (by omega) (by omega) (by omega)]; omega
  have erem : am_rem ((10 * (s.2 i).1 + (s.2 i).2.1 : Nat) : Int) 10 = ((s.2 i).2.1 : Int) := by rw [am_rem_ok (by omega) (by omega) (by omega) (by omega)]; omega
  have g1 : (0 ≤ (i : Int) ∧ (i : Int) < 21) = True := eq_true (by omega)
  refine (bq_M_busiest_30).trans ?_
  rw [ht.1, if_neg (by omega)]
  simp only [e93, ediv, erem, g1, true_and]
  have r69 : ((s.2 i).1 = p ∨ (s.2 i).2.1 = p) → am_Wp d 243 69 [some (Sum.inr (Sum.inr 70)), some (Sum.inl (x1)), some (Sum.inl (x2)), some (Sum.inl ((p : Int))), some (Sum.inl ((am_sumb i (fun i => if (s.2 i).1 = p ∨ (s.2 i).2.1 = p then (s.2 i).2.2 else 0)))), some (Sum.inl ((i : Int)))] [Sum.inl (am_sumb i (fun i => if (s.2 i).1 = p ∨ (s.2 i).2.1 = p then (s.2 i).2.2 else 0))] (am_SH L, h, am_RR kp) Q = am_Wp d 243 30 [some (Sum.inr (Sum.inr 70)), some (Sum.inl (x1)), some (Sum.inl (x2)), some (Sum.inl ((p : Int))), some (Sum.inl ((am_sumb (i + 1) (fun i => if (s.2 i).1 = p ∨ (s.2 i).2.1 = p then (s.2 i).2.2 else 0)))), some (Sum.inl (((i + 1 : Nat) : Int)))] [] (am_SH L, h, am_RR kp) Q := fun w => by
    rw [bq_M_busiest_69, e94, g1, true_and, bq_M_busiest_80, am_incn (by omega), am_sumb_s, if_pos w, am_add_ok (by omega) (by omega)]
  by_cases q1 : ((s.2 i).1 : Int) = (p : Int)
  · rw [if_pos q1]; exact r69 (Or.inl (by omega))
  · rw [if_neg q1]
    by_cases q2 : ((s.2 i).2.1 : Int) = (p : Int)
    · rw [if_pos q2]; exact r69 (Or.inr (by omega))
    · rw [if_neg q2, bq_M_busiest_80, am_incn (by omega), am_sumb_s, if_neg (fun w => by rcases w with w | w <;> omega), am_add_ok (by omega) (by omega)]
theorem m_busiest {d L kp : Nat} {h : Nat → Nat → Int} (hd : 2 ≤ d) (hv : v_ok (am_mv h)) : am_An L 81 (a_busiest (am_mv h)) h (fun Q => am_Wp d 243 0 [some (Sum.inr (Sum.inr 70)), none, none, none, none, none] [] (am_SH L, h, am_RR kp) Q) := by
  have hQ := mv_Q hv
  have hP := mv_P hv
  have hD := mv_D hv
  intro Q hq
  have hq2 : ∀ g' kq, am_keep (am_up h 70 13 0) g' → Q (some (a_busiest (am_mv h)).1) (am_SH L, am_bump 81 (a_busiest (am_mv h)).2 g', am_RR kq) := fun g' kq hk => hq g' kq (am_keep_t (am_keep_up rfl am_keep_r) hk)
  clear hq
  have hv2 : v_ok (am_mv (am_up h 70 13 0)) := hv
  try rw [show am_mv h = am_mv (am_up h 70 13 0) from rfl] at hq2
  show am_Wp d 243 0 [some (Sum.inr (Sum.inr 70)), none, none, none, none, none] [] (am_SH L, h, am_RR kp) Q
  refine (show _ = _ from bq_M_busiest_0 (by omega)).mpr ?_
  clear hv hQ hP hD
  generalize am_up h 70 13 0 = g at hq2 hv2 ⊢
  have hv := hv2
  have hQ := mv_Q hv2
  have hP := mv_P hv
  have hD := mv_D hv
  refine sp_M_layTwos (by omega) hv (fun f k1 k2 => ?_)
  have kk := an_lt_keep k1
  have e70 : f 70 0 = g 70 0 := kk 70 0 rfl
  have hk := v_twos_ok hv
  have h3 := hq2 f kp kk
  unfold a_busiest at h3
  have h4 : Q (some (Sum.inl ((v_bsy (v_twos (am_mv g)) (g 70 0).toNat).1))) (am_SH L, f, am_RR kp) := h3
  simp only [Option.toList_some, Option.toList_none, List.cons_append, List.nil_append]
  rw [bq_M_busiest_9]
  generalize v_twos (am_mv g) = s at k2 hk h4
  refine (am_dn_fr (J := Option am_V × Option am_V) (a := 0) (n := (g 70 0).toNat) (fun p j => am_Wp d 243 16 [some (Sum.inr (Sum.inr 70)), some (Sum.inl ((v_bsy s p).1)), some (Sum.inl ((v_bsy s p).2)), some (Sum.inl ((p : Int))), j.1, j.2] [] (am_SH L, f, am_RR kp) Q) (Q (some (Sum.inl ((v_bsy s (g 70 0).toNat).1))) (am_SH L, f, am_RR kp)) (by omega) (fun p _ hp ih j => ?_) (fun j => ?_) (none, none)).mpr h4
  · have ih3 : ∀ j1 j2 : Option am_V, am_Wp d 243 16 [some (Sum.inr (Sum.inr 70)), some (Sum.inl ((v_bsy s (p + 1)).1)), some (Sum.inl ((v_bsy s (p + 1)).2)), some (Sum.inl (((p + 1 : Nat) : Int))), j1, j2] [] (am_SH L, f, am_RR kp) Q = Q (some (Sum.inl ((v_bsy s (g 70 0).toNat).1))) (am_SH L, f, am_RR kp) := fun j1 j2 => ih (j1, j2)
    rw [v_bsy_s] at ih3
    refine (bq_M_busiest_16).trans ?_
    rw [e70, if_neg (by omega), lp_M_busiest_i (by omega) k2 hk.2.1 hk.2.2, bq_M_busiest_30, k2.1, if_pos (by omega)]
    simp only [bq_M_busiest_100, bq_M_busiest_113]
    rw [am_incn (by omega)]
    by_cases q : (v_bsy s p).2 < an_ah s p
    · rw [if_pos q] at ih3
      rw [if_neg (by omega), if_neg (by omega)]
      exact ih3 _ _
    · rw [if_neg q] at ih3
      rw [if_pos (by omega), if_pos (by omega)]
      exact ih3 _ _
  · refine (bq_M_busiest_16).trans ?_
    rw [e70, if_pos (by omega)]