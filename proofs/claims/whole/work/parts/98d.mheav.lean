/-! HEAVIEST of the reference -/
def v_gm (V : am_Vw) (p : Nat) : Nat := if p < 16 then 2 ^ (vH V p).toNat else 0
theorem v_gm_lt {V : am_Vw} (hv : v_ok V) (p : Nat) : v_gm V p < 2 ^ 14 := by
  unfold v_gm
  by_cases q : p < 16
  · rw [if_pos q]
    have := (v_ok_p hv p q).2.1
    exact Nat.pow_lt_pow_right (by omega) (by omega)
  · rw [if_neg q]; exact Nat.two_pow_pos 14
theorem v_qm_i {V : am_Vw} (hv : v_ok V) {x p a b : Nat} (hp : p < 16) (ha : vO V p = (a : Int)) (hb : vH V p = (b : Int)) : an_or (v_qm V) (x % 2 ^ p) &&& v_qm V p = 0 ↔ (Nat.testBit (an_or (v_hm V) (x % 2 ^ p)) a = false ∧ Nat.testBit (an_or (v_gm V) (x % 2 ^ p)) b = false) := by
  have eh : ∀ k, k < 16 → ∀ t, Nat.testBit (v_hm V k) t = true ↔ (vO V k).toNat = t := fun k hk t => by
    unfold v_hm; rw [if_pos hk, an_p2_in]
  have eg : ∀ k, k < 16 → ∀ t, Nat.testBit (v_gm V k) t = true ↔ (vH V k).toNat = t := fun k hk t => by
    unfold v_gm; rw [if_pos hk, an_p2_in]
  have eq : ∀ k, k < 16 → ∀ t, Nat.testBit (v_qm V k) t = true ↔ ((vO V k).toNat = t ∨ 7 + (vH V k).toNat = t) := fun k hk t => by
    unfold v_qm; rw [if_pos hk, Nat.testBit_or, Bool.or_eq_true, an_p2_in, an_p2_in]
  constructor
  · intro h
    refine ⟨?_, ?_⟩
    · cases hs : Nat.testBit (an_or (v_hm V) (x % 2 ^ p)) a with
      | false => rfl
      | true =>
        obtain ⟨k, k1, k2, k3, k4⟩ := an_or_mod.1 hs
        rw [eh k k1] at k4
        exact absurd h (am_and_ne.2 ⟨a, an_or_mod.2 ⟨k, k1, k2, k3, (eq k k1 a).2 (Or.inl k4)⟩, (eq p hp a).2 (Or.inl (by omega))⟩)
    · cases hs : Nat.testBit (an_or (v_gm V) (x % 2 ^ p)) b with
      | false => rfl
      | true =>
        obtain ⟨k, k1, k2, k3, k4⟩ := an_or_mod.1 hs
        rw [eg k k1] at k4
        exact absurd h (am_and_ne.2 ⟨7 + b, an_or_mod.2 ⟨k, k1, k2, k3, (eq k k1 (7 + b)).2 (Or.inr (by omega))⟩, (eq p hp (7 + b)).2 (Or.inr (by omega))⟩)
  · rintro ⟨h1, h2⟩
    by_cases q : an_or (v_qm V) (x % 2 ^ p) &&& v_qm V p = 0
    · exact q
    · exfalso
      obtain ⟨t, t1, t2⟩ := am_and_ne.1 q
      obtain ⟨k, k1, k2, k3, k4⟩ := an_or_mod.1 t1
      rw [eq k k1] at k4
      rw [eq p hp] at t2
      have a1 := (v_ok_p hv k k1).1
      have a2 := (v_ok_p hv p hp).1
      by_cases q1 : (vO V k).toNat = a
      · have := an_or_mod.2 ⟨k, k1, k2, k3, (eh k k1 a).2 q1⟩
        rw [h1] at this; cases this
      · have := an_or_mod.2 ⟨k, k1, k2, k3, (eg k k1 b).2 (by omega)⟩
        rw [h2] at this; cases this
theorem sp_M_quartersOfSet {d L kp : Nat} {h : Nat → Nat → Int} {Q : Option am_V → am_H → Prop} {x : Nat} (hd : 5 ≤ d) (hv : v_ok (am_mv h)) (hx : x < 2 ^ (vQ (am_mv h)).toNat) (hxc : ∀ i, Nat.testBit x i = true → v_qc (am_mv h) i) (hq1 : an_kd (v_qc (am_mv h)) (v_qm (am_mv h)) x → Q (some (Sum.inl (an_su (vN (am_mv h)) x))) (am_SH L, h, am_RR kp)) (hq2 : ¬ an_kd (v_qc (am_mv h)) (v_qm (am_mv h)) x → Q (some (Sum.inl (-1))) (am_SH L, h, am_RR kp)) : am_Wp d 286 0 [some (Sum.inr (Sum.inr 70)), some (Sum.inl (x : Int)), none, none, none, none] [] (am_SH L, h, am_RR kp) Q := by
  have hQ := mv_Q hv
  have hP := mv_P hv
  have hD := mv_D hv
  have eN : (((vQ (am_mv h)).toNat : Nat) : Int) = h 70 6 := by
    have e1 : vQ (am_mv h) = h 70 6 := rfl
    omega
  have hN16 : (vQ (am_mv h)).toNat ≤ 16 := by omega
  have hx16 : x < 2 ^ 16 := Nat.lt_of_lt_of_le hx (Nat.pow_le_pow_right (by omega) hN16)
  have key := am_im_fr (J := Unit) (a := 0) (n := (vQ (am_mv h)).toNat) (fun p _ => an_rd (v_qc (am_mv h)) (v_qm (am_mv h)) x p) (fun p _ => am_Wp d 286 10 [some (Sum.inr (Sum.inr 70)), some (Sum.inl ((x : Int))), some (Sum.inl ((an_su (vN (am_mv h)) (x % 2 ^ p)))), some (Sum.inl (((an_or (v_hm (am_mv h)) (x % 2 ^ p) : Nat) : Int))), some (Sum.inl (((an_or (v_gm (am_mv h)) (x % 2 ^ p) : Nat) : Int))), some (Sum.inl ((p : Int)))] [] (am_SH L, h, am_RR kp) Q) (by omega) (fun p _ _ hp hr ih => ?_) (fun _ hr => ?_) () ⟨fun i hi => by omega, fun i j _ hj => by omega⟩
  · rw [bq_M_quartersOfSet_0]
    have e0 : x % 2 ^ 0 = 0 := by rw [Nat.pow_zero]; omega
    rw [e0, an_su_0, an_or_0, an_or_0] at key
    exact key
  · have hl := an_or_lt (x := (x % 2 ^ p)) (v_hm_lt hv)
    have hl2 := an_or_lt (x := (x % 2 ^ p)) (v_gm_lt hv)
    have h0 := v_ok_p hv p (by omega)
    obtain ⟨a, ha⟩ := Int.eq_ofNat_of_zero_le h0.1.1
    obtain ⟨b, hbb⟩ := Int.eq_ofNat_of_zero_le h0.2.1.1
    have e75 : h 75 p = (a : Int) := ha
    have e76 : h 76 p = (b : Int) := hbb
    have e77 : h 77 p = vN (am_mv h) p := rfl
    have em1 : v_hm (am_mv h) p = 2 ^ a := by
      unfold v_hm
      rw [if_pos (by omega), ha, Int.toNat_natCast]
    have em2 : v_gm (am_mv h) p = 2 ^ b := by
      unfold v_gm
      rw [if_pos (by omega), hbb, Int.toNat_natCast]
    have eqm := v_qm_i hv (x := x) (show p < 16 by omega) ha hbb
    have esu := an_su_mod (f := (vN (am_mv h))) (x := x) (p := p) (by omega)
    rw [bq_M_quartersOfSet_10 (by omega), if_neg (by omega), sp_M_hasBit (by omega) (by omega) (by omega) (by omega), am_has_tb (by omega) (by omega)]
    simp only [Option.toList_some, Option.toList_none, List.cons_append, List.nil_append]
    rw [bq_M_quartersOfSet_25 (by omega)]
    cases hb : Nat.testBit x p with
    | false =>
      rw [if_pos am_bif, bq_M_quartersOfSet_95, am_incn (by omega)]
      have h9 := ih () (an_rd_f hr hb)
      rw [esu, hb, if_neg Bool.noConfusion, Int.add_zero, an_or_modf hb, an_or_modf hb] at h9
      exact h9
    | true =>
      have hcp := hxc p hb
      have hno : ¬ (an_or (v_qm (am_mv h)) (x % 2 ^ p) &&& v_qm (am_mv h) p = 0) → am_Wp d 286 57 [some (Sum.inr (Sum.inr 70)), some (Sum.inl ((x : Int))), some (Sum.inl ((an_su (vN (am_mv h)) (x % 2 ^ p)))), some (Sum.inl (((an_or (v_hm (am_mv h)) (x % 2 ^ p) : Nat) : Int))), some (Sum.inl (((an_or (v_gm (am_mv h)) (x % 2 ^ p) : Nat) : Int))), some (Sum.inl ((p : Int)))] [] (am_SH L, h, am_RR kp) Q := fun w => by
        rw [bq_M_quartersOfSet_57]
        exact hq2 (an_rd_n hb (fun w2 => w w2.2))
      rw [if_neg am_b0, am_gd (by omega) (by omega), Int.toNat_natCast, e75, sp_M_hasBit (by omega) (by omega) (by omega) (by omega), am_has_tb (by omega) (by omega)]
      simp only [Option.toList_some, Option.toList_none, List.cons_append, List.nil_append]
      rw [bq_M_quartersOfSet_39 (by omega)]
      cases hs : Nat.testBit (an_or (v_hm (am_mv h)) (x % 2 ^ p)) a with
      | true =>
        rw [if_neg am_b0]
        exact hno (fun w => by
          have := (eqm.1 w).1
          rw [hs] at this
          cases this)
      | false =>
        rw [if_pos am_bif, am_gd (by omega) (by omega), Int.toNat_natCast, e76, sp_M_hasBit (by omega) (by omega) (by omega) (by omega), am_has_tb (by omega) (by omega)]
        simp only [Option.toList_some, Option.toList_none, List.cons_append, List.nil_append]
        rw [bq_M_quartersOfSet_54]
        cases hs2 : Nat.testBit (an_or (v_gm (am_mv h)) (x % 2 ^ p)) b with
        | true =>
          rw [if_neg am_b0]
          exact hno (fun w => by
            have := (eqm.1 w).2
            rw [hs2] at this
            cases this)
        | false =>
          have h9 := ih () (an_rd_t (by omega) hr hcp (eqm.2 ⟨hs, hs2⟩))
          rw [esu, hb, if_pos rfl, an_or_modt (by omega) hb, an_or_modt (by omega) hb, em1, em2] at h9
          have pa : 2 ^ a < 2 ^ 14 := Nat.pow_lt_pow_right (by omega) (by omega)
          have pb : 2 ^ b < 2 ^ 14 := Nat.pow_lt_pow_right (by omega) (by omega)
          have hsu := an_su_le (f := (vN (am_mv h))) (B := (x % 2 ^ p)) (fun j hj => by
            rw [Nat.testBit_mod_two_pow, Bool.and_eq_true, decide_eq_true_eq] at hj
            have h6 := (v_ok_p hv j (by omega)).2.2.1
            omega)
          have hwp := h0.2.2.1
          rw [if_pos am_bif, am_gd (by omega) (by omega), am_gd (by omega) (by omega), am_gd (by omega) (by omega), Int.toNat_natCast, e77, e75, e76, bq_M_quartersOfSet_95, am_incn (by omega), am_add_ok (by omega) (by omega), am_shl1 (by omega), am_shl1 (by omega), am_or_ok (by omega) (by omega), am_or_ok (by omega) (by omega)]
          exact h9
  · rw [bq_M_quartersOfSet_10 (by omega), if_pos (by omega), Nat.mod_eq_of_lt hx]
    exact hq1 (an_rd_e hx hr)
def v_um (V : am_Vw) (n : Nat) : Nat := am_bits n (fun p => decide (vT V p = 0))
theorem v_um_tb {V : am_Vw} (hv : v_ok V) {i : Nat} : Nat.testBit (v_um V (vQ V).toNat) i = true ↔ v_qc V i := by
  unfold v_um v_qc v_open v_isQ
  have hQ := v_ok_Q hv
  rw [am_bits_tb, Bool.and_eq_true, Bool.and_eq_true, decide_eq_true_eq, decide_eq_true_eq, decide_eq_true_eq, decide_eq_true_eq]
  by_cases q : i < (vQ V).toNat
  · rw [am_lk_nat (by omega)]
    exact ⟨fun w => ⟨by omega, w.2⟩, fun w => ⟨q, w.2⟩⟩
  · exact ⟨fun w => absurd w.1 q, fun w => absurd w.1 (by omega)⟩
theorem v_um_pc {V : am_Vw} (hv : v_ok V) : am_pc (v_um V (vQ V).toNat) = v_opens V := by
  have hQ := v_ok_Q hv
  unfold am_pc v_opens
  rw [am_sumb_tr (n := (vQ V).toNat) (m := 16) (by omega) (fun j h1 h2 => by
    show (bif Nat.testBit (v_um V (vQ V).toNat) j then (1 : Int) else 0) = 0
    unfold v_um
    rw [am_bits_tb, decide_eq_false (by omega)]
    rfl)]
  exact am_sumb_eq (fun j hj => by
    show (bif Nat.testBit (v_um V (vQ V).toNat) j then (1 : Int) else 0) = if vT V j = 0 then 1 else 0
    unfold v_um
    rw [am_bits_tb, decide_eq_true hj, Bool.true_and]
    by_cases q : vT V j = 0
    · rw [decide_eq_true q, if_pos q]; rfl
    · rw [decide_eq_false q, if_neg q]; rfl)
/-- the best so far, from above -/
def an_hv (P : Nat → Prop) (f : Nat → Int) (b : Nat) (j : Int × Int) : Prop := (0 ≤ j.2) ∧ (∀ y, b < y → P y → f y ≤ j.2) ∧ ((j.2 = 0 ∧ j.1 = 0) ∨ ∃ z : Nat, b < z ∧ j.1 = (z : Int) ∧ P z ∧ f z = j.2 ∧ 0 < j.2 ∧ ∀ y, b < y → y < z → P y → f y < j.2)
theorem an_hv_n {P : Nat → Prop} {f : Nat → Int} {b c : Nat} {j : Int × Int} (hcb : c < b) (hbt : ∀ y, P y → c < y → y = b ∨ b < y) (h : an_hv P f b j) (hn : P b → f b < j.2 ∨ f b ≤ 0) : an_hv P f c j := by
  obtain ⟨h1, h2, h3⟩ := h
  refine ⟨h1, fun y hy hp => ?_, ?_⟩
  · rcases hbt y hp hy with w | w
    · rw [w] at hp ⊢
      rcases hn hp with q | q <;> omega
    · exact h2 y w hp
  · rcases h3 with h3 | ⟨z, z1, z2, z3, z4, z5, z6⟩
    · exact Or.inl h3
    · refine Or.inr ⟨z, by omega, z2, z3, z4, z5, fun y y1 y2 hp => ?_⟩
      rcases hbt y hp y1 with w | w
      · rw [w] at hp ⊢
        rcases hn hp with q | q <;> omega
      · exact z6 y w y2 hp
theorem an_hv_y {P : Nat → Prop} {f : Nat → Int} {b c : Nat} {j : Int × Int} (hcb : c < b) (hbt : ∀ y, P y → c < y → y = b ∨ b < y) (h : an_hv P f b j) (hp : P b) (h0 : 0 < f b) (hj : j.2 ≤ f b) : an_hv P f c ((b : Int), f b) := by
  obtain ⟨h1, h2, h3⟩ := h
  refine ⟨by show 0 ≤ f b; omega, fun y hy hq => ?_, Or.inr ⟨b, hcb, rfl, hp, rfl, h0, fun y y1 y2 hq => ?_⟩⟩
  · show f y ≤ f b
    rcases hbt y hq hy with w | w
    · rw [w]; exact Int.le_refl _
    · have := h2 y w hq; omega
  · rcases hbt y hq y1 with w | w <;> omega
theorem an_hv_z {P : Nat → Prop} {f : Nat → Int} {j : Int × Int} {n : Nat} (h0 : P 0) (hf : f 0 = 0) (hn : 0 < n) (hPn : ∀ y, P y → y < n) (h : an_hv P f 0 j) : an_bs P f n j.2 j.1 := by
  obtain ⟨h1, h2, h3⟩ := h
  have all : ∀ y, P y → f y ≤ j.2 := fun y hy => by
    by_cases q : y = 0
    · rw [q, hf]; exact h1
    · exact h2 y (by omega) hy
  rcases h3 with ⟨h3, h4⟩ | ⟨z, z1, z2, z3, z4, z5, z6⟩
  · exact Or.inr ⟨0, h4, hn, h0, by omega, fun y _ hp => ⟨by have := all y hp; omega, fun w => by omega⟩⟩
  · refine Or.inr ⟨z, z2, hPn z z3, z3, by omega, fun y _ hp => ⟨by have := all y hp; omega, fun w => ?_⟩⟩
    by_cases q : y = 0
    · rw [q, hf]; omega
    · have := z6 y (by omega) w hp; omega
theorem m_heaviest {d L kp : Nat} {h : Nat → Nat → Int} {w : Int} (hd : 30 ≤ d) (hv : v_ok (am_mv h)) : am_An L 81 (a_heaviest (am_mv h) w) h (fun Q => am_Wp d 285 0 [some (Sum.inr (Sum.inr 70)), some (Sum.inl w), none, none, none, none, none, none] [] (am_SH L, h, am_RR kp) Q) := by
  have hQ := mv_Q hv
  have hP := mv_P hv
  have hD := mv_D hv
  intro Q hq
  have hq2 : ∀ g' kq, am_keep (am_up h 70 13 0) g' → Q (some (a_heaviest (am_mv h) w).1) (am_SH L, am_bump 81 (a_heaviest (am_mv h) w).2 g', am_RR kq) := fun g' kq hk => hq g' kq (am_keep_t (am_keep_up rfl am_keep_r) hk)
  clear hq
  have hv2 : v_ok (am_mv (am_up h 70 13 0)) := hv
  try rw [show am_mv h = am_mv (am_up h 70 13 0) from rfl] at hq2
  show am_Wp d 285 0 [some (Sum.inr (Sum.inr 70)), some (Sum.inl w), none, none, none, none, none, none] [] (am_SH L, h, am_RR kp) Q
  refine (show _ = _ from bq_M_heaviest_0).mpr ?_
  clear hv hQ hP hD
  generalize am_up h 70 13 0 = g at hq2 hv2 ⊢
  have hv := hv2
  have hQ := mv_Q hv2
  have hP := mv_P hv
  have hD := mv_D hv
  have h3 := hq2
  unfold a_heaviest at h3
  have eN : (((vQ (am_mv g)).toNat : Nat) : Int) = g 70 6 := by
    have e1 : vQ (am_mv g) = g 70 6 := rfl
    omega
  have hN16 : (vQ (am_mv g)).toNat ≤ 16 := by omega
  have key := am_dn_fr (J := Unit) (a := 0) (n := (vQ (am_mv g)).toNat) (fun p _ => am_Wp d 285 9 [some (Sum.inr (Sum.inr 70)), some (Sum.inl (w)), some (Sum.inl (((v_um (am_mv g) p : Nat) : Int))), some (Sum.inl ((p : Int))), none, none, none, none] [] (am_SH L, g, am_RR kp) Q) (am_Wp d 285 9 [some (Sum.inr (Sum.inr 70)), some (Sum.inl (w)), some (Sum.inl (((v_um (am_mv g) (vQ (am_mv g)).toNat : Nat) : Int))), some (Sum.inl (((vQ (am_mv g)).toNat : Int))), none, none, none, none] [] (am_SH L, g, am_RR kp) Q) (by omega) (fun p _ hp ih _ => ?_) (fun _ => rfl) ()
  · refine (show _ = _ from key).mpr ?_
    have hpc := v_um_pc hv
    have hutb : ∀ i, Nat.testBit (v_um (am_mv g) (vQ (am_mv g)).toNat) i = true ↔ (v_qc (am_mv g)) i := fun i => v_um_tb hv
    have hul : v_um (am_mv g) (vQ (am_mv g)).toNat < 2 ^ (vQ (am_mv g)).toNat := am_bits_lt
    have hp16 : 2 ^ (vQ (am_mv g)).toNat ≤ 2 ^ 16 := Nat.pow_le_pow_right (by omega) hN16
    generalize v_um (am_mv g) (vQ (am_mv g)).toNat = U at hpc hutb hul ⊢
    rw [bq_M_heaviest_9 (by omega), if_pos (by omega), sp_M_in]
    simp only [Option.toList_some, Option.toList_none, List.cons_append, List.nil_append]
    rw [bq_M_heaviest_49 (by omega)]
    have r72 : ∀ e : Int, -6 ≤ e → e ≤ -1 → Q (some (Sum.inl e)) (am_SH L, am_bump 81 (-e).toNat g, am_RR kp) → am_Wp d 285 72 [some (Sum.inr (Sum.inr 70)), some (Sum.inl (w)), some (Sum.inl ((U : Int))), some (Sum.inl (((vQ (am_mv g)).toNat : Int))), none, none, none, none] [Sum.inl e] (am_SH L, g, am_RR kp) Q := fun e he1 he2 w => by
      rw [bq_M_heaviest_72 (by omega), if_neg (by omega), sp_M_refuse (by omega) (by omega)]
      simp only [Option.toList_some, Option.toList_none, List.cons_append, List.nil_append]
      rw [bq_M_heaviest_82]
      exact w
    by_cases q1 : w = 0 ∨ w = 1
    · rw [if_pos q1] at h3
      rw [decide_eq_true (show 0 ≤ w ∧ w ≤ 1 by omega), if_neg am_b0, sp_M_onesOf (by omega), hpc]
      simp only [Option.toList_some, Option.toList_none, List.cons_append, List.nil_append]
      rw [bq_M_heaviest_61]
      by_cases q2 : 10 < v_opens (am_mv g)
      · rw [if_pos q2] at h3
        rw [if_neg (by omega)]
        exact r72 (-3) (by omega) (by omega) (h3 g kp am_keep_r)
      · rw [if_neg q2] at h3
        rw [if_pos (by omega), bq_M_heaviest_72 (by omega), if_pos (Int.le_refl _)]
        have hsb : ∀ y, (an_kd (v_qc (am_mv g)) (v_qm (am_mv g))) y → an_sb y U := fun y hy i hi => (hutb i).2 (hy.1 i hi)
        have hle : ∀ y, (an_kd (v_qc (am_mv g)) (v_qm (am_mv g))) y → y ≤ U := fun y hy => an_sb_le (hsb y hy)
        have hpcy : ∀ y, (an_kd (v_qc (am_mv g)) (v_qm (am_mv g))) y → am_pc y ≤ 10 := fun y hy => by
          have := an_pc_m (hsb y hy)
          omega
        have loop := an_sm_loop (J := (Int × Int) × Option am_V) (m := U) (fun b j => an_hv (an_kd (v_qc (am_mv g)) (v_qm (am_mv g))) (an_su (vN (am_mv g))) b j.1) (fun b j => am_Wp d 285 92 [some (Sum.inr (Sum.inr 70)), some (Sum.inl (w)), some (Sum.inl ((U : Int))), some (Sum.inl (0)), some (Sum.inl (j.1.1)), some (Sum.inl (j.1.2)), some (Sum.inl ((b : Int))), j.2] [] (am_SH L, g, am_RR kp) Q) (fun b j hb hbs hj ih => ?_) (fun j hj => ?_) ((0, 0), none) ⟨Int.le_refl _, fun y hy hp => by have := hle y hp; omega, Or.inl ⟨rfl, rfl⟩⟩
        · exact loop
        · obtain ⟨⟨bi, bb⟩, j7⟩ := j
          have hj2 : an_hv (an_kd (v_qc (am_mv g)) (v_qm (am_mv g))) (an_su (vN (am_mv g))) b (bi, bb) := hj
          have hbb0 : 0 ≤ bb := hj2.1
          have hbl := an_sb_le hbs
          have hlt2 := an_sm_lt (m := U) hb
          have hbt : ∀ y, (an_kd (v_qc (am_mv g)) (v_qm (am_mv g))) y → (b - 1) &&& U < y → y = b ∨ b < y := fun y hy h1 => by
            by_cases q : y < b
            · have := an_sm_up b b U y (Nat.le_refl b) hb hbs (hsb y hy) q
              omega
            · omega
          have enx : am_and (am_sub (b : Int) 1) (U : Int) = (((b - 1) &&& U : Nat) : Int) := by
            rw [am_sub_ok (by omega) (by omega), show (b : Int) - 1 = ((b - 1 : Nat) : Int) by omega, am_and_ok (by omega) (by omega)]
          have r140 : ∀ (bi2 b2 : Int) (j8 : Option am_V), an_hv (an_kd (v_qc (am_mv g)) (v_qm (am_mv g))) (an_su (vN (am_mv g))) ((b - 1) &&& U) (bi2, b2) → am_Wp d 285 140 [some (Sum.inr (Sum.inr 70)), some (Sum.inl (w)), some (Sum.inl ((U : Int))), some (Sum.inl (0)), some (Sum.inl (bi2)), some (Sum.inl (bb)), some (Sum.inl ((b : Int))), j8] [Sum.inl b2] (am_SH L, g, am_RR kp) Q := fun bi2 b2 j8 w1 => by
            rw [bq_M_heaviest_140, enx]
            exact ih ((bi2, b2), j8) w1
          show am_Wp d 285 92 [some (Sum.inr (Sum.inr 70)), some (Sum.inl (w)), some (Sum.inl ((U : Int))), some (Sum.inl (0)), some (Sum.inl (bi)), some (Sum.inl (bb)), some (Sum.inl ((b : Int))), j7] [] (am_SH L, g, am_RR kp) Q
          rw [bq_M_heaviest_92 (by omega), if_neg (by omega)]
          refine sp_M_quartersOfSet (by omega) hv (by omega) (fun i hi => (hutb i).1 (hbs i hi)) (fun hkd => ?_) (fun hkd => ?_)
          · simp only [Option.toList_some, Option.toList_none, List.cons_append, List.nil_append]
            rw [bq_M_heaviest_103]
            by_cases q3 : an_su (vN (am_mv g)) b < bb
            · rw [if_pos q3, bq_M_heaviest_122, bq_M_heaviest_124, if_pos (by omega)]
              exact r140 _ _ _ (an_hv_n hlt2 hbt hj2 (fun _ => Or.inl q3))
            · rw [if_neg q3]
              by_cases q4 : an_su (vN (am_mv g)) b ≤ 0
              · rw [if_pos q4, bq_M_heaviest_122, bq_M_heaviest_124, if_pos (by omega)]
                exact r140 _ _ _ (an_hv_n hlt2 hbt hj2 (fun _ => Or.inr q4))
              · have h9 := an_hv_y hlt2 hbt hj2 hkd (by omega) (show bb ≤ an_su (vN (am_mv g)) b by omega)
                rw [if_neg q4, bq_M_heaviest_124]
                by_cases q5 : an_su (vN (am_mv g)) b ≤ bb
                · rw [if_pos q5]
                  rw [show an_su (vN (am_mv g)) b = bb by omega] at h9
                  exact r140 _ _ _ h9
                · rw [if_neg q5]
                  exact r140 _ _ _ h9
          · simp only [Option.toList_some, Option.toList_none, List.cons_append, List.nil_append]
            rw [bq_M_heaviest_103]
            have h9 := an_hv_n hlt2 hbt hj2 (fun w => absurd w hkd)
            by_cases q3 : (-1 : Int) < bb
            · rw [if_pos q3, bq_M_heaviest_122, bq_M_heaviest_124, if_pos (by omega)]
              exact r140 _ _ _ h9
            · omega
        · obtain ⟨⟨bi, bb⟩, j7⟩ := j
          have hj2 : an_hv (an_kd (v_qc (am_mv g)) (v_qm (am_mv g))) (an_su (vN (am_mv g))) 0 (bi, bb) := hj
          have e0 : am_pc 0 = 0 := by decide
          have hz : (an_kd (v_qc (am_mv g)) (v_qm (am_mv g))) 0 := ⟨fun i hi => (by rw [Nat.zero_testBit] at hi; cases hi), fun i j _ hi => (by rw [Nat.zero_testBit] at hi; cases hi)⟩
          have h5 := an_hv_z (n := 2 ^ 16) hz an_su_0 (Nat.two_pow_pos 16) (fun y hy => by have := hle y hy; omega) hj2
          have eP : an_vd (v_qc (am_mv g)) (v_qm (am_mv g)) 10 (¬ (0 : Int) = 0) = (an_kd (v_qc (am_mv g)) (v_qm (am_mv g))) := funext (fun y => propext ⟨fun w => (an_vd_kd.1 w).1, fun w => an_vd_kd.2 ⟨w, hpcy y w, fun w2 => absurd rfl w2⟩⟩)
          have h6 := an_bsv_eq h5
          dsimp only at h6
          have h4 := h3 g kp am_keep_r
          rw [eP, h6] at h4
          dsimp only at h4
          show am_Wp d 285 92 [some (Sum.inr (Sum.inr 70)), some (Sum.inl (w)), some (Sum.inl ((U : Int))), some (Sum.inl (0)), some (Sum.inl (bi)), some (Sum.inl (bb)), some (Sum.inl ((0 : Int))), j7] [] (am_SH L, g, am_RR kp) Q
          rw [bq_M_heaviest_92 (by omega), if_pos (by omega)]
          by_cases q3 : w = 0
          · rw [if_pos q3] at h4
            rw [if_pos q3, bq_M_heaviest_164]
            exact h4
          · rw [if_neg q3] at h4
            rw [if_neg q3, bq_M_heaviest_164]
            exact h4
    · rw [if_neg q1] at h3
      rw [decide_eq_false (show ¬ (0 ≤ w ∧ w ≤ 1) by omega), if_pos am_bif]
      exact r72 (-2) (by omega) (by omega) (h3 g kp am_keep_r)
  · have es := am_bits_i (b := p) (c := fun p => decide (vT (am_mv g) p = 0)) (by omega)
    have e80 : g 80 p = vT (am_mv g) p := rfl
    have hul : v_um (am_mv g) p < 2 ^ p := am_bits_lt
    have hp16 : 2 ^ p < 2 ^ 16 := Nat.pow_lt_pow_right (by omega) (by omega)
    have ih2 := ih ()
    rw [bq_M_heaviest_9 (by omega), if_neg (by omega), am_gd (by omega) (by omega), Int.toNat_natCast, e80]
    refine Eq.trans ?_ ih2
    have e2 : ((v_um (am_mv g) (p + 1) : Nat) : Int) = _ := es
    rw [e2]
    by_cases q : vT (am_mv g) p = 0
    · rw [if_pos q, bq_M_heaviest_34, am_incn (by omega), if_pos (decide_eq_true q)]
      rfl
    · have e3 : am_or ((v_um (am_mv g) p : Nat) : Int) 0 = ((v_um (am_mv g) p : Nat) : Int) := by
        have := am_or_ok (a := v_um (am_mv g) p) (b := 0) (by omega) (by omega)
        rw [Nat.or_zero] at this
        exact this
      rw [if_neg q, bq_M_heaviest_34, am_incn (by omega), e3, if_neg (by rw [decide_eq_true_eq]; exact q)]
      rfl