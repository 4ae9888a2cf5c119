/-! HOLD and HEAVIEST of the reference -/
def an_kd (c : Nat → Prop) (mk : Nat → Nat) (x : Nat) : Prop := (∀ i, Nat.testBit x i = true → c i) ∧ an_kl mk x
theorem an_vd_kd {c : Nat → Prop} {mk : Nat → Nat} {K : Int} {E : Prop} {x : Nat} : an_vd c mk K E x ↔ (an_kd c mk x ∧ am_pc x ≤ K ∧ (E → am_pc x = K)) := ⟨fun h => ⟨⟨h.1, h.2.1⟩, h.2.2⟩, fun h => ⟨h.1.1, h.1.2, h.2⟩⟩
theorem an_su_mod {f : Nat → Int} {x p : Nat} (hp : p < 16) : an_su f (x % 2 ^ (p + 1)) = an_su f (x % 2 ^ p) + (if Nat.testBit x p = true then f p else 0) := by
  have h4 := am_sumb_one (n := 16) (i := p) (x := if Nat.testBit x p = true then f p else 0) hp
  have key : am_sumb 16 (fun i => bif Nat.testBit (x % 2 ^ (p + 1)) i then f i else 0) = am_sumb 16 (fun i => (bif Nat.testBit (x % 2 ^ p) i then f i else 0) + (if i = p then (if Nat.testBit x p = true then f p else 0) else 0)) := am_sumb_eq (fun i _ => by
    show (bif Nat.testBit (x % 2 ^ (p + 1)) i then f i else 0) = (bif Nat.testBit (x % 2 ^ p) i then f i else 0) + (if i = p then (if Nat.testBit x p = true then f p else 0) else 0)
    rw [Nat.testBit_mod_two_pow, Nat.testBit_mod_two_pow]
    by_cases q : i = p
    · rw [q, if_pos rfl, decide_eq_true (show p < p + 1 by omega), decide_eq_false (show ¬ p < p by omega), Bool.true_and, Bool.false_and, cond_false]
      cases Nat.testBit x p with
      | true => rw [if_pos rfl, cond_true]; omega
      | false => rw [if_neg Bool.noConfusion, cond_false]; omega
    · rw [if_neg q]
      by_cases q2 : i < p
      · rw [decide_eq_true q2, decide_eq_true (show i < p + 1 by omega)]; omega
      · rw [decide_eq_false q2, decide_eq_false (show ¬ i < p + 1 by omega)]; omega)
  unfold an_su
  rw [key, am_sumb_add, h4]
theorem an_or_mod {mk : Nat → Nat} {x p i : Nat} : Nat.testBit (an_or mk (x % 2 ^ p)) i = true ↔ ∃ k, k < 16 ∧ k < p ∧ Nat.testBit x k = true ∧ Nat.testBit (mk k) i = true := by
  rw [an_or_tb]
  constructor
  · rintro ⟨k, h1, h2, h3⟩
    rw [Nat.testBit_mod_two_pow, Bool.and_eq_true, decide_eq_true_eq] at h2
    exact ⟨k, h1, h2.1, h2.2, h3⟩
  · rintro ⟨k, h1, h2, h3, h4⟩
    exact ⟨k, h1, by rw [Nat.testBit_mod_two_pow, Bool.and_eq_true, decide_eq_true_eq]; exact ⟨h2, h3⟩, h4⟩
theorem an_or_modf {mk : Nat → Nat} {x p : Nat} (hx : Nat.testBit x p = false) : an_or mk (x % 2 ^ (p + 1)) = an_or mk (x % 2 ^ p) := Nat.eq_of_testBit_eq (fun i => by
  apply Bool.eq_iff_iff.2
  rw [an_or_mod, an_or_mod]
  constructor
  · rintro ⟨k, h1, h2, h3, h4⟩
    by_cases q : k = p
    · rw [q, hx] at h3; cases h3
    · exact ⟨k, h1, by omega, h3, h4⟩
  · rintro ⟨k, h1, h2, h3, h4⟩
    exact ⟨k, h1, by omega, h3, h4⟩)
theorem an_or_modt {mk : Nat → Nat} {x p : Nat} (hp : p < 16) (hx : Nat.testBit x p = true) : an_or mk (x % 2 ^ (p + 1)) = an_or mk (x % 2 ^ p) ||| mk p := Nat.eq_of_testBit_eq (fun i => by
  apply Bool.eq_iff_iff.2
  rw [Nat.testBit_or, Bool.or_eq_true, an_or_mod, an_or_mod]
  constructor
  · rintro ⟨k, h1, h2, h3, h4⟩
    by_cases q : k = p
    · rw [q] at h4; exact Or.inr h4
    · exact Or.inl ⟨k, h1, by omega, h3, h4⟩
  · rintro (⟨k, h1, h2, h3, h4⟩ | h)
    · exact ⟨k, h1, by omega, h3, h4⟩
    · exact ⟨p, hp, by omega, hx, h⟩)
theorem an_or_lt {mk : Nat → Nat} {x n : Nat} (h : ∀ i, mk i < 2 ^ n) : an_or mk x < 2 ^ n := am_orb_lt (fun k hk => by
  show (bif Nat.testBit x k then mk k else 0) < 2 ^ n
  cases Nat.testBit x k
  · exact Nat.two_pow_pos n
  · exact h k)
/-- what has been read: the bits below p -/
def an_rd (c : Nat → Prop) (mk : Nat → Nat) (x p : Nat) : Prop := (∀ i, i < p → Nat.testBit x i = true → c i) ∧ (∀ i j, i < j → j < p → Nat.testBit x i = true → Nat.testBit x j = true → mk i &&& mk j = 0)
theorem an_rd_f {c : Nat → Prop} {mk : Nat → Nat} {x p : Nat} (h : an_rd c mk x p) (hx : Nat.testBit x p = false) : an_rd c mk x (p + 1) := by
  refine ⟨fun i hi hb => ?_, fun i j hij hj bi bj => ?_⟩
  · by_cases q : i = p
    · rw [q, hx] at hb; cases hb
    · exact h.1 i (by omega) hb
  · by_cases q : j = p
    · rw [q, hx] at bj; cases bj
    · exact h.2 i j hij (by omega) bi bj
theorem an_rd_t {c : Nat → Prop} {mk : Nat → Nat} {x p : Nat} (hp : p < 16) (h : an_rd c mk x p) (hc : c p) (ho : an_or mk (x % 2 ^ p) &&& mk p = 0) : an_rd c mk x (p + 1) := by
  refine ⟨fun i hi hb => ?_, fun i j hij hj bi bj => ?_⟩
  · by_cases q : i = p
    · rw [q]; exact hc
    · exact h.1 i (by omega) hb
  · by_cases q : j = p
    · by_cases w : mk i &&& mk j = 0
      · exact w
      · obtain ⟨b, b1, b2⟩ := am_and_ne.1 w
        exact absurd ho (am_and_ne.2 ⟨b, an_or_mod.2 ⟨i, by omega, by omega, bi, b1⟩, by rw [← q]; exact b2⟩)
    · exact h.2 i j hij (by omega) bi bj
theorem an_rd_n {c : Nat → Prop} {mk : Nat → Nat} {x p : Nat} (hx : Nat.testBit x p = true) (h : ¬ (c p ∧ an_or mk (x % 2 ^ p) &&& mk p = 0)) : ¬ an_kd c mk x := fun w => by
  refine h ⟨w.1 p hx, ?_⟩
  by_cases q : an_or mk (x % 2 ^ p) &&& mk p = 0
  · exact q
  · obtain ⟨b, b1, b2⟩ := am_and_ne.1 q
    obtain ⟨k, k1, k2, k3, k4⟩ := an_or_mod.1 b1
    exact absurd (w.2 k p k2 k3 hx) (am_and_ne.2 ⟨b, k4, b2⟩)
theorem an_rd_e {c : Nat → Prop} {mk : Nat → Nat} {x n : Nat} (hx : x < 2 ^ n) (h : an_rd c mk x n) : an_kd c mk x := by
  have hl : ∀ i, Nat.testBit x i = true → i < n := fun i hi => by
    by_cases q : i < n
    · exact q
    · rw [Nat.testBit_lt_two_pow (Nat.lt_of_lt_of_le hx (Nat.pow_le_pow_right (by omega) (show n ≤ i by omega)))] at hi
      cases hi
  exact ⟨fun i hi => h.1 i (hl i hi) hi, fun i j hij bi bj => h.2 i j hij (hl j bj) bi bj⟩
theorem an_and_p2 {x n : Nat} : x &&& 2 ^ n = 0 ↔ Nat.testBit x n = false := by
  constructor
  · intro h
    cases hb : Nat.testBit x n with
    | false => rfl
    | true => exact absurd h (am_and_ne.2 ⟨n, hb, by rw [an_p2_in]⟩)
  · intro h
    by_cases q : x &&& 2 ^ n = 0
    · exact q
    · obtain ⟨b, b1, b2⟩ := am_and_ne.1 q
      rw [an_p2_in] at b2
      rw [← b2, h] at b1
      cases b1
theorem an_su_pos {f : Nat → Int} {x : Nat} (h : ∀ i, Nat.testBit x i = true → 0 ≤ f i) : 0 ≤ an_su f x := by
  have h1 := am_sumb_mono (n := 16) (f := fun _ => 0) (g := fun i => bif Nat.testBit x i then f i else 0) (fun k _ => by
    show 0 ≤ (bif Nat.testBit x k then f k else 0)
    cases hb : Nat.testBit x k with
    | true => exact h k hb
    | false => exact (by decide : (0 : Int) ≤ 0))
  rw [am_sumb_0] at h1
  exact h1
theorem sp_M_worthOfSet {d L kp : Nat} {h : Nat → Nat → Int} {Q : Option am_V → am_H → Prop} {i : Int} {x : Nat} (hd : 5 ≤ d) (hv : v_ok (am_mv h)) (hx : x < 2 ^ (vQ (am_mv h)).toNat) (hq1 : an_kd (v_hc (am_mv h) i) (v_hm (am_mv h)) x → Q (some (Sum.inl (an_su (v_wf (am_mv h)) x))) (am_SH L, h, am_RR kp)) (hq2 : ¬ an_kd (v_hc (am_mv h) i) (v_hm (am_mv h)) x → Q (some (Sum.inl (-1))) (am_SH L, h, am_RR kp)) : am_Wp d 264 0 [some (Sum.inr (Sum.inr 70)), some (Sum.inl i), some (Sum.inl (x : Int)), none, none, none] [] (am_SH L, h, am_RR kp) Q := by
  have hQ := mv_Q hv
  have hP := mv_P hv
  have hD := mv_D hv
  have eN : (((vQ (am_mv h)).toNat : Nat) : Int) = h 70 6 := by
    have e1 : vQ (am_mv h) = h 70 6 := rfl
    omega
  have hN16 : (vQ (am_mv h)).toNat ≤ 16 := by omega
  have hx16 : x < 2 ^ 16 := Nat.lt_of_lt_of_le hx (Nat.pow_le_pow_right (by omega) hN16)
  have key := am_im_fr (J := Unit) (a := 0) (n := (vQ (am_mv h)).toNat) (fun p _ => an_rd (v_hc (am_mv h) i) (v_hm (am_mv h)) x p) (fun p _ => am_Wp d 264 8 [some (Sum.inr (Sum.inr 70)), some (Sum.inl (i)), some (Sum.inl ((x : Int))), some (Sum.inl ((an_su (v_wf (am_mv h)) (x % 2 ^ p)))), some (Sum.inl (((an_or (v_hm (am_mv h)) (x % 2 ^ p) : Nat) : Int))), some (Sum.inl ((p : Int)))] [] (am_SH L, h, am_RR kp) Q) (by omega) (fun p _ _ hp hr ih => ?_) (fun _ hr => ?_) () ⟨fun i hi => by omega, fun i j _ hj => by omega⟩
  · rw [bq_M_worthOfSet_0]
    have e0 : x % 2 ^ 0 = 0 := by rw [Nat.pow_zero]; omega
    rw [e0, an_su_0, an_or_0] at key
    exact key
  · have hl := an_or_lt (x := (x % 2 ^ p)) (v_hm_lt hv)
    have h0 := v_ok_p hv p (by omega)
    obtain ⟨a, ha⟩ := Int.eq_ofNat_of_zero_le h0.1.1
    have e75 : h 75 p = (a : Int) := ha
    have emk : v_hm (am_mv h) p = 2 ^ a := by
      unfold v_hm
      rw [if_pos (by omega), ha, Int.toNat_natCast]
    have esu := an_su_mod (f := (v_wf (am_mv h))) (x := x) (p := p) (by omega)
    have r62 : ∀ l, ¬ an_kd (v_hc (am_mv h) i) (v_hm (am_mv h)) x → am_Wp d 264 62 l [] (am_SH L, h, am_RR kp) Q → Q (some (Sum.inl (-1))) (am_SH L, h, am_RR kp) := fun _ w _ => hq2 w
    rw [bq_M_worthOfSet_8 (by omega), if_neg (by omega), sp_M_hasBit (by omega) (by omega) (by omega) (by omega), am_has_tb (by omega) (by omega)]
    simp only [Option.toList_some, Option.toList_none, List.cons_append, List.nil_append]
    rw [bq_M_worthOfSet_23 (by omega)]
    cases hb : Nat.testBit x p with
    | false =>
      rw [if_pos am_bif, bq_M_worthOfSet_87, am_incn (by omega)]
      have h9 := ih () (an_rd_f hr hb)
      rw [esu, hb, if_neg Bool.noConfusion, Int.add_zero, an_or_modf hb] at h9
      exact h9
    | true =>
      rw [if_neg am_b0, am_gd (by omega) (by omega), Int.toNat_natCast]
      have e80 : h 80 p = vT (am_mv h) p := rfl
      have e76 : h 76 p = vH (am_mv h) p := rfl
      have eo : v_open (am_mv h) (p : Int) = true ↔ vT (am_mv h) p = 0 := by
        unfold v_open v_isQ
        rw [am_lk_nat (by omega), Bool.and_eq_true, decide_eq_true_eq, decide_eq_true_eq]
        exact ⟨fun w => w.2, fun w => ⟨⟨by omega, by have e1 : vQ (am_mv h) = h 70 6 := rfl; omega⟩, w⟩⟩
      have hno : ¬ (v_hc (am_mv h) i p ∧ an_or (v_hm (am_mv h)) (x % 2 ^ p) &&& v_hm (am_mv h) p = 0) → am_Wp d 264 62 [some (Sum.inr (Sum.inr 70)), some (Sum.inl (i)), some (Sum.inl ((x : Int))), some (Sum.inl ((an_su (v_wf (am_mv h)) (x % 2 ^ p)))), some (Sum.inl (((an_or (v_hm (am_mv h)) (x % 2 ^ p) : Nat) : Int))), some (Sum.inl ((p : Int)))] [] (am_SH L, h, am_RR kp) Q := fun w => by
        rw [bq_M_worthOfSet_62]
        exact hq2 (an_rd_n hb w)
      by_cases q1 : h 80 p = 0
      · rw [if_pos q1, am_gd (by omega) (by omega)]
        by_cases q2 : h 76 p = i
        · rw [if_pos q2, am_gd (by omega) (by omega), e75, sp_M_hasBit (by omega) (by omega) (by omega) (by omega), am_has_tb (by omega) (by omega)]
          simp only [Option.toList_some, Option.toList_none, List.cons_append, List.nil_append]
          rw [bq_M_worthOfSet_59 (by omega)]
          cases hs : Nat.testBit (an_or (v_hm (am_mv h)) (x % 2 ^ p)) a with
          | true =>
            rw [if_neg am_b0]
            exact hno (fun w => by
              have := w.2
              rw [emk, an_and_p2, hs] at this
              cases this)
          | false =>
            have hcp : v_hc (am_mv h) i p := ⟨eo.2 q1, q2⟩
            have hop : an_or (v_hm (am_mv h)) (x % 2 ^ p) &&& v_hm (am_mv h) p = 0 := by rw [emk, an_and_p2]; exact hs
            have h9 := ih () (an_rd_t (by omega) hr hcp hop)
            rw [esu, hb, if_pos rfl, an_or_modt (by omega) hb, emk] at h9
            have pa : 2 ^ a < 2 ^ 14 := Nat.pow_lt_pow_right (by omega) (by omega)
            have hsu := an_su_le (f := (v_wf (am_mv h))) (B := (x % 2 ^ p)) (fun j hj => by
              rw [Nat.testBit_mod_two_pow, Bool.and_eq_true, decide_eq_true_eq] at hj
              have h5 := v_worth_le hv (show j < 16 by omega)
              have h6 := (v_ok_p hv j (by omega)).2.2.1
              unfold v_wf
              omega)
            have hwp := v_worth_le hv (show p < 16 by omega)
            rw [if_pos am_bif, am_gd (by omega) (by omega), sp_M_worthOf (by omega) hv (by omega) (by omega)]
            simp only [Option.toList_some, Option.toList_none, List.cons_append, List.nil_append]
            have ev : v_wf (am_mv h) p = v_worth (am_mv h) (p : Int) := rfl
            rw [bq_M_worthOfSet_85, bq_M_worthOfSet_87, am_incn (by omega), am_add_ok (by omega) (by omega), Int.toNat_natCast, e75, am_shl1 (by omega), am_or_ok (by omega) (by omega), ← ev]
            exact h9
        · rw [if_neg q2]
          exact hno (fun w => q2 w.1.2)
      · rw [if_neg q1]
        exact hno (fun w => q1 (eo.1 w.1.1))
  · rw [bq_M_worthOfSet_8 (by omega), if_pos (by omega), Nat.mod_eq_of_lt hx]
    exact hq1 (an_rd_e hx hr)
theorem m_hold {d L kp : Nat} {h : Nat → Nat → Int} {i k : Int} (hd : 30 ≤ d) (hv : v_ok (am_mv h)) : am_An L 81 (a_hold (am_mv h) i k) h (fun Q => am_Wp d 263 0 [some (Sum.inr (Sum.inr 70)), some (Sum.inl i), some (Sum.inl k), none, none, none, none, none] [] (am_SH L, h, am_RR kp) Q) := by
  have hQ := mv_Q hv
  have hP := mv_P hv
  have hD := mv_D hv
  intro Q hq
  have hq2 : ∀ g' kq, am_keep (am_up h 70 13 0) g' → Q (some (a_hold (am_mv h) i k).1) (am_SH L, am_bump 81 (a_hold (am_mv h) i k).2 g', am_RR kq) := fun g' kq hk => hq g' kq (am_keep_t (am_keep_up rfl am_keep_r) hk)
  clear hq
  have hv2 : v_ok (am_mv (am_up h 70 13 0)) := hv
  try rw [show am_mv h = am_mv (am_up h 70 13 0) from rfl] at hq2
  show am_Wp d 263 0 [some (Sum.inr (Sum.inr 70)), some (Sum.inl i), some (Sum.inl k), none, none, none, none, none] [] (am_SH L, h, am_RR kp) Q
  refine (show _ = _ from bq_M_hold_0 (by omega)).mpr ?_
  clear hv hQ hP hD
  generalize am_up h 70 13 0 = g at hq2 hv2 ⊢
  have hv := hv2
  have hQ := mv_Q hv2
  have hP := mv_P hv
  have hD := mv_D hv
  have h3 := hq2
  unfold a_hold at h3
  rw [sp_M_isOne (by omega) hv]
  simp only [Option.toList_some, Option.toList_none, List.cons_append, List.nil_append]
  rw [bq_M_hold_10 (by omega)]
  cases hi : v_isP (am_mv g) i with
  | false =>
    rw [if_pos hi] at h3
    rw [if_pos am_bif, bq_M_hold_23 (by omega), if_neg (by omega), sp_M_refuse (by omega) (by omega)]
    simp only [Option.toList_some, Option.toList_none, List.cons_append, List.nil_append]
    rw [bq_M_hold_33]
    exact h3 g kp am_keep_r
  | true =>
    rw [if_neg (by rw [hi]; exact Bool.noConfusion)] at h3
    rw [if_neg am_b0, sp_M_wrongNumber]
    simp only [Option.toList_some, Option.toList_none, List.cons_append, List.nil_append]
    rw [bq_M_hold_19]
    have r23 : ∀ e : Int, -6 ≤ e → e ≤ -1 → Q (some (Sum.inl e)) (am_SH L, am_bump 81 (-e).toNat g, am_RR kp) → am_Wp d 263 23 [some (Sum.inr (Sum.inr 70)), some (Sum.inl (i)), some (Sum.inl (k)), none, none, none, none, none] [Sum.inl e] (am_SH L, g, am_RR kp) Q := fun e he1 he2 w => by
      rw [bq_M_hold_23 (by omega), if_neg (by omega), sp_M_refuse (by omega) (by omega)]
      simp only [Option.toList_some, Option.toList_none, List.cons_append, List.nil_append]
      rw [bq_M_hold_33]
      exact w
    by_cases q1 : k < 0
    · rw [if_pos q1] at h3
      rw [show m_wrong k 0 3 = -4 from if_pos q1]
      exact r23 (-4) (by omega) (by omega) (h3 g kp am_keep_r)
    · rw [if_neg q1] at h3
      by_cases q2 : 3 < k
      · rw [if_pos q2] at h3
        rw [show m_wrong k 0 3 = -6 by unfold m_wrong; rw [if_neg q1, if_pos q2]]
        exact r23 (-6) (by omega) (by omega) (h3 g kp am_keep_r)
      · rw [if_neg q2] at h3
        rw [show m_wrong k 0 3 = 0 by unfold m_wrong; rw [if_neg q1, if_neg q2], bq_M_hold_23 (by omega), if_pos (Int.le_refl _)]
        have eN : (((vQ (am_mv g)).toNat : Nat) : Int) = g 70 6 := by
          have e1 : vQ (am_mv g) = g 70 6 := rfl
          omega
        have hN16 : (vQ (am_mv g)).toNat ≤ 16 := by omega
        have hp16 : 2 ^ (vQ (am_mv g)).toNat ≤ 2 ^ 16 := Nat.pow_le_pow_right (by omega) hN16
        have hsg : am_shl 1 (g 70 6) = ((2 ^ (vQ (am_mv g)).toNat : Nat) : Int) := by rw [← eN, am_shl1 (by omega)]
        have hpp := Nat.two_pow_pos (vQ (am_mv g)).toNat
        have key := am_im_fr (J := (Int × Int) × Option am_V) (a := 0) (n := 2 ^ (vQ (am_mv g)).toNat) (fun x j => ∃ m, an_bs (an_vd (v_hc (am_mv g) i) (v_hm (am_mv g)) k (¬ (1 : Int) = 0)) (an_su (v_wf (am_mv g))) x j.1.2 m ∧ j.1.1 = (if j.1.2 < 0 then -9 else m) ∧ -1 ≤ j.1.2) (fun x j => am_Wp d 263 44 [some (Sum.inr (Sum.inr 70)), some (Sum.inl (i)), some (Sum.inl (k)), some (Sum.inl (0)), some (Sum.inl (j.1.1)), some (Sum.inl (j.1.2)), some (Sum.inl ((x : Int))), j.2] [] (am_SH L, g, am_RR kp) Q) (by omega) (fun x j _ hx hj ih => ?_) (fun j hj => ?_) ((-9, -1), none) ⟨0, an_bs_0, rfl, Int.le_refl _⟩
        · exact key
        · obtain ⟨⟨bi, b⟩, j7⟩ := j
          obtain ⟨m, hb, hbi, hb1⟩ := hj
          dsimp only at hb hbi hb1
          have r105 : ∀ (bi2 b2 m2 : Int) (j8 : Option am_V), an_bs (an_vd (v_hc (am_mv g) i) (v_hm (am_mv g)) k (¬ (1 : Int) = 0)) (an_su (v_wf (am_mv g))) (x + 1) b2 m2 → bi2 = (if b2 < 0 then -9 else m2) → -1 ≤ b2 → am_Wp d 263 105 [some (Sum.inr (Sum.inr 70)), some (Sum.inl (i)), some (Sum.inl (k)), some (Sum.inl (0)), some (Sum.inl (bi2)), some (Sum.inl (b2)), some (Sum.inl ((x : Int))), j8] [] (am_SH L, g, am_RR kp) Q := fun bi2 b2 m2 j8 w1 w2 w3 => by
            rw [bq_M_hold_105, am_incn (by omega)]
            exact ih ((bi2, b2), j8) ⟨m2, w1, w2, w3⟩
          have hskip : ¬ (an_vd (v_hc (am_mv g) i) (v_hm (am_mv g)) k (¬ (1 : Int) = 0)) x → an_bs (an_vd (v_hc (am_mv g) i) (v_hm (am_mv g)) k (¬ (1 : Int) = 0)) (an_su (v_wf (am_mv g))) (x + 1) b m := fun w => an_bs_skip (by omega) (fun y h1 h2 => by rw [show y = x by omega]; exact w) hb
          show am_Wp d 263 44 [some (Sum.inr (Sum.inr 70)), some (Sum.inl (i)), some (Sum.inl (k)), some (Sum.inl (0)), some (Sum.inl (bi)), some (Sum.inl (b)), some (Sum.inl ((x : Int))), j7] [] (am_SH L, g, am_RR kp) Q
          rw [bq_M_hold_44 (by omega), hsg, if_neg (by omega), sp_M_onesOf (by omega)]
          simp only [Option.toList_some, Option.toList_none, List.cons_append, List.nil_append]
          rw [bq_M_hold_60 (by omega)]
          by_cases q3 : am_pc x = k
          · rw [if_pos q3]
            refine sp_M_worthOfSet (by omega) hv hx (fun hkd => ?_) (fun hkd => ?_)
            · have hP : (an_vd (v_hc (am_mv g) i) (v_hm (am_mv g)) k (¬ (1 : Int) = 0)) x := an_vd_kd.2 ⟨hkd, by omega, fun _ => q3⟩
              have hs : 0 ≤ an_su (v_wf (am_mv g)) x := an_su_pos (fun i hi => (v_worth_le hv (v_open_lt hv (hkd.1 i hi).1).2).1)
              have hst := an_bs_s hb hP hs
              simp only [Option.toList_some, Option.toList_none, List.cons_append, List.nil_append]
              rw [bq_M_hold_71]
              by_cases q4 : an_su (v_wf (am_mv g)) x ≤ b
              · rw [if_pos q4, if_pos q4] at hst
                rw [if_pos q4, bq_M_hold_87, if_pos q4, bq_M_hold_103]
                exact r105 _ _ m _ hst hbi hb1
              · rw [if_neg q4, if_neg q4] at hst
                rw [if_neg q4, bq_M_hold_87, if_neg q4, bq_M_hold_103]
                exact r105 _ _ (x : Int) _ hst (by rw [if_neg (by omega)]) (by omega)
            · simp only [Option.toList_some, Option.toList_none, List.cons_append, List.nil_append]
              rw [bq_M_hold_71, if_pos (by omega), bq_M_hold_87, if_pos (by omega), bq_M_hold_103]
              exact r105 _ _ m _ (hskip (fun w => hkd (an_vd_kd.1 w).1)) hbi hb1
          · rw [if_neg q3]
            exact r105 _ _ m _ (hskip (fun w => q3 (w.2.2.2 (by decide)))) hbi hb1
        · obtain ⟨⟨bi, b⟩, j7⟩ := j
          obtain ⟨m, hb, hbi, hb1⟩ := hj
          dsimp only at hb hbi hb1
          show am_Wp d 263 44 [some (Sum.inr (Sum.inr 70)), some (Sum.inl (i)), some (Sum.inl (k)), some (Sum.inl (0)), some (Sum.inl (bi)), some (Sum.inl (b)), some (Sum.inl (((2 ^ (vQ (am_mv g)).toNat : Nat) : Int))), j7] [] (am_SH L, g, am_RR kp) Q
          have h5 := an_bsv_eq (an_bs_skip hp16 (fun x h1 h2 hP => by
            have : x < 2 ^ (vQ (am_mv g)).toNat := Nat.lt_pow_two_of_testBit _ (fun i hi => by
              cases hbb : Nat.testBit x i with
              | false => rfl
              | true =>
                have := (v_open_lt hv (hP.1 i hbb).1).1
                omega)
            omega) hb)
          have h4 := h3 g kp am_keep_r
          unfold an_bsr at h4
          rw [h5] at h4
          rw [bq_M_hold_44 (by omega), hsg, if_pos (Int.le_refl _), hbi]
          exact h4