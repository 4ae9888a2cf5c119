/-! POWER of the reference -/
theorem lp_M_power_i {d L kp : Nat} {h : Nat → Nat → Int} {Q : Option am_V → am_H → Prop} {e t m y : Int} {o x : Nat} {j2 j9 j13 : Option am_V} (hd : 2 ≤ d) (hv : v_ok (am_mv h)) (hx : x < 128) : am_Wp d 280 175 [some (Sum.inr (Sum.inr 70)), some (Sum.inl (e)), j2, some (Sum.inl (t)), some (Sum.inl (v_all (am_mv h) e)), some (Sum.inl (v_owes (am_mv h) e (o : Int))), some (Sum.inl ((((v_vot (am_mv h) e o) : Nat) : Int))), some (Sum.inl (m)), some (Sum.inr (Sum.inl (y))), j9, some (Sum.inl ((x : Int))), some (Sum.inl (0)), some (Sum.inl (0)), j13] [] (am_SH L, h, am_RR kp) Q = am_Wp d 280 175 [some (Sum.inr (Sum.inr 70)), some (Sum.inl (e)), j2, some (Sum.inl (t)), some (Sum.inl (v_all (am_mv h) e)), some (Sum.inl (v_owes (am_mv h) e (o : Int))), some (Sum.inl ((((v_vot (am_mv h) e o) : Nat) : Int))), some (Sum.inl (m)), some (Sum.inr (Sum.inl (y))), j9, some (Sum.inl ((x : Int))), some (Sum.inl (v_vs (am_mv h) e x (h 70 0).toNat)), some (Sum.inl ((((h 70 0).toNat : Nat) : Int))), j13] [] (am_SH L, h, am_RR kp) Q := by
  have hQ := mv_Q hv
  have hP := mv_P hv
  have hD := mv_D hv
  refine am_up_eq (n := (h 70 0).toNat) (fun p => am_Wp d 280 175 [some (Sum.inr (Sum.inr 70)), some (Sum.inl (e)), j2, some (Sum.inl (t)), some (Sum.inl (v_all (am_mv h) e)), some (Sum.inl (v_owes (am_mv h) e (o : Int))), some (Sum.inl ((((v_vot (am_mv h) e o) : Nat) : Int))), some (Sum.inl (m)), some (Sum.inr (Sum.inl (y))), j9, some (Sum.inl ((x : Int))), some (Sum.inl (v_vs (am_mv h) e x p)), some (Sum.inl ((p : Int))), j13] [] (am_SH L, h, am_RR kp) Q) (am_Wp d 280 175 [some (Sum.inr (Sum.inr 70)), some (Sum.inl (e)), j2, some (Sum.inl (t)), some (Sum.inl (v_all (am_mv h) e)), some (Sum.inl (v_owes (am_mv h) e (o : Int))), some (Sum.inl ((((v_vot (am_mv h) e o) : Nat) : Int))), some (Sum.inl (m)), some (Sum.inr (Sum.inl (y))), j9, some (Sum.inl ((x : Int))), some (Sum.inl (v_vs (am_mv h) e x (h 70 0).toNat)), some (Sum.inl ((((h 70 0).toNat : Nat) : Int))), j13] [] (am_SH L, h, am_RR kp) Q) (fun p hp => ?_) rfl
  have b1 := v_vs_le hv (e := e) (x := x) (n := p) (by omega)
  have b2 := v_owes_le hv e (p : Int)
  refine (bq_M_power_175 (by omega)).trans ?_
  rw [if_neg (by omega), sp_M_hasBit (by omega) (by omega) (by omega) (by omega), am_has_tb (by omega) (by omega)]
  simp only [Option.toList_some, Option.toList_none, List.cons_append, List.nil_append]
  rw [bq_M_power_193 (by omega), v_vs_s]
  cases Nat.testBit x p with
  | false => rw [if_pos am_bif, bq_M_power_207, am_incn (by omega), am_add_ok (by omega) (by omega), cond_false]
  | true =>
    rw [if_neg am_b0, sp_M_owesOf hv]
    simp only [Option.toList_some, Option.toList_none, List.cons_append, List.nil_append]
    rw [bq_M_power_203, bq_M_power_207, am_incn (by omega), am_add_ok (by omega) (by omega), cond_true]
theorem lp_M_power {d L kp : Nat} {h : Nat → Nat → Int} {Q : Option am_V → am_H → Prop} {e t : Int} {o : Nat} {j2 : Option am_V} (j : Option am_V × Option am_V × Option am_V × Option am_V) {E : Prop} (hd : 2 ≤ d) (hv : v_ok (am_mv h)) (ho : (o : Int) < h 70 0) (h0 : 0 < v_owes (am_mv h) e (o : Int)) (hE : ∀ j : Option am_V × Option am_V × Option am_V × Option am_V, am_Wp d 280 275 [some (Sum.inr (Sum.inr 70)), some (Sum.inl (e)), j2, some (Sum.inl (t)), some (Sum.inl (v_all (am_mv h) e)), some (Sum.inl (v_owes (am_mv h) e (o : Int))), some (Sum.inl ((((v_vot (am_mv h) e o) : Nat) : Int))), some (Sum.inl (am_pc (v_vot (am_mv h) e o) + 1)), some (Sum.inr (Sum.inl (v_pw (am_mv h) e o (2 ^ (h 70 0).toNat)))), j.1, some (Sum.inl (((2 ^ (h 70 0).toNat : Nat) : Int))), j.2.1, j.2.2.1, j.2.2.2] [] (am_SH L, h, am_RR kp) Q = E) : am_Wp d 280 143 [some (Sum.inr (Sum.inr 70)), some (Sum.inl (e)), j2, some (Sum.inl (t)), some (Sum.inl (v_all (am_mv h) e)), some (Sum.inl (v_owes (am_mv h) e (o : Int))), some (Sum.inl ((((v_vot (am_mv h) e o) : Nat) : Int))), some (Sum.inl (am_pc (v_vot (am_mv h) e o) + 1)), some (Sum.inr (Sum.inl (v_pw (am_mv h) e o 0))), j.1, some (Sum.inl (0)), j.2.1, j.2.2.1, j.2.2.2] [] (am_SH L, h, am_RR kp) Q = E := by
  have hQ := mv_Q hv
  have hP := mv_P hv
  have hD := mv_D hv
  have hn7 : 2 ^ (h 70 0).toNat ≤ 2 ^ 7 := Nat.pow_le_pow_right (by omega) (by omega)
  have hsh : am_shl 1 (h 70 0) = ((2 ^ (h 70 0).toNat : Nat) : Int) := am_shl1i (by omega) (by omega)
  refine am_dn_fr (J := Option am_V × Option am_V × Option am_V × Option am_V) (a := 0) (n := 2 ^ (h 70 0).toNat) (fun x j => am_Wp d 280 143 [some (Sum.inr (Sum.inr 70)), some (Sum.inl (e)), j2, some (Sum.inl (t)), some (Sum.inl (v_all (am_mv h) e)), some (Sum.inl (v_owes (am_mv h) e (o : Int))), some (Sum.inl ((((v_vot (am_mv h) e o) : Nat) : Int))), some (Sum.inl (am_pc (v_vot (am_mv h) e o) + 1)), some (Sum.inr (Sum.inl (v_pw (am_mv h) e o x))), j.1, some (Sum.inl ((x : Int))), j.2.1, j.2.2.1, j.2.2.2] [] (am_SH L, h, am_RR kp) Q) E (Nat.zero_le _) (fun x _ hx ih j => ?_) (fun j => ?_) j
  · have lv : (v_vot (am_mv h) e o) < 2 ^ (h 70 0).toNat := am_bits_lt
    have b0 := v_pw_le hv (e := e) (o := o) (n := x) ho (by omega)
    have b4 := v_pt_le hv (e := e) (o := o) (x := x) ho
    have b1 := v_vs_le hv (e := e) (x := x) (n := (h 70 0).toNat) (by omega)
    have b2 := v_owes_le hv e (o : Int)
    have b3 := v_all_le hv e
    have es := v_pw_s (V := (am_mv h)) (e := e) (o := o) (n := x)
    have ih3 : ∀ j1 j2' j3 j4 : Option am_V, am_Wp d 280 143 [some (Sum.inr (Sum.inr 70)), some (Sum.inl (e)), j2, some (Sum.inl (t)), some (Sum.inl (v_all (am_mv h) e)), some (Sum.inl (v_owes (am_mv h) e (o : Int))), some (Sum.inl ((((v_vot (am_mv h) e o) : Nat) : Int))), some (Sum.inl (am_pc (v_vot (am_mv h) e o) + 1)), some (Sum.inr (Sum.inl (v_pw (am_mv h) e o (x + 1)))), j1, some (Sum.inl (((x + 1 : Nat) : Int))), j2', j3, j4] [] (am_SH L, h, am_RR kp) Q = E := fun j1 j2' j3 j4 => ih (j1, j2', j3, j4)
    have et : v_tn (am_mv h) e o x = (decide (an_dif x (v_vot (am_mv h) e o) = 0) && decide (2 * v_vs (am_mv h) e x (h 70 0).toNat ≤ v_all (am_mv h) e) && decide (v_all (am_mv h) e < 2 * (v_vs (am_mv h) e x (h 70 0).toNat + v_owes (am_mv h) e (o : Int)))) := rfl
    have ep : v_pt (am_mv h) e o x = bif v_tn (am_mv h) e o x then an_fac (am_pc x).toNat * an_fac (am_pc (v_vot (am_mv h) e o) - am_pc x).toNat else 0 := rfl
    have nul : v_tn (am_mv h) e o x = false → v_pw (am_mv h) e o (x + 1) = v_pw (am_mv h) e o x := fun w => by
      rw [w] at ep
      rw [es, ep]
      show _ + ((0 : Nat) : Int) = _
      omega
    refine (bq_M_power_143).trans ?_
    rw [hsh, if_neg (by omega), if_neg (by omega), an_dif_ok (by omega) (by omega)]
    have r265 : ∀ j9 j11 j12 j13, v_tn (am_mv h) e o x = false → am_Wp d 280 265 [some (Sum.inr (Sum.inr 70)), some (Sum.inl (e)), j2, some (Sum.inl (t)), some (Sum.inl (v_all (am_mv h) e)), some (Sum.inl (v_owes (am_mv h) e (o : Int))), some (Sum.inl ((((v_vot (am_mv h) e o) : Nat) : Int))), some (Sum.inl (am_pc (v_vot (am_mv h) e o) + 1)), some (Sum.inr (Sum.inl (v_pw (am_mv h) e o x))), j9, some (Sum.inl ((x : Int))), j11, j12, j13] [Sum.inr (Sum.inl (v_pw (am_mv h) e o x))] (am_SH L, h, am_RR kp) Q = E := fun j9 j11 j12 j13 w => by
      rw [bq_M_power_265, bq_M_power_266, bq_M_power_269, am_incn (by omega), an_ladd_ok (by omega) (by omega), Int.add_zero, ← nul w]
      exact ih3 _ _ _ _
    by_cases q1 : an_dif x (v_vot (am_mv h) e o) = 0
    · rw [if_pos (by omega), lp_M_power_i (by omega) hv (by omega), bq_M_power_175 (by omega), if_pos (by omega), sp_M_onesOf (by omega)]
      simp only [Option.toList_some, Option.toList_none, List.cons_append, List.nil_append]
      rw [bq_M_power_221 (by omega), am_mul_ok (by omega) (by omega), am_add_ok (by omega) (by omega), am_mul_ok (by omega) (by omega)]
      rw [decide_eq_true q1, Bool.true_and] at et
      by_cases q2 : v_all (am_mv h) e < 2 * v_vs (am_mv h) e x (h 70 0).toNat
      · rw [if_pos q2]
        rw [decide_eq_false (show ¬ 2 * v_vs (am_mv h) e x (h 70 0).toNat ≤ v_all (am_mv h) e by omega), Bool.false_and] at et
        exact r265 _ _ _ _ et
      · rw [if_neg q2]
        rw [decide_eq_true (show 2 * v_vs (am_mv h) e x (h 70 0).toNat ≤ v_all (am_mv h) e by omega), Bool.true_and] at et
        by_cases q3 : 2 * (v_vs (am_mv h) e x (h 70 0).toNat + v_owes (am_mv h) e (o : Int)) ≤ v_all (am_mv h) e
        · rw [if_pos q3]
          rw [decide_eq_false (show ¬ v_all (am_mv h) e < 2 * (v_vs (am_mv h) e x (h 70 0).toNat + v_owes (am_mv h) e (o : Int)) by omega)] at et
          exact r265 _ _ _ _ et
        · rw [if_neg q3]
          rw [decide_eq_true (show v_all (am_mv h) e < 2 * (v_vs (am_mv h) e x (h 70 0).toNat + v_owes (am_mv h) e (o : Int)) by omega)] at et
          have p1 := v_vot_pc hv ho et
          rw [et, cond_true] at ep
          obtain ⟨b, hbk⟩ := Int.eq_ofNat_of_zero_le p1.1
          obtain ⟨v, hvt⟩ := Int.eq_ofNat_of_zero_le (show 0 ≤ am_pc (v_vot (am_mv h) e o) by omega)
          rw [hbk, hvt] at p1 ep
          rw [show ((v : Int) - (b : Int)).toNat = v - b by omega, Int.toNat_natCast] at ep
          have ev : am_sub (am_sub (am_pc (v_vot (am_mv h) e o) + 1) 1) (b : Int) = ((v - b : Nat) : Int) := by
            rw [hvt, am_sub_ok (x := (v : Int) + 1) (y := 1) (by omega) (by omega), am_sub_ok (by omega) (by omega)]
            omega
          have m1 : am_lmul ((an_fac b : Nat) : Int) ((an_fac (v - b) : Nat) : Int) = ((v_pt (am_mv h) e o x : Nat) : Int) := by
            rw [ep] at b4 ⊢
            have b3 : ((an_fac b * an_fac (v - b) : Nat) : Int) = ((an_fac b : Nat) : Int) * ((an_fac (v - b) : Nat) : Int) := by push_cast; rfl
            rw [an_lmul_ok (by rw [← b3]; omega) (by rw [← b3]; omega), b3]
          rw [hbk, sp_M_faculty (by omega)]
          simp only [Option.toList_some, Option.toList_none, List.cons_append, List.nil_append]
          rw [bq_M_power_251 (by omega), ev, sp_M_faculty (by omega)]
          simp only [Option.toList_some, Option.toList_none, List.cons_append, List.nil_append]
          rw [bq_M_power_261, bq_M_power_266, bq_M_power_269, am_incn (by omega), m1, an_ladd_ok (by omega) (by omega), ← es]
          exact ih3 _ _ _ _
    · rw [decide_eq_false q1, Bool.false_and, Bool.false_and] at et
      rw [if_neg (by omega), bq_M_power_269, am_incn (by omega), ← nul et]
      exact ih3 _ _ _ _
  · refine (bq_M_power_143).trans ?_
    rw [hsh, if_pos (by omega)]
    exact hE j
theorem m_power {d L kp : Nat} {h : Nat → Nat → Int} {i e t : Int} (hd : 2 ≤ d) (hv : v_ok (am_mv h)) : am_An L 81 (a_power (am_mv h) i e t) h (fun Q => am_Wp d 280 0 [some (Sum.inr (Sum.inr 70)), some (Sum.inl i), some (Sum.inl e), some (Sum.inl t), none, none, none, none, none, none, none, none, none, none] [] (am_SH L, h, am_RR kp) Q) := by
  have hQ := mv_Q hv
  have hP := mv_P hv
  have hD := mv_D hv
  intro Q hq
  have hq2 : ∀ g' kq, am_keep (am_up h 70 13 0) g' → Q (some (a_power (am_mv h) i e t).1) (am_SH L, am_bump 81 (a_power (am_mv h) i e t).2 g', am_RR kq) := fun g' kq hk => hq g' kq (am_keep_t (am_keep_up rfl am_keep_r) hk)
  clear hq
  have hv2 : v_ok (am_mv (am_up h 70 13 0)) := hv
  try rw [show am_mv h = am_mv (am_up h 70 13 0) from rfl] at hq2
  show am_Wp d 280 0 [some (Sum.inr (Sum.inr 70)), some (Sum.inl i), some (Sum.inl e), some (Sum.inl t), none, none, none, none, none, none, none, none, none, none] [] (am_SH L, h, am_RR kp) Q
  refine (show _ = _ from bq_M_power_0 (by omega)).mpr ?_
  clear hv hQ hP hD
  generalize am_up h 70 13 0 = g at hq2 hv2 ⊢
  have hv := hv2
  have hQ := mv_Q hv2
  have hP := mv_P hv
  have hD := mv_D hv
  have r31 : ∀ r : Nat, (v_isP (am_mv g) i && v_isP (am_mv g) e) = false ∧ r = 1 ∨ ¬ (v_isP (am_mv g) i && v_isP (am_mv g) e) = false ∧ ¬ (t = 0 ∨ t = 1) ∧ r = 2 → am_Wp d 280 31 [some (Sum.inr (Sum.inr 70)), some (Sum.inl (i)), some (Sum.inl (e)), some (Sum.inl (t)), none, none, none, none, none, none, none, none, none, none] [] (am_SH L, g, am_RR kp) Q := fun r w => by
    have h3 := hq2 g kp am_keep_r
    unfold a_power at h3
    rw [bq_M_power_31 (by omega), sp_M_isOne (by omega) hv]
    simp only [Option.toList_some, Option.toList_none, List.cons_append, List.nil_append]
    rw [bq_M_power_40 (by omega)]
    have fin : ∀ z : Int, (z = -1 ∧ r = 1 ∨ z = -2 ∧ r = 2) → am_Wp d 280 57 [some (Sum.inr (Sum.inr 70)), some (Sum.inl (i)), some (Sum.inl (e)), some (Sum.inl (t)), none, none, none, none, none, none, none, none, none, none] [Sum.inl z, Sum.inr (Sum.inr 70), Sum.inr (Sum.inl 4000000000000000000)] (am_SH L, g, am_RR kp) Q := fun z hz => by
      rw [bq_M_power_57 (by omega), sp_M_refuse (by omega) (by omega)]
      simp only [Option.toList_some, Option.toList_none, List.cons_append, List.nil_append]
      rw [bq_M_power_60, an_lsub_ok (by omega) (by omega)]
      rcases w with ⟨w1, w2⟩ | ⟨w1, w2, w3⟩
      · rw [if_pos w1] at h3
        rcases hz with ⟨z1, z2⟩ | ⟨z1, z2⟩
        · rw [z1]; exact h3
        · omega
      · rw [if_neg w1, if_pos w2] at h3
        rcases hz with ⟨z1, z2⟩ | ⟨z1, z2⟩
        · omega
        · rw [z1]; exact h3
    cases hi : v_isP (am_mv g) i with
    | false =>
      rw [if_pos am_bif, bq_M_power_56]
      refine fin (-1) (Or.inl ⟨rfl, ?_⟩)
      rcases w with ⟨w1, w2⟩ | ⟨w1, w2, w3⟩
      · exact w2
      · exact absurd (by rw [hi]; rfl) w1
    | true =>
      rw [if_neg am_b0, sp_M_isOne (by omega) hv]
      simp only [Option.toList_some, Option.toList_none, List.cons_append, List.nil_append]
      rw [bq_M_power_48]
      cases he : v_isP (am_mv g) e with
      | false =>
        rw [if_pos am_bif, bq_M_power_56]
        refine fin (-1) (Or.inl ⟨rfl, ?_⟩)
        rcases w with ⟨w1, w2⟩ | ⟨w1, w2, w3⟩
        · exact w2
        · exact absurd (by rw [hi, he]; rfl) w1
      | true =>
        rw [if_neg am_b0]
        refine fin (-2) (Or.inr ⟨rfl, ?_⟩)
        rcases w with ⟨w1, w2⟩ | ⟨w1, w2, w3⟩
        · rw [hi, he] at w1; cases w1
        · exact w3
  rw [sp_M_isOne (by omega) hv]
  simp only [Option.toList_some, Option.toList_none, List.cons_append, List.nil_append]
  rw [bq_M_power_10 (by omega)]
  cases hi : v_isP (am_mv g) i with
  | false =>
    rw [if_pos am_bif]
    exact r31 1 (Or.inl ⟨by rw [hi]; rfl, rfl⟩)
  | true =>
    rw [if_neg am_b0, sp_M_isOne (by omega) hv]
    simp only [Option.toList_some, Option.toList_none, List.cons_append, List.nil_append]
    rw [bq_M_power_18 (by omega)]
    cases he : v_isP (am_mv g) e with
    | false =>
      rw [if_pos am_bif]
      exact r31 1 (Or.inl ⟨by rw [hi, he]; rfl, rfl⟩)
    | true =>
      have hie : ¬ (v_isP (am_mv g) i && v_isP (am_mv g) e) = false := by rw [hi, he]; simp
      rw [if_neg am_b0, sp_M_in]
      simp only [Option.toList_some, Option.toList_none, List.cons_append, List.nil_append]
      rw [bq_M_power_28 (by omega)]
      by_cases ht : 0 ≤ t ∧ t ≤ 1
      · have ht2 : t = 0 ∨ t = 1 := by omega
        clear r31
        have he2 := v_isP_iff.1 he
        dsimp only [vP, vQ, vD, vK, vF, vS, vU, vO, vH, vN, vE, vG, vT, am_mv, am_wv] at he2
        obtain ⟨o, rfl⟩ := Int.eq_ofNat_of_zero_le he2.1
        have h3 := hq2 g kp am_keep_r
        unfold a_power at h3
        rw [if_neg hie, if_neg (not_not_intro ht2), Int.toNat_natCast] at h3
        have h4 : Q (some (Sum.inr (Sum.inl (v_power (am_mv g) i o t)))) (am_SH L, g, am_RR kp) := h3
        clear h3
        have lv : v_vob (am_mv g) i o (g 70 0).toNat < 2 ^ (g 70 0).toNat := am_bits_lt
        have hn7 : 2 ^ (g 70 0).toNat ≤ 2 ^ 7 := Nat.pow_le_pow_right (by omega) (by omega)
        have evv : v_vob (am_mv g) i o (g 70 0).toNat = v_vot (am_mv g) i o := rfl
        rw [decide_eq_true ht, if_neg am_b0, sp_M_allOwedBy (by omega) hv]
        simp only [Option.toList_some, Option.toList_none, List.cons_append, List.nil_append]
        rw [bq_M_power_68 (by omega), sp_M_owesOf hv]
        simp only [Option.toList_some, Option.toList_none, List.cons_append, List.nil_append]
        rw [bq_M_power_76, lp_M_power_v (none, none, none, none, none, none) hd hv, bq_M_power_84 (by omega), if_pos (by omega), sp_M_onesOf (by omega)]
        simp only [Option.toList_some, Option.toList_none, List.cons_append, List.nil_append]
        have p1 := an_pc_le (x := v_vob (am_mv g) i o (g 70 0).toNat)
        rw [bq_M_power_133, am_add_ok (by omega) (by omega), evv]
        have b2 := v_owes_le hv i (o : Int)
        by_cases hown : 0 < v_owes (am_mv g) i (o : Int)
        · refine (lp_M_power (E := True) (none, none, none, none) hd hv he2.2 hown (fun j => eq_true ?_)).mpr trivial
          have ho : (o : Int) < vP (am_mv g) := he2.2
          have b1 := v_pw_le hv (e := i) (n := 2 ^ (g 70 0).toNat) ho hn7
          obtain ⟨A, hA⟩ := Int.eq_ofNat_of_zero_le b1.1
          obtain ⟨m, hm⟩ := Int.eq_ofNat_of_zero_le p1.1
          rw [evv] at hm
          have hpc := v_pc_vh hv ho hown
          have hlt := an_pc_lt (n := 7) (by omega) (v_vh_lt hv (n := (vQ (am_mv g)).toNat) (by show (g 70 6).toNat ≤ 16; omega) i)
          have hf7 := an_fac_7 (n := m + 1) (by omega)
          have hf0 := an_fac_pos (n := m + 1)
          have eA : (v_pab (am_mv g) i o).1 = A := by
            show (v_pw (am_mv g) i o (2 ^ (g 70 0).toNat)).toNat = A
            rw [hA, Int.toNat_natCast]
          have eB : (v_pab (am_mv g) i o).2 = an_fac (m + 1) := by
            show an_fac (am_pc (v_vot (am_mv g) i o) + 1).toNat = _
            rw [hm, show ((m : Int) + 1).toNat = m + 1 by omega]
          unfold v_power at h4
          rw [eA, eB] at h4
          rw [bq_M_power_275 (by omega), hA]
          simp only [an_lc0]
          by_cases q : A = 0
          · rw [if_pos q] at h4
            rw [if_pos (by omega)]
            exact h4
          · rw [if_neg q] at h4
            have em : am_pc (v_vot (am_mv g) i o) + 1 = ((m + 1 : Nat) : Int) := by omega
            rw [if_neg (by omega), em, sp_M_faculty (by omega)]
            simp only [Option.toList_some, Option.toList_none, List.cons_append, List.nil_append]
            rw [bq_M_power_290 (by omega), sp_M_divisor (by omega) (by omega)]
            simp only [Option.toList_some, Option.toList_none, List.cons_append, List.nil_append]
            have g0 : 0 < Nat.gcd A (an_fac (m + 1)) := Nat.gcd_pos_of_pos_right _ hf0
            have g1 : Nat.gcd A (an_fac (m + 1)) ≤ an_fac (m + 1) := Nat.gcd_le_right _ hf0
            have d1 : am_ldiv (A : Int) ((Nat.gcd A (an_fac (m + 1)) : Nat) : Int) = ((A / Nat.gcd A (an_fac (m + 1)) : Nat) : Int) := by
              rw [an_ldiv_ok (by omega) (by omega) (by omega) (by omega)]; rfl
            have d2 : am_ldiv ((an_fac (m + 1) : Nat) : Int) ((Nat.gcd A (an_fac (m + 1)) : Nat) : Int) = ((an_fac (m + 1) / Nat.gcd A (an_fac (m + 1)) : Nat) : Int) := by
              rw [an_ldiv_ok (by omega) (by omega) (by omega) (by omega)]; rfl
            have hn0 : (¬ ((Nat.gcd A (an_fac (m + 1)) : Nat) : Int) = 0) = True := eq_true (by omega)
            rw [bq_M_power_299, d1, d2]
            simp only [hn0, true_and, bq_M_power_318]
            by_cases qt : t = 0
            · rw [if_pos qt] at h4 ⊢
              exact h4
            · rw [if_neg qt] at h4 ⊢
              exact h4
        · have hsh : am_shl 1 (g 70 0) = ((2 ^ (g 70 0).toNat : Nat) : Int) := am_shl1i (by omega) (by omega)
          have hp0 := Nat.two_pow_pos (g 70 0).toNat
          have hA : (v_pab (am_mv g) i o).1 = 0 := by
            show (v_pw (am_mv g) i o (2 ^ (g 70 0).toNat)).toNat = 0
            have hz : v_pw (am_mv g) i o (2 ^ (g 70 0).toNat) = 0 := by
              unfold v_pw
              refine (am_sumb_eq (f := fun _ => 0) (fun x _ => ?_)).trans am_sumb_0
              have hx2 : v_pt (am_mv g) i o x = 0 := by
                unfold v_pt
                cases hx3 : v_tn (am_mv g) i o x with
                | false => rfl
                | true => exact absurd (v_tn_own hx3) hown
              show ((v_pt (am_mv g) i o x : Nat) : Int) = 0
              rw [hx2]; rfl
            rw [hz]; rfl
          unfold v_power at h4
          rw [if_pos hA] at h4
          rw [bq_M_power_143, hsh, if_neg (by omega), if_pos (by omega), bq_M_power_275 (by omega)]
          simp only [an_lc0]
          rw [if_pos trivial]
          exact h4
      · rw [decide_eq_false ht, if_pos am_bif]
        exact r31 2 (Or.inr ⟨hie, fun w => ht (by omega), rfl⟩)