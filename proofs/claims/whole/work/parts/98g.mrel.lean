/-! RELIEVED of the reference -/
def an_iv (P : Nat → Prop) (x : Nat) (v : Int) : Prop := (v = -1 ∧ ∀ y, y < x → ¬ P y) ∨ (∃ z : Nat, v = (z : Int) ∧ z < x ∧ P z ∧ ∀ y, y < x → P y → am_pc z ≤ am_pc y ∧ (y < z → am_pc z < am_pc y))
theorem an_iv_0 {P : Nat → Prop} : an_iv P 0 (-1) := Or.inl ⟨rfl, fun y hy => by omega⟩
theorem an_iv_n {P : Nat → Prop} {x : Nat} {v : Int} (h : an_iv P x v) (hn : ¬ P x ∨ ∃ z : Nat, v = (z : Int) ∧ am_pc z ≤ am_pc x) : an_iv P (x + 1) v := by
  rcases h with ⟨h1, h2⟩ | ⟨z, h1, h2, h3, h4⟩
  · refine Or.inl ⟨h1, fun y hy hp => ?_⟩
    by_cases q : y = x
    · rw [q] at hp
      rcases hn with hn | ⟨z, hn, _⟩
      · exact hn hp
      · omega
    · exact h2 y (by omega) hp
  · refine Or.inr ⟨z, h1, by omega, h3, fun y hy hp => ?_⟩
    by_cases q : y = x
    · rw [q] at hp ⊢
      rcases hn with hn | ⟨z2, hn, hn2⟩
      · exact absurd hp hn
      · rw [show z = z2 by omega]
        exact ⟨hn2, fun w => by omega⟩
    · exact h4 y (by omega) hp
theorem an_iv_y {P : Nat → Prop} {x : Nat} {v : Int} (h : an_iv P x v) (hp : P x) (hn : v = -1 ∨ ∃ z : Nat, v = (z : Int) ∧ am_pc x < am_pc z) : an_iv P (x + 1) (x : Int) := by
  refine Or.inr ⟨x, rfl, by omega, hp, fun y hy hq => ?_⟩
  by_cases q : y = x
  · rw [q]; exact ⟨Int.le_refl _, fun w => by omega⟩
  · rcases h with ⟨h1, h2⟩ | ⟨z, h1, h2, h3, h4⟩
    · exact absurd hq (h2 y (by omega))
    · have h5 := (h4 y (by omega) hq).1
      rcases hn with hn | ⟨z2, hn, hn2⟩
      · omega
      · rw [show z = z2 by omega] at h5
        exact ⟨by omega, fun _ => by omega⟩
theorem an_iv_z {P : Nat → Prop} {n : Nat} {v : Int} (hl : ∀ y, P y → y < n) (hex : ∃ y, P y) (h : an_iv P n v) : ∃ z : Nat, v = (z : Int) ∧ an_ls P z := by
  rcases h with ⟨h1, h2⟩ | ⟨z, h1, h2, h3, h4⟩
  · obtain ⟨y, hy⟩ := hex
    exact absurd hy (h2 y (hl y hy))
  · refine ⟨z, h1, h3, fun y hy => (h4 y (hl y hy) hy).1, fun y hy he => ?_⟩
    by_cases q : z ≤ y
    · exact q
    · have := (h4 y (hl y hy) hy).2 (by omega)
      omega
theorem lp_M_relieved_s {d L kp : Nat} {g : Nat → Nat → Int} {Q : Option am_V → am_H → Prop} {i w : Int} {x5 : Int} {U x : Nat} (hd : 5 ≤ d) (hv : v_ok (am_mv g)) (hx : x < 2 ^ (vQ (am_mv g)).toNat) (hnt : -640 ≤ (v_net (am_mv g) i) ∧ (v_net (am_mv g) i) ≤ 640) (K : ∀ j7 j8 : Option am_V, am_Wp d 279 207 [some (Sum.inr (Sum.inr 70)), some (Sum.inl (i)), some (Sum.inl (w)), some (Sum.inl ((v_net (am_mv g) i))), some (Sum.inl ((U : Int))), some (Sum.inl (x5)), some (Sum.inl ((x : Int))), j7, j8] [Sum.inl (if (v_net (am_mv g) i) + an_su (vN (am_mv g)) x < 0 then x5 else (x : Int))] (am_SH L, g, am_RR kp) Q) : am_Wp d 279 154 [some (Sum.inr (Sum.inr 70)), some (Sum.inl (i)), some (Sum.inl (w)), some (Sum.inl ((v_net (am_mv g) i))), some (Sum.inl ((U : Int))), some (Sum.inl (x5)), some (Sum.inl ((x : Int))), some (Sum.inl ((v_net (am_mv g) i))), some (Sum.inl (0))] [] (am_SH L, g, am_RR kp) Q := by

  have hQ := v_ok_Q hv
  have e76 : g 70 6 = (((vQ (am_mv g)).toNat : Nat) : Int) := by
    have e1 : vQ (am_mv g) = g 70 6 := rfl
    omega
  have hx16 : x < 2 ^ 16 := Nat.lt_of_lt_of_le hx (Nat.pow_le_pow_right (by omega) (by omega))
  have key := am_im_fr (J := Unit) (a := 0) (n := (vQ (am_mv g)).toNat) (fun _ _ => True) (fun p _ => am_Wp d 279 154 [some (Sum.inr (Sum.inr 70)), some (Sum.inl (i)), some (Sum.inl (w)), some (Sum.inl ((v_net (am_mv g) i))), some (Sum.inl ((U : Int))), some (Sum.inl (x5)), some (Sum.inl ((x : Int))), some (Sum.inl (((v_net (am_mv g) i) + an_su (vN (am_mv g)) (x % 2 ^ p)))), some (Sum.inl ((p : Int)))] [] (am_SH L, g, am_RR kp) Q) (by omega) (fun p _ _ hp _ ih => ?_) (fun _ _ => ?_) () True.intro
  · have e0 : x % 2 ^ 0 = 0 := by rw [Nat.pow_zero]; omega
    rw [e0, an_su_0, Int.add_zero] at key
    exact key
  · have ih2 := ih () True.intro
    have hs := an_su_le (f := vN (am_mv g)) (B := x % 2 ^ p) (fun r hr => by
      rw [Nat.testBit_mod_two_pow, Bool.and_eq_true, decide_eq_true_eq] at hr
      exact (v_ok_p hv r (by omega)).2.2.1)
    have es := an_su_mod (f := vN (am_mv g)) (x := x) (p := p) (by omega)
    have hfp := (v_ok_p hv p (by omega)).2.2.1
    have e77 : g 77 p = vN (am_mv g) p := rfl
    rw [bq_M_relieved_154 (by omega), e76, if_neg (by omega), sp_M_hasBit (by omega) (by omega) (by omega) (by omega), am_has_tb (by omega) (by omega)]
    simp only [Option.toList_some, Option.toList_none, List.cons_append, List.nil_append]
    rw [bq_M_relieved_172]
    cases hb : Nat.testBit x p with
    | false =>
      rw [hb, if_neg Bool.noConfusion] at es
      rw [if_pos am_bif, bq_M_relieved_186, am_incn (by omega), am_add_ok (by omega) (by omega)]
      rw [es, ← Int.add_assoc] at ih2
      exact ih2
    | true =>
      rw [hb, if_pos rfl] at es
      rw [if_neg am_b0, am_gd (by omega) (by omega), Int.toNat_natCast, e77, bq_M_relieved_186, am_incn (by omega), am_add_ok (by omega) (by omega)]
      rw [es, ← Int.add_assoc] at ih2
      exact ih2
  · rw [bq_M_relieved_154 (by omega), e76, if_pos (Int.le_refl _), Nat.mod_eq_of_lt hx]
    by_cases q : (v_net (am_mv g) i) + an_su (vN (am_mv g)) x < 0
    · have k2 := K (some (Sum.inl ((v_net (am_mv g) i) + an_su (vN (am_mv g)) x))) (some (Sum.inl (((vQ (am_mv g)).toNat : Nat) : Int)))
      rw [if_pos q] at k2 ⊢
      exact k2
    · have k2 := K (some (Sum.inl ((v_net (am_mv g) i) + an_su (vN (am_mv g)) x))) (some (Sum.inl (((vQ (am_mv g)).toNat : Nat) : Int)))
      rw [if_neg q] at k2 ⊢
      exact k2
theorem m_relieved {d L kp : Nat} {h : Nat → Nat → Int} {i w : Int} (hd : 30 ≤ d) (hv : v_ok (am_mv h)) : am_An L 81 (a_relieved (am_mv h) i w) h (fun Q => am_Wp d 279 0 [some (Sum.inr (Sum.inr 70)), some (Sum.inl i), some (Sum.inl w), none, none, none, none, none, none] [] (am_SH L, h, am_RR kp) Q) := by
  have hQ := mv_Q hv
  have hP := mv_P hv
  have hD := mv_D hv
  intro Q hq
  have hq2 : ∀ g' kq, am_keep (am_up h 70 13 0) g' → Q (some (a_relieved (am_mv h) i w).1) (am_SH L, am_bump 81 (a_relieved (am_mv h) i w).2 g', am_RR kq) := fun g' kq hk => hq g' kq (am_keep_t (am_keep_up rfl am_keep_r) hk)
  clear hq
  have hv2 : v_ok (am_mv (am_up h 70 13 0)) := hv
  try rw [show am_mv h = am_mv (am_up h 70 13 0) from rfl] at hq2
  show am_Wp d 279 0 [some (Sum.inr (Sum.inr 70)), some (Sum.inl i), some (Sum.inl w), none, none, none, none, none, none] [] (am_SH L, h, am_RR kp) Q
  refine (show _ = _ from bq_M_relieved_0 (by omega)).mpr ?_
  clear hv hQ hP hD
  generalize am_up h 70 13 0 = g at hq2 hv2 ⊢
  have hv := hv2
  have hQ := mv_Q hv2
  have hP := mv_P hv
  have hD := mv_D hv
  have h3 := hq2
  unfold a_relieved at h3
  have r23 : ∀ (e : Int), e = (if v_isP (am_mv g) i = false then -1 else -2) → Q (some (Sum.inl e)) (am_SH L, am_bump 81 (-e).toNat g, am_RR kp) → am_Wp d 279 23 [some (Sum.inr (Sum.inr 70)), some (Sum.inl (i)), some (Sum.inl (w)), none, none, none, none, none, none] [] (am_SH L, g, am_RR kp) Q := fun e he w2 => by
    rw [bq_M_relieved_23 (by omega), sp_M_isOne (by omega) hv]
    simp only [Option.toList_some, Option.toList_none, List.cons_append, List.nil_append]
    rw [bq_M_relieved_29]
    cases hi : v_isP (am_mv g) i with
    | false =>
      rw [hi, if_pos rfl] at he
      rw [if_pos am_bif, bq_M_relieved_38 (by omega), sp_M_refuse (by omega) (by omega)]
      simp only [Option.toList_some, Option.toList_none, List.cons_append, List.nil_append]
      rw [bq_M_relieved_41, ← he]
      exact w2
    | true =>
      rw [hi, if_neg Bool.noConfusion] at he
      rw [if_neg am_b0, bq_M_relieved_38 (by omega), sp_M_refuse (by omega) (by omega)]
      simp only [Option.toList_some, Option.toList_none, List.cons_append, List.nil_append]
      rw [bq_M_relieved_41, ← he]
      exact w2
  rw [sp_M_isOne (by omega) hv]
  simp only [Option.toList_some, Option.toList_none, List.cons_append, List.nil_append]
  rw [bq_M_relieved_10 (by omega)]
  cases hi : v_isP (am_mv g) i with
  | false =>
    rw [if_pos hi] at h3
    rw [if_pos am_bif]
    exact r23 (-1) (by rw [if_pos hi]) (h3 g kp am_keep_r)
  | true =>
    rw [if_neg (by rw [hi]; exact Bool.noConfusion)] at h3
    rw [if_neg am_b0, sp_M_in]
    simp only [Option.toList_some, Option.toList_none, List.cons_append, List.nil_append]
    rw [bq_M_relieved_20 (by omega)]
    have hi2 : 0 ≤ i ∧ i < g 70 0 := of_decide_eq_true hi
    by_cases q1 : w = 0 ∨ w = 1
    · rw [if_pos q1] at h3
      rw [decide_eq_true (show 0 ≤ w ∧ w ≤ 1 by omega), if_neg am_b0, sp_M_netOf (by omega) hv]
      simp only [Option.toList_some, Option.toList_none, List.cons_append, List.nil_append]
      rw [bq_M_relieved_47]
      have hnt := v_net_le hv hi2.1
      have hex := v_rp_ex hv hi2.1
      have eN : (((vQ (am_mv g)).toNat : Nat) : Int) = g 70 6 := by
        have e1 : vQ (am_mv g) = g 70 6 := rfl
        omega
      have hN16 : (vQ (am_mv g)).toNat ≤ 16 := by omega
      have hp16 : 2 ^ (vQ (am_mv g)).toNat ≤ 2 ^ 16 := Nat.pow_le_pow_right (by omega) hN16
      have hpp := Nat.two_pow_pos (vQ (am_mv g)).toNat
      have hsg : am_shl 1 (g 70 6) = ((2 ^ (vQ (am_mv g)).toNat : Nat) : Int) := by rw [← eN, am_shl1 (by omega)]
      have key := am_dn_fr (J := Unit) (a := 0) (n := (vQ (am_mv g)).toNat) (fun p _ => am_Wp d 279 54 [some (Sum.inr (Sum.inr 70)), some (Sum.inl (i)), some (Sum.inl (w)), some (Sum.inl ((v_net (am_mv g) i))), some (Sum.inl (((am_bits p (v_db (am_mv g) i) : Nat) : Int))), some (Sum.inl ((p : Int))), none, none, none] [] (am_SH L, g, am_RR kp) Q) (am_Wp d 279 54 [some (Sum.inr (Sum.inr 70)), some (Sum.inl (i)), some (Sum.inl (w)), some (Sum.inl ((v_net (am_mv g) i))), some (Sum.inl (((am_bits (vQ (am_mv g)).toNat (v_db (am_mv g) i) : Nat) : Int))), some (Sum.inl (((vQ (am_mv g)).toNat : Int))), none, none, none] [] (am_SH L, g, am_RR kp) Q) (by omega) (fun p _ hp ih _ => ?_) (fun _ => rfl) ()
      · refine (show _ = _ from key).mpr ?_
        have hutb : ∀ r, Nat.testBit (am_bits (vQ (am_mv g)).toNat (v_db (am_mv g) i)) r = true ↔ v_dc (am_mv g) i r := fun r => by
          rw [am_bits_tb, Bool.and_eq_true, decide_eq_true_eq, v_db_i]
          exact ⟨fun w => w.2, fun w => ⟨by have := (v_open_lt hv w.1).1; omega, w⟩⟩
        have hul : am_bits (vQ (am_mv g)).toNat (v_db (am_mv g) i) < 2 ^ (vQ (am_mv g)).toNat := am_bits_lt
        generalize am_bits (vQ (am_mv g)).toNat (v_db (am_mv g) i) = U at hutb hul ⊢
        rw [bq_M_relieved_54, if_pos (by omega)]
        refine am_im_fr (J := Int × Option am_V × Option am_V) (a := 0) (n := 2 ^ (vQ (am_mv g)).toNat) (fun x j => an_iv (v_rp (am_mv g) i) x j.1) (fun x j => am_Wp d 279 109 [some (Sum.inr (Sum.inr 70)), some (Sum.inl (i)), some (Sum.inl (w)), some (Sum.inl ((v_net (am_mv g) i))), some (Sum.inl ((U : Int))), some (Sum.inl (j.1)), some (Sum.inl ((x : Int))), j.2.1, j.2.2] [] (am_SH L, g, am_RR kp) Q) (by omega) (fun x j _ hx hj ih => ?_) (fun j hj => ?_) (-1, none, none) an_iv_0
        · obtain ⟨v, j7, j8⟩ := j
          have hj2 : an_iv (v_rp (am_mv g) i) x v := hj
          have r209 : ∀ (v2 : Int) (j7 j8 : Option am_V), an_iv (v_rp (am_mv g) i) (x + 1) v2 → am_Wp d 279 209 [some (Sum.inr (Sum.inr 70)), some (Sum.inl (i)), some (Sum.inl (w)), some (Sum.inl ((v_net (am_mv g) i))), some (Sum.inl ((U : Int))), some (Sum.inl (v2)), some (Sum.inl ((x : Int))), j7, j8] [] (am_SH L, g, am_RR kp) Q := fun v2 j7 j8 w => by
            rw [bq_M_relieved_209, am_incn (by omega)]
            exact ih (v2, j7, j8) w
          have hP : (v_rp (am_mv g) i) x ↔ (an_dif x U = 0 ∧ 0 ≤ (v_net (am_mv g) i) + an_su (vN (am_mv g)) x) := by
            unfold v_rp
            rw [an_dif_0]
            exact ⟨fun w => ⟨fun r hr => (hutb r).2 (w.1 r hr), w.2⟩, fun w => ⟨fun r hr => (hutb r).1 (w.1 r hr), w.2⟩⟩
          have r148 : an_dif x U = 0 → (v = -1 ∨ ∃ z : Nat, v = (z : Int) ∧ am_pc x < am_pc z) → am_Wp d 279 148 [some (Sum.inr (Sum.inr 70)), some (Sum.inl (i)), some (Sum.inl (w)), some (Sum.inl ((v_net (am_mv g) i))), some (Sum.inl ((U : Int))), some (Sum.inl (v)), some (Sum.inl ((x : Int))), j7, j8] [] (am_SH L, g, am_RR kp) Q := fun w1 w2 => by
            rw [bq_M_relieved_148]
            refine lp_M_relieved_s (by omega) hv hx hnt (fun j7 j8 => ?_)
            rw [bq_M_relieved_207]
            by_cases q : (v_net (am_mv g) i) + an_su (vN (am_mv g)) x < 0
            · rw [if_pos q]
              exact r209 _ _ _ (an_iv_n hj2 (Or.inl (fun w3 => by have := (hP.1 w3).2; omega)))
            · rw [if_neg q]
              exact r209 _ _ _ (an_iv_y hj2 (hP.2 ⟨w1, by omega⟩) w2)
          show am_Wp d 279 109 [some (Sum.inr (Sum.inr 70)), some (Sum.inl (i)), some (Sum.inl (w)), some (Sum.inl ((v_net (am_mv g) i))), some (Sum.inl ((U : Int))), some (Sum.inl (v)), some (Sum.inl ((x : Int))), j7, j8] [] (am_SH L, g, am_RR kp) Q
          rw [bq_M_relieved_109 (by omega), hsg, if_neg (by omega), an_dif_ok (by omega) (by omega)]
          by_cases q1 : an_dif x U = 0
          · rw [if_pos (by omega)]
            rcases hj2 with ⟨a1, a2⟩ | ⟨z, a1, a2, a3, a4⟩
            · rw [if_pos (by omega)]
              exact r148 q1 (Or.inl a1)
            · rw [if_neg (by omega), sp_M_onesOf (by omega)]
              simp only [Option.toList_some, Option.toList_none, List.cons_append, List.nil_append]
              rw [bq_M_relieved_140 (by omega), a1, sp_M_onesOf (by omega)]
              simp only [Option.toList_some, Option.toList_none, List.cons_append, List.nil_append]
              rw [bq_M_relieved_145]
              by_cases q2 : am_pc z ≤ am_pc x
              · rw [if_pos q2, ← a1]
                exact r209 _ _ _ (an_iv_n hj (Or.inr ⟨z, a1, q2⟩))
              · rw [if_neg q2, ← a1]
                exact r148 q1 (Or.inr ⟨z, a1, by omega⟩)
          · rw [if_neg (by omega)]
            exact r209 _ _ _ (an_iv_n hj2 (Or.inl (fun w => q1 (hP.1 w).1)))
        · obtain ⟨v, j7, j8⟩ := j
          obtain ⟨z, z1, z2⟩ := an_iv_z (fun y hy => (an_np_lt hv hy.1).1) hex hj
          have z1b : v = (z : Int) := z1
          have hzl := (an_np_lt hv z2.1.1).2
          rw [an_ls_bs hzl z2] at h3
          dsimp only at h3
          have h4 := h3 g kp am_keep_r
          show am_Wp d 279 109 [some (Sum.inr (Sum.inr 70)), some (Sum.inl (i)), some (Sum.inl (w)), some (Sum.inl ((v_net (am_mv g) i))), some (Sum.inl ((U : Int))), some (Sum.inl (v)), some (Sum.inl ((2 ^ (vQ (am_mv g)).toNat : Nat))), j7, j8] [] (am_SH L, g, am_RR kp) Q
          rw [bq_M_relieved_109 (by omega), hsg, if_pos (Int.le_refl _), z1b]
          by_cases q : w = 0
          · rw [if_pos q, show 16 - (16 - am_pc z) = am_pc z by omega] at h4
            rw [if_pos q, sp_M_onesOf (by omega)]
            simp only [Option.toList_some, Option.toList_none, List.cons_append, List.nil_append]
            rw [bq_M_relieved_224, bq_M_relieved_229]
            exact h4
          · rw [if_neg q] at h4
            rw [if_neg q, bq_M_relieved_229]
            exact h4
      · have es := am_bits_i (b := p) (c := v_db (am_mv g) i) (by omega)
        have e80 : g 80 p = vT (am_mv g) p := rfl
        have e75 : g 75 p = vO (am_mv g) p := rfl
        have hul : am_bits p (v_db (am_mv g) i) < 2 ^ p := am_bits_lt
        have hp2 : 2 ^ p < 2 ^ 16 := Nat.pow_lt_pow_right (by omega) (by omega)
        have ih2 := ih ()
        have eo : v_open (am_mv g) (p : Int) = true ↔ vT (am_mv g) p = 0 := by
          unfold v_open v_isQ
          have e1 : vQ (am_mv g) = g 70 6 := rfl
          rw [am_lk_nat (by omega), Bool.and_eq_true, decide_eq_true_eq, decide_eq_true_eq]
          exact ⟨fun w => w.2, fun w => ⟨⟨by omega, by omega⟩, w⟩⟩
        have ed : v_db (am_mv g) i p = true ↔ (vT (am_mv g) p = 0 ∧ vO (am_mv g) p = i) := by
          rw [v_db_i]
          unfold v_dc
          rw [eo]
        have e3 : am_or ((am_bits p (v_db (am_mv g) i) : Nat) : Int) 0 = ((am_bits p (v_db (am_mv g) i) : Nat) : Int) := by
          have := am_or_ok (a := am_bits p (v_db (am_mv g) i)) (b := 0) (by omega) (by omega)
          rw [Nat.or_zero] at this
          exact this
        rw [bq_M_relieved_54, if_neg (by omega), am_gd (by omega) (by omega), am_gd (by omega) (by omega), Int.toNat_natCast, e80, e75]
        refine Eq.trans ?_ ih2
        rw [es]
        by_cases q1 : vT (am_mv g) p = 0
        · rw [if_pos q1]
          by_cases q2 : vO (am_mv g) p = i
          · rw [if_pos q2, bq_M_relieved_94, am_incn (by omega), if_pos (ed.2 ⟨q1, q2⟩)]
          · rw [if_neg q2, bq_M_relieved_93, bq_M_relieved_94, am_incn (by omega), e3, if_neg (fun w => q2 (ed.1 w).2)]
        · rw [if_neg q1, bq_M_relieved_93, bq_M_relieved_94, am_incn (by omega), e3, if_neg (fun w => q1 (ed.1 w).1)]
    · rw [if_neg q1] at h3
      rw [decide_eq_false (show ¬ (0 ≤ w ∧ w ≤ 1) by omega), if_pos am_bif]
      exact r23 (-2) (by rw [if_neg (by rw [hi]; exact Bool.noConfusion)]) (h3 g kp am_keep_r)