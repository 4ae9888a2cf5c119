/-! SWINGS, CORNER, POWER of the reference -/
def v_vob (V : am_Vw) (e : Int) (o n : Nat) : Nat := am_bits n (fun p => !decide (p = o) && decide (0 < v_owes V e (p : Int)))
theorem v_vob_i {V : am_Vw} {e : Int} {o n : Nat} (hn : n < 30) : ((v_vob V e o (n + 1) : Nat) : Int) = if (!decide (n = o) && decide (0 < v_owes V e (n : Int))) = true then am_or ((v_vob V e o n : Nat) : Int) (am_shl 1 (n : Int)) else ((v_vob V e o n : Nat) : Int) := am_bits_i hn
theorem v_vob_lt {V : am_Vw} {e : Int} {o n : Nat} : v_vob V e o n < 2 ^ n := am_bits_lt
theorem lp_M_swings_v {d L kp : Nat} {h : Nat → Nat → Int} {Q : Option am_V → am_H → Prop} {e : Int} {o : Nat} {x3 x4 : Int} (j : Option am_V × Option am_V × Option am_V) (hd : 2 ≤ d) (hv : v_ok (am_mv h)) : am_Wp d 247 47 [some (Sum.inr (Sum.inr 70)), some (Sum.inl (e)), some (Sum.inl ((o : Int))), some (Sum.inl (x3)), some (Sum.inl (x4)), some (Sum.inl (0)), some (Sum.inl (0)), j.1, j.2.1, j.2.2] [] (am_SH L, h, am_RR kp) Q = am_Wp d 247 47 [some (Sum.inr (Sum.inr 70)), some (Sum.inl (e)), some (Sum.inl ((o : Int))), some (Sum.inl (x3)), some (Sum.inl (x4)), some (Sum.inl (((v_vob (am_mv h) e o (h 70 0).toNat : Nat) : Int))), some (Sum.inl ((((h 70 0).toNat : Nat) : Int))), j.1, j.2.1, j.2.2] [] (am_SH L, h, am_RR kp) Q := by
  have hQ := mv_Q hv
  have hP := mv_P hv
  have hD := mv_D hv
  refine am_up_eq (n := (h 70 0).toNat) (fun p => am_Wp d 247 47 [some (Sum.inr (Sum.inr 70)), some (Sum.inl (e)), some (Sum.inl ((o : Int))), some (Sum.inl (x3)), some (Sum.inl (x4)), some (Sum.inl (((v_vob (am_mv h) e o p : Nat) : Int))), some (Sum.inl ((p : Int))), j.1, j.2.1, j.2.2] [] (am_SH L, h, am_RR kp) Q) (am_Wp d 247 47 [some (Sum.inr (Sum.inr 70)), some (Sum.inl (e)), some (Sum.inl ((o : Int))), some (Sum.inl (x3)), some (Sum.inl (x4)), some (Sum.inl (((v_vob (am_mv h) e o (h 70 0).toNat : Nat) : Int))), some (Sum.inl ((((h 70 0).toNat : Nat) : Int))), j.1, j.2.1, j.2.2] [] (am_SH L, h, am_RR kp) Q) (fun p hp => ?_) rfl
  have b0 := v_vob_lt (V := (am_mv h)) (e := e) (o := o) (n := p)
  have b1 : 2 ^ p ≤ 2 ^ 7 := Nat.pow_le_pow_right (by omega) (by omega)
  have ei := v_vob_i (V := (am_mv h)) (e := e) (o := o) (n := p) (by omega)
  have e0 : am_or ((v_vob (am_mv h) e o p : Nat) : Int) 0 = ((v_vob (am_mv h) e o p : Nat) : Int) := am_or_0 ⟨by omega, by omega⟩
  refine (bq_M_swings_47 (by omega)).trans ?_
  rw [if_neg (by omega)]
  by_cases q1 : p = o
  · rw [decide_eq_true q1, if_neg (by simp)] at ei
    rw [if_pos (by omega), bq_M_swings_81, bq_M_swings_82, am_incn (by omega), e0, ei]
  · rw [if_neg (by omega), sp_M_owesOf hv]
    simp only [Option.toList_some, Option.toList_none, List.cons_append, List.nil_append]
    rw [bq_M_swings_71]
    by_cases q2 : v_owes (am_mv h) e (p : Int) ≤ 0
    · rw [decide_eq_false q1, decide_eq_false (show ¬ 0 < v_owes (am_mv h) e (p : Int) by omega), if_neg (by simp)] at ei
      rw [if_pos q2, bq_M_swings_81, bq_M_swings_82, am_incn (by omega), e0, ei]
    · rw [decide_eq_false q1, decide_eq_true (show 0 < v_owes (am_mv h) e (p : Int) by omega), if_pos (by simp)] at ei
      rw [if_neg q2, bq_M_swings_82, am_incn (by omega), ei]
theorem lp_M_power_v {d L kp : Nat} {h : Nat → Nat → Int} {Q : Option am_V → am_H → Prop} {e : Int} {o : Nat} {x3 x4 x5 : Int} (j : Option am_V × Option am_V × Option am_V × Option am_V × Option am_V × Option am_V) (hd : 2 ≤ d) (hv : v_ok (am_mv h)) : am_Wp d 280 84 [some (Sum.inr (Sum.inr 70)), some (Sum.inl (e)), some (Sum.inl ((o : Int))), some (Sum.inl (x3)), some (Sum.inl (x4)), some (Sum.inl (x5)), some (Sum.inl (0)), some (Sum.inl (0)), j.1, j.2.1, j.2.2.1, j.2.2.2.1, j.2.2.2.2.1, j.2.2.2.2.2] [] (am_SH L, h, am_RR kp) Q = am_Wp d 280 84 [some (Sum.inr (Sum.inr 70)), some (Sum.inl (e)), some (Sum.inl ((o : Int))), some (Sum.inl (x3)), some (Sum.inl (x4)), some (Sum.inl (x5)), some (Sum.inl (((v_vob (am_mv h) e o (h 70 0).toNat : Nat) : Int))), some (Sum.inl ((((h 70 0).toNat : Nat) : Int))), j.1, j.2.1, j.2.2.1, j.2.2.2.1, j.2.2.2.2.1, j.2.2.2.2.2] [] (am_SH L, h, am_RR kp) Q := by
  have hQ := mv_Q hv
  have hP := mv_P hv
  have hD := mv_D hv
  refine am_up_eq (n := (h 70 0).toNat) (fun p => am_Wp d 280 84 [some (Sum.inr (Sum.inr 70)), some (Sum.inl (e)), some (Sum.inl ((o : Int))), some (Sum.inl (x3)), some (Sum.inl (x4)), some (Sum.inl (x5)), some (Sum.inl (((v_vob (am_mv h) e o p : Nat) : Int))), some (Sum.inl ((p : Int))), j.1, j.2.1, j.2.2.1, j.2.2.2.1, j.2.2.2.2.1, j.2.2.2.2.2] [] (am_SH L, h, am_RR kp) Q) (am_Wp d 280 84 [some (Sum.inr (Sum.inr 70)), some (Sum.inl (e)), some (Sum.inl ((o : Int))), some (Sum.inl (x3)), some (Sum.inl (x4)), some (Sum.inl (x5)), some (Sum.inl (((v_vob (am_mv h) e o (h 70 0).toNat : Nat) : Int))), some (Sum.inl ((((h 70 0).toNat : Nat) : Int))), j.1, j.2.1, j.2.2.1, j.2.2.2.1, j.2.2.2.2.1, j.2.2.2.2.2] [] (am_SH L, h, am_RR kp) Q) (fun p hp => ?_) rfl
  have b0 := v_vob_lt (V := (am_mv h)) (e := e) (o := o) (n := p)
  have b1 : 2 ^ p ≤ 2 ^ 7 := Nat.pow_le_pow_right (by omega) (by omega)
  have ei := v_vob_i (V := (am_mv h)) (e := e) (o := o) (n := p) (by omega)
  have e0 : am_or ((v_vob (am_mv h) e o p : Nat) : Int) 0 = ((v_vob (am_mv h) e o p : Nat) : Int) := am_or_0 ⟨by omega, by omega⟩
  refine (bq_M_power_84 (by omega)).trans ?_
  rw [if_neg (by omega)]
  by_cases q1 : p = o
  · rw [decide_eq_true q1, if_neg (by simp)] at ei
    rw [if_pos (by omega), bq_M_power_118, bq_M_power_119, am_incn (by omega), e0, ei]
  · rw [if_neg (by omega), sp_M_owesOf hv]
    simp only [Option.toList_some, Option.toList_none, List.cons_append, List.nil_append]
    rw [bq_M_power_108]
    by_cases q2 : v_owes (am_mv h) e (p : Int) ≤ 0
    · rw [decide_eq_false q1, decide_eq_false (show ¬ 0 < v_owes (am_mv h) e (p : Int) by omega), if_neg (by simp)] at ei
      rw [if_pos q2, bq_M_power_118, bq_M_power_119, am_incn (by omega), e0, ei]
    · rw [decide_eq_false q1, decide_eq_true (show 0 < v_owes (am_mv h) e (p : Int) by omega), if_pos (by simp)] at ei
      rw [if_neg q2, bq_M_power_119, am_incn (by omega), ei]
theorem lp_M_swings_i {d L kp : Nat} {h : Nat → Nat → Int} {Q : Option am_V → am_H → Prop} {e s : Int} {o x : Nat} {j2 : Option am_V} (hd : 2 ≤ d) (hv : v_ok (am_mv h)) (hx : x < 128) : am_Wp d 247 124 [some (Sum.inr (Sum.inr 70)), some (Sum.inl (e)), j2, some (Sum.inl (v_all (am_mv h) e)), some (Sum.inl (v_owes (am_mv h) e (o : Int))), some (Sum.inl ((((v_vot (am_mv h) e o) : Nat) : Int))), some (Sum.inl (s)), some (Sum.inl ((x : Int))), some (Sum.inl (0)), some (Sum.inl (0))] [] (am_SH L, h, am_RR kp) Q = am_Wp d 247 124 [some (Sum.inr (Sum.inr 70)), some (Sum.inl (e)), j2, some (Sum.inl (v_all (am_mv h) e)), some (Sum.inl (v_owes (am_mv h) e (o : Int))), some (Sum.inl ((((v_vot (am_mv h) e o) : Nat) : Int))), some (Sum.inl (s)), some (Sum.inl ((x : Int))), some (Sum.inl (v_vs (am_mv h) e x (h 70 0).toNat)), some (Sum.inl ((((h 70 0).toNat : Nat) : Int)))] [] (am_SH L, h, am_RR kp) Q := by
  have hQ := mv_Q hv
  have hP := mv_P hv
  have hD := mv_D hv
  refine am_up_eq (n := (h 70 0).toNat) (fun p => am_Wp d 247 124 [some (Sum.inr (Sum.inr 70)), some (Sum.inl (e)), j2, some (Sum.inl (v_all (am_mv h) e)), some (Sum.inl (v_owes (am_mv h) e (o : Int))), some (Sum.inl ((((v_vot (am_mv h) e o) : Nat) : Int))), some (Sum.inl (s)), some (Sum.inl ((x : Int))), some (Sum.inl (v_vs (am_mv h) e x p)), some (Sum.inl ((p : Int)))] [] (am_SH L, h, am_RR kp) Q) (am_Wp d 247 124 [some (Sum.inr (Sum.inr 70)), some (Sum.inl (e)), j2, some (Sum.inl (v_all (am_mv h) e)), some (Sum.inl (v_owes (am_mv h) e (o : Int))), some (Sum.inl ((((v_vot (am_mv h) e o) : Nat) : Int))), some (Sum.inl (s)), some (Sum.inl ((x : Int))), some (Sum.inl (v_vs (am_mv h) e x (h 70 0).toNat)), some (Sum.inl ((((h 70 0).toNat : Nat) : Int)))] [] (am_SH L, h, am_RR kp) Q) (fun p hp => ?_) rfl
  have b1 := v_vs_le hv (e := e) (x := x) (n := p) (by omega)
  have b2 := v_owes_le hv e (p : Int)
  refine (bq_M_swings_124 (by omega)).trans ?_
  rw [if_neg (by omega), sp_M_hasBit (by omega) (by omega) (by omega) (by omega), am_has_tb (by omega) (by omega)]
  simp only [Option.toList_some, Option.toList_none, List.cons_append, List.nil_append]
  rw [bq_M_swings_142 (by omega), v_vs_s]
  cases Nat.testBit x p with
  | false => rw [if_pos am_bif, bq_M_swings_156, am_incn (by omega), am_add_ok (by omega) (by omega), cond_false]
  | true =>
    rw [if_neg am_b0, sp_M_owesOf hv]
    simp only [Option.toList_some, Option.toList_none, List.cons_append, List.nil_append]
    rw [bq_M_swings_152, bq_M_swings_156, am_incn (by omega), am_add_ok (by omega) (by omega), cond_true]
theorem lp_M_swings {d L kp : Nat} {h : Nat → Nat → Int} {Q : Option am_V → am_H → Prop} {e : Int} {o : Nat} {j2 : Option am_V} (j : Option am_V × Option am_V) (hd : 2 ≤ d) (hv : v_ok (am_mv h)) : am_Wp d 247 97 [some (Sum.inr (Sum.inr 70)), some (Sum.inl (e)), j2, some (Sum.inl (v_all (am_mv h) e)), some (Sum.inl (v_owes (am_mv h) e (o : Int))), some (Sum.inl ((((v_vot (am_mv h) e o) : Nat) : Int))), some (Sum.inl (v_sw (am_mv h) e o 0)), some (Sum.inl (0)), j.1, j.2] [] (am_SH L, h, am_RR kp) Q = Q (some (Sum.inl (v_sw (am_mv h) e o (2 ^ (h 70 0).toNat)))) (am_SH L, h, am_RR kp) := by
  have hQ := mv_Q hv
  have hP := mv_P hv
  have hD := mv_D hv
  have hn7 : 2 ^ (h 70 0).toNat ≤ 2 ^ 7 := Nat.pow_le_pow_right (by omega) (by omega)
  have hsh : am_shl 1 (h 70 0) = ((2 ^ (h 70 0).toNat : Nat) : Int) := am_shl1i (by omega) (by omega)
  refine am_dn_fr (J := Option am_V × Option am_V) (a := 0) (n := 2 ^ (h 70 0).toNat) (fun x j => am_Wp d 247 97 [some (Sum.inr (Sum.inr 70)), some (Sum.inl (e)), j2, some (Sum.inl (v_all (am_mv h) e)), some (Sum.inl (v_owes (am_mv h) e (o : Int))), some (Sum.inl ((((v_vot (am_mv h) e o) : Nat) : Int))), some (Sum.inl (v_sw (am_mv h) e o x)), some (Sum.inl ((x : Int))), j.1, j.2] [] (am_SH L, h, am_RR kp) Q) (Q (some (Sum.inl (v_sw (am_mv h) e o (2 ^ (h 70 0).toNat)))) (am_SH L, h, am_RR kp)) (Nat.zero_le _) (fun x _ hx ih j => ?_) (fun j => ?_) j
  · have lv : (v_vot (am_mv h) e o) < 2 ^ (h 70 0).toNat := am_bits_lt
    have b0 := v_sw_le (V := (am_mv h)) (e := e) (o := o) (n := x)
    have b1 := v_vs_le hv (e := e) (x := x) (n := (h 70 0).toNat) (by omega)
    have b2 := v_owes_le hv e (o : Int)
    have b3 := v_all_le hv e
    have ih3 : ∀ j1 j2' : Option am_V, am_Wp d 247 97 [some (Sum.inr (Sum.inr 70)), some (Sum.inl (e)), j2, some (Sum.inl (v_all (am_mv h) e)), some (Sum.inl (v_owes (am_mv h) e (o : Int))), some (Sum.inl ((((v_vot (am_mv h) e o) : Nat) : Int))), some (Sum.inl (v_sw (am_mv h) e o x + (bif v_tn (am_mv h) e o x then 1 else 0))), some (Sum.inl (((x + 1 : Nat) : Int))), j1, j2'] [] (am_SH L, h, am_RR kp) Q = Q (some (Sum.inl (v_sw (am_mv h) e o (2 ^ (h 70 0).toNat)))) (am_SH L, h, am_RR kp) := fun j1 j2' => ih (j1, j2')
    have et : v_tn (am_mv h) e o x = (decide (an_dif x (v_vot (am_mv h) e o) = 0) && decide (2 * v_vs (am_mv h) e x (h 70 0).toNat ≤ v_all (am_mv h) e) && decide (v_all (am_mv h) e < 2 * (v_vs (am_mv h) e x (h 70 0).toNat + v_owes (am_mv h) e (o : Int)))) := rfl
    refine (bq_M_swings_97).trans ?_
    rw [hsh, if_neg (by omega), an_dif_ok (by omega) (by omega)]
    by_cases q1 : an_dif x (v_vot (am_mv h) e o) = 0
    · rw [if_pos (by omega), lp_M_swings_i (by omega) hv (by omega), bq_M_swings_124 (by omega), if_pos (by omega), am_mul_ok (by omega) (by omega), am_add_ok (by omega) (by omega), am_mul_ok (by omega) (by omega)]
      simp only [bq_M_swings_190, bq_M_swings_191, bq_M_swings_194]
      rw [am_incn (by omega)]
      rw [decide_eq_true q1, Bool.true_and] at et
      by_cases q2 : v_all (am_mv h) e < 2 * v_vs (am_mv h) e x (h 70 0).toNat
      · rw [decide_eq_false (show ¬ 2 * v_vs (am_mv h) e x (h 70 0).toNat ≤ v_all (am_mv h) e by omega), Bool.false_and] at et
        rw [et] at ih3
        rw [if_pos q2, am_add_ok (by omega) (by omega)]
        exact ih3 _ _
      · rw [decide_eq_true (show 2 * v_vs (am_mv h) e x (h 70 0).toNat ≤ v_all (am_mv h) e by omega), Bool.true_and] at et
        rw [if_neg q2]
        by_cases q3 : 2 * (v_vs (am_mv h) e x (h 70 0).toNat + v_owes (am_mv h) e (o : Int)) ≤ v_all (am_mv h) e
        · rw [decide_eq_false (show ¬ v_all (am_mv h) e < 2 * (v_vs (am_mv h) e x (h 70 0).toNat + v_owes (am_mv h) e (o : Int)) by omega)] at et
          rw [et] at ih3
          rw [if_pos q3, am_add_ok (by omega) (by omega)]
          exact ih3 _ _
        · rw [decide_eq_true (show v_all (am_mv h) e < 2 * (v_vs (am_mv h) e x (h 70 0).toNat + v_owes (am_mv h) e (o : Int)) by omega)] at et
          rw [et] at ih3
          rw [if_neg q3, am_add_ok (by omega) (by omega)]
          exact ih3 _ _
    · rw [decide_eq_false q1, Bool.false_and, Bool.false_and] at et
      rw [et, cond_false, Int.add_zero] at ih3
      rw [if_neg (by omega), bq_M_swings_194, am_incn (by omega)]
      exact ih3 _ _
  · refine (bq_M_swings_97).trans ?_
    rw [hsh, if_pos (by omega)]
theorem m_swings {d L kp : Nat} {h : Nat → Nat → Int} {i e : Int} (hd : 2 ≤ d) (hv : v_ok (am_mv h)) : am_An L 81 (a_swings (am_mv h) i e) h (fun Q => am_Wp d 247 0 [some (Sum.inr (Sum.inr 70)), some (Sum.inl i), some (Sum.inl e), none, none, none, none, none, none, none] [] (am_SH L, h, am_RR kp) Q) := by
  have hQ := mv_Q hv
  have hP := mv_P hv
  have hD := mv_D hv
  intro Q hq
  have hq2 : ∀ g' kq, am_keep (am_up h 70 13 0) g' → Q (some (a_swings (am_mv h) i e).1) (am_SH L, am_bump 81 (a_swings (am_mv h) i e).2 g', am_RR kq) := fun g' kq hk => hq g' kq (am_keep_t (am_keep_up rfl am_keep_r) hk)
  clear hq
  have hv2 : v_ok (am_mv (am_up h 70 13 0)) := hv
  try rw [show am_mv h = am_mv (am_up h 70 13 0) from rfl] at hq2
  show am_Wp d 247 0 [some (Sum.inr (Sum.inr 70)), some (Sum.inl i), some (Sum.inl e), none, none, none, none, none, none, none] [] (am_SH L, h, am_RR kp) Q
  refine (show _ = _ from bq_M_swings_0 (by omega)).mpr ?_
  clear hv hQ hP hD
  generalize am_up h 70 13 0 = g at hq2 hv2 ⊢
  have hv := hv2
  have hQ := mv_Q hv2
  have hP := mv_P hv
  have hD := mv_D hv
  have er : (v_isP (am_mv g) i && v_isP (am_mv g) e) = false → am_Wp d 247 21 [some (Sum.inr (Sum.inr 70)), some (Sum.inl (i)), some (Sum.inl (e)), none, none, none, none, none, none, none] [] (am_SH L, g, am_RR kp) Q := fun w => by
    have h3 := hq2 g kp am_keep_r
    unfold a_swings at h3
    rw [if_pos w] at h3
    rw [bq_M_swings_21 (by omega), sp_M_refuse (by omega) (by omega)]
    simp only [Option.toList_some, Option.toList_none, List.cons_append, List.nil_append]
    rw [bq_M_swings_26]
    exact h3
  rw [sp_M_isOne (by omega) hv]
  simp only [Option.toList_some, Option.toList_none, List.cons_append, List.nil_append]
  rw [bq_M_swings_10 (by omega)]
  cases hi : v_isP (am_mv g) i with
  | false =>
    rw [if_pos am_bif]
    exact er (by rw [hi]; rfl)
  | true =>
    rw [if_neg am_b0, sp_M_isOne (by omega) hv]
    simp only [Option.toList_some, Option.toList_none, List.cons_append, List.nil_append]
    rw [bq_M_swings_18 (by omega)]
    cases he : v_isP (am_mv g) e with
    | false =>
      rw [if_pos am_bif]
      exact er (by rw [hi, he]; rfl)
    | true =>
      clear er
      have hie : ¬ (v_isP (am_mv g) i && v_isP (am_mv g) e) = false := by rw [hi, he]; simp
      have he2 := v_isP_iff.1 he
      dsimp only [vP, vQ, vD, vK, vF, vS, vU, vO, vH, vN, vE, vG, vT, am_mv, am_wv] at he2
      obtain ⟨o, rfl⟩ := Int.eq_ofNat_of_zero_le he2.1
      have h3 := hq2 g kp am_keep_r
      unfold a_swings at h3
      rw [if_neg hie, Int.toNat_natCast] at h3
      rw [if_neg am_b0, sp_M_allOwedBy (by omega) hv]
      simp only [Option.toList_some, Option.toList_none, List.cons_append, List.nil_append]
      rw [bq_M_swings_32 (by omega), sp_M_owesOf hv]
      simp only [Option.toList_some, Option.toList_none, List.cons_append, List.nil_append]
      have h9 := lp_M_swings (L := L) (kp := kp) (h := g) (Q := Q) (e := i) (o := o) (j2 := some (Sum.inl (o : Int))) (none, none) hd hv
      rw [bq_M_swings_39, lp_M_swings_v (none, none, none) hd hv, bq_M_swings_47 (by omega), if_pos (by omega)]
      exact h9.mpr h3
theorem lp_M_corner_i {d L kp : Nat} {h : Nat → Nat → Int} {Q : Option am_V → am_H → Prop} {a : Nat} {x1 x2 x3 : Int} (hd : 2 ≤ d) (hv : v_ok (am_mv h)) : am_Wp d 250 38 [some (Sum.inr (Sum.inr 70)), some (Sum.inl (x1)), some (Sum.inl (x2)), some (Sum.inl (x3)), some (Sum.inl ((a : Int))), some (Sum.inl (v_all (am_mv h) (a : Int))), some (Sum.inl (0)), some (Sum.inl (0))] [] (am_SH L, h, am_RR kp) Q = am_Wp d 250 38 [some (Sum.inr (Sum.inr 70)), some (Sum.inl (x1)), some (Sum.inl (x2)), some (Sum.inl (x3)), some (Sum.inl ((a : Int))), some (Sum.inl (v_all (am_mv h) (a : Int))), some (Sum.inl (v_gr (fun j => v_owes (am_mv h) (a : Int) (j : Int)) (h 70 0).toNat)), some (Sum.inl ((((h 70 0).toNat : Nat) : Int)))] [] (am_SH L, h, am_RR kp) Q := by
  have hQ := mv_Q hv
  have hP := mv_P hv
  have hD := mv_D hv
  refine am_up_eq (n := (h 70 0).toNat) (fun p => am_Wp d 250 38 [some (Sum.inr (Sum.inr 70)), some (Sum.inl (x1)), some (Sum.inl (x2)), some (Sum.inl (x3)), some (Sum.inl ((a : Int))), some (Sum.inl (v_all (am_mv h) (a : Int))), some (Sum.inl (v_gr (fun j => v_owes (am_mv h) (a : Int) (j : Int)) p)), some (Sum.inl ((p : Int)))] [] (am_SH L, h, am_RR kp) Q) (am_Wp d 250 38 [some (Sum.inr (Sum.inr 70)), some (Sum.inl (x1)), some (Sum.inl (x2)), some (Sum.inl (x3)), some (Sum.inl ((a : Int))), some (Sum.inl (v_all (am_mv h) (a : Int))), some (Sum.inl (v_gr (fun j => v_owes (am_mv h) (a : Int) (j : Int)) (h 70 0).toNat)), some (Sum.inl ((((h 70 0).toNat : Nat) : Int)))] [] (am_SH L, h, am_RR kp) Q) (fun p hp => ?_) rfl
  have es := v_gr_s (f := fun j => v_owes (am_mv h) (a : Int) (j : Int)) (n := p)
  unfold am_max at es
  refine (bq_M_corner_38 (by omega)).trans ?_
  rw [if_neg (by omega), sp_M_owesOf hv]
  simp only [Option.toList_some, Option.toList_none, List.cons_append, List.nil_append]
  rw [bq_M_corner_55 (by omega), sp_M_owesOf hv]
  simp only [Option.toList_some, Option.toList_none, List.cons_append, List.nil_append]
  simp only [bq_M_corner_68, bq_M_corner_73]
  rw [am_incn (by omega), es]
  by_cases q : v_gr (fun j => v_owes (am_mv h) (a : Int) (j : Int)) p < v_owes (am_mv h) (a : Int) (p : Int)
  · rw [if_pos q, if_neg (by omega)]
  · rw [if_neg q, if_pos (by omega)]
theorem lp_M_corner {d L kp : Nat} {h : Nat → Nat → Int} {Q : Option am_V → am_H → Prop} (j : Option am_V × Option am_V × Option am_V) (hd : 2 ≤ d) (hv : v_ok (am_mv h)) : am_Wp d 250 15 [some (Sum.inr (Sum.inr 70)), some (Sum.inl ((v_cr (am_mv h) 0).1)), some (Sum.inl ((v_cr (am_mv h) 0).2.1)), some (Sum.inl ((v_cr (am_mv h) 0).2.2)), some (Sum.inl (0)), j.1, j.2.1, j.2.2] [] (am_SH L, h, am_RR kp) Q = Q (some (Sum.inl ((v_cr (am_mv h) (h 70 0).toNat).1))) (am_SH L, h, am_RR kp) := by
  have hQ := mv_Q hv
  have hP := mv_P hv
  have hD := mv_D hv
  refine am_dn_fr (J := Option am_V × Option am_V × Option am_V) (a := 0) (n := (h 70 0).toNat) (fun a j => am_Wp d 250 15 [some (Sum.inr (Sum.inr 70)), some (Sum.inl ((v_cr (am_mv h) a).1)), some (Sum.inl ((v_cr (am_mv h) a).2.1)), some (Sum.inl ((v_cr (am_mv h) a).2.2)), some (Sum.inl ((a : Int))), j.1, j.2.1, j.2.2] [] (am_SH L, h, am_RR kp) Q) (Q (some (Sum.inl ((v_cr (am_mv h) (h 70 0).toNat).1))) (am_SH L, h, am_RR kp)) (by omega) (fun a _ ha ih j => ?_) (fun j => ?_) j
  · have hs := v_cr_s (V := (am_mv h)) (n := a)
    unfold v_crf at hs
    have i1 := v_cr_inv hv (n := a)
    have i2 := v_all_le hv (a : Int)
    have i3 := v_gr_le (f := fun j => v_owes (am_mv h) (a : Int) (j : Int)) (n := (h 70 0).toNat) (fun j _ => v_owes_le hv (a : Int) (j : Int))
    have ep : vP (am_mv h) = h 70 0 := rfl
    rw [ep] at hs
    have m1 := am_mul_ok (x := v_gr (fun j => v_owes (am_mv h) (a : Int) (j : Int)) (h 70 0).toNat) (y := (v_cr (am_mv h) a).2.2) (by have := Int.mul_nonneg i3.1 (show 0 ≤ (v_cr (am_mv h) a).2.2 by omega); omega) (by have := Int.mul_le_mul i3.2 i1.2.2.2 (by omega) (by omega); omega)
    have m2 := am_mul_ok (x := (v_cr (am_mv h) a).2.1) (y := v_all (am_mv h) (a : Int)) (by have := Int.mul_nonneg i1.2.1.1 i2.1; omega) (by have := Int.mul_le_mul i1.2.1.2 i2.2 (by omega) (by omega); omega)
    have ih3 : ∀ j1 j2 j3 : Option am_V, am_Wp d 250 15 [some (Sum.inr (Sum.inr 70)), some (Sum.inl ((v_cr (am_mv h) (a + 1)).1)), some (Sum.inl ((v_cr (am_mv h) (a + 1)).2.1)), some (Sum.inl ((v_cr (am_mv h) (a + 1)).2.2)), some (Sum.inl (((a + 1 : Nat) : Int))), j1, j2, j3] [] (am_SH L, h, am_RR kp) Q = Q (some (Sum.inl ((v_cr (am_mv h) (h 70 0).toNat).1))) (am_SH L, h, am_RR kp) := fun j1 j2 j3 => ih (j1, j2, j3)
    refine (bq_M_corner_15 (by omega)).trans ?_
    rw [if_neg (by omega), sp_M_allOwedBy (by omega) hv]
    simp only [Option.toList_some, Option.toList_none, List.cons_append, List.nil_append]
    rw [bq_M_corner_30, lp_M_corner_i (by omega) hv, bq_M_corner_38 (by omega), if_pos (by omega), m1, m2]
    simp only [bq_M_corner_101, bq_M_corner_110]
    rw [am_incn (by omega)]
    by_cases q1 : v_all (am_mv h) (a : Int) ≤ 0
    · rw [if_neg (fun w => by have := w.1; omega)] at hs
      rw [hs] at ih3
      rw [if_pos q1]
      exact ih3 _ _ _
    · rw [if_neg q1]
      by_cases q2 : (v_cr (am_mv h) a).1 < 0
      · rw [if_pos ⟨by omega, Or.inl q2⟩] at hs
        rw [hs] at ih3
        rw [if_pos q2]
        exact ih3 _ _ _
      · rw [if_neg q2]
        by_cases q3 : v_gr (fun j => v_owes (am_mv h) (a : Int) (j : Int)) (h 70 0).toNat * (v_cr (am_mv h) a).2.2 ≤ (v_cr (am_mv h) a).2.1 * v_all (am_mv h) (a : Int)
        · rw [if_neg (fun w => by have := w.2; omega)] at hs
          rw [hs] at ih3
          rw [if_pos q3]
          exact ih3 _ _ _
        · rw [if_pos ⟨by omega, Or.inr (by omega)⟩] at hs
          rw [hs] at ih3
          rw [if_neg q3]
          exact ih3 _ _ _
  · refine (bq_M_corner_15 (by omega)).trans ?_
    rw [if_pos (by omega)]
theorem m_corner {d L kp : Nat} {h : Nat → Nat → Int} (hd : 2 ≤ d) (hv : v_ok (am_mv h)) : am_An L 81 (a_corner (am_mv h)) h (fun Q => am_Wp d 250 0 [some (Sum.inr (Sum.inr 70)), none, none, none, none, none, none, none] [] (am_SH L, h, am_RR kp) Q) := by
  have hQ := mv_Q hv
  have hP := mv_P hv
  have hD := mv_D hv
  intro Q hq
  have hq2 : ∀ g' kq, am_keep (am_up h 70 13 0) g' → Q (some (a_corner (am_mv h)).1) (am_SH L, am_bump 81 (a_corner (am_mv h)).2 g', am_RR kq) := fun g' kq hk => hq g' kq (am_keep_t (am_keep_up rfl am_keep_r) hk)
  clear hq
  have hv2 : v_ok (am_mv (am_up h 70 13 0)) := hv
  try rw [show am_mv h = am_mv (am_up h 70 13 0) from rfl] at hq2
  show am_Wp d 250 0 [some (Sum.inr (Sum.inr 70)), none, none, none, none, none, none, none] [] (am_SH L, h, am_RR kp) Q
  refine (show _ = _ from bq_M_corner_0).mpr ?_
  clear hv hQ hP hD
  generalize am_up h 70 13 0 = g at hq2 hv2 ⊢
  have hv := hv2
  have hQ := mv_Q hv2
  have hP := mv_P hv
  have hD := mv_D hv
  exact (lp_M_corner (none, none, none) hd hv).mpr (hq2 g kp am_keep_r)