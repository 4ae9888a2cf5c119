/-! THE CALL boss -/
def v_boss (V : am_Vw) (e : Int) (n : Nat) : Int := am_for (fun k s => if v_all V e < 2 * v_owes V e (k : Int) then (k : Int) else s) n (-9)
def a_boss (V : am_Vw) (e : Int) : am_V × Nat := if v_isP V e = false then (Sum.inl (-1), 1) else (Sum.inl (v_boss V e (vP V).toNat), 0)
theorem v_boss_s {V : am_Vw} {e : Int} {k : Nat} : v_boss V e (k + 1) = if v_all V e < 2 * v_owes V e (k : Int) then (k : Int) else v_boss V e k := rfl
theorem v_all_le {V : am_Vw} (hv : v_ok V) (e : Int) : 0 ≤ v_all V e ∧ v_all V e ≤ 640 := by
  have hQ := v_ok_Q hv
  rw [← v_va_all hv e]
  exact v_va_le hv (by omega) e
theorem lp_M_boss {d L kp : Nat} {h : Nat → Nat → Int} {Q : Option am_V → am_H → Prop} {i : Int} (hd : 2 ≤ d) (hv : v_ok (am_mv h)) : am_Wp d 249 24 [some (Sum.inr (Sum.inr 70)), some (Sum.inl (i)), some (Sum.inl (-9)), some (Sum.inl (0))] [] (am_SH L, h, am_RR kp) Q = Q (some (Sum.inl (v_boss (am_mv h) i (h 70 0).toNat))) (am_SH L, h, am_RR kp) := by
  have hQ := mv_Q hv
  have hP := mv_P hv
  have hD := mv_D hv
  refine am_up_eq (n := (h 70 0).toNat) (fun k => am_Wp d 249 24 [some (Sum.inr (Sum.inr 70)), some (Sum.inl (i)), some (Sum.inl (v_boss (am_mv h) i k)), some (Sum.inl ((k : Int)))] [] (am_SH L, h, am_RR kp) Q) (Q (some (Sum.inl (v_boss (am_mv h) i (h 70 0).toNat))) (am_SH L, h, am_RR kp)) (fun k hk => ?_) ?_
  · show am_Wp d 249 24 [some (Sum.inr (Sum.inr 70)), some (Sum.inl (i)), some (Sum.inl (v_boss (am_mv h) i k)), some (Sum.inl ((k : Int)))] [] (am_SH L, h, am_RR kp) Q = am_Wp d 249 24 [some (Sum.inr (Sum.inr 70)), some (Sum.inl (i)), some (Sum.inl (v_boss (am_mv h) i (k + 1))), some (Sum.inl (((k + 1 : Nat) : Int)))] [] (am_SH L, h, am_RR kp) Q
    have hw1 := v_owes_le hv i (k : Int)
    have em : am_mul 2 (v_owes (am_mv h) i (k : Int)) = 2 * v_owes (am_mv h) i (k : Int) := am_mul_ok (by omega) (by omega)
    rw [v_boss_s] 
    refine (bq_M_boss_24 (by omega)).trans ?_
    simp (disch := first | exact hv | omega) only [bq_M_boss_0, bq_M_boss_10, bq_M_boss_18, bq_M_boss_39, bq_M_boss_45, bq_M_boss_53, sp_M_isOne, sp_M_refuse, sp_M_owesOf, sp_M_allOwedBy, Option.toList_some, Option.toList_none, List.cons_append, List.nil_append, am_bi0, am_bi1, am_bft, true_and, reduceCtorEq, or_false, false_or, or_true, true_or, am_gd, am_incn, am_lk_nat, Int.toNat_natCast, ↓reduceIte, Int.reduceEq, em]
    rw [if_neg (by omega)]
    by_cases q1 : v_all (am_mv h) i < 2 * v_owes (am_mv h) i (k : Int)
    · rw [if_pos q1, if_neg (by omega)]
    · rw [if_neg q1, if_pos (by omega)]
  · show am_Wp d 249 24 [some (Sum.inr (Sum.inr 70)), some (Sum.inl (i)), some (Sum.inl (v_boss (am_mv h) i ((h 70 0).toNat))), some (Sum.inl ((((h 70 0).toNat : Nat) : Int)))] [] (am_SH L, h, am_RR kp) Q = _
    refine (bq_M_boss_24 (by omega)).trans ?_
    simp (disch := first | exact hv | omega) only [bq_M_boss_0, bq_M_boss_10, bq_M_boss_18, bq_M_boss_39, bq_M_boss_45, bq_M_boss_53, sp_M_isOne, sp_M_refuse, sp_M_owesOf, sp_M_allOwedBy, Option.toList_some, Option.toList_none, List.cons_append, List.nil_append, am_bi0, am_bi1, am_bft, true_and, reduceCtorEq, or_false, false_or, or_true, true_or, am_gd, am_incn, am_lk_nat, Int.toNat_natCast, ↓reduceIte, Int.reduceEq]
    rw [if_pos (by omega)]
    try rfl

theorem m_boss {d L kp : Nat} {h : Nat → Nat → Int} {i : Int} (hd : 2 ≤ d) (hv : v_ok (am_mv h)) : am_An L 81 (a_boss (am_mv h) i) h (fun Q => am_Wp d 249 0 [some (Sum.inr (Sum.inr 70)), some (Sum.inl i), none, none] [] (am_SH L, h, am_RR kp) Q) := by
  have hQ := mv_Q hv
  have hP := mv_P hv
  have hD := mv_D hv
  intro Q hq
  have hq2 : Q (some (a_boss (am_mv h) i).1) (am_SH L, am_bump 81 (a_boss (am_mv h) i).2 (am_up h 70 13 0), am_RR kp) := hq _ kp (am_keep_up rfl am_keep_r)
  clear hq
  have hv2 : v_ok (am_mv (am_up h 70 13 0)) := hv
  try rw [show am_mv h = am_mv (am_up h 70 13 0) from rfl] at hq2
  show am_Wp d 249 0 [some (Sum.inr (Sum.inr 70)), some (Sum.inl i), none, none] [] (am_SH L, h, am_RR kp) Q
  refine (show _ = _ from bq_M_boss_0 (by omega)).mpr ?_
  clear hv hQ hP hD
  generalize am_up h 70 13 0 = g at hq2 hv2 ⊢
  have hv := hv2
  have hQ := mv_Q hv
  have hP := mv_P hv
  have hD := mv_D hv
  unfold a_boss at hq2
  simp (disch := first | exact hv | omega) only [bq_M_boss_0, bq_M_boss_10, bq_M_boss_18, bq_M_boss_39, bq_M_boss_45, bq_M_boss_53, sp_M_isOne, sp_M_refuse, sp_M_owesOf, sp_M_allOwedBy, lp_M_boss, Option.toList_some, Option.toList_none, List.cons_append, List.nil_append, am_bi0, am_bi1, am_bft, true_and, reduceCtorEq, or_false, false_or, or_true, true_or, am_gd, am_incn, am_lk_nat, Int.toNat_natCast, ↓reduceIte, Int.reduceEq, Int.reduceAdd, Int.reduceNeg, Int.reduceToNat]
  revert hq2
  (repeat' split) <;> intro hq2 <;> first | exact hq2 | (exfalso; omega) | (simp_all; done)
