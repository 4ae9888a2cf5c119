/-! ALL THAT ONE OWES -/
def v_all (V : am_Vw) (e : Int) : Int := am_sumb (vP V).toNat (fun i => v_owes V e (i : Int))
theorem v_va_all {V : am_Vw} (hv : v_ok V) (e : Int) : v_va V e (vQ V).toNat = v_all V e := by
  have hQ := v_ok_Q hv
  have hP := v_ok_P hv
  unfold v_all v_va v_owes
  rw [am_sumb_swap]
  refine am_sumb_eq (fun p hp => ?_)
  have h1 := v_ok_p hv p (by omega)
  have h2 := v_ok_q hv p (by omega)
  by_cases h3 : vT V p = 0 ∧ vO V p = e
  · rw [if_pos h3]
    refine Eq.symm (Eq.trans ?_ (am_sumb_one (n := (vP V).toNat) (i := (vH V p).toNat) (x := vN V p) (by omega)))
    refine am_sumb_eq (fun o ho => ?_)
    by_cases h4 : o = (vH V p).toNat
    · rw [if_pos h4, if_pos ⟨h3.1, h3.2, by omega⟩]
    · rw [if_neg h4, if_neg (fun w => h4 (by have := w.2.2; omega))]
  · rw [if_neg h3]
    exact (Eq.trans (am_sumb_eq (f := fun _ => 0) (fun o ho => if_neg (fun w => h3 ⟨w.1, w.2.1⟩))) am_sumb_0).symm
theorem v_vt_owes {V : am_Vw} {e : Int} {j : Nat} : v_vt V e (vQ V).toNat j = v_owes V e (j : Int) := by
  unfold v_vt v_owes
  refine am_sumb_eq (fun p hp => ?_)
  by_cases h3 : vT V p = 0 ∧ vO V p = e ∧ vH V p = (j : Int)
  · rw [if_pos h3, if_pos ⟨⟨h3.1, h3.2.1⟩, h3.2.2⟩]
  · rw [if_neg h3, if_neg (fun w => h3 ⟨w.1.1, w.1.2, w.2⟩)]
theorem lp_M_allOwedBy {d L kp : Nat} {h : Nat → Nat → Int} {Q : Option am_V → am_H → Prop} {i : Int} (hd : 1 ≤ d) (hv : v_ok (am_mv h)) : am_Wp d 248 4 [some (Sum.inr (Sum.inr 70)), some (Sum.inl (i)), some (Sum.inl (0)), some (Sum.inl (0))] [] (am_SH L, h, am_RR kp) Q = Q (some (Sum.inl (v_all (am_mv h) i))) (am_SH L, h, am_RR kp) := by
  have hQ := mv_Q hv
  have hP := mv_P hv
  have hD := mv_D hv
  refine am_up_eq (n := (h 70 0).toNat) (fun k => am_Wp d 248 4 [some (Sum.inr (Sum.inr 70)), some (Sum.inl (i)), some (Sum.inl (am_sumb k (fun p => v_owes (am_mv h) i (p : Int)))), some (Sum.inl ((k : Int)))] [] (am_SH L, h, am_RR kp) Q) (Q (some (Sum.inl (v_all (am_mv h) i))) (am_SH L, h, am_RR kp)) (fun k hk => ?_) ?_
  · show am_Wp d 248 4 [some (Sum.inr (Sum.inr 70)), some (Sum.inl (i)), some (Sum.inl (am_sumb k (fun p => v_owes (am_mv h) i (p : Int)))), some (Sum.inl ((k : Int)))] [] (am_SH L, h, am_RR kp) Q = am_Wp d 248 4 [some (Sum.inr (Sum.inr 70)), some (Sum.inl (i)), some (Sum.inl (am_sumb (k + 1) (fun p => v_owes (am_mv h) i (p : Int)))), some (Sum.inl (((k + 1 : Nat) : Int)))] [] (am_SH L, h, am_RR kp) Q
    have hb := am_sumb_le (n := k) (g := fun p => v_owes (am_mv h) i (p : Int)) (A := 0) (B := 640) (fun p hp => by
      have hw1 := v_owes_le hv i (p : Int)
      show 0 ≤ (v_owes (am_mv h) i (p : Int)) ∧ (v_owes (am_mv h) i (p : Int)) ≤ 640
      omega)
    have hw1 := v_owes_le hv i (k : Int)
    rw [am_sumb_s] 
    refine (bq_M_allOwedBy_4 (by omega)).trans ?_
    simp (disch := first | exact hv | omega) only [bq_M_allOwedBy_0, bq_M_allOwedBy_19, sp_M_owesOf, Option.toList_some, Option.toList_none, List.cons_append, List.nil_append, am_bi0, am_bi1, am_bft, true_and, reduceCtorEq, or_false, false_or, or_true, true_or, am_gd, am_incn, am_lk_nat, Int.toNat_natCast, ↓reduceIte, Int.reduceEq, am_add_ok]
    rw [if_neg (by omega)]
    rfl
  · show am_Wp d 248 4 [some (Sum.inr (Sum.inr 70)), some (Sum.inl (i)), some (Sum.inl (am_sumb ((h 70 0).toNat) (fun p => v_owes (am_mv h) i (p : Int)))), some (Sum.inl ((((h 70 0).toNat : Nat) : Int)))] [] (am_SH L, h, am_RR kp) Q = _
    refine (bq_M_allOwedBy_4 (by omega)).trans ?_
    simp (disch := first | exact hv | omega) only [bq_M_allOwedBy_0, bq_M_allOwedBy_19, sp_M_owesOf, Option.toList_some, Option.toList_none, List.cons_append, List.nil_append, am_bi0, am_bi1, am_bft, true_and, reduceCtorEq, or_false, false_or, or_true, true_or, am_gd, am_incn, am_lk_nat, Int.toNat_natCast, ↓reduceIte, Int.reduceEq]
    rw [if_pos (by omega)]
    try rfl

theorem sp_M_allOwedBy {d L kp : Nat} {h : Nat → Nat → Int} {Q : Option am_V → am_H → Prop} {i : Int} (hd : 1 ≤ d) (hv : v_ok (am_mv h)) : am_Wp d 248 0 [some (Sum.inr (Sum.inr 70)), some (Sum.inl i), none, none] [] (am_SH L, h, am_RR kp) Q = Q (some (Sum.inl (v_all (am_mv h) i))) (am_SH L, h, am_RR kp) := by
  rw [bq_M_allOwedBy_0]
  exact lp_M_allOwedBy hd hv

theorem sp_Votes_all {d L kp : Nat} {h : Nat → Nat → Int} {Q : Option am_V → am_H → Prop} : am_Wp d 120 0 [some (Sum.inr (Sum.inr 61))] [] (am_SH L, h, am_RR kp) Q = Q (some (Sum.inl (h 61 3))) (am_SH L, h, am_RR kp) := by
  simp (disch := omega) only [bq_Votes_all_0, Option.toList_some, Option.toList_none, List.cons_append, List.nil_append, am_bi0, am_bi1, am_bft, true_and, reduceCtorEq, or_false, false_or, or_true, true_or]
  
