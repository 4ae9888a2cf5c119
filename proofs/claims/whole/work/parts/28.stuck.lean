/-! THE CALLS stuck, looks -/
theorem lp_KO_oth {d L kp : Nat} {h : Nat → Nat → Int} {Q : Option am_V → am_H → Prop} {i : Int} (hd : 3 ≤ d) (hv : v_ok (am_wv h 2)) : am_Wp d 157 2 [some (Sum.inr (Sum.inr 2)), some (Sum.inl (i)), some (Sum.inl (0))] [] (am_SH L, h, am_RR kp) Q = (match v_oth (am_wv h 2) i with | true => Q (some (Sum.inl (1))) (am_SH L, h, am_RR kp) | false => Q (some (Sum.inl (0))) (am_SH L, h, am_RR kp)) := by
  have hQ := wv_Q hv
  have hP := wv_P hv
  have hD := wv_D hv
  refine am_any_eq (n := (h 2 0).toNat) (fun p => !decide ((p : Int) = am_lk (vO (am_wv h 2)) 16 i) && v_take (am_wv h 2) i (p : Int)) (fun k => am_Wp d 157 2 [some (Sum.inr (Sum.inr 2)), some (Sum.inl (i)), some (Sum.inl ((k : Int)))] [] (am_SH L, h, am_RR kp) Q) (Q (some (Sum.inl (1))) (am_SH L, h, am_RR kp)) (Q (some (Sum.inl (0))) (am_SH L, h, am_RR kp)) (fun k hk => ?_) ?_
  · show am_Wp d 157 2 [some (Sum.inr (Sum.inr 2)), some (Sum.inl (i)), some (Sum.inl ((k : Int)))] [] (am_SH L, h, am_RR kp) Q = (match (!decide ((k : Int) = am_lk (vO (am_wv h 2)) 16 i) && v_take (am_wv h 2) i (k : Int) : Bool) with | true => Q (some (Sum.inl (1))) (am_SH L, h, am_RR kp) | false => am_Wp d 157 2 [some (Sum.inr (Sum.inr 2)), some (Sum.inl (i)), some (Sum.inl (((k + 1 : Nat) : Int)))] [] (am_SH L, h, am_RR kp) Q)
    refine (bq_KO_othersCouldTake_2 (by omega)).trans ?_
    simp (disch := first | exact hv | omega) only [bq_KO_othersCouldTake_0, bq_KO_othersCouldTake_7, bq_KO_othersCouldTake_16, bq_KO_othersCouldTake_30, bq_KO_othersCouldTake_25, sp_World_people_2, sp_World_debtorOf_2, sp_World_canTake_2, Option.toList_some, Option.toList_none, List.cons_append, List.nil_append, am_bi0, am_bi1, am_bft, true_and, reduceCtorEq, or_false, false_or, or_true, true_or, am_gd, am_incn, am_lk_nat, Int.toNat_natCast, ↓reduceIte, Int.reduceEq]
    rw [if_neg (by omega)]
    cases hx1 : v_take (am_wv h 2) i (k : Int) <;> by_cases hx2 : (k : Int) = am_lk (h 7) 16 i <;> simp [hx2, hx1]
  · show am_Wp d 157 2 [some (Sum.inr (Sum.inr 2)), some (Sum.inl (i)), some (Sum.inl ((((h 2 0).toNat : Nat) : Int)))] [] (am_SH L, h, am_RR kp) Q = _
    refine (bq_KO_othersCouldTake_2 (by omega)).trans ?_
    simp (disch := first | exact hv | omega) only [bq_KO_othersCouldTake_0, bq_KO_othersCouldTake_7, bq_KO_othersCouldTake_16, bq_KO_othersCouldTake_30, bq_KO_othersCouldTake_25, sp_World_people_2, sp_World_debtorOf_2, sp_World_canTake_2, Option.toList_some, Option.toList_none, List.cons_append, List.nil_append, am_bi0, am_bi1, am_bft, true_and, reduceCtorEq, or_false, false_or, or_true, true_or, am_gd, am_incn, am_lk_nat, Int.toNat_natCast, ↓reduceIte, Int.reduceEq]
    rw [if_pos (by omega)]

theorem sp_KO_othersCouldTake {d L kp : Nat} {h : Nat → Nat → Int} {Q : Option am_V → am_H → Prop} {i : Int} (hd : 3 ≤ d) (hv : v_ok (am_wv h 2)) : am_Wp d 157 0 [some (Sum.inr (Sum.inr 2)), some (Sum.inl i), none] [] (am_SH L, h, am_RR kp) Q = Q (some (Sum.inl (am_bi (v_oth (am_wv h 2) i)))) (am_SH L, h, am_RR kp) := by
  rw [bq_KO_othersCouldTake_0]
  refine (lp_KO_oth hd hv).trans ?_
  cases v_oth (am_wv h 2) i <;> rfl

theorem lp_KO_stuck {d L kp : Nat} {h : Nat → Nat → Int} {Q : Option am_V → am_H → Prop} (hd : 4 ≤ d) (hv : v_ok (am_wv h 2)) : am_Wp d 156 4 [some (Sum.inr (Sum.inr 1)), some (Sum.inl (0)), some (Sum.inl (0))] [] (am_SH L, h, am_RR kp) Q = Q (some (Sum.inl (((v_stuck (am_wv h 2) (h 2 1).toNat : Nat) : Int)))) (am_SH L, h, am_RR kp) := by
  have hQ := wv_Q hv
  have hP := wv_P hv
  have hD := wv_D hv
  refine am_up_eq (n := (h 2 1).toNat) (fun k => am_Wp d 156 4 [some (Sum.inr (Sum.inr 1)), some (Sum.inl (((v_stuck (am_wv h 2) k : Nat) : Int))), some (Sum.inl ((k : Int)))] [] (am_SH L, h, am_RR kp) Q) (Q (some (Sum.inl (((v_stuck (am_wv h 2) (h 2 1).toNat : Nat) : Int)))) (am_SH L, h, am_RR kp)) (fun k hk => ?_) ?_
  · show am_Wp d 156 4 [some (Sum.inr (Sum.inr 1)), some (Sum.inl (((v_stuck (am_wv h 2) k : Nat) : Int))), some (Sum.inl ((k : Int)))] [] (am_SH L, h, am_RR kp) Q = am_Wp d 156 4 [some (Sum.inr (Sum.inr 1)), some (Sum.inl (((v_stuck (am_wv h 2) (k + 1) : Nat) : Int))), some (Sum.inl (((k + 1 : Nat) : Int)))] [] (am_SH L, h, am_RR kp) Q
    have hp1 := wv_p hv k (by omega)
    have hq1 := wv_q hv k (by omega)
    have hw1 := wv_w hv k (by omega)
    have ho1 : v_open (am_wv h 2) (k : Int) = decide (h 12 k = 0) := v_open_nat hv (show (k : Int) < h 2 1 by omega)
    have hvt : vT (am_wv h 2) k = h 12 k := rfl
    rw [v_stuck_s (show k < 30 by omega)] 
    refine (bq_KO_stuck_4 (by omega)).trans ?_
    simp (disch := first | exact hv | omega) only [bq_KO_stuck_0, bq_KO_stuck_12, bq_KO_stuck_23, bq_KO_stuck_43, bq_KO_stuck_34, sp_World_papers_2, sp_World_isOpen_2, sp_KO_othersCouldTake, Option.toList_some, Option.toList_none, List.cons_append, List.nil_append, am_bi0, am_bi1, am_bft, true_and, reduceCtorEq, or_false, false_or, or_true, true_or, am_gd, am_incn, am_lk_nat, Int.toNat_natCast, ↓reduceIte, Int.reduceEq, ho1, decide_eq_false_iff_not, decide_eq_true_eq, hvt]
    rw [if_neg (by omega)]
    (repeat' split) <;> first | rfl | (simp_all; done) | omega
  · show am_Wp d 156 4 [some (Sum.inr (Sum.inr 1)), some (Sum.inl (((v_stuck (am_wv h 2) ((h 2 1).toNat) : Nat) : Int))), some (Sum.inl ((((h 2 1).toNat : Nat) : Int)))] [] (am_SH L, h, am_RR kp) Q = _
    refine (bq_KO_stuck_4 (by omega)).trans ?_
    simp (disch := first | exact hv | omega) only [bq_KO_stuck_0, bq_KO_stuck_12, bq_KO_stuck_23, bq_KO_stuck_43, bq_KO_stuck_34, sp_World_papers_2, sp_World_isOpen_2, sp_KO_othersCouldTake, Option.toList_some, Option.toList_none, List.cons_append, List.nil_append, am_bi0, am_bi1, am_bft, true_and, reduceCtorEq, or_false, false_or, or_true, true_or, am_gd, am_incn, am_lk_nat, Int.toNat_natCast, ↓reduceIte, Int.reduceEq]
    rw [if_pos (by omega)]
    try rfl

theorem c_stuck {d L kp : Nat} {h : Nat → Nat → Int} (hd : 4 ≤ d) (hv : v_ok (am_wv h 2)) : am_An L 41 (a_stuck (am_wv h 2)) h (fun Q => am_Wp d 156 0 [some (Sum.inr (Sum.inr 1)), none, none] [] (am_SH L, h, am_RR kp) Q) := by
  have hQ := wv_Q hv
  have hP := wv_P hv
  have hD := wv_D hv
  intro Q hq
  have hq2 : Q (some (a_stuck (am_wv h 2)).1) (am_SH L, am_bump 41 (a_stuck (am_wv h 2)).2 h, am_RR kp) := hq _ kp am_keep_r
  show am_Wp d 156 0 [some (Sum.inr (Sum.inr 1)), none, none] [] (am_SH L, h, am_RR kp) Q
  unfold a_stuck at hq2
  simp (disch := first | exact hv | omega) only [bq_KO_stuck_0, bq_KO_stuck_12, bq_KO_stuck_23, bq_KO_stuck_43, bq_KO_stuck_34, sp_World_papers_2, sp_World_isOpen_2, sp_KO_othersCouldTake, lp_KO_stuck, Option.toList_some, Option.toList_none, List.cons_append, List.nil_append, am_bi0, am_bi1, am_bft, true_and, reduceCtorEq, or_false, false_or, or_true, true_or, am_gd, am_incn, am_lk_nat, Int.toNat_natCast, ↓reduceIte, Int.reduceEq, Int.reduceAdd, Int.reduceNeg, Int.reduceToNat]
  revert hq2
  (repeat' split) <;> intro hq2 <;> first | exact hq2 | (exfalso; omega) | (simp_all; done)
