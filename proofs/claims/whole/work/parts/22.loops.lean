/-! SPECS of small methods with a loop -/
theorem sp_World_purseOf_2 {d L kp : Nat} {h : Nat → Nat → Int} {Q : Option am_V → am_H → Prop} {i : Int} (hd : 3 ≤ d) (hv : v_ok (am_wv h 2)) : am_Wp d 48 0 [some (Sum.inr (Sum.inr 2)), some (Sum.inl i), none, none] [] (am_SH L, h, am_RR kp) Q = Q (some (Sum.inl (v_purse (am_wv h 2) i))) (am_SH L, h, am_RR kp) := by
  have hQ := wv_Q hv
  have hP := wv_P hv
  have hD := wv_D hv
  have key := am_up_eq (n := (h 2 1).toNat) (fun k => am_Wp d 48 4 [some (Sum.inr (Sum.inr 2)), some (Sum.inl (i)), some (Sum.inl (am_sumb k (fun p => if h 8 p = i then v_worth (am_wv h 2) (p : Int) else 0))), some (Sum.inl ((k : Int)))] [] (am_SH L, h, am_RR kp) Q) (Q (some (Sum.inl (v_purse (am_wv h 2) i))) (am_SH L, h, am_RR kp)) (fun k hk => ?_) ?_
  · simp (disch := first | exact hv | omega) only [bq_World_purseOf_0, bq_World_purseOf_20, bq_World_purseOf_32, bq_World_purseOf_30, sp_at_8, sp_World_worthOf_2, Option.toList_some, Option.toList_none, List.cons_append, List.nil_append, am_bi0, am_bi1, am_bft, true_and, reduceCtorEq, or_false, false_or, or_true, true_or, am_gd, am_incn, am_lk_nat, Int.toNat_natCast]
    exact key
  · show am_Wp d 48 4 [some (Sum.inr (Sum.inr 2)), some (Sum.inl (i)), some (Sum.inl (am_sumb k (fun p => if h 8 p = i then v_worth (am_wv h 2) (p : Int) else 0))), some (Sum.inl ((k : Int)))] [] (am_SH L, h, am_RR kp) Q = am_Wp d 48 4 [some (Sum.inr (Sum.inr 2)), some (Sum.inl (i)), some (Sum.inl (am_sumb (k + 1) (fun p => if h 8 p = i then v_worth (am_wv h 2) (p : Int) else 0))), some (Sum.inl (((k + 1 : Nat) : Int)))] [] (am_SH L, h, am_RR kp) Q
    have hb := am_sumb_le (n := k) (g := fun p => if h 8 p = i then v_worth (am_wv h 2) (p : Int) else 0) (A := 0) (B := 40) (fun p hp => by
      have hp1 := wv_p hv p (by omega)
      have hw1 := wv_w hv p (by omega)
      show 0 ≤ (if h 8 p = i then v_worth (am_wv h 2) (p : Int) else 0) ∧ (if h 8 p = i then v_worth (am_wv h 2) (p : Int) else 0) ≤ 40
      split <;> omega)
    have hp1 := wv_p hv k (by omega)
    have hw1 := wv_w hv k (by omega)
    rw [am_sumb_s]
    refine (bq_World_purseOf_4 (by omega)).trans ?_
    simp (disch := first | exact hv | omega) only [bq_World_purseOf_0, bq_World_purseOf_20, bq_World_purseOf_32, bq_World_purseOf_30, sp_at_8, sp_World_worthOf_2, Option.toList_some, Option.toList_none, List.cons_append, List.nil_append, am_bi0, am_bi1, am_bft, true_and, reduceCtorEq, or_false, false_or, or_true, true_or, am_gd, am_incn, am_lk_nat, Int.toNat_natCast, am_add_ok]
    rw [if_neg (by omega)]
    (repeat' split) <;> first | rfl | (simp_all; done) | omega
  · show am_Wp d 48 4 [some (Sum.inr (Sum.inr 2)), some (Sum.inl (i)), some (Sum.inl (am_sumb ((h 2 1).toNat) (fun p => if h 8 p = i then v_worth (am_wv h 2) (p : Int) else 0))), some (Sum.inl ((((h 2 1).toNat : Nat) : Int)))] [] (am_SH L, h, am_RR kp) Q = _
    refine (bq_World_purseOf_4 (by omega)).trans ?_
    simp (disch := first | exact hv | omega) only [bq_World_purseOf_0, bq_World_purseOf_20, bq_World_purseOf_32, bq_World_purseOf_30, sp_at_8, sp_World_worthOf_2, Option.toList_some, Option.toList_none, List.cons_append, List.nil_append, am_bi0, am_bi1, am_bft, true_and, reduceCtorEq, or_false, false_or, or_true, true_or, am_gd, am_incn, am_lk_nat, Int.toNat_natCast]
    rw [if_pos (by omega)]
    try rfl

theorem sp_M_purseOf {d L kp : Nat} {h : Nat → Nat → Int} {Q : Option am_V → am_H → Prop} {i : Int} (hd : 2 ≤ d) (hv : v_ok (am_mv h)) : am_Wp d 214 0 [some (Sum.inr (Sum.inr 70)), some (Sum.inl i), none, none] [] (am_SH L, h, am_RR kp) Q = Q (some (Sum.inl (v_purse (am_mv h) i))) (am_SH L, h, am_RR kp) := by
  have hQ := mv_Q hv
  have hP := mv_P hv
  have hD := mv_D hv
  have key := am_up_eq (n := (h 70 6).toNat) (fun k => am_Wp d 214 4 [some (Sum.inr (Sum.inr 70)), some (Sum.inl (i)), some (Sum.inl (am_sumb k (fun p => if h 76 p = i then v_worth (am_mv h) (p : Int) else 0))), some (Sum.inl ((k : Int)))] [] (am_SH L, h, am_RR kp) Q) (Q (some (Sum.inl (v_purse (am_mv h) i))) (am_SH L, h, am_RR kp)) (fun k hk => ?_) ?_
  · simp (disch := first | exact hv | omega) only [bq_M_purseOf_0, bq_M_purseOf_32, bq_M_purseOf_28, sp_M_worthOf, Option.toList_some, Option.toList_none, List.cons_append, List.nil_append, am_bi0, am_bi1, am_bft, true_and, reduceCtorEq, or_false, false_or, or_true, true_or, am_gd, am_incn, am_lk_nat, Int.toNat_natCast]
    exact key
  · show am_Wp d 214 4 [some (Sum.inr (Sum.inr 70)), some (Sum.inl (i)), some (Sum.inl (am_sumb k (fun p => if h 76 p = i then v_worth (am_mv h) (p : Int) else 0))), some (Sum.inl ((k : Int)))] [] (am_SH L, h, am_RR kp) Q = am_Wp d 214 4 [some (Sum.inr (Sum.inr 70)), some (Sum.inl (i)), some (Sum.inl (am_sumb (k + 1) (fun p => if h 76 p = i then v_worth (am_mv h) (p : Int) else 0))), some (Sum.inl (((k + 1 : Nat) : Int)))] [] (am_SH L, h, am_RR kp) Q
    have hb := am_sumb_le (n := k) (g := fun p => if h 76 p = i then v_worth (am_mv h) (p : Int) else 0) (A := 0) (B := 40) (fun p hp => by
      have hp1 := mv_p hv p (by omega)
      have hw1 := mv_w hv p (by omega)
      show 0 ≤ (if h 76 p = i then v_worth (am_mv h) (p : Int) else 0) ∧ (if h 76 p = i then v_worth (am_mv h) (p : Int) else 0) ≤ 40
      split <;> omega)
    have hp1 := mv_p hv k (by omega)
    have hw1 := mv_w hv k (by omega)
    rw [am_sumb_s]
    refine (bq_M_purseOf_4 (by omega)).trans ?_
    simp (disch := first | exact hv | omega) only [bq_M_purseOf_0, bq_M_purseOf_32, bq_M_purseOf_28, sp_M_worthOf, Option.toList_some, Option.toList_none, List.cons_append, List.nil_append, am_bi0, am_bi1, am_bft, true_and, reduceCtorEq, or_false, false_or, or_true, true_or, am_gd, am_incn, am_lk_nat, Int.toNat_natCast, am_add_ok]
    rw [if_neg (by omega)]
    (repeat' split) <;> first | rfl | (simp_all; done) | omega
  · show am_Wp d 214 4 [some (Sum.inr (Sum.inr 70)), some (Sum.inl (i)), some (Sum.inl (am_sumb ((h 70 6).toNat) (fun p => if h 76 p = i then v_worth (am_mv h) (p : Int) else 0))), some (Sum.inl ((((h 70 6).toNat : Nat) : Int)))] [] (am_SH L, h, am_RR kp) Q = _
    refine (bq_M_purseOf_4 (by omega)).trans ?_
    simp (disch := first | exact hv | omega) only [bq_M_purseOf_0, bq_M_purseOf_32, bq_M_purseOf_28, sp_M_worthOf, Option.toList_some, Option.toList_none, List.cons_append, List.nil_append, am_bi0, am_bi1, am_bft, true_and, reduceCtorEq, or_false, false_or, or_true, true_or, am_gd, am_incn, am_lk_nat, Int.toNat_natCast]
    rw [if_pos (by omega)]
    try rfl

theorem sp_M_owesOf {d L kp : Nat} {h : Nat → Nat → Int} {Q : Option am_V → am_H → Prop} {i j : Int} (hv : v_ok (am_mv h)) : am_Wp d 225 0 [some (Sum.inr (Sum.inr 70)), some (Sum.inl i), some (Sum.inl j), none, none] [] (am_SH L, h, am_RR kp) Q = Q (some (Sum.inl (v_owes (am_mv h) i j))) (am_SH L, h, am_RR kp) := by
  have hQ := mv_Q hv
  have hP := mv_P hv
  have hD := mv_D hv
  have key := am_up_eq (n := (h 70 6).toNat) (fun k => am_Wp d 225 5 [some (Sum.inr (Sum.inr 70)), some (Sum.inl (i)), some (Sum.inl (j)), some (Sum.inl (am_sumb k (fun p => if h 80 p = 0 ∧ h 75 p = i ∧ h 76 p = j then h 77 p else 0))), some (Sum.inl ((k : Int)))] [] (am_SH L, h, am_RR kp) Q) (Q (some (Sum.inl (v_owes (am_mv h) i j))) (am_SH L, h, am_RR kp)) (fun k hk => ?_) ?_
  · simp (disch := first | exact hv | omega) only [bq_M_owesOf_0, bq_M_owesOf_57, bq_M_owesOf_58, Option.toList_some, Option.toList_none, List.cons_append, List.nil_append, am_bi0, am_bi1, am_bft, true_and, reduceCtorEq, or_false, false_or, or_true, true_or, am_gd, am_incn, am_lk_nat, Int.toNat_natCast]
    exact key
  · show am_Wp d 225 5 [some (Sum.inr (Sum.inr 70)), some (Sum.inl (i)), some (Sum.inl (j)), some (Sum.inl (am_sumb k (fun p => if h 80 p = 0 ∧ h 75 p = i ∧ h 76 p = j then h 77 p else 0))), some (Sum.inl ((k : Int)))] [] (am_SH L, h, am_RR kp) Q = am_Wp d 225 5 [some (Sum.inr (Sum.inr 70)), some (Sum.inl (i)), some (Sum.inl (j)), some (Sum.inl (am_sumb (k + 1) (fun p => if h 80 p = 0 ∧ h 75 p = i ∧ h 76 p = j then h 77 p else 0))), some (Sum.inl (((k + 1 : Nat) : Int)))] [] (am_SH L, h, am_RR kp) Q
    have hb := am_sumb_le (n := k) (g := fun p => if h 80 p = 0 ∧ h 75 p = i ∧ h 76 p = j then h 77 p else 0) (A := 0) (B := 40) (fun p hp => by
      have hp1 := mv_p hv p (by omega)
      show 0 ≤ (if h 80 p = 0 ∧ h 75 p = i ∧ h 76 p = j then h 77 p else 0) ∧ (if h 80 p = 0 ∧ h 75 p = i ∧ h 76 p = j then h 77 p else 0) ≤ 40
      split <;> omega)
    have hp1 := mv_p hv k (by omega)
    rw [am_sumb_s]
    refine (bq_M_owesOf_5 ).trans ?_
    simp (disch := first | exact hv | omega) only [bq_M_owesOf_0, bq_M_owesOf_57, bq_M_owesOf_58, Option.toList_some, Option.toList_none, List.cons_append, List.nil_append, am_bi0, am_bi1, am_bft, true_and, reduceCtorEq, or_false, false_or, or_true, true_or, am_gd, am_incn, am_lk_nat, Int.toNat_natCast, am_add_ok]
    rw [if_neg (by omega)]
    (repeat' split) <;> first | rfl | (simp_all; done) | omega
  · show am_Wp d 225 5 [some (Sum.inr (Sum.inr 70)), some (Sum.inl (i)), some (Sum.inl (j)), some (Sum.inl (am_sumb ((h 70 6).toNat) (fun p => if h 80 p = 0 ∧ h 75 p = i ∧ h 76 p = j then h 77 p else 0))), some (Sum.inl ((((h 70 6).toNat : Nat) : Int)))] [] (am_SH L, h, am_RR kp) Q = _
    refine (bq_M_owesOf_5 ).trans ?_
    simp (disch := first | exact hv | omega) only [bq_M_owesOf_0, bq_M_owesOf_57, bq_M_owesOf_58, Option.toList_some, Option.toList_none, List.cons_append, List.nil_append, am_bi0, am_bi1, am_bft, true_and, reduceCtorEq, or_false, false_or, or_true, true_or, am_gd, am_incn, am_lk_nat, Int.toNat_natCast]
    rw [if_pos (by omega)]
    try rfl
