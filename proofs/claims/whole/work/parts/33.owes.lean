/-! WHO OWES WHOM, NETS -/
theorem v_owed_owes {V : am_Vw} (hv : v_ok V) {a b : Int} (ha : 0 ≤ a) (ha2 : a < 7) (hb : 0 ≤ b) (hb2 : b < 7) : v_owed V (vQ V).toNat (7 * a + b).toNat = v_owes V a b := by
  have hQ := v_ok_Q hv
  unfold v_owed v_owes
  refine am_sumb_eq (fun p hp => ?_)
  have h1 := v_ok_p hv p (by omega)
  by_cases h2 : vT V p = 0 ∧ vO V p = a ∧ vH V p = b
  · rw [if_pos h2, if_pos ⟨h2.1, by omega⟩]
  · rw [if_neg h2, if_neg (fun w => h2 ⟨w.1, by omega, by omega⟩)]
theorem v_net_nets {V : am_Vw} (hv : v_ok V) {i : Int} (hi : 0 ≤ i) : v_nets V (vQ V).toNat i.toNat = v_net V i := by
  have hQ := v_ok_Q hv
  have hP := v_ok_P hv
  unfold v_net v_nets
  rw [am_sumb_sub]
  have e1 : am_sumb (vP V).toNat (fun o => v_owes V (o : Int) i) = am_sumb (vQ V).toNat (fun p => if vT V p = 0 ∧ vH V p = i then vN V p else 0) := by
    unfold v_owes
    rw [am_sumb_swap]
    refine am_sumb_eq (fun p hp => ?_)
    have h1 := v_ok_p hv p (by omega)
    have h2 := v_ok_q hv p (by omega)
    by_cases h3 : vT V p = 0 ∧ vH V p = i
    · rw [if_pos h3]
      refine Eq.trans ?_ (am_sumb_one (n := (vP V).toNat) (i := (vO V p).toNat) (x := vN V p) (by omega))
      refine am_sumb_eq (fun o ho => ?_)
      by_cases h4 : o = (vO V p).toNat
      · rw [if_pos h4, if_pos ⟨h3.1, by omega, h3.2⟩]
      · rw [if_neg h4, if_neg (fun w => h4 (by omega))]
    · rw [if_neg h3]
      refine Eq.trans (am_sumb_eq (f := fun _ => 0) (fun o ho => if_neg (fun w => h3 ⟨w.1, w.2.2⟩))) am_sumb_0
  have e2 : am_sumb (vP V).toNat (fun o => v_owes V i (o : Int)) = am_sumb (vQ V).toNat (fun p => if vT V p = 0 ∧ vO V p = i then vN V p else 0) := by
    unfold v_owes
    rw [am_sumb_swap]
    refine am_sumb_eq (fun p hp => ?_)
    have h1 := v_ok_p hv p (by omega)
    have h2 := v_ok_q hv p (by omega)
    by_cases h3 : vT V p = 0 ∧ vO V p = i
    · rw [if_pos h3]
      refine Eq.trans ?_ (am_sumb_one (n := (vP V).toNat) (i := (vH V p).toNat) (x := vN V p) (by omega))
      refine am_sumb_eq (fun o ho => ?_)
      by_cases h4 : o = (vH V p).toNat
      · rw [if_pos h4, if_pos ⟨h3.1, h3.2, by omega⟩]
      · rw [if_neg h4, if_neg (fun w => h4 (by omega))]
    · rw [if_neg h3]
      refine Eq.trans (am_sumb_eq (f := fun _ => 0) (fun o ho => if_neg (fun w => h3 ⟨w.1, w.2.1⟩))) am_sumb_0
  rw [e1, e2, ← am_sumb_sub]
  refine am_sumb_eq (fun p hp => ?_)
  have h1 := v_ok_p hv p (by omega)
  by_cases h3 : vT V p = 0
  · rw [if_pos h3]
    (repeat' split) <;> omega
  · rw [if_neg h3, if_neg (fun w => h3 w.1), if_neg (fun w => h3 w.1)]; rfl
theorem v_net_le {V : am_Vw} (hv : v_ok V) {i : Int} (hi : 0 ≤ i) : -640 ≤ v_net V i ∧ v_net V i ≤ 640 := by
  have hQ := v_ok_Q hv
  rw [← v_net_nets hv hi]
  exact v_nets_le hv (by omega) _
def a_owes (V : am_Vw) (a b : Int) : am_V × Nat := if v_two V a b = false then (Sum.inl (-1), 1) else (Sum.inl (v_owes V a b), 0)
def a_net (V : am_Vw) (i : Int) : am_V × Nat := if v_isP V i = false then (Sum.inl 1000000001, 1) else (Sum.inl (v_net V i), 0)
theorem c_owes {d L kp : Nat} {h : Nat → Nat → Int} {i e : Int} (hd : 4 ≤ d) (hv : v_ok (am_wv h 2)) : am_An L 41 (a_owes (am_wv h 2) i e) h (fun Q => am_Wp d 70 0 [some (Sum.inr (Sum.inr 1)), some (Sum.inl i), some (Sum.inl e)] [] (am_SH L, h, am_RR kp) Q) := by
  have hQ := wv_Q hv
  have hP := wv_P hv
  have hD := wv_D hv
  intro Q hq
  have hq2 : Q (some (a_owes (am_wv h 2) i e).1) (am_SH L, am_bump 41 (a_owes (am_wv h 2) i e).2 h, am_RR kp) := hq _ kp am_keep_r
  show am_Wp d 70 0 [some (Sum.inr (Sum.inr 1)), some (Sum.inl i), some (Sum.inl e)] [] (am_SH L, h, am_RR kp) Q
  unfold a_owes at hq2
  simp (disch := first | exact hv | omega) only [bq_KO_owes_0, bq_KO_owes_6, bq_KO_owes_26, bq_KO_owes_14, bq_KO_owes_35, sp_KO_areTwo, sp_KO_refuse, sp_Ledger_read, sp_Ledger_owed, Option.toList_some, Option.toList_none, List.cons_append, List.nil_append, am_bi0, am_bi1, am_bft, true_and, reduceCtorEq, or_false, false_or, or_true, true_or, am_gd, am_incn, am_lk_nat, Int.toNat_natCast, ↓reduceIte, Int.reduceEq, Int.reduceAdd, Int.reduceNeg, Int.reduceToNat, am_sub_r1]
  have hq3 := hq (am_ledk h (am_wv h 2) (h 2 1).toNat) kp (am_keep_led am_keep_r)
  unfold a_owes at hq3
  cases hi : v_two (am_wv h 2) i e
  · simp only [hi, ↓reduceIte, reduceCtorEq] at hq2 ⊢
    exact hq2
  · have hi2 := v_two_iff.1 hi
    dsimp only [vP, vQ, vD, vK, vF, vS, vU, vO, vH, vN, vE, vG, vT, am_mv, am_wv] at hi2
    have el : am_lk (am_ledk h (am_wv h 2) (h 2 1).toNat 43) 49 (am_add (am_mul 7 i) e) = v_owes (am_wv h 2) i e := by
      rw [am_mul_ok (by omega) (by omega), am_add_ok (by omega) (by omega), am_lk_in (by omega) (by omega), am_ledk_43 (by omega)]
      exact v_owed_owes hv (by omega) (by omega) (by omega) (by omega)
    simp only [hi, ↓reduceIte, reduceCtorEq, el] at hq3 ⊢
    exact hq3

theorem c_net {d L kp : Nat} {h : Nat → Nat → Int} {i : Int} (hd : 4 ≤ d) (hv : v_ok (am_wv h 2)) : am_An L 41 (a_net (am_wv h 2) i) h (fun Q => am_Wp d 76 0 [some (Sum.inr (Sum.inr 1)), some (Sum.inl i)] [] (am_SH L, h, am_RR kp) Q) := by
  have hQ := wv_Q hv
  have hP := wv_P hv
  have hD := wv_D hv
  intro Q hq
  have hq2 : Q (some (a_net (am_wv h 2) i).1) (am_SH L, am_bump 41 (a_net (am_wv h 2) i).2 h, am_RR kp) := hq _ kp am_keep_r
  show am_Wp d 76 0 [some (Sum.inr (Sum.inr 1)), some (Sum.inl i)] [] (am_SH L, h, am_RR kp) Q
  unfold a_net at hq2
  simp (disch := first | exact hv | omega) only [bq_KO_net_0, bq_KO_net_8, bq_KO_net_31, bq_KO_net_18, bq_KO_net_39, sp_World_isPerson_2, sp_KO_refuse, sp_Ledger_read, sp_Ledger_netOf, Option.toList_some, Option.toList_none, List.cons_append, List.nil_append, am_bi0, am_bi1, am_bft, true_and, reduceCtorEq, or_false, false_or, or_true, true_or, am_gd, am_incn, am_lk_nat, Int.toNat_natCast, ↓reduceIte, Int.reduceEq, Int.reduceAdd, Int.reduceNeg, Int.reduceToNat, am_sub_r1]
  have hq3 := hq (am_ledk h (am_wv h 2) (h 2 1).toNat) kp (am_keep_led am_keep_r)
  unfold a_net at hq3
  cases hi : v_isP (am_wv h 2) i
  · simp only [hi, ↓reduceIte, reduceCtorEq] at hq2 ⊢
    exact hq2
  · have hi2 := v_isP_iff.1 hi
    dsimp only [vP, vQ, vD, vK, vF, vS, vU, vO, vH, vN, vE, vG, vT, am_mv, am_wv] at hi2
    have el : am_lk (am_ledk h (am_wv h 2) (h 2 1).toNat 44) 7 i = v_net (am_wv h 2) i := by
      rw [am_lk_in (by omega) (by omega), am_ledk_44 (by omega)]
      exact v_net_nets hv (by omega)
    simp only [hi, ↓reduceIte, reduceCtorEq, el] at hq3 ⊢
    exact hq3

theorem lp_M_netOf {d L kp : Nat} {h : Nat → Nat → Int} {Q : Option am_V → am_H → Prop} {i : Int} (hd : 1 ≤ d) (hv : v_ok (am_mv h)) : am_Wp d 227 4 [some (Sum.inr (Sum.inr 70)), some (Sum.inl (i)), some (Sum.inl (0)), some (Sum.inl (0))] [] (am_SH L, h, am_RR kp) Q = Q (some (Sum.inl (v_net (am_mv h) i))) (am_SH L, h, am_RR kp) := by
  have hQ := mv_Q hv
  have hP := mv_P hv
  have hD := mv_D hv
  refine am_up_eq (n := (h 70 0).toNat) (fun k => am_Wp d 227 4 [some (Sum.inr (Sum.inr 70)), some (Sum.inl (i)), some (Sum.inl (am_sumb k (fun p => v_owes (am_mv h) (p : Int) i - v_owes (am_mv h) i (p : Int)))), some (Sum.inl ((k : Int)))] [] (am_SH L, h, am_RR kp) Q) (Q (some (Sum.inl (v_net (am_mv h) i))) (am_SH L, h, am_RR kp)) (fun k hk => ?_) ?_
  · show am_Wp d 227 4 [some (Sum.inr (Sum.inr 70)), some (Sum.inl (i)), some (Sum.inl (am_sumb k (fun p => v_owes (am_mv h) (p : Int) i - v_owes (am_mv h) i (p : Int)))), some (Sum.inl ((k : Int)))] [] (am_SH L, h, am_RR kp) Q = am_Wp d 227 4 [some (Sum.inr (Sum.inr 70)), some (Sum.inl (i)), some (Sum.inl (am_sumb (k + 1) (fun p => v_owes (am_mv h) (p : Int) i - v_owes (am_mv h) i (p : Int)))), some (Sum.inl (((k + 1 : Nat) : Int)))] [] (am_SH L, h, am_RR kp) Q
    have hb := am_sumb_le (n := k) (g := fun p => v_owes (am_mv h) (p : Int) i - v_owes (am_mv h) i (p : Int)) (A := -640) (B := 640) (fun p hp => by
      have hw1 := v_owes_le hv (p : Int) i
      have hw2 := v_owes_le hv i (p : Int)
      show -640 ≤ (v_owes (am_mv h) (p : Int) i - v_owes (am_mv h) i (p : Int)) ∧ (v_owes (am_mv h) (p : Int) i - v_owes (am_mv h) i (p : Int)) ≤ 640
      omega)
    have hw1 := v_owes_le hv (k : Int) i
    have hw2 := v_owes_le hv i (k : Int)
    rw [am_sumb_s] 
    refine (bq_M_netOf_4 (by omega)).trans ?_
    simp (disch := first | exact hv | omega) only [bq_M_netOf_0, bq_M_netOf_19, bq_M_netOf_25, sp_M_owesOf, Option.toList_some, Option.toList_none, List.cons_append, List.nil_append, am_bi0, am_bi1, am_bft, true_and, reduceCtorEq, or_false, false_or, or_true, true_or, am_gd, am_incn, am_lk_nat, Int.toNat_natCast, ↓reduceIte, Int.reduceEq, am_add_ok, am_sub_ok]
    rw [if_neg (by omega)]
    (repeat' split) <;> first | rfl | (simp_all; done) | omega
  · show am_Wp d 227 4 [some (Sum.inr (Sum.inr 70)), some (Sum.inl (i)), some (Sum.inl (am_sumb ((h 70 0).toNat) (fun p => v_owes (am_mv h) (p : Int) i - v_owes (am_mv h) i (p : Int)))), some (Sum.inl ((((h 70 0).toNat : Nat) : Int)))] [] (am_SH L, h, am_RR kp) Q = _
    refine (bq_M_netOf_4 (by omega)).trans ?_
    simp (disch := first | exact hv | omega) only [bq_M_netOf_0, bq_M_netOf_19, bq_M_netOf_25, sp_M_owesOf, Option.toList_some, Option.toList_none, List.cons_append, List.nil_append, am_bi0, am_bi1, am_bft, true_and, reduceCtorEq, or_false, false_or, or_true, true_or, am_gd, am_incn, am_lk_nat, Int.toNat_natCast, ↓reduceIte, Int.reduceEq]
    rw [if_pos (by omega)]
    try rfl

theorem sp_M_netOf {d L kp : Nat} {h : Nat → Nat → Int} {Q : Option am_V → am_H → Prop} {i : Int} (hd : 1 ≤ d) (hv : v_ok (am_mv h)) : am_Wp d 227 0 [some (Sum.inr (Sum.inr 70)), some (Sum.inl i), none, none] [] (am_SH L, h, am_RR kp) Q = Q (some (Sum.inl (v_net (am_mv h) i))) (am_SH L, h, am_RR kp) := by
  rw [bq_M_netOf_0]
  exact lp_M_netOf hd hv

theorem m_owes {d L kp : Nat} {h : Nat → Nat → Int} {i e : Int} (hd : 3 ≤ d) (hv : v_ok (am_mv h)) : am_An L 81 (a_owes (am_mv h) i e) h (fun Q => am_Wp d 224 0 [some (Sum.inr (Sum.inr 70)), some (Sum.inl i), some (Sum.inl e)] [] (am_SH L, h, am_RR kp) Q) := by
  have hQ := mv_Q hv
  have hP := mv_P hv
  have hD := mv_D hv
  intro Q hq
  have hq2 : Q (some (a_owes (am_mv h) i e).1) (am_SH L, am_bump 81 (a_owes (am_mv h) i e).2 (am_up h 70 13 0), am_RR kp) := hq _ kp (am_keep_up rfl am_keep_r)
  clear hq
  have hv2 : v_ok (am_mv (am_up h 70 13 0)) := hv
  try rw [show am_mv h = am_mv (am_up h 70 13 0) from rfl] at hq2
  show am_Wp d 224 0 [some (Sum.inr (Sum.inr 70)), some (Sum.inl i), some (Sum.inl e)] [] (am_SH L, h, am_RR kp) Q
  refine (show _ = _ from bq_M_owes_0 (by omega)).mpr ?_
  clear hv hQ hP hD
  generalize am_up h 70 13 0 = g at hq2 hv2 ⊢
  have hv := hv2
  have hQ := mv_Q hv
  have hP := mv_P hv
  have hD := mv_D hv
  unfold a_owes at hq2
  simp (disch := first | exact hv | omega) only [bq_M_owes_0, bq_M_owes_11, bq_M_owes_28, bq_M_owes_20, sp_M_areTwo, sp_M_refuse, sp_M_owesOf, Option.toList_some, Option.toList_none, List.cons_append, List.nil_append, am_bi0, am_bi1, am_bft, true_and, reduceCtorEq, or_false, false_or, or_true, true_or, am_gd, am_incn, am_lk_nat, Int.toNat_natCast, ↓reduceIte, Int.reduceEq, Int.reduceAdd, Int.reduceNeg, Int.reduceToNat]
  revert hq2
  (repeat' split) <;> intro hq2 <;> first | exact hq2 | (exfalso; omega) | (simp_all; done)

theorem m_net {d L kp : Nat} {h : Nat → Nat → Int} {i : Int} (hd : 2 ≤ d) (hv : v_ok (am_mv h)) : am_An L 81 (a_net (am_mv h) i) h (fun Q => am_Wp d 226 0 [some (Sum.inr (Sum.inr 70)), some (Sum.inl i)] [] (am_SH L, h, am_RR kp) Q) := by
  have hQ := mv_Q hv
  have hP := mv_P hv
  have hD := mv_D hv
  intro Q hq
  have hq2 : Q (some (a_net (am_mv h) i).1) (am_SH L, am_bump 81 (a_net (am_mv h) i).2 (am_up h 70 13 0), am_RR kp) := hq _ kp (am_keep_up rfl am_keep_r)
  clear hq
  have hv2 : v_ok (am_mv (am_up h 70 13 0)) := hv
  try rw [show am_mv h = am_mv (am_up h 70 13 0) from rfl] at hq2
  show am_Wp d 226 0 [some (Sum.inr (Sum.inr 70)), some (Sum.inl i)] [] (am_SH L, h, am_RR kp) Q
  refine (show _ = _ from bq_M_net_0 (by omega)).mpr ?_
  clear hv hQ hP hD
  generalize am_up h 70 13 0 = g at hq2 hv2 ⊢
  have hv := hv2
  have hQ := mv_Q hv
  have hP := mv_P hv
  have hD := mv_D hv
  unfold a_net at hq2
  simp (disch := first | exact hv | omega) only [bq_M_net_0, bq_M_net_10, bq_M_net_28, bq_M_net_18, bq_M_net_29, sp_M_isOne, sp_M_refuse, sp_M_netOf, Option.toList_some, Option.toList_none, List.cons_append, List.nil_append, am_bi0, am_bi1, am_bft, true_and, reduceCtorEq, or_false, false_or, or_true, true_or, am_gd, am_incn, am_lk_nat, Int.toNat_natCast, ↓reduceIte, Int.reduceEq, Int.reduceAdd, Int.reduceNeg, Int.reduceToNat, am_sub_r1]
  revert hq2
  (repeat' split) <;> intro hq2 <;> first | exact hq2 | (exfalso; omega) | (simp_all; done)
