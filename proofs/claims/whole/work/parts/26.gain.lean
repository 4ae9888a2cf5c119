/-! THE CALLS gain, bestBuy, stuck, looks -/
theorem lp_KO_gainBy {d L kp : Nat} {h : Nat → Nat → Int} {Q : Option am_V → am_H → Prop} {i e : Int} (j : Option am_V) (hd : 3 ≤ d) (hv : v_ok (am_wv h 2)) (hs : v_shuns (am_wv h 2) i e = false) : am_Wp d 108 16 [some (Sum.inr (Sum.inr 2)), some (Sum.inl (i)), some (Sum.inl (e)), some (Sum.inl (0)), some (Sum.inl (0)), j] [] (am_SH L, h, am_RR kp) Q = Q (some (Sum.inl (v_gain (am_wv h 2) i e))) (am_SH L, h, am_RR kp) := by
  have hQ := wv_Q hv
  have hP := wv_P hv
  have hD := wv_D hv
  refine am_dn_eq (J := Option am_V) (n := (h 2 1).toNat) (fun k j => am_Wp d 108 16 [some (Sum.inr (Sum.inr 2)), some (Sum.inl (i)), some (Sum.inl (e)), some (Sum.inl (am_sumb k (fun p => if h 12 p = 0 ∧ h 7 p = e ∧ ¬ h 8 p = i ∧ v_shuns (am_wv h 2) i e = false then (if h 11 p = 0 then h 9 p else 0) - v_worth (am_wv h 2) (p : Int) else 0))), some (Sum.inl ((k : Int))), j] [] (am_SH L, h, am_RR kp) Q) (Q (some (Sum.inl (v_gain (am_wv h 2) i e))) (am_SH L, h, am_RR kp)) (fun k hk ih j => ?_) (fun j => ?_) j
  · have ih2 : ∀ j, am_Wp d 108 16 [some (Sum.inr (Sum.inr 2)), some (Sum.inl (i)), some (Sum.inl (e)), some (Sum.inl (am_sumb (k + 1) (fun p => if h 12 p = 0 ∧ h 7 p = e ∧ ¬ h 8 p = i ∧ v_shuns (am_wv h 2) i e = false then (if h 11 p = 0 then h 9 p else 0) - v_worth (am_wv h 2) (p : Int) else 0))), some (Sum.inl (((k + 1 : Nat) : Int))), j] [] (am_SH L, h, am_RR kp) Q = Q (some (Sum.inl (v_gain (am_wv h 2) i e))) (am_SH L, h, am_RR kp) := ih
    clear ih
    show am_Wp d 108 16 [some (Sum.inr (Sum.inr 2)), some (Sum.inl (i)), some (Sum.inl (e)), some (Sum.inl (am_sumb k (fun p => if h 12 p = 0 ∧ h 7 p = e ∧ ¬ h 8 p = i ∧ v_shuns (am_wv h 2) i e = false then (if h 11 p = 0 then h 9 p else 0) - v_worth (am_wv h 2) (p : Int) else 0))), some (Sum.inl ((k : Int))), j] [] (am_SH L, h, am_RR kp) Q = _
    have hb := am_sumb_le (n := k) (g := fun p => if h 12 p = 0 ∧ h 7 p = e ∧ ¬ h 8 p = i ∧ v_shuns (am_wv h 2) i e = false then (if h 11 p = 0 then h 9 p else 0) - v_worth (am_wv h 2) (p : Int) else 0) (A := -40) (B := 40) (fun p hp => by
      have hp1 := wv_p hv p (by omega)
      have hq1 := wv_q hv p (by omega)
      have hw1 := wv_w hv p (by omega)
      have ho1 : v_open (am_wv h 2) (p : Int) = decide (h 12 p = 0) := v_open_nat hv (show (p : Int) < h 2 1 by omega)
      show -40 ≤ (if h 12 p = 0 ∧ h 7 p = e ∧ ¬ h 8 p = i ∧ v_shuns (am_wv h 2) i e = false then (if h 11 p = 0 then h 9 p else 0) - v_worth (am_wv h 2) (p : Int) else 0) ∧ (if h 12 p = 0 ∧ h 7 p = e ∧ ¬ h 8 p = i ∧ v_shuns (am_wv h 2) i e = false then (if h 11 p = 0 then h 9 p else 0) - v_worth (am_wv h 2) (p : Int) else 0) ≤ 40
      (repeat' split) <;> omega)
    have hp1 := wv_p hv k (by omega)
    have hq1 := wv_q hv k (by omega)
    have hw1 := wv_w hv k (by omega)
    have ho1 : v_open (am_wv h 2) (k : Int) = decide (h 12 k = 0) := v_open_nat hv (show (k : Int) < h 2 1 by omega)
    rw [am_sumb_s] at ih2
    refine (bq_KO_gainBy_16 (by omega)).trans ?_
    simp (disch := first | exact hv | omega) only [bq_KO_gainBy_0, bq_KO_gainBy_6, bq_KO_gainBy_22, bq_KO_gainBy_31, bq_KO_gainBy_87, bq_KO_gainBy_40, bq_KO_gainBy_50, bq_KO_gainBy_60, bq_KO_gainBy_73, bq_KO_gainBy_69, bq_KO_gainBy_84, sp_World_shuns_2, sp_World_papers_2, sp_World_isOpen_2, sp_World_debtorOf_2, sp_World_holderOf_2, sp_World_forgedOf_2, sp_World_quartersOf_2, sp_World_worthOf_2, Option.toList_some, Option.toList_none, List.cons_append, List.nil_append, am_bi0, am_bi1, am_bft, true_and, reduceCtorEq, or_false, false_or, or_true, true_or, am_gd, am_incn, am_lk_nat, Int.toNat_natCast, ↓reduceIte, Int.reduceEq, am_add_ok, ho1, decide_eq_false_iff_not, decide_eq_true_eq, am_sub_ok]
    rw [if_neg (by omega)]
    revert ih2
    (repeat' split) <;> intro ih2 <;> first | exact ih2 _ | (simp_all; done) | omega
  · show am_Wp d 108 16 [some (Sum.inr (Sum.inr 2)), some (Sum.inl (i)), some (Sum.inl (e)), some (Sum.inl (am_sumb ((h 2 1).toNat) (fun p => if h 12 p = 0 ∧ h 7 p = e ∧ ¬ h 8 p = i ∧ v_shuns (am_wv h 2) i e = false then (if h 11 p = 0 then h 9 p else 0) - v_worth (am_wv h 2) (p : Int) else 0))), some (Sum.inl ((((h 2 1).toNat : Nat) : Int))), j] [] (am_SH L, h, am_RR kp) Q = _
    refine (bq_KO_gainBy_16 (by omega)).trans ?_
    simp (disch := first | exact hv | omega) only [bq_KO_gainBy_0, bq_KO_gainBy_6, bq_KO_gainBy_22, bq_KO_gainBy_31, bq_KO_gainBy_87, bq_KO_gainBy_40, bq_KO_gainBy_50, bq_KO_gainBy_60, bq_KO_gainBy_73, bq_KO_gainBy_69, bq_KO_gainBy_84, sp_World_shuns_2, sp_World_papers_2, sp_World_isOpen_2, sp_World_debtorOf_2, sp_World_holderOf_2, sp_World_forgedOf_2, sp_World_quartersOf_2, sp_World_worthOf_2, Option.toList_some, Option.toList_none, List.cons_append, List.nil_append, am_bi0, am_bi1, am_bft, true_and, reduceCtorEq, or_false, false_or, or_true, true_or, am_gd, am_incn, am_lk_nat, Int.toNat_natCast, ↓reduceIte, Int.reduceEq]
    rw [if_pos (by omega)]
    try rfl

theorem sp_KO_gainBy {d L kp : Nat} {h : Nat → Nat → Int} {Q : Option am_V → am_H → Prop} {i e : Int} (hd : 3 ≤ d) (hv : v_ok (am_wv h 2)) : am_Wp d 108 0 [some (Sum.inr (Sum.inr 2)), some (Sum.inl i), some (Sum.inl e), none, none, none] [] (am_SH L, h, am_RR kp) Q = Q (some (Sum.inl (v_gain (am_wv h 2) i e))) (am_SH L, h, am_RR kp) := by
  cases hs : v_shuns (am_wv h 2) i e
  · have h1 := fun j => lp_KO_gainBy (d := d) (L := L) (kp := kp) (Q := Q) (j := j) hd hv hs
    simp (disch := first | exact hv | omega) only [bq_KO_gainBy_0, bq_KO_gainBy_6, bq_KO_gainBy_22, bq_KO_gainBy_31, bq_KO_gainBy_87, bq_KO_gainBy_40, bq_KO_gainBy_50, bq_KO_gainBy_60, bq_KO_gainBy_73, bq_KO_gainBy_69, bq_KO_gainBy_84, sp_World_shuns_2, hs, h1, Option.toList_some, Option.toList_none, List.cons_append, List.nil_append, am_bi0, am_bi1, am_bft, true_and, reduceCtorEq, or_false, false_or, or_true, true_or, am_gd, am_incn, am_lk_nat, Int.toNat_natCast, ↓reduceIte, Int.reduceEq]
  · rw [v_gain_0 hs]
    simp (disch := first | exact hv | omega) only [bq_KO_gainBy_0, bq_KO_gainBy_6, bq_KO_gainBy_22, bq_KO_gainBy_31, bq_KO_gainBy_87, bq_KO_gainBy_40, bq_KO_gainBy_50, bq_KO_gainBy_60, bq_KO_gainBy_73, bq_KO_gainBy_69, bq_KO_gainBy_84, sp_World_shuns_2, hs, Option.toList_some, Option.toList_none, List.cons_append, List.nil_append, am_bi0, am_bi1, am_bft, true_and, reduceCtorEq, or_false, false_or, or_true, true_or, am_gd, am_incn, am_lk_nat, Int.toNat_natCast, ↓reduceIte, Int.reduceEq]
  

theorem c_gain {d L kp : Nat} {h : Nat → Nat → Int} {i e : Int} (hd : 4 ≤ d) (hv : v_ok (am_wv h 2)) : am_An L 41 (a_gain (am_wv h 2) i e) h (fun Q => am_Wp d 107 0 [some (Sum.inr (Sum.inr 1)), some (Sum.inl i), some (Sum.inl e)] [] (am_SH L, h, am_RR kp) Q) := by
  have hQ := wv_Q hv
  have hP := wv_P hv
  have hD := wv_D hv
  intro Q hq
  have hq2 : Q (some (a_gain (am_wv h 2) i e).1) (am_SH L, am_bump 41 (a_gain (am_wv h 2) i e).2 h, am_RR kp) := hq _ kp am_keep_r
  show am_Wp d 107 0 [some (Sum.inr (Sum.inr 1)), some (Sum.inl i), some (Sum.inl e)] [] (am_SH L, h, am_RR kp) Q
  unfold a_gain at hq2
  simp (disch := first | exact hv | omega) only [bq_KO_gain_0, bq_KO_gain_6, bq_KO_gain_27, bq_KO_gain_16, sp_KO_areTwo, sp_KO_refuse, sp_KO_gainBy, Option.toList_some, Option.toList_none, List.cons_append, List.nil_append, am_bi0, am_bi1, am_bft, true_and, reduceCtorEq, or_false, false_or, or_true, true_or, am_gd, am_incn, am_lk_nat, Int.toNat_natCast, ↓reduceIte, Int.reduceEq, Int.reduceAdd, Int.reduceNeg, Int.reduceToNat, am_sub_r1]
  revert hq2
  (repeat' split) <;> intro hq2 <;> first | exact hq2 | (exfalso; omega) | (simp_all; done)

theorem lp_M_gainOf {d L kp : Nat} {h : Nat → Nat → Int} {Q : Option am_V → am_H → Prop} {i e : Int} (j : Option am_V) (hd : 2 ≤ d) (hv : v_ok (am_mv h)) (h0i : 0 ≤ i) (h1i : i < 7) (h0e : 0 ≤ e) (h1e : e < 7) : am_Wp d 245 5 [some (Sum.inr (Sum.inr 70)), some (Sum.inl (i)), some (Sum.inl (e)), some (Sum.inl (0)), some (Sum.inl (0)), j] [] (am_SH L, h, am_RR kp) Q = Q (some (Sum.inl (v_gain (am_mv h) i e))) (am_SH L, h, am_RR kp) := by
  have hQ := mv_Q hv
  have hP := mv_P hv
  have hD := mv_D hv
  have hu1 := (mv_i hv i.toNat (by omega)).2.2.2
  have es : am_has (h 74 i.toNat) e = v_shuns (am_mv h) i e := by
    unfold v_shuns
    rw [am_lk_in (by omega) (by omega)]
  refine am_dn_eq (J := Option am_V) (n := (h 70 6).toNat) (fun k j => am_Wp d 245 5 [some (Sum.inr (Sum.inr 70)), some (Sum.inl (i)), some (Sum.inl (e)), some (Sum.inl (am_sumb k (fun p => if h 80 p = 0 ∧ h 75 p = e ∧ ¬ h 76 p = i ∧ v_shuns (am_mv h) i e = false then (if h 79 p = 0 then h 77 p else 0) - v_worth (am_mv h) (p : Int) else 0))), some (Sum.inl ((k : Int))), j] [] (am_SH L, h, am_RR kp) Q) (Q (some (Sum.inl (v_gain (am_mv h) i e))) (am_SH L, h, am_RR kp)) (fun k hk ih j => ?_) (fun j => ?_) j
  · have ih2 : ∀ j, am_Wp d 245 5 [some (Sum.inr (Sum.inr 70)), some (Sum.inl (i)), some (Sum.inl (e)), some (Sum.inl (am_sumb (k + 1) (fun p => if h 80 p = 0 ∧ h 75 p = e ∧ ¬ h 76 p = i ∧ v_shuns (am_mv h) i e = false then (if h 79 p = 0 then h 77 p else 0) - v_worth (am_mv h) (p : Int) else 0))), some (Sum.inl (((k + 1 : Nat) : Int))), j] [] (am_SH L, h, am_RR kp) Q = Q (some (Sum.inl (v_gain (am_mv h) i e))) (am_SH L, h, am_RR kp) := ih
    clear ih
    show am_Wp d 245 5 [some (Sum.inr (Sum.inr 70)), some (Sum.inl (i)), some (Sum.inl (e)), some (Sum.inl (am_sumb k (fun p => if h 80 p = 0 ∧ h 75 p = e ∧ ¬ h 76 p = i ∧ v_shuns (am_mv h) i e = false then (if h 79 p = 0 then h 77 p else 0) - v_worth (am_mv h) (p : Int) else 0))), some (Sum.inl ((k : Int))), j] [] (am_SH L, h, am_RR kp) Q = _
    have hb := am_sumb_le (n := k) (g := fun p => if h 80 p = 0 ∧ h 75 p = e ∧ ¬ h 76 p = i ∧ v_shuns (am_mv h) i e = false then (if h 79 p = 0 then h 77 p else 0) - v_worth (am_mv h) (p : Int) else 0) (A := -40) (B := 40) (fun p hp => by
      have hp1 := mv_p hv p (by omega)
      have hq1 := mv_q hv p (by omega)
      have hw1 := mv_w hv p (by omega)
      show -40 ≤ (if h 80 p = 0 ∧ h 75 p = e ∧ ¬ h 76 p = i ∧ v_shuns (am_mv h) i e = false then (if h 79 p = 0 then h 77 p else 0) - v_worth (am_mv h) (p : Int) else 0) ∧ (if h 80 p = 0 ∧ h 75 p = e ∧ ¬ h 76 p = i ∧ v_shuns (am_mv h) i e = false then (if h 79 p = 0 then h 77 p else 0) - v_worth (am_mv h) (p : Int) else 0) ≤ 40
      (repeat' split) <;> omega)
    have hp1 := mv_p hv k (by omega)
    have hq1 := mv_q hv k (by omega)
    have hw1 := mv_w hv k (by omega)
    rw [am_sumb_s] at ih2
    refine (bq_M_gainOf_5 (by omega)).trans ?_
    simp (disch := first | exact hv | omega) only [bq_M_gainOf_0, bq_M_gainOf_63, bq_M_gainOf_56, bq_M_gainOf_64, bq_M_gainOf_105, bq_M_gainOf_94, bq_M_gainOf_100, sp_M_hasBit, sp_M_worthOf, Option.toList_some, Option.toList_none, List.cons_append, List.nil_append, am_bi0, am_bi1, am_bft, true_and, reduceCtorEq, or_false, false_or, or_true, true_or, am_gd, am_incn, am_lk_nat, Int.toNat_natCast, ↓reduceIte, Int.reduceEq, am_add_ok, am_sub_ok, es]
    rw [if_neg (by omega)]
    revert ih2
    (repeat' split) <;> intro ih2 <;> first | exact ih2 _ | (simp_all; done) | omega
  · show am_Wp d 245 5 [some (Sum.inr (Sum.inr 70)), some (Sum.inl (i)), some (Sum.inl (e)), some (Sum.inl (am_sumb ((h 70 6).toNat) (fun p => if h 80 p = 0 ∧ h 75 p = e ∧ ¬ h 76 p = i ∧ v_shuns (am_mv h) i e = false then (if h 79 p = 0 then h 77 p else 0) - v_worth (am_mv h) (p : Int) else 0))), some (Sum.inl ((((h 70 6).toNat : Nat) : Int))), j] [] (am_SH L, h, am_RR kp) Q = _
    refine (bq_M_gainOf_5 (by omega)).trans ?_
    simp (disch := first | exact hv | omega) only [bq_M_gainOf_0, bq_M_gainOf_63, bq_M_gainOf_56, bq_M_gainOf_64, bq_M_gainOf_105, bq_M_gainOf_94, bq_M_gainOf_100, sp_M_hasBit, sp_M_worthOf, Option.toList_some, Option.toList_none, List.cons_append, List.nil_append, am_bi0, am_bi1, am_bft, true_and, reduceCtorEq, or_false, false_or, or_true, true_or, am_gd, am_incn, am_lk_nat, Int.toNat_natCast, ↓reduceIte, Int.reduceEq]
    rw [if_pos (by omega)]
    try rfl

theorem sp_M_gainOf {d L kp : Nat} {h : Nat → Nat → Int} {Q : Option am_V → am_H → Prop} {i e : Int} (hd : 2 ≤ d) (hv : v_ok (am_mv h)) (h0i : 0 ≤ i) (h1i : i < 7) (h0e : 0 ≤ e) (h1e : e < 7) : am_Wp d 245 0 [some (Sum.inr (Sum.inr 70)), some (Sum.inl i), some (Sum.inl e), none, none, none] [] (am_SH L, h, am_RR kp) Q = Q (some (Sum.inl (v_gain (am_mv h) i e))) (am_SH L, h, am_RR kp) := by
  rw [bq_M_gainOf_0]
  exact lp_M_gainOf none hd hv h0i h1i h0e h1e

theorem m_gain {d L kp : Nat} {h : Nat → Nat → Int} {i e : Int} (hd : 3 ≤ d) (hv : v_ok (am_mv h)) : am_An L 81 (a_gain (am_mv h) i e) h (fun Q => am_Wp d 244 0 [some (Sum.inr (Sum.inr 70)), some (Sum.inl i), some (Sum.inl e)] [] (am_SH L, h, am_RR kp) Q) := by
  have hQ := mv_Q hv
  have hP := mv_P hv
  have hD := mv_D hv
  intro Q hq
  have hq2 : Q (some (a_gain (am_mv h) i e).1) (am_SH L, am_bump 81 (a_gain (am_mv h) i e).2 (am_up h 70 13 0), am_RR kp) := hq _ kp (am_keep_up rfl am_keep_r)
  clear hq
  have hv2 : v_ok (am_mv (am_up h 70 13 0)) := hv
  try rw [show am_mv h = am_mv (am_up h 70 13 0) from rfl] at hq2
  show am_Wp d 244 0 [some (Sum.inr (Sum.inr 70)), some (Sum.inl i), some (Sum.inl e)] [] (am_SH L, h, am_RR kp) Q
  refine (show _ = _ from bq_M_gain_0 (by omega)).mpr ?_
  clear hv hQ hP hD
  generalize am_up h 70 13 0 = g at hq2 hv2 ⊢
  have hv := hv2
  have hQ := mv_Q hv
  have hP := mv_P hv
  have hD := mv_D hv
  unfold a_gain at hq2
  simp (disch := first | exact hv | omega) only [bq_M_gain_0, bq_M_gain_11, bq_M_gain_30, bq_M_gain_20, bq_M_gain_31, sp_M_areTwo, sp_M_refuse, sp_M_gainOf, Option.toList_some, Option.toList_none, List.cons_append, List.nil_append, am_bi0, am_bi1, am_bft, true_and, reduceCtorEq, or_false, false_or, or_true, true_or, am_gd, am_incn, am_lk_nat, Int.toNat_natCast, ↓reduceIte, Int.reduceEq, Int.reduceAdd, Int.reduceNeg, Int.reduceToNat, am_sub_r1]
  cases hi : v_two (am_mv g) i e
  · simp only [hi, if_true, reduceCtorEq, if_false, am_bi0, am_bi1, not_true_eq_false, not_false_eq_true] at hq2 ⊢
    first | exact hq2 | (simp_all; done)
  · have hi2 := v_two_iff.1 hi
    dsimp only [vP, vQ, vD, vK, vF, vS, vU, vO, vH, vN, vE, vG, vT, am_mv, am_wv] at hi2
    simp (disch := first | exact hv | omega) only [hi, reduceCtorEq, if_false, am_lk_in, am_gd, bq_M_gain_0, bq_M_gain_11, bq_M_gain_30, bq_M_gain_20, bq_M_gain_31, sp_M_areTwo, sp_M_refuse, sp_M_gainOf, Option.toList_some, Option.toList_none, List.cons_append, List.nil_append, am_bi0, am_bi1, am_bft, true_and, reduceCtorEq, or_false, false_or, or_true, true_or, am_gd, am_incn, am_lk_nat, Int.toNat_natCast, ↓reduceIte, Int.reduceEq] at hq2 ⊢
    revert hq2
    (repeat' split) <;> intro hq2 <;> first | exact hq2 | (exfalso; simp_all; omega) | (simp_all; done)
