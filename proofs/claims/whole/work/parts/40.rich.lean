/-! THE CALL rich (class) -/
theorem lp_KO_rich {d L kp : Nat} {h : Nat → Nat → Int} {Q : Option am_V → am_H → Prop} {i e : Int} (hd : 4 ≤ d) (hv : v_ok (am_wv h 2)) : am_Wp d 149 60 [some (Sum.inr (Sum.inr 1)), some (Sum.inl i), some (Sum.inl e), some (Sum.inl (v_kis (am_wv h 2) i 0)), some (Sum.inl (h 2 2 + ((0 : Nat) : Int)))] [] (am_SH L, h, am_RR kp) Q = (match v_rich (am_wv h 2) i e with | some k => Q (some (Sum.inl (h 2 2 + (k : Int)))) (am_SH L, h, am_RR kp) | none => Q (some (Sum.inl (-9))) (am_SH L, h, am_RR kp)) := by
  have hQ := wv_Q hv
  have hP := wv_P hv
  have hD := wv_D hv
  refine am_fst_eq (n := (99 - h 2 2).toNat) (fun k => decide (e ≤ v_kis (am_wv h 2) i (k + 1))) (fun k => am_Wp d 149 60 [some (Sum.inr (Sum.inr 1)), some (Sum.inl i), some (Sum.inl e), some (Sum.inl (v_kis (am_wv h 2) i k)), some (Sum.inl (h 2 2 + (k : Int)))] [] (am_SH L, h, am_RR kp) Q) (fun k => Q (some (Sum.inl (h 2 2 + (k : Int)))) (am_SH L, h, am_RR kp)) (Q (some (Sum.inl (-9))) (am_SH L, h, am_RR kp)) (fun k hk => ?_) ?_
  · show am_Wp d 149 60 [some (Sum.inr (Sum.inr 1)), some (Sum.inl i), some (Sum.inl e), some (Sum.inl (v_kis (am_wv h 2) i k)), some (Sum.inl (h 2 2 + (k : Int)))] [] (am_SH L, h, am_RR kp) Q = (match (decide (e ≤ v_kis (am_wv h 2) i (k + 1)) : Bool) with | true => Q (some (Sum.inl (h 2 2 + (k : Int)))) (am_SH L, h, am_RR kp) | false => am_Wp d 149 60 [some (Sum.inr (Sum.inr 1)), some (Sum.inl i), some (Sum.inl e), some (Sum.inl (v_kis (am_wv h 2) i (k + 1))), some (Sum.inl (h 2 2 + ((k + 1 : Nat) : Int)))] [] (am_SH L, h, am_RR kp) Q)
    have ek : am_add (v_kis (am_wv h 2) i k) (v_pon (am_wv h 2) (h 2 2 + (k : Int)) i) = v_kis (am_wv h 2) i (k + 1) := rfl
    have ed : am_add (h 2 2 + (k : Int)) 1 = h 2 2 + ((k + 1 : Nat) : Int) := by
      rw [am_add_ok (by omega) (by omega)]; omega
    refine (bq_KO_rich_60 (by omega)).trans ?_
    simp (disch := first | exact hv | omega) only [bq_KO_rich_0, bq_KO_rich_8, bq_KO_rich_50, bq_KO_rich_41, bq_KO_rich_27, bq_KO_rich_16, bq_KO_rich_58, bq_KO_rich_78, sp_World_isPerson_2, sp_KO_refuse, sp_World_kissedOf_2, sp_World_day_2, sp_KO_paidOn, Option.toList_some, Option.toList_none, List.cons_append, List.nil_append, am_bi0, am_bi1, am_bft, true_and, reduceCtorEq, or_false, false_or, or_true, true_or, am_gd, am_incn, am_lk_nat, Int.toNat_natCast, ↓reduceIte, Int.reduceEq, ek, ed]
    rw [if_neg (by omega)]
    by_cases q1 : e ≤ v_kis (am_wv h 2) i (k + 1)
    · rw [decide_eq_true q1]
      simp only [q1, ↓reduceIte, if_neg (show ¬ v_kis (am_wv h 2) i (k + 1) < e by omega)]
    · rw [decide_eq_false q1]
      simp only [q1, ↓reduceIte, if_pos (show v_kis (am_wv h 2) i (k + 1) < e by omega)]
  · show am_Wp d 149 60 [some (Sum.inr (Sum.inr 1)), some (Sum.inl i), some (Sum.inl e), some (Sum.inl (v_kis (am_wv h 2) i (99 - h 2 2).toNat)), some (Sum.inl (h 2 2 + (((99 - h 2 2).toNat : Nat) : Int)))] [] (am_SH L, h, am_RR kp) Q = _
    refine (bq_KO_rich_60 (by omega)).trans ?_
    simp (disch := first | exact hv | omega) only [bq_KO_rich_0, bq_KO_rich_8, bq_KO_rich_50, bq_KO_rich_41, bq_KO_rich_27, bq_KO_rich_16, bq_KO_rich_58, bq_KO_rich_78, sp_World_isPerson_2, sp_KO_refuse, sp_World_kissedOf_2, sp_World_day_2, sp_KO_paidOn, Option.toList_some, Option.toList_none, List.cons_append, List.nil_append, am_bi0, am_bi1, am_bft, true_and, reduceCtorEq, or_false, false_or, or_true, true_or, am_gd, am_incn, am_lk_nat, Int.toNat_natCast, ↓reduceIte, Int.reduceEq]
    rw [if_pos (by omega)]

theorem c_rich {d L kp : Nat} {h : Nat → Nat → Int} {i e : Int} (hd : 4 ≤ d) (hv : v_ok (am_wv h 2)) : am_An L 41 (a_rich (am_wv h 2) i e) h (fun Q => am_Wp d 149 0 [some (Sum.inr (Sum.inr 1)), some (Sum.inl i), some (Sum.inl e), none, none] [] (am_SH L, h, am_RR kp) Q) := by
  have hQ := wv_Q hv
  have hP := wv_P hv
  have hD := wv_D hv
  intro Q hq
  have hq2 : Q (some (a_rich (am_wv h 2) i e).1) (am_SH L, am_bump 41 (a_rich (am_wv h 2) i e).2 h, am_RR kp) := hq _ kp am_keep_r
  show am_Wp d 149 0 [some (Sum.inr (Sum.inr 1)), some (Sum.inl i), some (Sum.inl e), none, none] [] (am_SH L, h, am_RR kp) Q
  unfold a_rich at hq2
  simp (disch := first | exact hv | omega) only [bq_KO_rich_0, bq_KO_rich_8, bq_KO_rich_50, bq_KO_rich_41, bq_KO_rich_27, bq_KO_rich_16, bq_KO_rich_58, bq_KO_rich_78, sp_World_isPerson_2, sp_KO_refuse, sp_World_kissedOf_2, sp_World_day_2, sp_KO_paidOn, Option.toList_some, Option.toList_none, List.cons_append, List.nil_append, am_bi0, am_bi1, am_bft, true_and, reduceCtorEq, or_false, false_or, or_true, true_or, am_gd, am_incn, am_lk_nat, Int.toNat_natCast, ↓reduceIte, Int.reduceEq, Int.reduceAdd, Int.reduceNeg, Int.reduceToNat]
  cases hi : v_isP (am_wv h 2) i
  · simp only [hi, ↓reduceIte] at hq2 ⊢
    exact hq2
  · simp only [hi, ↓reduceIte, reduceCtorEq] at hq2 ⊢
    by_cases q1 : e < 0
    · simp only [if_pos q1, if_neg (show ¬ 0 ≤ e by omega)] at hq2 ⊢
      exact hq2
    · simp only [if_neg q1, if_pos (show 0 ≤ e by omega)] at hq2 ⊢
      by_cases q2 : 999 < e
      · simp only [if_pos q2, if_neg (show ¬ e ≤ 999 by omega)] at hq2 ⊢
        exact hq2
      · simp only [if_neg q2, if_pos (show e ≤ 999 by omega)] at hq2 ⊢
        have h9 := lp_KO_rich (L := L) (kp := kp) (Q := Q) (i := i) (e := e) hd hv
        rw [show h 2 2 + ((0 : Nat) : Int) = h 2 2 by omega] at h9
        refine h9.mpr ?_
        revert hq2
        cases v_rich (am_wv h 2) i e <;> exact fun w => w
