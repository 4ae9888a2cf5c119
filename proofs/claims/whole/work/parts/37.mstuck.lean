/-! THE CALL stuck of the reference -/
theorem lp_M_stuck_in {d L kp : Nat} {h : Nat → Nat → Int} {Q : Option am_V → am_H → Prop} {b i : Int} (hd : 2 ≤ d) (hv : v_ok (am_mv h)) (h0i : 0 ≤ i) (h1i : i < h 70 6) : am_Wp d 276 35 [some (Sum.inr (Sum.inr 70)), some (Sum.inl (b)), some (Sum.inl (i)), some (Sum.inl (am_bi (decide (h 80 i.toNat = 0)))), some (Sum.inl (0))] [] (am_SH L, h, am_RR kp) Q = am_Wp d 276 93 [some (Sum.inr (Sum.inr 70)), some (Sum.inl b), some (Sum.inl i), some (Sum.inl (am_bi (!am_any (h 70 0).toNat (fun t => !decide ((t : Int) = am_lk (vO (am_mv h)) 16 i) && v_take (am_mv h) i (t : Int)) && decide (h 80 i.toNat = 0)))), some (Sum.inl (((h 70 0).toNat : Nat) : Int))] [Sum.inl (if (!am_any (h 70 0).toNat (fun t => !decide ((t : Int) = am_lk (vO (am_mv h)) 16 i) && v_take (am_mv h) i (t : Int)) && decide (h 80 i.toNat = 0)) = true then am_shl 1 i else 0), Sum.inl b] (am_SH L, h, am_RR kp) Q := by
  have hQ := mv_Q hv
  have hP := mv_P hv
  have hD := mv_D hv
  refine am_up_eq (n := (h 70 0).toNat) (fun k => am_Wp d 276 35 [some (Sum.inr (Sum.inr 70)), some (Sum.inl (b)), some (Sum.inl (i)), some (Sum.inl (am_bi (!am_any k (fun t => !decide ((t : Int) = am_lk (vO (am_mv h)) 16 i) && v_take (am_mv h) i (t : Int)) && decide (h 80 i.toNat = 0)))), some (Sum.inl ((k : Int)))] [] (am_SH L, h, am_RR kp) Q) (am_Wp d 276 93 [some (Sum.inr (Sum.inr 70)), some (Sum.inl b), some (Sum.inl i), some (Sum.inl (am_bi (!am_any (h 70 0).toNat (fun t => !decide ((t : Int) = am_lk (vO (am_mv h)) 16 i) && v_take (am_mv h) i (t : Int)) && decide (h 80 i.toNat = 0)))), some (Sum.inl (((h 70 0).toNat : Nat) : Int))] [Sum.inl (if (!am_any (h 70 0).toNat (fun t => !decide ((t : Int) = am_lk (vO (am_mv h)) 16 i) && v_take (am_mv h) i (t : Int)) && decide (h 80 i.toNat = 0)) = true then am_shl 1 i else 0), Sum.inl b] (am_SH L, h, am_RR kp) Q) (fun k hk => ?_) ?_
  · show am_Wp d 276 35 [some (Sum.inr (Sum.inr 70)), some (Sum.inl (b)), some (Sum.inl (i)), some (Sum.inl (am_bi (!am_any k (fun t => !decide ((t : Int) = am_lk (vO (am_mv h)) 16 i) && v_take (am_mv h) i (t : Int)) && decide (h 80 i.toNat = 0)))), some (Sum.inl ((k : Int)))] [] (am_SH L, h, am_RR kp) Q = am_Wp d 276 35 [some (Sum.inr (Sum.inr 70)), some (Sum.inl (b)), some (Sum.inl (i)), some (Sum.inl (am_bi (!am_any (k + 1) (fun t => !decide ((t : Int) = am_lk (vO (am_mv h)) 16 i) && v_take (am_mv h) i (t : Int)) && decide (h 80 i.toNat = 0)))), some (Sum.inl (((k + 1 : Nat) : Int)))] [] (am_SH L, h, am_RR kp) Q
    have es : am_any (k + 1) (fun t => !decide ((t : Int) = am_lk (vO (am_mv h)) 16 i) && v_take (am_mv h) i (t : Int)) = (am_any k (fun t => !decide ((t : Int) = am_lk (vO (am_mv h)) 16 i) && v_take (am_mv h) i (t : Int)) || (!decide ((k : Int) = am_lk (vO (am_mv h)) 16 i) && v_take (am_mv h) i (k : Int))) := rfl
    rw [es]
    have eo : am_lk (vO (am_mv h)) 16 i = h 75 i.toNat := am_lk_in (by omega) (by omega)
    refine (bq_M_stuck_35 (by omega)).trans ?_
    simp (disch := first | exact hv | omega) only [bq_M_stuck_0, bq_M_stuck_73, bq_M_stuck_69, bq_M_stuck_66, bq_M_stuck_74, sp_M_canGo, Option.toList_some, Option.toList_none, List.cons_append, List.nil_append, am_bi0, am_bi1, am_bft, true_and, reduceCtorEq, or_false, false_or, or_true, true_or, am_gd, am_incn, am_lk_nat, Int.toNat_natCast, ↓reduceIte, Int.reduceEq]
    rw [if_neg (by omega), eo]
    clear es
    generalize am_any k _ = b1
    generalize v_take (am_mv h) i (k : Int) = b2
    generalize decide (h 80 i.toNat = 0) = b3
    by_cases q1 : (k : Int) = h 75 i.toNat
    · cases b1 <;> cases b2 <;> cases b3 <;> simp [q1, am_bi]
    · cases b1 <;> cases b2 <;> cases b3 <;> simp [q1, am_bi]
  · show am_Wp d 276 35 [some (Sum.inr (Sum.inr 70)), some (Sum.inl (b)), some (Sum.inl (i)), some (Sum.inl (am_bi (!am_any ((h 70 0).toNat) (fun t => !decide ((t : Int) = am_lk (vO (am_mv h)) 16 i) && v_take (am_mv h) i (t : Int)) && decide (h 80 i.toNat = 0)))), some (Sum.inl ((((h 70 0).toNat : Nat) : Int)))] [] (am_SH L, h, am_RR kp) Q = _
    refine (bq_M_stuck_35 (by omega)).trans ?_
    simp (disch := first | exact hv | omega) only [bq_M_stuck_0, bq_M_stuck_73, bq_M_stuck_69, bq_M_stuck_66, bq_M_stuck_74, sp_M_canGo, Option.toList_some, Option.toList_none, List.cons_append, List.nil_append, am_bi0, am_bi1, am_bft, true_and, reduceCtorEq, or_false, false_or, or_true, true_or, am_gd, am_incn, am_lk_nat, Int.toNat_natCast, ↓reduceIte, Int.reduceEq]
    rw [if_pos (by omega)]
    generalize (!am_any (h 70 0).toNat (fun t => !decide ((t : Int) = am_lk (vO (am_mv h)) 16 i) && v_take (am_mv h) i (t : Int)) && decide (h 80 i.toNat = 0)) = b1
    cases b1 <;> rfl

theorem lp_M_stuck {d L kp : Nat} {h : Nat → Nat → Int} {Q : Option am_V → am_H → Prop} (j : Option am_V × Option am_V) (hd : 2 ≤ d) (hv : v_ok (am_mv h)) : am_Wp d 276 9 [some (Sum.inr (Sum.inr 70)), some (Sum.inl ((v_stuck (am_mv h) 0 : Nat) : Int)), some (Sum.inl 0), j.1, j.2] [] (am_SH L, h, am_RR kp) Q = Q (some (Sum.inl (((v_stuck (am_mv h) (h 70 6).toNat : Nat) : Int)))) (am_SH L, h, am_RR kp) := by
  have hQ := mv_Q hv
  have hP := mv_P hv
  have hD := mv_D hv
  refine am_dn_eq (J := Option am_V × Option am_V) (n := (h 70 6).toNat) (fun k j => am_Wp d 276 9 [some (Sum.inr (Sum.inr 70)), some (Sum.inl ((v_stuck (am_mv h) k : Nat) : Int)), some (Sum.inl (k : Int)), j.1, j.2] [] (am_SH L, h, am_RR kp) Q) (Q (some (Sum.inl (((v_stuck (am_mv h) (h 70 6).toNat : Nat) : Int)))) (am_SH L, h, am_RR kp)) (fun k hk ih j => ?_) (fun j => ?_) j
  · have ih2 : ∀ j : Option am_V × Option am_V, am_Wp d 276 9 [some (Sum.inr (Sum.inr 70)), some (Sum.inl ((v_stuck (am_mv h) (k + 1) : Nat) : Int)), some (Sum.inl ((k + 1 : Nat) : Int)), j.1, j.2] [] (am_SH L, h, am_RR kp) Q = Q (some (Sum.inl (((v_stuck (am_mv h) (h 70 6).toNat : Nat) : Int)))) (am_SH L, h, am_RR kp) := ih
    clear ih
    have hst := am_bits_lt (n := k) (c := fun p => decide (vT (am_mv h) p = 0) && !v_oth (am_mv h) (p : Int))
    have hst2 : v_stuck (am_mv h) k < 2 ^ k := hst
    have hst3 : 2 ^ k ≤ 2 ^ 16 := Nat.pow_le_pow_right (by omega) (by omega)
    have e0 : am_or ((v_stuck (am_mv h) k : Nat) : Int) 0 = ((v_stuck (am_mv h) k : Nat) : Int) := am_or_0 ⟨by omega, by omega⟩
    have es := v_stuck_s (V := am_mv h) (k := k) (by omega)
    have L1 := lp_M_stuck_in (L := L) (kp := kp) (Q := Q) (b := ((v_stuck (am_mv h) k : Nat) : Int)) (i := (k : Int)) hd hv (by omega) (by omega)
    rw [Int.toNat_natCast] at L1
    have hf : ((v_stuck (am_mv h) (k + 1) : Nat) : Int) = am_or ((v_stuck (am_mv h) k : Nat) : Int) (if (!am_any (h 70 0).toNat (fun t => !decide ((t : Int) = am_lk (vO (am_mv h)) 16 (k : Int)) && v_take (am_mv h) (k : Int) (t : Int)) && decide (h 80 k = 0)) = true then am_shl 1 (k : Int) else 0) := by
      rw [es]
      have e9 : (!am_any (h 70 0).toNat (fun t => !decide ((t : Int) = am_lk (vO (am_mv h)) 16 (k : Int)) && v_take (am_mv h) (k : Int) (t : Int)) && decide (h 80 k = 0)) = (decide (vT (am_mv h) k = 0) && !v_oth (am_mv h) (k : Int)) := Bool.and_comm _ _
      rw [e9]
      cases (decide (vT (am_mv h) k = 0) && !v_oth (am_mv h) (k : Int))
      · rw [if_neg (by simp), if_neg (by simp), e0]
      · rw [if_pos rfl, if_pos rfl]
    show am_Wp d 276 9 [some (Sum.inr (Sum.inr 70)), some (Sum.inl ((v_stuck (am_mv h) k : Nat) : Int)), some (Sum.inl (k : Int)), j.1, j.2] [] (am_SH L, h, am_RR kp) Q = _
    refine (bq_M_stuck_9).trans ?_
    rw [if_neg (by omega), am_gd (by omega) (by omega), Int.toNat_natCast]
    by_cases q1 : h 80 k = 0
    · rw [if_pos q1, bq_M_stuck_31]
      have e1 : am_bi (decide (h 80 k = 0)) = 1 := by rw [decide_eq_true q1]; rfl
      rw [e1] at L1
      refine L1.trans ?_
      rw [bq_M_stuck_93, am_incn (by omega), ← hf]
      exact ih2 (_, _)
    · rw [if_neg q1, bq_M_stuck_31]
      have e1 : am_bi (decide (h 80 k = 0)) = 0 := by rw [decide_eq_false q1]; rfl
      rw [e1] at L1
      refine L1.trans ?_
      rw [bq_M_stuck_93, am_incn (by omega), ← hf]
      exact ih2 (_, _)
  · show am_Wp d 276 9 [some (Sum.inr (Sum.inr 70)), some (Sum.inl ((v_stuck (am_mv h) (h 70 6).toNat : Nat) : Int)), some (Sum.inl (((h 70 6).toNat : Nat) : Int)), j.1, j.2] [] (am_SH L, h, am_RR kp) Q = _
    refine (bq_M_stuck_9).trans ?_
    rw [if_pos (by omega)]

theorem m_stuck {d L kp : Nat} {h : Nat → Nat → Int} (hd : 2 ≤ d) (hv : v_ok (am_mv h)) : am_An L 81 (a_stuck (am_mv h)) h (fun Q => am_Wp d 276 0 [some (Sum.inr (Sum.inr 70)), none, none, none, none] [] (am_SH L, h, am_RR kp) Q) := by
  have hQ := mv_Q hv
  have hP := mv_P hv
  have hD := mv_D hv
  intro Q hq
  have hq2 : Q (some (a_stuck (am_mv h)).1) (am_SH L, am_bump 81 (a_stuck (am_mv h)).2 (am_up h 70 13 0), am_RR kp) := hq _ kp (am_keep_up rfl am_keep_r)
  clear hq
  have hv2 : v_ok (am_mv (am_up h 70 13 0)) := hv
  try rw [show am_mv h = am_mv (am_up h 70 13 0) from rfl] at hq2
  show am_Wp d 276 0 [some (Sum.inr (Sum.inr 70)), none, none, none, none] [] (am_SH L, h, am_RR kp) Q
  refine (show _ = _ from bq_M_stuck_0 ).mpr ?_
  clear hv hQ hP hD
  generalize am_up h 70 13 0 = g at hq2 hv2 ⊢
  have hv := hv2
  have hQ := mv_Q hv
  have hP := mv_P hv
  have hD := mv_D hv
  unfold a_stuck at hq2
  try simp (disch := first | exact hv | omega) only [bq_M_stuck_0, bq_M_stuck_31, bq_M_stuck_93, bq_M_stuck_73, bq_M_stuck_69, bq_M_stuck_66, bq_M_stuck_74, sp_M_canGo, lp_M_stuck, Option.toList_some, Option.toList_none, List.cons_append, List.nil_append, am_bi0, am_bi1, am_bft, true_and, reduceCtorEq, or_false, false_or, or_true, true_or, am_gd, am_incn, am_lk_nat, Int.toNat_natCast, ↓reduceIte, Int.reduceEq, Int.reduceAdd, Int.reduceNeg, Int.reduceToNat]
  exact (lp_M_stuck (none, none) (by omega) hv).mpr hq2
