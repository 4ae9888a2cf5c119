/-! SPECS of the reference's small methods -/
theorem sp_M_in {d L kp : Nat} {h : Nat → Nat → Int} {Q : Option am_V → am_H → Prop} {x y z : Int} : am_Wp d 197 0 [some (Sum.inr (Sum.inl x)), none, some (Sum.inr (Sum.inl y)), none, some (Sum.inr (Sum.inl z)), none] [] (am_SH L, h, am_RR kp) Q = Q (some (Sum.inl (am_bi (decide (y ≤ x ∧ x ≤ z))))) (am_SH L, h, am_RR kp) := by
  rw [bq_M_in_0]
  have e0 : ∀ {j0 j1 j2 j3 j4 j5 : Option am_V}, am_Wp d 197 17 [j0, j1, j2, j3, j4, j5] [] (am_SH L, h, am_RR kp) Q = Q (some (Sum.inl 0)) (am_SH L, h, am_RR kp) := by
    intros; rw [bq_M_in_17, bq_M_in_18]; simp
  have h1 : (am_lcmp x y < 0) = (x < y) := by
    unfold am_lcmp
    by_cases h1 : y < x
    · rw [if_pos h1]; exact propext (by omega)
    · rw [if_neg h1]
      by_cases h2 : x = y
      · rw [if_pos h2]; exact propext (by omega)
      · rw [if_neg h2]; exact propext (by omega)
  have h2 : (0 < am_lcmp x z) = (z < x) := by
    unfold am_lcmp
    by_cases h1 : z < x
    · rw [if_pos h1]; exact propext (by omega)
    · rw [if_neg h1]
      by_cases h2 : x = z
      · rw [if_pos h2]; exact propext (by omega)
      · rw [if_neg h2]; exact propext (by omega)
  simp only [h1, h2, e0, bq_M_in_18]
  by_cases h3 : x < y
  · rw [if_pos h3, decide_eq_false (by omega)]; rfl
  · rw [if_neg h3]
    by_cases h4 : z < x
    · rw [if_pos h4, decide_eq_false (by omega)]; rfl
    · rw [if_neg h4, decide_eq_true (by omega)]; simp [am_bi]

theorem sp_M_isOne {d L kp : Nat} {h : Nat → Nat → Int} {Q : Option am_V → am_H → Prop} {i : Int} (hd : 1 ≤ d) (hv : v_ok (am_mv h)) : am_Wp d 202 0 [some (Sum.inr (Sum.inr 70)), some (Sum.inl i)] [] (am_SH L, h, am_RR kp) Q = Q (some (Sum.inl (am_bi (v_isP (am_mv h) i)))) (am_SH L, h, am_RR kp) := by
  have hP := v_ok_P hv
  have e1 : am_sub (vP (am_mv h)) 1 = vP (am_mv h) - 1 := am_sub_ok (by omega) (by omega)
  rw [bq_M_isOne_0 (by omega), sp_M_in]
  simp only [Option.toList_some, List.cons_append, List.nil_append]
  rw [bq_M_isOne_13, e1]
  have e2 : decide (0 ≤ i ∧ i ≤ vP (am_mv h) - 1) = v_isP (am_mv h) i := decide_eq_decide.2 (by omega)
  rw [e2]
  simp only [am_bi01, true_and]

theorem sp_M_isPaper {d L kp : Nat} {h : Nat → Nat → Int} {Q : Option am_V → am_H → Prop} {i : Int} (hd : 1 ≤ d) (hv : v_ok (am_mv h)) : am_Wp d 204 0 [some (Sum.inr (Sum.inr 70)), some (Sum.inl i)] [] (am_SH L, h, am_RR kp) Q = Q (some (Sum.inl (am_bi (v_isQ (am_mv h) i)))) (am_SH L, h, am_RR kp) := by
  have hP := v_ok_Q hv
  have e1 : am_sub (vQ (am_mv h)) 1 = vQ (am_mv h) - 1 := am_sub_ok (by omega) (by omega)
  rw [bq_M_isPaper_0 (by omega), sp_M_in]
  simp only [Option.toList_some, List.cons_append, List.nil_append]
  rw [bq_M_isPaper_13, e1]
  have e2 : decide (0 ≤ i ∧ i ≤ vQ (am_mv h) - 1) = v_isQ (am_mv h) i := decide_eq_decide.2 (by omega)
  rw [e2]
  simp only [am_bi01, true_and]

theorem sp_M_areTwo {d L kp : Nat} {h : Nat → Nat → Int} {Q : Option am_V → am_H → Prop} {i j : Int} (hd : 2 ≤ d) (hv : v_ok (am_mv h)) : am_Wp d 201 0 [some (Sum.inr (Sum.inr 70)), some (Sum.inl i), some (Sum.inl j)] [] (am_SH L, h, am_RR kp) Q = Q (some (Sum.inl (am_bi (v_two (am_mv h) i j)))) (am_SH L, h, am_RR kp) := by
  simp (disch := first | exact hv | omega) only [bq_M_areTwo_0, bq_M_areTwo_5, bq_M_areTwo_25, bq_M_areTwo_13, bq_M_areTwo_26, sp_M_isOne, Option.toList_some, Option.toList_none, List.cons_append, List.nil_append, am_bi0, am_bi1, am_bft, true_and, reduceCtorEq, or_false, false_or, or_true, true_or, am_gd]
  unfold v_two
  dsimp only [vP, vQ, vD, vK, vF, vS, vU, vO, vH, vN, vE, vG, vT, am_mv] at *
  (repeat' split) <;> simp_all [am_bi] <;> omega

theorem sp_M_hasBit {d L kp : Nat} {h : Nat → Nat → Int} {Q : Option am_V → am_H → Prop} {x i : Int} (hx : 0 ≤ x) (hx2 : x < 2147483648) (hi : 0 ≤ i) (hi2 : i < 31) : am_Wp d 206 0 [some (Sum.inl x), some (Sum.inl i)] [] (am_SH L, h, am_RR kp) Q = Q (some (Sum.inl (am_bi (am_has x i)))) (am_SH L, h, am_RR kp) := by
  rw [bq_M_hasBit_0, ← am_bit_has hx hx2 hi hi2]
  by_cases h1 : am_and (am_shr x i) 1 = 1
  · rw [if_pos h1, bq_M_hasBit_14, decide_eq_true h1]; simp [am_bi]
  · rw [if_neg h1, bq_M_hasBit_14, decide_eq_false h1]; simp [am_bi]

theorem sp_M_atLeast {d L kp : Nat} {h : Nat → Nat → Int} {Q : Option am_V → am_H → Prop} {x : Int} : am_Wp d 216 0 [some (Sum.inl x)] [] (am_SH L, h, am_RR kp) Q = Q (some (Sum.inl (am_max 0 x))) (am_SH L, h, am_RR kp) := by
  rw [bq_M_atLeast_0]
  unfold am_max
  by_cases h1 : 0 ≤ x
  · rw [if_pos h1, bq_M_atLeast_9]
    by_cases h2 : 0 < x
    · rw [if_pos h2]
    · rw [if_neg h2, show x = 0 by omega]
  · rw [if_neg h1, if_neg (by omega), bq_M_atLeast_9]

theorem sp_M_plainly {d L kp : Nat} {h : Nat → Nat → Int} {Q : Option am_V → am_H → Prop} {x : Int} (hx : -2147483647 ≤ x) (hx2 : x ≤ 2147483647) : am_Wp d 237 0 [some (Sum.inl x)] [] (am_SH L, h, am_RR kp) Q = Q (some (Sum.inl (am_abs x))) (am_SH L, h, am_RR kp) := by
  rw [bq_M_plainly_0]
  unfold am_abs
  by_cases h1 : 0 ≤ x
  · rw [if_pos h1, if_pos h1, bq_M_plainly_10]
  · rw [if_neg h1, if_neg h1, bq_M_plainly_10, am_neg_ok hx hx2, am_sub_ok (by omega) (by omega), Int.zero_sub]

def m_wrong (v lo hi : Int) : Int := if v < lo then -4 else if hi < v then -6 else 0
theorem sp_M_wrongNumber {d L kp : Nat} {h : Nat → Nat → Int} {Q : Option am_V → am_H → Prop} {x y z : Int} : am_Wp d 252 0 [some (Sum.inl x), some (Sum.inl y), some (Sum.inl z)] [] (am_SH L, h, am_RR kp) Q = Q (some (Sum.inl (m_wrong x y z))) (am_SH L, h, am_RR kp) := by
  simp only [bq_M_wrongNumber_0, bq_M_wrongNumber_21]
  unfold m_wrong
  (repeat' split) <;> first | rfl | omega

theorem sp_M_wrongBit {d L kp : Nat} {h : Nat → Nat → Int} {Q : Option am_V → am_H → Prop} {x y z : Int} (hd : 1 ≤ d) : am_Wp d 261 0 [some (Sum.inl x), some (Sum.inl y), some (Sum.inl z)] [] (am_SH L, h, am_RR kp) Q = Q (some (Sum.inl (if x = 0 ∧ ¬ (0 ≤ y ∧ y ≤ z) then -2 else x))) (am_SH L, h, am_RR kp) := by
  simp (disch := omega) only [bq_M_wrongBit_0, bq_M_wrongBit_20, bq_M_wrongBit_12, bq_M_wrongBit_21, sp_M_in, Option.toList_some, Option.toList_none, List.cons_append, List.nil_append, am_bi0, am_bi1, am_bft, true_and, reduceCtorEq, or_false, false_or, or_true, true_or]
  (repeat' split) <;> simp_all

theorem sp_M_refuse {d L kp : Nat} {h : Nat → Nat → Int} {Q : Option am_V → am_H → Prop} {i : Int} (hi : -6 ≤ i) (hi2 : i ≤ -1) : am_Wp d 191 0 [some (Sum.inr (Sum.inr 70)), some (Sum.inl i)] [] (am_SH L, h, am_RR kp) Q = Q (some (Sum.inl (i))) (am_SH L, am_bump 81 (-i).toNat h, am_RR kp) := by
  rw [bq_M_refuse_0, am_neg_ok (by omega) (by omega)]
  have e : am_bump 81 (-i).toNat h = am_up h 81 (-i).toNat (am_add (h 81 (-i).toNat) 1) := by
    obtain ⟨n, hn⟩ : ∃ n, (-i).toNat = n + 1 := ⟨(-i).toNat - 1, by omega⟩
    rw [hn]; rfl
  rw [e]
  exact propext ⟨fun w => w.2.2, fun w => ⟨by omega, by omega, w⟩⟩

theorem sp_KO_refuse {d L kp : Nat} {h : Nat → Nat → Int} {Q : Option am_V → am_H → Prop} {i : Int} (hd : 1 ≤ d) (hi : -6 ≤ i) (hi2 : i ≤ -1) : am_Wp d 13 0 [some (Sum.inr (Sum.inr 1)), some (Sum.inl i)] [] (am_SH L, h, am_RR kp) Q = Q (some (Sum.inl (i))) (am_SH L, am_bump 41 (-i).toNat h, am_RR kp) := by
  simp (disch := omega) only [bq_KO_refuse_0, bq_KO_refuse_15, bq_KO_refuse_20, sp_at_41, sp_put_41, am_neg_ok, Option.toList_some, Option.toList_none, List.cons_append, List.nil_append]
  have e : am_bump 41 (-i).toNat h = am_put h 41 7 (-i) (am_add (am_lk (h 41) 7 (-i)) 1) := by
    unfold am_put
    rw [if_pos (by omega), am_lk_in (by omega) (by omega)]
    obtain ⟨n, hn⟩ : ∃ n, (-i).toNat = n + 1 := ⟨(-i).toNat - 1, by omega⟩
    rw [hn]; rfl
  rw [e]

theorem sp_KO_areTwo {d L kp : Nat} {h : Nat → Nat → Int} {Q : Option am_V → am_H → Prop} {i j : Int} (hd : 1 ≤ d) : am_Wp d 59 0 [some (Sum.inr (Sum.inr 1)), some (Sum.inl i), some (Sum.inl j)] [] (am_SH L, h, am_RR kp) Q = Q (some (Sum.inl (am_bi (v_two (am_wv h 2) i j)))) (am_SH L, h, am_RR kp) := by
  simp (disch := omega) only [bq_KO_areTwo_0, bq_KO_areTwo_8, bq_KO_areTwo_31, bq_KO_areTwo_19, bq_KO_areTwo_32, sp_World_isPerson_2, Option.toList_some, Option.toList_none, List.cons_append, List.nil_append, am_bi0, am_bi1, am_bft, true_and, reduceCtorEq, or_false, false_or, or_true, true_or]
  unfold v_two
  (repeat' split) <;> simp_all [am_bi] <;> omega

theorem sp_M_areWilling {d L kp : Nat} {h : Nat → Nat → Int} {Q : Option am_V → am_H → Prop} {i j : Int} (hd : 1 ≤ d) (hv : v_ok (am_mv h)) (h0i : 0 ≤ i) (h1i : i < 7) (h0j : 0 ≤ j) (h1j : j < 7) : am_Wp d 210 0 [some (Sum.inr (Sum.inr 70)), some (Sum.inl i), some (Sum.inl j)] [] (am_SH L, h, am_RR kp) Q = Q (some (Sum.inl (am_bi (v_friend (am_mv h) i j)))) (am_SH L, h, am_RR kp) := by
  have hi := (mv_i hv i.toNat (by omega)).2.2.2
  have hj := (mv_i hv j.toNat (by omega)).2.2.2
  simp (disch := omega) only [bq_M_areWilling_0, bq_M_areWilling_10, bq_M_areWilling_30, bq_M_areWilling_23, bq_M_areWilling_31, sp_M_hasBit, Option.toList_some, Option.toList_none, List.cons_append, List.nil_append, am_bi0, am_bi1, am_bft, true_and, reduceCtorEq, or_false, false_or, or_true, true_or, am_gd]
  unfold v_friend v_shuns
  rw [am_lk_in (by omega) (by omega), am_lk_in (by omega) (by omega)]
  dsimp only [vP, vQ, vD, vK, vF, vS, vU, vO, vH, vN, vE, vG, vT, am_mv] at *
  (repeat' split) <;> simp_all [am_bi] <;> omega

theorem sp_M_wouldBePaid {d L kp : Nat} {h : Nat → Nat → Int} {Q : Option am_V → am_H → Prop} {i : Int} (hd : 2 ≤ d) (hv : v_ok (am_mv h)) (h0i : 0 ≤ i) (h1i : i < 16) : am_Wp d 209 0 [some (Sum.inr (Sum.inr 70)), some (Sum.inl i)] [] (am_SH L, h, am_RR kp) Q = Q (some (Sum.inl (am_bi (v_paid (am_mv h) i)))) (am_SH L, h, am_RR kp) := by
  have hp := mv_p hv i.toNat (by omega)
  simp (disch := first | exact hv | omega) only [bq_M_wouldBePaid_0, bq_M_wouldBePaid_32, bq_M_wouldBePaid_25, bq_M_wouldBePaid_33, sp_M_areWilling, Option.toList_some, Option.toList_none, List.cons_append, List.nil_append, am_bi0, am_bi1, am_bft, true_and, reduceCtorEq, or_false, false_or, or_true, true_or, am_gd]
  unfold v_paid
  rw [am_lk_in (by omega) (by omega), am_lk_in (by omega) (by omega), am_lk_in (by omega) (by omega)]
  dsimp only [vP, vQ, vD, vK, vF, vS, vU, vO, vH, vN, vE, vG, vT, am_mv] at *
  (repeat' split) <;> simp_all [am_bi] <;> omega

theorem sp_M_canGo {d L kp : Nat} {h : Nat → Nat → Int} {Q : Option am_V → am_H → Prop} {i j : Int} (hd : 1 ≤ d) (hv : v_ok (am_mv h)) (h0i : 0 ≤ i) (h1i : i < h 70 6) (h0j : 0 ≤ j) (h1j : j < h 70 0) : am_Wp d 205 0 [some (Sum.inr (Sum.inr 70)), some (Sum.inl i), some (Sum.inl j)] [] (am_SH L, h, am_RR kp) Q = Q (some (Sum.inl (am_bi (v_take (am_mv h) i j)))) (am_SH L, h, am_RR kp) := by
  have hP := mv_P hv
  have hQ := mv_Q hv
  have hp := mv_p hv i.toNat (by omega)
  have hj := (mv_i hv j.toNat (by omega)).2.2.2
  simp (disch := first | exact hv | omega) only [bq_M_canGo_0, bq_M_canGo_41, bq_M_canGo_34, bq_M_canGo_42, sp_M_hasBit, Option.toList_some, Option.toList_none, List.cons_append, List.nil_append, am_bi0, am_bi1, am_bft, true_and, reduceCtorEq, or_false, false_or, or_true, true_or, am_gd]
  unfold v_take v_open v_shuns
  rw [am_lk_in (by omega) (by omega), am_lk_in (by omega) (by omega), am_lk_in (by omega) (by omega), am_lk_in (by omega) (by omega), v_isP_iff.2 ⟨h0j, h1j⟩, v_isQ_iff.2 ⟨h0i, h1i⟩]
  dsimp only [vP, vQ, vD, vK, vF, vS, vU, vO, vH, vN, vE, vG, vT, am_mv] at *
  (repeat' split) <;> simp_all [am_bi] <;> omega

theorem sp_M_worthOf {d L kp : Nat} {h : Nat → Nat → Int} {Q : Option am_V → am_H → Prop} {i : Int} (hd : 1 ≤ d) (hv : v_ok (am_mv h)) (h0i : 0 ≤ i) (h1i : i < h 70 6) : am_Wp d 215 0 [some (Sum.inr (Sum.inr 70)), some (Sum.inl i), none, none, none, none] [] (am_SH L, h, am_RR kp) Q = Q (some (Sum.inl (v_worth (am_mv h) i))) (am_SH L, h, am_RR kp) := by
  have hQ := mv_Q hv
  have hp := mv_p hv i.toNat (by omega)
  have ho := mv_i hv (h 75 i.toNat).toNat (by omega)
  have e1 : ∀ z : Int, am_min 100 z = if z ≤ 100 then z else 100 := fun z => by
    unfold am_min
    by_cases h1 : z < 100
    · rw [if_pos h1, if_pos (by omega)]
    · rw [if_neg h1]
      by_cases h2 : z ≤ 100
      · rw [if_pos h2]; omega
      · rw [if_neg h2]
  simp (disch := omega) only [bq_M_worthOf_0, bq_M_worthOf_40, bq_M_worthOf_59, bq_M_worthOf_108, bq_M_worthOf_110, bq_M_worthOf_115, bq_M_worthOf_128, bq_M_worthOf_135, bq_M_worthOf_154, bq_M_worthOf_127, bq_M_worthOf_153, sp_M_atLeast, Option.toList_some, Option.toList_none, List.cons_append, List.nil_append, am_bi0, am_bi1, am_bft, true_and, reduceCtorEq, or_false, false_or, or_true, true_or, am_gd]
  unfold v_worth v_later v_open
  rw [v_isQ_iff.2 ⟨h0i, h1i⟩, e1]
  dsimp only [vP, vQ, vD, vK, vF, vS, vU, vO, vH, vN, vE, vG, vT, am_mv]
  simp (disch := omega) only [am_lk_in]
  dsimp only [vP, vQ, vD, vK, vF, vS, vU, vO, vH, vN, vE, vG, vT, am_mv] at *
  (repeat' split) <;> simp_all <;> omega
