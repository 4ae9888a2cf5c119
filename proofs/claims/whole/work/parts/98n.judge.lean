/-! judge -/
def v_jf (V : am_Vw) (ρ : Nat → Int) : Nat → Nat → Int
  | 0, _ => -9
  | k + 1, i => if (i : Int) < vQ V ∧ v_worth V (i : Int) = ρ i then v_jf V ρ k (i + 1) else (i : Int)
theorem v_jf_s {V : am_Vw} {ρ : Nat → Int} {k i : Nat} : v_jf V ρ (k + 1) i = if (i : Int) < vQ V ∧ v_worth V (i : Int) = ρ i then v_jf V ρ k (i + 1) else (i : Int) := rfl
theorem lp_KO_judge {d L kp : Nat} {h : Nat → Nat → Int} {Q : Option am_V → am_H → Prop} {m : Nat} (hd : 6 ≤ d) (hv : v_ok (am_wv h 2)) (hm : m ≤ 12) : ∀ k i, i + k = m → am_Wp d 181 12 [some (Sum.inr (Sum.inr 1)), some (Sum.inl ((m : Int))), some (Sum.inl ((i : Int)))] [] (am_SH L, h, am_RR kp) Q = Q (some (Sum.inl (v_jf (am_wv h 2) (h 40) k i))) (am_SH L, h, am_RR kp) := by
  have eQ : vQ (am_wv h 2) = h 2 1 := rfl
  intro k
  induction k with
  | zero =>
    intro i hi
    rw [bq_KO_judge_12 (by omega), if_pos (by omega)]
    rfl
  | succ k ih =>
    intro i hi
    rw [bq_KO_judge_12 (by omega), if_neg (by omega), sp_World_isPaper_2, v_jf_s]
    simp only [Option.toList_some, Option.toList_none, List.cons_append, List.nil_append]
    rw [bq_KO_judge_25 (by omega)]
    unfold v_isQ
    by_cases q1 : (i : Int) < vQ (am_wv h 2)
    · rw [decide_eq_true (show 0 ≤ (i : Int) ∧ (i : Int) < vQ (am_wv h 2) from ⟨by omega, q1⟩), if_neg am_b0, sp_World_worthOf_2 (by omega)]
      simp only [Option.toList_some, Option.toList_none, List.cons_append, List.nil_append]
      rw [bq_KO_judge_36 (by omega), sp_at_40, am_lk_nat (by omega)]
      simp only [Option.toList_some, Option.toList_none, List.cons_append, List.nil_append]
      rw [bq_KO_judge_44]
      by_cases q2 : v_worth (am_wv h 2) (i : Int) = h 40 i
      · rw [if_pos q2, if_pos ⟨q1, q2⟩, am_incn (by omega)]
        exact ih (i + 1) (by omega)
      · rw [if_neg q2, if_neg (fun w => q2 w.2), bq_KO_judge_47]
    · rw [decide_eq_false (fun w => q1 w.2), if_pos am_bif, if_neg (fun w => q1 w.1), bq_KO_judge_47]
theorem c_judge {d L kp : Nat} {h : Nat → Nat → Int} (hd : 30 ≤ d) (hv : v_ok (am_wv h 2)) (hL : 0 ≤ h 1 6 ∧ h 1 6 ≤ 12) : am_Ch L (Sum.inl (v_jf (am_wv h 2) (h 40) (h 1 6).toNat 0)) (am_up h 1 6 0) (fun Q => am_Wp d 181 0 [some (Sum.inr (Sum.inr 1)), none, none] [] (am_SH L, h, am_RR kp) Q) := by
  intro Q hq
  show am_Wp d 181 0 [some (Sum.inr (Sum.inr 1)), none, none] [] (am_SH L, h, am_RR kp) Q
  obtain ⟨n, hn⟩ := Int.eq_ofNat_of_zero_le hL.1
  rw [hn, Int.toNat_natCast] at hq
  have hv2 : v_ok (am_wv (am_up h 1 6 0) 2) := hv
  rw [bq_KO_judge_0, hn]
  refine (show _ = _ from lp_KO_judge (h := am_up h 1 6 0) (m := n) (by omega) hv2 (by omega) n 0 (by omega)).mpr ?_
  exact hq _ kp am_keep_r
theorem lp_M_judge {d L kp : Nat} {h : Nat → Nat → Int} {Q : Option am_V → am_H → Prop} {m : Nat} (hd : 6 ≤ d) (hv : v_ok (am_mv h)) (hm : m ≤ 12) : ∀ k i, i + k = m → am_Wp d 288 17 [some (Sum.inr (Sum.inr 70)), some (Sum.inl ((m : Int))), some (Sum.inl ((i : Int)))] [] (am_SH L, h, am_RR kp) Q = Q (some (Sum.inl (v_jf (am_mv h) (h 98) k i))) (am_SH L, h, am_RR kp) := by
  have eQ : vQ (am_mv h) = h 70 6 := rfl
  intro k
  induction k with
  | zero =>
    intro i hi
    rw [bq_M_judge_17 (by omega), if_pos (by omega)]
    rfl
  | succ k ih =>
    intro i hi
    rw [bq_M_judge_17 (by omega), if_neg (by omega), v_jf_s]
    by_cases q1 : (i : Int) < vQ (am_mv h)
    · rw [if_neg (by omega), sp_M_worthOf (by omega) hv (by omega) (by omega)]
      simp only [Option.toList_some, Option.toList_none, List.cons_append, List.nil_append]
      rw [bq_M_judge_35, am_gd (by omega) (by omega), Int.toNat_natCast]
      by_cases q2 : v_worth (am_mv h) (i : Int) = h 98 i
      · rw [if_pos q2, if_pos ⟨q1, q2⟩, am_incn (by omega)]
        exact ih (i + 1) (by omega)
      · rw [if_neg q2, if_neg (fun w => q2 w.2), bq_M_judge_44]
    · rw [if_pos (by omega), if_neg (fun w => q1 w.1), bq_M_judge_44]
theorem m_judge {d L kp : Nat} {h : Nat → Nat → Int} (hd : 30 ≤ d) (hv : v_ok (am_mv h)) (hL : 0 ≤ h 70 46 ∧ h 70 46 ≤ 12) : am_Ch L (Sum.inl (v_jf (am_mv h) (h 98) (h 70 46).toNat 0)) (am_up h 70 46 0) (fun Q => am_Wp d 288 0 [some (Sum.inr (Sum.inr 70)), none, none] [] (am_SH L, h, am_RR kp) Q) := by
  intro Q hq
  show am_Wp d 288 0 [some (Sum.inr (Sum.inr 70)), none, none] [] (am_SH L, h, am_RR kp) Q
  obtain ⟨n, hn⟩ := Int.eq_ofNat_of_zero_le hL.1
  rw [hn, Int.toNat_natCast] at hq
  have e46 : am_up h 70 13 0 70 46 = (n : Int) := hn
  have hv2 : v_ok (am_mv (am_up (am_up h 70 13 0) 70 46 0)) := hv
  rw [bq_M_judge_0, e46]
  refine (show _ = _ from lp_M_judge (h := am_up (am_up h 70 13 0) 70 46 0) (m := n) (by omega) hv2 (by omega) n 0 (by omega)).mpr ?_
  exact hq _ kp (am_keep_upup am_keep_70)