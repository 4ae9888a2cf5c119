/-! carryAll: taken, put back -/
theorem lp_M_carryAll_t86_53 {d L : Nat} {h : Nat → Nat → Int} {Q : Option am_V → am_H → Prop} {j1 j2 : Option am_V} (hd : 1 ≤ d) : am_Wp d 198 53 [some (Sum.inr (Sum.inr 70)), j1, j2, some (Sum.inl 0)] [] (am_SH L, am_tkk h 86 (3), am_RR 87) Q = am_Wp d 198 131 [some (Sum.inr (Sum.inr 70)), j1, j2, some (Sum.inl 0)] [] (am_SH L, am_tkk h 86 (31), am_RR 87) Q := by
  refine am_up_eq (n := 7) (fun k => am_Wp d 198 53 [some (Sum.inr (Sum.inr 70)), j1, j2, some (Sum.inl (k : Int))] [] (am_SH L, am_tkk h 86 (3 + 4 * k), am_RR 87) Q) (am_Wp d 198 131 [some (Sum.inr (Sum.inr 70)), j1, j2, some (Sum.inl 0)] [] (am_SH L, am_tkk h 86 (31), am_RR 87) Q) (fun k hk => ?_) ?_
  · show am_Wp d 198 53 [some (Sum.inr (Sum.inr 70)), j1, j2, some (Sum.inl (k : Int))] [] (am_SH L, am_tkk h 86 (3 + 4 * k), am_RR 87) Q = am_Wp d 198 53 [some (Sum.inr (Sum.inr 70)), j1, j2, some (Sum.inl ((k + 1 : Nat) : Int))] [] (am_SH L, am_tkk h 86 (3 + 4 * (k + 1)), am_RR 87) Q
    refine (bq_M_carryAll_53 hd).trans ?_
    rw [if_neg (by omega), am_gd (by omega) (by omega), Int.toNat_natCast]
    have a0 : am_tkk h 86 (3 + 4 * k + 0) 71 k = am_car h (3 + 4 * k + 0) := by rw [am_tkk_a (by omega) (by omega), am_car_1 hk (by omega)]
    refine (sp_M_carry_t86 (n := 3 + 4 * k + 0) (by omega) a0).trans ?_
    have b0 : am_up (am_tkk h 86 (3 + 4 * k + 0 + 1)) 71 k (am_tkk h 86 (3 + 4 * k + 0) 71 k) = am_tkk h 86 (3 + 4 * k + 0 + 1) := am_up_id (by rw [am_tkk_a (by omega) (by omega), am_tkk_a (by omega) (by omega)])
    refine (bq_M_carryAll_74 hd).trans ?_
    rw [am_gd (by omega) (by omega), Int.toNat_natCast]
    rw [am_gd (by omega) (by omega)]
    rw [b0]
    have a1 : am_tkk h 86 (3 + 4 * k + 1) 72 k = am_car h (3 + 4 * k + 1) := by rw [am_tkk_a (by omega) (by omega), am_car_1 hk (by omega)]
    refine (sp_M_carry_t86 (n := 3 + 4 * k + 1) (by omega) a1).trans ?_
    have b1 : am_up (am_tkk h 86 (3 + 4 * k + 1 + 1)) 72 k (am_tkk h 86 (3 + 4 * k + 1) 72 k) = am_tkk h 86 (3 + 4 * k + 1 + 1) := am_up_id (by rw [am_tkk_a (by omega) (by omega), am_tkk_a (by omega) (by omega)])
    refine (bq_M_carryAll_90 hd).trans ?_
    rw [am_gd (by omega) (by omega), Int.toNat_natCast]
    rw [am_gd (by omega) (by omega)]
    rw [b1]
    have a2 : am_tkk h 86 (3 + 4 * k + 2) 73 k = am_car h (3 + 4 * k + 2) := by rw [am_tkk_a (by omega) (by omega), am_car_1 hk (by omega)]
    refine (sp_M_carry_t86 (n := 3 + 4 * k + 2) (by omega) a2).trans ?_
    have b2 : am_up (am_tkk h 86 (3 + 4 * k + 2 + 1)) 73 k (am_tkk h 86 (3 + 4 * k + 2) 73 k) = am_tkk h 86 (3 + 4 * k + 2 + 1) := am_up_id (by rw [am_tkk_a (by omega) (by omega), am_tkk_a (by omega) (by omega)])
    refine (bq_M_carryAll_106 hd).trans ?_
    rw [am_gd (by omega) (by omega), Int.toNat_natCast]
    rw [am_gd (by omega) (by omega)]
    rw [b2]
    have a3 : am_tkk h 86 (3 + 4 * k + 3) 74 k = am_car h (3 + 4 * k + 3) := by rw [am_tkk_a (by omega) (by omega), am_car_1 hk (by omega)]
    refine (sp_M_carry_t86 (n := 3 + 4 * k + 3) (by omega) a3).trans ?_
    have b3 : am_up (am_tkk h 86 (3 + 4 * k + 3 + 1)) 74 k (am_tkk h 86 (3 + 4 * k + 3) 74 k) = am_tkk h 86 (3 + 4 * k + 3 + 1) := am_up_id (by rw [am_tkk_a (by omega) (by omega), am_tkk_a (by omega) (by omega)])
    refine (bq_M_carryAll_122).trans ?_
    rw [am_gd (by omega) (by omega), Int.toNat_natCast]
    rw [b3]
    rw [am_incn (by omega)]
    rfl
  · show am_Wp d 198 53 [some (Sum.inr (Sum.inr 70)), j1, j2, some (Sum.inl ((7 : Nat) : Int))] [] (am_SH L, am_tkk h 86 (3 + 4 * 7), am_RR 87) Q = _
    refine (bq_M_carryAll_53 hd).trans ?_
    rw [if_pos (by omega)]

theorem lp_M_carryAll_t86_131 {d L : Nat} {h : Nat → Nat → Int} {Q : Option am_V → am_H → Prop} {j1 j2 : Option am_V} (hd : 1 ≤ d) : am_Wp d 198 131 [some (Sum.inr (Sum.inr 70)), j1, j2, some (Sum.inl 0)] [] (am_SH L, am_tkk h 86 (31), am_RR 87) Q = Q none (am_SH L, am_tkk h 86 (127), am_RR 87) := by
  refine am_up_eq (n := 16) (fun k => am_Wp d 198 131 [some (Sum.inr (Sum.inr 70)), j1, j2, some (Sum.inl (k : Int))] [] (am_SH L, am_tkk h 86 (31 + 6 * k), am_RR 87) Q) (Q none (am_SH L, am_tkk h 86 (127), am_RR 87)) (fun k hk => ?_) ?_
  · show am_Wp d 198 131 [some (Sum.inr (Sum.inr 70)), j1, j2, some (Sum.inl (k : Int))] [] (am_SH L, am_tkk h 86 (31 + 6 * k), am_RR 87) Q = am_Wp d 198 131 [some (Sum.inr (Sum.inr 70)), j1, j2, some (Sum.inl ((k + 1 : Nat) : Int))] [] (am_SH L, am_tkk h 86 (31 + 6 * (k + 1)), am_RR 87) Q
    refine (bq_M_carryAll_131 hd).trans ?_
    rw [if_neg (by omega), am_gd (by omega) (by omega), Int.toNat_natCast]
    have a0 : am_tkk h 86 (31 + 6 * k + 0) 75 k = am_car h (31 + 6 * k + 0) := by rw [am_tkk_a (by omega) (by omega), am_car_2 (by omega)]
    refine (sp_M_carry_t86 (n := 31 + 6 * k + 0) (by omega) a0).trans ?_
    have b0 : am_up (am_tkk h 86 (31 + 6 * k + 0 + 1)) 75 k (am_tkk h 86 (31 + 6 * k + 0) 75 k) = am_tkk h 86 (31 + 6 * k + 0 + 1) := am_up_id (by rw [am_tkk_a (by omega) (by omega), am_tkk_a (by omega) (by omega)])
    refine (bq_M_carryAll_152 hd).trans ?_
    rw [am_gd (by omega) (by omega), Int.toNat_natCast]
    rw [am_gd (by omega) (by omega)]
    rw [b0]
    have a1 : am_tkk h 86 (31 + 6 * k + 1) 76 k = am_car h (31 + 6 * k + 1) := by rw [am_tkk_a (by omega) (by omega), am_car_2 (by omega)]
    refine (sp_M_carry_t86 (n := 31 + 6 * k + 1) (by omega) a1).trans ?_
    have b1 : am_up (am_tkk h 86 (31 + 6 * k + 1 + 1)) 76 k (am_tkk h 86 (31 + 6 * k + 1) 76 k) = am_tkk h 86 (31 + 6 * k + 1 + 1) := am_up_id (by rw [am_tkk_a (by omega) (by omega), am_tkk_a (by omega) (by omega)])
    refine (bq_M_carryAll_168 hd).trans ?_
    rw [am_gd (by omega) (by omega), Int.toNat_natCast]
    rw [am_gd (by omega) (by omega)]
    rw [b1]
    have a2 : am_tkk h 86 (31 + 6 * k + 2) 77 k = am_car h (31 + 6 * k + 2) := by rw [am_tkk_a (by omega) (by omega), am_car_2 (by omega)]
    refine (sp_M_carry_t86 (n := 31 + 6 * k + 2) (by omega) a2).trans ?_
    have b2 : am_up (am_tkk h 86 (31 + 6 * k + 2 + 1)) 77 k (am_tkk h 86 (31 + 6 * k + 2) 77 k) = am_tkk h 86 (31 + 6 * k + 2 + 1) := am_up_id (by rw [am_tkk_a (by omega) (by omega), am_tkk_a (by omega) (by omega)])
    refine (bq_M_carryAll_184 hd).trans ?_
    rw [am_gd (by omega) (by omega), Int.toNat_natCast]
    rw [am_gd (by omega) (by omega)]
    rw [b2]
    have a3 : am_tkk h 86 (31 + 6 * k + 3) 78 k = am_car h (31 + 6 * k + 3) := by rw [am_tkk_a (by omega) (by omega), am_car_2 (by omega)]
    refine (sp_M_carry_t86 (n := 31 + 6 * k + 3) (by omega) a3).trans ?_
    have b3 : am_up (am_tkk h 86 (31 + 6 * k + 3 + 1)) 78 k (am_tkk h 86 (31 + 6 * k + 3) 78 k) = am_tkk h 86 (31 + 6 * k + 3 + 1) := am_up_id (by rw [am_tkk_a (by omega) (by omega), am_tkk_a (by omega) (by omega)])
    refine (bq_M_carryAll_200 hd).trans ?_
    rw [am_gd (by omega) (by omega), Int.toNat_natCast]
    rw [am_gd (by omega) (by omega)]
    rw [b3]
    have a4 : am_tkk h 86 (31 + 6 * k + 4) 79 k = am_car h (31 + 6 * k + 4) := by rw [am_tkk_a (by omega) (by omega), am_car_2 (by omega)]
    refine (sp_M_carry_t86 (n := 31 + 6 * k + 4) (by omega) a4).trans ?_
    have b4 : am_up (am_tkk h 86 (31 + 6 * k + 4 + 1)) 79 k (am_tkk h 86 (31 + 6 * k + 4) 79 k) = am_tkk h 86 (31 + 6 * k + 4 + 1) := am_up_id (by rw [am_tkk_a (by omega) (by omega), am_tkk_a (by omega) (by omega)])
    refine (bq_M_carryAll_216 hd).trans ?_
    rw [am_gd (by omega) (by omega), Int.toNat_natCast]
    rw [am_gd (by omega) (by omega)]
    rw [b4]
    have a5 : am_tkk h 86 (31 + 6 * k + 5) 80 k = am_car h (31 + 6 * k + 5) := by rw [am_tkk_a (by omega) (by omega), am_car_2 (by omega)]
    refine (sp_M_carry_t86 (n := 31 + 6 * k + 5) (by omega) a5).trans ?_
    have b5 : am_up (am_tkk h 86 (31 + 6 * k + 5 + 1)) 80 k (am_tkk h 86 (31 + 6 * k + 5) 80 k) = am_tkk h 86 (31 + 6 * k + 5 + 1) := am_up_id (by rw [am_tkk_a (by omega) (by omega), am_tkk_a (by omega) (by omega)])
    refine (bq_M_carryAll_232).trans ?_
    rw [am_gd (by omega) (by omega), Int.toNat_natCast]
    rw [b5]
    rw [am_incn (by omega)]
    rfl
  · show am_Wp d 198 131 [some (Sum.inr (Sum.inr 70)), j1, j2, some (Sum.inl ((16 : Nat) : Int))] [] (am_SH L, am_tkk h 86 (31 + 6 * 16), am_RR 87) Q = _
    refine (bq_M_carryAll_131 hd).trans ?_
    rw [if_pos (by omega)]

theorem sp_M_carryAll_t86 {d L kp : Nat} {h : Nat → Nat → Int} {Q : Option am_V → am_H → Prop} (hd : 1 ≤ d) : am_Wp d 198 0 [some (Sum.inr (Sum.inr 70)), some (Sum.inr (Sum.inr 86)), some (Sum.inl 1), none] [] (am_SH L, h, am_RR kp) Q = Q none (am_SH L, am_tkk h 86 (127), am_RR 87) := by
  rw [bq_M_carryAll_0 hd, am_tkk_0 (a := 86) (by omega)]
  refine Eq.trans (propext ⟨fun w => w.2, fun w => ⟨by omega, w⟩⟩) ?_
  have a0 : am_tkk h 86 (0) 70 0 = am_car h 0 := rfl
  refine (sp_M_carry_t86 (n := 0) (by omega) a0).trans ?_
  have b0 : am_up (am_tkk h 86 (1)) 70 0 (am_tkk h 86 (0) 70 0) = am_tkk h 86 (1) := am_up_id rfl
  refine (bq_M_carryAll_24 hd).trans ?_
  rw [b0]
  have a1 : am_tkk h 86 (1) 70 5 = am_car h 1 := rfl
  refine (sp_M_carry_t86 (n := 1) (by omega) a1).trans ?_
  have b1 : am_up (am_tkk h 86 (2)) 70 5 (am_tkk h 86 (1) 70 5) = am_tkk h 86 (2) := am_up_id rfl
  refine (bq_M_carryAll_36 hd).trans ?_
  rw [b1]
  have a2 : am_tkk h 86 (2) 70 6 = am_car h 2 := rfl
  refine (sp_M_carry_t86 (n := 2) (by omega) a2).trans ?_
  have b2 : am_up (am_tkk h 86 (3)) 70 6 (am_tkk h 86 (2) 70 6) = am_tkk h 86 (3) := am_up_id rfl
  refine (bq_M_carryAll_48).trans ?_
  rw [b2]
  exact (lp_M_carryAll_t86_53 hd).trans (lp_M_carryAll_t86_131 hd)

theorem lp_M_carryAll_p86_53 {d L : Nat} {h : Nat → Nat → Int} {Q : Option am_V → am_H → Prop} {j1 j2 : Option am_V} (hd : 1 ≤ d) : am_Wp d 198 53 [some (Sum.inr (Sum.inr 70)), j1, j2, some (Sum.inl 0)] [] (am_SH L, am_puk h 86 (3), am_RR 87) Q = am_Wp d 198 131 [some (Sum.inr (Sum.inr 70)), j1, j2, some (Sum.inl 0)] [] (am_SH L, am_puk h 86 (31), am_RR 87) Q := by
  refine am_up_eq (n := 7) (fun k => am_Wp d 198 53 [some (Sum.inr (Sum.inr 70)), j1, j2, some (Sum.inl (k : Int))] [] (am_SH L, am_puk h 86 (3 + 4 * k), am_RR 87) Q) (am_Wp d 198 131 [some (Sum.inr (Sum.inr 70)), j1, j2, some (Sum.inl 0)] [] (am_SH L, am_puk h 86 (31), am_RR 87) Q) (fun k hk => ?_) ?_
  · show am_Wp d 198 53 [some (Sum.inr (Sum.inr 70)), j1, j2, some (Sum.inl (k : Int))] [] (am_SH L, am_puk h 86 (3 + 4 * k), am_RR 87) Q = am_Wp d 198 53 [some (Sum.inr (Sum.inr 70)), j1, j2, some (Sum.inl ((k + 1 : Nat) : Int))] [] (am_SH L, am_puk h 86 (3 + 4 * (k + 1)), am_RR 87) Q
    refine (bq_M_carryAll_53 hd).trans ?_
    rw [if_neg (by omega), am_gd (by omega) (by omega), Int.toNat_natCast]
    refine (sp_M_carry_p86 (n := 3 + 4 * k + 0) (by omega)).trans ?_
    have b0 : am_up (am_up (am_puk h 86 (3 + 4 * k + 0)) 70 26 ((3 + 4 * k + 0 + 1 : Nat) : Int)) 71 k (h 86 (3 + 4 * k + 0)) = am_puk h 86 (3 + 4 * k + 0 + 1) := am_puk_s (by omega) (by unfold am_ix; simp only [show ¬ (71 = 70) by omega, show ¬ (71 < 71) by omega, if_false, show 71 < 75 by omega, if_true]; rw [if_pos (by omega)])
    refine (bq_M_carryAll_74 hd).trans ?_
    rw [am_gd (by omega) (by omega), Int.toNat_natCast]
    rw [am_gd (by omega) (by omega)]
    rw [b0]
    refine (sp_M_carry_p86 (n := 3 + 4 * k + 1) (by omega)).trans ?_
    have b1 : am_up (am_up (am_puk h 86 (3 + 4 * k + 1)) 70 26 ((3 + 4 * k + 1 + 1 : Nat) : Int)) 72 k (h 86 (3 + 4 * k + 1)) = am_puk h 86 (3 + 4 * k + 1 + 1) := am_puk_s (by omega) (by unfold am_ix; simp only [show ¬ (72 = 70) by omega, show ¬ (72 < 71) by omega, if_false, show 72 < 75 by omega, if_true]; rw [if_pos (by omega)])
    refine (bq_M_carryAll_90 hd).trans ?_
    rw [am_gd (by omega) (by omega), Int.toNat_natCast]
    rw [am_gd (by omega) (by omega)]
    rw [b1]
    refine (sp_M_carry_p86 (n := 3 + 4 * k + 2) (by omega)).trans ?_
    have b2 : am_up (am_up (am_puk h 86 (3 + 4 * k + 2)) 70 26 ((3 + 4 * k + 2 + 1 : Nat) : Int)) 73 k (h 86 (3 + 4 * k + 2)) = am_puk h 86 (3 + 4 * k + 2 + 1) := am_puk_s (by omega) (by unfold am_ix; simp only [show ¬ (73 = 70) by omega, show ¬ (73 < 71) by omega, if_false, show 73 < 75 by omega, if_true]; rw [if_pos (by omega)])
    refine (bq_M_carryAll_106 hd).trans ?_
    rw [am_gd (by omega) (by omega), Int.toNat_natCast]
    rw [am_gd (by omega) (by omega)]
    rw [b2]
    refine (sp_M_carry_p86 (n := 3 + 4 * k + 3) (by omega)).trans ?_
    have b3 : am_up (am_up (am_puk h 86 (3 + 4 * k + 3)) 70 26 ((3 + 4 * k + 3 + 1 : Nat) : Int)) 74 k (h 86 (3 + 4 * k + 3)) = am_puk h 86 (3 + 4 * k + 3 + 1) := am_puk_s (by omega) (by unfold am_ix; simp only [show ¬ (74 = 70) by omega, show ¬ (74 < 71) by omega, if_false, show 74 < 75 by omega, if_true]; rw [if_pos (by omega)])
    refine (bq_M_carryAll_122).trans ?_
    rw [am_gd (by omega) (by omega), Int.toNat_natCast]
    rw [b3]
    rw [am_incn (by omega)]
    rfl
  · show am_Wp d 198 53 [some (Sum.inr (Sum.inr 70)), j1, j2, some (Sum.inl ((7 : Nat) : Int))] [] (am_SH L, am_puk h 86 (3 + 4 * 7), am_RR 87) Q = _
    refine (bq_M_carryAll_53 hd).trans ?_
    rw [if_pos (by omega)]

theorem lp_M_carryAll_p86_131 {d L : Nat} {h : Nat → Nat → Int} {Q : Option am_V → am_H → Prop} {j1 j2 : Option am_V} (hd : 1 ≤ d) : am_Wp d 198 131 [some (Sum.inr (Sum.inr 70)), j1, j2, some (Sum.inl 0)] [] (am_SH L, am_puk h 86 (31), am_RR 87) Q = Q none (am_SH L, am_puk h 86 (127), am_RR 87) := by
  refine am_up_eq (n := 16) (fun k => am_Wp d 198 131 [some (Sum.inr (Sum.inr 70)), j1, j2, some (Sum.inl (k : Int))] [] (am_SH L, am_puk h 86 (31 + 6 * k), am_RR 87) Q) (Q none (am_SH L, am_puk h 86 (127), am_RR 87)) (fun k hk => ?_) ?_
  · show am_Wp d 198 131 [some (Sum.inr (Sum.inr 70)), j1, j2, some (Sum.inl (k : Int))] [] (am_SH L, am_puk h 86 (31 + 6 * k), am_RR 87) Q = am_Wp d 198 131 [some (Sum.inr (Sum.inr 70)), j1, j2, some (Sum.inl ((k + 1 : Nat) : Int))] [] (am_SH L, am_puk h 86 (31 + 6 * (k + 1)), am_RR 87) Q
    refine (bq_M_carryAll_131 hd).trans ?_
    rw [if_neg (by omega), am_gd (by omega) (by omega), Int.toNat_natCast]
    refine (sp_M_carry_p86 (n := 31 + 6 * k + 0) (by omega)).trans ?_
    have b0 : am_up (am_up (am_puk h 86 (31 + 6 * k + 0)) 70 26 ((31 + 6 * k + 0 + 1 : Nat) : Int)) 75 k (h 86 (31 + 6 * k + 0)) = am_puk h 86 (31 + 6 * k + 0 + 1) := am_puk_s (by omega) (by unfold am_ix; simp only [show ¬ (75 = 70) by omega, show ¬ (75 < 71) by omega, if_false, show ¬ (75 < 75) by omega, show 75 < 81 by omega, if_false, if_true]; rw [if_pos (by omega)])
    refine (bq_M_carryAll_152 hd).trans ?_
    rw [am_gd (by omega) (by omega), Int.toNat_natCast]
    rw [am_gd (by omega) (by omega)]
    rw [b0]
    refine (sp_M_carry_p86 (n := 31 + 6 * k + 1) (by omega)).trans ?_
    have b1 : am_up (am_up (am_puk h 86 (31 + 6 * k + 1)) 70 26 ((31 + 6 * k + 1 + 1 : Nat) : Int)) 76 k (h 86 (31 + 6 * k + 1)) = am_puk h 86 (31 + 6 * k + 1 + 1) := am_puk_s (by omega) (by unfold am_ix; simp only [show ¬ (76 = 70) by omega, show ¬ (76 < 71) by omega, if_false, show ¬ (76 < 75) by omega, show 76 < 81 by omega, if_false, if_true]; rw [if_pos (by omega)])
    refine (bq_M_carryAll_168 hd).trans ?_
    rw [am_gd (by omega) (by omega), Int.toNat_natCast]
    rw [am_gd (by omega) (by omega)]
    rw [b1]
    refine (sp_M_carry_p86 (n := 31 + 6 * k + 2) (by omega)).trans ?_
    have b2 : am_up (am_up (am_puk h 86 (31 + 6 * k + 2)) 70 26 ((31 + 6 * k + 2 + 1 : Nat) : Int)) 77 k (h 86 (31 + 6 * k + 2)) = am_puk h 86 (31 + 6 * k + 2 + 1) := am_puk_s (by omega) (by unfold am_ix; simp only [show ¬ (77 = 70) by omega, show ¬ (77 < 71) by omega, if_false, show ¬ (77 < 75) by omega, show 77 < 81 by omega, if_false, if_true]; rw [if_pos (by omega)])
    refine (bq_M_carryAll_184 hd).trans ?_
    rw [am_gd (by omega) (by omega), Int.toNat_natCast]
    rw [am_gd (by omega) (by omega)]
    rw [b2]
    refine (sp_M_carry_p86 (n := 31 + 6 * k + 3) (by omega)).trans ?_
    have b3 : am_up (am_up (am_puk h 86 (31 + 6 * k + 3)) 70 26 ((31 + 6 * k + 3 + 1 : Nat) : Int)) 78 k (h 86 (31 + 6 * k + 3)) = am_puk h 86 (31 + 6 * k + 3 + 1) := am_puk_s (by omega) (by unfold am_ix; simp only [show ¬ (78 = 70) by omega, show ¬ (78 < 71) by omega, if_false, show ¬ (78 < 75) by omega, show 78 < 81 by omega, if_false, if_true]; rw [if_pos (by omega)])
    refine (bq_M_carryAll_200 hd).trans ?_
    rw [am_gd (by omega) (by omega), Int.toNat_natCast]
    rw [am_gd (by omega) (by omega)]
    rw [b3]
    refine (sp_M_carry_p86 (n := 31 + 6 * k + 4) (by omega)).trans ?_
    have b4 : am_up (am_up (am_puk h 86 (31 + 6 * k + 4)) 70 26 ((31 + 6 * k + 4 + 1 : Nat) : Int)) 79 k (h 86 (31 + 6 * k + 4)) = am_puk h 86 (31 + 6 * k + 4 + 1) := am_puk_s (by omega) (by unfold am_ix; simp only [show ¬ (79 = 70) by omega, show ¬ (79 < 71) by omega, if_false, show ¬ (79 < 75) by omega, show 79 < 81 by omega, if_false, if_true]; rw [if_pos (by omega)])
    refine (bq_M_carryAll_216 hd).trans ?_
    rw [am_gd (by omega) (by omega), Int.toNat_natCast]
    rw [am_gd (by omega) (by omega)]
    rw [b4]
    refine (sp_M_carry_p86 (n := 31 + 6 * k + 5) (by omega)).trans ?_
    have b5 : am_up (am_up (am_puk h 86 (31 + 6 * k + 5)) 70 26 ((31 + 6 * k + 5 + 1 : Nat) : Int)) 80 k (h 86 (31 + 6 * k + 5)) = am_puk h 86 (31 + 6 * k + 5 + 1) := am_puk_s (by omega) (by unfold am_ix; simp only [show ¬ (80 = 70) by omega, show ¬ (80 < 71) by omega, if_false, show ¬ (80 < 75) by omega, show 80 < 81 by omega, if_false, if_true]; rw [if_pos (by omega)])
    refine (bq_M_carryAll_232).trans ?_
    rw [am_gd (by omega) (by omega), Int.toNat_natCast]
    rw [b5]
    rw [am_incn (by omega)]
    rfl
  · show am_Wp d 198 131 [some (Sum.inr (Sum.inr 70)), j1, j2, some (Sum.inl ((16 : Nat) : Int))] [] (am_SH L, am_puk h 86 (31 + 6 * 16), am_RR 87) Q = _
    refine (bq_M_carryAll_131 hd).trans ?_
    rw [if_pos (by omega)]

theorem sp_M_carryAll_p86 {d L kp : Nat} {h : Nat → Nat → Int} {Q : Option am_V → am_H → Prop} (hd : 1 ≤ d) : am_Wp d 198 0 [some (Sum.inr (Sum.inr 70)), some (Sum.inr (Sum.inr 86)), some (Sum.inl 0), none] [] (am_SH L, h, am_RR kp) Q = Q none (am_SH L, am_puk h 86 (127), am_RR 87) := by
  rw [bq_M_carryAll_0 hd, am_puk_0 (a := 86)]
  refine Eq.trans (propext ⟨fun w => w.2, fun w => ⟨by omega, w⟩⟩) ?_
  refine (sp_M_carry_p86 (n := 0) (by omega)).trans ?_
  have b0 : am_up (am_up (am_puk h 86 (0)) 70 26 ((0 + 1 : Nat) : Int)) 70 0 (h 86 0) = am_puk h 86 (1) := am_puk_s (by omega) rfl
  refine (bq_M_carryAll_24 hd).trans ?_
  rw [b0]
  refine (sp_M_carry_p86 (n := 1) (by omega)).trans ?_
  have b1 : am_up (am_up (am_puk h 86 (1)) 70 26 ((1 + 1 : Nat) : Int)) 70 5 (h 86 1) = am_puk h 86 (2) := am_puk_s (by omega) rfl
  refine (bq_M_carryAll_36 hd).trans ?_
  rw [b1]
  refine (sp_M_carry_p86 (n := 2) (by omega)).trans ?_
  have b2 : am_up (am_up (am_puk h 86 (2)) 70 26 ((2 + 1 : Nat) : Int)) 70 6 (h 86 2) = am_puk h 86 (3) := am_puk_s (by omega) rfl
  refine (bq_M_carryAll_48).trans ?_
  rw [b2]
  exact (lp_M_carryAll_p86_53 hd).trans (lp_M_carryAll_p86_131 hd)

theorem lp_M_carryAll_t89_53 {d L : Nat} {h : Nat → Nat → Int} {Q : Option am_V → am_H → Prop} {j1 j2 : Option am_V} (hd : 1 ≤ d) : am_Wp d 198 53 [some (Sum.inr (Sum.inr 70)), j1, j2, some (Sum.inl 0)] [] (am_SH L, am_tkk h 89 (3), am_RR 90) Q = am_Wp d 198 131 [some (Sum.inr (Sum.inr 70)), j1, j2, some (Sum.inl 0)] [] (am_SH L, am_tkk h 89 (31), am_RR 90) Q := by
  refine am_up_eq (n := 7) (fun k => am_Wp d 198 53 [some (Sum.inr (Sum.inr 70)), j1, j2, some (Sum.inl (k : Int))] [] (am_SH L, am_tkk h 89 (3 + 4 * k), am_RR 90) Q) (am_Wp d 198 131 [some (Sum.inr (Sum.inr 70)), j1, j2, some (Sum.inl 0)] [] (am_SH L, am_tkk h 89 (31), am_RR 90) Q) (fun k hk => ?_) ?_
  · show am_Wp d 198 53 [some (Sum.inr (Sum.inr 70)), j1, j2, some (Sum.inl (k : Int))] [] (am_SH L, am_tkk h 89 (3 + 4 * k), am_RR 90) Q = am_Wp d 198 53 [some (Sum.inr (Sum.inr 70)), j1, j2, some (Sum.inl ((k + 1 : Nat) : Int))] [] (am_SH L, am_tkk h 89 (3 + 4 * (k + 1)), am_RR 90) Q
    refine (bq_M_carryAll_v2_53 hd).trans ?_
    rw [if_neg (by omega), am_gd (by omega) (by omega), Int.toNat_natCast]
    have a0 : am_tkk h 89 (3 + 4 * k + 0) 71 k = am_car h (3 + 4 * k + 0) := by rw [am_tkk_a (by omega) (by omega), am_car_1 hk (by omega)]
    refine (sp_M_carry_t89 (n := 3 + 4 * k + 0) (by omega) a0).trans ?_
    have b0 : am_up (am_tkk h 89 (3 + 4 * k + 0 + 1)) 71 k (am_tkk h 89 (3 + 4 * k + 0) 71 k) = am_tkk h 89 (3 + 4 * k + 0 + 1) := am_up_id (by rw [am_tkk_a (by omega) (by omega), am_tkk_a (by omega) (by omega)])
    refine (bq_M_carryAll_v2_74 hd).trans ?_
    rw [am_gd (by omega) (by omega), Int.toNat_natCast]
    rw [am_gd (by omega) (by omega)]
    rw [b0]
    have a1 : am_tkk h 89 (3 + 4 * k + 1) 72 k = am_car h (3 + 4 * k + 1) := by rw [am_tkk_a (by omega) (by omega), am_car_1 hk (by omega)]
    refine (sp_M_carry_t89 (n := 3 + 4 * k + 1) (by omega) a1).trans ?_
    have b1 : am_up (am_tkk h 89 (3 + 4 * k + 1 + 1)) 72 k (am_tkk h 89 (3 + 4 * k + 1) 72 k) = am_tkk h 89 (3 + 4 * k + 1 + 1) := am_up_id (by rw [am_tkk_a (by omega) (by omega), am_tkk_a (by omega) (by omega)])
    refine (bq_M_carryAll_v2_90 hd).trans ?_
    rw [am_gd (by omega) (by omega), Int.toNat_natCast]
    rw [am_gd (by omega) (by omega)]
    rw [b1]
    have a2 : am_tkk h 89 (3 + 4 * k + 2) 73 k = am_car h (3 + 4 * k + 2) := by rw [am_tkk_a (by omega) (by omega), am_car_1 hk (by omega)]
    refine (sp_M_carry_t89 (n := 3 + 4 * k + 2) (by omega) a2).trans ?_
    have b2 : am_up (am_tkk h 89 (3 + 4 * k + 2 + 1)) 73 k (am_tkk h 89 (3 + 4 * k + 2) 73 k) = am_tkk h 89 (3 + 4 * k + 2 + 1) := am_up_id (by rw [am_tkk_a (by omega) (by omega), am_tkk_a (by omega) (by omega)])
    refine (bq_M_carryAll_v2_106 hd).trans ?_
    rw [am_gd (by omega) (by omega), Int.toNat_natCast]
    rw [am_gd (by omega) (by omega)]
    rw [b2]
    have a3 : am_tkk h 89 (3 + 4 * k + 3) 74 k = am_car h (3 + 4 * k + 3) := by rw [am_tkk_a (by omega) (by omega), am_car_1 hk (by omega)]
    refine (sp_M_carry_t89 (n := 3 + 4 * k + 3) (by omega) a3).trans ?_
    have b3 : am_up (am_tkk h 89 (3 + 4 * k + 3 + 1)) 74 k (am_tkk h 89 (3 + 4 * k + 3) 74 k) = am_tkk h 89 (3 + 4 * k + 3 + 1) := am_up_id (by rw [am_tkk_a (by omega) (by omega), am_tkk_a (by omega) (by omega)])
    refine (bq_M_carryAll_v2_122).trans ?_
    rw [am_gd (by omega) (by omega), Int.toNat_natCast]
    rw [b3]
    rw [am_incn (by omega)]
    rfl
  · show am_Wp d 198 53 [some (Sum.inr (Sum.inr 70)), j1, j2, some (Sum.inl ((7 : Nat) : Int))] [] (am_SH L, am_tkk h 89 (3 + 4 * 7), am_RR 90) Q = _
    refine (bq_M_carryAll_v2_53 hd).trans ?_
    rw [if_pos (by omega)]

theorem lp_M_carryAll_t89_131 {d L : Nat} {h : Nat → Nat → Int} {Q : Option am_V → am_H → Prop} {j1 j2 : Option am_V} (hd : 1 ≤ d) : am_Wp d 198 131 [some (Sum.inr (Sum.inr 70)), j1, j2, some (Sum.inl 0)] [] (am_SH L, am_tkk h 89 (31), am_RR 90) Q = Q none (am_SH L, am_tkk h 89 (127), am_RR 90) := by
  refine am_up_eq (n := 16) (fun k => am_Wp d 198 131 [some (Sum.inr (Sum.inr 70)), j1, j2, some (Sum.inl (k : Int))] [] (am_SH L, am_tkk h 89 (31 + 6 * k), am_RR 90) Q) (Q none (am_SH L, am_tkk h 89 (127), am_RR 90)) (fun k hk => ?_) ?_
  · show am_Wp d 198 131 [some (Sum.inr (Sum.inr 70)), j1, j2, some (Sum.inl (k : Int))] [] (am_SH L, am_tkk h 89 (31 + 6 * k), am_RR 90) Q = am_Wp d 198 131 [some (Sum.inr (Sum.inr 70)), j1, j2, some (Sum.inl ((k + 1 : Nat) : Int))] [] (am_SH L, am_tkk h 89 (31 + 6 * (k + 1)), am_RR 90) Q
    refine (bq_M_carryAll_v2_131 hd).trans ?_
    rw [if_neg (by omega), am_gd (by omega) (by omega), Int.toNat_natCast]
    have a0 : am_tkk h 89 (31 + 6 * k + 0) 75 k = am_car h (31 + 6 * k + 0) := by rw [am_tkk_a (by omega) (by omega), am_car_2 (by omega)]
    refine (sp_M_carry_t89 (n := 31 + 6 * k + 0) (by omega) a0).trans ?_
    have b0 : am_up (am_tkk h 89 (31 + 6 * k + 0 + 1)) 75 k (am_tkk h 89 (31 + 6 * k + 0) 75 k) = am_tkk h 89 (31 + 6 * k + 0 + 1) := am_up_id (by rw [am_tkk_a (by omega) (by omega), am_tkk_a (by omega) (by omega)])
    refine (bq_M_carryAll_v2_152 hd).trans ?_
    rw [am_gd (by omega) (by omega), Int.toNat_natCast]
    rw [am_gd (by omega) (by omega)]
    rw [b0]
    have a1 : am_tkk h 89 (31 + 6 * k + 1) 76 k = am_car h (31 + 6 * k + 1) := by rw [am_tkk_a (by omega) (by omega), am_car_2 (by omega)]
    refine (sp_M_carry_t89 (n := 31 + 6 * k + 1) (by omega) a1).trans ?_
    have b1 : am_up (am_tkk h 89 (31 + 6 * k + 1 + 1)) 76 k (am_tkk h 89 (31 + 6 * k + 1) 76 k) = am_tkk h 89 (31 + 6 * k + 1 + 1) := am_up_id (by rw [am_tkk_a (by omega) (by omega), am_tkk_a (by omega) (by omega)])
    refine (bq_M_carryAll_v2_168 hd).trans ?_
    rw [am_gd (by omega) (by omega), Int.toNat_natCast]
    rw [am_gd (by omega) (by omega)]
    rw [b1]
    have a2 : am_tkk h 89 (31 + 6 * k + 2) 77 k = am_car h (31 + 6 * k + 2) := by rw [am_tkk_a (by omega) (by omega), am_car_2 (by omega)]
    refine (sp_M_carry_t89 (n := 31 + 6 * k + 2) (by omega) a2).trans ?_
    have b2 : am_up (am_tkk h 89 (31 + 6 * k + 2 + 1)) 77 k (am_tkk h 89 (31 + 6 * k + 2) 77 k) = am_tkk h 89 (31 + 6 * k + 2 + 1) := am_up_id (by rw [am_tkk_a (by omega) (by omega), am_tkk_a (by omega) (by omega)])
    refine (bq_M_carryAll_v2_184 hd).trans ?_
    rw [am_gd (by omega) (by omega), Int.toNat_natCast]
    rw [am_gd (by omega) (by omega)]
    rw [b2]
    have a3 : am_tkk h 89 (31 + 6 * k + 3) 78 k = am_car h (31 + 6 * k + 3) := by rw [am_tkk_a (by omega) (by omega), am_car_2 (by omega)]
    refine (sp_M_carry_t89 (n := 31 + 6 * k + 3) (by omega) a3).trans ?_
    have b3 : am_up (am_tkk h 89 (31 + 6 * k + 3 + 1)) 78 k (am_tkk h 89 (31 + 6 * k + 3) 78 k) = am_tkk h 89 (31 + 6 * k + 3 + 1) := am_up_id (by rw [am_tkk_a (by omega) (by omega), am_tkk_a (by omega) (by omega)])
    refine (bq_M_carryAll_v2_200 hd).trans ?_
    rw [am_gd (by omega) (by omega), Int.toNat_natCast]
    rw [am_gd (by omega) (by omega)]
    rw [b3]
    have a4 : am_tkk h 89 (31 + 6 * k + 4) 79 k = am_car h (31 + 6 * k + 4) := by rw [am_tkk_a (by omega) (by omega), am_car_2 (by omega)]
    refine (sp_M_carry_t89 (n := 31 + 6 * k + 4) (by omega) a4).trans ?_
    have b4 : am_up (am_tkk h 89 (31 + 6 * k + 4 + 1)) 79 k (am_tkk h 89 (31 + 6 * k + 4) 79 k) = am_tkk h 89 (31 + 6 * k + 4 + 1) := am_up_id (by rw [am_tkk_a (by omega) (by omega), am_tkk_a (by omega) (by omega)])
    refine (bq_M_carryAll_v2_216 hd).trans ?_
    rw [am_gd (by omega) (by omega), Int.toNat_natCast]
    rw [am_gd (by omega) (by omega)]
    rw [b4]
    have a5 : am_tkk h 89 (31 + 6 * k + 5) 80 k = am_car h (31 + 6 * k + 5) := by rw [am_tkk_a (by omega) (by omega), am_car_2 (by omega)]
    refine (sp_M_carry_t89 (n := 31 + 6 * k + 5) (by omega) a5).trans ?_
    have b5 : am_up (am_tkk h 89 (31 + 6 * k + 5 + 1)) 80 k (am_tkk h 89 (31 + 6 * k + 5) 80 k) = am_tkk h 89 (31 + 6 * k + 5 + 1) := am_up_id (by rw [am_tkk_a (by omega) (by omega), am_tkk_a (by omega) (by omega)])
    refine (bq_M_carryAll_v2_232).trans ?_
    rw [am_gd (by omega) (by omega), Int.toNat_natCast]
    rw [b5]
    rw [am_incn (by omega)]
    rfl
  · show am_Wp d 198 131 [some (Sum.inr (Sum.inr 70)), j1, j2, some (Sum.inl ((16 : Nat) : Int))] [] (am_SH L, am_tkk h 89 (31 + 6 * 16), am_RR 90) Q = _
    refine (bq_M_carryAll_v2_131 hd).trans ?_
    rw [if_pos (by omega)]

theorem sp_M_carryAll_t89 {d L kp : Nat} {h : Nat → Nat → Int} {Q : Option am_V → am_H → Prop} (hd : 1 ≤ d) : am_Wp d 198 0 [some (Sum.inr (Sum.inr 70)), some (Sum.inr (Sum.inr 89)), some (Sum.inl 1), none] [] (am_SH L, h, am_RR kp) Q = Q none (am_SH L, am_tkk h 89 (127), am_RR 90) := by
  rw [bq_M_carryAll_v2_0 hd, am_tkk_0 (a := 89) (by omega)]
  refine Eq.trans (propext ⟨fun w => w.2, fun w => ⟨by omega, w⟩⟩) ?_
  have a0 : am_tkk h 89 (0) 70 0 = am_car h 0 := rfl
  refine (sp_M_carry_t89 (n := 0) (by omega) a0).trans ?_
  have b0 : am_up (am_tkk h 89 (1)) 70 0 (am_tkk h 89 (0) 70 0) = am_tkk h 89 (1) := am_up_id rfl
  refine (bq_M_carryAll_v2_24 hd).trans ?_
  rw [b0]
  have a1 : am_tkk h 89 (1) 70 5 = am_car h 1 := rfl
  refine (sp_M_carry_t89 (n := 1) (by omega) a1).trans ?_
  have b1 : am_up (am_tkk h 89 (2)) 70 5 (am_tkk h 89 (1) 70 5) = am_tkk h 89 (2) := am_up_id rfl
  refine (bq_M_carryAll_v2_36 hd).trans ?_
  rw [b1]
  have a2 : am_tkk h 89 (2) 70 6 = am_car h 2 := rfl
  refine (sp_M_carry_t89 (n := 2) (by omega) a2).trans ?_
  have b2 : am_up (am_tkk h 89 (3)) 70 6 (am_tkk h 89 (2) 70 6) = am_tkk h 89 (3) := am_up_id rfl
  refine (bq_M_carryAll_v2_48).trans ?_
  rw [b2]
  exact (lp_M_carryAll_t89_53 hd).trans (lp_M_carryAll_t89_131 hd)

theorem lp_M_carryAll_p89_53 {d L : Nat} {h : Nat → Nat → Int} {Q : Option am_V → am_H → Prop} {j1 j2 : Option am_V} (hd : 1 ≤ d) : am_Wp d 198 53 [some (Sum.inr (Sum.inr 70)), j1, j2, some (Sum.inl 0)] [] (am_SH L, am_puk h 89 (3), am_RR 90) Q = am_Wp d 198 131 [some (Sum.inr (Sum.inr 70)), j1, j2, some (Sum.inl 0)] [] (am_SH L, am_puk h 89 (31), am_RR 90) Q := by
  refine am_up_eq (n := 7) (fun k => am_Wp d 198 53 [some (Sum.inr (Sum.inr 70)), j1, j2, some (Sum.inl (k : Int))] [] (am_SH L, am_puk h 89 (3 + 4 * k), am_RR 90) Q) (am_Wp d 198 131 [some (Sum.inr (Sum.inr 70)), j1, j2, some (Sum.inl 0)] [] (am_SH L, am_puk h 89 (31), am_RR 90) Q) (fun k hk => ?_) ?_
  · show am_Wp d 198 53 [some (Sum.inr (Sum.inr 70)), j1, j2, some (Sum.inl (k : Int))] [] (am_SH L, am_puk h 89 (3 + 4 * k), am_RR 90) Q = am_Wp d 198 53 [some (Sum.inr (Sum.inr 70)), j1, j2, some (Sum.inl ((k + 1 : Nat) : Int))] [] (am_SH L, am_puk h 89 (3 + 4 * (k + 1)), am_RR 90) Q
    refine (bq_M_carryAll_v2_53 hd).trans ?_
    rw [if_neg (by omega), am_gd (by omega) (by omega), Int.toNat_natCast]
    refine (sp_M_carry_p89 (n := 3 + 4 * k + 0) (by omega)).trans ?_
    have b0 : am_up (am_up (am_puk h 89 (3 + 4 * k + 0)) 70 26 ((3 + 4 * k + 0 + 1 : Nat) : Int)) 71 k (h 89 (3 + 4 * k + 0)) = am_puk h 89 (3 + 4 * k + 0 + 1) := am_puk_s (by omega) (by unfold am_ix; simp only [show ¬ (71 = 70) by omega, show ¬ (71 < 71) by omega, if_false, show 71 < 75 by omega, if_true]; rw [if_pos (by omega)])
    refine (bq_M_carryAll_v2_74 hd).trans ?_
    rw [am_gd (by omega) (by omega), Int.toNat_natCast]
    rw [am_gd (by omega) (by omega)]
    rw [b0]
    refine (sp_M_carry_p89 (n := 3 + 4 * k + 1) (by omega)).trans ?_
    have b1 : am_up (am_up (am_puk h 89 (3 + 4 * k + 1)) 70 26 ((3 + 4 * k + 1 + 1 : Nat) : Int)) 72 k (h 89 (3 + 4 * k + 1)) = am_puk h 89 (3 + 4 * k + 1 + 1) := am_puk_s (by omega) (by unfold am_ix; simp only [show ¬ (72 = 70) by omega, show ¬ (72 < 71) by omega, if_false, show 72 < 75 by omega, if_true]; rw [if_pos (by omega)])
    refine (bq_M_carryAll_v2_90 hd).trans ?_
    rw [am_gd (by omega) (by omega), Int.toNat_natCast]
    rw [am_gd (by omega) (by omega)]
    rw [b1]
    refine (sp_M_carry_p89 (n := 3 + 4 * k + 2) (by omega)).trans ?_
    have b2 : am_up (am_up (am_puk h 89 (3 + 4 * k + 2)) 70 26 ((3 + 4 * k + 2 + 1 : Nat) : Int)) 73 k (h 89 (3 + 4 * k + 2)) = am_puk h 89 (3 + 4 * k + 2 + 1) := am_puk_s (by omega) (by unfold am_ix; simp only [show ¬ (73 = 70) by omega, show ¬ (73 < 71) by omega, if_false, show 73 < 75 by omega, if_true]; rw [if_pos (by omega)])
    refine (bq_M_carryAll_v2_106 hd).trans ?_
    rw [am_gd (by omega) (by omega), Int.toNat_natCast]
    rw [am_gd (by omega) (by omega)]
    rw [b2]
    refine (sp_M_carry_p89 (n := 3 + 4 * k + 3) (by omega)).trans ?_
    have b3 : am_up (am_up (am_puk h 89 (3 + 4 * k + 3)) 70 26 ((3 + 4 * k + 3 + 1 : Nat) : Int)) 74 k (h 89 (3 + 4 * k + 3)) = am_puk h 89 (3 + 4 * k + 3 + 1) := am_puk_s (by omega) (by unfold am_ix; simp only [show ¬ (74 = 70) by omega, show ¬ (74 < 71) by omega, if_false, show 74 < 75 by omega, if_true]; rw [if_pos (by omega)])
    refine (bq_M_carryAll_v2_122).trans ?_
    rw [am_gd (by omega) (by omega), Int.toNat_natCast]
    rw [b3]
    rw [am_incn (by omega)]
    rfl
  · show am_Wp d 198 53 [some (Sum.inr (Sum.inr 70)), j1, j2, some (Sum.inl ((7 : Nat) : Int))] [] (am_SH L, am_puk h 89 (3 + 4 * 7), am_RR 90) Q = _
    refine (bq_M_carryAll_v2_53 hd).trans ?_
    rw [if_pos (by omega)]

theorem lp_M_carryAll_p89_131 {d L : Nat} {h : Nat → Nat → Int} {Q : Option am_V → am_H → Prop} {j1 j2 : Option am_V} (hd : 1 ≤ d) : am_Wp d 198 131 [some (Sum.inr (Sum.inr 70)), j1, j2, some (Sum.inl 0)] [] (am_SH L, am_puk h 89 (31), am_RR 90) Q = Q none (am_SH L, am_puk h 89 (127), am_RR 90) := by
  refine am_up_eq (n := 16) (fun k => am_Wp d 198 131 [some (Sum.inr (Sum.inr 70)), j1, j2, some (Sum.inl (k : Int))] [] (am_SH L, am_puk h 89 (31 + 6 * k), am_RR 90) Q) (Q none (am_SH L, am_puk h 89 (127), am_RR 90)) (fun k hk => ?_) ?_
  · show am_Wp d 198 131 [some (Sum.inr (Sum.inr 70)), j1, j2, some (Sum.inl (k : Int))] [] (am_SH L, am_puk h 89 (31 + 6 * k), am_RR 90) Q = am_Wp d 198 131 [some (Sum.inr (Sum.inr 70)), j1, j2, some (Sum.inl ((k + 1 : Nat) : Int))] [] (am_SH L, am_puk h 89 (31 + 6 * (k + 1)), am_RR 90) Q
    refine (bq_M_carryAll_v2_131 hd).trans ?_
    rw [if_neg (by omega), am_gd (by omega) (by omega), Int.toNat_natCast]
    refine (sp_M_carry_p89 (n := 31 + 6 * k + 0) (by omega)).trans ?_
    have b0 : am_up (am_up (am_puk h 89 (31 + 6 * k + 0)) 70 26 ((31 + 6 * k + 0 + 1 : Nat) : Int)) 75 k (h 89 (31 + 6 * k + 0)) = am_puk h 89 (31 + 6 * k + 0 + 1) := am_puk_s (by omega) (by unfold am_ix; simp only [show ¬ (75 = 70) by omega, show ¬ (75 < 71) by omega, if_false, show ¬ (75 < 75) by omega, show 75 < 81 by omega, if_false, if_true]; rw [if_pos (by omega)])
    refine (bq_M_carryAll_v2_152 hd).trans ?_
    rw [am_gd (by omega) (by omega), Int.toNat_natCast]
    rw [am_gd (by omega) (by omega)]
    rw [b0]
    refine (sp_M_carry_p89 (n := 31 + 6 * k + 1) (by omega)).trans ?_
    have b1 : am_up (am_up (am_puk h 89 (31 + 6 * k + 1)) 70 26 ((31 + 6 * k + 1 + 1 : Nat) : Int)) 76 k (h 89 (31 + 6 * k + 1)) = am_puk h 89 (31 + 6 * k + 1 + 1) := am_puk_s (by omega) (by unfold am_ix; simp only [show ¬ (76 = 70) by omega, show ¬ (76 < 71) by omega, if_false, show ¬ (76 < 75) by omega, show 76 < 81 by omega, if_false, if_true]; rw [if_pos (by omega)])
    refine (bq_M_carryAll_v2_168 hd).trans ?_
    rw [am_gd (by omega) (by omega), Int.toNat_natCast]
    rw [am_gd (by omega) (by omega)]
    rw [b1]
    refine (sp_M_carry_p89 (n := 31 + 6 * k + 2) (by omega)).trans ?_
    have b2 : am_up (am_up (am_puk h 89 (31 + 6 * k + 2)) 70 26 ((31 + 6 * k + 2 + 1 : Nat) : Int)) 77 k (h 89 (31 + 6 * k + 2)) = am_puk h 89 (31 + 6 * k + 2 + 1) := am_puk_s (by omega) (by unfold am_ix; simp only [show ¬ (77 = 70) by omega, show ¬ (77 < 71) by omega, if_false, show ¬ (77 < 75) by omega, show 77 < 81 by omega, if_false, if_true]; rw [if_pos (by omega)])
    refine (bq_M_carryAll_v2_184 hd).trans ?_
    rw [am_gd (by omega) (by omega), Int.toNat_natCast]
    rw [am_gd (by omega) (by omega)]
    rw [b2]
    refine (sp_M_carry_p89 (n := 31 + 6 * k + 3) (by omega)).trans ?_
    have b3 : am_up (am_up (am_puk h 89 (31 + 6 * k + 3)) 70 26 ((31 + 6 * k + 3 + 1 : Nat) : Int)) 78 k (h 89 (31 + 6 * k + 3)) = am_puk h 89 (31 + 6 * k + 3 + 1) := am_puk_s (by omega) (by unfold am_ix; simp only [show ¬ (78 = 70) by omega, show ¬ (78 < 71) by omega, if_false, show ¬ (78 < 75) by omega, show 78 < 81 by omega, if_false, if_true]; rw [if_pos (by omega)])
    refine (bq_M_carryAll_v2_200 hd).trans ?_
    rw [am_gd (by omega) (by omega), Int.toNat_natCast]
    rw [am_gd (by omega) (by omega)]
    rw [b3]
    refine (sp_M_carry_p89 (n := 31 + 6 * k + 4) (by omega)).trans ?_
    have b4 : am_up (am_up (am_puk h 89 (31 + 6 * k + 4)) 70 26 ((31 + 6 * k + 4 + 1 : Nat) : Int)) 79 k (h 89 (31 + 6 * k + 4)) = am_puk h 89 (31 + 6 * k + 4 + 1) := am_puk_s (by omega) (by unfold am_ix; simp only [show ¬ (79 = 70) by omega, show ¬ (79 < 71) by omega, if_false, show ¬ (79 < 75) by omega, show 79 < 81 by omega, if_false, if_true]; rw [if_pos (by omega)])
    refine (bq_M_carryAll_v2_216 hd).trans ?_
    rw [am_gd (by omega) (by omega), Int.toNat_natCast]
    rw [am_gd (by omega) (by omega)]
    rw [b4]
    refine (sp_M_carry_p89 (n := 31 + 6 * k + 5) (by omega)).trans ?_
    have b5 : am_up (am_up (am_puk h 89 (31 + 6 * k + 5)) 70 26 ((31 + 6 * k + 5 + 1 : Nat) : Int)) 80 k (h 89 (31 + 6 * k + 5)) = am_puk h 89 (31 + 6 * k + 5 + 1) := am_puk_s (by omega) (by unfold am_ix; simp only [show ¬ (80 = 70) by omega, show ¬ (80 < 71) by omega, if_false, show ¬ (80 < 75) by omega, show 80 < 81 by omega, if_false, if_true]; rw [if_pos (by omega)])
    refine (bq_M_carryAll_v2_232).trans ?_
    rw [am_gd (by omega) (by omega), Int.toNat_natCast]
    rw [b5]
    rw [am_incn (by omega)]
    rfl
  · show am_Wp d 198 131 [some (Sum.inr (Sum.inr 70)), j1, j2, some (Sum.inl ((16 : Nat) : Int))] [] (am_SH L, am_puk h 89 (31 + 6 * 16), am_RR 90) Q = _
    refine (bq_M_carryAll_v2_131 hd).trans ?_
    rw [if_pos (by omega)]

theorem sp_M_carryAll_p89 {d L kp : Nat} {h : Nat → Nat → Int} {Q : Option am_V → am_H → Prop} (hd : 1 ≤ d) : am_Wp d 198 0 [some (Sum.inr (Sum.inr 70)), some (Sum.inr (Sum.inr 89)), some (Sum.inl 0), none] [] (am_SH L, h, am_RR kp) Q = Q none (am_SH L, am_puk h 89 (127), am_RR 90) := by
  rw [bq_M_carryAll_v2_0 hd, am_puk_0 (a := 89)]
  refine Eq.trans (propext ⟨fun w => w.2, fun w => ⟨by omega, w⟩⟩) ?_
  refine (sp_M_carry_p89 (n := 0) (by omega)).trans ?_
  have b0 : am_up (am_up (am_puk h 89 (0)) 70 26 ((0 + 1 : Nat) : Int)) 70 0 (h 89 0) = am_puk h 89 (1) := am_puk_s (by omega) rfl
  refine (bq_M_carryAll_v2_24 hd).trans ?_
  rw [b0]
  refine (sp_M_carry_p89 (n := 1) (by omega)).trans ?_
  have b1 : am_up (am_up (am_puk h 89 (1)) 70 26 ((1 + 1 : Nat) : Int)) 70 5 (h 89 1) = am_puk h 89 (2) := am_puk_s (by omega) rfl
  refine (bq_M_carryAll_v2_36 hd).trans ?_
  rw [b1]
  refine (sp_M_carry_p89 (n := 2) (by omega)).trans ?_
  have b2 : am_up (am_up (am_puk h 89 (2)) 70 26 ((2 + 1 : Nat) : Int)) 70 6 (h 89 2) = am_puk h 89 (3) := am_puk_s (by omega) rfl
  refine (bq_M_carryAll_v2_48).trans ?_
  rw [b2]
  exact (lp_M_carryAll_p89_53 hd).trans (lp_M_carryAll_p89_131 hd)

theorem lp_M_carryAll_t87_53 {d L : Nat} {h : Nat → Nat → Int} {Q : Option am_V → am_H → Prop} {j1 j2 : Option am_V} (hd : 1 ≤ d) : am_Wp d 198 53 [some (Sum.inr (Sum.inr 70)), j1, j2, some (Sum.inl 0)] [] (am_SH L, am_tkk h 87 (3), am_RR 88) Q = am_Wp d 198 131 [some (Sum.inr (Sum.inr 70)), j1, j2, some (Sum.inl 0)] [] (am_SH L, am_tkk h 87 (31), am_RR 88) Q := by
  refine am_up_eq (n := 7) (fun k => am_Wp d 198 53 [some (Sum.inr (Sum.inr 70)), j1, j2, some (Sum.inl (k : Int))] [] (am_SH L, am_tkk h 87 (3 + 4 * k), am_RR 88) Q) (am_Wp d 198 131 [some (Sum.inr (Sum.inr 70)), j1, j2, some (Sum.inl 0)] [] (am_SH L, am_tkk h 87 (31), am_RR 88) Q) (fun k hk => ?_) ?_
  · show am_Wp d 198 53 [some (Sum.inr (Sum.inr 70)), j1, j2, some (Sum.inl (k : Int))] [] (am_SH L, am_tkk h 87 (3 + 4 * k), am_RR 88) Q = am_Wp d 198 53 [some (Sum.inr (Sum.inr 70)), j1, j2, some (Sum.inl ((k + 1 : Nat) : Int))] [] (am_SH L, am_tkk h 87 (3 + 4 * (k + 1)), am_RR 88) Q
    refine (bq_M_carryAll_v3_53 hd).trans ?_
    rw [if_neg (by omega), am_gd (by omega) (by omega), Int.toNat_natCast]
    have a0 : am_tkk h 87 (3 + 4 * k + 0) 71 k = am_car h (3 + 4 * k + 0) := by rw [am_tkk_a (by omega) (by omega), am_car_1 hk (by omega)]
    refine (sp_M_carry_t87 (n := 3 + 4 * k + 0) (by omega) a0).trans ?_
    have b0 : am_up (am_tkk h 87 (3 + 4 * k + 0 + 1)) 71 k (am_tkk h 87 (3 + 4 * k + 0) 71 k) = am_tkk h 87 (3 + 4 * k + 0 + 1) := am_up_id (by rw [am_tkk_a (by omega) (by omega), am_tkk_a (by omega) (by omega)])
    refine (bq_M_carryAll_v3_74 hd).trans ?_
    rw [am_gd (by omega) (by omega), Int.toNat_natCast]
    rw [am_gd (by omega) (by omega)]
    rw [b0]
    have a1 : am_tkk h 87 (3 + 4 * k + 1) 72 k = am_car h (3 + 4 * k + 1) := by rw [am_tkk_a (by omega) (by omega), am_car_1 hk (by omega)]
    refine (sp_M_carry_t87 (n := 3 + 4 * k + 1) (by omega) a1).trans ?_
    have b1 : am_up (am_tkk h 87 (3 + 4 * k + 1 + 1)) 72 k (am_tkk h 87 (3 + 4 * k + 1) 72 k) = am_tkk h 87 (3 + 4 * k + 1 + 1) := am_up_id (by rw [am_tkk_a (by omega) (by omega), am_tkk_a (by omega) (by omega)])
    refine (bq_M_carryAll_v3_90 hd).trans ?_
    rw [am_gd (by omega) (by omega), Int.toNat_natCast]
    rw [am_gd (by omega) (by omega)]
    rw [b1]
    have a2 : am_tkk h 87 (3 + 4 * k + 2) 73 k = am_car h (3 + 4 * k + 2) := by rw [am_tkk_a (by omega) (by omega), am_car_1 hk (by omega)]
    refine (sp_M_carry_t87 (n := 3 + 4 * k + 2) (by omega) a2).trans ?_
    have b2 : am_up (am_tkk h 87 (3 + 4 * k + 2 + 1)) 73 k (am_tkk h 87 (3 + 4 * k + 2) 73 k) = am_tkk h 87 (3 + 4 * k + 2 + 1) := am_up_id (by rw [am_tkk_a (by omega) (by omega), am_tkk_a (by omega) (by omega)])
    refine (bq_M_carryAll_v3_106 hd).trans ?_
    rw [am_gd (by omega) (by omega), Int.toNat_natCast]
    rw [am_gd (by omega) (by omega)]
    rw [b2]
    have a3 : am_tkk h 87 (3 + 4 * k + 3) 74 k = am_car h (3 + 4 * k + 3) := by rw [am_tkk_a (by omega) (by omega), am_car_1 hk (by omega)]
    refine (sp_M_carry_t87 (n := 3 + 4 * k + 3) (by omega) a3).trans ?_
    have b3 : am_up (am_tkk h 87 (3 + 4 * k + 3 + 1)) 74 k (am_tkk h 87 (3 + 4 * k + 3) 74 k) = am_tkk h 87 (3 + 4 * k + 3 + 1) := am_up_id (by rw [am_tkk_a (by omega) (by omega), am_tkk_a (by omega) (by omega)])
    refine (bq_M_carryAll_v3_122).trans ?_
    rw [am_gd (by omega) (by omega), Int.toNat_natCast]
    rw [b3]
    rw [am_incn (by omega)]
    rfl
  · show am_Wp d 198 53 [some (Sum.inr (Sum.inr 70)), j1, j2, some (Sum.inl ((7 : Nat) : Int))] [] (am_SH L, am_tkk h 87 (3 + 4 * 7), am_RR 88) Q = _
    refine (bq_M_carryAll_v3_53 hd).trans ?_
    rw [if_pos (by omega)]

theorem lp_M_carryAll_t87_131 {d L : Nat} {h : Nat → Nat → Int} {Q : Option am_V → am_H → Prop} {j1 j2 : Option am_V} (hd : 1 ≤ d) : am_Wp d 198 131 [some (Sum.inr (Sum.inr 70)), j1, j2, some (Sum.inl 0)] [] (am_SH L, am_tkk h 87 (31), am_RR 88) Q = Q none (am_SH L, am_tkk h 87 (127), am_RR 88) := by
  refine am_up_eq (n := 16) (fun k => am_Wp d 198 131 [some (Sum.inr (Sum.inr 70)), j1, j2, some (Sum.inl (k : Int))] [] (am_SH L, am_tkk h 87 (31 + 6 * k), am_RR 88) Q) (Q none (am_SH L, am_tkk h 87 (127), am_RR 88)) (fun k hk => ?_) ?_
  · show am_Wp d 198 131 [some (Sum.inr (Sum.inr 70)), j1, j2, some (Sum.inl (k : Int))] [] (am_SH L, am_tkk h 87 (31 + 6 * k), am_RR 88) Q = am_Wp d 198 131 [some (Sum.inr (Sum.inr 70)), j1, j2, some (Sum.inl ((k + 1 : Nat) : Int))] [] (am_SH L, am_tkk h 87 (31 + 6 * (k + 1)), am_RR 88) Q
    refine (bq_M_carryAll_v3_131 hd).trans ?_
    rw [if_neg (by omega), am_gd (by omega) (by omega), Int.toNat_natCast]
    have a0 : am_tkk h 87 (31 + 6 * k + 0) 75 k = am_car h (31 + 6 * k + 0) := by rw [am_tkk_a (by omega) (by omega), am_car_2 (by omega)]
    refine (sp_M_carry_t87 (n := 31 + 6 * k + 0) (by omega) a0).trans ?_
    have b0 : am_up (am_tkk h 87 (31 + 6 * k + 0 + 1)) 75 k (am_tkk h 87 (31 + 6 * k + 0) 75 k) = am_tkk h 87 (31 + 6 * k + 0 + 1) := am_up_id (by rw [am_tkk_a (by omega) (by omega), am_tkk_a (by omega) (by omega)])
    refine (bq_M_carryAll_v3_152 hd).trans ?_
    rw [am_gd (by omega) (by omega), Int.toNat_natCast]
    rw [am_gd (by omega) (by omega)]
    rw [b0]
    have a1 : am_tkk h 87 (31 + 6 * k + 1) 76 k = am_car h (31 + 6 * k + 1) := by rw [am_tkk_a (by omega) (by omega), am_car_2 (by omega)]
    refine (sp_M_carry_t87 (n := 31 + 6 * k + 1) (by omega) a1).trans ?_
    have b1 : am_up (am_tkk h 87 (31 + 6 * k + 1 + 1)) 76 k (am_tkk h 87 (31 + 6 * k + 1) 76 k) = am_tkk h 87 (31 + 6 * k + 1 + 1) := am_up_id (by rw [am_tkk_a (by omega) (by omega), am_tkk_a (by omega) (by omega)])
    refine (bq_M_carryAll_v3_168 hd).trans ?_
    rw [am_gd (by omega) (by omega), Int.toNat_natCast]
    rw [am_gd (by omega) (by omega)]
    rw [b1]
    have a2 : am_tkk h 87 (31 + 6 * k + 2) 77 k = am_car h (31 + 6 * k + 2) := by rw [am_tkk_a (by omega) (by omega), am_car_2 (by omega)]
    refine (sp_M_carry_t87 (n := 31 + 6 * k + 2) (by omega) a2).trans ?_
    have b2 : am_up (am_tkk h 87 (31 + 6 * k + 2 + 1)) 77 k (am_tkk h 87 (31 + 6 * k + 2) 77 k) = am_tkk h 87 (31 + 6 * k + 2 + 1) := am_up_id (by rw [am_tkk_a (by omega) (by omega), am_tkk_a (by omega) (by omega)])
    refine (bq_M_carryAll_v3_184 hd).trans ?_
    rw [am_gd (by omega) (by omega), Int.toNat_natCast]
    rw [am_gd (by omega) (by omega)]
    rw [b2]
    have a3 : am_tkk h 87 (31 + 6 * k + 3) 78 k = am_car h (31 + 6 * k + 3) := by rw [am_tkk_a (by omega) (by omega), am_car_2 (by omega)]
    refine (sp_M_carry_t87 (n := 31 + 6 * k + 3) (by omega) a3).trans ?_
    have b3 : am_up (am_tkk h 87 (31 + 6 * k + 3 + 1)) 78 k (am_tkk h 87 (31 + 6 * k + 3) 78 k) = am_tkk h 87 (31 + 6 * k + 3 + 1) := am_up_id (by rw [am_tkk_a (by omega) (by omega), am_tkk_a (by omega) (by omega)])
    refine (bq_M_carryAll_v3_200 hd).trans ?_
    rw [am_gd (by omega) (by omega), Int.toNat_natCast]
    rw [am_gd (by omega) (by omega)]
    rw [b3]
    have a4 : am_tkk h 87 (31 + 6 * k + 4) 79 k = am_car h (31 + 6 * k + 4) := by rw [am_tkk_a (by omega) (by omega), am_car_2 (by omega)]
    refine (sp_M_carry_t87 (n := 31 + 6 * k + 4) (by omega) a4).trans ?_
    have b4 : am_up (am_tkk h 87 (31 + 6 * k + 4 + 1)) 79 k (am_tkk h 87 (31 + 6 * k + 4) 79 k) = am_tkk h 87 (31 + 6 * k + 4 + 1) := am_up_id (by rw [am_tkk_a (by omega) (by omega), am_tkk_a (by omega) (by omega)])
    refine (bq_M_carryAll_v3_216 hd).trans ?_
    rw [am_gd (by omega) (by omega), Int.toNat_natCast]
    rw [am_gd (by omega) (by omega)]
    rw [b4]
    have a5 : am_tkk h 87 (31 + 6 * k + 5) 80 k = am_car h (31 + 6 * k + 5) := by rw [am_tkk_a (by omega) (by omega), am_car_2 (by omega)]
    refine (sp_M_carry_t87 (n := 31 + 6 * k + 5) (by omega) a5).trans ?_
    have b5 : am_up (am_tkk h 87 (31 + 6 * k + 5 + 1)) 80 k (am_tkk h 87 (31 + 6 * k + 5) 80 k) = am_tkk h 87 (31 + 6 * k + 5 + 1) := am_up_id (by rw [am_tkk_a (by omega) (by omega), am_tkk_a (by omega) (by omega)])
    refine (bq_M_carryAll_v3_232).trans ?_
    rw [am_gd (by omega) (by omega), Int.toNat_natCast]
    rw [b5]
    rw [am_incn (by omega)]
    rfl
  · show am_Wp d 198 131 [some (Sum.inr (Sum.inr 70)), j1, j2, some (Sum.inl ((16 : Nat) : Int))] [] (am_SH L, am_tkk h 87 (31 + 6 * 16), am_RR 88) Q = _
    refine (bq_M_carryAll_v3_131 hd).trans ?_
    rw [if_pos (by omega)]

theorem sp_M_carryAll_t87 {d L kp : Nat} {h : Nat → Nat → Int} {Q : Option am_V → am_H → Prop} (hd : 1 ≤ d) : am_Wp d 198 0 [some (Sum.inr (Sum.inr 70)), some (Sum.inr (Sum.inr 87)), some (Sum.inl 1), none] [] (am_SH L, h, am_RR kp) Q = Q none (am_SH L, am_tkk h 87 (127), am_RR 88) := by
  rw [bq_M_carryAll_v3_0 hd, am_tkk_0 (a := 87) (by omega)]
  refine Eq.trans (propext ⟨fun w => w.2, fun w => ⟨by omega, w⟩⟩) ?_
  have a0 : am_tkk h 87 (0) 70 0 = am_car h 0 := rfl
  refine (sp_M_carry_t87 (n := 0) (by omega) a0).trans ?_
  have b0 : am_up (am_tkk h 87 (1)) 70 0 (am_tkk h 87 (0) 70 0) = am_tkk h 87 (1) := am_up_id rfl
  refine (bq_M_carryAll_v3_24 hd).trans ?_
  rw [b0]
  have a1 : am_tkk h 87 (1) 70 5 = am_car h 1 := rfl
  refine (sp_M_carry_t87 (n := 1) (by omega) a1).trans ?_
  have b1 : am_up (am_tkk h 87 (2)) 70 5 (am_tkk h 87 (1) 70 5) = am_tkk h 87 (2) := am_up_id rfl
  refine (bq_M_carryAll_v3_36 hd).trans ?_
  rw [b1]
  have a2 : am_tkk h 87 (2) 70 6 = am_car h 2 := rfl
  refine (sp_M_carry_t87 (n := 2) (by omega) a2).trans ?_
  have b2 : am_up (am_tkk h 87 (3)) 70 6 (am_tkk h 87 (2) 70 6) = am_tkk h 87 (3) := am_up_id rfl
  refine (bq_M_carryAll_v3_48).trans ?_
  rw [b2]
  exact (lp_M_carryAll_t87_53 hd).trans (lp_M_carryAll_t87_131 hd)

theorem lp_M_carryAll_p87_53 {d L : Nat} {h : Nat → Nat → Int} {Q : Option am_V → am_H → Prop} {j1 j2 : Option am_V} (hd : 1 ≤ d) : am_Wp d 198 53 [some (Sum.inr (Sum.inr 70)), j1, j2, some (Sum.inl 0)] [] (am_SH L, am_puk h 87 (3), am_RR 88) Q = am_Wp d 198 131 [some (Sum.inr (Sum.inr 70)), j1, j2, some (Sum.inl 0)] [] (am_SH L, am_puk h 87 (31), am_RR 88) Q := by
  refine am_up_eq (n := 7) (fun k => am_Wp d 198 53 [some (Sum.inr (Sum.inr 70)), j1, j2, some (Sum.inl (k : Int))] [] (am_SH L, am_puk h 87 (3 + 4 * k), am_RR 88) Q) (am_Wp d 198 131 [some (Sum.inr (Sum.inr 70)), j1, j2, some (Sum.inl 0)] [] (am_SH L, am_puk h 87 (31), am_RR 88) Q) (fun k hk => ?_) ?_
  · show am_Wp d 198 53 [some (Sum.inr (Sum.inr 70)), j1, j2, some (Sum.inl (k : Int))] [] (am_SH L, am_puk h 87 (3 + 4 * k), am_RR 88) Q = am_Wp d 198 53 [some (Sum.inr (Sum.inr 70)), j1, j2, some (Sum.inl ((k + 1 : Nat) : Int))] [] (am_SH L, am_puk h 87 (3 + 4 * (k + 1)), am_RR 88) Q
    refine (bq_M_carryAll_v3_53 hd).trans ?_
    rw [if_neg (by omega), am_gd (by omega) (by omega), Int.toNat_natCast]
    refine (sp_M_carry_p87 (n := 3 + 4 * k + 0) (by omega)).trans ?_
    have b0 : am_up (am_up (am_puk h 87 (3 + 4 * k + 0)) 70 26 ((3 + 4 * k + 0 + 1 : Nat) : Int)) 71 k (h 87 (3 + 4 * k + 0)) = am_puk h 87 (3 + 4 * k + 0 + 1) := am_puk_s (by omega) (by unfold am_ix; simp only [show ¬ (71 = 70) by omega, show ¬ (71 < 71) by omega, if_false, show 71 < 75 by omega, if_true]; rw [if_pos (by omega)])
    refine (bq_M_carryAll_v3_74 hd).trans ?_
    rw [am_gd (by omega) (by omega), Int.toNat_natCast]
    rw [am_gd (by omega) (by omega)]
    rw [b0]
    refine (sp_M_carry_p87 (n := 3 + 4 * k + 1) (by omega)).trans ?_
    have b1 : am_up (am_up (am_puk h 87 (3 + 4 * k + 1)) 70 26 ((3 + 4 * k + 1 + 1 : Nat) : Int)) 72 k (h 87 (3 + 4 * k + 1)) = am_puk h 87 (3 + 4 * k + 1 + 1) := am_puk_s (by omega) (by unfold am_ix; simp only [show ¬ (72 = 70) by omega, show ¬ (72 < 71) by omega, if_false, show 72 < 75 by omega, if_true]; rw [if_pos (by omega)])
    refine (bq_M_carryAll_v3_90 hd).trans ?_
    rw [am_gd (by omega) (by omega), Int.toNat_natCast]
    rw [am_gd (by omega) (by omega)]
    rw [b1]
    refine (sp_M_carry_p87 (n := 3 + 4 * k + 2) (by omega)).trans ?_
    have b2 : am_up (am_up (am_puk h 87 (3 + 4 * k + 2)) 70 26 ((3 + 4 * k + 2 + 1 : Nat) : Int)) 73 k (h 87 (3 + 4 * k + 2)) = am_puk h 87 (3 + 4 * k + 2 + 1) := am_puk_s (by omega) (by unfold am_ix; simp only [show ¬ (73 = 70) by omega, show ¬ (73 < 71) by omega, if_false, show 73 < 75 by omega, if_true]; rw [if_pos (by omega)])
    refine (bq_M_carryAll_v3_106 hd).trans ?_
    rw [am_gd (by omega) (by omega), Int.toNat_natCast]
    rw [am_gd (by omega) (by omega)]
    rw [b2]
    refine (sp_M_carry_p87 (n := 3 + 4 * k + 3) (by omega)).trans ?_
    have b3 : am_up (am_up (am_puk h 87 (3 + 4 * k + 3)) 70 26 ((3 + 4 * k + 3 + 1 : Nat) : Int)) 74 k (h 87 (3 + 4 * k + 3)) = am_puk h 87 (3 + 4 * k + 3 + 1) := am_puk_s (by omega) (by unfold am_ix; simp only [show ¬ (74 = 70) by omega, show ¬ (74 < 71) by omega, if_false, show 74 < 75 by omega, if_true]; rw [if_pos (by omega)])
    refine (bq_M_carryAll_v3_122).trans ?_
    rw [am_gd (by omega) (by omega), Int.toNat_natCast]
    rw [b3]
    rw [am_incn (by omega)]
    rfl
  · show am_Wp d 198 53 [some (Sum.inr (Sum.inr 70)), j1, j2, some (Sum.inl ((7 : Nat) : Int))] [] (am_SH L, am_puk h 87 (3 + 4 * 7), am_RR 88) Q = _
    refine (bq_M_carryAll_v3_53 hd).trans ?_
    rw [if_pos (by omega)]

theorem lp_M_carryAll_p87_131 {d L : Nat} {h : Nat → Nat → Int} {Q : Option am_V → am_H → Prop} {j1 j2 : Option am_V} (hd : 1 ≤ d) : am_Wp d 198 131 [some (Sum.inr (Sum.inr 70)), j1, j2, some (Sum.inl 0)] [] (am_SH L, am_puk h 87 (31), am_RR 88) Q = Q none (am_SH L, am_puk h 87 (127), am_RR 88) := by
  refine am_up_eq (n := 16) (fun k => am_Wp d 198 131 [some (Sum.inr (Sum.inr 70)), j1, j2, some (Sum.inl (k : Int))] [] (am_SH L, am_puk h 87 (31 + 6 * k), am_RR 88) Q) (Q none (am_SH L, am_puk h 87 (127), am_RR 88)) (fun k hk => ?_) ?_
  · show am_Wp d 198 131 [some (Sum.inr (Sum.inr 70)), j1, j2, some (Sum.inl (k : Int))] [] (am_SH L, am_puk h 87 (31 + 6 * k), am_RR 88) Q = am_Wp d 198 131 [some (Sum.inr (Sum.inr 70)), j1, j2, some (Sum.inl ((k + 1 : Nat) : Int))] [] (am_SH L, am_puk h 87 (31 + 6 * (k + 1)), am_RR 88) Q
    refine (bq_M_carryAll_v3_131 hd).trans ?_
    rw [if_neg (by omega), am_gd (by omega) (by omega), Int.toNat_natCast]
    refine (sp_M_carry_p87 (n := 31 + 6 * k + 0) (by omega)).trans ?_
    have b0 : am_up (am_up (am_puk h 87 (31 + 6 * k + 0)) 70 26 ((31 + 6 * k + 0 + 1 : Nat) : Int)) 75 k (h 87 (31 + 6 * k + 0)) = am_puk h 87 (31 + 6 * k + 0 + 1) := am_puk_s (by omega) (by unfold am_ix; simp only [show ¬ (75 = 70) by omega, show ¬ (75 < 71) by omega, if_false, show ¬ (75 < 75) by omega, show 75 < 81 by omega, if_false, if_true]; rw [if_pos (by omega)])
    refine (bq_M_carryAll_v3_152 hd).trans ?_
    rw [am_gd (by omega) (by omega), Int.toNat_natCast]
    rw [am_gd (by omega) (by omega)]
    rw [b0]
    refine (sp_M_carry_p87 (n := 31 + 6 * k + 1) (by omega)).trans ?_
    have b1 : am_up (am_up (am_puk h 87 (31 + 6 * k + 1)) 70 26 ((31 + 6 * k + 1 + 1 : Nat) : Int)) 76 k (h 87 (31 + 6 * k + 1)) = am_puk h 87 (31 + 6 * k + 1 + 1) := am_puk_s (by omega) (by unfold am_ix; simp only [show ¬ (76 = 70) by omega, show ¬ (76 < 71) by omega, if_false, show ¬ (76 < 75) by omega, show 76 < 81 by omega, if_false, if_true]; rw [if_pos (by omega)])
    refine (bq_M_carryAll_v3_168 hd).trans ?_
    rw [am_gd (by omega) (by omega), Int.toNat_natCast]
    rw [am_gd (by omega) (by omega)]
    rw [b1]
    refine (sp_M_carry_p87 (n := 31 + 6 * k + 2) (by omega)).trans ?_
    have b2 : am_up (am_up (am_puk h 87 (31 + 6 * k + 2)) 70 26 ((31 + 6 * k + 2 + 1 : Nat) : Int)) 77 k (h 87 (31 + 6 * k + 2)) = am_puk h 87 (31 + 6 * k + 2 + 1) := am_puk_s (by omega) (by unfold am_ix; simp only [show ¬ (77 = 70) by omega, show ¬ (77 < 71) by omega, if_false, show ¬ (77 < 75) by omega, show 77 < 81 by omega, if_false, if_true]; rw [if_pos (by omega)])
    refine (bq_M_carryAll_v3_184 hd).trans ?_
    rw [am_gd (by omega) (by omega), Int.toNat_natCast]
    rw [am_gd (by omega) (by omega)]
    rw [b2]
    refine (sp_M_carry_p87 (n := 31 + 6 * k + 3) (by omega)).trans ?_
    have b3 : am_up (am_up (am_puk h 87 (31 + 6 * k + 3)) 70 26 ((31 + 6 * k + 3 + 1 : Nat) : Int)) 78 k (h 87 (31 + 6 * k + 3)) = am_puk h 87 (31 + 6 * k + 3 + 1) := am_puk_s (by omega) (by unfold am_ix; simp only [show ¬ (78 = 70) by omega, show ¬ (78 < 71) by omega, if_false, show ¬ (78 < 75) by omega, show 78 < 81 by omega, if_false, if_true]; rw [if_pos (by omega)])
    refine (bq_M_carryAll_v3_200 hd).trans ?_
    rw [am_gd (by omega) (by omega), Int.toNat_natCast]
    rw [am_gd (by omega) (by omega)]
    rw [b3]
    refine (sp_M_carry_p87 (n := 31 + 6 * k + 4) (by omega)).trans ?_
    have b4 : am_up (am_up (am_puk h 87 (31 + 6 * k + 4)) 70 26 ((31 + 6 * k + 4 + 1 : Nat) : Int)) 79 k (h 87 (31 + 6 * k + 4)) = am_puk h 87 (31 + 6 * k + 4 + 1) := am_puk_s (by omega) (by unfold am_ix; simp only [show ¬ (79 = 70) by omega, show ¬ (79 < 71) by omega, if_false, show ¬ (79 < 75) by omega, show 79 < 81 by omega, if_false, if_true]; rw [if_pos (by omega)])
    refine (bq_M_carryAll_v3_216 hd).trans ?_
    rw [am_gd (by omega) (by omega), Int.toNat_natCast]
    rw [am_gd (by omega) (by omega)]
    rw [b4]
    refine (sp_M_carry_p87 (n := 31 + 6 * k + 5) (by omega)).trans ?_
    have b5 : am_up (am_up (am_puk h 87 (31 + 6 * k + 5)) 70 26 ((31 + 6 * k + 5 + 1 : Nat) : Int)) 80 k (h 87 (31 + 6 * k + 5)) = am_puk h 87 (31 + 6 * k + 5 + 1) := am_puk_s (by omega) (by unfold am_ix; simp only [show ¬ (80 = 70) by omega, show ¬ (80 < 71) by omega, if_false, show ¬ (80 < 75) by omega, show 80 < 81 by omega, if_false, if_true]; rw [if_pos (by omega)])
    refine (bq_M_carryAll_v3_232).trans ?_
    rw [am_gd (by omega) (by omega), Int.toNat_natCast]
    rw [b5]
    rw [am_incn (by omega)]
    rfl
  · show am_Wp d 198 131 [some (Sum.inr (Sum.inr 70)), j1, j2, some (Sum.inl ((16 : Nat) : Int))] [] (am_SH L, am_puk h 87 (31 + 6 * 16), am_RR 88) Q = _
    refine (bq_M_carryAll_v3_131 hd).trans ?_
    rw [if_pos (by omega)]

theorem sp_M_carryAll_p87 {d L kp : Nat} {h : Nat → Nat → Int} {Q : Option am_V → am_H → Prop} (hd : 1 ≤ d) : am_Wp d 198 0 [some (Sum.inr (Sum.inr 70)), some (Sum.inr (Sum.inr 87)), some (Sum.inl 0), none] [] (am_SH L, h, am_RR kp) Q = Q none (am_SH L, am_puk h 87 (127), am_RR 88) := by
  rw [bq_M_carryAll_v3_0 hd, am_puk_0 (a := 87)]
  refine Eq.trans (propext ⟨fun w => w.2, fun w => ⟨by omega, w⟩⟩) ?_
  refine (sp_M_carry_p87 (n := 0) (by omega)).trans ?_
  have b0 : am_up (am_up (am_puk h 87 (0)) 70 26 ((0 + 1 : Nat) : Int)) 70 0 (h 87 0) = am_puk h 87 (1) := am_puk_s (by omega) rfl
  refine (bq_M_carryAll_v3_24 hd).trans ?_
  rw [b0]
  refine (sp_M_carry_p87 (n := 1) (by omega)).trans ?_
  have b1 : am_up (am_up (am_puk h 87 (1)) 70 26 ((1 + 1 : Nat) : Int)) 70 5 (h 87 1) = am_puk h 87 (2) := am_puk_s (by omega) rfl
  refine (bq_M_carryAll_v3_36 hd).trans ?_
  rw [b1]
  refine (sp_M_carry_p87 (n := 2) (by omega)).trans ?_
  have b2 : am_up (am_up (am_puk h 87 (2)) 70 26 ((2 + 1 : Nat) : Int)) 70 6 (h 87 2) = am_puk h 87 (3) := am_puk_s (by omega) rfl
  refine (bq_M_carryAll_v3_48).trans ?_
  rw [b2]
  exact (lp_M_carryAll_p87_53 hd).trans (lp_M_carryAll_p87_131 hd)
