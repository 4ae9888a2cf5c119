/-! COPIES OF A WORLD; image, restore -/
theorem v_o_eq {n : Nat} {f g : Nat → Int} (hf : v_o n f) (hg : v_o n g) : (fun j => if j < n then f j else g j) = f := by
  funext j
  by_cases hj : j < n
  · rw [if_pos hj]
  · rw [if_neg hj, hf j (by omega), hg j (by omega)]
def am_cw_13_2 (h : Nat → Nat → Int) : Nat → Nat → Int := (am_cpy (am_cpy (am_cpy (am_cpy (am_cpy (am_cpy (am_cpy (am_cpy (am_cpy (am_cpy (am_up (am_up (am_up h 13 0 (h 2 0)) 13 1 ((am_up h 13 0 (h 2 0)) 2 1)) 13 2 ((am_up (am_up h 13 0 (h 2 0)) 13 1 ((am_up h 13 0 (h 2 0)) 2 1)) 2 2)) 3 14 7) 4 15 7) 5 16 7) 6 17 7) 7 18 16) 8 19 16) 9 20 16) 10 21 16) 11 22 16) 12 23 16)
theorem sp_World_copyFrom_13_2 {d L kp : Nat} {h : Nat → Nat → Int} {Q : Option am_V → am_H → Prop} (hd : 1 ≤ d) : am_Wp d 23 0 [some (Sum.inr (Sum.inr 13)), some (Sum.inr (Sum.inr 2))] [] (am_SH L, h, am_RR kp) Q = Q none (am_SH L, am_cw_13_2 h, am_RR kp) := by
  rw [bq_World_copyFrom_0 (by omega)]
  rw [sp_copy_3_14]
  simp only [Option.toList_some, Option.toList_none, List.cons_append, List.nil_append]
  rw [bq_World_copyFrom_40 (by omega)]
  rw [sp_copy_4_15]
  simp only [Option.toList_some, Option.toList_none, List.cons_append, List.nil_append]
  rw [bq_World_copyFrom_51 (by omega)]
  rw [sp_copy_5_16]
  simp only [Option.toList_some, Option.toList_none, List.cons_append, List.nil_append]
  rw [bq_World_copyFrom_62 (by omega)]
  rw [sp_copy_6_17]
  simp only [Option.toList_some, Option.toList_none, List.cons_append, List.nil_append]
  rw [bq_World_copyFrom_73 (by omega)]
  rw [sp_copy_7_18]
  simp only [Option.toList_some, Option.toList_none, List.cons_append, List.nil_append]
  rw [bq_World_copyFrom_84 (by omega)]
  rw [sp_copy_8_19]
  simp only [Option.toList_some, Option.toList_none, List.cons_append, List.nil_append]
  rw [bq_World_copyFrom_95 (by omega)]
  rw [sp_copy_9_20]
  simp only [Option.toList_some, Option.toList_none, List.cons_append, List.nil_append]
  rw [bq_World_copyFrom_106 (by omega)]
  rw [sp_copy_10_21]
  simp only [Option.toList_some, Option.toList_none, List.cons_append, List.nil_append]
  rw [bq_World_copyFrom_117 (by omega)]
  rw [sp_copy_11_22]
  simp only [Option.toList_some, Option.toList_none, List.cons_append, List.nil_append]
  rw [bq_World_copyFrom_128 (by omega)]
  rw [sp_copy_12_23]
  simp only [Option.toList_some, Option.toList_none, List.cons_append, List.nil_append]
  rw [bq_World_copyFrom_139]
  rfl
theorem am_cw_13_2_o {h : Nat → Nat → Int} {c j : Nat} (hc : ¬ (13 ≤ c ∧ c ≤ 23)) : am_cw_13_2 h c j = h c j := by
  unfold am_cw_13_2
  simp only [am_cpy, am_up]
  rw [if_neg (by omega), if_neg (by omega), if_neg (by omega), if_neg (by omega), if_neg (by omega), if_neg (by omega), if_neg (by omega), if_neg (by omega), if_neg (by omega), if_neg (by omega), if_neg (by omega), if_neg (by omega), if_neg (by omega)]
theorem am_cw_13_2_w {h : Nat → Nat → Int} (ha : v_z (am_wv h 2)) (hb : v_z (am_wv h 13)) : am_wv (am_cw_13_2 h) 13 = am_wv h 2 := by
  obtain ⟨⟨z0, z1, z2, z3⟩, y0, y1, y2, y3, y4, y5⟩ := ha
  obtain ⟨⟨u0, u1, u2, u3⟩, w0, w1, w2, w3, w4, w5⟩ := hb
  show ((_, _, _), (fun j => if j < 7 then h 3 j else h 14 j), (fun j => if j < 7 then h 4 j else h 15 j), (fun j => if j < 7 then h 5 j else h 16 j), (fun j => if j < 7 then h 6 j else h 17 j), (fun j => if j < 16 then h 7 j else h 18 j), (fun j => if j < 16 then h 8 j else h 19 j), (fun j => if j < 16 then h 9 j else h 20 j), (fun j => if j < 16 then h 10 j else h 21 j), (fun j => if j < 16 then h 11 j else h 22 j), (fun j => if j < 16 then h 12 j else h 23 j)) = _
  rw [v_o_eq z0 u0, v_o_eq z1 u1, v_o_eq z2 u2, v_o_eq z3 u3, v_o_eq y0 w0, v_o_eq y1 w1, v_o_eq y2 w2, v_o_eq y3 w3, v_o_eq y4 w4, v_o_eq y5 w5]
  rfl
def am_cw_2_13 (h : Nat → Nat → Int) : Nat → Nat → Int := (am_cpy (am_cpy (am_cpy (am_cpy (am_cpy (am_cpy (am_cpy (am_cpy (am_cpy (am_cpy (am_up (am_up (am_up h 2 0 (h 13 0)) 2 1 ((am_up h 2 0 (h 13 0)) 13 1)) 2 2 ((am_up (am_up h 2 0 (h 13 0)) 2 1 ((am_up h 2 0 (h 13 0)) 13 1)) 13 2)) 14 3 7) 15 4 7) 16 5 7) 17 6 7) 18 7 16) 19 8 16) 20 9 16) 21 10 16) 22 11 16) 23 12 16)
theorem sp_World_copyFrom_2_13 {d L kp : Nat} {h : Nat → Nat → Int} {Q : Option am_V → am_H → Prop} (hd : 1 ≤ d) : am_Wp d 23 0 [some (Sum.inr (Sum.inr 2)), some (Sum.inr (Sum.inr 13))] [] (am_SH L, h, am_RR kp) Q = Q none (am_SH L, am_cw_2_13 h, am_RR kp) := by
  rw [bq_World_copyFrom_v2_0 (by omega)]
  rw [sp_copy_14_3]
  simp only [Option.toList_some, Option.toList_none, List.cons_append, List.nil_append]
  rw [bq_World_copyFrom_v2_40 (by omega)]
  rw [sp_copy_15_4]
  simp only [Option.toList_some, Option.toList_none, List.cons_append, List.nil_append]
  rw [bq_World_copyFrom_v2_51 (by omega)]
  rw [sp_copy_16_5]
  simp only [Option.toList_some, Option.toList_none, List.cons_append, List.nil_append]
  rw [bq_World_copyFrom_v2_62 (by omega)]
  rw [sp_copy_17_6]
  simp only [Option.toList_some, Option.toList_none, List.cons_append, List.nil_append]
  rw [bq_World_copyFrom_v2_73 (by omega)]
  rw [sp_copy_18_7]
  simp only [Option.toList_some, Option.toList_none, List.cons_append, List.nil_append]
  rw [bq_World_copyFrom_v2_84 (by omega)]
  rw [sp_copy_19_8]
  simp only [Option.toList_some, Option.toList_none, List.cons_append, List.nil_append]
  rw [bq_World_copyFrom_v2_95 (by omega)]
  rw [sp_copy_20_9]
  simp only [Option.toList_some, Option.toList_none, List.cons_append, List.nil_append]
  rw [bq_World_copyFrom_v2_106 (by omega)]
  rw [sp_copy_21_10]
  simp only [Option.toList_some, Option.toList_none, List.cons_append, List.nil_append]
  rw [bq_World_copyFrom_v2_117 (by omega)]
  rw [sp_copy_22_11]
  simp only [Option.toList_some, Option.toList_none, List.cons_append, List.nil_append]
  rw [bq_World_copyFrom_v2_128 (by omega)]
  rw [sp_copy_23_12]
  simp only [Option.toList_some, Option.toList_none, List.cons_append, List.nil_append]
  rw [bq_World_copyFrom_v2_139]
  rfl
theorem am_cw_2_13_o {h : Nat → Nat → Int} {c j : Nat} (hc : ¬ (2 ≤ c ∧ c ≤ 12)) : am_cw_2_13 h c j = h c j := by
  unfold am_cw_2_13
  simp only [am_cpy, am_up]
  rw [if_neg (by omega), if_neg (by omega), if_neg (by omega), if_neg (by omega), if_neg (by omega), if_neg (by omega), if_neg (by omega), if_neg (by omega), if_neg (by omega), if_neg (by omega), if_neg (by omega), if_neg (by omega), if_neg (by omega)]
theorem am_cw_2_13_w {h : Nat → Nat → Int} (ha : v_z (am_wv h 13)) (hb : v_z (am_wv h 2)) : am_wv (am_cw_2_13 h) 2 = am_wv h 13 := by
  obtain ⟨⟨z0, z1, z2, z3⟩, y0, y1, y2, y3, y4, y5⟩ := ha
  obtain ⟨⟨u0, u1, u2, u3⟩, w0, w1, w2, w3, w4, w5⟩ := hb
  show ((_, _, _), (fun j => if j < 7 then h 14 j else h 3 j), (fun j => if j < 7 then h 15 j else h 4 j), (fun j => if j < 7 then h 16 j else h 5 j), (fun j => if j < 7 then h 17 j else h 6 j), (fun j => if j < 16 then h 18 j else h 7 j), (fun j => if j < 16 then h 19 j else h 8 j), (fun j => if j < 16 then h 20 j else h 9 j), (fun j => if j < 16 then h 21 j else h 10 j), (fun j => if j < 16 then h 22 j else h 11 j), (fun j => if j < 16 then h 23 j else h 12 j)) = _
  rw [v_o_eq z0 u0, v_o_eq z1 u1, v_o_eq z2 u2, v_o_eq z3 u3, v_o_eq y0 w0, v_o_eq y1 w1, v_o_eq y2 w2, v_o_eq y3 w3, v_o_eq y4 w4, v_o_eq y5 w5]
  rfl
def am_cw_29_2 (h : Nat → Nat → Int) : Nat → Nat → Int := (am_cpy (am_cpy (am_cpy (am_cpy (am_cpy (am_cpy (am_cpy (am_cpy (am_cpy (am_cpy (am_up (am_up (am_up h 29 0 (h 2 0)) 29 1 ((am_up h 29 0 (h 2 0)) 2 1)) 29 2 ((am_up (am_up h 29 0 (h 2 0)) 29 1 ((am_up h 29 0 (h 2 0)) 2 1)) 2 2)) 3 30 7) 4 31 7) 5 32 7) 6 33 7) 7 34 16) 8 35 16) 9 36 16) 10 37 16) 11 38 16) 12 39 16)
theorem sp_World_copyFrom_29_2 {d L kp : Nat} {h : Nat → Nat → Int} {Q : Option am_V → am_H → Prop} (hd : 1 ≤ d) : am_Wp d 23 0 [some (Sum.inr (Sum.inr 29)), some (Sum.inr (Sum.inr 2))] [] (am_SH L, h, am_RR kp) Q = Q none (am_SH L, am_cw_29_2 h, am_RR kp) := by
  rw [bq_World_copyFrom_v3_0 (by omega)]
  rw [sp_copy_3_30]
  simp only [Option.toList_some, Option.toList_none, List.cons_append, List.nil_append]
  rw [bq_World_copyFrom_v3_40 (by omega)]
  rw [sp_copy_4_31]
  simp only [Option.toList_some, Option.toList_none, List.cons_append, List.nil_append]
  rw [bq_World_copyFrom_v3_51 (by omega)]
  rw [sp_copy_5_32]
  simp only [Option.toList_some, Option.toList_none, List.cons_append, List.nil_append]
  rw [bq_World_copyFrom_v3_62 (by omega)]
  rw [sp_copy_6_33]
  simp only [Option.toList_some, Option.toList_none, List.cons_append, List.nil_append]
  rw [bq_World_copyFrom_v3_73 (by omega)]
  rw [sp_copy_7_34]
  simp only [Option.toList_some, Option.toList_none, List.cons_append, List.nil_append]
  rw [bq_World_copyFrom_v3_84 (by omega)]
  rw [sp_copy_8_35]
  simp only [Option.toList_some, Option.toList_none, List.cons_append, List.nil_append]
  rw [bq_World_copyFrom_v3_95 (by omega)]
  rw [sp_copy_9_36]
  simp only [Option.toList_some, Option.toList_none, List.cons_append, List.nil_append]
  rw [bq_World_copyFrom_v3_106 (by omega)]
  rw [sp_copy_10_37]
  simp only [Option.toList_some, Option.toList_none, List.cons_append, List.nil_append]
  rw [bq_World_copyFrom_v3_117 (by omega)]
  rw [sp_copy_11_38]
  simp only [Option.toList_some, Option.toList_none, List.cons_append, List.nil_append]
  rw [bq_World_copyFrom_v3_128 (by omega)]
  rw [sp_copy_12_39]
  simp only [Option.toList_some, Option.toList_none, List.cons_append, List.nil_append]
  rw [bq_World_copyFrom_v3_139]
  rfl
theorem am_cw_29_2_o {h : Nat → Nat → Int} {c j : Nat} (hc : ¬ (29 ≤ c ∧ c ≤ 39)) : am_cw_29_2 h c j = h c j := by
  unfold am_cw_29_2
  simp only [am_cpy, am_up]
  rw [if_neg (by omega), if_neg (by omega), if_neg (by omega), if_neg (by omega), if_neg (by omega), if_neg (by omega), if_neg (by omega), if_neg (by omega), if_neg (by omega), if_neg (by omega), if_neg (by omega), if_neg (by omega), if_neg (by omega)]
theorem am_cw_29_2_w {h : Nat → Nat → Int} (ha : v_z (am_wv h 2)) (hb : v_z (am_wv h 29)) : am_wv (am_cw_29_2 h) 29 = am_wv h 2 := by
  obtain ⟨⟨z0, z1, z2, z3⟩, y0, y1, y2, y3, y4, y5⟩ := ha
  obtain ⟨⟨u0, u1, u2, u3⟩, w0, w1, w2, w3, w4, w5⟩ := hb
  show ((_, _, _), (fun j => if j < 7 then h 3 j else h 30 j), (fun j => if j < 7 then h 4 j else h 31 j), (fun j => if j < 7 then h 5 j else h 32 j), (fun j => if j < 7 then h 6 j else h 33 j), (fun j => if j < 16 then h 7 j else h 34 j), (fun j => if j < 16 then h 8 j else h 35 j), (fun j => if j < 16 then h 9 j else h 36 j), (fun j => if j < 16 then h 10 j else h 37 j), (fun j => if j < 16 then h 11 j else h 38 j), (fun j => if j < 16 then h 12 j else h 39 j)) = _
  rw [v_o_eq z0 u0, v_o_eq z1 u1, v_o_eq z2 u2, v_o_eq z3 u3, v_o_eq y0 w0, v_o_eq y1 w1, v_o_eq y2 w2, v_o_eq y3 w3, v_o_eq y4 w4, v_o_eq y5 w5]
  rfl
def am_cw_2_29 (h : Nat → Nat → Int) : Nat → Nat → Int := (am_cpy (am_cpy (am_cpy (am_cpy (am_cpy (am_cpy (am_cpy (am_cpy (am_cpy (am_cpy (am_up (am_up (am_up h 2 0 (h 29 0)) 2 1 ((am_up h 2 0 (h 29 0)) 29 1)) 2 2 ((am_up (am_up h 2 0 (h 29 0)) 2 1 ((am_up h 2 0 (h 29 0)) 29 1)) 29 2)) 30 3 7) 31 4 7) 32 5 7) 33 6 7) 34 7 16) 35 8 16) 36 9 16) 37 10 16) 38 11 16) 39 12 16)
theorem sp_World_copyFrom_2_29 {d L kp : Nat} {h : Nat → Nat → Int} {Q : Option am_V → am_H → Prop} (hd : 1 ≤ d) : am_Wp d 23 0 [some (Sum.inr (Sum.inr 2)), some (Sum.inr (Sum.inr 29))] [] (am_SH L, h, am_RR kp) Q = Q none (am_SH L, am_cw_2_29 h, am_RR kp) := by
  rw [bq_World_copyFrom_v4_0 (by omega)]
  rw [sp_copy_30_3]
  simp only [Option.toList_some, Option.toList_none, List.cons_append, List.nil_append]
  rw [bq_World_copyFrom_v4_40 (by omega)]
  rw [sp_copy_31_4]
  simp only [Option.toList_some, Option.toList_none, List.cons_append, List.nil_append]
  rw [bq_World_copyFrom_v4_51 (by omega)]
  rw [sp_copy_32_5]
  simp only [Option.toList_some, Option.toList_none, List.cons_append, List.nil_append]
  rw [bq_World_copyFrom_v4_62 (by omega)]
  rw [sp_copy_33_6]
  simp only [Option.toList_some, Option.toList_none, List.cons_append, List.nil_append]
  rw [bq_World_copyFrom_v4_73 (by omega)]
  rw [sp_copy_34_7]
  simp only [Option.toList_some, Option.toList_none, List.cons_append, List.nil_append]
  rw [bq_World_copyFrom_v4_84 (by omega)]
  rw [sp_copy_35_8]
  simp only [Option.toList_some, Option.toList_none, List.cons_append, List.nil_append]
  rw [bq_World_copyFrom_v4_95 (by omega)]
  rw [sp_copy_36_9]
  simp only [Option.toList_some, Option.toList_none, List.cons_append, List.nil_append]
  rw [bq_World_copyFrom_v4_106 (by omega)]
  rw [sp_copy_37_10]
  simp only [Option.toList_some, Option.toList_none, List.cons_append, List.nil_append]
  rw [bq_World_copyFrom_v4_117 (by omega)]
  rw [sp_copy_38_11]
  simp only [Option.toList_some, Option.toList_none, List.cons_append, List.nil_append]
  rw [bq_World_copyFrom_v4_128 (by omega)]
  rw [sp_copy_39_12]
  simp only [Option.toList_some, Option.toList_none, List.cons_append, List.nil_append]
  rw [bq_World_copyFrom_v4_139]
  rfl
theorem am_cw_2_29_o {h : Nat → Nat → Int} {c j : Nat} (hc : ¬ (2 ≤ c ∧ c ≤ 12)) : am_cw_2_29 h c j = h c j := by
  unfold am_cw_2_29
  simp only [am_cpy, am_up]
  rw [if_neg (by omega), if_neg (by omega), if_neg (by omega), if_neg (by omega), if_neg (by omega), if_neg (by omega), if_neg (by omega), if_neg (by omega), if_neg (by omega), if_neg (by omega), if_neg (by omega), if_neg (by omega), if_neg (by omega)]
theorem am_cw_2_29_w {h : Nat → Nat → Int} (ha : v_z (am_wv h 29)) (hb : v_z (am_wv h 2)) : am_wv (am_cw_2_29 h) 2 = am_wv h 29 := by
  obtain ⟨⟨z0, z1, z2, z3⟩, y0, y1, y2, y3, y4, y5⟩ := ha
  obtain ⟨⟨u0, u1, u2, u3⟩, w0, w1, w2, w3, w4, w5⟩ := hb
  show ((_, _, _), (fun j => if j < 7 then h 30 j else h 3 j), (fun j => if j < 7 then h 31 j else h 4 j), (fun j => if j < 7 then h 32 j else h 5 j), (fun j => if j < 7 then h 33 j else h 6 j), (fun j => if j < 16 then h 34 j else h 7 j), (fun j => if j < 16 then h 35 j else h 8 j), (fun j => if j < 16 then h 36 j else h 9 j), (fun j => if j < 16 then h 37 j else h 10 j), (fun j => if j < 16 then h 38 j else h 11 j), (fun j => if j < 16 then h 39 j else h 12 j)) = _
  rw [v_o_eq z0 u0, v_o_eq z1 u1, v_o_eq z2 u2, v_o_eq z3 u3, v_o_eq y0 w0, v_o_eq y1 w1, v_o_eq y2 w2, v_o_eq y3 w3, v_o_eq y4 w4, v_o_eq y5 w5]
  rfl
theorem c_image {d L kp : Nat} {h : Nat → Nat → Int} (hd : 30 ≤ d) : am_Ch L (Sum.inl (h 2 2)) (am_up (am_cw_13_2 h) 1 2 1) (fun Q => am_Wp d 184 0 [some (Sum.inr (Sum.inr 1))] [] (am_SH L, h, am_RR kp) Q) := by
  intro Q hq
  show am_Wp d 184 0 [some (Sum.inr (Sum.inr 1))] [] (am_SH L, h, am_RR kp) Q
  rw [bq_KO_image_0 (by omega), sp_World_copyFrom_13_2 (by omega)]
  simp only [Option.toList_some, Option.toList_none, List.cons_append, List.nil_append]
  rw [bq_KO_image_11 (by omega), sp_World_day_2]
  simp only [Option.toList_some, Option.toList_none, List.cons_append, List.nil_append]
  rw [bq_KO_image_23]
  exact hq _ kp am_keep_r
theorem m_image {d L kp : Nat} {h : Nat → Nat → Int} (hd : 30 ≤ d) : am_Ch L (Sum.inl (h 70 5)) (am_tkk (am_up h 70 25 1) 87 127) (fun Q => am_Wp d 211 0 [some (Sum.inr (Sum.inr 70))] [] (am_SH L, h, am_RR kp) Q) := by
  intro Q hq
  show am_Wp d 211 0 [some (Sum.inr (Sum.inr 70))] [] (am_SH L, h, am_RR kp) Q
  rw [bq_M_image_0 (by omega), sp_M_carryAll_t87 (by omega)]
  simp only [Option.toList_some, Option.toList_none, List.cons_append, List.nil_append]
  rw [bq_M_image_19]
  refine hq _ _ (fun b j hr => ?_)
  by_cases hb : b = 70
  · subst hb
    by_cases h13 : j = 13
    · subst h13; cases hr
    · show (if j = 26 then _ else if j = 27 then _ else am_up (am_up h 70 13 0) 70 25 1 70 j) = (if j = 26 then _ else if j = 27 then _ else am_up h 70 25 1 70 j)
      show (if j = 26 then _ else if j = 27 then _ else if j = 25 then 1 else if j = 13 then 0 else h 70 j) = (if j = 26 then _ else if j = 27 then _ else if j = 25 then 1 else h 70 j)
      rw [if_neg h13]
  · have e : ∀ k, am_car (am_up (am_up h 70 13 0) 70 25 1) k = am_car (am_up h 70 25 1) k := fun k => by
      unfold am_car
      (repeat' split) <;> try rfl
      · unfold am_up
        rw [if_neg (by omega), if_neg (by omega), if_neg (by omega)]
      · unfold am_up
        rw [if_neg (by omega), if_neg (by omega), if_neg (by omega)]
    unfold am_tkk
    by_cases h87 : b = 87
    · rw [if_pos h87, if_pos h87, e]
      by_cases hj : j < 127
      · rw [if_pos hj, if_pos hj]
      · rw [if_neg hj, if_neg hj]
        show (if b = 70 then _ else _) = (if b = 70 then _ else _)
        rw [if_neg hb, if_neg hb]
        show (if b = 70 then _ else _) = _
        rw [if_neg hb]
    · rw [if_neg h87, if_neg h87, if_neg hb, if_neg hb]
      show (if b = 70 then _ else _) = (if b = 70 then _ else _)
      rw [if_neg hb, if_neg hb]
      show (if b = 70 then _ else _) = _
      rw [if_neg hb]
theorem sp_Past_forget {d L kp : Nat} {h : Nat → Nat → Int} {Q : Option am_V → am_H → Prop} : am_Wp d 43 0 [some (Sum.inr (Sum.inr 24))] [] (am_SH L, h, am_RR kp) Q = Q none (am_SH L, am_up h 24 3 0, am_RR kp) := by
  rw [bq_Past_forget_0]
def c_hrest (h : Nat → Nat → Int) : Nat → Nat → Int := if h 1 2 = 0 then am_bump 41 3 h else am_up (am_cw_2_13 h) 24 3 0
def m_hrest (h : Nat → Nat → Int) : Nat → Nat → Int := if h 70 25 = 0 then am_bump 81 3 h else am_up (am_puk h 87 127) 70 31 0
theorem c_restore {d L kp : Nat} {h : Nat → Nat → Int} (hd : 30 ≤ d) : am_Ch L (Sum.inl (if h 1 2 = 0 then -3 else h 13 2)) (c_hrest h) (fun Q => am_Wp d 185 0 [some (Sum.inr (Sum.inr 1))] [] (am_SH L, h, am_RR kp) Q) := by
  intro Q hq
  show am_Wp d 185 0 [some (Sum.inr (Sum.inr 1))] [] (am_SH L, h, am_RR kp) Q
  unfold c_hrest at hq
  rw [bq_KO_restore_0 (by omega)]
  by_cases q : h 1 2 = 0
  · rw [if_pos q, if_pos q] at hq
    rw [if_pos q, sp_KO_refuse (by omega) (by omega) (by omega)]
    simp only [Option.toList_some, Option.toList_none, List.cons_append, List.nil_append]
    rw [bq_KO_restore_13]
    exact hq _ kp am_keep_r
  · rw [if_neg q, if_neg q] at hq
    rw [if_neg q, sp_World_copyFrom_2_13 (by omega)]
    simp only [Option.toList_some, Option.toList_none, List.cons_append, List.nil_append]
    rw [bq_KO_restore_25 (by omega), sp_Past_forget]
    simp only [Option.toList_some, Option.toList_none, List.cons_append, List.nil_append]
    rw [bq_KO_restore_32 (by omega), sp_World_day_2]
    simp only [Option.toList_some, Option.toList_none, List.cons_append, List.nil_append]
    rw [bq_KO_restore_39]
    exact hq _ kp am_keep_r
theorem m_restore {d L kp : Nat} {h : Nat → Nat → Int} (hd : 30 ≤ d) : am_Ch L (Sum.inl (if h 70 25 = 0 then -3 else h 87 1)) (m_hrest h) (fun Q => am_Wp d 212 0 [some (Sum.inr (Sum.inr 70))] [] (am_SH L, h, am_RR kp) Q) := by
  intro Q hq
  show am_Wp d 212 0 [some (Sum.inr (Sum.inr 70))] [] (am_SH L, h, am_RR kp) Q
  unfold m_hrest at hq
  have e25 : am_up h 70 13 0 70 25 = h 70 25 := rfl
  have h81 : ∀ j, am_rel 81 j = true := fun _ => rfl
  rw [bq_M_restore_0 (by omega), e25]
  by_cases q : h 70 25 = 0
  · rw [if_pos q, if_pos q] at hq
    rw [if_pos q, sp_M_refuse (by omega) (by omega)]
    simp only [Option.toList_some, Option.toList_none, List.cons_append, List.nil_append]
    rw [bq_M_restore_18]
    exact hq _ kp (am_keep_bb h81 am_keep_70)
  · rw [if_neg q, if_neg q] at hq
    rw [if_neg q, sp_M_carryAll_p87 (by omega)]
    simp only [Option.toList_some, Option.toList_none, List.cons_append, List.nil_append]
    rw [bq_M_restore_28]
    refine hq _ _ (am_keep_upup ?_)
    intro b j hr
    unfold am_puk
    by_cases hi : am_ix b j < 127
    · rw [if_pos hi, if_pos hi]; rfl
    · rw [if_neg hi, if_neg hi]
      by_cases hb : b = 70
      · rw [if_pos hb, if_pos hb]
        subst hb
        by_cases h13 : j = 13
        · subst h13; cases hr
        · show (if j = 26 then _ else if j = 27 then _ else if j = 13 then 0 else h 70 j) = _
          rw [if_neg h13]
      · rw [if_neg hb, if_neg hb]
        show (if b = 70 then _ else _) = _
        rw [if_neg hb]