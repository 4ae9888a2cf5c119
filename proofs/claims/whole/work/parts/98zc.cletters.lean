/-! THE CLASS'S LETTERS -/
theorem am_01 {A : Prop} : (((0 : Int) = 0 ∨ (0 : Int) = 1) ∧ A) = A := propext ⟨And.right, fun w => ⟨Or.inl rfl, w⟩⟩
theorem am_11 {A : Prop} : (((1 : Int) = 0 ∨ (1 : Int) = 1) ∧ A) = A := propext ⟨And.right, fun w => ⟨Or.inr rfl, w⟩⟩
theorem sp_Letters_suits {d L kp : Nat} {h : Nat → Nat → Int} {Q : Option am_V → am_H → Prop} {f x : Int} : am_Wp d 22 0 [some (Sum.inl f), some (Sum.inl x)] [] (am_SH L, h, am_RR kp) Q = Q (some (Sum.inl (am_bi (u_suit f x)))) (am_SH L, h, am_RR kp) := by
  rw [bq_Letters_suits_0]
  unfold u_suit
  by_cases q1 : f = 57
  · rw [if_pos q1, if_pos q1]
    by_cases q2 : x < 48
    · rw [if_pos q2, bq_Letters_suits_22, bq_Letters_suits_23, am_01, decide_eq_false (by omega)]; rfl
    · rw [if_neg q2]
      by_cases q3 : 57 < x
      · rw [if_pos q3, bq_Letters_suits_22, bq_Letters_suits_23, am_01, decide_eq_false (by omega)]; rfl
      · rw [if_neg q3, bq_Letters_suits_23, am_11, decide_eq_true (by omega)]; rfl
  · rw [if_neg q1, if_neg q1]
    by_cases q4 : f = 61
    · rw [if_pos q4, if_pos q4]
      by_cases q2 : x = 61
      · rw [if_pos q2, bq_Letters_suits_42, bq_Letters_suits_47, am_11, decide_eq_true (Or.inl q2)]; rfl
      · rw [if_neg q2]
        by_cases q3 : x = 120
        · rw [if_pos q3, bq_Letters_suits_42, bq_Letters_suits_47, am_11, decide_eq_true (Or.inr q3)]; rfl
        · rw [if_neg q3, bq_Letters_suits_47, am_01, decide_eq_false (by omega)]; rfl
    · rw [if_neg q4, if_neg q4]
      by_cases q2 : x = f
      · rw [if_pos q2, bq_Letters_suits_58, am_11, decide_eq_true q2]; rfl
      · rw [if_neg q2, bq_Letters_suits_58, am_01, decide_eq_false q2]; rfl
theorem sp_Letters_digit {d L kp : Nat} {h : Nat → Nat → Int} {Q : Option am_V → am_H → Prop} {s i : Nat} (hd : 1 ≤ d) (hs : s + i < 96) (h8 : 0 ≤ h 28 (s + i) ∧ h 28 (s + i) ≤ 255) : am_Wp d 26 0 [some (Sum.inr (Sum.inr 27)), some (Sum.inl (((s + i : Nat)) : Int))] [] (am_SH L, h, am_RR kp) Q = Q (some (Sum.inl (u_d (h 28) s i))) (am_SH L, h, am_RR kp) := by
  rw [bq_Letters_digit_0 (by omega), sp_at_28, am_lk_nat hs]
  simp only [Option.toList_some, Option.toList_none, List.cons_append, List.nil_append]
  rw [bq_Letters_digit_8, am_sub_ok (by omega) (by omega)]
  rfl
theorem sp_Letters_twoDigits {d L kp : Nat} {h : Nat → Nat → Int} {Q : Option am_V → am_H → Prop} {s i : Nat} (hd : 2 ≤ d) (hs : s + i + 1 < 96) (h8 : ∀ j, 0 ≤ h 28 j ∧ h 28 j ≤ 255) : am_Wp d 30 0 [some (Sum.inr (Sum.inr 27)), some (Sum.inl (((s + i : Nat)) : Int))] [] (am_SH L, h, am_RR kp) Q = Q (some (Sum.inl (u_dd (h 28) s i))) (am_SH L, h, am_RR kp) := by
  have e1 := h8 (s + i)
  have e2 := h8 (s + (i + 1))
  have f1 : u_d (h 28) s i = h 28 (s + i) - 48 := rfl
  have f2 : u_d (h 28) s (i + 1) = h 28 (s + (i + 1)) - 48 := rfl
  rw [bq_Letters_twoDigits_0 (by omega), sp_Letters_digit (by omega) (by omega) e1]
  simp only [Option.toList_some, Option.toList_none, List.cons_append, List.nil_append]
  rw [bq_Letters_twoDigits_7 (by omega), am_incn (by omega), show s + i + 1 = s + (i + 1) by omega, sp_Letters_digit (by omega) (by omega) e2]
  simp only [Option.toList_some, Option.toList_none, List.cons_append, List.nil_append]
  rw [bq_Letters_twoDigits_15, am_mul_ok (by omega) (by omega), am_add_ok (by omega) (by omega)]
  rfl
theorem sp_Letters_formOf_0 {d L kp : Nat} {h : Nat → Nat → Int} {Q : Option am_V → am_H → Prop} {c : Int} (hc : c = 112) : am_Wp d 21 0 [some (Sum.inl c)] [] (am_SH L, h, am_RR kp) Q = Q (some (Sum.inr (Sum.inr 1000000))) (am_SH L, h, am_RR kp) := by
  rw [bq_Letters_formOf_0, if_neg (by omega), if_neg (by omega), if_neg (by omega), if_pos hc, bq_Letters_formOf_52]
theorem sp_Letters_formOf_1 {d L kp : Nat} {h : Nat → Nat → Int} {Q : Option am_V → am_H → Prop} {c : Int} (hc : c = 117) : am_Wp d 21 0 [some (Sum.inl c)] [] (am_SH L, h, am_RR kp) Q = Q (some (Sum.inr (Sum.inr 1000001))) (am_SH L, h, am_RR kp) := by
  rw [bq_Letters_formOf_0, if_neg (by omega), if_neg (by omega), if_neg (by omega), if_neg (by omega), if_pos hc, bq_Letters_formOf_55]
theorem sp_Letters_formOf_2 {d L kp : Nat} {h : Nat → Nat → Int} {Q : Option am_V → am_H → Prop} {c : Int} (hc : c = 111) : am_Wp d 21 0 [some (Sum.inl c)] [] (am_SH L, h, am_RR kp) Q = Q (some (Sum.inr (Sum.inr 1000002))) (am_SH L, h, am_RR kp) := by
  rw [bq_Letters_formOf_0, if_neg (by omega), if_neg (by omega), if_pos hc, bq_Letters_formOf_58]
theorem sp_Letters_formOf_3 {d L kp : Nat} {h : Nat → Nat → Int} {Q : Option am_V → am_H → Prop} {c : Int} (hc : c = 109) : am_Wp d 21 0 [some (Sum.inl c)] [] (am_SH L, h, am_RR kp) Q = Q (some (Sum.inr (Sum.inr 1000003))) (am_SH L, h, am_RR kp) := by
  rw [bq_Letters_formOf_0, if_neg (by omega), if_pos hc, bq_Letters_formOf_61]
theorem sp_Letters_formOf_4 {d L kp : Nat} {h : Nat → Nat → Int} {Q : Option am_V → am_H → Prop} {c : Int} (hc : c = 100) : am_Wp d 21 0 [some (Sum.inl c)] [] (am_SH L, h, am_RR kp) Q = Q (some (Sum.inr (Sum.inr 1000004))) (am_SH L, h, am_RR kp) := by
  rw [bq_Letters_formOf_0, if_pos hc, bq_Letters_formOf_64]
theorem sp_Letters_formOf_5 {d L kp : Nat} {h : Nat → Nat → Int} {Q : Option am_V → am_H → Prop} {c : Int} (hc : ¬ c = 100 ∧ ¬ c = 109 ∧ ¬ c = 111 ∧ ¬ c = 112 ∧ ¬ c = 117) : am_Wp d 21 0 [some (Sum.inl c)] [] (am_SH L, h, am_RR kp) Q = Q (some (Sum.inr (Sum.inr 1000005))) (am_SH L, h, am_RR kp) := by
  rw [bq_Letters_formOf_0, if_neg hc.1, if_neg hc.2.1, if_neg hc.2.2.1, if_neg hc.2.2.2.1, if_neg hc.2.2.2.2, bq_Letters_formOf_67]
theorem lp_Letters_fu_0 {d L kp : Nat} {h : Nat → Nat → Int} {Q : Option am_V → am_H → Prop} {n s k i : Nat} (hd : 1 ≤ d) (hn : h 27 1 = (n : Int)) (h96 : n ≤ 96) (hi : i ≤ 4) (ho : ∀ j, j < i → s + j < n ∧ u_suit ((am_txt.getD 0 []).getD j 0) (h 28 (s + j)) = true) : am_Wp d 20 42 [some (Sum.inr (Sum.inr 27)), some (Sum.inl ((s : Int))), some (Sum.inl ((k : Int))), some (Sum.inr (Sum.inr 1000000)), some (Sum.inl (0))] [] (am_SH L, h, am_RR kp) Q = am_Wp d 20 42 [some (Sum.inr (Sum.inr 27)), some (Sum.inl ((s : Int))), some (Sum.inl ((k : Int))), some (Sum.inr (Sum.inr 1000000)), some (Sum.inl ((i : Int)))] [] (am_SH L, h, am_RR kp) Q := by
  refine am_up_fr (a := 0) (n := i) (fun i => am_Wp d 20 42 [some (Sum.inr (Sum.inr 27)), some (Sum.inl ((s : Int))), some (Sum.inl ((k : Int))), some (Sum.inr (Sum.inr 1000000)), some (Sum.inl ((i : Int)))] [] (am_SH L, h, am_RR kp) Q) (am_Wp d 20 42 [some (Sum.inr (Sum.inr 27)), some (Sum.inl ((s : Int))), some (Sum.inl ((k : Int))), some (Sum.inr (Sum.inr 1000000)), some (Sum.inl ((i : Int)))] [] (am_SH L, h, am_RR kp) Q) (by omega) (fun j h1 h2 => ?_) rfl
  show am_Wp d 20 42 [some (Sum.inr (Sum.inr 27)), some (Sum.inl ((s : Int))), some (Sum.inl ((k : Int))), some (Sum.inr (Sum.inr 1000000)), some (Sum.inl ((j : Int)))] [] (am_SH L, h, am_RR kp) Q = am_Wp d 20 42 [some (Sum.inr (Sum.inr 27)), some (Sum.inl ((s : Int))), some (Sum.inl ((k : Int))), some (Sum.inr (Sum.inr 1000000)), some (Sum.inl (((j + 1 : Nat) : Int)))] [] (am_SH L, h, am_RR kp) Q
  have h3 := ho j h2
  have e : am_add (s : Int) (j : Int) = ((s + j : Nat) : Int) := by rw [am_add_ok (by omega) (by omega)]; omega
  refine (bq_Letters_firstUnfit_42 (by omega)).trans ?_
  rw [if_neg (by omega), e, hn, if_neg (by omega), am_gd (by omega) (by omega), Int.toNat_natCast, sp_at_28, am_lk_nat (by omega)]
  simp only [Option.toList_some, Option.toList_none, List.cons_append, List.nil_append]
  rw [bq_Letters_firstUnfit_79 (by omega), sp_Letters_suits]
  simp only [Option.toList_some, Option.toList_none, List.cons_append, List.nil_append]
  rw [bq_Letters_firstUnfit_82, h3.2, if_neg am_b0, am_incn (by omega)]
theorem lp_Letters_fb_0 {d L kp : Nat} {h : Nat → Nat → Int} {Q : Option am_V → am_H → Prop} {n s k i : Nat} (hd : 1 ≤ d) (hn : h 27 1 = (n : Int)) (h96 : n ≤ 96) (hs : s ≤ n) (hi : i < 4) (ho : ∀ j, j < i → s + j < n ∧ u_suit ((am_txt.getD 0 []).getD j 0) (h 28 (s + j)) = true) (hb : ¬ (s + i < n ∧ u_suit ((am_txt.getD 0 []).getD i 0) (h 28 (s + i)) = true)) : am_Wp d 20 42 [some (Sum.inr (Sum.inr 27)), some (Sum.inl ((s : Int))), some (Sum.inl ((k : Int))), some (Sum.inr (Sum.inr 1000000)), some (Sum.inl (0))] [] (am_SH L, h, am_RR kp) Q = Q (some (Sum.inl (((s + i : Nat) : Int)))) (am_SH L, h, am_RR kp) := by
  rw [lp_Letters_fu_0 hd hn h96 (by omega) ho]
  have e : am_add (s : Int) (i : Int) = ((s + i : Nat) : Int) := by rw [am_add_ok (by omega) (by omega)]; omega
  rw [bq_Letters_firstUnfit_42 (by omega), if_neg (by omega), e, hn]
  by_cases q : s + i < n
  · rw [if_neg (by omega), am_gd (by omega) (by omega), Int.toNat_natCast, sp_at_28, am_lk_nat (by omega)]
    simp only [Option.toList_some, Option.toList_none, List.cons_append, List.nil_append]
    rw [bq_Letters_firstUnfit_79 (by omega), sp_Letters_suits]
    simp only [Option.toList_some, Option.toList_none, List.cons_append, List.nil_append]
    have h3 : u_suit ((am_txt.getD 0 []).getD i 0) (h 28 (s + i)) = false := by
      cases h4 : u_suit ((am_txt.getD 0 []).getD i 0) (h 28 (s + i))
      · rfl
      · exact absurd ⟨q, h4⟩ hb
    rw [bq_Letters_firstUnfit_82, h3, if_pos am_bif, bq_Letters_firstUnfit_85, e]
  · rw [if_pos (by omega), bq_Letters_firstUnfit_85, e]
theorem lp_Letters_fu_1 {d L kp : Nat} {h : Nat → Nat → Int} {Q : Option am_V → am_H → Prop} {n s k i : Nat} (hd : 1 ≤ d) (hn : h 27 1 = (n : Int)) (h96 : n ≤ 96) (hi : i ≤ 4) (ho : ∀ j, j < i → s + j < n ∧ u_suit ((am_txt.getD 1 []).getD j 0) (h 28 (s + j)) = true) : am_Wp d 20 42 [some (Sum.inr (Sum.inr 27)), some (Sum.inl ((s : Int))), some (Sum.inl ((k : Int))), some (Sum.inr (Sum.inr 1000001)), some (Sum.inl (0))] [] (am_SH L, h, am_RR kp) Q = am_Wp d 20 42 [some (Sum.inr (Sum.inr 27)), some (Sum.inl ((s : Int))), some (Sum.inl ((k : Int))), some (Sum.inr (Sum.inr 1000001)), some (Sum.inl ((i : Int)))] [] (am_SH L, h, am_RR kp) Q := by
  refine am_up_fr (a := 0) (n := i) (fun i => am_Wp d 20 42 [some (Sum.inr (Sum.inr 27)), some (Sum.inl ((s : Int))), some (Sum.inl ((k : Int))), some (Sum.inr (Sum.inr 1000001)), some (Sum.inl ((i : Int)))] [] (am_SH L, h, am_RR kp) Q) (am_Wp d 20 42 [some (Sum.inr (Sum.inr 27)), some (Sum.inl ((s : Int))), some (Sum.inl ((k : Int))), some (Sum.inr (Sum.inr 1000001)), some (Sum.inl ((i : Int)))] [] (am_SH L, h, am_RR kp) Q) (by omega) (fun j h1 h2 => ?_) rfl
  show am_Wp d 20 42 [some (Sum.inr (Sum.inr 27)), some (Sum.inl ((s : Int))), some (Sum.inl ((k : Int))), some (Sum.inr (Sum.inr 1000001)), some (Sum.inl ((j : Int)))] [] (am_SH L, h, am_RR kp) Q = am_Wp d 20 42 [some (Sum.inr (Sum.inr 27)), some (Sum.inl ((s : Int))), some (Sum.inl ((k : Int))), some (Sum.inr (Sum.inr 1000001)), some (Sum.inl (((j + 1 : Nat) : Int)))] [] (am_SH L, h, am_RR kp) Q
  have h3 := ho j h2
  have e : am_add (s : Int) (j : Int) = ((s + j : Nat) : Int) := by rw [am_add_ok (by omega) (by omega)]; omega
  refine (bq_Letters_firstUnfit_42_1 (by omega)).trans ?_
  rw [if_neg (by omega), e, hn, if_neg (by omega), am_gd (by omega) (by omega), Int.toNat_natCast, sp_at_28, am_lk_nat (by omega)]
  simp only [Option.toList_some, Option.toList_none, List.cons_append, List.nil_append]
  rw [bq_Letters_firstUnfit_79_1 (by omega), sp_Letters_suits]
  simp only [Option.toList_some, Option.toList_none, List.cons_append, List.nil_append]
  rw [bq_Letters_firstUnfit_82_1, h3.2, if_neg am_b0, am_incn (by omega)]
theorem lp_Letters_fb_1 {d L kp : Nat} {h : Nat → Nat → Int} {Q : Option am_V → am_H → Prop} {n s k i : Nat} (hd : 1 ≤ d) (hn : h 27 1 = (n : Int)) (h96 : n ≤ 96) (hs : s ≤ n) (hi : i < 4) (ho : ∀ j, j < i → s + j < n ∧ u_suit ((am_txt.getD 1 []).getD j 0) (h 28 (s + j)) = true) (hb : ¬ (s + i < n ∧ u_suit ((am_txt.getD 1 []).getD i 0) (h 28 (s + i)) = true)) : am_Wp d 20 42 [some (Sum.inr (Sum.inr 27)), some (Sum.inl ((s : Int))), some (Sum.inl ((k : Int))), some (Sum.inr (Sum.inr 1000001)), some (Sum.inl (0))] [] (am_SH L, h, am_RR kp) Q = Q (some (Sum.inl (((s + i : Nat) : Int)))) (am_SH L, h, am_RR kp) := by
  rw [lp_Letters_fu_1 hd hn h96 (by omega) ho]
  have e : am_add (s : Int) (i : Int) = ((s + i : Nat) : Int) := by rw [am_add_ok (by omega) (by omega)]; omega
  rw [bq_Letters_firstUnfit_42_1 (by omega), if_neg (by omega), e, hn]
  by_cases q : s + i < n
  · rw [if_neg (by omega), am_gd (by omega) (by omega), Int.toNat_natCast, sp_at_28, am_lk_nat (by omega)]
    simp only [Option.toList_some, Option.toList_none, List.cons_append, List.nil_append]
    rw [bq_Letters_firstUnfit_79_1 (by omega), sp_Letters_suits]
    simp only [Option.toList_some, Option.toList_none, List.cons_append, List.nil_append]
    have h3 : u_suit ((am_txt.getD 1 []).getD i 0) (h 28 (s + i)) = false := by
      cases h4 : u_suit ((am_txt.getD 1 []).getD i 0) (h 28 (s + i))
      · rfl
      · exact absurd ⟨q, h4⟩ hb
    rw [bq_Letters_firstUnfit_82_1, h3, if_pos am_bif, bq_Letters_firstUnfit_85, e]
  · rw [if_pos (by omega), bq_Letters_firstUnfit_85, e]
theorem lp_Letters_fu_2 {d L kp : Nat} {h : Nat → Nat → Int} {Q : Option am_V → am_H → Prop} {n s k i : Nat} (hd : 1 ≤ d) (hn : h 27 1 = (n : Int)) (h96 : n ≤ 96) (hi : i ≤ 9) (ho : ∀ j, j < i → s + j < n ∧ u_suit ((am_txt.getD 2 []).getD j 0) (h 28 (s + j)) = true) : am_Wp d 20 42 [some (Sum.inr (Sum.inr 27)), some (Sum.inl ((s : Int))), some (Sum.inl ((k : Int))), some (Sum.inr (Sum.inr 1000002)), some (Sum.inl (0))] [] (am_SH L, h, am_RR kp) Q = am_Wp d 20 42 [some (Sum.inr (Sum.inr 27)), some (Sum.inl ((s : Int))), some (Sum.inl ((k : Int))), some (Sum.inr (Sum.inr 1000002)), some (Sum.inl ((i : Int)))] [] (am_SH L, h, am_RR kp) Q := by
  refine am_up_fr (a := 0) (n := i) (fun i => am_Wp d 20 42 [some (Sum.inr (Sum.inr 27)), some (Sum.inl ((s : Int))), some (Sum.inl ((k : Int))), some (Sum.inr (Sum.inr 1000002)), some (Sum.inl ((i : Int)))] [] (am_SH L, h, am_RR kp) Q) (am_Wp d 20 42 [some (Sum.inr (Sum.inr 27)), some (Sum.inl ((s : Int))), some (Sum.inl ((k : Int))), some (Sum.inr (Sum.inr 1000002)), some (Sum.inl ((i : Int)))] [] (am_SH L, h, am_RR kp) Q) (by omega) (fun j h1 h2 => ?_) rfl
  show am_Wp d 20 42 [some (Sum.inr (Sum.inr 27)), some (Sum.inl ((s : Int))), some (Sum.inl ((k : Int))), some (Sum.inr (Sum.inr 1000002)), some (Sum.inl ((j : Int)))] [] (am_SH L, h, am_RR kp) Q = am_Wp d 20 42 [some (Sum.inr (Sum.inr 27)), some (Sum.inl ((s : Int))), some (Sum.inl ((k : Int))), some (Sum.inr (Sum.inr 1000002)), some (Sum.inl (((j + 1 : Nat) : Int)))] [] (am_SH L, h, am_RR kp) Q
  have h3 := ho j h2
  have e : am_add (s : Int) (j : Int) = ((s + j : Nat) : Int) := by rw [am_add_ok (by omega) (by omega)]; omega
  refine (bq_Letters_firstUnfit_42_2 (by omega)).trans ?_
  rw [if_neg (by omega), e, hn, if_neg (by omega), am_gd (by omega) (by omega), Int.toNat_natCast, sp_at_28, am_lk_nat (by omega)]
  simp only [Option.toList_some, Option.toList_none, List.cons_append, List.nil_append]
  rw [bq_Letters_firstUnfit_79_2 (by omega), sp_Letters_suits]
  simp only [Option.toList_some, Option.toList_none, List.cons_append, List.nil_append]
  rw [bq_Letters_firstUnfit_82_2, h3.2, if_neg am_b0, am_incn (by omega)]
theorem lp_Letters_fb_2 {d L kp : Nat} {h : Nat → Nat → Int} {Q : Option am_V → am_H → Prop} {n s k i : Nat} (hd : 1 ≤ d) (hn : h 27 1 = (n : Int)) (h96 : n ≤ 96) (hs : s ≤ n) (hi : i < 9) (ho : ∀ j, j < i → s + j < n ∧ u_suit ((am_txt.getD 2 []).getD j 0) (h 28 (s + j)) = true) (hb : ¬ (s + i < n ∧ u_suit ((am_txt.getD 2 []).getD i 0) (h 28 (s + i)) = true)) : am_Wp d 20 42 [some (Sum.inr (Sum.inr 27)), some (Sum.inl ((s : Int))), some (Sum.inl ((k : Int))), some (Sum.inr (Sum.inr 1000002)), some (Sum.inl (0))] [] (am_SH L, h, am_RR kp) Q = Q (some (Sum.inl (((s + i : Nat) : Int)))) (am_SH L, h, am_RR kp) := by
  rw [lp_Letters_fu_2 hd hn h96 (by omega) ho]
  have e : am_add (s : Int) (i : Int) = ((s + i : Nat) : Int) := by rw [am_add_ok (by omega) (by omega)]; omega
  rw [bq_Letters_firstUnfit_42_2 (by omega), if_neg (by omega), e, hn]
  by_cases q : s + i < n
  · rw [if_neg (by omega), am_gd (by omega) (by omega), Int.toNat_natCast, sp_at_28, am_lk_nat (by omega)]
    simp only [Option.toList_some, Option.toList_none, List.cons_append, List.nil_append]
    rw [bq_Letters_firstUnfit_79_2 (by omega), sp_Letters_suits]
    simp only [Option.toList_some, Option.toList_none, List.cons_append, List.nil_append]
    have h3 : u_suit ((am_txt.getD 2 []).getD i 0) (h 28 (s + i)) = false := by
      cases h4 : u_suit ((am_txt.getD 2 []).getD i 0) (h 28 (s + i))
      · rfl
      · exact absurd ⟨q, h4⟩ hb
    rw [bq_Letters_firstUnfit_82_2, h3, if_pos am_bif, bq_Letters_firstUnfit_85, e]
  · rw [if_pos (by omega), bq_Letters_firstUnfit_85, e]
theorem lp_Letters_fu_3 {d L kp : Nat} {h : Nat → Nat → Int} {Q : Option am_V → am_H → Prop} {n s k i : Nat} (hd : 1 ≤ d) (hn : h 27 1 = (n : Int)) (h96 : n ≤ 96) (hi : i ≤ 5) (ho : ∀ j, j < i → s + j < n ∧ u_suit ((am_txt.getD 3 []).getD j 0) (h 28 (s + j)) = true) : am_Wp d 20 42 [some (Sum.inr (Sum.inr 27)), some (Sum.inl ((s : Int))), some (Sum.inl ((k : Int))), some (Sum.inr (Sum.inr 1000003)), some (Sum.inl (0))] [] (am_SH L, h, am_RR kp) Q = am_Wp d 20 42 [some (Sum.inr (Sum.inr 27)), some (Sum.inl ((s : Int))), some (Sum.inl ((k : Int))), some (Sum.inr (Sum.inr 1000003)), some (Sum.inl ((i : Int)))] [] (am_SH L, h, am_RR kp) Q := by
  refine am_up_fr (a := 0) (n := i) (fun i => am_Wp d 20 42 [some (Sum.inr (Sum.inr 27)), some (Sum.inl ((s : Int))), some (Sum.inl ((k : Int))), some (Sum.inr (Sum.inr 1000003)), some (Sum.inl ((i : Int)))] [] (am_SH L, h, am_RR kp) Q) (am_Wp d 20 42 [some (Sum.inr (Sum.inr 27)), some (Sum.inl ((s : Int))), some (Sum.inl ((k : Int))), some (Sum.inr (Sum.inr 1000003)), some (Sum.inl ((i : Int)))] [] (am_SH L, h, am_RR kp) Q) (by omega) (fun j h1 h2 => ?_) rfl
  show am_Wp d 20 42 [some (Sum.inr (Sum.inr 27)), some (Sum.inl ((s : Int))), some (Sum.inl ((k : Int))), some (Sum.inr (Sum.inr 1000003)), some (Sum.inl ((j : Int)))] [] (am_SH L, h, am_RR kp) Q = am_Wp d 20 42 [some (Sum.inr (Sum.inr 27)), some (Sum.inl ((s : Int))), some (Sum.inl ((k : Int))), some (Sum.inr (Sum.inr 1000003)), some (Sum.inl (((j + 1 : Nat) : Int)))] [] (am_SH L, h, am_RR kp) Q
  have h3 := ho j h2
  have e : am_add (s : Int) (j : Int) = ((s + j : Nat) : Int) := by rw [am_add_ok (by omega) (by omega)]; omega
  refine (bq_Letters_firstUnfit_42_3 (by omega)).trans ?_
  rw [if_neg (by omega), e, hn, if_neg (by omega), am_gd (by omega) (by omega), Int.toNat_natCast, sp_at_28, am_lk_nat (by omega)]
  simp only [Option.toList_some, Option.toList_none, List.cons_append, List.nil_append]
  rw [bq_Letters_firstUnfit_79_3 (by omega), sp_Letters_suits]
  simp only [Option.toList_some, Option.toList_none, List.cons_append, List.nil_append]
  rw [bq_Letters_firstUnfit_82_3, h3.2, if_neg am_b0, am_incn (by omega)]
theorem lp_Letters_fb_3 {d L kp : Nat} {h : Nat → Nat → Int} {Q : Option am_V → am_H → Prop} {n s k i : Nat} (hd : 1 ≤ d) (hn : h 27 1 = (n : Int)) (h96 : n ≤ 96) (hs : s ≤ n) (hi : i < 5) (ho : ∀ j, j < i → s + j < n ∧ u_suit ((am_txt.getD 3 []).getD j 0) (h 28 (s + j)) = true) (hb : ¬ (s + i < n ∧ u_suit ((am_txt.getD 3 []).getD i 0) (h 28 (s + i)) = true)) : am_Wp d 20 42 [some (Sum.inr (Sum.inr 27)), some (Sum.inl ((s : Int))), some (Sum.inl ((k : Int))), some (Sum.inr (Sum.inr 1000003)), some (Sum.inl (0))] [] (am_SH L, h, am_RR kp) Q = Q (some (Sum.inl (((s + i : Nat) : Int)))) (am_SH L, h, am_RR kp) := by
  rw [lp_Letters_fu_3 hd hn h96 (by omega) ho]
  have e : am_add (s : Int) (i : Int) = ((s + i : Nat) : Int) := by rw [am_add_ok (by omega) (by omega)]; omega
  rw [bq_Letters_firstUnfit_42_3 (by omega), if_neg (by omega), e, hn]
  by_cases q : s + i < n
  · rw [if_neg (by omega), am_gd (by omega) (by omega), Int.toNat_natCast, sp_at_28, am_lk_nat (by omega)]
    simp only [Option.toList_some, Option.toList_none, List.cons_append, List.nil_append]
    rw [bq_Letters_firstUnfit_79_3 (by omega), sp_Letters_suits]
    simp only [Option.toList_some, Option.toList_none, List.cons_append, List.nil_append]
    have h3 : u_suit ((am_txt.getD 3 []).getD i 0) (h 28 (s + i)) = false := by
      cases h4 : u_suit ((am_txt.getD 3 []).getD i 0) (h 28 (s + i))
      · rfl
      · exact absurd ⟨q, h4⟩ hb
    rw [bq_Letters_firstUnfit_82_3, h3, if_pos am_bif, bq_Letters_firstUnfit_85, e]
  · rw [if_pos (by omega), bq_Letters_firstUnfit_85, e]
theorem lp_Letters_fu_4 {d L kp : Nat} {h : Nat → Nat → Int} {Q : Option am_V → am_H → Prop} {n s k i : Nat} (hd : 1 ≤ d) (hn : h 27 1 = (n : Int)) (h96 : n ≤ 96) (hi : i ≤ 3) (ho : ∀ j, j < i → s + j < n ∧ u_suit ((am_txt.getD 4 []).getD j 0) (h 28 (s + j)) = true) : am_Wp d 20 42 [some (Sum.inr (Sum.inr 27)), some (Sum.inl ((s : Int))), some (Sum.inl ((k : Int))), some (Sum.inr (Sum.inr 1000004)), some (Sum.inl (0))] [] (am_SH L, h, am_RR kp) Q = am_Wp d 20 42 [some (Sum.inr (Sum.inr 27)), some (Sum.inl ((s : Int))), some (Sum.inl ((k : Int))), some (Sum.inr (Sum.inr 1000004)), some (Sum.inl ((i : Int)))] [] (am_SH L, h, am_RR kp) Q := by
  refine am_up_fr (a := 0) (n := i) (fun i => am_Wp d 20 42 [some (Sum.inr (Sum.inr 27)), some (Sum.inl ((s : Int))), some (Sum.inl ((k : Int))), some (Sum.inr (Sum.inr 1000004)), some (Sum.inl ((i : Int)))] [] (am_SH L, h, am_RR kp) Q) (am_Wp d 20 42 [some (Sum.inr (Sum.inr 27)), some (Sum.inl ((s : Int))), some (Sum.inl ((k : Int))), some (Sum.inr (Sum.inr 1000004)), some (Sum.inl ((i : Int)))] [] (am_SH L, h, am_RR kp) Q) (by omega) (fun j h1 h2 => ?_) rfl
  show am_Wp d 20 42 [some (Sum.inr (Sum.inr 27)), some (Sum.inl ((s : Int))), some (Sum.inl ((k : Int))), some (Sum.inr (Sum.inr 1000004)), some (Sum.inl ((j : Int)))] [] (am_SH L, h, am_RR kp) Q = am_Wp d 20 42 [some (Sum.inr (Sum.inr 27)), some (Sum.inl ((s : Int))), some (Sum.inl ((k : Int))), some (Sum.inr (Sum.inr 1000004)), some (Sum.inl (((j + 1 : Nat) : Int)))] [] (am_SH L, h, am_RR kp) Q
  have h3 := ho j h2
  have e : am_add (s : Int) (j : Int) = ((s + j : Nat) : Int) := by rw [am_add_ok (by omega) (by omega)]; omega
  refine (bq_Letters_firstUnfit_42_4 (by omega)).trans ?_
  rw [if_neg (by omega), e, hn, if_neg (by omega), am_gd (by omega) (by omega), Int.toNat_natCast, sp_at_28, am_lk_nat (by omega)]
  simp only [Option.toList_some, Option.toList_none, List.cons_append, List.nil_append]
  rw [bq_Letters_firstUnfit_79_4 (by omega), sp_Letters_suits]
  simp only [Option.toList_some, Option.toList_none, List.cons_append, List.nil_append]
  rw [bq_Letters_firstUnfit_82_4, h3.2, if_neg am_b0, am_incn (by omega)]
theorem lp_Letters_fb_4 {d L kp : Nat} {h : Nat → Nat → Int} {Q : Option am_V → am_H → Prop} {n s k i : Nat} (hd : 1 ≤ d) (hn : h 27 1 = (n : Int)) (h96 : n ≤ 96) (hs : s ≤ n) (hi : i < 3) (ho : ∀ j, j < i → s + j < n ∧ u_suit ((am_txt.getD 4 []).getD j 0) (h 28 (s + j)) = true) (hb : ¬ (s + i < n ∧ u_suit ((am_txt.getD 4 []).getD i 0) (h 28 (s + i)) = true)) : am_Wp d 20 42 [some (Sum.inr (Sum.inr 27)), some (Sum.inl ((s : Int))), some (Sum.inl ((k : Int))), some (Sum.inr (Sum.inr 1000004)), some (Sum.inl (0))] [] (am_SH L, h, am_RR kp) Q = Q (some (Sum.inl (((s + i : Nat) : Int)))) (am_SH L, h, am_RR kp) := by
  rw [lp_Letters_fu_4 hd hn h96 (by omega) ho]
  have e : am_add (s : Int) (i : Int) = ((s + i : Nat) : Int) := by rw [am_add_ok (by omega) (by omega)]; omega
  rw [bq_Letters_firstUnfit_42_4 (by omega), if_neg (by omega), e, hn]
  by_cases q : s + i < n
  · rw [if_neg (by omega), am_gd (by omega) (by omega), Int.toNat_natCast, sp_at_28, am_lk_nat (by omega)]
    simp only [Option.toList_some, Option.toList_none, List.cons_append, List.nil_append]
    rw [bq_Letters_firstUnfit_79_4 (by omega), sp_Letters_suits]
    simp only [Option.toList_some, Option.toList_none, List.cons_append, List.nil_append]
    have h3 : u_suit ((am_txt.getD 4 []).getD i 0) (h 28 (s + i)) = false := by
      cases h4 : u_suit ((am_txt.getD 4 []).getD i 0) (h 28 (s + i))
      · rfl
      · exact absurd ⟨q, h4⟩ hb
    rw [bq_Letters_firstUnfit_82_4, h3, if_pos am_bif, bq_Letters_firstUnfit_85, e]
  · rw [if_pos (by omega), bq_Letters_firstUnfit_85, e]
theorem lp_Letters_f1 {d L kp : Nat} {h : Nat → Nat → Int} {Q : Option am_V → am_H → Prop} {n s k : Nat} (j : Option am_V × Option am_V) (hd : 1 ≤ d) (hn : h 27 1 = (n : Int)) (h96 : n ≤ 96) (hs : s < n) (hk : k < 96) (hf : u_fit (h 28) n s) : ∃ j2 : Option am_V × Option am_V, am_Wp d 20 4 [some (Sum.inr (Sum.inr 27)), some (Sum.inl ((s : Int))), some (Sum.inl ((k : Int))), j.1, j.2] [] (am_SH L, h, am_RR kp) Q = am_Wp d 20 4 [some (Sum.inr (Sum.inr 27)), some (Sum.inl (((s + u_l (h 28 s) : Nat) : Int))), some (Sum.inl (((k + 1 : Nat) : Int))), j2.1, j2.2] [] (am_SH L, h, am_RR kp) Q := by
  rw [bq_Letters_firstUnfit_4 (by omega), if_neg (by omega), hn, if_neg (by omega), sp_at_28, am_lk_nat (by omega)]
  simp only [Option.toList_some, Option.toList_none, List.cons_append, List.nil_append]
  rw [bq_Letters_firstUnfit_26 (by omega)]
  rcases u_x_cases (h 28 s) with ⟨e, hx⟩ | ⟨e, hx⟩ | ⟨e, hx⟩ | ⟨e, hx⟩ | ⟨e, hx⟩ | ⟨-, hx⟩
  · have hl := u_l_of (m := 3) hx rfl
    have hf2 := hf.2
    rw [hl] at hf2
    unfold u_at at hf2
    rw [u_t_of hx] at hf2
    rw [sp_Letters_formOf_4 e]
    simp only [Option.toList_some, Option.toList_none, List.cons_append, List.nil_append]
    rw [bq_Letters_firstUnfit_29_4, if_pos rfl, lp_Letters_fu_4 (i := 3) (by omega) hn h96 (by omega) hf2, bq_Letters_firstUnfit_42_4 (by omega), if_pos (by omega), am_incn (by omega), hl, am_add_ok (by omega) (by omega)]
    exact ⟨(some (Sum.inr (Sum.inr 1000004)), some (Sum.inl ((3 : Nat) : Int))), rfl⟩
  · have hl := u_l_of (m := 5) hx rfl
    have hf2 := hf.2
    rw [hl] at hf2
    unfold u_at at hf2
    rw [u_t_of hx] at hf2
    rw [sp_Letters_formOf_3 e]
    simp only [Option.toList_some, Option.toList_none, List.cons_append, List.nil_append]
    rw [bq_Letters_firstUnfit_29_3, if_pos rfl, lp_Letters_fu_3 (i := 5) (by omega) hn h96 (by omega) hf2, bq_Letters_firstUnfit_42_3 (by omega), if_pos (by omega), am_incn (by omega), hl, am_add_ok (by omega) (by omega)]
    exact ⟨(some (Sum.inr (Sum.inr 1000003)), some (Sum.inl ((5 : Nat) : Int))), rfl⟩
  · have hl := u_l_of (m := 9) hx rfl
    have hf2 := hf.2
    rw [hl] at hf2
    unfold u_at at hf2
    rw [u_t_of hx] at hf2
    rw [sp_Letters_formOf_2 e]
    simp only [Option.toList_some, Option.toList_none, List.cons_append, List.nil_append]
    rw [bq_Letters_firstUnfit_29_2, if_pos rfl, lp_Letters_fu_2 (i := 9) (by omega) hn h96 (by omega) hf2, bq_Letters_firstUnfit_42_2 (by omega), if_pos (by omega), am_incn (by omega), hl, am_add_ok (by omega) (by omega)]
    exact ⟨(some (Sum.inr (Sum.inr 1000002)), some (Sum.inl ((9 : Nat) : Int))), rfl⟩
  · have hl := u_l_of (m := 4) hx rfl
    have hf2 := hf.2
    rw [hl] at hf2
    unfold u_at at hf2
    rw [u_t_of hx] at hf2
    rw [sp_Letters_formOf_0 e]
    simp only [Option.toList_some, Option.toList_none, List.cons_append, List.nil_append]
    rw [bq_Letters_firstUnfit_29, if_pos rfl, lp_Letters_fu_0 (i := 4) (by omega) hn h96 (by omega) hf2, bq_Letters_firstUnfit_42 (by omega), if_pos (by omega), am_incn (by omega), hl, am_add_ok (by omega) (by omega)]
    exact ⟨(some (Sum.inr (Sum.inr 1000000)), some (Sum.inl ((4 : Nat) : Int))), rfl⟩
  · have hl := u_l_of (m := 4) hx rfl
    have hf2 := hf.2
    rw [hl] at hf2
    unfold u_at at hf2
    rw [u_t_of hx] at hf2
    rw [sp_Letters_formOf_1 e]
    simp only [Option.toList_some, Option.toList_none, List.cons_append, List.nil_append]
    rw [bq_Letters_firstUnfit_29_1, if_pos rfl, lp_Letters_fu_1 (i := 4) (by omega) hn h96 (by omega) hf2, bq_Letters_firstUnfit_42_1 (by omega), if_pos (by omega), am_incn (by omega), hl, am_add_ok (by omega) (by omega)]
    exact ⟨(some (Sum.inr (Sum.inr 1000001)), some (Sum.inl ((4 : Nat) : Int))), rfl⟩
  · have h1 := hf.1
    rw [u_l_of (m := 0) hx rfl] at h1
    omega
theorem lp_Letters_f2 {d L kp : Nat} {h : Nat → Nat → Int} {Q : Option am_V → am_H → Prop} {n s k i : Nat} (j : Option am_V × Option am_V) (hd : 1 ≤ d) (hn : h 27 1 = (n : Int)) (h96 : n ≤ 96) (hs : s < n) (hk : k < 96) (hb : u_bad (h 28) n s i) : am_Wp d 20 4 [some (Sum.inr (Sum.inr 27)), some (Sum.inl ((s : Int))), some (Sum.inl ((k : Int))), j.1, j.2] [] (am_SH L, h, am_RR kp) Q = Q (some (Sum.inl (((s + i : Nat) : Int)))) (am_SH L, h, am_RR kp) := by
  rw [bq_Letters_firstUnfit_4 (by omega), if_neg (by omega), hn, if_neg (by omega), sp_at_28, am_lk_nat (by omega)]
  simp only [Option.toList_some, Option.toList_none, List.cons_append, List.nil_append]
  rw [bq_Letters_firstUnfit_26 (by omega)]
  rcases u_x_cases (h 28 s) with ⟨e, hx⟩ | ⟨e, hx⟩ | ⟨e, hx⟩ | ⟨e, hx⟩ | ⟨e, hx⟩ | ⟨e, hx⟩
  · have hl := u_l_of (m := 3) hx rfl
    rcases hb with ⟨h1, -⟩ | ⟨h1, h2, h3⟩
    · omega
    · rw [hl] at h1
      unfold u_at at h2 h3
      rw [u_t_of hx] at h2 h3
      rw [sp_Letters_formOf_4 e]
      simp only [Option.toList_some, Option.toList_none, List.cons_append, List.nil_append]
      rw [bq_Letters_firstUnfit_29_4, if_pos rfl, lp_Letters_fb_4 (by omega) hn h96 (by omega) h1 h2 h3]
  · have hl := u_l_of (m := 5) hx rfl
    rcases hb with ⟨h1, -⟩ | ⟨h1, h2, h3⟩
    · omega
    · rw [hl] at h1
      unfold u_at at h2 h3
      rw [u_t_of hx] at h2 h3
      rw [sp_Letters_formOf_3 e]
      simp only [Option.toList_some, Option.toList_none, List.cons_append, List.nil_append]
      rw [bq_Letters_firstUnfit_29_3, if_pos rfl, lp_Letters_fb_3 (by omega) hn h96 (by omega) h1 h2 h3]
  · have hl := u_l_of (m := 9) hx rfl
    rcases hb with ⟨h1, -⟩ | ⟨h1, h2, h3⟩
    · omega
    · rw [hl] at h1
      unfold u_at at h2 h3
      rw [u_t_of hx] at h2 h3
      rw [sp_Letters_formOf_2 e]
      simp only [Option.toList_some, Option.toList_none, List.cons_append, List.nil_append]
      rw [bq_Letters_firstUnfit_29_2, if_pos rfl, lp_Letters_fb_2 (by omega) hn h96 (by omega) h1 h2 h3]
  · have hl := u_l_of (m := 4) hx rfl
    rcases hb with ⟨h1, -⟩ | ⟨h1, h2, h3⟩
    · omega
    · rw [hl] at h1
      unfold u_at at h2 h3
      rw [u_t_of hx] at h2 h3
      rw [sp_Letters_formOf_0 e]
      simp only [Option.toList_some, Option.toList_none, List.cons_append, List.nil_append]
      rw [bq_Letters_firstUnfit_29, if_pos rfl, lp_Letters_fb_0 (by omega) hn h96 (by omega) h1 h2 h3]
  · have hl := u_l_of (m := 4) hx rfl
    rcases hb with ⟨h1, -⟩ | ⟨h1, h2, h3⟩
    · omega
    · rw [hl] at h1
      unfold u_at at h2 h3
      rw [u_t_of hx] at h2 h3
      rw [sp_Letters_formOf_1 e]
      simp only [Option.toList_some, Option.toList_none, List.cons_append, List.nil_append]
      rw [bq_Letters_firstUnfit_29_1, if_pos rfl, lp_Letters_fb_1 (by omega) hn h96 (by omega) h1 h2 h3]
  · have hl := u_l_of (m := 0) hx rfl
    rcases hb with ⟨-, h1⟩ | ⟨h1, -⟩
    · subst h1
      rw [sp_Letters_formOf_5 e]
      simp only [Option.toList_some, Option.toList_none, List.cons_append, List.nil_append]
      rw [bq_Letters_firstUnfit_29_5, if_neg (by omega)]
      rfl
    · omega
theorem sp_Letters_firstUnfit {d L kp : Nat} {h : Nat → Nat → Int} {Q : Option am_V → am_H → Prop} {n k : Nat} {E : Prop} (hd : 1 ≤ d) (hn : h 27 1 = (n : Int)) (h96 : n ≤ 96) (hf : ∀ j, j < k → u_fit (h 28) n (u_S (h 28) j)) (hE : ∀ j : Option am_V × Option am_V, am_Wp d 20 4 [some (Sum.inr (Sum.inr 27)), some (Sum.inl ((u_S (h 28) k : Int))), some (Sum.inl ((k : Int))), j.1, j.2] [] (am_SH L, h, am_RR kp) Q = E) : am_Wp d 20 0 [some (Sum.inr (Sum.inr 27)), none, none, none, none] [] (am_SH L, h, am_RR kp) Q = E := by
  rw [bq_Letters_firstUnfit_0]
  have hm := u_S_mono hf
  have key := am_dn_fr (J := Option am_V × Option am_V) (a := 0) (n := k) (fun k j => am_Wp d 20 4 [some (Sum.inr (Sum.inr 27)), some (Sum.inl ((u_S (h 28) k : Int))), some (Sum.inl ((k : Int))), j.1, j.2] [] (am_SH L, h, am_RR kp) Q) E (by omega) (fun m h1 h2 ih j => ?_) hE (none, none)
  · exact key
  · have h3 := hm m (by omega)
    have h4 := h3.2.1 h2
    obtain ⟨j2, e⟩ := lp_Letters_f1 (d := d) (L := L) (kp := kp) (Q := Q) (k := m) j hd hn h96 h4 (by omega) (hf m h2)
    exact e.trans (ih j2)
theorem sp_Letters_fuBad {d L kp : Nat} {h : Nat → Nat → Int} {Q : Option am_V → am_H → Prop} {n k i : Nat} (hd : 1 ≤ d) (hn : h 27 1 = (n : Int)) (h96 : n ≤ 96) (hb : u_Bad (h 28) n k i) : am_Wp d 20 0 [some (Sum.inr (Sum.inr 27)), none, none, none, none] [] (am_SH L, h, am_RR kp) Q = Q (some (Sum.inl (((u_S (h 28) k + i : Nat) : Int)))) (am_SH L, h, am_RR kp) := by
  obtain ⟨h1, h2, h3⟩ := hb
  refine sp_Letters_firstUnfit hd hn h96 h1 (fun j => ?_)
  have hm := (u_S_mono h1 k (by omega)).1
  by_cases q : u_S (h 28) k < n
  · exact lp_Letters_f2 j hd hn h96 q (by omega) h3
  · have hk : k = 0 := by omega
    subst hk
    have e0 : u_S (h 28) 0 = 0 := rfl
    rw [e0] at q h3 ⊢
    have hi : i = 0 := by
      rcases h3 with ⟨-, h4⟩ | ⟨-, h5, -⟩
      · exact h4
      · refine Decidable.byContradiction fun w => ?_
        have := (h5 0 (by omega)).1
        omega
    subst hi
    rw [bq_Letters_firstUnfit_4 (by omega), if_neg (by omega), hn, if_pos (by omega), bq_Letters_firstUnfit_109, if_pos (by omega), bq_Letters_firstUnfit_118]
    rfl
theorem sp_Letters_fuGood {d L kp : Nat} {h : Nat → Nat → Int} {Q : Option am_V → am_H → Prop} {n K : Nat} (hd : 1 ≤ d) (hn : h 27 1 = (n : Int)) (h96 : n ≤ 96) (hg : u_Good (h 28) n K) : am_Wp d 20 0 [some (Sum.inr (Sum.inr 27)), none, none, none, none] [] (am_SH L, h, am_RR kp) Q = Q (some (Sum.inl (-1))) (am_SH L, h, am_RR kp) := by
  obtain ⟨h1, h2, h3⟩ := hg
  refine sp_Letters_firstUnfit hd hn h96 h2 (fun j => ?_)
  have hm := (u_S_mono h2 K (by omega)).1
  rw [h3] at hm ⊢
  rw [bq_Letters_firstUnfit_4 (by omega)]
  have r : am_Wp d 20 109 [some (Sum.inr (Sum.inr 27)), some (Sum.inl ((n : Int))), some (Sum.inl ((K : Int))), j.1, j.2] [] (am_SH L, h, am_RR kp) Q = Q (some (Sum.inl (-1))) (am_SH L, h, am_RR kp) := by
    rw [bq_Letters_firstUnfit_109, if_neg (by omega), bq_Letters_firstUnfit_118]
  rw [if_neg (by omega), hn, if_pos (by omega)]
  exact r