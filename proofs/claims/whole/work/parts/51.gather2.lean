/-! gather, whole -/
theorem am_votk_0 {h : Nat → Nat → Int} {V : am_Vw} {e : Int} : am_up (am_up (am_fill h 62 7 0) 61 1 0) 61 3 0 = am_votk h V e 0 := by
  funext a j
  unfold am_up am_fill am_votk
  by_cases h1 : a = 61
  · subst h1
    simp only [show ¬ (61 = 62) by omega, if_false, if_true]
    by_cases h2 : j = 3
    · subst h2; simp only [show ¬ (3 = 1) by omega, if_false, if_true]; rfl
    · simp only [h2, if_false]
      by_cases h3 : j = 1
      · simp only [h3, if_true]; rfl
      · simp only [h3, if_false]
  · simp only [h1, if_false]
    by_cases h2 : a = 62
    · simp only [h2, if_true]; rfl
    · simp only [h2, if_false]
theorem sp_Votes_gather {d L kp : Nat} {h : Nat → Nat → Int} {Q : Option am_V → am_H → Prop} {x : Int} (hd : 2 ≤ d) (hv : v_ok (am_wv h 2)) : am_Wp d 111 0 [some (Sum.inr (Sum.inr 61)), some (Sum.inr (Sum.inr 2)), some (Sum.inl x), none] [] (am_SH L, h, am_RR kp) Q = Q none (am_SH L, am_up (am_votk h (am_wv h 2) x (h 2 1).toNat) 61 2 (am_pc (v_vh (am_wv h 2) x (h 2 1).toNat)), am_RR kp) := by
  have hQ := wv_Q hv
  have hP := wv_P hv
  have hD := wv_D hv
  have hl := v_vh_lt hv (n := (h 2 1).toNat) (by omega) x
  have e21 : am_votk h (am_wv h 2) x (h 2 1).toNat 2 1 = h 2 1 := rfl
  have e61 : am_votk h (am_wv h 2) x (h 2 1).toNat 61 1 = ((v_vh (am_wv h 2) x (h 2 1).toNat : Nat) : Int) := rfl
  have h0 := lp_Votes_gather (L := L) (kp := kp) (Q := Q) (x := x) hd hv
  rw [bq_Votes_gather_0 (by omega), sp_fill_62]
  simp only [Option.toList_none, List.nil_append]
  rw [bq_Votes_gather_8, am_votk_0 (V := (am_wv h 2)) (e := x)]
  refine h0.trans ?_
  rw [bq_Votes_gather_20 (by omega), sp_World_papers_2]
  simp only [Option.toList_some, List.cons_append, List.nil_append]
  rw [bq_Votes_gather_25 (by omega), e21, if_pos (by omega), e61, sp_bitCount (by omega)]
  simp only [Option.toList_some, List.cons_append, List.nil_append]
  rw [bq_Votes_gather_106]
