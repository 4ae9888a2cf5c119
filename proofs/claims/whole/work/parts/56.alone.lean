/-! decidesAlone -/
theorem v_ss_one {f : Nat → Int} {i : Nat} (hi : i < 7) : v_ss f (2 ^ i) 7 = f i := by
  unfold v_ss
  refine Eq.trans (am_sumb_eq (fun j hj => ?_)) (am_sumb_one (n := 7) (i := i) (x := f i) hi)
  rw [Nat.testBit_two_pow]
  by_cases h1 : j = i
  · rw [if_pos h1, decide_eq_true h1.symm, h1]; rfl
  · rw [if_neg h1, decide_eq_false (fun w => h1 w.symm)]; rfl
theorem sp_Votes_decidesAlone {d L kp : Nat} {h : Nat → Nat → Int} {Q : Option am_V → am_H → Prop} (hd : 2 ≤ d) (hb : ∀ j, j < 7 → 0 ≤ h 62 j ∧ h 62 j ≤ 640) : am_Wp d 117 0 [some (Sum.inr (Sum.inr 61)), none] [] (am_SH L, h, am_RR kp) Q = (match am_fst (fun i => decide (h 61 3 < 2 * h 62 i)) 7 0 with | some k => Q (some (Sum.inl ((k : Int)))) (am_SH L, h, am_RR kp) | none => Q (some (Sum.inl (-9))) (am_SH L, h, am_RR kp)) := by
  rw [bq_Votes_decidesAlone_0]
  refine am_fst_eq (n := 7) (fun i => decide (h 61 3 < 2 * h 62 i)) (fun k => am_Wp d 117 2 [some (Sum.inr (Sum.inr 61)), some (Sum.inl (k : Int))] [] (am_SH L, h, am_RR kp) Q) (fun k => Q (some (Sum.inl ((k : Int)))) (am_SH L, h, am_RR kp)) (Q (some (Sum.inl (-9))) (am_SH L, h, am_RR kp)) (fun k hk => ?_) ?_
  · show am_Wp d 117 2 [some (Sum.inr (Sum.inr 61)), some (Sum.inl (k : Int))] [] (am_SH L, h, am_RR kp) Q = (match (decide (h 61 3 < 2 * h 62 k) : Bool) with | true => Q (some (Sum.inl ((k : Int)))) (am_SH L, h, am_RR kp) | false => am_Wp d 117 2 [some (Sum.inr (Sum.inr 61)), some (Sum.inl ((k + 1 : Nat) : Int))] [] (am_SH L, h, am_RR kp) Q)
    have h2 : 2 ^ k < 2 ^ 7 := Nat.pow_lt_pow_right (by omega) (by omega)
    refine (bq_Votes_decidesAlone_2 (by omega)).trans ?_
    rw [if_neg (by omega), am_shl1 (by omega), sp_Votes_decide (by omega) (by omega) hb, v_ss_one hk]
    simp only [Option.toList_some, List.cons_append, List.nil_append]
    rw [bq_Votes_decidesAlone_15, am_incn (by omega)]
    cases decide (h 61 3 < 2 * h 62 k)
    · simp only [am_bi, ↓reduceIte]
    · simp only [am_bi, ↓reduceIte, Int.reduceEq]
  · show am_Wp d 117 2 [some (Sum.inr (Sum.inr 61)), some (Sum.inl ((7 : Nat) : Int))] [] (am_SH L, h, am_RR kp) Q = _
    refine (bq_Votes_decidesAlone_2 (by omega)).trans ?_
    rw [if_pos (by omega)]
