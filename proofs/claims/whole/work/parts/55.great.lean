/-! greatest, decidesAlone -/
theorem sp_Votes_greatest {d L kp : Nat} {h : Nat → Nat → Int} {Q : Option am_V → am_H → Prop} (hd : 1 ≤ d) : am_Wp d 119 0 [some (Sum.inr (Sum.inr 61)), none, none] [] (am_SH L, h, am_RR kp) Q = Q (some (Sum.inl (v_gr (h 62) 7))) (am_SH L, h, am_RR kp) := by
  rw [bq_Votes_greatest_0]
  refine am_up_eq (n := 7) (fun k => am_Wp d 119 4 [some (Sum.inr (Sum.inr 61)), some (Sum.inl (v_gr (h 62) k)), some (Sum.inl (k : Int))] [] (am_SH L, h, am_RR kp) Q) (Q (some (Sum.inl (v_gr (h 62) 7))) (am_SH L, h, am_RR kp)) (fun k hk => ?_) ?_
  · show am_Wp d 119 4 [some (Sum.inr (Sum.inr 61)), some (Sum.inl (v_gr (h 62) k)), some (Sum.inl (k : Int))] [] (am_SH L, h, am_RR kp) Q = am_Wp d 119 4 [some (Sum.inr (Sum.inr 61)), some (Sum.inl (v_gr (h 62) (k + 1))), some (Sum.inl ((k + 1 : Nat) : Int))] [] (am_SH L, h, am_RR kp) Q
    refine (bq_Votes_greatest_4 (by omega)).trans ?_
    rw [if_neg (by omega), sp_at_62, am_lk_nat (by omega)]
    simp only [Option.toList_some, List.cons_append, List.nil_append]
    rw [bq_Votes_greatest_19, am_incn (by omega), v_gr_s]
  · show am_Wp d 119 4 [some (Sum.inr (Sum.inr 61)), some (Sum.inl (v_gr (h 62) 7)), some (Sum.inl ((7 : Nat) : Int))] [] (am_SH L, h, am_RR kp) Q = _
    refine (bq_Votes_greatest_4 (by omega)).trans ?_
    rw [if_pos (by omega)]
