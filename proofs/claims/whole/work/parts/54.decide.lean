/-! decide, greatest -/
def v_ss (f : Nat → Int) (x n : Nat) : Int := am_sumb n (fun j => bif Nat.testBit x j then f j else 0)
theorem v_ss_le {f : Nat → Int} {x n : Nat} (hn : n ≤ 7) (hb : ∀ j, j < 7 → 0 ≤ f j ∧ f j ≤ 640) : 0 ≤ v_ss f x n ∧ v_ss f x n ≤ 4480 := by
  have h1 := am_sumb_le (n := n) (g := fun j => bif Nat.testBit x j then f j else 0) (A := 0) (B := 640) (fun k hk => by
    have h2 := hb k (by omega)
    show 0 ≤ (bif Nat.testBit x k then f k else 0) ∧ (bif Nat.testBit x k then f k else 0) ≤ 640
    cases Nat.testBit x k
    · exact ⟨by simp, by simp⟩
    · exact h2)
  unfold v_ss
  omega
theorem v_ss_s {f : Nat → Int} {x n : Nat} : v_ss f x (n + 1) = v_ss f x n + (bif Nat.testBit x n then f n else 0) := rfl
def v_gr (f : Nat → Int) (n : Nat) : Int := am_for (fun j s => am_max s (f j)) n 0
theorem v_gr_s {f : Nat → Int} {n : Nat} : v_gr f (n + 1) = am_max (v_gr f n) (f n) := rfl
theorem sp_Votes_decide {d L kp : Nat} {h : Nat → Nat → Int} {Q : Option am_V → am_H → Prop} {x : Nat} (hd : 1 ≤ d) (hx : x < 2147483648) (hb : ∀ j, j < 7 → 0 ≤ h 62 j ∧ h 62 j ≤ 640) : am_Wp d 115 0 [some (Sum.inr (Sum.inr 61)), some (Sum.inl (x : Int)), none, none] [] (am_SH L, h, am_RR kp) Q = Q (some (Sum.inl (am_bi (decide (h 61 3 < 2 * v_ss (h 62) x 7))))) (am_SH L, h, am_RR kp) := by
  rw [bq_Votes_decide_0]
  refine am_up_eq (n := 7) (fun k => am_Wp d 115 4 [some (Sum.inr (Sum.inr 61)), some (Sum.inl (x : Int)), some (Sum.inl (v_ss (h 62) x k)), some (Sum.inl (k : Int))] [] (am_SH L, h, am_RR kp) Q) (Q (some (Sum.inl (am_bi (decide (h 61 3 < 2 * v_ss (h 62) x 7))))) (am_SH L, h, am_RR kp)) (fun k hk => ?_) ?_
  · show am_Wp d 115 4 [some (Sum.inr (Sum.inr 61)), some (Sum.inl (x : Int)), some (Sum.inl (v_ss (h 62) x k)), some (Sum.inl (k : Int))] [] (am_SH L, h, am_RR kp) Q = am_Wp d 115 4 [some (Sum.inr (Sum.inr 61)), some (Sum.inl (x : Int)), some (Sum.inl (v_ss (h 62) x (k + 1))), some (Sum.inl ((k + 1 : Nat) : Int))] [] (am_SH L, h, am_RR kp) Q
    have h1 := hb k hk
    have h2 := v_ss_le (f := h 62) (x := x) (n := k) (by omega) hb
    refine (bq_Votes_decide_4 (by omega)).trans ?_
    rw [if_neg (by omega), sp_has, am_has_tb hx (by omega), v_ss_s]
    simp only [Option.toList_some, List.cons_append, List.nil_append]
    rw [bq_Votes_decide_15 (by omega)]
    cases Nat.testBit x k
    · simp (disch := omega) only [am_bi, ↓reduceIte, bq_Votes_decide_29, am_incn, cond_false, Int.add_zero]
    · simp (disch := omega) only [am_bi, ↓reduceIte, Int.reduceEq, sp_at_62, am_lk_nat, Option.toList_some, Option.toList_none, List.cons_append, List.nil_append, bq_Votes_decide_27, bq_Votes_decide_29, am_incn, cond_true]
      rw [am_add_ok (by omega) (by omega)]
  · show am_Wp d 115 4 [some (Sum.inr (Sum.inr 61)), some (Sum.inl (x : Int)), some (Sum.inl (v_ss (h 62) x 7)), some (Sum.inl ((7 : Nat) : Int))] [] (am_SH L, h, am_RR kp) Q = _
    have h2 := v_ss_le (f := h 62) (x := x) (n := 7) (by omega) hb
    refine (bq_Votes_decide_4 (by omega)).trans ?_
    rw [if_pos (by omega), am_mul_ok (by omega) (by omega)]
    by_cases q1 : 2 * v_ss (h 62) x 7 ≤ h 61 3
    · rw [if_pos q1, bq_Votes_decide_50, decide_eq_false (by omega)]; simp [am_bi]
    · rw [if_neg q1, bq_Votes_decide_50, decide_eq_true (by omega)]; simp [am_bi]
