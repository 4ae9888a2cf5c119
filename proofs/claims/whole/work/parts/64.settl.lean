/-! WHAT A COMPANY SETTLES, of the class -/
def v_giv (V : am_Vw) (x n : Nat) : Int := am_sumb n (fun i => bif Nat.testBit x i then (if v_net V (i : Int) < 0 then -v_net V (i : Int) else 0) else 0)
def v_tak (V : am_Vw) (x n : Nat) : Int := am_sumb n (fun i => bif Nat.testBit x i then (if 0 < v_net V (i : Int) then v_net V (i : Int) else 0) else 0)
theorem v_giv_le {V : am_Vw} (hv : v_ok V) {x n : Nat} (hn : n ≤ 7) : 0 ≤ v_giv V x n ∧ v_giv V x n ≤ 4480 := by
  have h1 := am_sumb_le (n := n) (g := fun i => bif Nat.testBit x i then (if v_net V (i : Int) < 0 then -v_net V (i : Int) else 0) else 0) (A := 0) (B := 640) (fun k hk => by
    have h2 := v_net_le hv (i := (k : Int)) (by omega)
    show 0 ≤ (bif Nat.testBit x k then (if v_net V (k : Int) < 0 then -v_net V (k : Int) else 0) else 0) ∧ (bif Nat.testBit x k then (if v_net V (k : Int) < 0 then -v_net V (k : Int) else 0) else 0) ≤ 640
    cases Nat.testBit x k
    · exact ⟨by simp, by simp⟩
    · show 0 ≤ (if v_net V (k : Int) < 0 then -v_net V (k : Int) else 0) ∧ (if v_net V (k : Int) < 0 then -v_net V (k : Int) else 0) ≤ 640
      split <;> omega)
  unfold v_giv
  omega
theorem v_tak_le {V : am_Vw} (hv : v_ok V) {x n : Nat} (hn : n ≤ 7) : 0 ≤ v_tak V x n ∧ v_tak V x n ≤ 4480 := by
  have h1 := am_sumb_le (n := n) (g := fun i => bif Nat.testBit x i then (if 0 < v_net V (i : Int) then v_net V (i : Int) else 0) else 0) (A := 0) (B := 640) (fun k hk => by
    have h2 := v_net_le hv (i := (k : Int)) (by omega)
    show 0 ≤ (bif Nat.testBit x k then (if 0 < v_net V (k : Int) then v_net V (k : Int) else 0) else 0) ∧ (bif Nat.testBit x k then (if 0 < v_net V (k : Int) then v_net V (k : Int) else 0) else 0) ≤ 640
    cases Nat.testBit x k
    · exact ⟨by simp, by simp⟩
    · show 0 ≤ (if 0 < v_net V (k : Int) then v_net V (k : Int) else 0) ∧ (if 0 < v_net V (k : Int) then v_net V (k : Int) else 0) ≤ 640
      split <;> omega)
  unfold v_tak
  omega
theorem v_giv_s {V : am_Vw} {x n : Nat} : v_giv V x (n + 1) = v_giv V x n + (bif Nat.testBit x n then (if v_net V (n : Int) < 0 then -v_net V (n : Int) else 0) else 0) := rfl
theorem v_tak_s {V : am_Vw} {x n : Nat} : v_tak V x (n + 1) = v_tak V x n + (bif Nat.testBit x n then (if 0 < v_net V (n : Int) then v_net V (n : Int) else 0) else 0) := rfl
theorem sp_Settlement_given {d L kp : Nat} {h : Nat → Nat → Int} {Q : Option am_V → am_H → Prop} {x : Nat} (hd : 2 ≤ d) (hv : v_ok (am_wv h 2)) (hl : am_led h) (hx : x < 2 ^ 7) : am_Wp d 87 0 [some (Sum.inr (Sum.inr 42)), some (Sum.inl (x : Int)), none, none] [] (am_SH L, h, am_RR kp) Q = Q (some (Sum.inl (v_giv (am_wv h 2) x (h 2 0).toNat))) (am_SH L, h, am_RR kp) := by
  have hQ := wv_Q hv
  have hP := wv_P hv
  have hD := wv_D hv
  rw [bq_Settlement_given_0]
  refine am_up_eq (n := (h 2 0).toNat) (fun k => am_Wp d 87 4 [some (Sum.inr (Sum.inr 42)), some (Sum.inl ((x : Int))), some (Sum.inl (v_giv (am_wv h 2) x k)), some (Sum.inl ((k : Int)))] [] (am_SH L, h, am_RR kp) Q) _ (fun k hk => ?_) ?_
  · show am_Wp d 87 4 [some (Sum.inr (Sum.inr 42)), some (Sum.inl ((x : Int))), some (Sum.inl (v_giv (am_wv h 2) x k)), some (Sum.inl ((k : Int)))] [] (am_SH L, h, am_RR kp) Q = am_Wp d 87 4 [some (Sum.inr (Sum.inr 42)), some (Sum.inl ((x : Int))), some (Sum.inl (v_giv (am_wv h 2) x (k + 1))), some (Sum.inl (((k + 1 : Nat) : Int)))] [] (am_SH L, h, am_RR kp) Q
    have b1 := v_giv_le hv (x := x) (n := k) (by omega)
    have b2 := v_net_le hv (i := (k : Int)) (by omega)
    have eg : am_max 0 (am_neg (v_net (am_wv h 2) (k : Int))) = if v_net (am_wv h 2) (k : Int) < 0 then -v_net (am_wv h 2) (k : Int) else 0 := by
      rw [am_neg_ok (by omega) (by omega)]
      unfold am_max
      by_cases h1 : v_net (am_wv h 2) (k : Int) < 0
      · rw [if_pos h1, if_pos (by omega)]
      · rw [if_neg h1, if_neg (by omega)]
    refine (bq_Settlement_given_4 (by omega)).trans ?_
    simp (disch := first | exact hv | omega) only [bq_Settlement_given_0, bq_Settlement_given_9, bq_Settlement_given_17, bq_Settlement_given_33, bq_Settlement_given_27, sp_Ledger_people, sp_has, sp_Ledger_netOf, Option.toList_some, Option.toList_none, List.cons_append, List.nil_append, am_bi0, am_bi1, am_bft, true_and, reduceCtorEq, or_false, false_or, or_true, true_or, am_gd, am_incn, am_lk_nat, Int.toNat_natCast, ↓reduceIte, Int.reduceEq, hl.1, am_led_net hl, eg]
    rw [if_neg (by omega), am_has_tb (by omega) (by omega), v_giv_s]
    cases Nat.testBit x k with
    | true =>
      rw [if_neg (by simp), am_add_ok (by split <;> omega) (by split <;> omega)]
      rfl
    | false =>
      rw [if_pos rfl]
      show _ = am_Wp d 87 4 [some (Sum.inr (Sum.inr 42)), some (Sum.inl ((x : Int))), some (Sum.inl (v_giv (am_wv h 2) x k + 0)), some (Sum.inl (((k + 1 : Nat) : Int)))] [] (am_SH L, h, am_RR kp) Q
      rw [Int.add_zero]
  · show am_Wp d 87 4 [some (Sum.inr (Sum.inr 42)), some (Sum.inl ((x : Int))), some (Sum.inl (v_giv (am_wv h 2) x (h 2 0).toNat)), some (Sum.inl ((((h 2 0).toNat : Nat) : Int)))] [] (am_SH L, h, am_RR kp) Q = _
    refine (bq_Settlement_given_4 (by omega)).trans ?_
    simp (disch := first | exact hv | omega) only [bq_Settlement_given_0, bq_Settlement_given_9, bq_Settlement_given_17, bq_Settlement_given_33, bq_Settlement_given_27, sp_Ledger_people, sp_has, sp_Ledger_netOf, Option.toList_some, Option.toList_none, List.cons_append, List.nil_append, am_bi0, am_bi1, am_bft, true_and, reduceCtorEq, or_false, false_or, or_true, true_or, am_gd, am_incn, am_lk_nat, Int.toNat_natCast, ↓reduceIte, Int.reduceEq, hl.1]
    rw [if_pos (by omega)]
theorem sp_Settlement_taken {d L kp : Nat} {h : Nat → Nat → Int} {Q : Option am_V → am_H → Prop} {x : Nat} (hd : 2 ≤ d) (hv : v_ok (am_wv h 2)) (hl : am_led h) (hx : x < 2 ^ 7) : am_Wp d 88 0 [some (Sum.inr (Sum.inr 42)), some (Sum.inl (x : Int)), none, none] [] (am_SH L, h, am_RR kp) Q = Q (some (Sum.inl (v_tak (am_wv h 2) x (h 2 0).toNat))) (am_SH L, h, am_RR kp) := by
  have hQ := wv_Q hv
  have hP := wv_P hv
  have hD := wv_D hv
  rw [bq_Settlement_taken_0]
  refine am_up_eq (n := (h 2 0).toNat) (fun k => am_Wp d 88 4 [some (Sum.inr (Sum.inr 42)), some (Sum.inl ((x : Int))), some (Sum.inl (v_tak (am_wv h 2) x k)), some (Sum.inl ((k : Int)))] [] (am_SH L, h, am_RR kp) Q) _ (fun k hk => ?_) ?_
  · show am_Wp d 88 4 [some (Sum.inr (Sum.inr 42)), some (Sum.inl ((x : Int))), some (Sum.inl (v_tak (am_wv h 2) x k)), some (Sum.inl ((k : Int)))] [] (am_SH L, h, am_RR kp) Q = am_Wp d 88 4 [some (Sum.inr (Sum.inr 42)), some (Sum.inl ((x : Int))), some (Sum.inl (v_tak (am_wv h 2) x (k + 1))), some (Sum.inl (((k + 1 : Nat) : Int)))] [] (am_SH L, h, am_RR kp) Q
    have b1 := v_tak_le hv (x := x) (n := k) (by omega)
    have b2 := v_net_le hv (i := (k : Int)) (by omega)
    have eg : am_max 0 (v_net (am_wv h 2) (k : Int)) = if 0 < v_net (am_wv h 2) (k : Int) then v_net (am_wv h 2) (k : Int) else 0 := by
      rfl
    refine (bq_Settlement_taken_4 (by omega)).trans ?_
    simp (disch := first | exact hv | omega) only [bq_Settlement_taken_0, bq_Settlement_taken_9, bq_Settlement_taken_17, bq_Settlement_taken_32, bq_Settlement_taken_27, sp_Ledger_people, sp_has, sp_Ledger_netOf, Option.toList_some, Option.toList_none, List.cons_append, List.nil_append, am_bi0, am_bi1, am_bft, true_and, reduceCtorEq, or_false, false_or, or_true, true_or, am_gd, am_incn, am_lk_nat, Int.toNat_natCast, ↓reduceIte, Int.reduceEq, hl.1, am_led_net hl, eg]
    rw [if_neg (by omega), am_has_tb (by omega) (by omega), v_tak_s]
    cases Nat.testBit x k with
    | true =>
      rw [if_neg (by simp), am_add_ok (by split <;> omega) (by split <;> omega)]
      rfl
    | false =>
      rw [if_pos rfl]
      show _ = am_Wp d 88 4 [some (Sum.inr (Sum.inr 42)), some (Sum.inl ((x : Int))), some (Sum.inl (v_tak (am_wv h 2) x k + 0)), some (Sum.inl (((k + 1 : Nat) : Int)))] [] (am_SH L, h, am_RR kp) Q
      rw [Int.add_zero]
  · show am_Wp d 88 4 [some (Sum.inr (Sum.inr 42)), some (Sum.inl ((x : Int))), some (Sum.inl (v_tak (am_wv h 2) x (h 2 0).toNat)), some (Sum.inl ((((h 2 0).toNat : Nat) : Int)))] [] (am_SH L, h, am_RR kp) Q = _
    refine (bq_Settlement_taken_4 (by omega)).trans ?_
    simp (disch := first | exact hv | omega) only [bq_Settlement_taken_0, bq_Settlement_taken_9, bq_Settlement_taken_17, bq_Settlement_taken_32, bq_Settlement_taken_27, sp_Ledger_people, sp_has, sp_Ledger_netOf, Option.toList_some, Option.toList_none, List.cons_append, List.nil_append, am_bi0, am_bi1, am_bft, true_and, reduceCtorEq, or_false, false_or, or_true, true_or, am_gd, am_incn, am_lk_nat, Int.toNat_natCast, ↓reduceIte, Int.reduceEq, hl.1]
    rw [if_pos (by omega)]
def v_cy (V : am_Vw) (p : Int) (a : Nat) : Nat := am_bm (v_fm V p) (vP V).toNat a (vP V).toNat
def v_mn (V : am_Vw) (x : Nat) : Int := am_min (v_giv V x (vP V).toNat) (v_tak V x (vP V).toNat)
def v_set (V : am_Vw) (p : Int) (n : Nat) : Nat × Int := am_for (fun a s => bif Nat.testBit s.1 a then s else (s.1 ||| v_cy V p a, s.2 + v_mn V (v_cy V p a))) n (0, 0)
theorem v_set_s {V : am_Vw} {p : Int} {n : Nat} : v_set V p (n + 1) = bif Nat.testBit (v_set V p n).1 n then v_set V p n else ((v_set V p n).1 ||| v_cy V p n, (v_set V p n).2 + v_mn V (v_cy V p n)) := rfl
theorem v_mn_le {V : am_Vw} (hv : v_ok V) {x : Nat} : 0 ≤ v_mn V x ∧ v_mn V x ≤ 4480 := by
  have hP := v_ok_P hv
  exact am_min_le (v_giv_le hv (by omega)) (v_tak_le hv (by omega))
theorem v_set_le {V : am_Vw} (hv : v_ok V) {p : Int} {n : Nat} (hn : (n : Int) ≤ vP V) : (v_set V p n).1 < 2 ^ 7 ∧ 0 ≤ (v_set V p n).2 ∧ (v_set V p n).2 ≤ (n : Int) * 4480 := by
  induction n with
  | zero => exact ⟨(by decide : (0 : Nat) < 2 ^ 7), (by decide : (0 : Int) ≤ 0), (by decide : (0 : Int) ≤ ((0 : Nat) : Int) * 4480)⟩
  | succ n ih =>
    have h1 := ih (by omega)
    rw [v_set_s]
    cases Nat.testBit (v_set V p n).1 n with
    | true => exact ⟨h1.1, h1.2.1, by have := h1.2.2; show (v_set V p n).2 ≤ _; omega⟩
    | false =>
      have h2 := v_mn_le hv (x := v_cy V p n)
      refine ⟨Nat.or_lt_two_pow h1.1 (v_bm_lt hv (by omega)), ?_, ?_⟩
      · show 0 ≤ (v_set V p n).2 + v_mn V (v_cy V p n); omega
      · show (v_set V p n).2 + v_mn V (v_cy V p n) ≤ _; omega
def v_cut (V : am_Vw) (p : Int) (n : Nat) : Nat := am_for (fun a s => if v_tak V (v_cy V p a) (vP V).toNat < v_giv V (v_cy V p a) (vP V).toNat then s ||| v_cy V p a else s) n 0
theorem v_cut_s {V : am_Vw} {p : Int} {n : Nat} : v_cut V p (n + 1) = if v_tak V (v_cy V p n) (vP V).toNat < v_giv V (v_cy V p n) (vP V).toNat then v_cut V p n ||| v_cy V p n else v_cut V p n := rfl
theorem v_cut_lt {V : am_Vw} (hv : v_ok V) {p : Int} {n : Nat} (hn : (n : Int) ≤ vP V) : v_cut V p n < 2 ^ 7 := by
  induction n with
  | zero => exact (by decide : 0 < 2 ^ 7)
  | succ n ih =>
    have h1 := ih (by omega)
    rw [v_cut_s]
    split
    · exact Nat.or_lt_two_pow h1 (v_bm_lt hv (by omega))
    · exact h1
theorem lp_Settlement_settled {d L kp : Nat} {h : Nat → Nat → Int} {Q : Option am_V → am_H → Prop} {p : Int} (j : Option am_V × Option am_V) (hd : 3 ≤ d) (hv : v_ok (am_wv h 2)) (hl : am_led h) (hc : am_co h p) : am_Wp d 84 8 [j.1, some (Sum.inr (Sum.inr 42)), some (Sum.inr (Sum.inr 45)), some (Sum.inl ((v_set (am_wv h 2) p 0).2)), some (Sum.inl ((((v_set (am_wv h 2) p 0).1 : Nat) : Int))), some (Sum.inl (0)), j.2] [] (am_SH L, h, am_RR kp) Q = Q (some (Sum.inl ((v_set (am_wv h 2) p (h 2 0).toNat).2))) (am_SH L, h, am_RR kp) := by
  have hQ := wv_Q hv
  have hP := wv_P hv
  have hD := wv_D hv
  refine am_dn_eq (J := Option am_V × Option am_V) (n := (h 2 0).toNat) (fun a j => am_Wp d 84 8 [j.1, some (Sum.inr (Sum.inr 42)), some (Sum.inr (Sum.inr 45)), some (Sum.inl ((v_set (am_wv h 2) p a).2)), some (Sum.inl ((((v_set (am_wv h 2) p a).1 : Nat) : Int))), some (Sum.inl ((a : Int))), j.2] [] (am_SH L, h, am_RR kp) Q) (Q (some (Sum.inl ((v_set (am_wv h 2) p (h 2 0).toNat).2))) (am_SH L, h, am_RR kp)) (fun a ha ih j => ?_) (fun j => ?_) j
  · have ih2 : ∀ j : Option am_V × Option am_V, am_Wp d 84 8 [j.1, some (Sum.inr (Sum.inr 42)), some (Sum.inr (Sum.inr 45)), some (Sum.inl ((v_set (am_wv h 2) p (a + 1)).2)), some (Sum.inl ((((v_set (am_wv h 2) p (a + 1)).1 : Nat) : Int))), some (Sum.inl (((a + 1 : Nat) : Int))), j.2] [] (am_SH L, h, am_RR kp) Q = Q (some (Sum.inl ((v_set (am_wv h 2) p (h 2 0).toNat).2))) (am_SH L, h, am_RR kp) := ih
    clear ih
    have b0 := v_set_le hv (p := p) (n := a) (by show (a : Int) ≤ h 2 0; omega)
    have b1 : v_cy (am_wv h 2) p a < 2 ^ 7 := v_bm_lt hv (by show (a : Int) < h 2 0; omega)
    have b2 := v_mn_le hv (x := v_cy (am_wv h 2) p a)
    refine (bq_Settlement_settled_8 (by omega)).trans ?_
    simp (disch := first | exact hv | omega) only [bq_Settlement_settled_0, bq_Settlement_settled_14, bq_Settlement_settled_24, bq_Settlement_settled_60, bq_Settlement_settled_33, bq_Settlement_settled_49, bq_Settlement_settled_55, sp_Ledger_people, sp_has, sp_Settlement_given, sp_Settlement_taken, Option.toList_some, Option.toList_none, List.cons_append, List.nil_append, am_bi0, am_bi1, am_bft, true_and, reduceCtorEq, or_false, false_or, or_true, true_or, am_gd, am_incn, am_lk_nat, Int.toNat_natCast, ↓reduceIte, Int.reduceEq, hl.1]
    rw [if_neg (by omega), am_has_tb (by omega) (by omega)]
    rw [v_set_s] at ih2
    revert ih2
    cases Nat.testBit (v_set (am_wv h 2) p a).1 a with
    | true =>
      intro ih2
      rw [if_neg (by simp)]
      exact ih2 j
    | false =>
      intro ih2
      rw [if_pos rfl, sp_Company_allFrom (by omega) hv hc (by omega)]
      have ec : am_bm (v_fm (am_wv h 2) p) (h 2 0).toNat a (h 2 0).toNat = v_cy (am_wv h 2) p a := rfl
      rw [ec]
      simp (disch := first | exact hv | exact hl | omega) only [bq_Settlement_settled_0, bq_Settlement_settled_14, bq_Settlement_settled_24, bq_Settlement_settled_60, bq_Settlement_settled_33, bq_Settlement_settled_49, bq_Settlement_settled_55, sp_Ledger_people, sp_has, sp_Settlement_given, sp_Settlement_taken, Option.toList_some, Option.toList_none, List.cons_append, List.nil_append, am_bi0, am_bi1, am_bft, true_and, reduceCtorEq, or_false, false_or, or_true, true_or, am_gd, am_incn, am_lk_nat, Int.toNat_natCast, ↓reduceIte, Int.reduceEq, hl.1, sp_Settlement_given, sp_Settlement_taken]
      rw [am_or_ok (by omega) (by omega)]
      have em : am_min (v_giv (am_wv h 2) (v_cy (am_wv h 2) p a) (h 2 0).toNat) (v_tak (am_wv h 2) (v_cy (am_wv h 2) p a) (h 2 0).toNat) = v_mn (am_wv h 2) (v_cy (am_wv h 2) p a) := rfl
      rw [em, am_add_ok (by omega) (by omega)]
      exact ih2 (j.1, some (Sum.inl ((v_cy (am_wv h 2) p a : Nat) : Int)))
  · refine (bq_Settlement_settled_8 (by omega)).trans ?_
    simp (disch := first | exact hv | omega) only [bq_Settlement_settled_0, bq_Settlement_settled_14, bq_Settlement_settled_24, bq_Settlement_settled_60, bq_Settlement_settled_33, bq_Settlement_settled_49, bq_Settlement_settled_55, sp_Ledger_people, sp_has, sp_Settlement_given, sp_Settlement_taken, Option.toList_some, Option.toList_none, List.cons_append, List.nil_append, am_bi0, am_bi1, am_bft, true_and, reduceCtorEq, or_false, false_or, or_true, true_or, am_gd, am_incn, am_lk_nat, Int.toNat_natCast, ↓reduceIte, Int.reduceEq, hl.1]
    rw [if_pos (by omega)]
theorem sp_Settlement_settled {d L kp : Nat} {h : Nat → Nat → Int} {Q : Option am_V → am_H → Prop} {p : Int} (hd : 3 ≤ d) (hv : v_ok (am_wv h 2)) (hl : am_led h) (hc : am_co h p) : am_Wp d 84 0 [some (Sum.inr (Sum.inr 47)), some (Sum.inr (Sum.inr 42)), some (Sum.inr (Sum.inr 45)), none, none, none, none] [] (am_SH L, h, am_RR kp) Q = Q (some (Sum.inl ((v_set (am_wv h 2) p (h 2 0).toNat).2))) (am_SH L, h, am_RR kp) := by
  rw [bq_Settlement_settled_0]
  exact lp_Settlement_settled (some (Sum.inr (Sum.inr 47)), none) hd hv hl hc
theorem lp_Settlement_cut {d L kp : Nat} {h : Nat → Nat → Int} {Q : Option am_V → am_H → Prop} {p : Int} (j : Option am_V × Option am_V) (hd : 3 ≤ d) (hv : v_ok (am_wv h 2)) (hl : am_led h) (hc : am_co h p) : am_Wp d 89 5 [j.1, some (Sum.inr (Sum.inr 42)), some (Sum.inr (Sum.inr 45)), some (Sum.inl (((v_cut (am_wv h 2) p 0 : Nat) : Int))), some (Sum.inl (0)), j.2] [] (am_SH L, h, am_RR kp) Q = Q (some (Sum.inl (((v_cut (am_wv h 2) p (h 2 0).toNat : Nat) : Int)))) (am_SH L, h, am_RR kp) := by
  have hQ := wv_Q hv
  have hP := wv_P hv
  have hD := wv_D hv
  refine am_dn_eq (J := Option am_V × Option am_V) (n := (h 2 0).toNat) (fun a j => am_Wp d 89 5 [j.1, some (Sum.inr (Sum.inr 42)), some (Sum.inr (Sum.inr 45)), some (Sum.inl (((v_cut (am_wv h 2) p a : Nat) : Int))), some (Sum.inl ((a : Int))), j.2] [] (am_SH L, h, am_RR kp) Q) (Q (some (Sum.inl (((v_cut (am_wv h 2) p (h 2 0).toNat : Nat) : Int)))) (am_SH L, h, am_RR kp)) (fun a ha ih j => ?_) (fun j => ?_) j
  · have ih2 : ∀ j : Option am_V × Option am_V, am_Wp d 89 5 [j.1, some (Sum.inr (Sum.inr 42)), some (Sum.inr (Sum.inr 45)), some (Sum.inl (((v_cut (am_wv h 2) p (a + 1) : Nat) : Int))), some (Sum.inl (((a + 1 : Nat) : Int))), j.2] [] (am_SH L, h, am_RR kp) Q = Q (some (Sum.inl (((v_cut (am_wv h 2) p (h 2 0).toNat : Nat) : Int)))) (am_SH L, h, am_RR kp) := ih
    clear ih
    have b0 := v_cut_lt hv (p := p) (n := a) (by show (a : Int) ≤ h 2 0; omega)
    have b1 : v_cy (am_wv h 2) p a < 2 ^ 7 := v_bm_lt hv (by show (a : Int) < h 2 0; omega)
    refine (bq_Settlement_cut_5 (by omega)).trans ?_
    simp (disch := first | exact hv | omega) only [bq_Settlement_cut_0, bq_Settlement_cut_11, bq_Settlement_cut_20, bq_Settlement_cut_28, bq_Settlement_cut_34, bq_Settlement_cut_42, sp_Ledger_people, sp_Settlement_given, sp_Settlement_taken, Option.toList_some, Option.toList_none, List.cons_append, List.nil_append, am_bi0, am_bi1, am_bft, true_and, reduceCtorEq, or_false, false_or, or_true, true_or, am_gd, am_incn, am_lk_nat, Int.toNat_natCast, ↓reduceIte, Int.reduceEq, hl.1]
    rw [if_neg (by omega), sp_Company_allFrom (by omega) hv hc (by omega)]
    have ec : am_bm (v_fm (am_wv h 2) p) (h 2 0).toNat a (h 2 0).toNat = v_cy (am_wv h 2) p a := rfl
    rw [ec]
    simp (disch := first | exact hv | exact hl | omega) only [bq_Settlement_cut_0, bq_Settlement_cut_11, bq_Settlement_cut_20, bq_Settlement_cut_28, bq_Settlement_cut_34, bq_Settlement_cut_42, sp_Ledger_people, sp_Settlement_given, sp_Settlement_taken, Option.toList_some, Option.toList_none, List.cons_append, List.nil_append, am_bi0, am_bi1, am_bft, true_and, reduceCtorEq, or_false, false_or, or_true, true_or, am_gd, am_incn, am_lk_nat, Int.toNat_natCast, ↓reduceIte, Int.reduceEq, hl.1, sp_Settlement_given, sp_Settlement_taken]
    rw [v_cut_s] at ih2
    have ep : vP (am_wv h 2) = h 2 0 := rfl
    rw [ep] at ih2
    by_cases q1 : v_tak (am_wv h 2) (v_cy (am_wv h 2) p a) (h 2 0).toNat < v_giv (am_wv h 2) (v_cy (am_wv h 2) p a) (h 2 0).toNat
    · rw [if_pos q1] at ih2
      rw [if_neg (by omega), am_or_ok (by omega) (by omega)]
      exact ih2 (j.1, some (Sum.inl ((v_cy (am_wv h 2) p a : Nat) : Int)))
    · rw [if_neg q1] at ih2
      rw [if_pos (by omega)]
      exact ih2 (j.1, some (Sum.inl ((v_cy (am_wv h 2) p a : Nat) : Int)))
  · refine (bq_Settlement_cut_5 (by omega)).trans ?_
    simp (disch := first | exact hv | omega) only [bq_Settlement_cut_0, bq_Settlement_cut_11, bq_Settlement_cut_20, bq_Settlement_cut_28, bq_Settlement_cut_34, bq_Settlement_cut_42, sp_Ledger_people, sp_Settlement_given, sp_Settlement_taken, Option.toList_some, Option.toList_none, List.cons_append, List.nil_append, am_bi0, am_bi1, am_bft, true_and, reduceCtorEq, or_false, false_or, or_true, true_or, am_gd, am_incn, am_lk_nat, Int.toNat_natCast, ↓reduceIte, Int.reduceEq, hl.1]
    rw [if_pos (by omega)]
theorem sp_Settlement_cut {d L kp : Nat} {h : Nat → Nat → Int} {Q : Option am_V → am_H → Prop} {p : Int} (hd : 3 ≤ d) (hv : v_ok (am_wv h 2)) (hl : am_led h) (hc : am_co h p) : am_Wp d 89 0 [some (Sum.inr (Sum.inr 47)), some (Sum.inr (Sum.inr 42)), some (Sum.inr (Sum.inr 45)), none, none, none] [] (am_SH L, h, am_RR kp) Q = Q (some (Sum.inl (((v_cut (am_wv h 2) p (h 2 0).toNat : Nat) : Int)))) (am_SH L, h, am_RR kp) := by
  rw [bq_Settlement_cut_0]
  exact lp_Settlement_cut (some (Sum.inr (Sum.inr 47)), none) hd hv hl hc