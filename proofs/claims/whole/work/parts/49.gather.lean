/-! gather -/
theorem lp_Votes_gather {d L kp : Nat} {h : Nat → Nat → Int} {Q : Option am_V → am_H → Prop} {x : Int} (hd : 2 ≤ d) (hv : v_ok (am_wv h 2)) : am_Wp d 111 20 [some (Sum.inr (Sum.inr 61)), some (Sum.inr (Sum.inr 2)), some (Sum.inl x), some (Sum.inl 0)] [] (am_SH L, am_votk h (am_wv h 2) x 0, am_RR kp) Q = am_Wp d 111 20 [some (Sum.inr (Sum.inr 61)), some (Sum.inr (Sum.inr 2)), some (Sum.inl x), some (Sum.inl (((h 2 1).toNat : Nat) : Int))] [] (am_SH L, am_votk h (am_wv h 2) x (h 2 1).toNat, am_RR kp) Q := by
  have hQ := wv_Q hv
  have hP := wv_P hv
  have hD := wv_D hv
  refine am_up_eq (n := (h 2 1).toNat) (fun k => am_Wp d 111 20 [some (Sum.inr (Sum.inr 61)), some (Sum.inr (Sum.inr 2)), some (Sum.inl x), some (Sum.inl (k : Int))] [] (am_SH L, am_votk h (am_wv h 2) x k, am_RR kp) Q) (am_Wp d 111 20 [some (Sum.inr (Sum.inr 61)), some (Sum.inr (Sum.inr 2)), some (Sum.inl x), some (Sum.inl (((h 2 1).toNat : Nat) : Int))] [] (am_SH L, am_votk h (am_wv h 2) x (h 2 1).toNat, am_RR kp) Q) (fun k hk => ?_) rfl
  show am_Wp d 111 20 [some (Sum.inr (Sum.inr 61)), some (Sum.inr (Sum.inr 2)), some (Sum.inl x), some (Sum.inl (k : Int))] [] (am_SH L, am_votk h (am_wv h 2) x k, am_RR kp) Q = am_Wp d 111 20 [some (Sum.inr (Sum.inr 61)), some (Sum.inr (Sum.inr 2)), some (Sum.inl x), some (Sum.inl ((k + 1 : Nat) : Int))] [] (am_SH L, am_votk h (am_wv h 2) x (k + 1), am_RR kp) Q
  have hp1 := wv_p hv k (by omega)
  have hq1 := wv_q hv k (by omega)
  have hw1 := wv_w hv k (by omega)
  have ho1 : v_open (am_wv h 2) (k : Int) = decide (h 12 k = 0) := v_open_nat hv (show (k : Int) < h 2 1 by omega)
  obtain ⟨c, hc⟩ := Int.eq_ofNat_of_zero_le hp1.2.1.1
  have ew : am_wv (am_votk h (am_wv h 2) x k) 2 = (am_wv h 2) := rfl
  have e21 : am_votk h (am_wv h 2) x k 2 1 = h 2 1 := rfl
  have e7 : am_votk h (am_wv h 2) x k 7 = h 7 := rfl
  have e8 : am_votk h (am_wv h 2) x k 8 = h 8 := rfl
  have e9 : am_votk h (am_wv h 2) x k 9 = h 9 := rfl
  have f8 : ∀ v, am_up (am_votk h (am_wv h 2) x k) 62 c v 8 = h 8 := fun v => rfl
  have f9 : ∀ v u, am_up (am_up (am_votk h (am_wv h 2) x k) 62 c v) 61 1 u 9 = h 9 := fun v u => rfl
  have f61 : ∀ v, am_up (am_votk h (am_wv h 2) x k) 62 c v 61 1 = ((v_vh (am_wv h 2) x k : Nat) : Int) := fun v => rfl
  have f63 : ∀ v u, am_up (am_up (am_votk h (am_wv h 2) x k) 62 c v) 61 1 u 61 3 = v_va (am_wv h 2) x k := fun v u => rfl
  have e62 : am_votk h (am_wv h 2) x k 62 c = v_vt (am_wv h 2) x k c := by
    have hc7 : c < 7 := by omega
    unfold am_votk
    rw [if_pos rfl, if_pos hc7]
  refine (bq_Votes_gather_20 (by omega)).trans ?_
  simp (disch := omega) only [bq_Votes_gather_0, bq_Votes_gather_8, bq_Votes_gather_25, bq_Votes_gather_106, bq_Votes_gather_33, bq_Votes_gather_92, bq_Votes_gather_41, bq_Votes_gather_54, bq_Votes_gather_59, bq_Votes_gather_62, bq_Votes_gather_73, bq_Votes_gather_88, sp_World_papers_2, sp_World_isOpen_2, sp_World_debtorOf_2, sp_World_holderOf_2, sp_World_quartersOf_2, Option.toList_some, Option.toList_none, List.cons_append, List.nil_append, am_bi0, am_bi1, am_bft, true_and, reduceCtorEq, or_false, false_or, or_true, true_or, am_gd, am_incn, am_lk_nat, Int.toNat_natCast, ↓reduceIte, Int.reduceEq, ew, e21, e7, ho1, decide_eq_false_iff_not]
  rw [if_neg (by omega)]
  by_cases hT : h 12 k = 0
  · rw [if_neg (not_not_intro hT)]
    by_cases hO : h 7 k = x
    · have s1 := am_votk_s (h := h) (e := x) hv (k := k) (by omega) ⟨hT, hO⟩ hc
      rw [if_pos hO]
      simp (disch := omega) only [e8, e9, f8, f9, f61, f63, e62, hc, sp_World_holderOf_2, sp_World_quartersOf_2, sp_increase_62, bq_Votes_gather_0, bq_Votes_gather_8, bq_Votes_gather_25, bq_Votes_gather_106, bq_Votes_gather_33, bq_Votes_gather_92, bq_Votes_gather_41, bq_Votes_gather_54, bq_Votes_gather_59, bq_Votes_gather_62, bq_Votes_gather_73, bq_Votes_gather_88, Option.toList_some, Option.toList_none, List.cons_append, List.nil_append, am_incn, am_lk_nat, am_put_nat, s1]
    · rw [if_neg hO, am_votk_n (fun w => hO w.2)]
  · rw [if_pos hT, am_votk_n (fun w => hT w.1)]
