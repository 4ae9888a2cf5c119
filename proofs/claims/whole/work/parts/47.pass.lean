/-! DAYS PASS (class): what falls due on one -/
theorem lp_World_passDays_2 {d L kp : Nat} {h : Nat → Nat → Int} {Q : Option am_V → am_H → Prop} {x y : Int} {E : Prop} (j : Option am_V) (hd : 3 ≤ d) (hv : v_ok (am_wv h 2)) (hE : ∀ j : Option am_V, am_Wp d 38 19 [some (Sum.inr (Sum.inr 2)), some (Sum.inl x), some (Sum.inl (am_add y 1)), some (Sum.inl ((v_dueb (am_wv h 2) (h 2 1).toNat : Nat) : Int)), some (Sum.inl (((h 2 1).toNat : Nat) : Int)), j] [] (am_SH L, am_up (am_falk 5 12 h (am_wv h 2) (h 2 1).toNat) 2 2 (am_add (h 2 2) 1), am_RR kp) Q = E) : am_Wp d 38 32 [some (Sum.inr (Sum.inr 2)), some (Sum.inl x), some (Sum.inl y), some (Sum.inl ((v_dueb (am_wv h 2) (h 2 1).toNat : Nat) : Int)), some (Sum.inl 0), j] [] (am_SH L, am_falk 5 12 h (am_wv h 2) 0, am_RR kp) Q = E := by
  have hQ := wv_Q hv
  have hP := wv_P hv
  have hD := wv_D hv
  refine am_dn_eq (J := Option am_V) (n := (h 2 1).toNat) (fun k j => am_Wp d 38 32 [some (Sum.inr (Sum.inr 2)), some (Sum.inl x), some (Sum.inl y), some (Sum.inl ((v_dueb (am_wv h 2) (h 2 1).toNat : Nat) : Int)), some (Sum.inl (k : Int)), j] [] (am_SH L, am_falk 5 12 h (am_wv h 2) k, am_RR kp) Q) (E) (fun k hk ih j => ?_) (fun j => ?_) j
  · have ih2 : ∀ j : Option am_V, am_Wp d 38 32 [some (Sum.inr (Sum.inr 2)), some (Sum.inl x), some (Sum.inl y), some (Sum.inl ((v_dueb (am_wv h 2) (h 2 1).toNat : Nat) : Int)), some (Sum.inl ((k + 1 : Nat) : Int)), j] [] (am_SH L, am_falk 5 12 h (am_wv h 2) (k + 1), am_RR kp) Q = E := ih
    clear ih hE
    have hp1 := wv_p hv k (by omega)
    obtain ⟨c, hc⟩ := Int.eq_ofNat_of_zero_le hp1.2.1.1
    have ew : am_wv (am_falk 5 12 h (am_wv h 2) k) 2 = (am_wv (am_falk 5 12 h (am_wv h 2) k) 2) := rfl
    have e21 : am_falk 5 12 h (am_wv h 2) k 2 1 = h 2 1 := rfl
    have e8 : am_falk 5 12 h (am_wv h 2) k 8 = h 8 := rfl
    have e9 : am_falk 5 12 h (am_wv h 2) k 9 = h 9 := rfl
    have e5 : am_falk 5 12 h (am_wv h 2) k 5 c = v_ki (am_wv h 2) k c := rfl
    have ep : v_paid (am_wv (am_falk 5 12 h (am_wv h 2) k) 2) (k : Int) = v_paid (am_wv h 2) (k : Int) := rfl
    have hlt := am_bits_lt (n := (h 2 1).toNat) (c := fun p => v_due (am_wv h 2) p)
    have hlt2 : v_dueb (am_wv h 2) (h 2 1).toNat < 2 ^ (h 2 1).toNat := hlt
    have hlt3 : 2 ^ (h 2 1).toNat ≤ 2 ^ 16 := Nat.pow_le_pow_right (by omega) (by omega)
    have eh : am_has ((v_dueb (am_wv h 2) (h 2 1).toNat : Nat) : Int) (k : Int) = v_due (am_wv h 2) k := by
      rw [am_has_tb (by omega) (by omega)]
      unfold v_dueb
      rw [am_bits_tb, decide_eq_true hk, Bool.true_and]
    show am_Wp d 38 32 [some (Sum.inr (Sum.inr 2)), some (Sum.inl x), some (Sum.inl y), some (Sum.inl ((v_dueb (am_wv h 2) (h 2 1).toNat : Nat) : Int)), some (Sum.inl (k : Int)), j] [] (am_SH L, am_falk 5 12 h (am_wv h 2) k, am_RR kp) Q = _
    refine (bq_World_passDays_32 (by omega)).trans ?_
    rw [e21, if_neg (by omega), sp_has, eh]
    simp only [Option.toList_some, List.cons_append, List.nil_append]
    rw [bq_World_passDays_47 (by omega)]
    cases hdu : v_due (am_wv h 2) k
    · simp (disch := omega) only [am_bi, ↓reduceIte, bq_World_passDays_101, bq_World_passDays_116, am_incn]
      rw [am_falk_n hdu] at ih2
      exact ih2 _
    · rw [if_neg (by show ¬ (1 : Int) = 0; omega), sp_World_wouldBePaid_2 (by omega), ep]
      simp only [Option.toList_some, List.cons_append, List.nil_append]
      rw [bq_World_passDays_60 (by omega)]
      cases hpd : v_paid (am_wv h 2) (k : Int)
      · simp (disch := omega) only [am_bi, ↓reduceIte, Int.reduceEq, bq_World_passDays_101, sp_put_12, Option.toList_none, List.nil_append, bq_World_passDays_116, am_incn, am_put_nat]
        rw [am_falk_l hdu hpd]
        exact ih2 _
      · have s1 := am_falk_p (bs := 5) (bt := 12) (h := h) (V := (am_wv h 2)) (n := k) (by omega) hdu hpd hc
        simp (disch := omega) only [am_bi, ↓reduceIte, Int.reduceEq, sp_at_8, sp_at_9, e8, e9, am_lk_nat, hc, Option.toList_some, Option.toList_none, List.cons_append, List.nil_append, bq_World_passDays_76, bq_World_passDays_85, bq_World_passDays_88, bq_World_passDays_98, sp_increase_5, sp_put_12, bq_World_passDays_116, am_incn, am_put_nat, e5]
        refine Eq.trans ?_ (ih2 (some (Sum.inl 1)))
        rw [← s1]
  · show am_Wp d 38 32 [some (Sum.inr (Sum.inr 2)), some (Sum.inl x), some (Sum.inl y), some (Sum.inl ((v_dueb (am_wv h 2) (h 2 1).toNat : Nat) : Int)), some (Sum.inl (((h 2 1).toNat : Nat) : Int)), j] [] (am_SH L, am_falk 5 12 h (am_wv h 2) (h 2 1).toNat, am_RR kp) Q = _
    have e21 : am_falk 5 12 h (am_wv h 2) (h 2 1).toNat 2 1 = h 2 1 := rfl
    have e22 : am_falk 5 12 h (am_wv h 2) (h 2 1).toNat 2 2 = h 2 2 := rfl
    refine (bq_World_passDays_32 (by omega)).trans ?_
    rw [e21, if_pos (by omega), e22]
    exact hE j
