/-! DAYS ON THE DRAFT -/
theorem wd_p {h : Nat → Nat → Int} (hv : v_ok (am_wv h 29)) (p : Nat) (hp : p < 16) : (0 ≤ h 34 p ∧ h 34 p ≤ 6) ∧ (0 ≤ h 35 p ∧ h 35 p ≤ 6) ∧ (0 ≤ h 36 p ∧ h 36 p ≤ 40) ∧ (0 ≤ h 37 p ∧ h 37 p ≤ 98) ∧ (0 ≤ h 38 p ∧ h 38 p ≤ 1) ∧ (0 ≤ h 39 p ∧ h 39 p ≤ 3) := v_ok_p hv p hp
theorem wd_q {h : Nat → Nat → Int} (hv : v_ok (am_wv h 29)) (p : Nat) (hp : (p : Int) < h 29 1) : h 34 p < h 29 0 ∧ h 35 p < h 29 0 ∧ 1 ≤ h 36 p := v_ok_q hv p hp
theorem wd_P {h : Nat → Nat → Int} (hv : v_ok (am_wv h 29)) : 0 ≤ h 29 0 ∧ h 29 0 ≤ 7 := hv.1
theorem wd_Q {h : Nat → Nat → Int} (hv : v_ok (am_wv h 29)) : 0 ≤ h 29 1 ∧ h 29 1 ≤ 16 := hv.2.1
theorem wd_D {h : Nat → Nat → Int} (hv : v_ok (am_wv h 29)) : 0 ≤ h 29 2 ∧ h 29 2 ≤ 99 := hv.2.2.1
theorem wd_w {h : Nat → Nat → Int} (hv : v_ok (am_wv h 29)) (p : Nat) (hp : p < 16) : 0 ≤ v_worth (am_wv h 29) (p : Int) ∧ v_worth (am_wv h 29) (p : Int) ≤ h 36 p := v_worth_le hv hp
theorem lp_World_dueToday_29 {d L kp : Nat} {h : Nat → Nat → Int} {Q : Option am_V → am_H → Prop} (hd : 2 ≤ d) (hv : v_ok (am_wv h 29)) : am_Wp d 39 4 [some (Sum.inr (Sum.inr 29)), some (Sum.inl (0)), some (Sum.inl (0))] [] (am_SH L, h, am_RR kp) Q = Q (some (Sum.inl (((v_dueb (am_wv h 29) (h 29 1).toNat : Nat) : Int)))) (am_SH L, h, am_RR kp) := by
  have hQ := wd_Q hv
  have hP := wd_P hv
  have hD := wd_D hv
  refine am_up_eq (n := (h 29 1).toNat) (fun k => am_Wp d 39 4 [some (Sum.inr (Sum.inr 29)), some (Sum.inl (((v_dueb (am_wv h 29) k : Nat) : Int))), some (Sum.inl ((k : Int)))] [] (am_SH L, h, am_RR kp) Q) (Q (some (Sum.inl (((v_dueb (am_wv h 29) (h 29 1).toNat : Nat) : Int)))) (am_SH L, h, am_RR kp)) (fun k hk => ?_) ?_
  · show am_Wp d 39 4 [some (Sum.inr (Sum.inr 29)), some (Sum.inl (((v_dueb (am_wv h 29) k : Nat) : Int))), some (Sum.inl ((k : Int)))] [] (am_SH L, h, am_RR kp) Q = am_Wp d 39 4 [some (Sum.inr (Sum.inr 29)), some (Sum.inl (((v_dueb (am_wv h 29) (k + 1) : Nat) : Int))), some (Sum.inl (((k + 1 : Nat) : Int)))] [] (am_SH L, h, am_RR kp) Q
    have hp1 := wd_p hv k (by omega)
    have hq1 := wd_q hv k (by omega)
    have hw1 := wd_w hv k (by omega)
    have ho1 : v_open (am_wv h 29) (k : Int) = decide (h 39 k = 0) := v_open_nat hv (show (k : Int) < h 29 1 by omega)
    have hdu : (v_due (am_wv h 29) k = true) = (h 39 k = 0 ∧ h 37 k = h 29 2) := decide_eq_true_eq
    rw [v_dueb_s (show k < 30 by omega)] 
    refine (bq_World_dueToday_v2_4 (by omega)).trans ?_
    simp (disch := first | exact hv | omega) only [bq_World_dueToday_v2_0, bq_World_dueToday_v2_17, bq_World_dueToday_v2_41, bq_World_dueToday_v2_28, sp_World_isOpen_29, sp_at_37, Option.toList_some, Option.toList_none, List.cons_append, List.nil_append, am_bi0, am_bi1, am_bft, true_and, reduceCtorEq, or_false, false_or, or_true, true_or, am_gd, am_incn, am_lk_nat, Int.toNat_natCast, ↓reduceIte, Int.reduceEq, ho1, decide_eq_false_iff_not, decide_eq_true_eq, hdu]
    rw [if_neg (by omega)]
    (repeat' split) <;> first | rfl | (simp_all; done) | omega
  · show am_Wp d 39 4 [some (Sum.inr (Sum.inr 29)), some (Sum.inl (((v_dueb (am_wv h 29) ((h 29 1).toNat) : Nat) : Int))), some (Sum.inl ((((h 29 1).toNat : Nat) : Int)))] [] (am_SH L, h, am_RR kp) Q = _
    refine (bq_World_dueToday_v2_4 (by omega)).trans ?_
    simp (disch := first | exact hv | omega) only [bq_World_dueToday_v2_0, bq_World_dueToday_v2_17, bq_World_dueToday_v2_41, bq_World_dueToday_v2_28, sp_World_isOpen_29, sp_at_37, Option.toList_some, Option.toList_none, List.cons_append, List.nil_append, am_bi0, am_bi1, am_bft, true_and, reduceCtorEq, or_false, false_or, or_true, true_or, am_gd, am_incn, am_lk_nat, Int.toNat_natCast, ↓reduceIte, Int.reduceEq]
    rw [if_pos (by omega)]
    try rfl

theorem sp_World_dueToday_29 {d L kp : Nat} {h : Nat → Nat → Int} {Q : Option am_V → am_H → Prop} (hd : 2 ≤ d) (hv : v_ok (am_wv h 29)) : am_Wp d 39 0 [some (Sum.inr (Sum.inr 29)), none, none] [] (am_SH L, h, am_RR kp) Q = Q (some (Sum.inl (((v_dueb (am_wv h 29) (h 29 1).toNat : Nat) : Int)))) (am_SH L, h, am_RR kp) := by
  rw [bq_World_dueToday_v2_0]
  exact lp_World_dueToday_29 hd hv
theorem lp_World_passDays_29 {d L kp : Nat} {h : Nat → Nat → Int} {Q : Option am_V → am_H → Prop} {x y : Int} {E : Prop} (j : Option am_V) (hd : 3 ≤ d) (hv : v_ok (am_wv h 29)) (hE : ∀ j : Option am_V, am_Wp d 38 19 [some (Sum.inr (Sum.inr 29)), some (Sum.inl x), some (Sum.inl (am_add y 1)), some (Sum.inl ((v_dueb (am_wv h 29) (h 29 1).toNat : Nat) : Int)), some (Sum.inl (((h 29 1).toNat : Nat) : Int)), j] [] (am_SH L, am_up (am_falk 32 39 h (am_wv h 29) (h 29 1).toNat) 29 2 (am_add (h 29 2) 1), am_RR kp) Q = E) : am_Wp d 38 32 [some (Sum.inr (Sum.inr 29)), some (Sum.inl x), some (Sum.inl y), some (Sum.inl ((v_dueb (am_wv h 29) (h 29 1).toNat : Nat) : Int)), some (Sum.inl 0), j] [] (am_SH L, am_falk 32 39 h (am_wv h 29) 0, am_RR kp) Q = E := by
  have hQ := wd_Q hv
  have hP := wd_P hv
  have hD := wd_D hv
  refine am_dn_eq (J := Option am_V) (n := (h 29 1).toNat) (fun k j => am_Wp d 38 32 [some (Sum.inr (Sum.inr 29)), some (Sum.inl x), some (Sum.inl y), some (Sum.inl ((v_dueb (am_wv h 29) (h 29 1).toNat : Nat) : Int)), some (Sum.inl (k : Int)), j] [] (am_SH L, am_falk 32 39 h (am_wv h 29) k, am_RR kp) Q) (E) (fun k hk ih j => ?_) (fun j => ?_) j
  · have ih2 : ∀ j : Option am_V, am_Wp d 38 32 [some (Sum.inr (Sum.inr 29)), some (Sum.inl x), some (Sum.inl y), some (Sum.inl ((v_dueb (am_wv h 29) (h 29 1).toNat : Nat) : Int)), some (Sum.inl ((k + 1 : Nat) : Int)), j] [] (am_SH L, am_falk 32 39 h (am_wv h 29) (k + 1), am_RR kp) Q = E := ih
    clear ih hE
    have hp1 := wd_p hv k (by omega)
    obtain ⟨c, hc⟩ := Int.eq_ofNat_of_zero_le hp1.2.1.1
    have e21 : am_falk 32 39 h (am_wv h 29) k 29 1 = h 29 1 := rfl
    have e8 : am_falk 32 39 h (am_wv h 29) k 35 = h 35 := rfl
    have e9 : am_falk 32 39 h (am_wv h 29) k 36 = h 36 := rfl
    have e5 : am_falk 32 39 h (am_wv h 29) k 32 c = v_ki (am_wv h 29) k c := rfl
    have ep : v_paid (am_wv (am_falk 32 39 h (am_wv h 29) k) 29) (k : Int) = v_paid (am_wv h 29) (k : Int) := rfl
    have hlt := am_bits_lt (n := (h 29 1).toNat) (c := fun p => v_due (am_wv h 29) p)
    have hlt2 : v_dueb (am_wv h 29) (h 29 1).toNat < 2 ^ (h 29 1).toNat := hlt
    have hlt3 : 2 ^ (h 29 1).toNat ≤ 2 ^ 16 := Nat.pow_le_pow_right (by omega) (by omega)
    have eh : am_has ((v_dueb (am_wv h 29) (h 29 1).toNat : Nat) : Int) (k : Int) = v_due (am_wv h 29) k := by
      rw [am_has_tb (by omega) (by omega)]
      unfold v_dueb
      rw [am_bits_tb, decide_eq_true hk, Bool.true_and]
    show am_Wp d 38 32 [some (Sum.inr (Sum.inr 29)), some (Sum.inl x), some (Sum.inl y), some (Sum.inl ((v_dueb (am_wv h 29) (h 29 1).toNat : Nat) : Int)), some (Sum.inl (k : Int)), j] [] (am_SH L, am_falk 32 39 h (am_wv h 29) k, am_RR kp) Q = _
    refine (bq_World_passDays_v2_32 (by omega)).trans ?_
    rw [e21, if_neg (by omega), sp_has, eh]
    simp only [Option.toList_some, List.cons_append, List.nil_append]
    rw [bq_World_passDays_v2_47 (by omega)]
    cases hdu : v_due (am_wv h 29) k
    · simp (disch := omega) only [am_bi, ↓reduceIte, bq_World_passDays_v2_101, bq_World_passDays_v2_116, am_incn]
      rw [am_falk_n hdu] at ih2
      exact ih2 _
    · rw [if_neg (by show ¬ (1 : Int) = 0; omega), sp_World_wouldBePaid_29 (by omega), ep]
      simp only [Option.toList_some, List.cons_append, List.nil_append]
      rw [bq_World_passDays_v2_60 (by omega)]
      cases hpd : v_paid (am_wv h 29) (k : Int)
      · simp (disch := omega) only [am_bi, ↓reduceIte, Int.reduceEq, bq_World_passDays_v2_101, sp_put_39, Option.toList_none, List.nil_append, bq_World_passDays_v2_116, am_incn, am_put_nat]
        rw [am_falk_l hdu hpd]
        exact ih2 _
      · have s1 := am_falk_p (bs := 32) (bt := 39) (h := h) (V := (am_wv h 29)) (n := k) (by omega) hdu hpd hc
        simp (disch := omega) only [am_bi, ↓reduceIte, Int.reduceEq, sp_at_35, sp_at_36, e8, e9, am_lk_nat, hc, Option.toList_some, Option.toList_none, List.cons_append, List.nil_append, bq_World_passDays_v2_76, bq_World_passDays_v2_85, bq_World_passDays_v2_88, bq_World_passDays_v2_98, sp_increase_32, sp_put_39, bq_World_passDays_v2_116, am_incn, am_put_nat, e5]
        refine Eq.trans ?_ (ih2 (some (Sum.inl 1)))
        rw [← s1]
  · show am_Wp d 38 32 [some (Sum.inr (Sum.inr 29)), some (Sum.inl x), some (Sum.inl y), some (Sum.inl ((v_dueb (am_wv h 29) (h 29 1).toNat : Nat) : Int)), some (Sum.inl (((h 29 1).toNat : Nat) : Int)), j] [] (am_SH L, am_falk 32 39 h (am_wv h 29) (h 29 1).toNat, am_RR kp) Q = _
    have e21 : am_falk 32 39 h (am_wv h 29) (h 29 1).toNat 29 1 = h 29 1 := rfl
    have e22 : am_falk 32 39 h (am_wv h 29) (h 29 1).toNat 29 2 = h 29 2 := rfl
    refine (bq_World_passDays_v2_32 (by omega)).trans ?_
    rw [e21, if_pos (by omega), e22]
    exact hE j
def am_cday (h : Nat → Nat → Int) : Nat → Nat → Int := am_up (am_falk 32 39 h (am_wv h 29) (h 29 1).toNat) 29 2 (h 29 2 + 1)
def am_crun (h : Nat → Nat → Int) : Nat → Nat → Nat → Int
  | 0 => h
  | k + 1 => am_cday (am_crun h k)
theorem am_cday_w {h : Nat → Nat → Int} : am_wv (am_cday h) 29 = v_day1 (am_wv h 29) := rfl
theorem am_crun_w {h : Nat → Nat → Int} {k : Nat} : am_wv (am_crun h k) 29 = v_run (am_wv h 29) k := by
  induction k with
  | zero => rfl
  | succ k ih =>
    show am_wv (am_cday (am_crun h k)) 29 = v_day1 (v_run (am_wv h 29) k)
    rw [am_cday_w, ih]
theorem am_crun_o {h : Nat → Nat → Int} {k c j : Nat} (hc : ¬ (29 ≤ c ∧ c ≤ 39)) : am_crun h k c j = h c j := by
  induction k with
  | zero => rfl
  | succ k ih =>
    show am_up (am_falk 32 39 (am_crun h k) _ _) 29 2 _ c j = _
    rw [am_upo (by omega)]
    unfold am_falk
    rw [if_neg (by omega), if_neg (by omega), ih]
theorem sp_World_passDays_29 {d L kp : Nat} {h : Nat → Nat → Int} {Q : Option am_V → am_H → Prop} {a : Nat} (hd : 4 ≤ d) (hv : v_ok (am_wv h 29)) (ha : a ≤ 9) (hq1 : vD (am_wv h 29) + (a : Int) ≤ 99 → Q (some (Sum.inl 1)) (am_SH L, am_crun h a, am_RR kp)) (hq2 : ¬ vD (am_wv h 29) + (a : Int) ≤ 99 → Q (some (Sum.inl 0)) (am_SH L, h, am_RR kp)) : am_Wp d 38 0 [some (Sum.inr (Sum.inr 29)), some (Sum.inl (a : Int)), none, none, none, none] [] (am_SH L, h, am_RR kp) Q := by
  have hD := wd_D hv
  have eD : vD (am_wv h 29) = h 29 2 := rfl
  rw [bq_World_passDays_v2_0, if_neg (by omega), am_sub_ok (by omega) (by omega)]
  by_cases q : vD (am_wv h 29) + (a : Int) ≤ 99
  · rw [if_pos (by omega)]
    have key := am_dn_fr (J := Option am_V × Option am_V × Option am_V) (a := 0) (n := a) (fun k j => am_Wp d 38 19 [some (Sum.inr (Sum.inr 29)), some (Sum.inl ((a : Int))), some (Sum.inl ((k : Int))), j.1, j.2.1, j.2.2] [] (am_SH L, am_crun h k, am_RR kp) Q) (Q (some (Sum.inl 1)) (am_SH L, am_crun h a, am_RR kp)) (by omega) (fun k h1 h2 ih j => ?_) (fun j => ?_) (none, none, none)
    · exact (show am_Wp d 38 19 [some (Sum.inr (Sum.inr 29)), some (Sum.inl ((a : Int))), some (Sum.inl (0)), none, none, none] [] (am_SH L, h, am_RR kp) Q = _ from key).mpr (hq1 q)
    · have ih2 : ∀ j : Option am_V × Option am_V × Option am_V, am_Wp d 38 19 [some (Sum.inr (Sum.inr 29)), some (Sum.inl ((a : Int))), some (Sum.inl (((k + 1 : Nat) : Int))), j.1, j.2.1, j.2.2] [] (am_SH L, am_cday (am_crun h k), am_RR kp) Q = (Q (some (Sum.inl 1)) (am_SH L, am_crun h a, am_RR kp)) := ih
      clear ih
      show am_Wp d 38 19 [some (Sum.inr (Sum.inr 29)), some (Sum.inl ((a : Int))), some (Sum.inl ((k : Int))), j.1, j.2.1, j.2.2] [] (am_SH L, am_crun h k, am_RR kp) Q = _
      have eDk : vD (am_wv (am_crun h k) 29) = h 29 2 + (k : Int) := by
        rw [am_crun_w]; exact v_run_c.2.2.1
      have eDk2 : am_crun h k 29 2 = h 29 2 + (k : Int) := eDk
      have hvk : v_ok (am_wv (am_crun h k) 29) := by
        rw [am_crun_w]; exact v_run_ok hv (by omega)
      refine (bq_World_passDays_v2_19 (by omega)).trans ?_
      rw [if_neg (by omega), sp_World_dueToday_29 (by omega) hvk]
      simp only [Option.toList_some, Option.toList_none, List.cons_append, List.nil_append]
      rw [bq_World_passDays_v2_28]
      have h0 := lp_World_passDays_29 (h := am_crun h k) (x := (a : Int)) (y := (k : Int)) (Q := Q) (L := L) (kp := kp) (E := Q (some (Sum.inl 1)) (am_SH L, am_crun h a, am_RR kp)) (d := d) j.2.2 (by omega) hvk (fun j2 => by
        have h3 := ih2 (some (Sum.inl (((v_dueb (am_wv (am_crun h k) 29) (am_crun h k 29 1).toNat : Nat) : Int))), some (Sum.inl ((((am_crun h k 29 1).toNat : Nat) : Int))), j2)
        rw [am_incn (by omega), am_add_ok (by omega) (by omega)]
        exact h3)
      rw [am_falk_0 (V := am_wv (am_crun h k) 29) rfl rfl] at h0
      exact h0
    · show am_Wp d 38 19 [some (Sum.inr (Sum.inr 29)), some (Sum.inl ((a : Int))), some (Sum.inl ((a : Int))), j.1, j.2.1, j.2.2] [] (am_SH L, am_crun h a, am_RR kp) Q = _
      refine (bq_World_passDays_v2_19 (by omega)).trans ?_
      rw [if_pos (by omega)]
  · rw [if_neg (by omega), bq_World_passDays_v2_15]
    exact hq2 q