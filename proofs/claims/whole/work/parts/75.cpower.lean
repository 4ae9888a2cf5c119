/-! POWER of the class -/
theorem an_pc_m {x y : Nat} (h : ∀ i, Nat.testBit x i = true → Nat.testBit y i = true) : am_pc x ≤ am_pc y := am_sumb_mono (fun i _ => by
  show (bif Nat.testBit x i then (1 : Int) else 0) ≤ (bif Nat.testBit y i then (1 : Int) else 0)
  cases h1 : Nat.testBit x i with
  | false => cases Nat.testBit y i <;> decide
  | true => rw [h i h1]; decide)
theorem an_pc_lt {x n : Nat} (hn : n ≤ 16) (hx : x < 2 ^ n) : am_pc x ≤ (n : Int) := by
  unfold am_pc
  rw [am_sumb_tr (n := n) hn (fun j h1 h2 => by rw [Nat.testBit_lt_two_pow (Nat.lt_of_lt_of_le hx (Nat.pow_le_pow_right (by omega) h1))]; rfl)]
  have h1 := am_sumb_le (n := n) (g := fun i => bif Nat.testBit x i then 1 else 0) (A := 0) (B := 1) (fun k _ => by
    show 0 ≤ (bif Nat.testBit x k then (1 : Int) else 0) ∧ (bif Nat.testBit x k then (1 : Int) else 0) ≤ 1
    cases Nat.testBit x k <;> exact ⟨by decide, by decide⟩)
  omega
/-- one more than those beside him -/
theorem v_pc_vh {V : am_Vw} (hv : v_ok V) {e : Int} {o : Nat} (ho : (o : Int) < vP V) (h0 : 0 < v_owes V e (o : Int)) : am_pc (v_vh V e (vQ V).toNat) = am_pc (v_vot V e o) + 1 := by
  have hP := v_ok_P hv
  have h1 := am_sumb_one (n := 16) (i := o) (x := 1) (by omega)
  have key : am_sumb 16 (fun i => bif Nat.testBit (v_vh V e (vQ V).toNat) i then 1 else 0) = am_sumb 16 (fun i => (bif Nat.testBit (v_vot V e o) i then 1 else 0) + (if i = o then 1 else 0)) := am_sumb_eq (fun i _ => by
    show (bif Nat.testBit (v_vh V e (vQ V).toNat) i then (1 : Int) else 0) = (bif Nat.testBit (v_vot V e o) i then 1 else 0) + (if i = o then 1 else 0)
    rw [v_vh_tb hv, v_vot_tb]
    by_cases q : i = o
    · rw [if_pos q, decide_eq_true q, q, decide_eq_true h0, Bool.not_true, Bool.false_and, Bool.and_false]; rfl
    · rw [if_neg q, decide_eq_false q]
      by_cases q2 : i < (vP V).toNat
      · rw [decide_eq_true q2, Bool.not_false, Bool.true_and, Bool.true_and, Int.add_zero]
      · rw [v_owes_hi hv (by omega), decide_eq_false q2]; rfl)
  unfold am_pc
  rw [key, am_sumb_add, h1]
theorem v_tn_own {V : am_Vw} {e : Int} {o x : Nat} (h : v_tn V e o x = true) : 0 < v_owes V e (o : Int) := by
  unfold v_tn at h
  rw [Bool.and_eq_true, Bool.and_eq_true, decide_eq_true_eq, decide_eq_true_eq, decide_eq_true_eq] at h
  omega
theorem v_tn_pc {V : am_Vw} {e : Int} {o x : Nat} (h : v_tn V e o x = true) : am_pc x ≤ am_pc (v_vot V e o) := by
  unfold v_tn at h
  rw [Bool.and_eq_true, Bool.and_eq_true, decide_eq_true_eq, decide_eq_true_eq, decide_eq_true_eq] at h
  exact an_pc_m (an_dif_0.1 h.1.1)
def v_pt (V : am_Vw) (e : Int) (o x : Nat) : Nat := bif v_tn V e o x then an_fac (am_pc x).toNat * an_fac (am_pc (v_vot V e o) - am_pc x).toNat else 0
def v_pw (V : am_Vw) (e : Int) (o n : Nat) : Int := am_sumb n (fun x => ((v_pt V e o x : Nat) : Int))
theorem v_pw_s {V : am_Vw} {e : Int} {o n : Nat} : v_pw V e o (n + 1) = v_pw V e o n + ((v_pt V e o n : Nat) : Int) := rfl
theorem v_vot_pc {V : am_Vw} (hv : v_ok V) {e : Int} {o x : Nat} (ho : (o : Int) < vP V) (h : v_tn V e o x = true) : 0 ≤ am_pc x ∧ am_pc x ≤ am_pc (v_vot V e o) ∧ am_pc (v_vot V e o) ≤ 6 := by
  have hQ := v_ok_Q hv
  have h1 := v_pc_vh hv ho (v_tn_own h)
  have h2 := an_pc_lt (n := 7) (by omega) (v_vh_lt hv (n := (vQ V).toNat) (by omega) e)
  exact ⟨an_pc_le.1, v_tn_pc h, by omega⟩
theorem v_pt_le {V : am_Vw} (hv : v_ok V) {e : Int} {o x : Nat} (ho : (o : Int) < vP V) : v_pt V e o x ≤ 518400 := by
  unfold v_pt
  cases h : v_tn V e o x with
  | false => exact Nat.zero_le _
  | true =>
    have h1 := v_vot_pc hv ho h
    have h2 : an_fac (am_pc x).toNat ≤ an_fac 6 := an_fac_m (by omega)
    have h3 : an_fac (am_pc (v_vot V e o) - am_pc x).toNat ≤ an_fac 6 := an_fac_m (by omega)
    exact Nat.mul_le_mul h2 h3
theorem v_pw_le {V : am_Vw} (hv : v_ok V) {e : Int} {o n : Nat} (ho : (o : Int) < vP V) (hn : n ≤ 128) : 0 ≤ v_pw V e o n ∧ v_pw V e o n ≤ 66355200 := by
  have h1 := am_sumb_le (n := n) (g := fun x => ((v_pt V e o x : Nat) : Int)) (A := 0) (B := 518400) (fun k _ => by
    have h2 := v_pt_le hv (x := k) (e := e) ho
    show 0 ≤ ((v_pt V e o k : Nat) : Int) ∧ ((v_pt V e o k : Nat) : Int) ≤ 518400
    omega)
  unfold v_pw
  omega
theorem v_pw_128 {V : am_Vw} (hv : v_ok V) {e : Int} {o : Nat} : v_pw V e o 128 = v_pw V e o (2 ^ (vP V).toNat) := by
  have hP := v_ok_P hv
  have h1 : 2 ^ (vP V).toNat ≤ 2 ^ 7 := Nat.pow_le_pow_right (by omega) (by omega)
  exact am_sumb_tr h1 (fun j h2 _ => by
    show ((v_pt V e o j : Nat) : Int) = 0
    unfold v_pt
    rw [v_tn_big h2]; rfl)
/-- above and below the line -/
def v_pab (V : am_Vw) (e : Int) (o : Nat) : Nat × Nat := ((v_pw V e o (2 ^ (vP V).toNat)).toNat, an_fac (am_pc (v_vot V e o) + 1).toNat)
def v_power (V : am_Vw) (e : Int) (o : Nat) (t : Int) : Int := if (v_pab V e o).1 = 0 then t else if t = 0 then (((v_pab V e o).1 / Nat.gcd (v_pab V e o).1 (v_pab V e o).2 : Nat) : Int) else (((v_pab V e o).2 / Nat.gcd (v_pab V e o).1 (v_pab V e o).2 : Nat) : Int)
def a_power (V : am_Vw) (a b t : Int) : am_V × Nat := if (v_isP V a && v_isP V b) = false then (Sum.inr (Sum.inl 4000000000000000001), 1) else if ¬ (t = 0 ∨ t = 1) then (Sum.inr (Sum.inl 4000000000000000002), 2) else (Sum.inr (Sum.inl (v_power V a b.toNat t)), 0)
theorem sp_Votes_ordersDecidedBy {d L kp : Nat} {h : Nat → Nat → Int} {Q : Option am_V → am_H → Prop} {e : Int} {o : Nat} (hd : 3 ≤ d) (hv : v_ok (am_wv h 2)) (hg : am_vo h e) (ho : (o : Int) < h 2 0) : am_Wp d 166 0 [some (Sum.inr (Sum.inr 61)), some (Sum.inl (o : Int)), none, none, none] [] (am_SH L, h, am_RR kp) Q = Q (some (Sum.inl (v_pw (am_wv h 2) e o (2 ^ (h 2 0).toNat)))) (am_SH L, h, am_RR kp) := by
  have hQ := wv_Q hv
  have hP := wv_P hv
  have hD := wv_D hv
  rw [bq_Votes_ordersDecidedBy_0]
  refine am_dn_fr (J := Option am_V) (a := 0) (n := 128) (fun k j => am_Wp d 166 4 [some (Sum.inr (Sum.inr 61)), some (Sum.inl ((o : Int))), some (Sum.inl (v_pw (am_wv h 2) e o k)), some (Sum.inl ((k : Int))), j] [] (am_SH L, h, am_RR kp) Q) (Q (some (Sum.inl (v_pw (am_wv h 2) e o (2 ^ (h 2 0).toNat)))) (am_SH L, h, am_RR kp)) (by omega) (fun k _ hk ih j => ?_) (fun j => ?_) none
  · have b1 := v_pw_le hv (e := e) (n := k) ho (by omega)
    have b2 := v_pt_le hv (e := e) (x := k) ho
    refine (bq_Votes_ordersDecidedBy_4 (by omega)).trans ?_
    rw [if_neg (by omega), sp_Votes_turns (by omega) hv hg hk ho]
    simp only [Option.toList_some, Option.toList_none, List.cons_append, List.nil_append]
    rw [v_pw_s] at ih
    rw [bq_Votes_ordersDecidedBy_17 (by omega)]
    cases ht : v_tn (am_wv h 2) e o k with
    | false =>
      have e0 : v_pt (am_wv h 2) e o k = 0 := by unfold v_pt; rw [ht]; rfl
      rw [e0] at ih
      rw [if_pos am_bif, bq_Votes_ordersDecidedBy_47, am_incn (by omega)]
      have h9 := ih j
      rw [show v_pw (am_wv h 2) e o k + ((0 : Nat) : Int) = v_pw (am_wv h 2) e o k by omega] at h9
      exact h9
    | true =>
      have p1 := v_vot_pc hv ho ht
      have p2 := v_pc_vh hv ho (v_tn_own ht)
      have e0 : v_pt (am_wv h 2) e o k = an_fac (am_pc k).toNat * an_fac (am_pc (v_vot (am_wv h 2) e o) - am_pc k).toNat := by unfold v_pt; rw [ht]; rfl
      have e2 : h 61 2 = am_pc (v_vh (am_wv h 2) e (vQ (am_wv h 2)).toNat) := hg.2.2.1
      rw [if_neg am_b0, sp_bitCount hk]
      simp only [Option.toList_some, Option.toList_none, List.cons_append, List.nil_append]
      obtain ⟨b, hbk⟩ := Int.eq_ofNat_of_zero_le p1.1
      obtain ⟨v, hvt⟩ := Int.eq_ofNat_of_zero_le (show 0 ≤ am_pc (v_vot (am_wv h 2) e o) by omega)
      rw [hbk, hvt] at p1 e0
      rw [hvt] at p2
      have ev : am_sub (am_sub (h 61 2) (b : Int)) 1 = ((v - b : Nat) : Int) := by
        rw [e2, p2, am_sub_ok (x := (v : Int) + 1) (y := (b : Int)) (by omega) (by omega), am_sub_ok (by omega) (by omega)]
        omega
      rw [show ((v : Int) - (b : Int)).toNat = v - b by omega, Int.toNat_natCast] at e0
      rw [hbk, bq_Votes_ordersDecidedBy_24 (by omega), sp_Votes_ordersOf (by omega)]
      simp only [Option.toList_some, Option.toList_none, List.cons_append, List.nil_append]
      rw [bq_Votes_ordersDecidedBy_32 (by omega), ev, sp_Votes_ordersOf (by omega)]
      simp only [Option.toList_some, Option.toList_none, List.cons_append, List.nil_append]
      have m1 : am_mul ((an_fac b : Nat) : Int) ((an_fac (v - b) : Nat) : Int) = ((v_pt (am_wv h 2) e o k : Nat) : Int) := by
        rw [e0] at b2 ⊢
        have b3 : ((an_fac b * an_fac (v - b) : Nat) : Int) = ((an_fac b : Nat) : Int) * ((an_fac (v - b) : Nat) : Int) := by push_cast; rfl
        rw [am_mul_ok (by rw [← b3]; omega) (by rw [← b3]; omega), b3]
      rw [bq_Votes_ordersDecidedBy_44, m1, am_add_ok (by omega) (by omega), bq_Votes_ordersDecidedBy_47, am_incn (by omega)]
      exact ih _
  · refine (bq_Votes_ordersDecidedBy_4 (by omega)).trans ?_
    rw [if_pos (by omega), v_pw_128 hv]
theorem c_power {d L kp : Nat} {h : Nat → Nat → Int} {i e t : Int} (hd : 4 ≤ d) (hv : v_ok (am_wv h 2)) : am_An L 41 (a_power (am_wv h 2) i e t) h (fun Q => am_Wp d 165 0 [some (Sum.inr (Sum.inr 1)), some (Sum.inl i), some (Sum.inl e), some (Sum.inl t), none, none, none] [] (am_SH L, h, am_RR kp) Q) := by
  have hQ := wv_Q hv
  have hP := wv_P hv
  have hD := wv_D hv
  intro Q hq
  show am_Wp d 165 0 [some (Sum.inr (Sum.inr 1)), some (Sum.inl i), some (Sum.inl e), some (Sum.inl t), none, none, none] [] (am_SH L, h, am_RR kp) Q
  have er : (v_isP (am_wv h 2) i && v_isP (am_wv h 2) e) = false → am_Wp d 165 22 [some (Sum.inr (Sum.inr 1)), some (Sum.inl (i)), some (Sum.inl (e)), some (Sum.inl (t)), none, none, none] [] (am_SH L, h, am_RR kp) Q := fun w => by
    have h3 := hq h kp am_keep_r
    unfold a_power at h3
    rw [if_pos w] at h3
    rw [bq_KO_power_22 (by omega), sp_KO_refuseLong (by omega) (by omega) (by omega)]
    simp only [Option.toList_some, Option.toList_none, List.cons_append, List.nil_append]
    rw [bq_KO_power_27]
    exact h3
  rw [bq_KO_power_0 (by omega), sp_World_isPerson_2]
  simp only [Option.toList_some, Option.toList_none, List.cons_append, List.nil_append]
  rw [bq_KO_power_8 (by omega)]
  cases hi : v_isP (am_wv h 2) i with
  | false =>
    rw [if_pos am_bif]
    exact er (by rw [hi]; rfl)
  | true =>
    rw [if_neg am_b0, sp_World_isPerson_2]
    simp only [Option.toList_some, Option.toList_none, List.cons_append, List.nil_append]
    rw [bq_KO_power_19 (by omega)]
    cases he : v_isP (am_wv h 2) e with
    | false =>
      rw [if_pos am_bif]
      exact er (by rw [hi, he]; rfl)
    | true =>
      clear er
      have hie : ¬ (v_isP (am_wv h 2) i && v_isP (am_wv h 2) e) = false := by rw [hi, he]; simp
      have hi2 := v_isP_iff.1 hi
      have he2 := v_isP_iff.1 he
      dsimp only [vP, vQ, vD, vK, vF, vS, vU, vO, vH, vN, vE, vG, vT, am_mv, am_wv] at hi2 he2
      obtain ⟨o, rfl⟩ := Int.eq_ofNat_of_zero_le he2.1
      rw [if_neg am_b0]
      have r44 : (t = 0 ∨ t = 1) → am_Wp d 165 44 [some (Sum.inr (Sum.inr 1)), some (Sum.inl (i)), some (Sum.inl ((o : Int))), some (Sum.inl (t)), none, none, none] [] (am_SH L, h, am_RR kp) Q := fun ht => by
        rw [bq_KO_power_44 (by omega)]
        refine sp_Votes_gatherI (by omega) hv (fun g hk hw hg => ?_)
        have hv2 : v_ok (am_wv g 2) := by rw [hw]; exact hv
        have ep : g 2 0 = h 2 0 := congrArg vP hw
        have h3 := hq g kp hk
        unfold a_power at h3
        rw [if_neg hie, if_neg (not_not_intro ht), ← hw, Int.toNat_natCast] at h3
        have h4 : Q (some (Sum.inr (Sum.inl (v_power (am_wv g 2) i o t)))) (am_SH L, g, am_RR kp) := h3
        clear h3
        simp only [Option.toList_some, Option.toList_none, List.cons_append, List.nil_append]
        have ho : (o : Int) < g 2 0 := by omega
        have b1 := v_pw_le hv2 (e := i) (n := 2 ^ (g 2 0).toNat) ho (show 2 ^ (g 2 0).toNat ≤ 2 ^ 7 from Nat.pow_le_pow_right (by omega) (by omega))
        have lv := v_vh_lt hv2 (n := (g 2 1).toNat) (by have := wv_Q hv2; omega) i
        have p1 := an_pc_le (x := v_vh (am_wv g 2) i (g 2 1).toNat)
        have p2 := an_pc_lt (n := 7) (by omega) lv
        obtain ⟨A, hA⟩ := Int.eq_ofNat_of_zero_le b1.1
        obtain ⟨m, hm⟩ := Int.eq_ofNat_of_zero_le p1.1
        have eA : (v_pab (am_wv g 2) i o).1 = A := by
          show (v_pw (am_wv g 2) i o (2 ^ (g 2 0).toNat)).toNat = A
          rw [hA, Int.toNat_natCast]
        have hf7 := an_fac_7 (n := m) (by omega)
        have hf0 := an_fac_pos (n := m)
        rw [bq_KO_power_56 (by omega), sp_Votes_ordersDecidedBy (by omega) hv2 hg ho, hA]
        simp only [Option.toList_some, Option.toList_none, List.cons_append, List.nil_append]
        rw [bq_KO_power_64 (by omega), bq_Votes_orders_0 (by omega), hg.2.2.1, hm, sp_Votes_ordersOf (by omega)]
        simp only [Option.toList_some, Option.toList_none, List.cons_append, List.nil_append]
        rw [bq_Votes_orders_7]
        simp only [Option.toList_some, Option.toList_none, List.cons_append, List.nil_append]
        rw [bq_KO_power_73 (by omega), sp_KO_commonDivisor (by omega) (by omega)]
        simp only [Option.toList_some, Option.toList_none, List.cons_append, List.nil_append]
        have g0 : 0 < Nat.gcd A (an_fac m) := Nat.gcd_pos_of_pos_right _ hf0
        have g1 : Nat.gcd A (an_fac m) ≤ an_fac m := Nat.gcd_le_right _ hf0
        have d1 : am_div (A : Int) ((Nat.gcd A (an_fac m) : Nat) : Int) = ((A / Nat.gcd A (an_fac m) : Nat) : Int) := by
          rw [am_div_ok (by omega) (by omega) (by omega) (by omega)]; rfl
        have d2 : am_div ((an_fac m : Nat) : Int) ((Nat.gcd A (an_fac m) : Nat) : Int) = ((an_fac m / Nat.gcd A (an_fac m) : Nat) : Int) := by
          rw [am_div_ok (by omega) (by omega) (by omega) (by omega)]; rfl
        rw [bq_KO_power_82, if_pos (by omega), d1, d2]
        have hn0 : (¬ ((Nat.gcd A (an_fac m) : Nat) : Int) = 0) = True := eq_true (by omega)
        simp only [hn0, true_and, bq_KO_power_111]
        have fin : v_power (am_wv g 2) i o t = if t = 0 then ((A / Nat.gcd A (an_fac m) : Nat) : Int) else ((an_fac m / Nat.gcd A (an_fac m) : Nat) : Int) := by
          unfold v_power
          rw [eA]
          by_cases q : A = 0
          · rw [if_pos q, q, Nat.gcd_zero_left, Nat.zero_div, Nat.div_self hf0]
            rcases ht with ht | ht
            · rw [if_pos ht, ht]; rfl
            · rw [if_neg (by omega), ht]; rfl
          · rw [if_neg q]
            have hx : 0 < v_owes (am_wv g 2) i (o : Int) := by
              refine Classical.byContradiction (fun w => q ?_)
              have hz : v_pw (am_wv g 2) i o (2 ^ (g 2 0).toNat) = 0 := by
                unfold v_pw
                refine (am_sumb_eq (f := fun _ => 0) (fun x _ => ?_)).trans am_sumb_0
                have hx2 : v_pt (am_wv g 2) i o x = 0 := by
                  unfold v_pt
                  cases hx3 : v_tn (am_wv g 2) i o x with
                  | false => rfl
                  | true => exact absurd (v_tn_own hx3) w
                show ((v_pt (am_wv g 2) i o x : Nat) : Int) = 0
                rw [hx2]; rfl
              omega
            have hpc : am_pc (v_vh (am_wv g 2) i (g 2 1).toNat) = am_pc (v_vot (am_wv g 2) i o) + 1 := v_pc_vh hv2 ho hx
            have e2 : (v_pab (am_wv g 2) i o).2 = an_fac m := by
              show an_fac (am_pc (v_vot (am_wv g 2) i o) + 1).toNat = _
              rw [← hpc, hm, Int.toNat_natCast]
            rw [e2]
        rw [fin] at h4
        by_cases q : t = 0
        · rw [if_pos q] at h4 ⊢
          exact h4
        · rw [if_neg q] at h4 ⊢
          exact h4
      by_cases q0 : t = 0
      · rw [if_pos q0]; exact r44 (Or.inl q0)
      · by_cases q1 : t = 1
        · rw [if_neg q0, if_pos q1]; exact r44 (Or.inr q1)
        · have h3 := hq h kp am_keep_r
          unfold a_power at h3
          rw [if_neg hie, if_pos (fun w => by rcases w with w | w <;> omega)] at h3
          rw [if_neg q0, if_neg q1, sp_KO_refuseLong (by omega) (by omega) (by omega)]
          simp only [Option.toList_some, Option.toList_none, List.cons_append, List.nil_append]
          rw [bq_KO_power_43]
          exact h3