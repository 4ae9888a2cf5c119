/-! SQUARE and SOONEST, the calls of both -/
theorem an_oe_le {s : an_T} (hok : an_tok 7 s) (h7 : s.1 ≤ 7) {k : Nat} (hk : k < an_fac s.1) : 0 ≤ an_oe s k ∧ an_oe s k ≤ 4480 := by
  have h1 := an_sc_le (T := s.2) (ord := an_od s.1 k) (n := s.1) (m := 7) hok (fun i hi => (an_od_in h7 hk hi).1) s.1 (Nat.le_refl _)
  unfold an_oe
  omega
theorem an_rf_fl2 {e : Nat → Int} : ∀ n, (∀ k, k ≤ n → 0 ≤ e k ∧ e k < 1000000) → an_rf e (n + 1) = an_fl e 0 (n + 1) (1000000, 0) ∧ 0 ≤ (an_rf e (n + 1)).1 := by
  intro n
  induction n with
  | zero =>
    intro he
    have h1 := he 0 (Nat.le_refl 0)
    have e1 : an_rf e 1 = (e 0, 0) := by
      rw [an_rf_s]
      exact if_pos (Or.inl (show (-1 : Int) < 0 by decide))
    have e2 : an_fl e 0 1 (1000000, 0) = (e 0, 0) := by
      rw [an_fl_s]
      exact if_pos (show e (0 + 0) < 1000000 from h1.2)
    rw [e1, e2]
    exact ⟨rfl, h1.1⟩
  | succ n ih =>
    intro he
    have ih := ih (fun k hk => he k (by omega))
    have h1 := he (n + 1) (Nat.le_refl _)
    rw [an_rf_s, an_fl_s, ← ih.1]
    unfold an_up
    rw [Nat.zero_add]
    by_cases q : e (n + 1) < (an_rf e (n + 1)).1
    · rw [if_pos (Or.inr q), if_pos q]
      exact ⟨rfl, h1.1⟩
    · rw [if_neg q, if_neg (fun w => by rcases w with w | w <;> omega)]
      exact ⟨rfl, ih.2⟩
theorem an_fl_ix {e : Nat → Int} {N : Nat} {s : Int × Nat} (hs : s.2 = 0) : (an_fl e 0 N s).2 ≤ N - 1 := by
  induction N with
  | zero => rw [an_fl_0, hs]; exact Nat.le_refl 0
  | succ N ih =>
    rw [an_fl_s]
    unfold an_up
    by_cases q : e (0 + N) < (an_fl e 0 N s).1
    · rw [if_pos q]; show 0 + N ≤ _; omega
    · rw [if_neg q]; omega
theorem v_sn_in {V : am_Vw} (hv : v_ok V) (h7 : (v_twos V).1 ≤ 7) : (v_sn V).1 < 1000000 ∧ (v_sn V).2 < an_fac (v_twos V).1 := by
  have hf := an_fac_pos (n := (v_twos V).1)
  have h0 := an_oe_le (v_twos_ok hv).2.1 h7 hf
  have h1 : an_fl (an_oe (v_twos V)) 0 (1 + (an_fac (v_twos V).1 - 1)) (1000000, 0) = v_sn V := by rw [show 1 + (an_fac (v_twos V).1 - 1) = an_fac (v_twos V).1 by omega]; rfl
  rw [an_fl_a] at h1
  have h2 : an_fl (an_oe (v_twos V)) 0 1 (1000000, 0) = (an_oe (v_twos V) 0, 0) := by
    rw [an_fl_s]
    exact if_pos (show an_oe (v_twos V) (0 + 0) < 1000000 by rw [Nat.add_zero]; omega)
  have h3 := an_fl_le (e := an_oe (v_twos V)) (K := 0 + 1) (N := an_fac (v_twos V).1 - 1) (s := an_fl (an_oe (v_twos V)) 0 1 (1000000, 0))
  rw [h1] at h3
  rw [h2] at h3
  have h4 := an_fl_ix (e := an_oe (v_twos V)) (N := an_fac (v_twos V).1) (s := (1000000, 0)) rfl
  refine ⟨?_, ?_⟩
  · have h5 : (v_sn V).1 ≤ an_oe (v_twos V) 0 := h3
    omega
  · have h5 : (v_sn V).2 ≤ an_fac (v_twos V).1 - 1 := h4
    omega
theorem c_square {d L kp : Nat} {h : Nat → Nat → Int} {i : Int} (hd : 30 ≤ d) (hv : v_ok (am_wv h 2)) : am_An L 41 (a_square (am_wv h 2) i) h (fun Q => am_Wp d 91 0 [some (Sum.inr (Sum.inr 1)), some (Sum.inl i)] [] (am_SH L, h, am_RR kp) Q) := by
  have hQ := wv_Q hv
  have hP := wv_P hv
  have hD := wv_D hv
  intro Q hq
  show am_Wp d 91 0 [some (Sum.inr (Sum.inr 1)), some (Sum.inl i)] [] (am_SH L, h, am_RR kp) Q
  by_cases q0 : i = 0
  · subst q0
    have r0 : am_Wp d 91 0 [some (Sum.inr (Sum.inr 1)), some (Sum.inl (0))] [] (am_SH L, h, am_RR kp) Q = am_Wp d 91 16 [some (Sum.inr (Sum.inr 1)), some (Sum.inl (0))] [] (am_SH L, h, am_RR kp) Q := by
      rw [bq_KO_square_0 (by omega)]
      simp only [↓reduceIte]
    rw [r0, bq_KO_square_16 (by omega)]
    refine sp_KO_gatherSquare (by omega) hv (fun g k1 k2 k3 => ?_)
    have hok := v_twos_ok hv
    have k3b : an_tw g (v_twos (am_wv h 2)) := k3
    simp only [Option.toList_some, Option.toList_none, List.cons_append, List.nil_append]
    rw [bq_KO_square_20 (by omega), if_pos rfl]
    refine sp_Square_byRisingTwos (by omega) k3b.1 hok.2.1 hok.2.2 (fun g2 m1 => ?_)
    simp only [Option.toList_some, Option.toList_none, List.cons_append, List.nil_append]
    rw [bq_KO_square_31]
    exact hq g2 kp (am_keep_t k1 m1)
  · by_cases q1 : i = 1
    · subst q1
      have r0 : am_Wp d 91 0 [some (Sum.inr (Sum.inr 1)), some (Sum.inl (1))] [] (am_SH L, h, am_RR kp) Q = am_Wp d 91 16 [some (Sum.inr (Sum.inr 1)), some (Sum.inl (1))] [] (am_SH L, h, am_RR kp) Q := by
        rw [bq_KO_square_0 (by omega)]
        simp only [↓reduceIte, Int.reduceEq]
      rw [r0, bq_KO_square_16 (by omega)]
      refine sp_KO_gatherSquare (by omega) hv (fun g k1 k2 k3 => ?_)
      have hok := v_twos_ok hv
      have k3b : an_tw g (v_twos (am_wv h 2)) := k3
      simp only [Option.toList_some, Option.toList_none, List.cons_append, List.nil_append]
      rw [bq_KO_square_20 (by omega), if_neg (by omega), bq_Square_twos_0, k3b.1.1]
      simp only [Option.toList_some, Option.toList_none, List.cons_append, List.nil_append]
      rw [bq_KO_square_39 (by omega)]
      have h3 := fun g2 (m : am_keep h g2) => hq g2 kp m
      unfold a_square at h3
      rw [if_neg q0, if_pos rfl] at h3
      by_cases q2 : 7 < (v_twos (am_wv h 2)).1
      · rw [if_pos q2] at h3
        rw [if_neg (by omega), sp_KO_refuse (by omega) (by omega) (by omega)]
        simp only [Option.toList_some, Option.toList_none, List.cons_append, List.nil_append]
        rw [bq_KO_square_50]
        exact h3 g k1
      · rw [if_neg q2] at h3
        rw [if_pos (by omega)]
        refine sp_Square_findSoonest (by omega) k3b hok.2.1 (by omega) (fun g2 m1 m2 m3 m4 => ?_)
        simp only [Option.toList_some, Option.toList_none, List.cons_append, List.nil_append]
        rw [bq_KO_square_58 (by omega), bq_Square_soonestEnd_0, m3]
        simp only [Option.toList_some, Option.toList_none, List.cons_append, List.nil_append]
        rw [bq_KO_square_65]
        exact h3 g2 (am_keep_t k1 m1)
    · have h3 := hq h kp am_keep_r
      unfold a_square at h3
      rw [if_neg q0, if_neg q1] at h3
      rw [bq_KO_square_0 (by omega), if_neg q0, if_neg q1, sp_KO_refuse (by omega) (by omega) (by omega)]
      simp only [Option.toList_some, Option.toList_none, List.cons_append, List.nil_append]
      rw [bq_KO_square_15]
      exact h3
theorem c_soonest {d L kp : Nat} {h : Nat → Nat → Int} {i : Int} (hd : 30 ≤ d) (hv : v_ok (am_wv h 2)) : am_An L 41 (a_soonest (am_wv h 2) i) h (fun Q => am_Wp d 103 0 [some (Sum.inr (Sum.inr 1)), some (Sum.inl i)] [] (am_SH L, h, am_RR kp) Q) := by
  have hQ := wv_Q hv
  have hP := wv_P hv
  have hD := wv_D hv
  intro Q hq
  show am_Wp d 103 0 [some (Sum.inr (Sum.inr 1)), some (Sum.inl i)] [] (am_SH L, h, am_RR kp) Q
  have h3 := fun g2 (m : am_keep h g2) => hq g2 kp m
  unfold a_soonest at h3
  by_cases q0 : i < 0
  · rw [if_pos q0] at h3
    rw [bq_KO_soonest_0 (by omega), if_neg (by omega), sp_KO_refuse (by omega) (by omega) (by omega)]
    simp only [Option.toList_some, Option.toList_none, List.cons_append, List.nil_append]
    rw [bq_KO_soonest_10]
    exact h3 h am_keep_r
  · rw [if_neg q0] at h3
    obtain ⟨n, rfl⟩ := Int.eq_ofNat_of_zero_le (show 0 ≤ i by omega)
    rw [Int.toNat_natCast] at h3
    rw [bq_KO_soonest_0 (by omega), if_pos (by omega)]
    refine sp_KO_gatherSquare (by omega) hv (fun g k1 k2 k3 => ?_)
    have hok := v_twos_ok hv
    have k3b : an_tw g (v_twos (am_wv h 2)) := k3
    simp only [Option.toList_some, Option.toList_none, List.cons_append, List.nil_append]
    rw [bq_KO_soonest_15 (by omega), bq_Square_twos_0, k3b.1.1]
    simp only [Option.toList_some, Option.toList_none, List.cons_append, List.nil_append]
    rw [bq_KO_soonest_22 (by omega)]
    by_cases q2 : 7 < (v_twos (am_wv h 2)).1
    · rw [if_pos q2] at h3
      rw [if_neg (by omega), sp_KO_refuse (by omega) (by omega) (by omega)]
      simp only [Option.toList_some, Option.toList_none, List.cons_append, List.nil_append]
      rw [bq_KO_soonest_33]
      exact h3 g k1
    · rw [if_neg q2] at h3
      rw [if_pos (by omega), bq_Square_twos_0, k3b.1.1]
      simp only [Option.toList_some, Option.toList_none, List.cons_append, List.nil_append]
      rw [bq_KO_soonest_42 (by omega)]
      by_cases q3 : ((v_twos (am_wv h 2)).1 : Int) ≤ (n : Int)
      · rw [if_pos q3] at h3
        rw [if_neg (by omega)]
        exact h3 g k1
      · rw [if_neg q3] at h3
        rw [if_pos (by omega)]
        refine sp_Square_findSoonest (by omega) k3b hok.2.1 (by omega) (fun g2 m1 m2 m3 m4 => ?_)
        have hin := v_sn_in hv (by omega)
        have m5 := m4 hin.1 n (by omega)
        have hod := (an_od_in (m := (v_twos (am_wv h 2)).1) (k := (v_sn (am_wv h 2)).2) (i := n) (by omega) hin.2 (by omega)).1
        have m6 : g2 58 n = (an_od (v_twos (am_wv h 2)).1 (v_sn (am_wv h 2)).2 n : Int) := m5
        clear m5
        generalize an_od (v_twos (am_wv h 2)).1 (v_sn (am_wv h 2)).2 n = t at m6 hod h3
        have m7 := m2.2 t hod
        have m8 := hok.2.1 t hod
        simp only [Option.toList_some, Option.toList_none, List.cons_append, List.nil_append]
        rw [bq_KO_soonest_55 (by omega), bq_Square_soonestTwo_0 (by omega), sp_at_58, am_lk_nat (by omega), m6]
        simp only [Option.toList_some, Option.toList_none, List.cons_append, List.nil_append]
        rw [bq_Square_soonestTwo_8 (by omega), sp_at_52, am_lk_nat (by omega), m7.1]
        simp only [Option.toList_some, Option.toList_none, List.cons_append, List.nil_append]
        rw [bq_Square_soonestTwo_19 (by omega), sp_at_53, am_lk_nat (by omega), m7.2.1, am_mul_ok (by omega) (by omega)]
        simp only [Option.toList_some, Option.toList_none, List.cons_append, List.nil_append]
        rw [bq_Square_soonestTwo_28, am_add_ok (by omega) (by omega)]
        simp only [Option.toList_some, Option.toList_none, List.cons_append, List.nil_append]
        rw [bq_KO_soonest_63]
        have h4 := h3 g2 (am_keep_t k1 m1)
        have e10 : ((10 * ((v_twos (am_wv h 2)).2 t).1 + ((v_twos (am_wv h 2)).2 t).2.1 : Nat) : Int) = 10 * (((v_twos (am_wv h 2)).2 t).1 : Int) + (((v_twos (am_wv h 2)).2 t).2.1 : Int) := by push_cast; rfl
        rw [e10] at h4
        exact h4
theorem sp_M_ordersOf {d L kp : Nat} {h : Nat → Nat → Int} {Q : Option am_V → am_H → Prop} {n : Nat} (hn : n ≤ 7) : am_Wp d 240 0 [some (Sum.inl ((n : Int))), none, none] [] (am_SH L, h, am_RR kp) Q = Q (some (Sum.inl (((an_fac n : Nat) : Int)))) (am_SH L, h, am_RR kp) := by
  rw [bq_M_ordersOf_0]
  by_cases q : n = 0
  · subst q
    rw [bq_M_ordersOf_4, if_pos (by omega)]
    rfl
  · refine am_up_fr (a := 1) (n := n) (fun i => am_Wp d 240 4 [some (Sum.inl ((n : Int))), some (Sum.inl (((an_fac i : Nat) : Int))), some (Sum.inl (((i + 1 : Nat) : Int)))] [] (am_SH L, h, am_RR kp) Q) _ (by omega) (fun i h1 h2 => ?_) ?_
    · show am_Wp d 240 4 [some (Sum.inl ((n : Int))), some (Sum.inl (((an_fac i : Nat) : Int))), some (Sum.inl (((i + 1 : Nat) : Int)))] [] (am_SH L, h, am_RR kp) Q = am_Wp d 240 4 [some (Sum.inl ((n : Int))), some (Sum.inl (((an_fac (i + 1) : Nat) : Int))), some (Sum.inl (((i + 1 + 1 : Nat) : Int)))] [] (am_SH L, h, am_RR kp) Q
      have b1 := an_fac_7 (n := i) (by omega)
      have b2 := an_fac_7 (n := i + 1) (by omega)
      have e1 : ((an_fac (i + 1) : Nat) : Int) = ((an_fac i : Nat) : Int) * ((i + 1 : Nat) : Int) := by
        show ((an_fac i * (i + 1) : Nat) : Int) = _
        push_cast
        rfl
      rw [bq_M_ordersOf_4, if_neg (by omega), am_incn (by omega), am_mul_ok (by omega) (by omega), e1]
    · show am_Wp d 240 4 [some (Sum.inl ((n : Int))), some (Sum.inl (((an_fac n : Nat) : Int))), some (Sum.inl (((n + 1 : Nat) : Int)))] [] (am_SH L, h, am_RR kp) Q = _
      rw [bq_M_ordersOf_4, if_pos (by omega)]
theorem an_lo_lt {m k : Nat} (hm : m ≤ 7) (hk : k < an_fac m) : ∀ i, i ≤ m → (an_lo m k i).1 < 2 ^ 7 := by
  intro i
  induction i with
  | zero => exact fun _ => (by decide : 0 < 2 ^ 7)
  | succ i ih =>
    intro hi
    have h1 := an_od_in hm hk (show i < m by omega)
    rw [an_lo_s]
    exact Nat.or_lt_two_pow (ih (by omega)) (Nat.pow_lt_pow_right (by omega) (by omega))
theorem lp_M_layOrder_i {d L kp : Nat} {h : Nat → Nat → Int} {Q : Option am_V → am_H → Prop} {m i U n : Nat} {rest : Int} {j1 j6 : Option am_V} (hd : 1 ≤ d) (hi : i < 7) (hU : U < 2 ^ 7) (hn : n < 7) (hx : Nat.testBit U n = false) : am_Wp d 241 39 [some (Sum.inr (Sum.inr 70)), j1, some (Sum.inl ((m : Int))), some (Sum.inl (rest)), some (Sum.inl ((U : Int))), some (Sum.inl ((i : Int))), j6, some (Sum.inl ((an_cu U n : Int))), some (Sum.inl (0))] [] (am_SH L, h, am_RR kp) Q = am_Wp d 241 8 [some (Sum.inr (Sum.inr 70)), j1, some (Sum.inl ((m : Int))), some (Sum.inl (rest)), some (Sum.inl (((U ||| 2 ^ n : Nat) : Int))), some (Sum.inl (((i + 1 : Nat) : Int))), j6, some (Sum.inl (0)), some (Sum.inl ((n : Int)))] [] (am_SH L, (am_up h 95 i (n : Int)), am_RR kp) Q := by
  have hp2 : 2 ^ n < 2 ^ 7 := Nat.pow_lt_pow_right (by omega) (by omega)
  refine am_up_fr (a := 0) (n := n) (fun o => am_Wp d 241 39 [some (Sum.inr (Sum.inr 70)), j1, some (Sum.inl ((m : Int))), some (Sum.inl (rest)), some (Sum.inl ((U : Int))), some (Sum.inl ((i : Int))), j6, some (Sum.inl (((an_cu U n - an_cu U o : Nat) : Int))), some (Sum.inl ((o : Int)))] [] (am_SH L, h, am_RR kp) Q) _ (by omega) (fun o _ ho => ?_) ?_
  · show am_Wp d 241 39 [some (Sum.inr (Sum.inr 70)), j1, some (Sum.inl ((m : Int))), some (Sum.inl (rest)), some (Sum.inl ((U : Int))), some (Sum.inl ((i : Int))), j6, some (Sum.inl (((an_cu U n - an_cu U o : Nat) : Int))), some (Sum.inl ((o : Int)))] [] (am_SH L, h, am_RR kp) Q = am_Wp d 241 39 [some (Sum.inr (Sum.inr 70)), j1, some (Sum.inl ((m : Int))), some (Sum.inl (rest)), some (Sum.inl ((U : Int))), some (Sum.inl ((i : Int))), j6, some (Sum.inl (((an_cu U n - an_cu U (o + 1) : Nat) : Int))), some (Sum.inl (((o + 1 : Nat) : Int)))] [] (am_SH L, h, am_RR kp) Q
    have hm := an_cu_m (U := U) (show o ≤ n by omega)
    have hl := an_cu_le (U := U) (n := n)
    have es := an_cu_s (U := U) (n := o)
    refine (bq_M_layOrder_39 (by omega)).trans ?_
    rw [sp_M_hasBit (by omega) (by omega) (by omega) (by omega), am_has_tb (by omega) (by omega)]
    simp only [Option.toList_some, Option.toList_none, List.cons_append, List.nil_append]
    rw [bq_M_layOrder_46]
    have r54 : am_Wp d 241 54 [some (Sum.inr (Sum.inr 70)), j1, some (Sum.inl ((m : Int))), some (Sum.inl (rest)), some (Sum.inl ((U : Int))), some (Sum.inl ((i : Int))), j6, some (Sum.inl (((an_cu U n - an_cu U o : Nat) : Int))), some (Sum.inl ((o : Int)))] [] (am_SH L, h, am_RR kp) Q = am_Wp d 241 39 [some (Sum.inr (Sum.inr 70)), j1, some (Sum.inl ((m : Int))), some (Sum.inl (rest)), some (Sum.inl ((U : Int))), some (Sum.inl ((i : Int))), j6, some (Sum.inl (((an_cu U n - an_cu U (o + 1) : Nat) : Int))), some (Sum.inl (((o + 1 : Nat) : Int)))] [] (am_SH L, h, am_RR kp) Q := by
      rw [bq_M_layOrder_54 (by omega), sp_M_hasBit (by omega) (by omega) (by omega) (by omega), am_has_tb (by omega) (by omega)]
      simp only [Option.toList_some, Option.toList_none, List.cons_append, List.nil_append]
      rw [bq_M_layOrder_63]
      simp only [bq_M_layOrder_71]
      rw [am_incn (by omega)]
      cases hb : Nat.testBit U o with
      | false =>
        have hlt := an_cu_lt (show o < n by omega) hb
        rw [hb] at es
        rw [if_pos am_bif, am_sub_ok (by omega) (by omega), es]
        have e1 : ((an_cu U n - an_cu U o : Nat) : Int) - 1 = ((an_cu U n - (an_cu U o + (bif false then 0 else 1)) : Nat) : Int) := by
          show _ = ((an_cu U n - (an_cu U o + 1) : Nat) : Int)
          omega
        rw [e1]
      | true =>
        rw [hb] at es
        rw [if_neg am_b0, am_sub_ok (by omega) (by omega), es]
        have e1 : ((an_cu U n - an_cu U o : Nat) : Int) - 0 = ((an_cu U n - (an_cu U o + (bif true then 0 else 1)) : Nat) : Int) := by
          show _ = ((an_cu U n - (an_cu U o + 0) : Nat) : Int)
          omega
        rw [e1]
    cases hb : Nat.testBit U o with
    | false =>
      have hlt := an_cu_lt (show o < n by omega) hb
      rw [if_pos am_bif, if_neg (by omega)]
      exact r54
    | true =>
      rw [if_neg am_b0]
      exact r54
  · show am_Wp d 241 39 [some (Sum.inr (Sum.inr 70)), j1, some (Sum.inl ((m : Int))), some (Sum.inl (rest)), some (Sum.inl ((U : Int))), some (Sum.inl ((i : Int))), j6, some (Sum.inl (((an_cu U n - an_cu U n : Nat) : Int))), some (Sum.inl ((n : Int)))] [] (am_SH L, h, am_RR kp) Q = _
    rw [Nat.sub_self]
    refine (bq_M_layOrder_39 (by omega)).trans ?_
    rw [sp_M_hasBit (by omega) (by omega) (by omega) (by omega), am_has_tb (by omega) (by omega), hx]
    simp only [Option.toList_some, Option.toList_none, List.cons_append, List.nil_append]
    rw [bq_M_layOrder_46, if_pos am_bif, if_pos (by omega), am_gd (by omega) (by omega), am_shl1 (by omega), am_or_ok (by omega) (by omega), am_incn (by omega), Int.toNat_natCast]
    rfl
theorem sp_M_layOrder {d L kp : Nat} {h : Nat → Nat → Int} {Q : Option am_V → am_H → Prop} {m k : Nat} (hd : 2 ≤ d) (hm : m ≤ 7) (hk : k < an_fac m) : am_Wp d 241 0 [some (Sum.inr (Sum.inr 70)), some (Sum.inl (k : Int)), some (Sum.inl (m : Int)), none, none, none, none, none, none] [] (am_SH L, h, am_RR kp) Q = Q none (am_SH L, (an_arr h 95 m (fun j => (an_od m k j : Int))), am_RR kp) := by
  have hf7 := an_fac_7 (n := m) hm
  rw [bq_M_layOrder_0]
  have h1 := am_dn_fr (J := Option am_V × Option am_V × Option am_V) (a := 0) (n := m) (fun i j => am_Wp d 241 8 [some (Sum.inr (Sum.inr 70)), some (Sum.inl ((k : Int))), some (Sum.inl ((m : Int))), some (Sum.inl (((an_lo m k i).2 : Int))), some (Sum.inl (((an_lo m k i).1 : Int))), some (Sum.inl ((i : Int))), j.1, j.2.1, j.2.2] [] (am_SH L, (an_arr h 95 i (fun j => (an_od m k j : Int))), am_RR kp) Q) (Q none (am_SH L, (an_arr h 95 m (fun j => (an_od m k j : Int))), am_RR kp)) (by omega) (fun i _ hi ih j => ?_) (fun j => ?_) (none, none, none)
  · have e0 : (an_arr h 95 0 (fun j => (an_od m k j : Int))) = h := an_arr_0
    rw [e0] at h1
    exact h1
  · have h2 := an_lo_in hm hk i (by omega)
    have h3 := an_od_in hm hk hi
    have h4 := an_lo_lt hm hk i (by omega)
    have hf := an_fac_pos (n := m - 1 - i)
    have hfl := an_fac_7 (n := m - 1 - i) (by omega)
    have hfi := an_fac_7 (n := m - i) (by omega)
    have ih2 : ∀ j1 j2 j3 : Option am_V, am_Wp d 241 8 [some (Sum.inr (Sum.inr 70)), some (Sum.inl ((k : Int))), some (Sum.inl ((m : Int))), some (Sum.inl (((an_lo m k (i + 1)).2 : Int))), some (Sum.inl (((an_lo m k (i + 1)).1 : Int))), some (Sum.inl (((i + 1 : Nat) : Int))), j1, j2, j3] [] (am_SH L, (an_arr h 95 (i + 1) (fun j => (an_od m k j : Int))), am_RR kp) Q = Q none (am_SH L, (an_arr h 95 m (fun j => (an_od m k j : Int))), am_RR kp) := fun j1 j2 j3 => ih (j1, j2, j3)
    rw [an_lo_s] at ih2
    have es : am_sub (am_sub (m : Int) 1) (i : Int) = ((m - 1 - i : Nat) : Int) := by rw [am_sub_ok (x := (m : Int)) (by omega) (by omega), am_sub_ok (by omega) (by omega)]; omega
    refine (bq_M_layOrder_8 (by omega)).trans ?_
    rw [if_neg (by omega), es, sp_M_ordersOf (by omega)]
    simp only [Option.toList_some, Option.toList_none, List.cons_append, List.nil_append]
    have er : am_rem ((an_lo m k i).2 : Int) ((an_fac (m - 1 - i) : Nat) : Int) = (((an_lo m k i).2 % an_fac (m - 1 - i) : Nat) : Int) := by rw [am_rem_ok (by omega) (by omega) (by omega) (by omega)]; rfl
    have ed : am_div ((an_lo m k i).2 : Int) ((an_fac (m - 1 - i) : Nat) : Int) = (an_cu (an_lo m k i).1 (an_od m k i) : Int) := by rw [am_div_ok (by omega) (by omega) (by omega) (by omega), h3.2.2]; rfl
    have hn0 : (¬ ((an_fac (m - 1 - i) : Nat) : Int) = 0) = True := eq_true (by omega)
    rw [bq_M_layOrder_23, er, ed]
    simp only [hn0, true_and]
    rw [lp_M_layOrder_i (by omega) (by omega) h4 (by omega) h3.2.1]
    have eg := an_arr_g (h := h) (A := 95) (n := i) (c := fun j => (an_od m k j : Int))
    rw [eg]
    exact ih2 _ _ _
  · refine (bq_M_layOrder_8 (by omega)).trans ?_
    rw [if_pos (by omega)]