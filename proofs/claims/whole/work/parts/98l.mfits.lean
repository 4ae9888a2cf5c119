/-! FITS of the reference: the call -/
theorem m_fits {d L kp : Nat} {h : Nat → Nat → Int} (hd : 30 ≤ d) (hv : v_ok (am_mv h)) (hL : 0 ≤ h 70 46 ∧ h 70 46 ≤ 12) (hr : ∀ i, i < 12 → 0 ≤ h 98 i ∧ h 98 i ≤ 99) : am_An L 81 (a_fits (am_mv h) (h 70 46) (h 98)) h (fun Q => am_Wp d 258 0 [some (Sum.inr (Sum.inr 70)), none, none, none, none] [] (am_SH L, h, am_RR kp) Q) := by
  have hQ := mv_Q hv
  have hP := mv_P hv
  have hD := mv_D hv
  intro Q hq
  have hq2 : ∀ g' kq, am_keep (am_up h 70 13 0) g' → Q (some (a_fits (am_mv h) (h 70 46) (h 98)).1) (am_SH L, am_bump 81 (a_fits (am_mv h) (h 70 46) (h 98)).2 g', am_RR kq) := fun g' kq hk => hq g' kq (am_keep_t (am_keep_up rfl am_keep_r) hk)
  clear hq
  have hv2 : v_ok (am_mv (am_up h 70 13 0)) := hv
  try rw [show am_mv h = am_mv (am_up h 70 13 0) from rfl] at hq2
  show am_Wp d 258 0 [some (Sum.inr (Sum.inr 70)), none, none, none, none] [] (am_SH L, h, am_RR kp) Q
  refine (show _ = _ from bq_M_fits_0 (by omega)).mpr ?_
  clear hv hQ hP hD
  have eL : (am_up h 70 13 0) 70 46 = h 70 46 := rfl
  have eR : (am_up h 70 13 0) 98 = h 98 := rfl
  rw [← eL] at hq2 hL
  rw [← eR] at hq2 hr
  clear eL eR
  generalize am_up h 70 13 0 = g at hq2 hv2 hL hr ⊢
  have hv := hv2
  have hQ := mv_Q hv2
  have hP := mv_P hv
  have hD := mv_D hv
  have h3 := hq2 g kp am_keep_r
  unfold a_fits at h3
  have ed : am_div (g 70 46) 2 = g 70 46 / 2 := am_div_ok (by omega) (by omega) (by omega) (by omega)
  have er : am_rem (g 70 46) 2 = g 70 46 % 2 := am_rem_ok (by omega) (by omega) (by omega) (by omega)
  have eP : vP (am_mv g) = g 70 0 := rfl
  have r44 : ¬ (2 ≤ g 70 46 / 2 ∧ g 70 46 / 2 ≤ 4 ∧ g 70 46 = 2 * (g 70 46 / 2) ∧ g 70 46 / 2 ≤ vP (am_mv g)) → am_Wp d 258 44 [some (Sum.inr (Sum.inr 70)), some (Sum.inl ((g 70 46 / 2))), none, none, none] [] (am_SH L, g, am_RR kp) Q := fun hn => by
    rw [if_neg hn] at h3
    rw [bq_M_fits_44 (by omega), sp_M_refuse (by omega) (by omega)]
    simp only [Option.toList_some, Option.toList_none, List.cons_append, List.nil_append]
    rw [bq_M_fits_50]
    exact h3
  rw [er, ed]
  by_cases q1 : g 70 46 % 2 = 1
  · rw [if_pos q1]; exact r44 (by omega)
  · rw [if_neg q1, sp_M_in]
    simp only [Option.toList_some, Option.toList_none, List.cons_append, List.nil_append]
    rw [bq_M_fits_33]
    by_cases q2 : 2 ≤ g 70 46 / 2 ∧ g 70 46 / 2 ≤ 4
    · rw [decide_eq_true q2, if_neg am_b0]
      by_cases q4 : g 70 46 / 2 ≤ g 70 0
      · rw [if_pos q4]
        rw [if_pos ⟨by omega, by omega, by omega, by omega⟩] at h3
        obtain ⟨n, hn⟩ := Int.eq_ofNat_of_zero_le (show 0 ≤ g 70 46 / 2 by omega)
        rw [hn] at h3 q2 q4 ⊢
        rw [Int.toNat_natCast] at h3
        have hnn : n * n ≤ 4 * 4 := Nat.mul_le_mul (by omega) (by omega)
        have hbl : ∀ m, m ≤ 16 → v_may (am_mv g) n m < 65536 := fun m hm => Nat.lt_of_lt_of_le am_bits_lt (Nat.pow_le_pow_right (by omega) hm : 2 ^ m ≤ 2 ^ 16)
        have em : ∀ a b : Nat, a ≤ 4 → b ≤ 4 → am_mul (a : Int) (b : Int) = ((a * b : Nat) : Int) ∧ a * b ≤ 16 := fun a b ha hb => by
          have h1 : a * b ≤ 4 * 4 := Nat.mul_le_mul ha hb
          have e : (a : Int) * (b : Int) = ((a * b : Nat) : Int) := (Int.natCast_mul a b).symm
          have h2 : am_mul (a : Int) (b : Int) = (a : Int) * (b : Int) := am_mul_ok (by rw [e]; omega) (by rw [e]; omega)
          exact ⟨h2.trans e, h1⟩
        have key := am_dn_fr (J := Option am_V) (a := 0) (n := n) (fun i j => am_Wp d 258 55 [some (Sum.inr (Sum.inr 70)), some (Sum.inl ((n : Int))), some (Sum.inl (((v_may (am_mv g) n (n * i) : Nat) : Int))), some (Sum.inl ((i : Int))), j] [] (am_SH L, g, am_RR kp) Q) (am_Wp d 258 121 [some (Sum.inr (Sum.inr 70)), some (Sum.inl ((n : Int))), some (Sum.inl (((v_may (am_mv g) n (n * n) : Nat) : Int))), some (Sum.inl (0)), some (Sum.inl (((v_may (am_mv g) n (n * n) : Nat) : Int)))] [] (am_SH L, g, am_RR kp) Q) (by omega) (fun i _ hi ih j4 => ?_) (fun j4 => ?_) none
        · refine (show _ = _ from key).mpr ?_
          have hU := hbl (n * n) hnn
          have hUl : v_may (am_mv g) n (n * n) < 2 ^ (n * n) := am_bits_lt
          have hsum := an_kw_sum (V := (am_mv g)) (ρ := g 98) (n := n) n 0 ((an_wt (g 98) n n : Nat) : Int)
          have hfi := fun x (hx : x < 2 ^ (n * n)) => an_fk_i (V := (am_mv g)) (ρ := g 98) (n := n) (x := x) (by omega) (by omega) hr hx
          generalize v_may (am_mv g) n (n * n) = U at hU hUl hfi ⊢
          have e1 : am_sumb (2 ^ (n * n)) (fun x => an_i1 (an_fk (am_mv g) (g 98) n n 0 ((an_wt (g 98) n n : Nat) : Int) x)) = am_sumb (2 ^ (n * n)) (fun x => an_i1 (an_sb x U ∧ v_kd (g 98) n n x)) := am_sumb_eq (fun x hx => by
            show an_i1 _ = an_i1 _
            rw [propext (hfi x hx)])
          rw [e1, am_sumb_tr (n := U + 1) (m := 2 ^ (n * n)) (by omega) (fun y h1 h2 => an_i1_n (fun w => by have := an_sb_le w.1; omega))] at hsum
          have g01 : ∀ y, 0 ≤ an_i1 (an_sb y U ∧ v_kd (g 98) n n y) ∧ an_i1 (an_sb y U ∧ v_kd (g 98) n n y) ≤ 1 := fun y => by
            unfold an_i1
            split <;> omega
          generalize hG : (fun x => an_i1 (an_sb x U ∧ v_kd (g 98) n n x)) = G at hsum
          have hGe : ∀ y, G y = an_i1 (an_sb y U ∧ v_kd (g 98) n n y) := fun y => by rw [← hG]
          refine an_sm_loop (J := Int) (m := U) (fun b j => (0 ≤ j ∧ j + (b : Int) ≤ (U : Int)) ∧ j + am_sumb (b + 1) G = am_sumb (U + 1) G) (fun b j => am_Wp d 258 121 [some (Sum.inr (Sum.inr 70)), some (Sum.inl ((n : Int))), some (Sum.inl ((U : Int))), some (Sum.inl (j)), some (Sum.inl ((b : Int)))] [] (am_SH L, g, am_RR kp) Q) (fun b j hb hbs hj ih => ?_) (fun j hj => ?_) 0 ⟨⟨Int.le_refl 0, by omega⟩, by omega⟩
          · have hbl2 := an_sb_le hbs
            have hlt2 := an_sm_lt (m := U) hb
            have enx : am_and (am_sub (b : Int) 1) (U : Int) = (((b - 1) &&& U : Nat) : Int) := by
              rw [am_sub_ok (by omega) (by omega), show (b : Int) - 1 = ((b - 1 : Nat) : Int) by omega, am_and_ok (by omega) (by omega)]
            have hstep : am_sumb (b + 1) G = am_sumb ((b - 1 &&& U) + 1) G + G b := by
              rw [am_sumb_s, am_sumb_tr (n := (b - 1 &&& U) + 1) (m := b) (by omega) (fun y h1 h2 => by
                rw [hGe]
                exact an_i1_n (fun w => by
                  have := an_sm_up b b U y (Nat.le_refl b) hb hbs w.1 h2
                  omega))]
            rw [bq_M_fits_121 (by omega), if_neg (by omega)]
            refine sp_M_isKissed (by omega) (by omega) (by omega) (fun hk => ?_) (fun hk => ?_)
            · have hg1 : G b = 1 := by rw [hGe]; exact an_i1_y ⟨hbs, hk⟩
              simp only [Option.toList_some, Option.toList_none, List.cons_append, List.nil_append]
              rw [bq_M_fits_134, if_neg (by omega), bq_M_fits_142, if_neg (by omega), enx, am_add_ok (by omega) (by omega), bq_M_fits_159]
              exact ih (j + 1) ⟨by omega, by omega⟩
            · have hg0 : G b = 0 := by rw [hGe]; exact an_i1_n (fun w => hk w.2)
              simp only [Option.toList_some, Option.toList_none, List.cons_append, List.nil_append]
              rw [bq_M_fits_134, if_pos rfl, bq_M_fits_142, if_neg (by omega), enx, am_add_ok (by omega) (by omega), bq_M_fits_159]
              exact ih (j + 0) ⟨by omega, by omega⟩
          · have h0 : am_sumb (0 + 1) G = G 0 := by show 0 + G 0 = G 0; omega
            rw [h0] at hj
            have hz : an_sb 0 U := fun i hi => by rw [Nat.zero_testBit] at hi; cases hi
            show am_Wp d 258 121 [some (Sum.inr (Sum.inr 70)), some (Sum.inl ((n : Int))), some (Sum.inl ((U : Int))), some (Sum.inl (j)), some (Sum.inl (0))] [] (am_SH L, g, am_RR kp) Q
            rw [bq_M_fits_121 (by omega), if_neg (by omega)]
            refine sp_M_isKissed (x := 0) (by omega) (by omega) (by omega) (fun hk => ?_) (fun hk => ?_)
            · have hg1 : G 0 = 1 := by rw [hGe]; exact an_i1_y ⟨hz, hk⟩
              simp only [Option.toList_some, Option.toList_none, List.cons_append, List.nil_append]
              rw [bq_M_fits_134, if_neg (by omega), bq_M_fits_142, if_pos rfl, am_add_ok (by omega) (by omega), bq_M_fits_159, bq_M_fits_121 (by omega), if_pos (by omega)]
              rw [hsum, ← hj.2, hg1] at h3
              exact h3
            · have hg0 : G 0 = 0 := by rw [hGe]; exact an_i1_n (fun w => hk w.2)
              simp only [Option.toList_some, Option.toList_none, List.cons_append, List.nil_append]
              rw [bq_M_fits_134, if_pos rfl, bq_M_fits_142, if_pos rfl, am_add_ok (by omega) (by omega), bq_M_fits_159, bq_M_fits_121 (by omega), if_pos (by omega)]
              rw [hsum, ← hj.2, hg0] at h3
              exact h3
        · refine (bq_M_fits_55).trans ?_
          rw [if_neg (by omega)]
          have hu := (v_ok_i hv i (by omega)).2.2.2
          obtain ⟨u, hu2⟩ := Int.eq_ofNat_of_zero_le hu.1
          have e74 : g 74 i = (u : Int) := hu2
          have key2 := am_dn_fr (J := Unit) (a := 0) (n := n) (fun j _ => am_Wp d 258 63 [some (Sum.inr (Sum.inr 70)), some (Sum.inl ((n : Int))), some (Sum.inl (((v_may (am_mv g) n (n * i + j) : Nat) : Int))), some (Sum.inl ((i : Int))), some (Sum.inl ((j : Int)))] [] (am_SH L, g, am_RR kp) Q) (am_Wp d 258 121 [some (Sum.inr (Sum.inr 70)), some (Sum.inl ((n : Int))), some (Sum.inl (((v_may (am_mv g) n (n * n) : Nat) : Int))), some (Sum.inl (0)), some (Sum.inl (((v_may (am_mv g) n (n * n) : Nat) : Int)))] [] (am_SH L, g, am_RR kp) Q) (by omega) (fun j _ hj ih2 _ => ?_) (fun _ => ?_) ()
          · exact key2
          · have ih3 := ih2 ()
            obtain ⟨m1, m2⟩ := em n i (by omega) (by omega)
            obtain ⟨e1, e2, e3⟩ := an_ij hi hj
            have hb0 := hbl (n * i + j) (by omega)
            have es := am_bits_i (b := n * i + j) (c := v_my (am_mv g) n) (by omega)
            have emy : v_my (am_mv g) n (n * i + j) = !(Nat.testBit (2 ^ i) j || Nat.testBit u j) := by
              unfold v_my v_br
              rw [e2, e3, Nat.testBit_or, hu2, Int.toNat_natCast]
            have a1 : am_add ((n * i : Nat) : Int) (j : Int) = ((n * i + j : Nat) : Int) := by rw [am_add_ok (by omega) (by omega)]; omega
            have e0 : am_or ((v_may (am_mv g) n (n * i + j) : Nat) : Int) 0 = ((v_may (am_mv g) n (n * i + j) : Nat) : Int) := by
              have := am_or_ok (a := v_may (am_mv g) n (n * i + j)) (b := 0) (by omega) (by omega)
              rw [Nat.or_zero] at this
              exact this
            have ev : ((v_may (am_mv g) n (n * i + (j + 1)) : Nat) : Int) = (if v_my (am_mv g) n (n * i + j) = true then am_or ((v_may (am_mv g) n (n * i + j) : Nat) : Int) (am_shl 1 ((n * i + j : Nat) : Int)) else ((v_may (am_mv g) n (n * i + j) : Nat) : Int)) := es
            rw [ev, emy] at ih3
            have r101 : (Nat.testBit (2 ^ i) j || Nat.testBit u j) = true → am_Wp d 258 101 [some (Sum.inr (Sum.inr 70)), some (Sum.inl ((n : Int))), some (Sum.inl (((v_may (am_mv g) n (n * i + j) : Nat) : Int))), some (Sum.inl ((i : Int))), some (Sum.inl ((j : Int)))] [Sum.inl ((v_may (am_mv g) n (n * i + j) : Nat) : Int)] (am_SH L, g, am_RR kp) Q = am_Wp d 258 121 [some (Sum.inr (Sum.inr 70)), some (Sum.inl ((n : Int))), some (Sum.inl (((v_may (am_mv g) n (n * n) : Nat) : Int))), some (Sum.inl (0)), some (Sum.inl (((v_may (am_mv g) n (n * n) : Nat) : Int)))] [] (am_SH L, g, am_RR kp) Q := fun w => by
              rw [w] at ih3
              rw [bq_M_fits_101, bq_M_fits_102, am_incn (by omega), e0]
              exact ih3
            refine (bq_M_fits_63 (by omega)).trans ?_
            rw [if_neg (by omega)]
            by_cases q : i = j
            · rw [if_pos (by omega)]
              exact r101 (by rw [Bool.or_eq_true]; exact Or.inl (an_p2_in.2 q))
            · have hf : Nat.testBit (2 ^ i) j = false := by rw [Nat.testBit_two_pow, decide_eq_false q]
              rw [if_neg (by omega), am_gd (by omega) (by omega), Int.toNat_natCast, e74, sp_M_hasBit (by omega) (by omega) (by omega) (by omega), am_has_tb (by omega) (by omega)]
              simp only [Option.toList_some, Option.toList_none, List.cons_append, List.nil_append]
              rw [bq_M_fits_87]
              cases hb : Nat.testBit u j with
              | true =>
                rw [if_neg am_b0]
                exact r101 (by rw [hb, Bool.or_true])
              | false =>
                rw [hf, hb] at ih3
                rw [if_pos am_bif, m1, a1, bq_M_fits_102, am_incn (by omega)]
                exact ih3
          · refine (bq_M_fits_63 (by omega)).trans ?_
            rw [if_pos (Int.le_refl _), am_incn (by omega), show n * i + n = n * (i + 1) from (Nat.mul_succ n i).symm]
            exact ih _
        · refine (bq_M_fits_55).trans ?_
          rw [if_pos (Int.le_refl _)]
      · rw [if_neg q4]; exact r44 (by omega)
    · rw [decide_eq_false q2, if_pos am_bif]
      exact r44 (by omega)