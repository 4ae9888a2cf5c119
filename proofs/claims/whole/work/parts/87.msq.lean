/-! SQUARE and SOONEST of the reference -/
theorem lp_M_seekSoonest {d L kp : Nat} {h0 : Nat → Nat → Int} {s : an_T} {Q : Option am_V → am_H → Prop} (hd : 5 ≤ d) (hok : an_tok 7 s) (h7 : s.1 ≤ 7) (hq : ∀ g, am_keep h0 g → an_tm g s → g 70 42 = ((an_rf (an_oe s) (an_fac s.1)).2 : Int) → g 70 43 = (an_rf (an_oe s) (an_fac s.1)).1 → Q none (am_SH L, g, am_RR kp)) : ∀ j : (Nat → Nat → Int) × Option am_V × Option am_V, am_keep h0 j.1 ∧ an_tm j.1 s ∧ j.1 70 42 = ((an_rf (an_oe s) 0).2 : Int) ∧ j.1 70 43 = (an_rf (an_oe s) 0).1 → am_Wp d 239 20 [some (Sum.inr (Sum.inr 70)), some (Sum.inl (((an_fac s.1 : Nat) : Int))), some (Sum.inl (0)), j.2.1, j.2.2] [] (am_SH L, j.1, am_RR kp) Q := by
  refine am_im_fr (J := (Nat → Nat → Int) × Option am_V × Option am_V) (a := 0) (n := an_fac s.1) (fun k j => am_keep h0 j.1 ∧ an_tm j.1 s ∧ j.1 70 42 = ((an_rf (an_oe s) k).2 : Int) ∧ j.1 70 43 = (an_rf (an_oe s) k).1) (fun k j => am_Wp d 239 20 [some (Sum.inr (Sum.inr 70)), some (Sum.inl (((an_fac s.1 : Nat) : Int))), some (Sum.inl ((k : Int))), j.2.1, j.2.2] [] (am_SH L, j.1, am_RR kp) Q) (Nat.zero_le _) (fun k j _ hk hj ih => ?_) (fun j hj => ?_)
  · obtain ⟨g, j3, j4⟩ := j
    obtain ⟨k1, k2, k3, k4⟩ := hj
    dsimp only at k1 k2 k3 k4
    have hf7 := an_fac_7 h7
    have hoe := an_oe_le hok h7 hk
    have hod : ∀ i, i < s.1 → an_od s.1 k i < s.1 := fun i hi => (an_od_in h7 hk hi).1
    show am_Wp d 239 20 [some (Sum.inr (Sum.inr 70)), some (Sum.inl (((an_fac s.1 : Nat) : Int))), some (Sum.inl ((k : Int))), j3, j4] [] (am_SH L, g, am_RR kp) Q
    rw [bq_M_seekSoonest_20 (by omega), if_neg (by omega), k2.1, sp_M_layOrder (by omega) h7 hk]
    simp only [Option.toList_some, Option.toList_none, List.cons_append, List.nil_append]
    have ht2 : an_tm (an_arr g 95 s.1 (fun j => (an_od s.1 k j : Int))) s := k2
    have ho2 : ∀ i, i < s.1 → (an_arr g 95 s.1 (fun j => (an_od s.1 k j : Int))) 95 i = (an_od s.1 k i : Int) ∧ an_od s.1 k i < s.1 := fun i hi => ⟨an_arr_i hi, hod i hi⟩
    rw [bq_M_seekSoonest_34 (by omega), sp_M_doneBy (by omega) ht2 hok (by omega) ho2]
    simp only [Option.toList_some, Option.toList_none, List.cons_append, List.nil_append]
    have eoe : (an_sc s.2 (an_od s.1 k) s.1).2 = (an_oe s) k := rfl
    rw [eoe]
    have hr := an_rf_s (e := (an_oe s)) (n := k)
    generalize hB : an_arr (an_arr g 95 s.1 (fun j => (an_od s.1 k j : Int))) 96 7 (an_sc s.2 (an_od s.1 k) s.1).1 = B
    have b1 : am_keep h0 B := by rw [← hB]; exact am_keep_arr (fun _ => rfl) (am_keep_arr (fun _ => rfl) k1)
    have b2 : an_tm B s := by rw [← hB]; exact k2
    have b3 : B 70 42 = ((an_rf (an_oe s) k).2 : Int) := by rw [← hB]; exact k3
    have b4 : B 70 43 = (an_rf (an_oe s) k).1 := by rw [← hB]; exact k4
    clear hB ht2 ho2
    have fin : ∀ (i v : Int) (j3 j4 : Option am_V), (i = ((an_rf (an_oe s) (k + 1)).2 : Int)) → v = (an_rf (an_oe s) (k + 1)).1 → am_Wp d 239 20 [some (Sum.inr (Sum.inr 70)), some (Sum.inl (((an_fac s.1 : Nat) : Int))), some (Sum.inl (((k + 1 : Nat) : Int))), j3, j4] [] (am_SH L, (am_up (am_up B 70 42 i) 70 43 v), am_RR kp) Q := fun i v j3 j4 hi hv => by
      refine ih (am_up (am_up B 70 42 i) 70 43 v, j3, j4) ⟨am_keep_up rfl (am_keep_up rfl b1), b2, ?_, ?_⟩
      · rw [← hi]; rfl
      · rw [← hv]; rfl
    rw [bq_M_seekSoonest_38]
    simp only [bq_M_seekSoonest_54, bq_M_seekSoonest_59]
    rw [b3, b4]
    simp only [↓reduceIte, Int.reduceEq, bq_M_seekSoonest_75, bq_M_seekSoonest_92]
    rw [am_incn (by omega)]
    by_cases q : (an_rf (an_oe s) k).1 < 0 ∨ (an_oe s) k < (an_rf (an_oe s) k).1
    · rw [if_pos q] at hr
      have r1 := fin (k : Int) ((an_oe s) k) (some (Sum.inl ((an_oe s) k))) (some (Sum.inl 1)) (by rw [hr]) (by rw [hr])
      by_cases q2 : (an_rf (an_oe s) k).1 < 0
      · rw [if_pos q2]; exact r1
      · rw [if_neg q2, if_neg (by rcases q with q | q <;> omega)]; exact r1
    · rw [if_neg q] at hr
      have q2 : ¬ (an_rf (an_oe s) k).1 < 0 := fun w => q (Or.inl w)
      have q3 : ¬ (an_oe s) k < (an_rf (an_oe s) k).1 := fun w => q (Or.inr w)
      rw [if_neg q2, if_pos (by omega)]
      have f43 : (am_up B 70 42 ((an_rf (an_oe s) k).2 : Int)) 70 43 = (an_rf (an_oe s) k).1 := b4
      rw [f43]
      exact fin _ _ _ _ (by rw [hr]) (by rw [hr])
  · obtain ⟨g, j3, j4⟩ := j
    obtain ⟨k1, k2, k3, k4⟩ := hj
    dsimp only at k1 k2 k3 k4
    show am_Wp d 239 20 [some (Sum.inr (Sum.inr 70)), some (Sum.inl (((an_fac s.1 : Nat) : Int))), some (Sum.inl (((an_fac s.1 : Nat) : Int))), j3, j4] [] (am_SH L, g, am_RR kp) Q
    rw [bq_M_seekSoonest_20 (by omega), if_pos (by omega)]
    exact hq g k1 k2 k3 k4
theorem sp_M_seekSoonest {d L kp : Nat} {h : Nat → Nat → Int} {s : an_T} {Q : Option am_V → am_H → Prop} (hd : 6 ≤ d) (ht : an_tm h s) (hok : an_tok 7 s) (h7 : s.1 ≤ 7) (hq : ∀ g, am_keep h g → an_tm g s → g 70 42 = ((an_fl (an_oe s) 0 (an_fac s.1) (1000000, 0)).2 : Int) → g 70 43 = (an_fl (an_oe s) 0 (an_fac s.1) (1000000, 0)).1 → Q none (am_SH L, g, am_RR kp)) : am_Wp d 239 0 [some (Sum.inr (Sum.inr 70)), none, none, none, none] [] (am_SH L, h, am_RR kp) Q := by
  have hf := an_fac_pos (n := s.1)
  have e0 : (am_up (am_up h 70 42 0) 70 43 (-1)) 70 37 = (s.1 : Int) := ht.1
  rw [bq_M_seekSoonest_0 (by omega), e0, sp_M_ordersOf h7]
  simp only [Option.toList_some, Option.toList_none, List.cons_append, List.nil_append]
  rw [bq_M_seekSoonest_17]
  have hrf := an_rf_fl2 (e := (an_oe s)) (an_fac s.1 - 1) (fun k hk => by have := an_oe_le hok h7 (k := k) (by omega); omega)
  rw [show an_fac s.1 - 1 + 1 = an_fac s.1 by omega] at hrf
  refine lp_M_seekSoonest (h0 := h) (by omega) hok h7 (fun g k1 k2 k3 k4 => ?_) (am_up (am_up h 70 42 0) 70 43 (-1), none, none) ⟨am_keep_up rfl (am_keep_up rfl am_keep_r), ht, rfl, rfl⟩
  rw [hrf.1] at k3 k4
  exact hq g k1 k2 k3 k4
theorem m_square {d L kp : Nat} {h : Nat → Nat → Int} {i : Int} (hd : 30 ≤ d) (hv : v_ok (am_mv h)) : am_An L 81 (a_square (am_mv h) i) h (fun Q => am_Wp d 235 0 [some (Sum.inr (Sum.inr 70)), some (Sum.inl i), none, none] [] (am_SH L, h, am_RR kp) Q) := by
  have hQ := mv_Q hv
  have hP := mv_P hv
  have hD := mv_D hv
  intro Q hq
  have hq2 : ∀ g' kq, am_keep (am_up h 70 13 0) g' → Q (some (a_square (am_mv h) i).1) (am_SH L, am_bump 81 (a_square (am_mv h) i).2 g', am_RR kq) := fun g' kq hk => hq g' kq (am_keep_t (am_keep_up rfl am_keep_r) hk)
  clear hq
  have hv2 : v_ok (am_mv (am_up h 70 13 0)) := hv
  try rw [show am_mv h = am_mv (am_up h 70 13 0) from rfl] at hq2
  show am_Wp d 235 0 [some (Sum.inr (Sum.inr 70)), some (Sum.inl i), none, none] [] (am_SH L, h, am_RR kp) Q
  refine (show _ = _ from bq_M_square_0 (by omega)).mpr ?_
  clear hv hQ hP hD
  generalize am_up h 70 13 0 = g at hq2 hv2 ⊢
  have hv := hv2
  have hQ := mv_Q hv2
  have hP := mv_P hv
  have hD := mv_D hv
  refine sp_M_layTwos (by omega) hv (fun f k1 k2 => ?_)
  have kk := an_lt_keep k1
  have hok := v_twos_ok hv
  have h3 := fun g2 kq (m : am_keep f g2) => hq2 g2 kq (am_keep_t kk m)
  unfold a_square v_ris v_sn at h3
  generalize v_twos (am_mv g) = s at k2 hok h3
  have ht := k2
  simp only [Option.toList_some, Option.toList_none, List.cons_append, List.nil_append]
  rw [bq_M_square_9 (by omega), sp_M_in]
  simp only [Option.toList_some, Option.toList_none, List.cons_append, List.nil_append]
  rw [bq_M_square_16]
  have rref : ∀ (z : Int) (r : Nat), -6 ≤ z ∧ z ≤ -1 → r = (-z).toNat → (∀ g2 kq, am_keep f g2 → Q (some (Sum.inl z)) (am_SH L, am_bump 81 r g2, am_RR kq)) → am_Wp d 235 44 [some (Sum.inr (Sum.inr 70)), some (Sum.inl (i)), none, none] [Sum.inl z] (am_SH L, f, am_RR kp) Q := fun z r hz hr hq4 => by
    rw [bq_M_square_44 (by omega), if_neg (by omega), sp_M_refuse (by omega) (by omega), ← hr]
    simp only [Option.toList_some, Option.toList_none, List.cons_append, List.nil_append]
    rw [bq_M_square_54]
    exact hq4 f kp am_keep_r
  have r43 : (i = 0 ∨ (i = 1 ∧ s.1 ≤ 7)) → am_Wp d 235 43 [some (Sum.inr (Sum.inr 70)), some (Sum.inl (i)), none, none] [] (am_SH L, f, am_RR kp) Q := fun hi => by
    rw [bq_M_square_43, bq_M_square_44 (by omega), if_pos (by omega)]
    have h1 := am_up_eq (n := s.1) (fun k => am_Wp d 235 57 [some (Sum.inr (Sum.inr 70)), some (Sum.inl (i)), some (Sum.inl (0)), some (Sum.inl ((k : Int)))] [] (am_SH L, (an_arr f 95 k (fun j => (j : Int))), am_RR kp) Q) (am_Wp d 235 57 [some (Sum.inr (Sum.inr 70)), some (Sum.inl (i)), some (Sum.inl (0)), some (Sum.inl ((s.1 : Int)))] [] (am_SH L, (an_arr f 95 s.1 (fun j => (j : Int))), am_RR kp) Q) (fun k hk => ?_) rfl
    · have e0 : an_arr f 95 0 (fun j => (j : Int)) = f := an_arr_0
      rw [e0] at h1
      refine h1.mpr ?_
      have e37 : (an_arr f 95 s.1 (fun j => (j : Int))) 70 37 = (s.1 : Int) := ht.1
      have ht2 : an_tm (an_arr f 95 s.1 (fun j => (j : Int))) s := ht
      have ho2 : ∀ i, i < s.1 → (an_arr f 95 s.1 (fun j => (j : Int))) 95 i = (((fun i => i) i : Nat) : Int) ∧ (fun i => i) i < s.1 := fun i hi => ⟨an_arr_i hi, hi⟩
      refine (show _ = _ from bq_M_square_57 (by omega)).mpr ?_
      rw [e37, if_pos (by omega), sp_M_doneBy (ord := fun i => i) (by omega) ht2 hok.2.1 hok.2.2 ho2]
      simp only [Option.toList_some, Option.toList_none, List.cons_append, List.nil_append]
      generalize hB : an_arr (an_arr f 95 s.1 (fun j => (j : Int))) 96 7 (an_sc s.2 (fun i => i) s.1).1 = B
      have b1 : am_keep f B := by rw [← hB]; exact am_keep_arr (fun _ => rfl) (am_keep_arr (fun _ => rfl) am_keep_r)
      have b2 : an_tm B s := by rw [← hB]; exact ht
      clear hB
      rw [bq_M_square_82 (by omega)]
      rcases hi with rfl | ⟨rfl, hi⟩
      · rw [if_neg (by omega), bq_M_square_92, if_pos rfl, bq_M_square_104]
        exact h3 B kp b1
      · rw [if_pos rfl]
        refine sp_M_seekSoonest (by omega) b2 hok.2.1 hi (fun g2 m1 m2 m3 m4 => ?_)
        simp only [Option.toList_some, Option.toList_none, List.cons_append, List.nil_append]
        rw [bq_M_square_92, if_neg (by omega), bq_M_square_104, m4]
        have h4 := h3 g2 kp (am_keep_t b1 m1)
        rw [if_neg (by omega), if_pos rfl, if_neg (by omega)] at h4
        exact h4
    · have e37 : (an_arr f 95 k (fun j => (j : Int))) 70 37 = (s.1 : Int) := ht.1
      have eg := an_arr_g (h := f) (A := 95) (n := k) (c := fun j => (j : Int))
      refine (bq_M_square_57 (by omega)).trans ?_
      rw [e37, if_neg (by omega), am_gd (by omega) (by omega), am_incn (by omega), Int.toNat_natCast, eg]
  by_cases q0 : i = 0
  · rw [decide_eq_true (show 0 ≤ i ∧ i ≤ 1 by omega), if_neg am_b0, if_neg (by omega)]
    exact r43 (Or.inl q0)
  · by_cases q1 : i = 1
    · rw [decide_eq_true (show 0 ≤ i ∧ i ≤ 1 by omega), if_neg am_b0, if_pos q1, ht.1]
      by_cases q2 : 7 < s.1
      · rw [if_neg (by omega)]
        refine rref (-3) 3 (by omega) rfl (fun g2 kq m => ?_)
        have h4 := h3 g2 kq m
        rw [if_neg q0, if_pos q1, if_pos q2] at h4
        exact h4
      · rw [if_pos (by omega)]
        exact r43 (Or.inr ⟨q1, by omega⟩)
    · rw [decide_eq_false (show ¬ (0 ≤ i ∧ i ≤ 1) by omega), if_pos am_bif]
      refine rref (-2) 2 (by omega) rfl (fun g2 kq m => ?_)
      have h4 := h3 g2 kq m
      rw [if_neg q0, if_neg q1] at h4
      exact h4
theorem m_soonest {d L kp : Nat} {h : Nat → Nat → Int} {i : Int} (hd : 30 ≤ d) (hv : v_ok (am_mv h)) : am_An L 81 (a_soonest (am_mv h) i) h (fun Q => am_Wp d 242 0 [some (Sum.inr (Sum.inr 70)), some (Sum.inl i), none] [] (am_SH L, h, am_RR kp) Q) := by
  have hQ := mv_Q hv
  have hP := mv_P hv
  have hD := mv_D hv
  intro Q hq
  have hq2 : ∀ g' kq, am_keep (am_up h 70 13 0) g' → Q (some (a_soonest (am_mv h) i).1) (am_SH L, am_bump 81 (a_soonest (am_mv h) i).2 g', am_RR kq) := fun g' kq hk => hq g' kq (am_keep_t (am_keep_up rfl am_keep_r) hk)
  clear hq
  have hv2 : v_ok (am_mv (am_up h 70 13 0)) := hv
  try rw [show am_mv h = am_mv (am_up h 70 13 0) from rfl] at hq2
  show am_Wp d 242 0 [some (Sum.inr (Sum.inr 70)), some (Sum.inl i), none] [] (am_SH L, h, am_RR kp) Q
  refine (show _ = _ from bq_M_soonest_0 (by omega)).mpr ?_
  clear hv hQ hP hD
  generalize am_up h 70 13 0 = g at hq2 hv2 ⊢
  have hv := hv2
  have hQ := mv_Q hv2
  have hP := mv_P hv
  have hD := mv_D hv
  refine sp_M_layTwos (by omega) hv (fun f k1 k2 => ?_)
  have kk := an_lt_keep k1
  have hok := v_twos_ok hv
  have hsn := v_sn_in hv
  have h3 := fun g2 kq (m : am_keep f g2) => hq2 g2 kq (am_keep_t kk m)
  unfold a_soonest at h3
  unfold v_sn at h3 hsn
  generalize v_twos (am_mv g) = s at k2 hok h3 hsn
  have ht := k2
  simp only [Option.toList_some, Option.toList_none, List.cons_append, List.nil_append]
  rw [bq_M_soonest_9, ht.1]
  have rref : ∀ (z : Int) (r : Nat), -6 ≤ z ∧ z ≤ -1 → r = (-z).toNat → (∀ g2 kq, am_keep f g2 → Q (some (Sum.inl z)) (am_SH L, am_bump 81 r g2, am_RR kq)) → am_Wp d 242 33 [some (Sum.inr (Sum.inr 70)), some (Sum.inl (i)), none] [Sum.inl z] (am_SH L, f, am_RR kp) Q := fun z r hz hr hq4 => by
    rw [bq_M_soonest_33 (by omega), if_neg (by omega), sp_M_refuse (by omega) (by omega), ← hr]
    simp only [Option.toList_some, Option.toList_none, List.cons_append, List.nil_append]
    rw [bq_M_soonest_43]
    exact hq4 f kp am_keep_r
  by_cases q0 : i < 0
  · rw [if_neg (by omega)]
    refine rref (-4) 4 (by omega) rfl (fun g2 kq m => ?_)
    have h4 := h3 g2 kq m
    rw [if_pos q0] at h4
    exact h4
  · rw [if_pos (by omega)]
    obtain ⟨n, rfl⟩ := Int.eq_ofNat_of_zero_le (show 0 ≤ i by omega)
    by_cases q2 : 7 < s.1
    · rw [if_neg (by omega)]
      refine rref (-3) 3 (by omega) rfl (fun g2 kq m => ?_)
      have h4 := h3 g2 kq m
      rw [if_neg q0, if_pos q2] at h4
      exact h4
    · rw [if_pos (by omega), bq_M_soonest_33 (by omega), if_pos (by omega), ht.1]
      by_cases q3 : (s.1 : Int) ≤ (n : Int)
      · rw [if_neg (by omega)]
        have h4 := h3 f kp am_keep_r
        rw [if_neg q0, if_neg q2, if_pos q3] at h4
        exact h4
      · rw [if_pos (by omega)]
        refine sp_M_seekSoonest (by omega) ht hok.2.1 (by omega) (fun g2 m1 m2 m3 m4 => ?_)
        simp only [Option.toList_some, Option.toList_none, List.cons_append, List.nil_append]
        have hin := hsn (by omega)
        rw [bq_M_soonest_59 (by omega), m3, m2.1, sp_M_layOrder (by omega) (by omega) hin.2]
        simp only [Option.toList_some, Option.toList_none, List.cons_append, List.nil_append]
        have hod := (an_od_in (m := s.1) (k := (an_fl (an_oe s) 0 (an_fac s.1) (1000000, 0)).2) (i := n) (by omega) hin.2 (by omega)).1
        have e95 : (an_arr g2 95 s.1 (fun j => (an_od s.1 (an_fl (an_oe s) 0 (an_fac s.1) (1000000, 0)).2 j : Int))) 95 ((n : Int)).toNat = (an_od s.1 (an_fl (an_oe s) 0 (an_fac s.1) (1000000, 0)).2 n : Int) := an_arr_i (by omega)
        have h4 := h3 (an_arr g2 95 s.1 (fun j => (an_od s.1 (an_fl (an_oe s) 0 (an_fac s.1) (1000000, 0)).2 j : Int))) kp (am_keep_arr (fun _ => rfl) m1)
        rw [if_neg q0, if_neg q2, if_neg q3, Int.toNat_natCast] at h4
        have e93 : (an_arr g2 95 s.1 (fun j => (an_od s.1 (an_fl (an_oe s) 0 (an_fac s.1) (1000000, 0)).2 j : Int))) 93 (((an_od s.1 (an_fl (an_oe s) 0 (an_fac s.1) (1000000, 0)).2 n : Nat) : Int)).toNat = ((10 * (s.2 (an_od s.1 (an_fl (an_oe s) 0 (an_fac s.1) (1000000, 0)).2 n)).1 + (s.2 (an_od s.1 (an_fl (an_oe s) 0 (an_fac s.1) (1000000, 0)).2 n)).2.1 : Nat) : Int) := (m2.2 _ hod).1
        rw [bq_M_soonest_71, e95, am_gd (by omega) (by omega), am_gd (by omega) (by omega), e93]
        exact h4