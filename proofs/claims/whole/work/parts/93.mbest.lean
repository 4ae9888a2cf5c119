/-! BEST OVER of the reference -/
theorem sp_M_makeOver {d L kp : Nat} {h : Nat → Nat → Int} {Q : Option am_V → am_H → Prop} {p : Nat} {t : Int} (hp : p < 16) : am_Wp d 207 0 [some (Sum.inr (Sum.inr 70)), some (Sum.inl (p : Int)), some (Sum.inl t)] [] (am_SH L, h, am_RR kp) Q = Q none (am_SH L, (am_up (am_up h 76 p t) 80 p (if h 75 p = t then 2 else 0)), am_RR kp) := by
  rw [bq_M_makeOver_0, am_gd (by omega) (by omega), am_gd (by omega) (by omega), Int.toNat_natCast]
  have e75 : am_up h 76 p t 75 p = h 75 p := rfl
  rw [e75]
  simp only [bq_M_makeOver_27]
  rw [am_gd (by omega) (by omega), am_gd (by omega) (by omega), Int.toNat_natCast]
  by_cases q : h 75 p = t
  · rw [if_pos q, if_pos q]
  · rw [if_neg q, if_neg q]
theorem lp_M_bestOver_i {d L : Nat} {g : Nat → Nat → Int} {Q : Option am_V → am_H → Prop} {p : Nat} {s : Int × Int} (hd : 3 ≤ d) (hv : v_ok (am_mv g)) (hp : (p : Int) < g 70 6) (K : ∀ j : (Nat → Nat → Int) × Option am_V, am_keep g j.1 ∧ (∀ n, n < 127 → j.1 86 n = am_car g n) → ∀ j4 : Option am_V, am_Wp d 278 24 [some (Sum.inr (Sum.inr 70)), some (Sum.inl ((v_bo1 (am_mv g) p (g 70 0).toNat s).1)), some (Sum.inl ((v_bo1 (am_mv g) p (g 70 0).toNat s).2)), some (Sum.inl (((p + 1 : Nat) : Int))), j4, j.2] [] (am_SH L, j.1, am_RR 87) Q) : ∀ j : (Nat → Nat → Int) × Option am_V, am_keep g j.1 ∧ (∀ n, n < 127 → j.1 86 n = am_car g n) → am_Wp d 278 35 [some (Sum.inr (Sum.inr 70)), some (Sum.inl ((s).1)), some (Sum.inl ((s).2)), some (Sum.inl ((p : Int))), some (Sum.inl (0)), j.2] [] (am_SH L, j.1, am_RR 87) Q := by
  have hQ := mv_Q hv
  have hP := mv_P hv
  have hD := mv_D hv
  refine am_im_fr (J := (Nat → Nat → Int) × Option am_V) (a := 0) (n := (g 70 0).toNat) (fun _ j => am_keep g j.1 ∧ (∀ n, n < 127 → j.1 86 n = am_car g n)) (fun t j => am_Wp d 278 35 [some (Sum.inr (Sum.inr 70)), some (Sum.inl ((v_bo1 (am_mv g) p t s).1)), some (Sum.inl ((v_bo1 (am_mv g) p t s).2)), some (Sum.inl ((p : Int))), some (Sum.inl ((t : Int))), j.2] [] (am_SH L, j.1, am_RR 87) Q) (by omega) (fun t j _ ht hj ih => ?_) (fun j hj => ?_)
  · obtain ⟨G, j5⟩ := j
    obtain ⟨k1, k2⟩ := hj
    dsimp only at k1 k2
    have emv : am_mv G = (am_mv g) := am_keep_mv k1
    have e70 : G 70 0 = g 70 0 := k1 70 0 rfl
    have e76 : G 70 6 = g 70 6 := k1 70 6 rfl
    have hvG : v_ok (am_mv G) := by rw [emv]; exact hv
    have hpp := mv_p hvG p (by omega)
    have es := v_bo1_s (V := (am_mv g)) (p := p) (t := t) (s := s)
    show am_Wp d 278 35 [some (Sum.inr (Sum.inr 70)), some (Sum.inl ((v_bo1 (am_mv g) p t s).1)), some (Sum.inl ((v_bo1 (am_mv g) p t s).2)), some (Sum.inl ((p : Int))), some (Sum.inl ((t : Int))), j5] [] (am_SH L, G, am_RR 87) Q
    rw [bq_M_bestOver_35 (by omega), e70, if_neg (by omega), sp_M_canGo (by omega) hvG (by omega) (by omega) (by omega) (by omega), emv]
    simp only [Option.toList_some, Option.toList_none, List.cons_append, List.nil_append]
    rw [bq_M_bestOver_51 (by omega)]
    cases htk : v_take (am_mv g) (p : Int) (t : Int) with
    | false =>
      rw [htk, if_neg (fun w => by cases w.1)] at es
      rw [if_pos am_bif, bq_M_bestOver_107, am_incn (by omega)]
      have h9 := ih (G, j5) ⟨k1, k2⟩
      rw [es] at h9
      exact h9
    | true =>
      rw [if_neg am_b0, sp_M_makeOver (by omega)]
      simp only [Option.toList_some, Option.toList_none, List.cons_append, List.nil_append]
      have emo : am_mv (am_up (am_up G 76 p (t : Int)) 80 p (if G 75 p = (t : Int) then 2 else 0)) = v_mo (am_mv g) p (t : Int) := by
        rw [← emv]
        have a1 : ∀ (x : Int), am_up (am_up G 76 p (t : Int)) 80 p x 76 = am_sx (G 76) p (t : Int) := fun x => by
          funext j; show (if j = p then _ else _) = _; rfl
        have a2 : ∀ (x : Int), am_up (am_up G 76 p (t : Int)) 80 p x 80 = am_sx (G 80) p x := fun x => by
          funext j; show (if j = p then _ else _) = _; rfl
        show (_, _, _, _, _, _, _, _, _, _, _) = _
        rw [a1, a2]
        rfl
      have hvm : v_ok (am_mv (am_up (am_up G 76 p (t : Int)) 80 p (if G 75 p = (t : Int) then 2 else 0))) := by
        rw [emo]
        exact v_mo_ok hv (by omega) (show (t : Int) < g 70 0 by omega)
      have em70 : (am_up (am_up G 76 p (t : Int)) 80 p (if G 75 p = (t : Int) then 2 else 0)) 70 0 = g 70 0 := e70
      rw [bq_M_bestOver_61 (by omega)]
      refine sp_M_payments (by omega) hvm (fun f hf => ?_)
      simp only [Option.toList_some, Option.toList_none, List.cons_append, List.nil_append]
      have epv : v_pay (fun q : Nat => v_net (am_mv (am_up (am_up G 76 p (t : Int)) 80 p (if G 75 p = (t : Int) then 2 else 0))) (q : Int)) ((am_up (am_up G 76 p (t : Int)) 80 p (if G 75 p = (t : Int) then 2 else 0)) 70 0).toNat = v_pv (v_mo (am_mv g) p (t : Int)) := by
        rw [emo, em70]; rfl
      rw [bq_M_bestOver_65, epv]
      have hkp : am_keep g (am_puk f 86 127) := am_back (fun n hn => by
          rw [hf 86 n (by omega) (by omega) (by omega)]
          exact k2 n hn) (fun b j hr hix => by
        have h90 : ¬ b = 90 := fun w => by rw [w] at hr; cases hr
        have h91 : ¬ b = 91 := fun w => by rw [w] at hr; cases hr
        have h13 : ¬ (b = 70 ∧ j = 13) := fun w => by rw [w.1, w.2] at hr; cases hr
        rw [hf b j h90 h91 h13]
        unfold am_up
        by_cases b80 : b = 80
        · subst b80
          have h7 : ¬ j = p := fun w => hix (by unfold am_ix; rw [if_neg (by omega), if_neg (by omega), if_neg (by omega), if_pos (by omega), if_pos (by omega)]; omega)
          rw [if_pos rfl, if_neg h7, if_neg (by omega)]
          exact k1 80 j hr
        · rw [if_neg b80]
          by_cases b76 : b = 76
          · subst b76
            have h7 : ¬ j = p := fun w => hix (by unfold am_ix; rw [if_neg (by omega), if_neg (by omega), if_neg (by omega), if_pos (by omega), if_pos (by omega)]; omega)
            rw [if_pos rfl, if_neg h7]
            exact k1 76 j hr
          · rw [if_neg b76]
            exact k1 b j hr)
      have h86 : ∀ n, n < 127 → am_puk f 86 127 86 n = am_car g n := fun n hn => by
        rcases am_puk_a (h := f) (a := 86) (n := 127) (j := n) (by omega) with w | w
        · rw [w, hf 86 n (by omega) (by omega) (by omega)]
          exact k2 n hn
        · omega
      have e10 : am_add (am_mul 10 (p : Int)) (t : Int) = 10 * (p : Int) + (t : Int) := by rw [am_mul_ok (by omega) (by omega), am_add_ok (by omega) (by omega)]
      rw [e10]
      simp only [bq_M_bestOver_84]
      rw [htk] at es
      have fin : ∀ x y : Int, ((x, y) : Int × Int) = v_bo1 (am_mv g) p (t + 1) s → am_Wp d 278 97 [some (Sum.inr (Sum.inr 70)), some (Sum.inl (x)), some (Sum.inl ((v_bo1 (am_mv g) p t s).2)), some (Sum.inl ((p : Int))), some (Sum.inl ((t : Int))), some (Sum.inl (v_pv (v_mo (am_mv g) p (t : Int))))] [Sum.inl y] (am_SH L, f, am_RR 87) Q := fun x y hxy => ?_
      · by_cases q : v_pv (v_mo (am_mv g) p (t : Int)) < (v_bo1 (am_mv g) p t s).2
        · rw [if_pos ⟨rfl, q⟩] at es
          rw [if_neg (by omega), if_neg (by omega)]
          exact fin _ _ es.symm
        · rw [if_neg (fun w => q w.2)] at es
          rw [if_pos (by omega), if_pos (by omega)]
          exact fin _ _ es.symm
      · rw [bq_M_bestOver_97 (by omega), sp_M_carryAll_p86 (by omega)]
        simp only [Option.toList_some, Option.toList_none, List.cons_append, List.nil_append]
        rw [bq_M_bestOver_107, am_incn (by omega)]
        have h9 := ih (am_puk f 86 127, some (Sum.inl (v_pv (v_mo (am_mv g) p (t : Int))))) ⟨hkp, h86⟩
        rw [← hxy] at h9
        exact h9
  · obtain ⟨G, j5⟩ := j
    obtain ⟨k1, k2⟩ := hj
    dsimp only at k1 k2
    have e70 : G 70 0 = g 70 0 := k1 70 0 rfl
    show am_Wp d 278 35 [some (Sum.inr (Sum.inr 70)), some (Sum.inl ((v_bo1 (am_mv g) p (g 70 0).toNat s).1)), some (Sum.inl ((v_bo1 (am_mv g) p (g 70 0).toNat s).2)), some (Sum.inl ((p : Int))), some (Sum.inl ((((g 70 0).toNat : Nat) : Int))), j5] [] (am_SH L, G, am_RR 87) Q
    rw [bq_M_bestOver_35 (by omega), e70, if_pos (by omega), am_incn (by omega)]
    exact K (G, j5) ⟨k1, k2⟩ _
theorem lp_M_bestOver {d L : Nat} {g : Nat → Nat → Int} {Q : Option am_V → am_H → Prop} (hd : 3 ≤ d) (hv : v_ok (am_mv g)) (hq : ∀ f, am_keep g f → Q (some (Sum.inl (v_bo (am_mv g) (g 70 6).toNat).1)) (am_SH L, f, am_RR 87)) : ∀ j : (Nat → Nat → Int) × Option am_V × Option am_V, am_keep g j.1 ∧ (∀ n, n < 127 → j.1 86 n = am_car g n) → am_Wp d 278 24 [some (Sum.inr (Sum.inr 70)), some (Sum.inl (-9)), some (Sum.inl (v_pv (am_mv g))), some (Sum.inl (0)), j.2.1, j.2.2] [] (am_SH L, j.1, am_RR 87) Q := by
  have hQ := mv_Q hv
  have hP := mv_P hv
  have hD := mv_D hv
  refine am_im_fr (J := (Nat → Nat → Int) × Option am_V × Option am_V) (a := 0) (n := (g 70 6).toNat) (fun _ j => am_keep g j.1 ∧ (∀ n, n < 127 → j.1 86 n = am_car g n)) (fun p j => am_Wp d 278 24 [some (Sum.inr (Sum.inr 70)), some (Sum.inl ((v_bo (am_mv g) p).1)), some (Sum.inl ((v_bo (am_mv g) p).2)), some (Sum.inl ((p : Int))), j.2.1, j.2.2] [] (am_SH L, j.1, am_RR 87) Q) (by omega) (fun p j _ hp hj ih => ?_) (fun j hj => ?_)
  · obtain ⟨G, j4, j5⟩ := j
    have e76 : G 70 6 = g 70 6 := hj.1 70 6 rfl
    show am_Wp d 278 24 [some (Sum.inr (Sum.inr 70)), some (Sum.inl ((v_bo (am_mv g) p).1)), some (Sum.inl ((v_bo (am_mv g) p).2)), some (Sum.inl ((p : Int))), j4, j5] [] (am_SH L, G, am_RR 87) Q
    rw [bq_M_bestOver_24, e76, if_neg (by omega)]
    refine lp_M_bestOver_i (s := v_bo (am_mv g) p) hd hv (by omega) (fun j hj j4 => ?_) (G, j5) hj
    have h9 := ih (j.1, j4, j.2) hj
    rw [v_bo_s] at h9
    exact h9
  · obtain ⟨G, j4, j5⟩ := j
    have e76 : G 70 6 = g 70 6 := hj.1 70 6 rfl
    show am_Wp d 278 24 [some (Sum.inr (Sum.inr 70)), some (Sum.inl ((v_bo (am_mv g) (g 70 6).toNat).1)), some (Sum.inl ((v_bo (am_mv g) (g 70 6).toNat).2)), some (Sum.inl ((((g 70 6).toNat : Nat) : Int))), j4, j5] [] (am_SH L, G, am_RR 87) Q
    rw [bq_M_bestOver_24, e76, if_pos (by omega)]
    exact hq G hj.1
theorem m_bestOver {d L kp : Nat} {h : Nat → Nat → Int} (hd : 3 ≤ d) (hv : v_ok (am_mv h)) : am_An L 81 (a_bestOver (am_mv h)) h (fun Q => am_Wp d 278 0 [some (Sum.inr (Sum.inr 70)), none, none, none, none, none] [] (am_SH L, h, am_RR kp) Q) := by
  have hQ := mv_Q hv
  have hP := mv_P hv
  have hD := mv_D hv
  intro Q hq
  have hq2 : ∀ g' kq, am_keep (am_up h 70 13 0) g' → Q (some (a_bestOver (am_mv h)).1) (am_SH L, am_bump 81 (a_bestOver (am_mv h)).2 g', am_RR kq) := fun g' kq hk => hq g' kq (am_keep_t (am_keep_up rfl am_keep_r) hk)
  clear hq
  have hv2 : v_ok (am_mv (am_up h 70 13 0)) := hv
  try rw [show am_mv h = am_mv (am_up h 70 13 0) from rfl] at hq2
  show am_Wp d 278 0 [some (Sum.inr (Sum.inr 70)), none, none, none, none, none] [] (am_SH L, h, am_RR kp) Q
  refine (show _ = _ from bq_M_bestOver_0 (by omega)).mpr ?_
  clear hv hQ hP hD
  generalize am_up h 70 13 0 = g at hq2 hv2 ⊢
  have hv := hv2
  have hQ := mv_Q hv2
  have hP := mv_P hv
  have hD := mv_D hv
  refine sp_M_payments (by omega) hv (fun f hf => ?_)
  simp only [Option.toList_some, Option.toList_none, List.cons_append, List.nil_append]
  have epv : v_pay (fun q : Nat => v_net (am_mv g) (q : Int)) (g 70 0).toNat = v_pv (am_mv g) := rfl
  have kf : am_keep g f := fun a j hr => hf a j (fun w => by rw [w] at hr; cases hr) (fun w => by rw [w] at hr; cases hr) (fun w => by rw [w.1, w.2] at hr; cases hr)
  rw [bq_M_bestOver_12 (by omega), sp_M_carryAll_t86 (by omega), epv]
  simp only [Option.toList_some, Option.toList_none, List.cons_append, List.nil_append]
  rw [bq_M_bestOver_22]
  refine lp_M_bestOver hd hv (fun f2 k2 => hq2 f2 87 k2) (am_tkk f 86 127, none, none) ⟨fun a j hr => (am_tkk_rel hr).trans (kf a j hr), fun n hn => ?_⟩
  have ec : am_car f n = am_car g n := by
    unfold am_car
    rw [hf 70 0 (by omega) (by omega) (by omega), hf 70 5 (by omega) (by omega) (by omega), hf 70 6 (by omega) (by omega) (by omega), hf _ _ (by omega) (by omega) (by omega), hf _ _ (by omega) (by omega) (by omega)]
  rw [← ec]
  show (if n < 127 then am_car f n else f 86 n) = _
  rw [if_pos hn]