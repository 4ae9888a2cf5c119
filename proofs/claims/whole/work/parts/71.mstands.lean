/-! THE CALL stands of the reference -/
def an_cl (U : Nat → Int) (p e : Nat) : Nat → Int := fun o => if o < e then am_and (U o) (am_xor (am_shl 1 (p : Int)) (-1)) else U o
theorem an_cl_s {U : Nat → Int} {p e : Nat} : am_sx (an_cl U p e) e (am_and (an_cl U p e e) (am_xor (am_shl 1 (p : Int)) (-1))) = an_cl U p (e + 1) := by
  funext o
  unfold am_sx an_cl
  by_cases h1 : o = e
  · rw [if_pos h1, if_neg (by omega), if_pos (by omega), h1]
  · rw [if_neg h1]
    by_cases h2 : o < e
    · rw [if_pos h2, if_pos (by omega)]
    · rw [if_neg h2, if_neg (by omega)]
theorem an_cl_v {U : Nat → Int} {p n o : Nat} (hp : p < 7) (ho : o < n) (hU : 0 ≤ U o ∧ U o ≤ 127) : an_cl U p n o = ((an_dif (U o).toNat (2 ^ p) : Nat) : Int) := by
  have h1 : 2 ^ p < 2 ^ 7 := Nat.pow_lt_pow_right (by omega) hp
  unfold an_cl
  rw [if_pos ho, am_shl1 (by omega)]
  have := an_dif_ok (x := (U o).toNat) (y := 2 ^ p) (by omega) (by omega)
  rw [← this, show (((U o).toNat : Nat) : Int) = U o by omega]
/-- the World with p pardoned -/
def v_prd (V : am_Vw) (p : Nat) : am_Vw := (V.1, vK V, vF V, vS V, an_cl (am_sx (vU V) p 0) p (vP V).toNat, V.2.2.2.2.2)
theorem v_prd_ok {V : am_Vw} (hv : v_ok V) {p : Nat} (hp : (p : Int) < vP V) : v_ok (v_prd V p) := by
  have hP := v_ok_P hv
  refine ⟨hv.1, hv.2.1, hv.2.2.1, fun i hi => ?_, hv.2.2.2.2.1, hv.2.2.2.2.2⟩
  have h1 := v_ok_i hv i hi
  have hs : 0 ≤ am_sx (vU V) p 0 i ∧ am_sx (vU V) p 0 i ≤ 127 := by
    unfold am_sx
    split <;> omega
  refine ⟨h1.1, h1.2.1, h1.2.2.1, ?_⟩
  show 0 ≤ an_cl (am_sx (vU V) p 0) p (vP V).toNat i ∧ an_cl (am_sx (vU V) p 0) p (vP V).toNat i ≤ 127
  by_cases h2 : i < (vP V).toNat
  · rw [an_cl_v (by omega) h2 hs]
    have := an_dif_le (x := (am_sx (vU V) p 0 i).toNat) (y := 2 ^ p)
    omega
  · unfold an_cl
    rw [if_neg h2]
    exact hs
theorem v_prd_sh {V : am_Vw} (hv : v_ok V) {p a b : Nat} (hp : (p : Int) < vP V) (ha : (a : Int) < vP V) (hb : (b : Int) < vP V) : v_shuns (v_prd V p) (a : Int) (b : Int) = (!decide (a = p) && !decide (b = p) && v_shuns V (a : Int) (b : Int)) := by
  have hP := v_ok_P hv
  have h1 := v_ok_i hv a (by omega)
  have hs : 0 ≤ am_sx (vU V) p 0 a ∧ am_sx (vU V) p 0 a ≤ 127 := by
    unfold am_sx
    split <;> omega
  have h2 : vU (v_prd V p) a = ((an_dif (am_sx (vU V) p 0 a).toNat (2 ^ p) : Nat) : Int) := an_cl_v (by omega) (by omega) hs
  have h3 := an_dif_le (x := (am_sx (vU V) p 0 a).toNat) (y := 2 ^ p)
  unfold v_shuns
  rw [am_lk_nat (by omega), am_lk_nat (by omega), h2, am_has_tb (by omega) (by omega), an_dif_tb, Nat.testBit_two_pow]
  obtain ⟨u, hu⟩ := Int.eq_ofNat_of_zero_le h1.2.2.2.1
  rw [hu, am_has_tb (by omega) (by omega)]
  by_cases q1 : a = p
  · have e1 : am_sx (vU V) p 0 a = 0 := if_pos q1
    rw [e1, decide_eq_true q1]
    simp
  · have e1 : am_sx (vU V) p 0 a = (u : Int) := (if_neg q1).trans hu
    rw [e1, decide_eq_false q1, Int.toNat_natCast]
    by_cases q2 : b = p
    · rw [decide_eq_true q2, decide_eq_true q2.symm]; simp
    · rw [decide_eq_false q2, decide_eq_false (fun w => q2 w.symm)]; simp
theorem v_prd_fb {V : am_Vw} (hv : v_ok V) {p a b : Nat} (hp : (p : Int) < vP V) (ha : (a : Int) < vP V) (hb : (b : Int) < vP V) : v_fb (v_prd V p) (-9) a b = v_fb V (p : Int) a b := by
  unfold v_fb v_friend
  rw [v_prd_sh hv hp ha hb, v_prd_sh hv hp hb ha, decide_eq_false (show ¬ ((a : Int) = -9 ∨ (b : Int) = -9) by omega), Bool.false_or]
  congr 1
  by_cases q1 : a = p
  · rw [decide_eq_true q1, decide_eq_true (show (a : Int) = (p : Int) ∨ (b : Int) = (p : Int) by omega)]; simp
  · by_cases q2 : b = p
    · rw [decide_eq_false q1, decide_eq_true q2, decide_eq_true (show (a : Int) = (p : Int) ∨ (b : Int) = (p : Int) by omega)]; simp
    · rw [decide_eq_false q1, decide_eq_false q2, decide_eq_false (show ¬ ((a : Int) = (p : Int) ∨ (b : Int) = (p : Int)) by omega)]; simp
theorem am_bits_eq {n : Nat} {c e : Nat → Bool} (hc : ∀ i, i < n → c i = e i) : am_bits n c = am_bits n e := by
  induction n with
  | zero => rfl
  | succ n ih =>
    show am_bits n c + (bif c n then 2 ^ n else 0) = am_bits n e + (bif e n then 2 ^ n else 0)
    rw [ih (fun i hi => hc i (by omega)), hc n (by omega)]
theorem am_bm_fm {fm fn : Nat → Nat} {n a r : Nat} (hf : ∀ c, c < n → fm c = fn c) : am_bm fm n a r = am_bm fn n a r := by
  induction r with
  | zero => rfl
  | succ r ih =>
    show am_arn fm (am_bm fm n a r) n = am_arn fn (am_bm fn n a r) n
    rw [ih]
    unfold am_arn
    exact am_for_ext (fun k s hk => by rw [hf k hk])
theorem v_prd_set {V : am_Vw} (hv : v_ok V) {p : Nat} (hp : (p : Int) < vP V) : v_set (v_prd V p) (-9) (vP V).toNat = v_set V (p : Int) (vP V).toNat := by
  have hc : ∀ a, a < (vP V).toNat → v_cy (v_prd V p) (-9) a = v_cy V (p : Int) a := fun a ha =>
    am_bm_fm (fun c hc => am_bits_eq (fun i hi => v_prd_fb hv hp (by have h1 : c < (vP V).toNat := hc; omega) (by have h1 : i < (vP V).toNat := hi; omega)))
  unfold v_set
  refine am_for_ext (fun a s ha => ?_)
  rw [hc a ha]
  rfl
theorem lp_M_std_e {d L kp : Nat} {G : Nat → Nat → Int} {Q : Option am_V → am_H → Prop} {U : Nat → Int} {p : Nat} {x y : Int} (hd : 1 ≤ d) (hP : 0 ≤ G 70 0 ∧ G 70 0 ≤ 7) : am_Wp d 270 46 [some (Sum.inr (Sum.inr 70)), some (Sum.inl (x)), some (Sum.inl (y)), some (Sum.inl ((p : Int))), some (Sum.inl (0))] [] (am_SH L, (am_ov G 74 U), am_RR kp) Q = am_Wp d 270 46 [some (Sum.inr (Sum.inr 70)), some (Sum.inl (x)), some (Sum.inl (y)), some (Sum.inl ((p : Int))), some (Sum.inl ((((G 70 0).toNat : Nat) : Int)))] [] (am_SH L, (am_ov G 74 (an_cl U p (G 70 0).toNat)), am_RR kp) Q := by
  have e0 : am_ov G 74 U = (am_ov G 74 (an_cl U p 0)) := by
    congr 1
  rw [e0]
  refine am_up_eq (n := (G 70 0).toNat) (fun e => am_Wp d 270 46 [some (Sum.inr (Sum.inr 70)), some (Sum.inl (x)), some (Sum.inl (y)), some (Sum.inl ((p : Int))), some (Sum.inl ((e : Int)))] [] (am_SH L, (am_ov G 74 (an_cl U p e)), am_RR kp) Q) (am_Wp d 270 46 [some (Sum.inr (Sum.inr 70)), some (Sum.inl (x)), some (Sum.inl (y)), some (Sum.inl ((p : Int))), some (Sum.inl ((((G 70 0).toNat : Nat) : Int)))] [] (am_SH L, (am_ov G 74 (an_cl U p (G 70 0).toNat)), am_RR kp) Q) (fun e he => ?_) rfl
  have e70 : (am_ov G 74 (an_cl U p e)) 70 0 = G 70 0 := rfl
  have e74 : (am_ov G 74 (an_cl U p e)) 74 ((e : Int)).toNat = an_cl U p e e := if_pos rfl
  refine (bq_M_stands_46 hd).trans ?_
  rw [e70, if_neg (by omega), am_gd (by omega) (by omega), am_gd (by omega) (by omega), am_incn (by omega), e74, Int.toNat_natCast, am_up_ov, an_cl_s]
theorem lp_M_stands {d L : Nat} {g : Nat → Nat → Int} {Q : Option am_V → am_H → Prop} (hd : 4 ≤ d) (hv : v_ok (am_mv g)) (hq : ∀ f, am_keep g f → Q (some (Sum.inl (v_std (am_mv g) (g 70 0).toNat).2)) (am_SH L, f, am_RR 87)) : ∀ j : ((Nat → Nat → Int) × Option am_V), am_keep g j.1 ∧ (∀ n, n < 127 → j.1 86 n = am_car g n) → am_Wp d 270 28 [some (Sum.inr (Sum.inr 70)), some (Sum.inl ((v_std (am_mv g) 0).1)), some (Sum.inl ((v_std (am_mv g) 0).2)), some (Sum.inl (0)), j.2] [] (am_SH L, j.1, am_RR 87) Q := by
  have hQ := mv_Q hv
  have hP := mv_P hv
  have hD := mv_D hv
  refine am_im_fr (J := ((Nat → Nat → Int) × Option am_V)) (a := 0) (n := (g 70 0).toNat) (fun _ j => am_keep g j.1 ∧ (∀ n, n < 127 → j.1 86 n = am_car g n)) (fun p j => am_Wp d 270 28 [some (Sum.inr (Sum.inr 70)), some (Sum.inl ((v_std (am_mv g) p).1)), some (Sum.inl ((v_std (am_mv g) p).2)), some (Sum.inl ((p : Int))), j.2] [] (am_SH L, j.1, am_RR 87) Q) (by omega) (fun p j _ hp hj ih => ?_) (fun j hj => ?_)
  · obtain ⟨G, j4⟩ := j
    obtain ⟨k1, k2⟩ := hj
    have e70 : G 70 0 = g 70 0 := k1 70 0 rfl
    have emv : am_mv G = am_mv g := am_keep_mv k1
    have e74 : G 74 = g 74 := am_keep_c k1 74 (fun _ => rfl)
    show am_Wp d 270 28 [some (Sum.inr (Sum.inr 70)), some (Sum.inl ((v_std (am_mv g) p).1)), some (Sum.inl ((v_std (am_mv g) p).2)), some (Sum.inl ((p : Int))), j4] [] (am_SH L, G, am_RR 87) Q
    refine (show _ = _ from bq_M_stands_28).mpr ?_
    rw [e70, if_neg (by omega), am_gd (by omega) (by omega), Int.toNat_natCast]
    have eu : am_up G 74 p 0 = am_ov G 74 (am_sx (g 74) p 0) := by
      rw [← e74, ← am_up_ov, am_ov_id]
    rw [eu]
    refine (lp_M_std_e (by omega) (by rw [e70]; exact hP)).mpr ?_
    rw [e70]
    have eG : am_mv (am_ov G 74 (an_cl (am_sx (g 74) p 0) p (g 70 0).toNat)) = v_prd (am_mv g) p := by
      rw [← emv, ← e74, ← e70]
      rfl
    have hvG : v_ok (am_mv (am_ov G 74 (an_cl (am_sx (g 74) p 0) p (g 70 0).toNat))) := by
      rw [eG]
      exact v_prd_ok hv (show (p : Int) < g 70 0 by omega)
    have e70G : (am_ov G 74 (an_cl (am_sx (g 74) p 0) p (g 70 0).toNat)) 70 0 = g 70 0 := e70
    refine (show _ = _ from bq_M_stands_46 (by omega)).mpr ?_
    rw [e70G, if_pos (by omega)]
    refine sp_M_settle (by omega) hvG (fun f f1 f2 f3 f4 f5 => ?_)
    simp only [Option.toList_some, Option.toList_none, List.cons_append, List.nil_append]
    have e4 : f 70 35 = (v_set (am_mv g) (p : Int) (g 70 0).toNat).2 := by
      rw [f4, eG, e70G]
      exact congrArg Prod.snd (v_prd_set hv (show (p : Int) < g 70 0 by omega))
    have hs := v_std_s (V := am_mv g) (n := p)
    have ep : vP (am_mv g) = g 70 0 := rfl
    rw [ep] at hs
    rw [bq_M_stands_80, e4]
    have hkp : am_keep g (am_puk f 86 127) := am_back (fun n hn => by rw [f2 86 n (by omega) (by omega)]; exact k2 n hn) (fun b j hr hix => by
      by_cases b0 : b = 70
      · subst b0
        have q1 : ¬ j = 35 := fun w => by rw [w] at hr; cases hr
        have q2 : ¬ j = 36 := fun w => by rw [w] at hr; cases hr
        rw [f3 j q1 q2]
        exact k1 70 j hr
      · have b1 : ¬ b = 92 := fun w => by rw [w] at hr; cases hr
        rw [f2 b j b0 b1]
        by_cases b2 : b = 74
        · subst b2
          have q3 : ¬ j < 7 := fun w => hix (by unfold am_ix; rw [if_neg (by omega), if_neg (by omega), if_pos (by omega), if_pos w]; omega)
          show an_cl (am_sx (g 74) p 0) p (g 70 0).toNat j = g 74 j
          unfold an_cl am_sx
          rw [if_neg (by omega), if_neg (by omega)]
        · show (if b = 74 then _ else G b j) = _
          rw [if_neg b2]
          exact k1 b j hr)
    have h86 : ∀ n, n < 127 → am_puk f 86 127 86 n = am_car g n := fun n hn => by
      rcases am_puk_a (h := f) (a := 86) (n := 127) (j := n) (by omega) with w | w
      · rw [w, f2 86 n (by omega) (by omega)]
        exact k2 n hn
      · omega
    have fin : am_Wp d 270 110 [some (Sum.inr (Sum.inr 70)), some (Sum.inl ((v_std (am_mv g) p).1)), some (Sum.inl ((v_std (am_mv g) (p + 1)).2)), some (Sum.inl ((p : Int))), some (Sum.inl ((((g 70 0).toNat : Nat) : Int)))] [Sum.inl (v_std (am_mv g) (p + 1)).1] (am_SH L, f, am_RR 87) Q := by
      rw [bq_M_stands_110 (by omega), sp_M_carryAll_p86 (by omega)]
      simp only [Option.toList_some, Option.toList_none, List.cons_append, List.nil_append]
      rw [bq_M_stands_120, am_incn (by omega)]
      exact ih (am_puk f 86 127, some (Sum.inl (((g 70 0).toNat : Nat) : Int))) ⟨hkp, h86⟩
    by_cases q1 : (v_std (am_mv g) p).1 < (v_set (am_mv g) (p : Int) (g 70 0).toNat).2
    · rw [if_pos q1] at hs
      rw [if_neg (by omega), bq_M_stands_93, e4, if_neg (by omega)]
      rw [hs] at fin
      exact fin
    · rw [if_neg q1] at hs
      rw [if_pos (by omega), bq_M_stands_93, e4, if_pos (by omega)]
      rw [hs] at fin
      exact fin
  · obtain ⟨G, j4⟩ := j
    obtain ⟨k1, k2⟩ := hj
    have e70 : G 70 0 = g 70 0 := k1 70 0 rfl
    show am_Wp d 270 28 [some (Sum.inr (Sum.inr 70)), some (Sum.inl ((v_std (am_mv g) (g 70 0).toNat).1)), some (Sum.inl ((v_std (am_mv g) (g 70 0).toNat).2)), some (Sum.inl ((((g 70 0).toNat : Nat) : Int))), j4] [] (am_SH L, G, am_RR 87) Q
    refine (show _ = _ from bq_M_stands_28).mpr ?_
    rw [e70, if_pos (by omega)]
    exact hq G k1
theorem m_stands {d L kp : Nat} {h : Nat → Nat → Int} (hd : 4 ≤ d) (hv : v_ok (am_mv h)) : am_An L 81 (a_stands (am_mv h)) h (fun Q => am_Wp d 270 0 [some (Sum.inr (Sum.inr 70)), none, none, none, none] [] (am_SH L, h, am_RR kp) Q) := by
  have hQ := mv_Q hv
  have hP := mv_P hv
  have hD := mv_D hv
  intro Q hq
  have hq2 : ∀ g' kq, am_keep (am_up h 70 13 0) g' → Q (some (a_stands (am_mv h)).1) (am_SH L, am_bump 81 (a_stands (am_mv h)).2 g', am_RR kq) := fun g' kq hk => hq g' kq (am_keep_t (am_keep_up rfl am_keep_r) hk)
  clear hq
  have hv2 : v_ok (am_mv (am_up h 70 13 0)) := hv
  try rw [show am_mv h = am_mv (am_up h 70 13 0) from rfl] at hq2
  show am_Wp d 270 0 [some (Sum.inr (Sum.inr 70)), none, none, none, none] [] (am_SH L, h, am_RR kp) Q
  refine (show _ = _ from bq_M_stands_0 (by omega)).mpr ?_
  clear hv hQ hP hD
  generalize am_up h 70 13 0 = g at hq2 hv2 ⊢
  have hv := hv2
  have hQ := mv_Q hv2
  have hP := mv_P hv
  have hD := mv_D hv
  refine sp_M_settle (by omega) hv (fun f f1 f2 f3 f4 f5 => ?_)
  simp only [Option.toList_some, Option.toList_none, List.cons_append, List.nil_append]
  have e4 : f 70 35 = (v_std (am_mv g) 0).1 := f4
  rw [bq_M_stands_9 (by omega), sp_M_carryAll_t86 (by omega), e4]
  simp only [Option.toList_some, Option.toList_none, List.cons_append, List.nil_append]
  rw [bq_M_stands_26]
  have k1 : am_keep g (am_tkk f 86 127) := fun b j hr => (am_tkk_rel hr).trans (f1 b j hr)
  refine lp_M_stands hd hv (fun f2 k2 => hq2 f2 87 k2) (am_tkk f 86 127, none) ⟨k1, fun n hn => ?_⟩
  have ec : am_car f n = am_car g n := by
    have e1 : f 70 0 = g 70 0 := f1 70 0 rfl
    have e2 : f 70 5 = g 70 5 := f1 70 5 rfl
    have e3 : f 70 6 = g 70 6 := f1 70 6 rfl
    unfold am_car
    rw [e1, e2, e3, f2 _ _ (by omega) (by omega), f2 _ _ (by omega) (by omega)]
  rw [← ec]
  show (if n < 127 then am_car f n else f 86 n) = _
  rw [if_pos hn]