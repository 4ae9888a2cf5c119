/-! STEPS of the reference -/
theorem am_and_ne {x g : Nat} : ¬ (x &&& g) = 0 ↔ ∃ o, Nat.testBit x o = true ∧ Nat.testBit g o = true := by
  constructor
  · intro h
    refine Classical.byContradiction (fun hn => h ?_)
    apply Nat.eq_of_testBit_eq
    intro i
    rw [Nat.testBit_and, Nat.zero_testBit]
    cases h1 : Nat.testBit x i with
    | false => rfl
    | true =>
      cases h2 : Nat.testBit g i with
      | false => rfl
      | true => exact absurd ⟨i, h1, h2⟩ hn
  · rintro ⟨o, h1, h2⟩ h
    have h3 := congrArg (fun z => Nat.testBit z o) h
    simp only [Nat.testBit_and, h1, h2, Bool.and_self, Nat.zero_testBit] at h3
    cases h3
def an_lst (g : Nat) (c : Nat → Int) (n : Nat) : Int := am_for (fun o s => if Nat.testBit g o = true ∧ c o < s then c o else s) n 99
theorem an_lst_s {g : Nat} {c : Nat → Int} {n : Nat} : an_lst g c (n + 1) = if Nat.testBit g n = true ∧ c n < an_lst g c n then c n else an_lst g c n := rfl
theorem an_lst_sp {g : Nat} {c : Nat → Int} {n : Nat} : (an_lst g c n ≤ 99) ∧ (∀ o, o < n → Nat.testBit g o = true → an_lst g c n ≤ c o) ∧ (an_lst g c n = 99 ∨ ∃ o, o < n ∧ Nat.testBit g o = true ∧ an_lst g c n = c o) := by
  induction n with
  | zero => exact ⟨Int.le_refl 99, fun o h => absurd h (by omega), Or.inl rfl⟩
  | succ n ih =>
    obtain ⟨h0, h1, h2⟩ := ih
    rw [an_lst_s]
    by_cases hx : Nat.testBit g n = true ∧ c n < an_lst g c n
    · rw [if_pos hx]
      refine ⟨by omega, fun o ho hg => ?_, Or.inr ⟨n, by omega, hx.1, rfl⟩⟩
      by_cases q : o = n
      · rw [q]; exact Int.le_refl _
      · have := h1 o (by omega) hg; omega
    · rw [if_neg hx]
      refine ⟨h0, fun o ho hg => ?_, ?_⟩
      · by_cases q : o = n
        · rw [q] at hg ⊢
          have : ¬ c n < an_lst g c n := fun w => hx ⟨hg, w⟩
          omega
        · exact h1 o (by omega) hg
      · rcases h2 with h2 | ⟨o, h3, h4, h5⟩
        · exact Or.inl h2
        · exact Or.inr ⟨o, by omega, h4, h5⟩
theorem an_sp_near {fm : Nat → Nat} {n a0 g : Nat} {c : Nat → Int} (hn : n < 90) (ha : a0 < n) (hf : ∀ c, c < n → fm c < 2 ^ n) (hc : an_sp fm n a0 n 0 0 c) : (if an_lst g c n < 99 then an_lst g c n else -9) = v_oi (am_fst (fun r => decide (¬ (am_bm fm n a0 r &&& g) = 0)) (n + 1) 0) := by
  obtain ⟨h1, h2, h3, h4⟩ := hc
  obtain ⟨l0, l1, l2⟩ := an_lst_sp (g := g) (c := c) (n := n)
  cases hq : am_fst (fun r => decide (¬ (am_bm fm n a0 r &&& g) = 0)) (n + 1) 0 with
  | none =>
    have h5 := am_fst_none hq
    rw [if_neg (fun w => ?_)]
    · rfl
    · rcases l2 with l2 | ⟨o, l3, l4, l5⟩
      · omega
      · have h6 : am_in fm n a0 n o := am_in_st ha hf (h2 o l3 (by omega))
        exact absurd (am_and_ne.2 ⟨o, h6, l4⟩) (of_decide_eq_false (h5 n (by omega) (by omega)))
  | some r =>
    have h5 := am_fst_some hq
    obtain ⟨o, h6, h7⟩ := am_and_ne.1 (of_decide_eq_true h5.2.1)
    have h8 : o < n := am_in_lt ha hf h6
    have h9 := h3 o r h8 (by have := h5.1.2; omega) h6
    have h10 := l1 o h8 h7
    have h11 := h5.1.2
    rw [if_pos (by omega)]
    show _ = (r : Int)
    rcases l2 with l2 | ⟨o2, l3, l4, l5⟩
    · omega
    · have h12 := h2 o2 l3 (by omega)
      have h13 := h1 o2 l3
      by_cases h14 : an_lst g c n = (r : Int)
      · exact h14
      · have h15 := h5.2.2 (c o2).toNat (by omega) (by omega)
        exact absurd (am_and_ne.2 ⟨o2, h12, l4⟩) (of_decide_eq_false h15)
theorem lp_M_st_e {d L kp : Nat} {h : Nat → Nat → Int} {Q : Option am_V → am_H → Prop} {z k a : Nat} {x : Int} {j1 : Option am_V} (hd : 2 ≤ d) (hv : v_ok (am_mv h)) (hk : k < 90) (ha : a < (h 70 0).toNat) (K : ∀ c, an_sp (v_fm (am_mv h) (-9)) (h 70 0).toNat z k (a + 1) 0 c → ∀ j j' : Option am_V, am_Wp d 254 43 [some (Sum.inr (Sum.inr 70)), j1, some (Sum.inl (x)), some (Sum.inl (((a + 1 : Nat) : Int))), j, j'] [] (am_SH L, (an_arr h 97 7 c), am_RR kp) Q) : ∀ cj : (Nat → Int) × Option am_V, an_sp (v_fm (am_mv h) (-9)) (h 70 0).toNat z k a 0 cj.1 → am_Wp d 254 54 [some (Sum.inr (Sum.inr 70)), j1, some (Sum.inl (x)), some (Sum.inl ((a : Int))), some (Sum.inl (0)), cj.2] [] (am_SH L, (an_arr h 97 7 cj.1), am_RR kp) Q := by
  have hQ := mv_Q hv
  have hP := mv_P hv
  have hD := mv_D hv
  refine am_im_fr (J := (Nat → Int) × Option am_V) (a := 0) (n := (h 70 0).toNat) (fun e cj => an_sp (v_fm (am_mv h) (-9)) (h 70 0).toNat z k a e cj.1) (fun e cj => am_Wp d 254 54 [some (Sum.inr (Sum.inr 70)), j1, some (Sum.inl (x)), some (Sum.inl ((a : Int))), some (Sum.inl ((e : Int))), cj.2] [] (am_SH L, (an_arr h 97 7 cj.1), am_RR kp) Q) (by omega) (fun e cj _ he hm ih => ?_) (fun cj hm => ?_)
  · obtain ⟨c, j5⟩ := cj
    have hm2 : an_sp (v_fm (am_mv h) (-9)) (h 70 0).toNat z k a e c := hm
    show am_Wp d 254 54 [some (Sum.inr (Sum.inr 70)), j1, some (Sum.inl (x)), some (Sum.inl ((a : Int))), some (Sum.inl ((e : Int))), j5] [] (am_SH L, (an_arr h 97 7 c), am_RR kp) Q
    have hvm : v_ok (am_mv (an_arr h 97 7 c)) := hv
    have e70 : (an_arr h 97 7 c) 70 0 = h 70 0 := rfl
    have ea : (an_arr h 97 7 c) 97 ((a : Int)).toNat = c a := an_arr_i (by omega)
    have ee : (an_arr h 97 7 c) 97 ((e : Int)).toNat = c e := an_arr_i (by omega)
    have ba := hm2.1 a ha
    have be := hm2.1 e he
    have hs := an_sp_e ha he hk hm2
    have tb : Nat.testBit ((v_fm (am_mv h) (-9)) a) e = v_fb (am_mv h) (-9) a e := by
      rw [v_fm_tb, decide_eq_true (show e < (vP (am_mv h)).toNat from he), Bool.true_and]
    rw [tb] at hs
    have ef : v_fb (am_mv h) (-9) a e = (!decide ((a : Int) = (e : Int)) && (decide ((a : Int) = -9 ∨ (e : Int) = -9) || v_friend (am_mv h) (a : Int) (e : Int))) := rfl
    rw [decide_eq_false (show ¬ ((a : Int) = -9 ∨ (e : Int) = -9) by omega), Bool.false_or] at ef
    have e133 : ∀ v : Int, am_up (an_arr h 97 7 c) 97 ((e : Int)).toNat v = (an_arr h 97 7 (am_sx c e v)) := fun v => by
      rw [Int.toNat_natCast]
      exact an_arr_u (by omega)
    have es : am_sx c e (c e) = c := by
      funext i
      unfold am_sx
      by_cases q : i = e
      · rw [if_pos q, q]
      · rw [if_neg q]
    have r101 : ¬ (v_fb (am_mv h) (-9) a e = true ∧ c a + 1 < c e) → am_Wp d 254 102 [some (Sum.inr (Sum.inr 70)), j1, some (Sum.inl (x)), some (Sum.inl ((a : Int))), some (Sum.inl ((e : Int))), j5] [Sum.inl 0] (am_SH L, (an_arr h 97 7 c), am_RR kp) Q := fun w => by
      rw [if_neg w] at hs
      rw [bq_M_layStepsFrom_102, if_pos rfl, am_gd (by omega) (by omega), ee, bq_M_layStepsFrom_133, am_gd (by omega) (by omega), am_incn (by omega), e133, es]
      exact ih (c, some (Sum.inl 0)) hs
    refine (show _ = _ from bq_M_layStepsFrom_54 (by omega)).mpr ?_
    rw [e70, if_neg (by omega)]
    by_cases q3 : (a : Int) = (e : Int)
    · rw [if_pos q3, bq_M_layStepsFrom_101]
      rw [decide_eq_true q3] at ef
      exact r101 (fun w => by rw [ef] at w; cases w.1)
    · rw [if_neg q3, sp_M_areWilling (by omega) hvm (by omega) (by omega) (by omega) (by omega)]
      simp only [Option.toList_some, Option.toList_none, List.cons_append, List.nil_append]
      have ev : v_friend (am_mv (an_arr h 97 7 c)) (a : Int) (e : Int) = v_friend (am_mv h) (a : Int) (e : Int) := rfl
      rw [bq_M_layStepsFrom_76, ev]
      rw [decide_eq_false q3] at ef
      cases hw : v_friend (am_mv h) (a : Int) (e : Int) with
      | false =>
        rw [if_pos am_bif, bq_M_layStepsFrom_101]
        rw [hw] at ef
        exact r101 (fun w => by rw [ef] at w; cases w.1)
      | true =>
        rw [if_neg am_b0, am_gd (by omega) (by omega), am_gd (by omega) (by omega), ea, ee, am_add_ok (by omega) (by omega)]
        rw [hw] at ef
        by_cases q4 : c e ≤ c a + 1
        · rw [if_pos q4, bq_M_layStepsFrom_101]
          exact r101 (fun w => by have := w.2; omega)
        · rw [if_neg q4, bq_M_layStepsFrom_102, if_neg (by omega), am_gd (by omega) (by omega), ea, am_add_ok (by omega) (by omega), bq_M_layStepsFrom_133, am_gd (by omega) (by omega), am_incn (by omega), e133]
          rw [ef, if_pos ⟨rfl, by omega⟩] at hs
          exact ih (_, some (Sum.inl 1)) hs
  · obtain ⟨c, j5⟩ := cj
    have e70 : (an_arr h 97 7 c) 70 0 = h 70 0 := rfl
    show am_Wp d 254 54 [some (Sum.inr (Sum.inr 70)), j1, some (Sum.inl (x)), some (Sum.inl ((a : Int))), some (Sum.inl ((((h 70 0).toNat : Nat) : Int))), j5] [] (am_SH L, (an_arr h 97 7 c), am_RR kp) Q
    refine (show _ = _ from bq_M_layStepsFrom_54 (by omega)).mpr ?_
    rw [e70, if_pos (by omega), am_incn (by omega)]
    exact K c (an_sp_a hm) _ _
theorem lp_M_st_a {d L kp : Nat} {h : Nat → Nat → Int} {Q : Option am_V → am_H → Prop} {z k : Nat} {j1 : Option am_V} (hd : 2 ≤ d) (hv : v_ok (am_mv h)) (hk : k < 90) (K : ∀ c, an_sp (v_fm (am_mv h) (-9)) (h 70 0).toNat z (k + 1) 0 0 c → ∀ j j' j'' : Option am_V, am_Wp d 254 33 [some (Sum.inr (Sum.inr 70)), j1, some (Sum.inl (((k + 1 : Nat) : Int))), j, j', j''] [] (am_SH L, (an_arr h 97 7 c), am_RR kp) Q) : ∀ cj : (Nat → Int) × Option am_V × Option am_V, an_sp (v_fm (am_mv h) (-9)) (h 70 0).toNat z k 0 0 cj.1 → am_Wp d 254 43 [some (Sum.inr (Sum.inr 70)), j1, some (Sum.inl ((k : Int))), some (Sum.inl (0)), cj.2.1, cj.2.2] [] (am_SH L, (an_arr h 97 7 cj.1), am_RR kp) Q := by
  have hQ := mv_Q hv
  have hP := mv_P hv
  have hD := mv_D hv
  refine am_im_fr (J := (Nat → Int) × Option am_V × Option am_V) (a := 0) (n := (h 70 0).toNat) (fun a cj => an_sp (v_fm (am_mv h) (-9)) (h 70 0).toNat z k a 0 cj.1) (fun a cj => am_Wp d 254 43 [some (Sum.inr (Sum.inr 70)), j1, some (Sum.inl ((k : Int))), some (Sum.inl ((a : Int))), cj.2.1, cj.2.2] [] (am_SH L, (an_arr h 97 7 cj.1), am_RR kp) Q) (by omega) (fun a cj _ ha hm ih => ?_) (fun cj hm => ?_)
  · have e70 : (an_arr h 97 7 cj.1) 70 0 = h 70 0 := rfl
    refine (show _ = _ from bq_M_layStepsFrom_43).mpr ?_
    rw [e70, if_neg (by omega)]
    exact lp_M_st_e hd hv hk ha (fun c hc j j' => ih (c, j, j') hc) (cj.1, cj.2.2) hm
  · have e70 : (an_arr h 97 7 cj.1) 70 0 = h 70 0 := rfl
    show am_Wp d 254 43 [some (Sum.inr (Sum.inr 70)), j1, some (Sum.inl ((k : Int))), some (Sum.inl ((((h 70 0).toNat : Nat) : Int))), cj.2.1, cj.2.2] [] (am_SH L, (an_arr h 97 7 cj.1), am_RR kp) Q
    refine (show _ = _ from bq_M_layStepsFrom_43).mpr ?_
    rw [e70, if_pos (by omega), am_incn (by omega)]
    exact K cj.1 (an_sp_k hm) _ _ _
theorem lp_M_st_k {d L kp : Nat} {h : Nat → Nat → Int} {Q : Option am_V → am_H → Prop} {z : Nat} {j1 : Option am_V} (hd : 2 ≤ d) (hv : v_ok (am_mv h)) (K : ∀ c, an_sp (v_fm (am_mv h) (-9)) (h 70 0).toNat z (h 70 0).toNat 0 0 c → Q none (am_SH L, (an_arr h 97 7 c), am_RR kp)) : ∀ cj : (Nat → Int) × Option am_V × Option am_V × Option am_V, an_sp (v_fm (am_mv h) (-9)) (h 70 0).toNat z 0 0 0 cj.1 → am_Wp d 254 33 [some (Sum.inr (Sum.inr 70)), j1, some (Sum.inl (0)), cj.2.1, cj.2.2.1, cj.2.2.2] [] (am_SH L, (an_arr h 97 7 cj.1), am_RR kp) Q := by
  have hQ := mv_Q hv
  have hP := mv_P hv
  have hD := mv_D hv
  refine am_im_fr (J := (Nat → Int) × Option am_V × Option am_V × Option am_V) (a := 0) (n := (h 70 0).toNat) (fun k cj => an_sp (v_fm (am_mv h) (-9)) (h 70 0).toNat z k 0 0 cj.1) (fun k cj => am_Wp d 254 33 [some (Sum.inr (Sum.inr 70)), j1, some (Sum.inl ((k : Int))), cj.2.1, cj.2.2.1, cj.2.2.2] [] (am_SH L, (an_arr h 97 7 cj.1), am_RR kp) Q) (by omega) (fun k cj _ hk hm ih => ?_) (fun cj hm => ?_)
  · have e70 : (an_arr h 97 7 cj.1) 70 0 = h 70 0 := rfl
    refine (show _ = _ from bq_M_layStepsFrom_33).mpr ?_
    rw [e70, if_neg (by omega)]
    exact lp_M_st_a hd hv (by omega) (fun c hc j j' j'' => ih (c, j, j', j'') hc) (cj.1, cj.2.2.1, cj.2.2.2) hm
  · have e70 : (an_arr h 97 7 cj.1) 70 0 = h 70 0 := rfl
    show am_Wp d 254 33 [some (Sum.inr (Sum.inr 70)), j1, some (Sum.inl ((((h 70 0).toNat : Nat) : Int))), cj.2.1, cj.2.2.1, cj.2.2.2] [] (am_SH L, (an_arr h 97 7 cj.1), am_RR kp) Q
    refine (show _ = _ from bq_M_layStepsFrom_33).mpr ?_
    rw [e70, if_pos (by omega)]
    exact K cj.1 hm
def an_s0 (z : Nat) (j : Nat) : Int := if (j : Int) = (z : Int) then 0 else 99
theorem an_sp_0 {fm : Nat → Nat} {n z : Nat} : an_sp fm n z 0 0 0 (an_s0 z) := by
  refine ⟨fun b hb => ?_, fun b hb h1 => ?_, fun b r hb hr hin => ?_, fun x b hx hb hxa => absurd hxa (by omega)⟩
  · unfold an_s0; split <;> omega
  · unfold an_s0 at h1 ⊢
    by_cases q : (b : Int) = (z : Int)
    · rw [if_pos q]; exact am_in_0.2 (by omega)
    · rw [if_neg q] at h1; omega
  · rw [show r = 0 by omega] at hin
    unfold an_s0
    rw [if_pos (by rw [am_in_0.1 hin])]
    omega
theorem sp_M_layStepsFrom {d L kp : Nat} {h : Nat → Nat → Int} {Q : Option am_V → am_H → Prop} {z : Nat} (hd : 2 ≤ d) (hv : v_ok (am_mv h)) (hq : ∀ c, an_sp (v_fm (am_mv h) (-9)) (h 70 0).toNat z (h 70 0).toNat 0 0 c → Q none (am_SH L, (an_arr h 97 7 c), am_RR kp)) : am_Wp d 254 0 [some (Sum.inr (Sum.inr 70)), some (Sum.inl (z : Int)), none, none, none, none] [] (am_SH L, h, am_RR kp) Q := by
  have hQ := mv_Q hv
  have hP := mv_P hv
  have hD := mv_D hv
  rw [bq_M_layStepsFrom_0]
  have h1 := am_up_eq (n := 7) (fun k => am_Wp d 254 2 [some (Sum.inr (Sum.inr 70)), some (Sum.inl ((z : Int))), some (Sum.inl ((k : Int))), none, none, none] [] (am_SH L, (an_arr h 97 k (an_s0 z)), am_RR kp) Q) (am_Wp d 254 2 [some (Sum.inr (Sum.inr 70)), some (Sum.inl ((z : Int))), some (Sum.inl (((7 : Nat) : Int))), none, none, none] [] (am_SH L, (an_arr h 97 7 (an_s0 z)), am_RR kp) Q) (fun k hk => ?_) rfl
  · have e0 : (an_arr h 97 0 (an_s0 z)) = h := an_arr_0
    rw [e0] at h1
    refine h1.mpr ?_
    refine (show _ = _ from bq_M_layStepsFrom_2).mpr ?_
    rw [if_pos (by omega)]
    exact lp_M_st_k hd hv hq (an_s0 z, none, none, none) an_sp_0
  · refine (bq_M_layStepsFrom_2).trans ?_
    have eg := an_arr_g (h := h) (A := 97) (n := k) (c := an_s0 z)
    rw [if_neg (by omega)]
    by_cases q : (k : Int) = (z : Int)
    · have e1 : an_s0 z k = 0 := if_pos q
      rw [if_pos q, bq_M_layStepsFrom_24, am_gd (by omega) (by omega), am_incn (by omega), Int.toNat_natCast, ← eg, e1]
    · have e1 : an_s0 z k = 99 := if_neg q
      rw [if_neg q, bq_M_layStepsFrom_24, am_gd (by omega) (by omega), am_incn (by omega), Int.toNat_natCast, ← eg, e1]