/-! THE CIRCLES of the reference -/
/-- the first n of array A are c -/
def an_arr (h : Nat → Nat → Int) (A n : Nat) (c : Nat → Int) : Nat → Nat → Int := fun a j => if a = A then (if j < n then c j else h a j) else h a j
theorem an_arr_0 {h : Nat → Nat → Int} {A : Nat} {c : Nat → Int} : an_arr h A 0 c = h := by
  funext a j
  unfold an_arr
  by_cases h1 : a = A
  · rw [if_pos h1, if_neg (by omega)]
  · rw [if_neg h1]
theorem an_arr_g {h : Nat → Nat → Int} {A n : Nat} {c : Nat → Int} : am_up (an_arr h A n c) A n (c n) = an_arr h A (n + 1) c := by
  funext a j
  unfold am_up an_arr
  by_cases h1 : a = A
  · rw [if_pos h1, if_pos h1, if_pos h1]
    by_cases h2 : j = n
    · rw [if_pos h2, if_pos (by omega), h2]
    · rw [if_neg h2]
      by_cases h3 : j < n
      · rw [if_pos h3, if_pos (by omega)]
      · rw [if_neg h3, if_neg (by omega)]
  · rw [if_neg h1, if_neg h1, if_neg h1]
theorem an_arr_u {h : Nat → Nat → Int} {A n i : Nat} {c : Nat → Int} {v : Int} (hi : i < n) : am_up (an_arr h A n c) A i v = an_arr h A n (am_sx c i v) := by
  funext a j
  unfold am_up an_arr am_sx
  by_cases h1 : a = A
  · rw [if_pos h1, if_pos h1, if_pos h1]
    by_cases h2 : j = i
    · rw [if_pos h2, if_pos (by omega), if_pos h2]
    · rw [if_neg h2, if_neg h2]
  · rw [if_neg h1, if_neg h1, if_neg h1]
theorem an_arr_i {h : Nat → Nat → Int} {A n i : Nat} {c : Nat → Int} (hi : i < n) : an_arr h A n c A i = c i := by
  unfold an_arr
  rw [if_pos rfl, if_pos hi]
theorem an_arr_e {h : Nat → Nat → Int} {A n : Nat} {c e : Nat → Int} (hc : ∀ i, i < n → c i = e i) : an_arr h A n c = an_arr h A n e := by
  funext a j
  unfold an_arr
  by_cases h1 : a = A
  · rw [if_pos h1, if_pos h1]
    by_cases h2 : j < n
    · rw [if_pos h2, if_pos h2, hc j h2]
    · rw [if_neg h2, if_neg h2]
  · rw [if_neg h1, if_neg h1]
theorem am_keep_arr {h g : Nat → Nat → Int} {A n : Nat} {c : Nat → Int} (hr : ∀ j, am_rel A j = false) (hk : am_keep h g) : am_keep h (an_arr g A n c) := by
  intro b i hb
  unfold an_arr
  by_cases h1 : b = A
  · rw [h1, hr] at hb; cases hb
  · rw [if_neg h1]; exact hk b i hb
def an_sn (m : Nat → Nat) (i v : Nat) : Nat → Nat := fun j => if j = i then v else m j
theorem an_sn_i {m : Nat → Nat} {i v : Nat} : (fun j => ((an_sn m i v j : Nat) : Int)) = am_sx (fun j => ((m j : Nat) : Int)) i (v : Int) := by
  funext j
  unfold an_sn am_sx
  by_cases h1 : j = i
  · rw [if_pos h1, if_pos h1]
  · rw [if_neg h1, if_neg h1]
/-- behind k rounds of taking in, and those a' below a once more, and of a the first e -/
def an_cr (fm : Nat → Nat) (n k a e : Nat) (m : Nat → Nat) : Prop := ∀ i, i < n → m i < 2 ^ n ∧ (∀ b, Nat.testBit (m i) b = true → am_in fm n i n b) ∧ (∀ b, am_in fm n i k b → Nat.testBit (m i) b = true) ∧ (i < a → ∀ b, am_in fm n i (k + 1) b → Nat.testBit (m i) b = true) ∧ (i = a → ∀ c, c < e → Nat.testBit (fm i) c = true → ∀ b, am_in fm n c k b → Nat.testBit (m i) b = true)
theorem an_cr_e {fm : Nat → Nat} {n k a e : Nat} {m : Nat → Nat} (hf : ∀ c, c < n → fm c < 2 ^ n) (ha : a < n) (he : e < n) (hc : an_cr fm n k a e m) : an_cr fm n k a (e + 1) (bif Nat.testBit (fm a) e then an_sn m a (m a ||| m e) else m) := by
  intro i hi
  obtain ⟨h0, h1, h2, h3, h4⟩ := hc i hi
  obtain ⟨g0, g1, g2, g3, g4⟩ := hc e he
  cases hx : Nat.testBit (fm a) e with
  | false =>
    refine ⟨h0, h1, h2, h3, fun ia c hce hfc b hb => ?_⟩
    by_cases h5 : c = e
    · rw [ia, h5, hx] at hfc; cases hfc
    · exact h4 ia c (by omega) hfc b hb
  | true =>
    show (an_sn m a (m a ||| m e)) i < 2 ^ n ∧ (∀ b, Nat.testBit (an_sn m a (m a ||| m e) i) b = true → am_in fm n i n b) ∧ (∀ b, am_in fm n i k b → Nat.testBit (an_sn m a (m a ||| m e) i) b = true) ∧ (i < a → ∀ b, am_in fm n i (k + 1) b → Nat.testBit (an_sn m a (m a ||| m e) i) b = true) ∧ (i = a → ∀ c, c < e + 1 → Nat.testBit (fm i) c = true → ∀ b, am_in fm n c k b → Nat.testBit (an_sn m a (m a ||| m e) i) b = true)
    by_cases h5 : i = a
    · subst h5
      have es : an_sn m i (m i ||| m e) i = m i ||| m e := if_pos rfl
      rw [es]
      simp only [Nat.testBit_or, Bool.or_eq_true]
      refine ⟨Nat.or_lt_two_pow h0 g0, fun b hb => ?_, fun b hb => Or.inl (h2 b hb), fun hia => absurd hia (by omega), fun _ c hce hfc b hb => ?_⟩
      · rcases hb with hb | hb
        · exact h1 b hb
        · exact am_in_st hi hf ((am_in_p hi hf).2 (Or.inr ⟨e, he, hx, g1 b hb⟩))
      · by_cases h6 : c = e
        · rw [h6] at hb; exact Or.inr (g2 b hb)
        · exact Or.inl (h4 rfl c (by omega) hfc b hb)
    · have es : an_sn m a (m a ||| m e) i = m i := if_neg h5
      rw [es]
      exact ⟨h0, h1, h2, h3, fun w => absurd w h5⟩
theorem an_cr_a {fm : Nat → Nat} {n k a : Nat} {m : Nat → Nat} (hf : ∀ c, c < n → fm c < 2 ^ n) (hc : an_cr fm n k a n m) : an_cr fm n k (a + 1) 0 m := by
  intro i hi
  obtain ⟨h0, h1, h2, h3, h4⟩ := hc i hi
  refine ⟨h0, h1, h2, fun hia b hb => ?_, fun _ c hc => absurd hc (by omega)⟩
  by_cases h5 : i = a
  · rcases (am_in_p hi hf).1 hb with h6 | ⟨c, h6, h7, h8⟩
    · exact h2 b h6
    · exact h4 h5 c h6 h7 b h8
  · exact h3 (by omega) b hb
theorem an_cr_k {fm : Nat → Nat} {n k : Nat} {m : Nat → Nat} (hc : an_cr fm n k n 0 m) : an_cr fm n (k + 1) 0 0 m := by
  intro i hi
  obtain ⟨h0, h1, h2, h3, h4⟩ := hc i hi
  exact ⟨h0, h1, h3 hi, fun w => absurd w (by omega), fun _ c hc => absurd hc (by omega)⟩
theorem an_cr_0 {fm : Nat → Nat} {n : Nat} : an_cr fm n 0 0 0 (fun a => 2 ^ a) := by
  intro i hi
  refine ⟨Nat.pow_lt_pow_right (by omega) hi, fun b hb => am_in_m (Nat.zero_le n) ?_, fun b hb => hb, fun w => absurd w (by omega), fun _ c hc => absurd hc (by omega)⟩
  exact hb
theorem an_cr_n {fm : Nat → Nat} {n i : Nat} {m : Nat → Nat} (hc : an_cr fm n n 0 0 m) (hi : i < n) : m i = am_bm fm n i n := by
  obtain ⟨h0, h1, h2, h3, h4⟩ := hc i hi
  apply Nat.eq_of_testBit_eq
  intro b
  cases h5 : Nat.testBit (m i) b with
  | true => exact (h1 b h5).symm
  | false =>
    cases h6 : Nat.testBit (am_bm fm n i n) b with
    | false => rfl
    | true => rw [h2 b h6] at h5; cases h5
theorem lp_M_cir_e {d L kp : Nat} {h : Nat → Nat → Int} {Q : Option am_V → am_H → Prop} {k a : Nat} {x : Int} (hd : 2 ≤ d) (hv : v_ok (am_mv h)) (ha : a < (h 70 0).toNat) (K : ∀ m, an_cr (v_fm (am_mv h) (-9)) (h 70 0).toNat k (a + 1) 0 m → ∀ j : Option am_V, am_Wp d 233 37 [some (Sum.inr (Sum.inr 70)), some (Sum.inl (x)), some (Sum.inl (((a + 1 : Nat) : Int))), j] [] (am_SH L, (an_arr h 92 (h 70 0).toNat (fun j => ((m j : Nat) : Int))), am_RR kp) Q) : ∀ m, an_cr (v_fm (am_mv h) (-9)) (h 70 0).toNat k a 0 m → am_Wp d 233 47 [some (Sum.inr (Sum.inr 70)), some (Sum.inl (x)), some (Sum.inl ((a : Int))), some (Sum.inl (0))] [] (am_SH L, (an_arr h 92 (h 70 0).toNat (fun j => ((m j : Nat) : Int))), am_RR kp) Q := by
  have hQ := mv_Q hv
  have hP := mv_P hv
  have hD := mv_D hv
  have hf : ∀ c, c < (h 70 0).toNat → (v_fm (am_mv h) (-9)) c < 2 ^ (h 70 0).toNat := fun c _ => v_fm_lt
  refine am_im_fr (J := Nat → Nat) (a := 0) (n := (h 70 0).toNat) (fun e m => an_cr (v_fm (am_mv h) (-9)) (h 70 0).toNat k a e m) (fun e m => am_Wp d 233 47 [some (Sum.inr (Sum.inr 70)), some (Sum.inl (x)), some (Sum.inl ((a : Int))), some (Sum.inl ((e : Int)))] [] (am_SH L, (an_arr h 92 (h 70 0).toNat (fun j => ((m j : Nat) : Int))), am_RR kp) Q) (by omega) (fun e m _ he hm ih => ?_) (fun m hm => ?_)
  · have hvm : v_ok (am_mv (an_arr h 92 (h 70 0).toNat (fun j => ((m j : Nat) : Int)))) := hv
    have e70 : (an_arr h 92 (h 70 0).toNat (fun j => ((m j : Nat) : Int))) 70 0 = h 70 0 := rfl
    have ea : (an_arr h 92 (h 70 0).toNat (fun j => ((m j : Nat) : Int))) 92 ((a : Int)).toNat = ((m a : Nat) : Int) := an_arr_i (by omega)
    have ee : (an_arr h 92 (h 70 0).toNat (fun j => ((m j : Nat) : Int))) 92 ((e : Int)).toNat = ((m e : Nat) : Int) := an_arr_i (by omega)
    have hn7 : 2 ^ (h 70 0).toNat ≤ 2 ^ 7 := Nat.pow_le_pow_right (by omega) (by omega)
    have la := (hm a ha).1
    have le := (hm e he).1
    have hs := an_cr_e hf ha he hm
    have tb : Nat.testBit ((v_fm (am_mv h) (-9)) a) e = v_fb (am_mv h) (-9) a e := by
      rw [v_fm_tb, decide_eq_true (show e < (vP (am_mv h)).toNat from he), Bool.true_and]
    rw [tb] at hs
    have ef : v_fb (am_mv h) (-9) a e = (!decide ((a : Int) = (e : Int)) && (decide ((a : Int) = -9 ∨ (e : Int) = -9) || v_friend (am_mv h) (a : Int) (e : Int))) := rfl
    rw [decide_eq_false (show ¬ ((a : Int) = -9 ∨ (e : Int) = -9) by omega), Bool.false_or] at ef
    have e86 : ∀ v : Nat, am_up (an_arr h 92 (h 70 0).toNat (fun j => ((m j : Nat) : Int))) 92 ((a : Int)).toNat (v : Int) = (an_arr h 92 (h 70 0).toNat (fun j => (((an_sn m a v) j : Nat) : Int))) := fun v => by
      rw [an_sn_i, Int.toNat_natCast]
      exact an_arr_u (by omega)
    refine (show _ = _ from bq_M_layCircles_47 (by omega)).mpr ?_
    rw [e70, if_neg (by omega), am_gd (by omega) (by omega), ea]
    by_cases q3 : (a : Int) = (e : Int)
    · rw [if_pos q3, bq_M_layCircles_85, bq_M_layCircles_86, am_gd (by omega) (by omega), am_or_0 ⟨by omega, by omega⟩, am_incn (by omega), e86]
      rw [decide_eq_true q3] at ef
      rw [ef] at hs
      have h9 := ih m hs
      have em : an_sn m a (m a) = m := by
        funext i
        unfold an_sn
        by_cases h1 : i = a
        · rw [if_pos h1, h1]
        · rw [if_neg h1]
      rw [em]
      exact h9
    · rw [if_neg q3, sp_M_areWilling (by omega) hvm (by omega) (by omega) (by omega) (by omega)]
      simp only [Option.toList_some, Option.toList_none, List.cons_append, List.nil_append]
      have ev : v_friend (am_mv (an_arr h 92 (h 70 0).toNat (fun j => ((m j : Nat) : Int)))) (a : Int) (e : Int) = v_friend (am_mv h) (a : Int) (e : Int) := rfl
      rw [bq_M_layCircles_73, ev]
      rw [decide_eq_false q3] at ef
      cases hw : v_friend (am_mv h) (a : Int) (e : Int) with
      | false =>
        rw [if_pos am_bif, bq_M_layCircles_85, bq_M_layCircles_86, am_gd (by omega) (by omega), am_or_0 ⟨by omega, by omega⟩, am_incn (by omega), e86]
        rw [hw] at ef
        rw [ef] at hs
        have h9 := ih m hs
        have em : an_sn m a (m a) = m := by
          funext i
          unfold an_sn
          by_cases h1 : i = a
          · rw [if_pos h1, h1]
          · rw [if_neg h1]
        rw [em]
        exact h9
      | true =>
        rw [if_neg am_b0, am_gd (by omega) (by omega), ee, bq_M_layCircles_86, am_gd (by omega) (by omega), am_or_ok (by omega) (by omega), am_incn (by omega), e86]
        rw [hw] at ef
        rw [ef] at hs
        exact ih _ hs
  · have e70 : (an_arr h 92 (h 70 0).toNat (fun j => ((m j : Nat) : Int))) 70 0 = h 70 0 := rfl
    show am_Wp d 233 47 [some (Sum.inr (Sum.inr 70)), some (Sum.inl (x)), some (Sum.inl ((a : Int))), some (Sum.inl ((((h 70 0).toNat : Nat) : Int)))] [] (am_SH L, (an_arr h 92 (h 70 0).toNat (fun j => ((m j : Nat) : Int))), am_RR kp) Q
    refine (show _ = _ from bq_M_layCircles_47 (by omega)).mpr ?_
    rw [e70, if_pos (by omega), am_incn (by omega)]
    exact K m (an_cr_a hf hm) _
theorem lp_M_cir_a {d L kp : Nat} {h : Nat → Nat → Int} {Q : Option am_V → am_H → Prop} {k : Nat} (hd : 2 ≤ d) (hv : v_ok (am_mv h)) (hk : k < (h 70 0).toNat) (K : ∀ m, an_cr (v_fm (am_mv h) (-9)) (h 70 0).toNat (k + 1) 0 0 m → ∀ j j' : Option am_V, am_Wp d 233 27 [some (Sum.inr (Sum.inr 70)), some (Sum.inl (((k + 1 : Nat) : Int))), j, j'] [] (am_SH L, (an_arr h 92 (h 70 0).toNat (fun j => ((m j : Nat) : Int))), am_RR kp) Q) : ∀ mj : (Nat → Nat) × Option am_V, an_cr (v_fm (am_mv h) (-9)) (h 70 0).toNat k 0 0 mj.1 → am_Wp d 233 37 [some (Sum.inr (Sum.inr 70)), some (Sum.inl ((k : Int))), some (Sum.inl (0)), mj.2] [] (am_SH L, (an_arr h 92 (h 70 0).toNat (fun j => ((mj.1 j : Nat) : Int))), am_RR kp) Q := by
  have hQ := mv_Q hv
  have hP := mv_P hv
  have hD := mv_D hv
  refine am_im_fr (J := (Nat → Nat) × Option am_V) (a := 0) (n := (h 70 0).toNat) (fun a mj => an_cr (v_fm (am_mv h) (-9)) (h 70 0).toNat k a 0 mj.1) (fun a mj => am_Wp d 233 37 [some (Sum.inr (Sum.inr 70)), some (Sum.inl ((k : Int))), some (Sum.inl ((a : Int))), mj.2] [] (am_SH L, (an_arr h 92 (h 70 0).toNat (fun j => ((mj.1 j : Nat) : Int))), am_RR kp) Q) (by omega) (fun a mj _ ha hm ih => ?_) (fun mj hm => ?_)
  · have e70 : (an_arr h 92 (h 70 0).toNat (fun j => ((mj.1 j : Nat) : Int))) 70 0 = h 70 0 := rfl
    refine (show _ = _ from bq_M_layCircles_37).mpr ?_
    rw [e70, if_neg (by omega)]
    exact lp_M_cir_e hd hv ha (fun m hm j => ih (m, j) hm) mj.1 hm
  · have e70 : (an_arr h 92 (h 70 0).toNat (fun j => ((mj.1 j : Nat) : Int))) 70 0 = h 70 0 := rfl
    show am_Wp d 233 37 [some (Sum.inr (Sum.inr 70)), some (Sum.inl ((k : Int))), some (Sum.inl ((((h 70 0).toNat : Nat) : Int))), mj.2] [] (am_SH L, (an_arr h 92 (h 70 0).toNat (fun j => ((mj.1 j : Nat) : Int))), am_RR kp) Q
    refine (show _ = _ from bq_M_layCircles_37).mpr ?_
    rw [e70, if_pos (by omega), am_incn (by omega)]
    exact K mj.1 (an_cr_k hm) _ _
theorem lp_M_cir_k {d L kp : Nat} {h : Nat → Nat → Int} {Q : Option am_V → am_H → Prop} (hd : 2 ≤ d) (hv : v_ok (am_mv h)) (K : Q none (am_SH L, (an_arr h 92 (h 70 0).toNat (fun j => (((v_cy (am_mv h) (-9)) j : Nat) : Int))), am_RR kp)) : ∀ mj : (Nat → Nat) × Option am_V × Option am_V, an_cr (v_fm (am_mv h) (-9)) (h 70 0).toNat 0 0 0 mj.1 → am_Wp d 233 27 [some (Sum.inr (Sum.inr 70)), some (Sum.inl (0)), mj.2.1, mj.2.2] [] (am_SH L, (an_arr h 92 (h 70 0).toNat (fun j => ((mj.1 j : Nat) : Int))), am_RR kp) Q := by
  have hQ := mv_Q hv
  have hP := mv_P hv
  have hD := mv_D hv
  refine am_im_fr (J := (Nat → Nat) × Option am_V × Option am_V) (a := 0) (n := (h 70 0).toNat) (fun k mj => an_cr (v_fm (am_mv h) (-9)) (h 70 0).toNat k 0 0 mj.1) (fun k mj => am_Wp d 233 27 [some (Sum.inr (Sum.inr 70)), some (Sum.inl ((k : Int))), mj.2.1, mj.2.2] [] (am_SH L, (an_arr h 92 (h 70 0).toNat (fun j => ((mj.1 j : Nat) : Int))), am_RR kp) Q) (by omega) (fun k mj _ hk hm ih => ?_) (fun mj hm => ?_)
  · have e70 : (an_arr h 92 (h 70 0).toNat (fun j => ((mj.1 j : Nat) : Int))) 70 0 = h 70 0 := rfl
    refine (show _ = _ from bq_M_layCircles_27).mpr ?_
    rw [e70, if_neg (by omega)]
    exact lp_M_cir_a hd hv hk (fun m hm j j' => ih (m, j, j') hm) (mj.1, mj.2.2) hm
  · have e70 : (an_arr h 92 (h 70 0).toNat (fun j => ((mj.1 j : Nat) : Int))) 70 0 = h 70 0 := rfl
    show am_Wp d 233 27 [some (Sum.inr (Sum.inr 70)), some (Sum.inl ((((h 70 0).toNat : Nat) : Int))), mj.2.1, mj.2.2] [] (am_SH L, (an_arr h 92 (h 70 0).toNat (fun j => ((mj.1 j : Nat) : Int))), am_RR kp) Q
    refine (show _ = _ from bq_M_layCircles_27).mpr ?_
    rw [e70, if_pos (by omega)]
    have em : (an_arr h 92 (h 70 0).toNat (fun j => ((mj.1 j : Nat) : Int))) = (an_arr h 92 (h 70 0).toNat (fun j => (((v_cy (am_mv h) (-9)) j : Nat) : Int))) := an_arr_e (fun i hi => by rw [an_cr_n hm hi]; rfl)
    rw [em]
    exact K
theorem sp_M_layCircles {d L kp : Nat} {h : Nat → Nat → Int} {Q : Option am_V → am_H → Prop} (hd : 2 ≤ d) (hv : v_ok (am_mv h)) (hq : Q none (am_SH L, (an_arr h 92 (h 70 0).toNat (fun j => (((v_cy (am_mv h) (-9)) j : Nat) : Int))), am_RR kp)) : am_Wp d 233 0 [some (Sum.inr (Sum.inr 70)), none, none, none] [] (am_SH L, h, am_RR kp) Q := by
  have hQ := mv_Q hv
  have hP := mv_P hv
  have hD := mv_D hv
  rw [bq_M_layCircles_0]
  have h1 := am_up_eq (n := (h 70 0).toNat) (fun k => am_Wp d 233 2 [some (Sum.inr (Sum.inr 70)), some (Sum.inl ((k : Int))), none, none] [] (am_SH L, (an_arr h 92 k (fun j => (((fun a => 2 ^ a) j : Nat) : Int))), am_RR kp) Q) (am_Wp d 233 2 [some (Sum.inr (Sum.inr 70)), some (Sum.inl ((((h 70 0).toNat : Nat) : Int))), none, none] [] (am_SH L, (an_arr h 92 (h 70 0).toNat (fun j => (((fun a => 2 ^ a) j : Nat) : Int))), am_RR kp) Q) (fun k hk => ?_) rfl
  · have e0 : (an_arr h 92 0 (fun j => (((fun a => 2 ^ a) j : Nat) : Int))) = h := an_arr_0
    rw [e0] at h1
    refine h1.mpr ?_
    have e70 : (an_arr h 92 (h 70 0).toNat (fun j => (((fun a => 2 ^ a) j : Nat) : Int))) 70 0 = h 70 0 := rfl
    refine (show _ = _ from bq_M_layCircles_2).mpr ?_
    rw [e70, if_pos (by omega)]
    exact lp_M_cir_k hd hv hq ((fun a => 2 ^ a), none, none) an_cr_0
  · have e70 : (an_arr h 92 k (fun j => (((fun a => 2 ^ a) j : Nat) : Int))) 70 0 = h 70 0 := rfl
    refine (bq_M_layCircles_2).trans ?_
    rw [e70, if_neg (by omega), am_gd (by omega) (by omega), am_incn (by omega), am_shl1 (by omega), Int.toNat_natCast]
    have eg := an_arr_g (h := h) (A := 92) (n := k) (c := fun j => ((2 ^ j : Nat) : Int))
    rw [eg]