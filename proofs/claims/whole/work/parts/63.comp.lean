/-! THE COMPANY: who can come to whom, of the class -/
def am_ov (h : Nat → Nat → Int) (A : Nat) (c : Nat → Int) : Nat → Nat → Int := fun a j => if a = A then c j else h a j
def am_sx (c : Nat → Int) (i : Nat) (v : Int) : Nat → Int := fun j => if j = i then v else c j
theorem am_up_ov {h : Nat → Nat → Int} {A i : Nat} {c : Nat → Int} {v : Int} : am_up (am_ov h A c) A i v = am_ov h A (am_sx c i v) := by
  funext a j
  unfold am_up am_ov am_sx
  by_cases h1 : a = A
  · rw [if_pos h1, if_pos h1, if_pos h1]
  · rw [if_neg h1, if_neg h1, if_neg h1]
theorem am_ov_id {h : Nat → Nat → Int} {A : Nat} : am_ov h A (h A) = h := by
  funext a j
  unfold am_ov
  by_cases h1 : a = A
  · rw [if_pos h1, h1]
  · rw [if_neg h1]
theorem am_ov_A {h : Nat → Nat → Int} {A : Nat} {c : Nat → Int} : am_ov h A c A = c := by
  funext j
  exact if_pos rfl
theorem am_keep_ov {h g : Nat → Nat → Int} {A : Nat} {c : Nat → Int} (hr : ∀ j, am_rel A j = false) (hk : am_keep h g) : am_keep h (am_ov g A c) := by
  intro b i hb
  unfold am_ov
  by_cases h1 : b = A
  · rw [h1, hr] at hb; cases hb
  · rw [if_neg h1]; exact hk b i hb
theorem am_bits_i {b : Nat} {c : Nat → Bool} (hb : b < 30) : ((am_bits (b + 1) c : Nat) : Int) = if c b = true then am_or ((am_bits b c : Nat) : Int) (am_shl 1 (b : Int)) else ((am_bits b c : Nat) : Int) := by
  have h1 := am_bits_lt (n := b) (c := c)
  have h2 : 2 ^ b ≤ 2 ^ 30 := Nat.pow_le_pow_right (by omega) (by omega)
  cases hc : c b with
  | true => rw [if_pos rfl, am_shl1 (by omega), am_or_ok (by omega) (by omega), am_bits_or hc]
  | false =>
    rw [if_neg (by simp)]
    show ((am_bits b c + (bif c b then 2 ^ b else 0) : Nat) : Int) = _
    rw [hc]; rfl
def v_fb (V : am_Vw) (p : Int) (a b : Nat) : Bool := !decide ((a : Int) = (b : Int)) && (decide ((a : Int) = p ∨ (b : Int) = p) || v_friend V (a : Int) (b : Int))
def v_fm (V : am_Vw) (p : Int) (a : Nat) : Nat := am_bits (vP V).toNat (v_fb V p a)
def am_co (h : Nat → Nat → Int) (p : Int) : Prop := h 45 1 = h 2 0 ∧ ∀ a : Nat, (a : Int) < h 2 0 → h 46 a = ((v_fm (am_wv h 2) p a : Nat) : Int)
theorem v_fm_lt {V : am_Vw} {p : Int} {a : Nat} : v_fm V p a < 2 ^ (vP V).toNat := am_bits_lt
theorem v_fm_tb {V : am_Vw} {p : Int} {a b : Nat} : Nat.testBit (v_fm V p a) b = (decide (b < (vP V).toNat) && v_fb V p a b) := am_bits_tb
theorem v_fb_sy {V : am_Vw} {p : Int} {a b : Nat} : v_fb V p a b = v_fb V p b a := by
  unfold v_fb v_friend
  rw [Bool.and_comm (!v_shuns V (a : Int) (b : Int))]
  have e1 : decide ((a : Int) = (b : Int)) = decide ((b : Int) = (a : Int)) := decide_eq_decide.2 ⟨fun w => w.symm, fun w => w.symm⟩
  have e2 : decide ((a : Int) = p ∨ (b : Int) = p) = decide ((b : Int) = p ∨ (a : Int) = p) := decide_eq_decide.2 Or.comm
  rw [e1, e2]
theorem v_fm_sy {V : am_Vw} {p : Int} : ∀ a b, a < (vP V).toNat → b < (vP V).toNat → Nat.testBit (v_fm V p a) b = Nat.testBit (v_fm V p b) a := by
  intro a b ha hb
  rw [v_fm_tb, v_fm_tb, decide_eq_true ha, decide_eq_true hb, v_fb_sy]
theorem lp_Company_look_i {d L kp : Nat} {h : Nat → Nat → Int} {Q : Option am_V → am_H → Prop} {p : Int} {a : Nat} (j : Option am_V) {E : Prop} (hd : 2 ≤ d) (hv : v_ok (am_wv h 2)) (h45 : h 45 1 = h 2 0) (ha : (a : Int) < h 2 0) (hE : ∀ j : Option am_V × Option am_V × Option am_V, am_Wp d 83 10 [some (Sum.inr (Sum.inr 45)), some (Sum.inr (Sum.inr 2)), some (Sum.inl (p)), some (Sum.inl (((a + 1 : Nat) : Int))), j.1, j.2.1, j.2.2] [] (am_SH L, (am_put h 46 7 (a : Int) ((v_fm (am_wv h 2) p a : Nat) : Int)), am_RR kp) Q = E) : am_Wp d 83 24 [some (Sum.inr (Sum.inr 45)), some (Sum.inr (Sum.inr 2)), some (Sum.inl (p)), some (Sum.inl ((a : Int))), some (Sum.inl (0)), some (Sum.inl (0)), j] [] (am_SH L, h, am_RR kp) Q = E := by
  have hQ := wv_Q hv
  have hP := wv_P hv
  have hD := wv_D hv
  have key := am_dn_fr (J := Option am_V) (a := 0) (n := (h 2 0).toNat) (fun b j => am_Wp d 83 24 [some (Sum.inr (Sum.inr 45)), some (Sum.inr (Sum.inr 2)), some (Sum.inl (p)), some (Sum.inl ((a : Int))), some (Sum.inl (((am_bits b (v_fb (am_wv h 2) p a) : Nat) : Int))), some (Sum.inl ((b : Int))), j] [] (am_SH L, h, am_RR kp) Q) E (by omega) (fun b h1 h2 ih j => ?_) (fun j => ?_) j
  · exact key
  · refine (bq_Company_look_24 (by omega)).trans ?_
    simp (disch := first | exact hv | omega) only [bq_Company_look_0, bq_Company_look_5, bq_Company_look_97, bq_Company_look_44, bq_Company_look_49, bq_Company_look_81, bq_Company_look_72, bq_Company_look_69, sp_World_people_2, sp_put_46, sp_World_friendly_2, Option.toList_some, Option.toList_none, List.cons_append, List.nil_append, am_bi0, am_bi1, am_bft, true_and, reduceCtorEq, or_false, false_or, or_true, true_or, am_gd, am_incn, am_lk_nat, Int.toNat_natCast, ↓reduceIte, Int.reduceEq]
    rw [if_neg (by omega)]
    have eb := am_bits_i (b := b) (c := v_fb (am_wv h 2) p a) (by omega)
    have ef : v_fb (am_wv h 2) p a b = (!decide ((a : Int) = (b : Int)) && (decide ((a : Int) = p ∨ (b : Int) = p) || v_friend (am_wv h 2) (a : Int) (b : Int))) := rfl
    by_cases q3 : (a : Int) = (b : Int)
    · have ef2 : v_fb (am_wv h 2) p a b = false := by rw [ef, decide_eq_true q3]; rfl
      rw [ef2, if_neg (by simp)] at eb
      rw [← eb]
      simp only [if_pos q3]
      (repeat' split) <;> exact ih _
    · simp only [if_neg q3]
      by_cases q1 : (a : Int) = p ∨ (b : Int) = p
      · have ef2 : v_fb (am_wv h 2) p a b = true := by rw [ef, decide_eq_false q3, decide_eq_true q1]; rfl
        rw [ef2, if_pos rfl] at eb
        rw [← eb]
        by_cases q2 : (a : Int) = p
        · rw [if_pos q2]; exact ih _
        · rw [if_neg q2, if_pos (q1.resolve_left q2)]; exact ih _
      · have q2 : ¬ (a : Int) = p := fun w => q1 (Or.inl w)
        have q4 : ¬ (b : Int) = p := fun w => q1 (Or.inr w)
        rw [if_neg q2, if_neg q4]
        cases q5 : v_friend (am_wv h 2) (a : Int) (b : Int) with
        | true =>
          have ef2 : v_fb (am_wv h 2) p a b = true := by rw [ef, decide_eq_false q3, decide_eq_false q1, q5]; rfl
          rw [ef2, if_pos rfl] at eb
          rw [← eb, if_neg (by simp)]; exact ih _
        | false =>
          have ef2 : v_fb (am_wv h 2) p a b = false := by rw [ef, decide_eq_false q3, decide_eq_false q1, q5]; rfl
          rw [ef2, if_neg (by simp)] at eb
          rw [← eb, if_pos rfl]; exact ih _
  · refine (bq_Company_look_24 (by omega)).trans ?_
    simp (disch := first | exact hv | omega) only [bq_Company_look_0, bq_Company_look_5, bq_Company_look_97, bq_Company_look_44, bq_Company_look_49, bq_Company_look_81, bq_Company_look_72, bq_Company_look_69, sp_World_people_2, sp_put_46, sp_World_friendly_2, Option.toList_some, Option.toList_none, List.cons_append, List.nil_append, am_bi0, am_bi1, am_bft, true_and, reduceCtorEq, or_false, false_or, or_true, true_or, am_gd, am_incn, am_lk_nat, Int.toNat_natCast, ↓reduceIte, Int.reduceEq]
    rw [if_pos (by omega)]
    exact hE (_, _, _)
theorem lp_Company_look {d L kp : Nat} {h : Nat → Nat → Int} {Q : Option am_V → am_H → Prop} {p : Int} (j : Option am_V × Option am_V × Option am_V) (hd : 2 ≤ d) (hv : v_ok (am_wv h 2)) : am_Wp d 83 10 [some (Sum.inr (Sum.inr 45)), some (Sum.inr (Sum.inr 2)), some (Sum.inl (p)), some (Sum.inl (0)), j.1, j.2.1, j.2.2] [] (am_SH L, (am_ov (am_up h 45 1 (h 2 0)) 46 (fun j => if j < 0 then ((v_fm (am_wv h 2) p j : Nat) : Int) else h 46 j)), am_RR kp) Q = Q none (am_SH L, (am_ov (am_up h 45 1 (h 2 0)) 46 (fun j => if j < (h 2 0).toNat then ((v_fm (am_wv h 2) p j : Nat) : Int) else h 46 j)), am_RR kp) := by
  have hQ := wv_Q hv
  have hP := wv_P hv
  have hD := wv_D hv
  refine am_dn_eq (J := Option am_V × Option am_V × Option am_V) (n := (h 2 0).toNat) (fun a j => am_Wp d 83 10 [some (Sum.inr (Sum.inr 45)), some (Sum.inr (Sum.inr 2)), some (Sum.inl (p)), some (Sum.inl ((a : Int))), j.1, j.2.1, j.2.2] [] (am_SH L, (am_ov (am_up h 45 1 (h 2 0)) 46 (fun j => if j < a then ((v_fm (am_wv h 2) p j : Nat) : Int) else h 46 j)), am_RR kp) Q) (Q none (am_SH L, (am_ov (am_up h 45 1 (h 2 0)) 46 (fun j => if j < (h 2 0).toNat then ((v_fm (am_wv h 2) p j : Nat) : Int) else h 46 j)), am_RR kp)) (fun a ha ih j => ?_) (fun j => ?_) j
  · refine (bq_Company_look_10).trans ?_
    have e45 : (am_ov (am_up h 45 1 (h 2 0)) 46 (fun j => if j < a then ((v_fm (am_wv h 2) p j : Nat) : Int) else h 46 j)) 45 1 = h 2 0 := rfl
    rw [e45, if_neg (by omega)]
    have hv2 : v_ok (am_wv (am_ov (am_up h 45 1 (h 2 0)) 46 (fun j => if j < a then ((v_fm (am_wv h 2) p j : Nat) : Int) else h 46 j)) 2) := hv
    refine lp_Company_look_i (h := (am_ov (am_up h 45 1 (h 2 0)) 46 (fun j => if j < a then ((v_fm (am_wv h 2) p j : Nat) : Int) else h 46 j))) j.2.2 (by omega) hv2 rfl (by show (a : Int) < h 2 0; omega) (fun j => ?_)
    have eo : am_put (am_ov (am_up h 45 1 (h 2 0)) 46 (fun j => if j < a then ((v_fm (am_wv h 2) p j : Nat) : Int) else h 46 j)) 46 7 (a : Int) ((v_fm (am_wv (am_ov (am_up h 45 1 (h 2 0)) 46 (fun j => if j < a then ((v_fm (am_wv h 2) p j : Nat) : Int) else h 46 j)) 2) p a : Nat) : Int) = (am_ov (am_up h 45 1 (h 2 0)) 46 (fun j => if j < (a + 1) then ((v_fm (am_wv h 2) p j : Nat) : Int) else h 46 j)) := by
      rw [am_put_nat (by omega), am_up_ov]
      congr 1
      funext i
      unfold am_sx
      by_cases h1 : i = a
      · rw [if_pos h1, if_pos (by omega), h1]; rfl
      · rw [if_neg h1]
        dsimp only
        by_cases h2 : i < a
        · rw [if_pos h2, if_pos (by omega)]
        · rw [if_neg h2, if_neg (by omega)]
    rw [eo]
    exact ih j
  · refine (bq_Company_look_10).trans ?_
    have e45 : (am_ov (am_up h 45 1 (h 2 0)) 46 (fun j => if j < (h 2 0).toNat then ((v_fm (am_wv h 2) p j : Nat) : Int) else h 46 j)) 45 1 = h 2 0 := rfl
    rw [e45, if_pos (by omega)]
theorem sp_Company_look {d L kp : Nat} {h : Nat → Nat → Int} {Q : Option am_V → am_H → Prop} {p : Int} (hd : 2 ≤ d) (hv : v_ok (am_wv h 2)) (hq : ∀ g, am_keep h g → am_wv g 2 = am_wv h 2 → (am_led h → am_led g) → am_co g p → Q none (am_SH L, g, am_RR kp)) : am_Wp d 83 0 [some (Sum.inr (Sum.inr 45)), some (Sum.inr (Sum.inr 2)), some (Sum.inl p), none, none, none, none] [] (am_SH L, h, am_RR kp) Q := by
  have hQ := wv_Q hv
  have hP := wv_P hv
  have hD := wv_D hv
  rw [bq_Company_look_0 (by omega), sp_World_people_2]
  simp only [Option.toList_some, Option.toList_none, List.cons_append, List.nil_append]
  rw [bq_Company_look_5]
  have e0 : am_up h 45 1 (h 2 0) = (am_ov (am_up h 45 1 (h 2 0)) 46 (fun j => if j < 0 then ((v_fm (am_wv h 2) p j : Nat) : Int) else h 46 j)) := by
    refine Eq.trans (am_ov_id (A := 46)).symm ?_
    congr 1
  rw [e0]
  refine (lp_Company_look (none, none, none) hd hv).mpr (hq _ (am_keep_ov (fun _ => rfl) (am_keep_up rfl am_keep_r)) rfl (fun w => w) ⟨rfl, fun a ha => ?_⟩)
  have ha2 : (a : Int) < h 2 0 := ha
  show (if a < (h 2 0).toNat then _ else _) = _
  rw [if_pos (by omega)]
  rfl
theorem sp_Company_around {d L kp : Nat} {h : Nat → Nat → Int} {Q : Option am_V → am_H → Prop} {x : Nat} {p : Int} (hd : 1 ≤ d) (hv : v_ok (am_wv h 2)) (hc : am_co h p) (hx : x < 2 ^ 7) : am_Wp d 86 0 [some (Sum.inr (Sum.inr 45)), some (Sum.inl (x : Int)), none, none] [] (am_SH L, h, am_RR kp) Q = Q (some (Sum.inl (((am_arn (v_fm (am_wv h 2) p) x (h 2 0).toNat : Nat) : Int)))) (am_SH L, h, am_RR kp) := by
  have hQ := wv_Q hv
  have hP := wv_P hv
  have hD := wv_D hv
  have hlt : ∀ n, n ≤ (h 2 0).toNat → am_arn (v_fm (am_wv h 2) p) x n < 2 ^ 7 := fun n hn => am_arn_lt hx (fun c hc => Nat.lt_of_lt_of_le v_fm_lt (Nat.pow_le_pow_right (by omega) (by show (h 2 0).toNat ≤ 7; omega)))
  have hf : ∀ c, v_fm (am_wv h 2) p c < 2 ^ 7 := fun c => Nat.lt_of_lt_of_le v_fm_lt (Nat.pow_le_pow_right (by omega) (by show (h 2 0).toNat ≤ 7; omega))
  rw [bq_Company_around_0]
  refine am_up_eq (n := (h 2 0).toNat) (fun k => am_Wp d 86 4 [some (Sum.inr (Sum.inr 45)), some (Sum.inl ((x : Int))), some (Sum.inl (((am_arn (v_fm (am_wv h 2) p) x k : Nat) : Int))), some (Sum.inl ((k : Int)))] [] (am_SH L, h, am_RR kp) Q) _ (fun k hk => ?_) ?_
  · show am_Wp d 86 4 [some (Sum.inr (Sum.inr 45)), some (Sum.inl ((x : Int))), some (Sum.inl (((am_arn (v_fm (am_wv h 2) p) x k : Nat) : Int))), some (Sum.inl ((k : Int)))] [] (am_SH L, h, am_RR kp) Q = am_Wp d 86 4 [some (Sum.inr (Sum.inr 45)), some (Sum.inl ((x : Int))), some (Sum.inl (((am_arn (v_fm (am_wv h 2) p) x (k + 1) : Nat) : Int))), some (Sum.inl (((k + 1 : Nat) : Int)))] [] (am_SH L, h, am_RR kp) Q
    have h1 := hlt k (by omega)
    have h2 := hf k
    refine (bq_Company_around_4 (by omega)).trans ?_
    simp (disch := first | exact hv | omega) only [bq_Company_around_0, bq_Company_around_17, bq_Company_around_31, bq_Company_around_29, sp_has, sp_at_46, Option.toList_some, Option.toList_none, List.cons_append, List.nil_append, am_bi0, am_bi1, am_bft, true_and, reduceCtorEq, or_false, false_or, or_true, true_or, am_gd, am_incn, am_lk_nat, Int.toNat_natCast, ↓reduceIte, Int.reduceEq, hc.1]
    rw [if_neg (by omega), am_has_tb (by omega) (by omega), am_arn_s, hc.2 k (by omega)]
    cases Nat.testBit x k with
    | true =>
      rw [if_neg (by simp), am_or_ok (by omega) (by omega)]; rfl
    | false => rw [if_pos rfl]; rfl
  · show am_Wp d 86 4 [some (Sum.inr (Sum.inr 45)), some (Sum.inl ((x : Int))), some (Sum.inl (((am_arn (v_fm (am_wv h 2) p) x (h 2 0).toNat : Nat) : Int))), some (Sum.inl ((((h 2 0).toNat : Nat) : Int)))] [] (am_SH L, h, am_RR kp) Q = _
    refine (bq_Company_around_4 (by omega)).trans ?_
    rw [hc.1, if_pos (by omega)]
theorem v_bm_lt {V : am_Vw} {p : Int} {a r : Nat} (hv : v_ok V) (ha : (a : Int) < vP V) : am_bm (v_fm V p) (vP V).toNat a r < 2 ^ 7 := by
  have hP := v_ok_P hv
  exact Nat.lt_of_lt_of_le (am_bm_lt (by omega) (fun c _ => v_fm_lt)) (Nat.pow_le_pow_right (by omega) (by omega))
theorem sp_Company_allFrom {d L kp : Nat} {h : Nat → Nat → Int} {Q : Option am_V → am_H → Prop} {a : Nat} {p : Int} (hd : 2 ≤ d) (hv : v_ok (am_wv h 2)) (hc : am_co h p) (ha : (a : Int) < h 2 0) : am_Wp d 85 0 [some (Sum.inr (Sum.inr 45)), some (Sum.inl (a : Int)), none, none] [] (am_SH L, h, am_RR kp) Q = Q (some (Sum.inl (((am_bm (v_fm (am_wv h 2) p) (h 2 0).toNat a (h 2 0).toNat : Nat) : Int)))) (am_SH L, h, am_RR kp) := by
  have hQ := wv_Q hv
  have hP := wv_P hv
  have hD := wv_D hv
  rw [bq_Company_allFrom_0, am_shl1 (by omega)]
  refine am_up_eq (n := (h 2 0).toNat) (fun k => am_Wp d 85 6 [some (Sum.inr (Sum.inr 45)), some (Sum.inl ((a : Int))), some (Sum.inl (((am_bm (v_fm (am_wv h 2) p) (h 2 0).toNat a k : Nat) : Int))), some (Sum.inl ((k : Int)))] [] (am_SH L, h, am_RR kp) Q) _ (fun k hk => ?_) ?_
  · show am_Wp d 85 6 [some (Sum.inr (Sum.inr 45)), some (Sum.inl ((a : Int))), some (Sum.inl (((am_bm (v_fm (am_wv h 2) p) (h 2 0).toNat a k : Nat) : Int))), some (Sum.inl ((k : Int)))] [] (am_SH L, h, am_RR kp) Q = am_Wp d 85 6 [some (Sum.inr (Sum.inr 45)), some (Sum.inl ((a : Int))), some (Sum.inl (((am_bm (v_fm (am_wv h 2) p) (h 2 0).toNat a (k + 1) : Nat) : Int))), some (Sum.inl (((k + 1 : Nat) : Int)))] [] (am_SH L, h, am_RR kp) Q
    refine (bq_Company_allFrom_6 (by omega)).trans ?_
    rw [hc.1, if_neg (by omega), sp_Company_around (by omega) hv hc (v_bm_lt hv ha)]
    simp only [Option.toList_some, Option.toList_none, List.cons_append, List.nil_append]
    rw [bq_Company_allFrom_19, am_incn (by omega)]
    rfl
  · show am_Wp d 85 6 [some (Sum.inr (Sum.inr 45)), some (Sum.inl ((a : Int))), some (Sum.inl (((am_bm (v_fm (am_wv h 2) p) (h 2 0).toNat a (h 2 0).toNat : Nat) : Int))), some (Sum.inl ((((h 2 0).toNat : Nat) : Int)))] [] (am_SH L, h, am_RR kp) Q = _
    refine (bq_Company_allFrom_6 (by omega)).trans ?_
    rw [hc.1, if_pos (by omega)]
def v_far (V : am_Vw) (p : Int) (a g : Nat) : Option Nat := am_fst (fun r => decide (¬ (am_bm (v_fm V p) (vP V).toNat a r &&& g) = 0)) ((vP V).toNat + 1) 0
def v_oi (o : Option Nat) : Int := match o with | some k => (k : Int) | none => -9
theorem sp_Company_steps {d L kp : Nat} {h : Nat → Nat → Int} {Q : Option am_V → am_H → Prop} {a g : Nat} {p : Int} (hd : 2 ≤ d) (hv : v_ok (am_wv h 2)) (hc : am_co h p) (ha : (a : Int) < h 2 0) (hg : g < 2 ^ 7) : am_Wp d 123 0 [some (Sum.inr (Sum.inr 45)), some (Sum.inl (a : Int)), some (Sum.inl (g : Int)), none, none] [] (am_SH L, h, am_RR kp) Q = Q (some (Sum.inl (v_oi (v_far (am_wv h 2) p a g)))) (am_SH L, h, am_RR kp) := by
  have hQ := wv_Q hv
  have hP := wv_P hv
  have hD := wv_D hv
  rw [bq_Company_steps_0, am_shl1 (by omega)]
  refine Eq.trans (am_fst_eq (n := (h 2 0).toNat + 1) (fun r => decide (¬ (am_bm (v_fm (am_wv h 2) p) (h 2 0).toNat a r &&& g) = 0)) (fun k => am_Wp d 123 7 [some (Sum.inr (Sum.inr 45)), some (Sum.inl ((a : Int))), some (Sum.inl ((g : Int))), some (Sum.inl (((am_bm (v_fm (am_wv h 2) p) (h 2 0).toNat a k : Nat) : Int))), some (Sum.inl ((k : Int)))] [] (am_SH L, h, am_RR kp) Q) (fun k => Q (some (Sum.inl ((k : Int)))) (am_SH L, h, am_RR kp)) (Q (some (Sum.inl (-9))) (am_SH L, h, am_RR kp)) (fun k hk => ?_) ?_) ?_
  · show am_Wp d 123 7 [some (Sum.inr (Sum.inr 45)), some (Sum.inl ((a : Int))), some (Sum.inl ((g : Int))), some (Sum.inl (((am_bm (v_fm (am_wv h 2) p) (h 2 0).toNat a k : Nat) : Int))), some (Sum.inl ((k : Int)))] [] (am_SH L, h, am_RR kp) Q = (match decide (¬ (am_bm (v_fm (am_wv h 2) p) (h 2 0).toNat a k &&& g) = 0) with | true => Q (some (Sum.inl ((k : Int)))) (am_SH L, h, am_RR kp) | false => am_Wp d 123 7 [some (Sum.inr (Sum.inr 45)), some (Sum.inl ((a : Int))), some (Sum.inl ((g : Int))), some (Sum.inl (((am_bm (v_fm (am_wv h 2) p) (h 2 0).toNat a (k + 1) : Nat) : Int))), some (Sum.inl (((k + 1 : Nat) : Int)))] [] (am_SH L, h, am_RR kp) Q)
    have hl := v_bm_lt (r := k) (p := p) hv ha
    have hl2 : am_bm (v_fm (am_wv h 2) p) (h 2 0).toNat a k < 2 ^ 7 := hl
    refine (bq_Company_steps_7 (by omega)).trans ?_
    rw [hc.1, if_neg (by omega), sp_Company_around (by omega) hv hc hl, am_and_ok (by omega) (by omega)]
    simp only [Option.toList_some, Option.toList_none, List.cons_append, List.nil_append]
    rw [bq_Company_steps_30, am_incn (by omega)]
    by_cases q1 : (am_bm (v_fm (am_wv h 2) p) (h 2 0).toNat a k &&& g) = 0
    · rw [if_pos (by omega), decide_eq_false (not_not_intro q1)]
      rfl
    · rw [if_neg (by omega), decide_eq_true q1]
  · show am_Wp d 123 7 [some (Sum.inr (Sum.inr 45)), some (Sum.inl ((a : Int))), some (Sum.inl ((g : Int))), some (Sum.inl (((am_bm (v_fm (am_wv h 2) p) (h 2 0).toNat a ((h 2 0).toNat + 1) : Nat) : Int))), some (Sum.inl ((((h 2 0).toNat + 1 : Nat) : Int)))] [] (am_SH L, h, am_RR kp) Q = _
    refine (bq_Company_steps_7 (by omega)).trans ?_
    rw [hc.1, if_pos (by omega)]
  · unfold v_far v_oi
    show _ = Q (some (Sum.inl (match am_fst (fun r => decide (¬ (am_bm (v_fm (am_wv h 2) p) (h 2 0).toNat a r &&& g) = 0)) ((h 2 0).toNat + 1) 0 with | some k => (k : Int) | none => -9))) (am_SH L, h, am_RR kp)
    cases am_fst (fun r => decide (¬ (am_bm (v_fm (am_wv h 2) p) (h 2 0).toNat a r &&& g) = 0)) ((h 2 0).toNat + 1) 0 <;> rfl