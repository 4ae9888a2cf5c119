/-! A DAY'S PAPERS FALL DUE -/
def v_due (V : am_Vw) (p : Nat) : Bool := decide (vT V p = 0 ∧ vE V p = vD V)
def v_st (V : am_Vw) (n j : Nat) : Int := if j < n ∧ v_due V j = true then (if v_paid V (j : Int) = true then 1 else 3) else vT V j
def v_ki (V : am_Vw) (n j : Nat) : Int := am_for (fun p s => if v_due V p = true ∧ v_paid V (p : Int) = true ∧ vH V p = (j : Int) then am_add s (vN V p) else s) n (vS V j)
def am_falk (bs bt : Nat) (h : Nat → Nat → Int) (V : am_Vw) (n : Nat) : Nat → Nat → Int := fun b j => if b = bt then v_st V n j else if b = bs then v_ki V n j else h b j
def v_falv (V : am_Vw) (n : Nat) : am_Vw := (V.1, vK V, vF V, v_ki V n, vU V, vO V, vH V, vN V, vE V, vG V, v_st V n)
def v_fsum (V : am_Vw) (n : Nat) : Int := am_sumb n (fun p => if v_due V p = true ∧ v_paid V (p : Int) = true then vN V p else 0)
theorem v_ki_s {V : am_Vw} {n j : Nat} : v_ki V (n + 1) j = if v_due V n = true ∧ v_paid V (n : Int) = true ∧ vH V n = (j : Int) then am_add (v_ki V n j) (vN V n) else v_ki V n j := rfl
theorem v_st_n {V : am_Vw} {n j : Nat} (h1 : n ≤ j) : v_st V n j = vT V j := if_neg (fun w => absurd w.1 (by omega))
theorem v_st_s {V : am_Vw} {n j : Nat} (h1 : ¬ j = n) : v_st V (n + 1) j = v_st V n j := by
  unfold v_st
  by_cases h2 : j < n ∧ v_due V j = true
  · rw [if_pos h2, if_pos ⟨by omega, h2.2⟩]
  · rw [if_neg h2, if_neg (fun w => h2 ⟨by omega, w.2⟩)]
theorem am_falk_0 {bs bt : Nat} {h : Nat → Nat → Int} {V : am_Vw} (h1 : vT V = h bt) (h2 : vS V = h bs) : am_falk bs bt h V 0 = h := by
  funext b j
  unfold am_falk
  by_cases h3 : b = bt
  · rw [if_pos h3, v_st_n (by omega), h1, h3]
  · rw [if_neg h3]
    by_cases h4 : b = bs
    · rw [if_pos h4, h4]
      show vS V j = h bs j
      rw [h2]
    · rw [if_neg h4]
theorem v_ki_n {V : am_Vw} {n j : Nat} (hd : v_due V n = false) : v_ki V (n + 1) j = v_ki V n j := by
  rw [v_ki_s]
  exact if_neg (fun w => by rw [hd] at w; exact absurd w.1 (by simp))
theorem v_ki_l {V : am_Vw} {n j : Nat} (hp : v_paid V (n : Int) = false) : v_ki V (n + 1) j = v_ki V n j := by
  rw [v_ki_s]
  exact if_neg (fun w => by rw [hp] at w; exact absurd w.2.1 (by simp))
theorem v_st_d {V : am_Vw} {n : Nat} (hd : v_due V n = true) : v_st V (n + 1) n = if v_paid V (n : Int) = true then 1 else 3 := if_pos ⟨by omega, hd⟩
theorem am_falk_n {bs bt : Nat} {h : Nat → Nat → Int} {V : am_Vw} {n : Nat} (hd : v_due V n = false) : am_falk bs bt h V (n + 1) = am_falk bs bt h V n := by
  funext b j
  unfold am_falk
  have e1 : v_st V (n + 1) j = v_st V n j := by
    by_cases h1 : j = n
    · unfold v_st
      rw [h1, if_neg (fun w => by rw [hd] at w; exact absurd w.2 (by simp)), if_neg (fun w => absurd w.1 (by omega))]
    · exact v_st_s h1
  rw [e1, v_ki_n hd]
theorem am_falk_l {bs bt : Nat} {h : Nat → Nat → Int} {V : am_Vw} {n : Nat} (hd : v_due V n = true) (hp : v_paid V (n : Int) = false) : am_up (am_falk bs bt h V n) bt n 3 = am_falk bs bt h V (n + 1) := by
  funext b j
  unfold am_up am_falk
  rw [v_ki_l hp]
  by_cases h1 : b = bt
  · simp only [if_pos h1]
    by_cases h2 : j = n
    · rw [if_pos h2, h2, v_st_d hd, hp]; rfl
    · rw [if_neg h2, v_st_s h2]
  · simp only [if_neg h1]
theorem am_falk_p {bs bt : Nat} {h : Nat → Nat → Int} {V : am_Vw} {n c : Nat} (hb : ¬ bs = bt) (hd : v_due V n = true) (hp : v_paid V (n : Int) = true) (hc : vH V n = (c : Int)) : am_up (am_up (am_falk bs bt h V n) bs c (am_add (v_ki V n c) (vN V n))) bt n 1 = am_falk bs bt h V (n + 1) := by
  funext b j
  unfold am_up am_falk
  by_cases h1 : b = bt
  · simp only [if_pos h1]
    by_cases h2 : j = n
    · rw [if_pos h2, h2, v_st_d hd, hp]; rfl
    · rw [if_neg h2, v_st_s h2, if_neg (fun w => hb (w.symm.trans h1))]
  · simp only [if_neg h1]
    by_cases h3 : b = bs
    · simp only [if_pos h3]
      by_cases h2 : j = c
      · rw [if_pos h2, v_ki_s, if_pos ⟨hd, hp, by omega⟩, h2]
      · rw [if_neg h2, v_ki_s]
        exact (if_neg (fun w => h2 (by have := w.2.2; omega))).symm
    · simp only [if_neg h3]
theorem am_up_comm {h : Nat → Nat → Int} {a b i j : Nat} {v w : Int} (hab : ¬ a = b) : am_up (am_up h a i v) b j w = am_up (am_up h b j w) a i v := by
  funext c k
  unfold am_up
  by_cases h1 : c = a
  · by_cases h2 : c = b
    · exact absurd (h1.symm.trans h2) hab
    · rw [if_neg h2, if_pos h1, if_pos h1, if_neg h2]
  · by_cases h2 : c = b
    · rw [if_pos h2, if_neg h1, if_neg h1, if_pos h2]
    · rw [if_neg h2, if_neg h1, if_neg h1, if_neg h2]
theorem am_add_i32 (x y : Int) : am_i32 (am_add x y) := by
  unfold am_add am_i32
  exact ⟨Int32.le_toInt _, by have := Int32.toInt_lt (Int32.ofInt x + Int32.ofInt y); omega⟩
theorem v_ok_falv {V : am_Vw} (hv : v_ok V) (n : Nat) : v_ok (v_falv V n) := by
  refine ⟨hv.1, hv.2.1, hv.2.2.1, fun i hi => ?_, fun p hp => ?_, fun p hp => v_ok_q hv p hp⟩
  · have h1 := v_ok_i hv i hi
    refine ⟨h1.1, h1.2.1, ?_, h1.2.2.2⟩
    exact am_for_ind (n := n) (fun _ s => am_i32 s) h1.2.2.1 (fun k s _ hs => by
      show am_i32 (if _ then _ else _)
      split
      · exact am_add_i32 _ _
      · exact hs)
  · have h1 := v_ok_p hv p hp
    refine ⟨h1.1, h1.2.1, h1.2.2.1, h1.2.2.2.1, h1.2.2.2.2.1, ?_⟩
    show 0 ≤ v_st V n p ∧ v_st V n p ≤ 3
    unfold v_st
    (repeat' split) <;> omega
theorem lp_M_fallDue {d L kp : Nat} {h : Nat → Nat → Int} {Q : Option am_V → am_H → Prop} (j : Option am_V) (hd : 3 ≤ d) (hv : v_ok (am_mv h)) : am_Wp d 208 4 [some (Sum.inr (Sum.inr 70)), some (Sum.inl (v_fsum (am_mv h) 0)), some (Sum.inl 0), j] [] (am_SH L, am_falk 73 80 h (am_mv h) 0, am_RR kp) Q = Q (some (Sum.inl (v_fsum (am_mv h) (h 70 6).toNat))) (am_SH L, am_falk 73 80 h (am_mv h) (h 70 6).toNat, am_RR kp) := by
  have hQ := mv_Q hv
  have hP := mv_P hv
  have hD := mv_D hv
  refine am_dn_eq (J := Option am_V) (n := (h 70 6).toNat) (fun k j => am_Wp d 208 4 [some (Sum.inr (Sum.inr 70)), some (Sum.inl (v_fsum (am_mv h) k)), some (Sum.inl (k : Int)), j] [] (am_SH L, am_falk 73 80 h (am_mv h) k, am_RR kp) Q) (Q (some (Sum.inl (v_fsum (am_mv h) (h 70 6).toNat))) (am_SH L, am_falk 73 80 h (am_mv h) (h 70 6).toNat, am_RR kp)) (fun k hk ih j => ?_) (fun j => ?_) j
  · have ih2 : ∀ j : Option am_V, am_Wp d 208 4 [some (Sum.inr (Sum.inr 70)), some (Sum.inl (v_fsum (am_mv h) (k + 1))), some (Sum.inl ((k + 1 : Nat) : Int)), j] [] (am_SH L, am_falk 73 80 h (am_mv h) (k + 1), am_RR kp) Q = Q (some (Sum.inl (v_fsum (am_mv h) (h 70 6).toNat))) (am_SH L, am_falk 73 80 h (am_mv h) (h 70 6).toNat, am_RR kp) := ih
    clear ih
    have hp1 := mv_p hv k (by omega)
    obtain ⟨c, hc⟩ := Int.eq_ofNat_of_zero_le hp1.2.1.1
    have hvk : v_ok (am_mv (am_falk 73 80 h (am_mv h) k)) := v_ok_falv hv k
    have e80 : am_falk 73 80 h (am_mv h) k 80 k = h 80 k := v_st_n (Nat.le_refl k)
    have e78 : am_falk 73 80 h (am_mv h) k 78 k = h 78 k := rfl
    have e705 : am_falk 73 80 h (am_mv h) k 70 5 = h 70 5 := rfl
    have e706 : am_falk 73 80 h (am_mv h) k 70 6 = h 70 6 := rfl
    have ep : v_paid (am_mv (am_falk 73 80 h (am_mv h) k)) (k : Int) = v_paid (am_mv h) (k : Int) := rfl
    have hb := am_sumb_le (n := k) (g := fun p => if v_due (am_mv h) p = true ∧ v_paid (am_mv h) (p : Int) = true then h 77 p else 0) (A := 0) (B := 40) (fun p hp => by
      have hp2 := mv_p hv p (by omega)
      show 0 ≤ (if v_due (am_mv h) p = true ∧ v_paid (am_mv h) (p : Int) = true then h 77 p else 0) ∧ (if v_due (am_mv h) p = true ∧ v_paid (am_mv h) (p : Int) = true then h 77 p else 0) ≤ 40
      split <;> omega)
    have hb2 : 0 ≤ v_fsum (am_mv h) k ∧ v_fsum (am_mv h) k ≤ (k : Int) * 40 := by
      have e := hb
      exact ⟨by have := e.1; rw [Int.mul_zero] at this; exact this, e.2⟩
    have es : v_fsum (am_mv h) (k + 1) = v_fsum (am_mv h) k + (if v_due (am_mv h) k = true ∧ v_paid (am_mv h) (k : Int) = true then h 77 k else 0) := rfl
    show am_Wp d 208 4 [some (Sum.inr (Sum.inr 70)), some (Sum.inl (v_fsum (am_mv h) k)), some (Sum.inl (k : Int)), j] [] (am_SH L, am_falk 73 80 h (am_mv h) k, am_RR kp) Q = _
    refine (bq_M_fallDue_4 (by omega)).trans ?_
    rw [e706, if_neg (by omega), am_gd (by omega) (by omega), Int.toNat_natCast, e80]
    by_cases q1 : h 80 k = 0
    · rw [if_pos q1, am_gd (by omega) (by omega), e78, e705]
      by_cases q2 : h 78 k = h 70 5
      · have hdu : v_due (am_mv h) k = true := decide_eq_true ⟨q1, q2⟩
        rw [if_pos q2, sp_M_wouldBePaid (by omega) hvk (by omega) (by omega), ep]
        simp only [Option.toList_some, List.cons_append, List.nil_append, bq_M_fallDue_39]
        cases hpd : v_paid (am_mv h) (k : Int)
        · have u76 : ∀ y, am_up (am_falk 73 80 h (am_mv h) k) 80 k y 76 k = h 76 k := fun y => rfl
          have s1 := am_falk_l (bs := 73) (bt := 80) (h := h) (V := am_mv h) (n := k) hdu hpd
          have hvk2 : am_i32 (v_ki (am_mv h) (k + 1) c) := (v_ok_i (v_ok_falv hv (k + 1)) c (by omega)).2.2.1
          have u73 : am_up (am_falk 73 80 h (am_mv h) k) 80 k 3 73 c = v_ki (am_mv h) (k + 1) c := by rw [s1]; rfl
          have ez : am_add (v_ki (am_mv h) (k + 1) c) 0 = v_ki (am_mv h) (k + 1) c := (am_add_ok (by have := hvk2.1; omega) (by have := hvk2.2; omega)).trans (Int.add_zero _)
          have ez2 : am_add (v_fsum (am_mv h) k) 0 = v_fsum (am_mv h) k := (am_add_ok (by omega) (by omega)).trans (Int.add_zero _)
          have ui : am_up (am_falk 73 80 h (am_mv h) (k + 1)) 73 c (v_ki (am_mv h) (k + 1) c) = am_falk 73 80 h (am_mv h) (k + 1) := am_up_id rfl
          simp (disch := omega) only [am_bi, ↓reduceIte, bq_M_fallDue_54, bq_M_fallDue_81, bq_M_fallDue_98, bq_M_fallDue_100, am_gd, Int.toNat_natCast, u76, hc, am_incn, ez2]
          rw [u73, ez, s1, ui]
          refine Eq.trans ?_ (ih2 (some (Sum.inl 0)))
          have es2 : v_fsum (am_mv h) (k + 1) = v_fsum (am_mv h) k := by
            rw [es, hpd, if_neg (fun w => absurd w.2 (by simp)), Int.add_zero]
          rw [es2]
        · have u76 : ∀ y, am_up (am_falk 73 80 h (am_mv h) k) 80 k y 76 k = h 76 k := fun y => rfl
          have u77 : ∀ y, am_up (am_falk 73 80 h (am_mv h) k) 80 k y 77 k = h 77 k := fun y => rfl
          have u77b : ∀ y x z, am_up (am_up (am_falk 73 80 h (am_mv h) k) 80 k y) 73 x z 77 k = h 77 k := fun y x z => rfl
          have u73 : ∀ y, am_up (am_falk 73 80 h (am_mv h) k) 80 k y 73 c = v_ki (am_mv h) k c := fun y => rfl
          have s1 := am_falk_p (bs := 73) (bt := 80) (h := h) (V := am_mv h) (n := k) (by omega) hdu hpd hc
          rw [am_up_comm (by omega)] at s1
          have ea : am_add (v_fsum (am_mv h) k) (h 77 k) = v_fsum (am_mv h) k + h 77 k := am_add_ok (by omega) (by omega)
          simp (disch := omega) only [am_bi, ↓reduceIte, Int.reduceEq, bq_M_fallDue_54, bq_M_fallDue_81, bq_M_fallDue_98, bq_M_fallDue_100, am_gd, Int.toNat_natCast, u76, u77, u77b, u73, hc, am_incn, ea]
          refine Eq.trans ?_ (ih2 (some (Sum.inl 1)))
          rw [es, if_pos ⟨hdu, hpd⟩, ← s1]
      · rw [if_neg q2, bq_M_fallDue_100, am_incn (by omega)]
        have hdu : v_due (am_mv h) k = false := decide_eq_false (fun w => q2 w.2)
        refine Eq.trans ?_ (ih2 j)
        have es2 : v_fsum (am_mv h) (k + 1) = v_fsum (am_mv h) k := by
          rw [es, hdu, if_neg (fun w => absurd w.1 (by simp)), Int.add_zero]
        rw [es2, am_falk_n hdu]
    · rw [if_neg q1, bq_M_fallDue_100, am_incn (by omega)]
      have hdu : v_due (am_mv h) k = false := decide_eq_false (fun w => q1 w.1)
      refine Eq.trans ?_ (ih2 j)
      have es2 : v_fsum (am_mv h) (k + 1) = v_fsum (am_mv h) k := by
        rw [es, hdu, if_neg (fun w => absurd w.1 (by simp)), Int.add_zero]
      rw [es2, am_falk_n hdu]
  · show am_Wp d 208 4 [some (Sum.inr (Sum.inr 70)), some (Sum.inl (v_fsum (am_mv h) (h 70 6).toNat)), some (Sum.inl (((h 70 6).toNat : Nat) : Int)), j] [] (am_SH L, am_falk 73 80 h (am_mv h) (h 70 6).toNat, am_RR kp) Q = _
    have e706 : am_falk 73 80 h (am_mv h) (h 70 6).toNat 70 6 = h 70 6 := rfl
    refine (bq_M_fallDue_4 (by omega)).trans ?_
    rw [e706, if_pos (by omega)]

theorem sp_M_fallDue {d L kp : Nat} {h : Nat → Nat → Int} {Q : Option am_V → am_H → Prop} (hd : 3 ≤ d) (hv : v_ok (am_mv h)) : am_Wp d 208 0 [some (Sum.inr (Sum.inr 70)), none, none, none] [] (am_SH L, h, am_RR kp) Q = Q (some (Sum.inl (v_fsum (am_mv h) (h 70 6).toNat))) (am_SH L, am_falk 73 80 h (am_mv h) (h 70 6).toNat, am_RR kp) := by
  rw [bq_M_fallDue_0]
  have h0 := lp_M_fallDue (Q := Q) (L := L) (kp := kp) none hd hv
  rw [am_falk_0 (V := am_mv h) rfl rfl] at h0
  exact h0
