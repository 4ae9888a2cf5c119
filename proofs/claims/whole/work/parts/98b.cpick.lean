/-! HOLD and HEAVIEST of the class -/
noncomputable def an_bsv (P : Nat → Prop) (f : Nat → Int) : Int × Int := @dite (Int × Int) (∃ s : Int × Int, an_bs P f (2 ^ 16) s.1 s.2) (Classical.propDecidable _) (fun h => h.choose) (fun _ => (0, 0))
theorem an_bsv_eq {P : Nat → Prop} {f : Nat → Int} {b m : Int} (h : an_bs P f (2 ^ 16) b m) : an_bsv P f = (b, m) := by
  have hx : ∃ s : Int × Int, an_bs P f (2 ^ 16) s.1 s.2 := ⟨(b, m), h⟩
  unfold an_bsv
  rw [dif_pos hx]
  have h2 := an_bs_u hx.choose_spec h
  exact Prod.ext h2.1 h2.2
noncomputable def an_bsr (P : Nat → Prop) (f : Nat → Int) : Int := if (an_bsv P f).1 < 0 then -9 else (an_bsv P f).2
def an_of (h g : Nat → Nat → Int) (c : Nat → Prop) (mk : Nat → Nat) (f : Nat → Int) (x4 : Int) (p : Nat) : Prop := (∀ a i, ¬ a = 66 → ¬ a = 67 → ¬ a = 68 → ¬ a = 69 → g a i = h a i) ∧ g 66 4 = x4 ∧ ∃ (pa : Nat → Nat) (o : Nat), o ≤ p ∧ an_pa (fun i => i < p ∧ c i) pa o ∧ g 66 3 = (o : Int) ∧ ∀ q, q < o → g 67 q = ((pa q : Nat) : Int) ∧ g 68 q = f (pa q) ∧ g 69 q = ((mk (pa q) : Nat) : Int)
theorem an_of_n {h g : Nat → Nat → Int} {c : Nat → Prop} {mk : Nat → Nat} {f : Nat → Int} {x4 : Int} {p : Nat} (hc : ¬ c p) (hg : an_of h g c mk f x4 p) : an_of h g c mk f x4 (p + 1) := by
  obtain ⟨h1, h2, pa, o, h3, ⟨h4, h5, h6⟩, h7⟩ := hg
  refine ⟨h1, h2, pa, o, by omega, ⟨h4, h5, fun i => ?_⟩, h7⟩
  rw [← h6 i]
  constructor
  · rintro ⟨w1, w2⟩
    by_cases q : i = p
    · rw [q] at w2; exact absurd w2 hc
    · exact ⟨by omega, w2⟩
  · rintro ⟨w1, w2⟩
    exact ⟨by omega, w2⟩
theorem sp_Picker_offer {d L kp : Nat} {h g : Nat → Nat → Int} {Q : Option am_V → am_H → Prop} {c : Nat → Prop} {mk : Nat → Nat} {f : Nat → Int} {x4 : Int} {p : Nat} (hd : 1 ≤ d) (hp : p < 16) (hc : c p) (hg : an_of h g c mk f x4 p) (K2 : ∀ g2, an_of h g2 c mk f x4 (p + 1) → Q none (am_SH L, g2, am_RR kp)) : am_Wp d 134 0 [some (Sum.inr (Sum.inr 66)), some (Sum.inl (p : Int)), some (Sum.inl (f p)), some (Sum.inl ((mk p : Nat) : Int))] [] (am_SH L, g, am_RR kp) Q := by
  obtain ⟨h1, h2, pa, o, h3, ⟨h4, h5, h6⟩, h7, h8⟩ := hg
  rw [bq_Picker_offer_0 (by omega), h7, if_neg (by omega), sp_put_67, am_put_nat (by omega)]
  simp only [Option.toList_some, Option.toList_none, List.cons_append, List.nil_append]
  rw [bq_Picker_offer_21 (by omega), show am_up g 67 o (p : Int) 66 3 = (o : Int) from h7, sp_put_68, am_put_nat (by omega)]
  simp only [Option.toList_some, Option.toList_none, List.cons_append, List.nil_append]
  rw [bq_Picker_offer_33 (by omega), show am_up (am_up g 67 o (p : Int)) 68 o (f p) 66 3 = (o : Int) from h7, sp_put_69, am_put_nat (by omega)]
  simp only [Option.toList_some, Option.toList_none, List.cons_append, List.nil_append]
  rw [bq_Picker_offer_45, show am_up (am_up (am_up g 67 o (p : Int)) 68 o (f p)) 69 o ((mk p : Nat) : Int) 66 3 = (o : Int) from h7, am_incn (by omega), bq_Picker_offer_55]
  refine K2 _ ⟨fun a i w1 w2 w3 w4 => ?_, ?_, fun q => if q = o then p else pa q, o + 1, by omega, ⟨fun q hq => ?_, fun q r hqr hr => ?_, fun i => ?_⟩, ?_, fun q hq => ?_⟩
  · unfold am_up
    rw [if_neg w1, if_neg w4, if_neg w3, if_neg w2]
    exact h1 a i w1 w2 w3 w4
  · exact h2
  · show (if q = o then p else pa q) < 16
    by_cases q1 : q = o
    · rw [if_pos q1]; exact hp
    · rw [if_neg q1]; exact h4 q (by omega)
  · show (if q = o then p else pa q) < (if r = o then p else pa r)
    rw [if_neg (show ¬ q = o by omega)]
    by_cases q1 : r = o
    · rw [if_pos q1]
      have := ((h6 (pa q)).2 ⟨q, by omega, rfl⟩).1
      exact this
    · rw [if_neg q1]; exact h5 q r hqr (by omega)
  · constructor
    · rintro ⟨w1, w2⟩
      by_cases q : i = p
      · exact ⟨o, by omega, by show (if o = o then p else pa o) = i; rw [if_pos rfl, q]⟩
      · obtain ⟨r, r1, r2⟩ := (h6 i).1 ⟨by omega, w2⟩
        exact ⟨r, by omega, by show (if r = o then p else pa r) = i; rw [if_neg (by omega)]; exact r2⟩
    · rintro ⟨r, r1, r2⟩
      have r3 : (if r = o then p else pa r) = i := r2
      by_cases q : r = o
      · rw [if_pos q] at r3
        rw [← r3]; exact ⟨by omega, hc⟩
      · rw [if_neg q] at r3
        have := (h6 i).2 ⟨r, by omega, r3⟩
        exact ⟨by omega, this.2⟩
  · show am_up _ 66 3 ((o + 1 : Nat) : Int) 66 3 = _
    rw [am_up_y]
  · show am_up (am_up (am_up g 67 o (p : Int)) 68 o (f p)) 69 o ((mk p : Nat) : Int) 67 q = (((if q = o then p else pa q) : Nat) : Int) ∧ am_up (am_up (am_up g 67 o (p : Int)) 68 o (f p)) 69 o ((mk p : Nat) : Int) 68 q = f (if q = o then p else pa q) ∧ am_up (am_up (am_up g 67 o (p : Int)) 68 o (f p)) 69 o ((mk p : Nat) : Int) 69 q = ((mk (if q = o then p else pa q) : Nat) : Int)
    show am_up g 67 o (p : Int) 67 q = (((if q = o then p else pa q) : Nat) : Int) ∧ am_up (am_up g 67 o (p : Int)) 68 o (f p) 68 q = f (if q = o then p else pa q) ∧ am_up (am_up (am_up g 67 o (p : Int)) 68 o (f p)) 69 o ((mk p : Nat) : Int) 69 q = ((mk (if q = o then p else pa q) : Nat) : Int)
    by_cases q1 : q = o
    · rw [if_pos q1, q1, am_up_y, am_up_y, am_up_y]
      exact ⟨rfl, rfl, rfl⟩
    · rw [if_neg q1, am_up_n q1, am_up_n q1, am_up_n q1]
      exact h8 q (by omega)
theorem an_su_0 {f : Nat → Int} : an_su f 0 = 0 := by
  unfold an_su
  have : am_sumb 16 (fun i => bif Nat.testBit 0 i then f i else 0) = am_sumb 16 (fun _ => 0) := am_sumb_eq (fun i _ => by
    show (bif Nat.testBit 0 i then f i else 0) = 0
    rw [Nat.zero_testBit]; rfl)
  rw [this, am_sumb_0]
theorem an_or_0 {mk : Nat → Nat} : an_or mk 0 = 0 := Nat.eq_of_testBit_eq (fun i => by
  rw [Nat.zero_testBit]
  cases hb : Nat.testBit (an_or mk 0) i with
  | false => rfl
  | true =>
    obtain ⟨k, k1, k2, k3⟩ := an_or_tb.1 hb
    rw [Nat.zero_testBit] at k2
    cases k2)
theorem an_vd_e {c1 c2 : Nat → Prop} {mk : Nat → Nat} {K : Int} {E : Prop} (h : ∀ i, c1 i ↔ c2 i) : an_vd c1 mk K E = an_vd c2 mk K E := by
  rw [show c1 = c2 from funext (fun i => propext (h i))]
theorem sp_Picker_choose {d L kp : Nat} {h g : Nat → Nat → Int} {Q : Option am_V → am_H → Prop} {c : Nat → Prop} {mk : Nat → Nat} {f : Nat → Int} {x4 K : Int} {p : Nat} (hd : 20 ≤ d) (hp : p ≤ 16) (hx : x4 = 0 ∨ x4 = 1) (hK : 0 ≤ K ∧ K ≤ 16) (hcp : ∀ i, c i → i < p) (hf : ∀ i, c i → 0 ≤ f i ∧ f i ≤ 40) (hmk : ∀ i, mk i < 2 ^ 14) (hg : an_of h g c mk f x4 p) (K2 : ∀ g2, (∀ a i, ¬ a = 66 → ¬ a = 67 → ¬ a = 68 → ¬ a = 69 → g2 a i = h a i) → an_bsv (an_vd c mk K (¬ x4 = 0)) (an_su f) = (g2 66 5, g2 66 6) → Q none (am_SH L, g2, am_RR kp)) : am_Wp d 135 0 [some (Sum.inr (Sum.inr 66)), some (Sum.inl K)] [] (am_SH L, g, am_RR kp) Q := by
  obtain ⟨h1, h2, pa, o, h3, h4, h7, h8⟩ := hg
  have ec : ∀ i, (i < p ∧ c i) ↔ c i := fun i => ⟨fun w => w.2, fun w => ⟨hcp i w, w⟩⟩
  have key := lp_choose (L := L) (kp := kp) (h := am_up (am_up g 66 5 (-1)) 66 6 0) (K := K) (mk := mk) (f := f) (x4 := x4) h4 (by omega) hK h2 (fun q hq => (h8 q hq).2.1) (fun q hq => (h8 q hq).2.2) (fun q hq => (h8 q hq).1) (fun i hi => hf i hi.2) hmk o (d - 1) 16 0 (am_up (am_up g 66 5 (-1)) 66 6 0)
  have e0 : am_pc 0 = 0 := by decide
  rw [an_or_0, an_su_0, e0, an_vd_e ec] at key
  have eK : K - 0 = K := by omega
  have eO : am_sub (o : Int) 1 = (o : Int) - 1 := am_sub_ok (by omega) (by omega)
  rw [eK] at key
  rw [bq_Picker_choose_0 (by omega), show am_up (am_up g 66 5 (-1)) 66 6 0 66 3 = (o : Int) from h7, eO]
  refine key _ (by omega) (Nat.le_refl o) (Nat.le_refl 16) (fun r hr => ⟨fun _ => hr, fun _ => h4.1 r hr⟩) (Nat.zero_mod _) (fun i hi => ?_) (fun i j _ hi => ?_) (by omega) hx (fun a i _ => rfl) ?_ (fun g2 k2 b2 => ?_)
  · rw [Nat.zero_testBit] at hi; cases hi
  · rw [Nat.zero_testBit] at hi; cases hi
  · rw [show am_up (am_up g 66 5 (-1)) 66 6 0 66 5 = -1 from rfl, show am_up (am_up g 66 5 (-1)) 66 6 0 66 6 = 0 from rfl]
    exact an_bs_0
  · simp only [Option.toList_some, Option.toList_none, List.cons_append, List.nil_append]
    rw [bq_Picker_choose_24]
    rw [Nat.zero_add] at b2
    refine K2 g2 (fun a i w1 w2 w3 w4 => ?_) (an_bsv_eq b2)
    rw [k2 a i (Or.inl w1)]
    show am_up (am_up g 66 5 (-1)) 66 6 0 a i = h a i
    unfold am_up
    rw [if_neg w1, if_neg w1]
    exact h1 a i w1 w2 w3 w4
theorem an_pw_keep {h g : Nat → Nat → Int} (hk : (∀ a i, ¬ a = 66 → ¬ a = 67 → ¬ a = 68 → ¬ a = 69 → g a i = h a i)) : am_keep h g := fun a i hr => hk a i (fun w => by rw [w] at hr; cases hr) (fun w => by rw [w] at hr; cases hr) (fun w => by rw [w] at hr; cases hr) (fun w => by rw [w] at hr; cases hr)
theorem an_of_0 {h : Nat → Nat → Int} {c : Nat → Prop} {mk : Nat → Nat} {f : Nat → Int} {x4 : Int} : an_of h (am_up (am_up h 66 3 0) 66 4 x4) c mk f x4 0 := ⟨fun a i w1 _ _ _ => by unfold am_up; rw [if_neg w1, if_neg w1], rfl, fun _ => 0, 0, Nat.le_refl 0, ⟨fun q hq => by omega, fun q r hqr hr => by omega, fun i => ⟨fun w => by omega, fun ⟨q, q1, _⟩ => by omega⟩⟩, rfl, fun q hq => by omega⟩
def v_hc (V : am_Vw) (i : Int) (p : Nat) : Prop := v_open V (p : Int) = true ∧ vH V p = i
def v_hm (V : am_Vw) (p : Nat) : Nat := if p < 16 then 2 ^ (vO V p).toNat else 0
def v_qc (V : am_Vw) (p : Nat) : Prop := v_open V (p : Int) = true
def v_qm (V : am_Vw) (p : Nat) : Nat := if p < 16 then 2 ^ (vO V p).toNat ||| 2 ^ (7 + (vH V p).toNat) else 0
def v_wf (V : am_Vw) (p : Nat) : Int := v_worth V (p : Int)
theorem v_open_lt {V : am_Vw} (hv : v_ok V) {p : Nat} (h : v_open V (p : Int) = true) : (p : Int) < vQ V ∧ p < 16 := by
  unfold v_open v_isQ at h
  rw [Bool.and_eq_true, decide_eq_true_eq] at h
  have := (v_ok_Q hv).2
  exact ⟨h.1.2, by omega⟩
theorem v_hm_lt {V : am_Vw} (hv : v_ok V) (p : Nat) : v_hm V p < 2 ^ 14 := by
  unfold v_hm
  by_cases q : p < 16
  · rw [if_pos q]
    have := (v_ok_p hv p q).1
    exact Nat.pow_lt_pow_right (by omega) (by omega)
  · rw [if_neg q]; exact Nat.two_pow_pos 14
theorem v_qm_lt {V : am_Vw} (hv : v_ok V) (p : Nat) : v_qm V p < 2 ^ 14 := by
  unfold v_qm
  by_cases q : p < 16
  · rw [if_pos q]
    have := (v_ok_p hv p q).1
    have := (v_ok_p hv p q).2.1
    exact Nat.or_lt_two_pow (Nat.pow_lt_pow_right (by omega) (by omega)) (Nat.pow_lt_pow_right (by omega) (by omega))
  · rw [if_neg q]; exact Nat.two_pow_pos 14
noncomputable def a_hold (V : am_Vw) (i k : Int) : am_V × Nat := if v_isP V i = false then (Sum.inl (-1), 1) else if k < 0 then (Sum.inl (-4), 4) else if 3 < k then (Sum.inl (-6), 6) else (Sum.inl (an_bsr (an_vd (v_hc V i) (v_hm V) k (¬ (1 : Int) = 0)) (an_su (v_wf V))), 0)
noncomputable def a_heaviest (V : am_Vw) (w : Int) : am_V × Nat := if w = 0 ∨ w = 1 then (if 10 < v_opens V then (Sum.inl (-3), 3) else (Sum.inl (if w = 0 then (an_bsv (an_vd (v_qc V) (v_qm V) 10 (¬ (0 : Int) = 0)) (an_su (vN V))).2 else (an_bsv (an_vd (v_qc V) (v_qm V) 10 (¬ (0 : Int) = 0)) (an_su (vN V))).1), 0)) else (Sum.inl (-2), 2)
theorem c_hold {d L kp : Nat} {h : Nat → Nat → Int} {i k : Int} (hd : 30 ≤ d) (hv : v_ok (am_wv h 2)) : am_An L 41 (a_hold (am_wv h 2) i k) h (fun Q => am_Wp d 132 0 [some (Sum.inr (Sum.inr 1)), some (Sum.inl i), some (Sum.inl k), none] [] (am_SH L, h, am_RR kp) Q) := by
  have hQ := wv_Q hv
  have hP := wv_P hv
  have hD := wv_D hv
  intro Q hq
  show am_Wp d 132 0 [some (Sum.inr (Sum.inr 1)), some (Sum.inl i), some (Sum.inl k), none] [] (am_SH L, h, am_RR kp) Q
  have h3 := fun g2 (m : am_keep h g2) => hq g2 kp m
  unfold a_hold at h3
  rw [bq_KO_hold_0 (by omega), sp_World_isPerson_2]
  simp only [Option.toList_some, Option.toList_none, List.cons_append, List.nil_append]
  rw [bq_KO_hold_8 (by omega)]
  cases hi : v_isP (am_wv h 2) i with
  | false =>
    rw [if_pos hi] at h3
    rw [if_pos am_bif, sp_KO_refuse (by omega) (by omega) (by omega)]
    simp only [Option.toList_some, Option.toList_none, List.cons_append, List.nil_append]
    rw [bq_KO_hold_16]
    exact h3 h am_keep_r
  | true =>
    rw [if_neg (by rw [hi]; exact Bool.noConfusion)] at h3
    rw [if_neg am_b0]
    by_cases q1 : k < 0
    · rw [if_pos q1] at h3
      rw [if_neg (by omega), sp_KO_refuse (by omega) (by omega) (by omega)]
      simp only [Option.toList_some, Option.toList_none, List.cons_append, List.nil_append]
      rw [bq_KO_hold_27]
      exact h3 h am_keep_r
    · rw [if_neg q1] at h3
      rw [if_pos (by omega)]
      by_cases q2 : 3 < k
      · rw [if_pos q2] at h3
        rw [if_neg (by omega), sp_KO_refuse (by omega) (by omega) (by omega)]
        simp only [Option.toList_some, Option.toList_none, List.cons_append, List.nil_append]
        rw [bq_KO_hold_39]
        exact h3 h am_keep_r
      · rw [if_neg q2] at h3
        rw [if_pos (by omega), bq_Picker_start_0]
        refine ⟨Or.inr rfl, ?_⟩
        simp only [Option.toList_some, Option.toList_none, List.cons_append, List.nil_append]
        rw [bq_KO_hold_48]
        have eN : (((vQ (am_wv h 2)).toNat : Nat) : Int) = h 2 1 := by
          have e1 : vQ (am_wv h 2) = h 2 1 := rfl
          omega
        have hN16 : (vQ (am_wv h 2)).toNat ≤ 16 := by omega
        refine am_im_fr (J := Nat → Nat → Int) (a := 0) (n := (vQ (am_wv h 2)).toNat) (fun p g => an_of h g (v_hc (am_wv h 2) i) (v_hm (am_wv h 2)) (v_wf (am_wv h 2)) 1 p) (fun p g => am_Wp d 132 50 [some (Sum.inr (Sum.inr 1)), some (Sum.inl (i)), some (Sum.inl (k)), some (Sum.inl ((p : Int)))] [] (am_SH L, g, am_RR kp) Q) (by omega) (fun p g _ hp hg ih => ?_) (fun g hg => ?_) _ an_of_0
        · have kg := an_pw_keep hg.1
          have hwg := am_keep_wv kg
          have hvg : v_ok (am_wv g 2) := by rw [hwg]; exact hv
          have g21 : g 2 1 = h 2 1 := hg.1 2 1 (by omega) (by omega) (by omega) (by omega)
          have r110 : ∀ g2, an_of h g2 (v_hc (am_wv h 2) i) (v_hm (am_wv h 2)) (v_wf (am_wv h 2)) 1 (p + 1) → am_Wp d 132 110 [some (Sum.inr (Sum.inr 1)), some (Sum.inl (i)), some (Sum.inl (k)), some (Sum.inl ((p : Int)))] [] (am_SH L, g2, am_RR kp) Q := fun g2 hg2 => by
            rw [bq_KO_hold_110, am_incn (by omega)]
            exact ih g2 hg2
          rw [bq_KO_hold_50 (by omega), sp_World_papers_2]
          simp only [Option.toList_some, Option.toList_none, List.cons_append, List.nil_append]
          rw [bq_KO_hold_58 (by omega), g21, if_neg (by omega), sp_World_isOpen_2 (by omega), hwg]
          simp only [Option.toList_some, Option.toList_none, List.cons_append, List.nil_append]
          rw [bq_KO_hold_69 (by omega)]
          cases ho : v_open (am_wv h 2) (p : Int) with
          | false =>
            rw [if_pos am_bif]
            exact r110 g (an_of_n (fun w => by have := w.1; rw [ho] at this; cases this) hg)
          | true =>
            have g8 : g 8 p = vH (am_wv h 2) p := hg.1 8 p (by omega) (by omega) (by omega) (by omega)
            have g7 : g 7 p = vO (am_wv h 2) p := hg.1 7 p (by omega) (by omega) (by omega) (by omega)
            rw [if_neg am_b0, sp_World_holderOf_2 (by omega), am_lk_nat (by omega), g8]
            simp only [Option.toList_some, Option.toList_none, List.cons_append, List.nil_append]
            rw [bq_KO_hold_80 (by omega)]
            by_cases q3 : vH (am_wv h 2) p = i
            · have hmp : am_shl 1 (vO (am_wv h 2) p) = ((v_hm (am_wv h 2) p : Nat) : Int) := by
                have h0 := (v_ok_p hv p (by omega)).1
                obtain ⟨n, hn⟩ := Int.eq_ofNat_of_zero_le h0.1
                unfold v_hm
                rw [if_pos (by omega), hn, am_shl1 (by omega), Int.toNat_natCast]
              rw [if_pos q3, sp_World_worthOf_2 (by omega), hwg]
              simp only [Option.toList_some, Option.toList_none, List.cons_append, List.nil_append]
              rw [bq_KO_hold_97 (by omega), sp_World_debtorOf_2 (by omega), am_lk_nat (by omega), g7]
              simp only [Option.toList_some, Option.toList_none, List.cons_append, List.nil_append]
              rw [bq_KO_hold_106 (by omega), hmp]
              refine sp_Picker_offer (f := v_wf (am_wv h 2)) (by omega) (by omega) ⟨ho, q3⟩ hg (fun g2 hg2 => ?_)
              simp only [Option.toList_some, Option.toList_none, List.cons_append, List.nil_append]
              exact r110 g2 hg2
            · rw [if_neg q3]
              exact r110 g (an_of_n (fun w => q3 w.2) hg)
        · have g21 : g 2 1 = h 2 1 := hg.1 2 1 (by omega) (by omega) (by omega) (by omega)
          rw [bq_KO_hold_50 (by omega), sp_World_papers_2]
          simp only [Option.toList_some, Option.toList_none, List.cons_append, List.nil_append]
          rw [bq_KO_hold_58 (by omega), g21, if_pos (by omega)]
          refine sp_Picker_choose (by omega) hN16 (Or.inr rfl) (by omega) (fun j hj => by have := (v_open_lt hv hj.1).1; omega) (fun j hj => ?_) (v_hm_lt hv) hg (fun g2 k2 b2 => ?_)
          · have h16 := (v_open_lt hv hj.1).2
            have h5 := v_worth_le hv h16
            have h6 := (v_ok_p hv j h16).2.2.1
            unfold v_wf
            omega
          · simp only [Option.toList_some, Option.toList_none, List.cons_append, List.nil_append]
            have h5 := h3 g2 (an_pw_keep k2)
            unfold an_bsr at h5
            rw [b2] at h5
            dsimp only at h5
            rw [bq_KO_hold_124 (by omega), bq_Picker_found_0]
            by_cases q3 : g2 66 5 < 0
            · rw [if_pos q3] at h5
              rw [if_pos q3, bq_Picker_found_12]
              refine ⟨Or.inl rfl, ?_⟩
              simp only [Option.toList_some, Option.toList_none, List.cons_append, List.nil_append]
              rw [bq_KO_hold_131 (by omega), if_pos rfl, bq_KO_hold_146]
              exact h5
            · rw [if_neg q3] at h5
              rw [if_neg q3, bq_Picker_found_12]
              refine ⟨Or.inr rfl, ?_⟩
              simp only [Option.toList_some, Option.toList_none, List.cons_append, List.nil_append]
              rw [bq_KO_hold_131 (by omega), if_neg (by omega), bq_Picker_bits_0]
              simp only [Option.toList_some, Option.toList_none, List.cons_append, List.nil_append]
              rw [bq_KO_hold_141, bq_KO_hold_146]
              exact h5
theorem c_heaviest {d L kp : Nat} {h : Nat → Nat → Int} {w : Int} (hd : 30 ≤ d) (hv : v_ok (am_wv h 2)) : am_An L 41 (a_heaviest (am_wv h 2) w) h (fun Q => am_Wp d 177 0 [some (Sum.inr (Sum.inr 1)), some (Sum.inl w), none] [] (am_SH L, h, am_RR kp) Q) := by
  have hQ := wv_Q hv
  have hP := wv_P hv
  have hD := wv_D hv
  intro Q hq
  show am_Wp d 177 0 [some (Sum.inr (Sum.inr 1)), some (Sum.inl w), none] [] (am_SH L, h, am_RR kp) Q
  have h3 := fun g2 (m : am_keep h g2) => hq g2 kp m
  unfold a_heaviest at h3
  have r16 : (w = 0 ∨ w = 1) → am_Wp d 177 16 [some (Sum.inr (Sum.inr 1)), some (Sum.inl (w)), none] [] (am_SH L, h, am_RR kp) Q := fun hw => by
    rw [if_pos hw] at h3
    rw [bq_KO_heaviest_16 (by omega), sp_World_openPapers_2 (by omega) hv]
    simp only [Option.toList_some, Option.toList_none, List.cons_append, List.nil_append]
    rw [bq_KO_heaviest_23 (by omega)]
    by_cases q2 : 10 < v_opens (am_wv h 2)
    · rw [if_pos q2] at h3
      rw [if_neg (by omega), sp_KO_refuse (by omega) (by omega) (by omega)]
      simp only [Option.toList_some, Option.toList_none, List.cons_append, List.nil_append]
      rw [bq_KO_heaviest_34]
      exact h3 h am_keep_r
    · rw [if_neg q2] at h3
      rw [if_pos (by omega), bq_Picker_start_0]
      refine ⟨Or.inl rfl, ?_⟩
      simp only [Option.toList_some, Option.toList_none, List.cons_append, List.nil_append]
      rw [bq_KO_heaviest_43]
      have eN : (((vQ (am_wv h 2)).toNat : Nat) : Int) = h 2 1 := by
        have e1 : vQ (am_wv h 2) = h 2 1 := rfl
        omega
      have hN16 : (vQ (am_wv h 2)).toNat ≤ 16 := by omega
      refine am_im_fr (J := Nat → Nat → Int) (a := 0) (n := (vQ (am_wv h 2)).toNat) (fun p g => an_of h g (v_qc (am_wv h 2)) (v_qm (am_wv h 2)) (vN (am_wv h 2)) 0 p) (fun p g => am_Wp d 177 45 [some (Sum.inr (Sum.inr 1)), some (Sum.inl (w)), some (Sum.inl ((p : Int)))] [] (am_SH L, g, am_RR kp) Q) (by omega) (fun p g _ hp hg ih => ?_) (fun g hg => ?_) _ an_of_0
      · have kg := an_pw_keep hg.1
        have hwg := am_keep_wv kg
        have g21 : g 2 1 = h 2 1 := hg.1 2 1 (by omega) (by omega) (by omega) (by omega)
        have r107 : ∀ g2, an_of h g2 (v_qc (am_wv h 2)) (v_qm (am_wv h 2)) (vN (am_wv h 2)) 0 (p + 1) → am_Wp d 177 107 [some (Sum.inr (Sum.inr 1)), some (Sum.inl (w)), some (Sum.inl ((p : Int)))] [] (am_SH L, g2, am_RR kp) Q := fun g2 hg2 => by
          rw [bq_KO_heaviest_107, am_incn (by omega)]
          exact ih g2 hg2
        rw [bq_KO_heaviest_45 (by omega), sp_World_papers_2]
        simp only [Option.toList_some, Option.toList_none, List.cons_append, List.nil_append]
        rw [bq_KO_heaviest_53 (by omega), g21, if_neg (by omega), sp_World_isOpen_2 (by omega), hwg]
        simp only [Option.toList_some, Option.toList_none, List.cons_append, List.nil_append]
        rw [bq_KO_heaviest_64 (by omega)]
        cases ho : v_open (am_wv h 2) (p : Int) with
        | false =>
          rw [if_pos am_bif]
          exact r107 g (an_of_n (fun w => by unfold v_qc at w; rw [ho] at w; cases w) hg)
        | true =>
          have g9 : g 9 p = vN (am_wv h 2) p := hg.1 9 p (by omega) (by omega) (by omega) (by omega)
          have g8 : g 8 p = vH (am_wv h 2) p := hg.1 8 p (by omega) (by omega) (by omega) (by omega)
          have g7 : g 7 p = vO (am_wv h 2) p := hg.1 7 p (by omega) (by omega) (by omega) (by omega)
          have hmp : am_or (am_shl 1 (vO (am_wv h 2) p)) (am_shl 1 (am_add 7 (vH (am_wv h 2) p))) = ((v_qm (am_wv h 2) p : Nat) : Int) := by
            have h0 := (v_ok_p hv p (by omega)).1
            have h01 := (v_ok_p hv p (by omega)).2.1
            obtain ⟨n, hn⟩ := Int.eq_ofNat_of_zero_le h0.1
            obtain ⟨n2, hn2⟩ := Int.eq_ofNat_of_zero_le h01.1
            unfold v_qm
            rw [if_pos (by omega), hn, hn2, am_add_ok (by omega) (by omega), show (7 : Int) + (n2 : Int) = ((7 + n2 : Nat) : Int) by omega, am_shl1 (by omega), am_shl1 (by omega), Int.toNat_natCast, Int.toNat_natCast]
            have p1 : 2 ^ n < 2 ^ 14 := Nat.pow_lt_pow_right (by omega) (by omega)
            have p2 : 2 ^ (7 + n2) < 2 ^ 14 := Nat.pow_lt_pow_right (by omega) (by omega)
            exact am_or_ok (by omega) (by omega)
          rw [if_neg am_b0, sp_World_quartersOf_2 (by omega), am_lk_nat (by omega), g9]
          simp only [Option.toList_some, Option.toList_none, List.cons_append, List.nil_append]
          rw [bq_KO_heaviest_80 (by omega), sp_World_debtorOf_2 (by omega), am_lk_nat (by omega), g7]
          simp only [Option.toList_some, Option.toList_none, List.cons_append, List.nil_append]
          rw [bq_KO_heaviest_89 (by omega), sp_World_holderOf_2 (by omega), am_lk_nat (by omega), g8]
          simp only [Option.toList_some, Option.toList_none, List.cons_append, List.nil_append]
          rw [bq_KO_heaviest_101 (by omega), hmp]
          refine sp_Picker_offer (f := vN (am_wv h 2)) (by omega) (by omega) ho hg (fun g2 hg2 => ?_)
          simp only [Option.toList_some, Option.toList_none, List.cons_append, List.nil_append]
          exact r107 g2 hg2
      · have g21 : g 2 1 = h 2 1 := hg.1 2 1 (by omega) (by omega) (by omega) (by omega)
        rw [bq_KO_heaviest_45 (by omega), sp_World_papers_2]
        simp only [Option.toList_some, Option.toList_none, List.cons_append, List.nil_append]
        rw [bq_KO_heaviest_53 (by omega), g21, if_pos (by omega)]
        refine sp_Picker_choose (by omega) hN16 (Or.inl rfl) (by omega) (fun j hj => by have := (v_open_lt hv hj).1; omega) (fun j hj => ?_) (v_qm_lt hv) hg (fun g2 k2 b2 => ?_)
        · have h16 := (v_open_lt hv hj).2
          have h6 := (v_ok_p hv j h16).2.2.1
          omega
        · simp only [Option.toList_some, Option.toList_none, List.cons_append, List.nil_append]
          have h5 := h3 g2 (an_pw_keep k2)
          rw [b2] at h5
          dsimp only at h5
          rw [bq_KO_heaviest_122 (by omega)]
          by_cases q3 : w = 0
          · rw [if_pos q3] at h5
            rw [if_pos q3, bq_Picker_bits_0]
            simp only [Option.toList_some, Option.toList_none, List.cons_append, List.nil_append]
            rw [bq_KO_heaviest_133, bq_KO_heaviest_143]
            exact h5
          · rw [if_neg q3] at h5
            rw [if_neg q3, bq_Picker_sum_0]
            simp only [Option.toList_some, Option.toList_none, List.cons_append, List.nil_append]
            rw [bq_KO_heaviest_143]
            exact h5
  rw [bq_KO_heaviest_0 (by omega)]
  by_cases q1 : w = 0
  · rw [if_pos q1]; exact r16 (Or.inl q1)
  · rw [if_neg q1]
    by_cases q2 : w = 1
    · rw [if_pos q2]; exact r16 (Or.inr q2)
    · rw [if_neg (by omega)] at h3
      rw [if_neg q2, sp_KO_refuse (by omega) (by omega) (by omega)]
      simp only [Option.toList_some, Option.toList_none, List.cons_append, List.nil_append]
      rw [bq_KO_heaviest_15]
      exact h3 h am_keep_r