/-! WHAT CHANGES A WORLD: one towards another, a person, a paper, made over -/
theorem am_sx_n {c : Nat → Int} {i : Nat} {v : Int} {j : Nat} (hj : ¬ j = i) : am_sx c i v j = c j := if_neg hj
theorem am_sx_e {c : Nat → Int} {i : Nat} {v : Int} : am_sx c i v i = v := if_pos rfl
theorem v_o_sx {n : Nat} {f : Nat → Int} {i : Nat} {v : Int} (hf : v_o n f) (hi : i < n) : v_o n (am_sx f i v) := fun j hj => (am_sx_n (by omega)).trans (hf j hj)
theorem am_upo {f : Nat → Nat → Int} {i j a b : Nat} {v : Int} (hn : ¬ a = i) : am_up f i j v a b = f a b := if_neg hn
def v_flip (V : am_Vw) (a b : Nat) : am_Vw := (V.1, vK V, vF V, vS V, am_sx (vU V) a (am_xor (vU V a) (am_shl 1 (b : Int))), vO V, vH V, vN V, vE V, vG V, vT V)
def v_pap (V : am_Vw) (o n q e g : Int) : am_Vw := ((vP V, am_add (vQ V) 1, vD V), vK V, vF V, vS V, vU V, am_sx (vO V) (vQ V).toNat o, am_sx (vH V) (vQ V).toNat n, am_sx (vN V) (vQ V).toNat q, am_sx (vE V) (vQ V).toNat e, am_sx (vG V) (vQ V).toNat g, am_sx (vT V) (vQ V).toNat 0)
def v_per (V : am_Vw) (k f : Int) : am_Vw := ((am_add (vP V) 1, vQ V, vD V), am_sx (vK V) (vP V).toNat k, am_sx (vF V) (vP V).toNat f, am_sx (vS V) (vP V).toNat 0, am_sx (vU V) (vP V).toNat 0, vO V, vH V, vN V, vE V, vG V, vT V)
def v_ovr (V : am_Vw) (p : Nat) (t : Int) : am_Vw := (V.1, vK V, vF V, vS V, vU V, vO V, am_sx (vH V) p t, vN V, vE V, vG V, am_sx (vT V) p (if vO V p = t then 2 else 0))
theorem am_xor_bit {x : Int} {b : Nat} (h0 : 0 ≤ x) (h1 : x ≤ 127) (hb : b < 7) : 0 ≤ am_xor x (am_shl 1 (b : Int)) ∧ am_xor x (am_shl 1 (b : Int)) ≤ 127 := by
  obtain ⟨n, rfl⟩ := Int.eq_ofNat_of_zero_le h0
  have h2 : 2 ^ b < 2 ^ 7 := Nat.pow_lt_pow_right (by omega) (by omega)
  rw [am_shl1 (by omega), am_xor_ok (by omega) (by omega)]
  have h3 : n ^^^ 2 ^ b < 2 ^ 7 := Nat.xor_lt_two_pow (by omega) h2
  omega
theorem v_ok_flip {V : am_Vw} (hv : v_ok V) {a b : Nat} (ha : a < 7) (hb : b < 7) : v_ok (v_flip V a b) := by
  refine ⟨hv.1, hv.2.1, hv.2.2.1, fun i hi => ?_, fun p hp => v_ok_p hv p hp, fun p hp => v_ok_q hv p hp⟩
  have h1 := v_ok_i hv i hi
  refine ⟨h1.1, h1.2.1, h1.2.2.1, ?_⟩
  show 0 ≤ am_sx (vU V) a _ i ∧ am_sx (vU V) a _ i ≤ 127
  by_cases q : i = a
  · subst q
    rw [am_sx_e]
    exact am_xor_bit h1.2.2.2.1 h1.2.2.2.2 hb
  · rw [am_sx_n q]; exact h1.2.2.2
theorem v_z_flip {V : am_Vw} (hz : v_z V) {a b : Nat} (ha : a < 7) : v_z (v_flip V a b) := by
  obtain ⟨⟨z0, z1, z2, z3⟩, y⟩ := hz
  exact ⟨⟨z0, z1, z2, v_o_sx z3 ha⟩, y⟩
theorem v_ok_pap {V : am_Vw} (hv : v_ok V) {o n q e g : Int} (ht : v_two V o n = true) (hQ : vQ V < 16) (hq : 1 ≤ q ∧ q ≤ 40) (he : 0 ≤ e ∧ e ≤ 98) (hg : 0 ≤ g ∧ g ≤ 1) : v_ok (v_pap V o n q e g) := by
  have hQ1 := v_ok_Q hv
  have hP := v_ok_P hv
  obtain ⟨t1, t2, -⟩ := v_two_iff.1 ht
  have eQ : am_add (vQ V) 1 = vQ V + 1 := am_add_ok (by omega) (by omega)
  refine ⟨hv.1, ?_, hv.2.2.1, fun i hi => v_ok_i hv i hi, fun p hp => ?_, fun p hp => ?_⟩
  · show 0 ≤ am_add (vQ V) 1 ∧ am_add (vQ V) 1 ≤ 16
    rw [eQ]; omega
  · show (0 ≤ am_sx (vO V) (vQ V).toNat o p ∧ am_sx (vO V) (vQ V).toNat o p ≤ 6) ∧ (0 ≤ am_sx (vH V) (vQ V).toNat n p ∧ am_sx (vH V) (vQ V).toNat n p ≤ 6) ∧ (0 ≤ am_sx (vN V) (vQ V).toNat q p ∧ am_sx (vN V) (vQ V).toNat q p ≤ 40) ∧ (0 ≤ am_sx (vE V) (vQ V).toNat e p ∧ am_sx (vE V) (vQ V).toNat e p ≤ 98) ∧ (0 ≤ am_sx (vG V) (vQ V).toNat g p ∧ am_sx (vG V) (vQ V).toNat g p ≤ 1) ∧ (0 ≤ am_sx (vT V) (vQ V).toNat 0 p ∧ am_sx (vT V) (vQ V).toNat 0 p ≤ 3)
    by_cases q1 : p = (vQ V).toNat
    · subst q1
      simp only [am_sx_e]
      omega
    · simp only [am_sx_n q1]
      exact v_ok_p hv p hp
  · show am_sx (vO V) (vQ V).toNat o p < vP V ∧ am_sx (vH V) (vQ V).toNat n p < vP V ∧ 1 ≤ am_sx (vN V) (vQ V).toNat q p
    have hp2 : (p : Int) < am_add (vQ V) 1 := hp
    rw [eQ] at hp2
    by_cases q1 : p = (vQ V).toNat
    · subst q1
      simp only [am_sx_e]
      omega
    · simp only [am_sx_n q1]
      exact v_ok_q hv p (by omega)
theorem v_z_pap {V : am_Vw} (hv : v_ok V) (hz : v_z V) {o n q e g : Int} (hQ : vQ V < 16) : v_z (v_pap V o n q e g) := by
  obtain ⟨x, y0, y1, y2, y3, y4, y5⟩ := hz
  have hk : (vQ V).toNat < 16 := by have := v_ok_Q hv; omega
  exact ⟨x, v_o_sx y0 hk, v_o_sx y1 hk, v_o_sx y2 hk, v_o_sx y3 hk, v_o_sx y4 hk, v_o_sx y5 hk⟩
theorem v_ok_per {V : am_Vw} (hv : v_ok V) {k f : Int} (hP : vP V < 7) (hk : 0 ≤ k ∧ k ≤ 5) (hf : 0 ≤ f ∧ f ≤ 9) : v_ok (v_per V k f) := by
  have hP1 := v_ok_P hv
  have eP : am_add (vP V) 1 = vP V + 1 := am_add_ok (by omega) (by omega)
  refine ⟨?_, hv.2.1, hv.2.2.1, fun i hi => ?_, fun p hp => v_ok_p hv p hp, fun p hp => ?_⟩
  · show 0 ≤ am_add (vP V) 1 ∧ am_add (vP V) 1 ≤ 7
    rw [eP]; omega
  · show (0 ≤ am_sx (vK V) (vP V).toNat k i ∧ am_sx (vK V) (vP V).toNat k i ≤ 5) ∧ (0 ≤ am_sx (vF V) (vP V).toNat f i ∧ am_sx (vF V) (vP V).toNat f i ≤ 9) ∧ am_i32 (am_sx (vS V) (vP V).toNat 0 i) ∧ (0 ≤ am_sx (vU V) (vP V).toNat 0 i ∧ am_sx (vU V) (vP V).toNat 0 i ≤ 127)
    by_cases q1 : i = (vP V).toNat
    · subst q1
      simp only [am_sx_e]
      unfold am_i32
      omega
    · simp only [am_sx_n q1]
      exact v_ok_i hv i hi
  · have h1 := v_ok_q hv p hp
    show vO V p < am_add (vP V) 1 ∧ vH V p < am_add (vP V) 1 ∧ 1 ≤ vN V p
    rw [eP]; omega
theorem v_z_per {V : am_Vw} (hv : v_ok V) (hz : v_z V) {k f : Int} (hP : vP V < 7) : v_z (v_per V k f) := by
  obtain ⟨⟨z0, z1, z2, z3⟩, y⟩ := hz
  have hk : (vP V).toNat < 7 := by have := v_ok_P hv; omega
  exact ⟨⟨v_o_sx z0 hk, v_o_sx z1 hk, v_o_sx z2 hk, v_o_sx z3 hk⟩, y⟩
theorem v_ok_ovr {V : am_Vw} (hv : v_ok V) {p : Nat} {t : Int} (hp1 : p < 16) (ht : 0 ≤ t ∧ t < vP V) : v_ok (v_ovr V p t) := by
  have hP1 := v_ok_P hv
  refine ⟨hv.1, hv.2.1, hv.2.2.1, fun i hi => v_ok_i hv i hi, fun j hj => ?_, fun j hj => ?_⟩
  · have h1 := v_ok_p hv j hj
    refine ⟨h1.1, ?_, h1.2.2.1, h1.2.2.2.1, h1.2.2.2.2.1, ?_⟩
    · show 0 ≤ am_sx (vH V) p t j ∧ am_sx (vH V) p t j ≤ 6
      by_cases q1 : j = p
      · rw [q1, am_sx_e]; omega
      · rw [am_sx_n q1]; exact h1.2.1
    · show 0 ≤ am_sx (vT V) p _ j ∧ am_sx (vT V) p _ j ≤ 3
      by_cases q1 : j = p
      · rw [q1, am_sx_e]; split <;> omega
      · rw [am_sx_n q1]; exact h1.2.2.2.2.2
  · have h1 := v_ok_q hv j hj
    refine ⟨h1.1, ?_, h1.2.2⟩
    show am_sx (vH V) p t j < vP V
    by_cases q1 : j = p
    · rw [q1, am_sx_e]; omega
    · rw [am_sx_n q1]; exact h1.2.1
theorem v_z_ovr {V : am_Vw} (hz : v_z V) {p : Nat} {t : Int} (hp1 : p < 16) : v_z (v_ovr V p t) := by
  obtain ⟨x, y0, y1, y2, y3, y4, y5⟩ := hz
  exact ⟨x, y0, v_o_sx y1 hp1, y2, y3, y4, v_o_sx y5 hp1⟩
theorem v_z_day1 {V : am_Vw} (hv : v_ok V) (hz : v_z V) : v_z (v_day1 V) := by
  obtain ⟨⟨z0, z1, z2, z3⟩, y0, y1, y2, y3, y4, y5⟩ := hz
  refine ⟨⟨z0, z1, ?_, z3⟩, y0, y1, y2, y3, y4, ?_⟩
  · intro j hj
    show v_ki V (vQ V).toNat j = 0
    refine am_for_ind (n := (vQ V).toNat) (fun _ s => s = 0) (z2 j hj) (fun k s hk hs => ?_)
    have hQ := v_ok_Q hv
    have hP := v_ok_P hv
    have h1 := v_ok_q hv k (by omega)
    show (if _ then _ else _) = (0 : Int)
    rw [if_neg (fun w => by have := w.2.2; omega)]
    exact hs
  · intro j hj
    show v_st V (vQ V).toNat j = 0
    have hQ := v_ok_Q hv
    rw [v_st_n (by omega)]
    exact y5 j hj
theorem v_nl_flip {V : am_Vw} {a b : Nat} (hn : v_nl V) : v_nl (v_flip V a b) := hn
theorem v_nl_per {V : am_Vw} {k f : Int} (hn : v_nl V) : v_nl (v_per V k f) := hn
theorem v_nl_pap {V : am_Vw} (hv : v_ok V) {o n q e g : Int} (hn : v_nl V) (ht : v_two V o n = true) (hQ : vQ V < 16) : v_nl (v_pap V o n q e g) := by
  intro p hp
  have hQ1 := v_ok_Q hv
  have hp2 : (p : Int) < am_add (vQ V) 1 := hp
  rw [am_add_ok (by omega) (by omega)] at hp2
  show am_sx (vT V) (vQ V).toNat 0 p = 0 → ¬ am_sx (vO V) (vQ V).toNat o p = am_sx (vH V) (vQ V).toNat n p
  by_cases q1 : p = (vQ V).toNat
  · subst q1
    simp only [am_sx_e]
    exact fun _ => (v_two_iff.1 ht).2.2
  · simp only [am_sx_n q1]
    exact hn p (by omega)
theorem v_nl_ovr {V : am_Vw} {p : Nat} {t : Int} (hn : v_nl V) : v_nl (v_ovr V p t) := by
  intro j hj
  show am_sx (vT V) p (if vO V p = t then 2 else 0) j = 0 → ¬ vO V j = am_sx (vH V) p t j
  by_cases q1 : j = p
  · subst q1
    simp only [am_sx_e]
    intro w q
    rw [if_pos q] at w
    omega
  · simp only [am_sx_n q1]
    exact hn j hj
theorem v_nl_day1 {V : am_Vw} (hn : v_nl V) : v_nl (v_day1 V) := by
  intro j hj
  show v_st V (vQ V).toNat j = 0 → ¬ vO V j = vH V j
  intro w
  refine hn j hj ?_
  unfold v_st at w
  by_cases q : j < (vQ V).toNat ∧ v_due V j = true
  · rw [if_pos q] at w
    split at w <;> omega
  · rw [if_neg q] at w; exact w
theorem v_nl_run {V : am_Vw} (hn : v_nl V) (k : Nat) : v_nl (v_run V k) := by
  induction k with
  | zero => exact hn
  | succ k ih => exact v_nl_day1 ih
theorem v_take_o {V : am_Vw} (hv : v_ok V) {i t : Int} (hz : v_take V i t = true) : ∃ p : Nat, i = (p : Int) ∧ p < 16 ∧ vT V p = 0 := by
  have hQ := v_ok_Q hv
  unfold v_take at hz
  rw [Bool.and_eq_true, Bool.and_eq_true, Bool.and_eq_true] at hz
  have h1 := hz.1.1.1
  have h4 : v_isQ V i = true := by
    unfold v_open at h1
    rw [Bool.and_eq_true] at h1
    exact h1.1
  obtain ⟨h2, h3⟩ := v_isQ_iff.1 h4
  obtain ⟨p, rfl⟩ := Int.eq_ofNat_of_zero_le h2
  refine ⟨p, rfl, by omega, ?_⟩
  rw [v_open_nat hv h3] at h1
  exact of_decide_eq_true h1
theorem sp_World_flip_2 {d L kp : Nat} {h : Nat → Nat → Int} {Q : Option am_V → am_H → Prop} {i j : Int} (hd : 2 ≤ d) (hv : v_ok (am_wv h 2)) (hq1 : ∀ a c : Nat, i = (a : Int) → j = (c : Int) → v_two (am_wv h 2) i j = true → Q (some (Sum.inl 1)) (am_SH L, am_up h 6 a (am_xor (h 6 a) (am_shl 1 (c : Int))), am_RR kp)) (hq2 : v_two (am_wv h 2) i j = false → Q (some (Sum.inl 0)) (am_SH L, h, am_RR kp)) : am_Wp d 28 0 [some (Sum.inr (Sum.inr 2)), some (Sum.inl i), some (Sum.inl j)] [] (am_SH L, h, am_RR kp) Q := by
  have hP := v_ok_P hv
  rw [bq_World_flip_0 (by omega), sp_World_isPerson_2]
  simp only [Option.toList_some, Option.toList_none, List.cons_append, List.nil_append]
  rw [bq_World_flip_5 (by omega)]
  cases e1 : v_isP (am_wv h 2) i
  · rw [if_pos am_bif, bq_World_flip_21]
    exact hq2 (by unfold v_two; rw [e1]; rfl)
  · rw [if_neg am_b0, sp_World_isPerson_2]
    simp only [Option.toList_some, Option.toList_none, List.cons_append, List.nil_append]
    rw [bq_World_flip_13 (by omega)]
    cases e2 : v_isP (am_wv h 2) j
    · rw [if_pos am_bif, bq_World_flip_21]
      exact hq2 (by unfold v_two; rw [e1, e2]; rfl)
    · rw [if_neg am_b0]
      by_cases q : i = j
      · rw [if_pos q, bq_World_flip_21]
        exact hq2 (by unfold v_two; rw [e1, e2, decide_eq_true q]; rfl)
      · have ht : v_two (am_wv h 2) i j = true := by unfold v_two; rw [e1, e2, decide_eq_false q]; rfl
        have f1 := v_isP_iff.1 e1
        have f2 := v_isP_iff.1 e2
        obtain ⟨a, rfl⟩ := Int.eq_ofNat_of_zero_le f1.1
        obtain ⟨c, rfl⟩ := Int.eq_ofNat_of_zero_le f2.1
        rw [if_neg q, sp_at_6, am_lk_nat (by omega)]
        simp only [Option.toList_some, Option.toList_none, List.cons_append, List.nil_append]
        rw [bq_World_flip_36 (by omega), sp_put_6, am_put_nat (by omega)]
        simp only [Option.toList_some, Option.toList_none, List.cons_append, List.nil_append]
        rw [bq_World_flip_43]
        exact hq1 a c rfl rfl ht
theorem sp_World_addPaper_2 {d L kp : Nat} {h : Nat → Nat → Int} {Q : Option am_V → am_H → Prop} {o n q e g : Int} (hd : 1 ≤ d) (hv : v_ok (am_wv h 2)) (hq1 : ∀ k : Nat, h 2 1 = (k : Int) → (v_two (am_wv h 2) o n = true ∧ vQ (am_wv h 2) < 16 ∧ 1 ≤ q ∧ q ≤ 40 ∧ 0 ≤ e ∧ e ≤ 98) → Q (some (Sum.inl 1)) (am_SH L, (am_up (am_up (am_up (am_up (am_up (am_up (am_up h 7 k o) 8 k n) 9 k q) 10 k e) 11 k g) 12 k 0) 2 1 ((k + 1 : Nat) : Int)), am_RR kp)) (hq2 : ¬ (v_two (am_wv h 2) o n = true ∧ vQ (am_wv h 2) < 16 ∧ 1 ≤ q ∧ q ≤ 40 ∧ 0 ≤ e ∧ e ≤ 98) → Q (some (Sum.inl 0)) (am_SH L, h, am_RR kp)) : am_Wp d 31 0 [some (Sum.inr (Sum.inr 2)), some (Sum.inl o), some (Sum.inl n), some (Sum.inl q), some (Sum.inl e), some (Sum.inl g)] [] (am_SH L, h, am_RR kp) Q := by
  have hP := v_ok_P hv
  have hQ := v_ok_Q hv
  have eQ : vQ (am_wv h 2) = h 2 1 := rfl
  rw [bq_World_addPaper_0 (by omega), sp_World_isPerson_2]
  simp only [Option.toList_some, Option.toList_none, List.cons_append, List.nil_append]
  rw [bq_World_addPaper_5 (by omega)]
  cases e1 : v_isP (am_wv h 2) o
  · rw [if_pos am_bif, bq_World_addPaper_30]
    exact hq2 (fun w => by have := w.1; unfold v_two at this; rw [e1] at this; exact absurd this (by simp))
  · rw [if_neg am_b0, sp_World_isPerson_2]
    simp only [Option.toList_some, Option.toList_none, List.cons_append, List.nil_append]
    rw [bq_World_addPaper_13 (by omega)]
    cases e2 : v_isP (am_wv h 2) n
    · rw [if_pos am_bif, bq_World_addPaper_30]
      exact hq2 (fun w => by have := w.1; unfold v_two at this; rw [e1, e2] at this; exact absurd this (by simp))
    · rw [if_neg am_b0]
      by_cases qq : o = n
      · rw [if_pos qq, bq_World_addPaper_30]
        exact hq2 (fun w => (v_two_iff.1 w.1).2.2 qq)
      · have ht : v_two (am_wv h 2) o n = true := by unfold v_two; rw [e1, e2, decide_eq_false qq]; rfl
        rw [if_neg qq]
        obtain ⟨k, hk⟩ := Int.eq_ofNat_of_zero_le (show 0 ≤ h 2 1 from hQ.1)
        by_cases c1 : h 2 1 < 16 ∧ 1 ≤ q ∧ q ≤ 40 ∧ 0 ≤ e ∧ e ≤ 98
        · rw [if_pos c1.1, if_neg (by omega), if_neg (by omega), if_neg (by omega), if_pos (by omega)]
          rw [hk, sp_put_7, am_put_nat (by omega)]
          simp only [Option.toList_some, Option.toList_none, List.cons_append, List.nil_append]
          rw [bq_World_addPaper_69 (by omega), show (am_up h 7 k o) 2 1 = (k : Int) from hk, sp_put_8, am_put_nat (by omega)]
          simp only [Option.toList_some, Option.toList_none, List.cons_append, List.nil_append]
          rw [bq_World_addPaper_81 (by omega), show (am_up (am_up h 7 k o) 8 k n) 2 1 = (k : Int) from hk, sp_put_9, am_put_nat (by omega)]
          simp only [Option.toList_some, Option.toList_none, List.cons_append, List.nil_append]
          rw [bq_World_addPaper_93 (by omega), show (am_up (am_up (am_up h 7 k o) 8 k n) 9 k q) 2 1 = (k : Int) from hk, sp_put_10, am_put_nat (by omega)]
          simp only [Option.toList_some, Option.toList_none, List.cons_append, List.nil_append]
          rw [bq_World_addPaper_106 (by omega), show (am_up (am_up (am_up (am_up h 7 k o) 8 k n) 9 k q) 10 k e) 2 1 = (k : Int) from hk, sp_put_11, am_put_nat (by omega)]
          simp only [Option.toList_some, Option.toList_none, List.cons_append, List.nil_append]
          rw [bq_World_addPaper_119 (by omega), show (am_up (am_up (am_up (am_up (am_up h 7 k o) 8 k n) 9 k q) 10 k e) 11 k g) 2 1 = (k : Int) from hk, sp_put_12, am_put_nat (by omega)]
          simp only [Option.toList_some, Option.toList_none, List.cons_append, List.nil_append]
          rw [bq_World_addPaper_131, show (am_up (am_up (am_up (am_up (am_up (am_up h 7 k o) 8 k n) 9 k q) 10 k e) 11 k g) 12 k 0) 2 1 = (k : Int) from hk, am_incn (by omega)]
          exact hq1 k hk ⟨ht, by show h 2 1 < 16; omega, by omega, by omega, by omega, by omega⟩
        · have fin2 : Q (some (Sum.inl 0)) (am_SH L, h, am_RR kp) := hq2 (fun w => c1 ⟨by rw [← eQ]; exact w.2.1, w.2.2⟩)
          by_cases d1 : h 2 1 < 16
          · rw [if_pos d1]
            by_cases d2 : q < 1
            · rw [if_pos d2, bq_World_addPaper_55]; exact fin2
            · rw [if_neg d2]
              by_cases d3 : 40 < q
              · rw [if_pos d3, bq_World_addPaper_55]; exact fin2
              · rw [if_neg d3]
                by_cases d4 : e < 0
                · rw [if_pos d4, bq_World_addPaper_55]; exact fin2
                · rw [if_neg d4, if_neg (by omega), bq_World_addPaper_55]; exact fin2
          · rw [if_neg d1, bq_World_addPaper_30]; exact fin2
theorem sp_World_makeOver_2 {d L kp : Nat} {h : Nat → Nat → Int} {Q : Option am_V → am_H → Prop} {i t : Int} (hd : 3 ≤ d) (hv : v_ok (am_wv h 2)) (hq1 : ∀ p : Nat, i = (p : Int) → p < 16 → v_take (am_wv h 2) i t = true → Q (some (Sum.inl 1)) (am_SH L, am_up (am_up h 8 p t) 12 p (if h 7 p = t then 2 else 0), am_RR kp)) (hq2 : v_take (am_wv h 2) i t = false → Q (some (Sum.inl 0)) (am_SH L, h, am_RR kp)) : am_Wp d 32 0 [some (Sum.inr (Sum.inr 2)), some (Sum.inl i), some (Sum.inl t)] [] (am_SH L, h, am_RR kp) Q := by
  rw [bq_World_makeOver_0 (by omega), sp_World_canTake_2 (by omega)]
  simp only [Option.toList_some, Option.toList_none, List.cons_append, List.nil_append]
  rw [bq_World_makeOver_6 (by omega)]
  cases e1 : v_take (am_wv h 2) i t
  · rw [if_pos am_bif]
    exact hq2 e1
  · rw [if_neg am_b0]
    obtain ⟨p, hp, h16, ho⟩ := v_take_o hv e1
    have ho2 : h 12 p = 0 := ho
    subst hp
    rw [sp_put_8, am_put_nat h16]
    simp only [Option.toList_some, Option.toList_none, List.cons_append, List.nil_append]
    rw [bq_World_makeOver_20 (by omega), sp_at_7, am_lk_nat h16]
    simp only [Option.toList_some, Option.toList_none, List.cons_append, List.nil_append]
    rw [bq_World_makeOver_28 (by omega), show am_up h 8 p t 7 p = h 7 p from rfl]
    have fin := hq1 p rfl h16 e1
    by_cases q : h 7 p = t
    · rw [if_pos q] at fin
      rw [if_pos q, sp_put_12, am_put_nat h16]
      simp only [Option.toList_some, Option.toList_none, List.cons_append, List.nil_append]
      rw [bq_World_makeOver_41]
      exact fin
    · rw [if_neg q] at fin
      rw [if_neg q, bq_World_makeOver_41]
      rw [am_up_id (h := am_up h 8 p t) (b := 12) (j := p) (v := 0) ho2.symm] at fin
      exact fin
theorem sp_World_flip_29 {d L kp : Nat} {h : Nat → Nat → Int} {Q : Option am_V → am_H → Prop} {i j : Int} (hd : 2 ≤ d) (hv : v_ok (am_wv h 29)) (hq1 : ∀ a c : Nat, i = (a : Int) → j = (c : Int) → v_two (am_wv h 29) i j = true → Q (some (Sum.inl 1)) (am_SH L, am_up h 33 a (am_xor (h 33 a) (am_shl 1 (c : Int))), am_RR kp)) (hq2 : v_two (am_wv h 29) i j = false → Q (some (Sum.inl 0)) (am_SH L, h, am_RR kp)) : am_Wp d 28 0 [some (Sum.inr (Sum.inr 29)), some (Sum.inl i), some (Sum.inl j)] [] (am_SH L, h, am_RR kp) Q := by
  have hP := v_ok_P hv
  rw [bq_World_flip_v2_0 (by omega), sp_World_isPerson_29]
  simp only [Option.toList_some, Option.toList_none, List.cons_append, List.nil_append]
  rw [bq_World_flip_v2_5 (by omega)]
  cases e1 : v_isP (am_wv h 29) i
  · rw [if_pos am_bif, bq_World_flip_v2_21]
    exact hq2 (by unfold v_two; rw [e1]; rfl)
  · rw [if_neg am_b0, sp_World_isPerson_29]
    simp only [Option.toList_some, Option.toList_none, List.cons_append, List.nil_append]
    rw [bq_World_flip_v2_13 (by omega)]
    cases e2 : v_isP (am_wv h 29) j
    · rw [if_pos am_bif, bq_World_flip_v2_21]
      exact hq2 (by unfold v_two; rw [e1, e2]; rfl)
    · rw [if_neg am_b0]
      by_cases q : i = j
      · rw [if_pos q, bq_World_flip_v2_21]
        exact hq2 (by unfold v_two; rw [e1, e2, decide_eq_true q]; rfl)
      · have ht : v_two (am_wv h 29) i j = true := by unfold v_two; rw [e1, e2, decide_eq_false q]; rfl
        have f1 := v_isP_iff.1 e1
        have f2 := v_isP_iff.1 e2
        obtain ⟨a, rfl⟩ := Int.eq_ofNat_of_zero_le f1.1
        obtain ⟨c, rfl⟩ := Int.eq_ofNat_of_zero_le f2.1
        rw [if_neg q, sp_at_33, am_lk_nat (by omega)]
        simp only [Option.toList_some, Option.toList_none, List.cons_append, List.nil_append]
        rw [bq_World_flip_v2_36 (by omega), sp_put_33, am_put_nat (by omega)]
        simp only [Option.toList_some, Option.toList_none, List.cons_append, List.nil_append]
        rw [bq_World_flip_v2_43]
        exact hq1 a c rfl rfl ht
theorem sp_World_addPaper_29 {d L kp : Nat} {h : Nat → Nat → Int} {Q : Option am_V → am_H → Prop} {o n q e g : Int} (hd : 1 ≤ d) (hv : v_ok (am_wv h 29)) (hq1 : ∀ k : Nat, h 29 1 = (k : Int) → (v_two (am_wv h 29) o n = true ∧ vQ (am_wv h 29) < 16 ∧ 1 ≤ q ∧ q ≤ 40 ∧ 0 ≤ e ∧ e ≤ 98) → Q (some (Sum.inl 1)) (am_SH L, (am_up (am_up (am_up (am_up (am_up (am_up (am_up h 34 k o) 35 k n) 36 k q) 37 k e) 38 k g) 39 k 0) 29 1 ((k + 1 : Nat) : Int)), am_RR kp)) (hq2 : ¬ (v_two (am_wv h 29) o n = true ∧ vQ (am_wv h 29) < 16 ∧ 1 ≤ q ∧ q ≤ 40 ∧ 0 ≤ e ∧ e ≤ 98) → Q (some (Sum.inl 0)) (am_SH L, h, am_RR kp)) : am_Wp d 31 0 [some (Sum.inr (Sum.inr 29)), some (Sum.inl o), some (Sum.inl n), some (Sum.inl q), some (Sum.inl e), some (Sum.inl g)] [] (am_SH L, h, am_RR kp) Q := by
  have hP := v_ok_P hv
  have hQ := v_ok_Q hv
  have eQ : vQ (am_wv h 29) = h 29 1 := rfl
  rw [bq_World_addPaper_v2_0 (by omega), sp_World_isPerson_29]
  simp only [Option.toList_some, Option.toList_none, List.cons_append, List.nil_append]
  rw [bq_World_addPaper_v2_5 (by omega)]
  cases e1 : v_isP (am_wv h 29) o
  · rw [if_pos am_bif, bq_World_addPaper_v2_30]
    exact hq2 (fun w => by have := w.1; unfold v_two at this; rw [e1] at this; exact absurd this (by simp))
  · rw [if_neg am_b0, sp_World_isPerson_29]
    simp only [Option.toList_some, Option.toList_none, List.cons_append, List.nil_append]
    rw [bq_World_addPaper_v2_13 (by omega)]
    cases e2 : v_isP (am_wv h 29) n
    · rw [if_pos am_bif, bq_World_addPaper_v2_30]
      exact hq2 (fun w => by have := w.1; unfold v_two at this; rw [e1, e2] at this; exact absurd this (by simp))
    · rw [if_neg am_b0]
      by_cases qq : o = n
      · rw [if_pos qq, bq_World_addPaper_v2_30]
        exact hq2 (fun w => (v_two_iff.1 w.1).2.2 qq)
      · have ht : v_two (am_wv h 29) o n = true := by unfold v_two; rw [e1, e2, decide_eq_false qq]; rfl
        rw [if_neg qq]
        obtain ⟨k, hk⟩ := Int.eq_ofNat_of_zero_le (show 0 ≤ h 29 1 from hQ.1)
        by_cases c1 : h 29 1 < 16 ∧ 1 ≤ q ∧ q ≤ 40 ∧ 0 ≤ e ∧ e ≤ 98
        · rw [if_pos c1.1, if_neg (by omega), if_neg (by omega), if_neg (by omega), if_pos (by omega)]
          rw [hk, sp_put_34, am_put_nat (by omega)]
          simp only [Option.toList_some, Option.toList_none, List.cons_append, List.nil_append]
          rw [bq_World_addPaper_v2_69 (by omega), show (am_up h 34 k o) 29 1 = (k : Int) from hk, sp_put_35, am_put_nat (by omega)]
          simp only [Option.toList_some, Option.toList_none, List.cons_append, List.nil_append]
          rw [bq_World_addPaper_v2_81 (by omega), show (am_up (am_up h 34 k o) 35 k n) 29 1 = (k : Int) from hk, sp_put_36, am_put_nat (by omega)]
          simp only [Option.toList_some, Option.toList_none, List.cons_append, List.nil_append]
          rw [bq_World_addPaper_v2_93 (by omega), show (am_up (am_up (am_up h 34 k o) 35 k n) 36 k q) 29 1 = (k : Int) from hk, sp_put_37, am_put_nat (by omega)]
          simp only [Option.toList_some, Option.toList_none, List.cons_append, List.nil_append]
          rw [bq_World_addPaper_v2_106 (by omega), show (am_up (am_up (am_up (am_up h 34 k o) 35 k n) 36 k q) 37 k e) 29 1 = (k : Int) from hk, sp_put_38, am_put_nat (by omega)]
          simp only [Option.toList_some, Option.toList_none, List.cons_append, List.nil_append]
          rw [bq_World_addPaper_v2_119 (by omega), show (am_up (am_up (am_up (am_up (am_up h 34 k o) 35 k n) 36 k q) 37 k e) 38 k g) 29 1 = (k : Int) from hk, sp_put_39, am_put_nat (by omega)]
          simp only [Option.toList_some, Option.toList_none, List.cons_append, List.nil_append]
          rw [bq_World_addPaper_v2_131, show (am_up (am_up (am_up (am_up (am_up (am_up h 34 k o) 35 k n) 36 k q) 37 k e) 38 k g) 39 k 0) 29 1 = (k : Int) from hk, am_incn (by omega)]
          exact hq1 k hk ⟨ht, by show h 29 1 < 16; omega, by omega, by omega, by omega, by omega⟩
        · have fin2 : Q (some (Sum.inl 0)) (am_SH L, h, am_RR kp) := hq2 (fun w => c1 ⟨by rw [← eQ]; exact w.2.1, w.2.2⟩)
          by_cases d1 : h 29 1 < 16
          · rw [if_pos d1]
            by_cases d2 : q < 1
            · rw [if_pos d2, bq_World_addPaper_v2_55]; exact fin2
            · rw [if_neg d2]
              by_cases d3 : 40 < q
              · rw [if_pos d3, bq_World_addPaper_v2_55]; exact fin2
              · rw [if_neg d3]
                by_cases d4 : e < 0
                · rw [if_pos d4, bq_World_addPaper_v2_55]; exact fin2
                · rw [if_neg d4, if_neg (by omega), bq_World_addPaper_v2_55]; exact fin2
          · rw [if_neg d1, bq_World_addPaper_v2_30]; exact fin2
theorem sp_World_makeOver_29 {d L kp : Nat} {h : Nat → Nat → Int} {Q : Option am_V → am_H → Prop} {i t : Int} (hd : 3 ≤ d) (hv : v_ok (am_wv h 29)) (hq1 : ∀ p : Nat, i = (p : Int) → p < 16 → v_take (am_wv h 29) i t = true → Q (some (Sum.inl 1)) (am_SH L, am_up (am_up h 35 p t) 39 p (if h 34 p = t then 2 else 0), am_RR kp)) (hq2 : v_take (am_wv h 29) i t = false → Q (some (Sum.inl 0)) (am_SH L, h, am_RR kp)) : am_Wp d 32 0 [some (Sum.inr (Sum.inr 29)), some (Sum.inl i), some (Sum.inl t)] [] (am_SH L, h, am_RR kp) Q := by
  rw [bq_World_makeOver_v2_0 (by omega), sp_World_canTake_29 (by omega)]
  simp only [Option.toList_some, Option.toList_none, List.cons_append, List.nil_append]
  rw [bq_World_makeOver_v2_6 (by omega)]
  cases e1 : v_take (am_wv h 29) i t
  · rw [if_pos am_bif]
    exact hq2 e1
  · rw [if_neg am_b0]
    obtain ⟨p, hp, h16, ho⟩ := v_take_o hv e1
    have ho2 : h 39 p = 0 := ho
    subst hp
    rw [sp_put_35, am_put_nat h16]
    simp only [Option.toList_some, Option.toList_none, List.cons_append, List.nil_append]
    rw [bq_World_makeOver_v2_20 (by omega), sp_at_34, am_lk_nat h16]
    simp only [Option.toList_some, Option.toList_none, List.cons_append, List.nil_append]
    rw [bq_World_makeOver_v2_28 (by omega), show am_up h 35 p t 34 p = h 34 p from rfl]
    have fin := hq1 p rfl h16 e1
    by_cases q : h 34 p = t
    · rw [if_pos q] at fin
      rw [if_pos q, sp_put_39, am_put_nat h16]
      simp only [Option.toList_some, Option.toList_none, List.cons_append, List.nil_append]
      rw [bq_World_makeOver_v2_41]
      exact fin
    · rw [if_neg q] at fin
      rw [if_neg q, bq_World_makeOver_v2_41]
      rw [am_up_id (h := am_up h 35 p t) (b := 39) (j := p) (v := 0) ho2.symm] at fin
      exact fin
theorem sp_World_addPerson_29 {d L kp : Nat} {h : Nat → Nat → Int} {Q : Option am_V → am_H → Prop} {x f : Int} (hd : 1 ≤ d) (hv : v_ok (am_wv h 29)) (hq1 : ∀ k : Nat, h 29 0 = (k : Int) → ((0 ≤ x ∧ x ≤ 5) ∧ (0 ≤ f ∧ f ≤ 9) ∧ vP (am_wv h 29) < 7) → Q (some (Sum.inl 1)) (am_SH L, (am_up (am_up (am_up (am_up (am_up h 30 k x) 31 k f) 32 k 0) 33 k 0) 29 0 ((k + 1 : Nat) : Int)), am_RR kp)) (hq2 : ¬ ((0 ≤ x ∧ x ≤ 5) ∧ (0 ≤ f ∧ f ≤ 9) ∧ vP (am_wv h 29) < 7) → Q (some (Sum.inl 0)) (am_SH L, h, am_RR kp)) : am_Wp d 27 0 [some (Sum.inr (Sum.inr 29)), some (Sum.inl x), some (Sum.inl f)] [] (am_SH L, h, am_RR kp) Q := by
  have hP := v_ok_P hv
  have eP : vP (am_wv h 29) = h 29 0 := rfl
  rw [bq_World_addPerson_0 (by omega)]
  obtain ⟨k, hk⟩ := Int.eq_ofNat_of_zero_le (show 0 ≤ h 29 0 from hP.1)
  by_cases c1 : ((0 ≤ x ∧ x ≤ 5) ∧ (0 ≤ f ∧ f ≤ 9) ∧ vP (am_wv h 29) < 7)
  · rw [if_neg (by omega), if_neg (by omega), if_neg (by omega), if_neg (by omega), if_pos (by omega)]
    rw [hk, sp_put_30, am_put_nat (by omega)]
    simp only [Option.toList_some, Option.toList_none, List.cons_append, List.nil_append]
    rw [bq_World_addPerson_42 (by omega), show (am_up h 30 k x) 29 0 = (k : Int) from hk, sp_put_31, am_put_nat (by omega)]
    simp only [Option.toList_some, Option.toList_none, List.cons_append, List.nil_append]
    rw [bq_World_addPerson_54 (by omega), show (am_up (am_up h 30 k x) 31 k f) 29 0 = (k : Int) from hk, sp_put_32, am_put_nat (by omega)]
    simp only [Option.toList_some, Option.toList_none, List.cons_append, List.nil_append]
    rw [bq_World_addPerson_66 (by omega), show (am_up (am_up (am_up h 30 k x) 31 k f) 32 k 0) 29 0 = (k : Int) from hk, sp_put_33, am_put_nat (by omega)]
    simp only [Option.toList_some, Option.toList_none, List.cons_append, List.nil_append]
    rw [bq_World_addPerson_78, show (am_up (am_up (am_up (am_up h 30 k x) 31 k f) 32 k 0) 33 k 0) 29 0 = (k : Int) from hk, am_incn (by omega)]
    exact hq1 k hk c1
  · have fin2 := hq2 c1
    by_cases d1 : x < 0
    · rw [if_pos d1, bq_World_addPerson_28]; exact fin2
    · rw [if_neg d1]
      by_cases d2 : 5 < x
      · rw [if_pos d2, bq_World_addPerson_28]; exact fin2
      · rw [if_neg d2]
        by_cases d3 : f < 0
        · rw [if_pos d3, bq_World_addPerson_28]; exact fin2
        · rw [if_neg d3]
          by_cases d4 : 9 < f
          · rw [if_pos d4, bq_World_addPerson_28]; exact fin2
          · rw [if_neg d4, if_neg (by omega), bq_World_addPerson_28]; exact fin2
theorem sp_M_paperComes {d L kp : Nat} {h : Nat → Nat → Int} {Q : Option am_V → am_H → Prop} {o n q e g : Int} {k : Nat} (hk : h 70 6 = (k : Int)) (h16 : k < 16) : am_Wp d 203 0 [some (Sum.inr (Sum.inr 70)), some (Sum.inl o), some (Sum.inl n), some (Sum.inl q), some (Sum.inl e), some (Sum.inl g)] [] (am_SH L, h, am_RR kp) Q = Q none (am_SH L, am_up (am_up (am_up (am_up (am_up (am_up (am_up h 75 k o) 76 k n) 77 k q) 78 k e) 79 k g) 80 k 0) 70 6 ((k + 1 : Nat) : Int), am_RR kp) := by
  rw [bq_M_paperComes_0]
  simp (disch := omega) only [am_upo, hk, am_gd, Int.toNat_natCast, am_incn]