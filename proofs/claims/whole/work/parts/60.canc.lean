/-! LOOPS FROM ANY PLACE; the ledger as read -/
theorem am_up_fr {a n : Nat} (P : Nat → Prop) (E : Prop) (han : a ≤ n) (h1 : ∀ k, a ≤ k → k < n → P k = P (k + 1)) (h2 : P n = E) : P a = E := by
  have key : ∀ m, a + m ≤ n → P a = P (a + m) := by
    intro m
    induction m with
    | zero => exact fun _ => rfl
    | succ m ih => exact fun hm => (ih (by omega)).trans (h1 (a + m) (by omega) (by omega))
  have h3 := key (n - a) (by omega)
  rw [show a + (n - a) = n by omega] at h3
  exact h3.trans h2
theorem am_dn_fr {J : Type} {a n : Nat} (P : Nat → J → Prop) (E : Prop) (han : a ≤ n) (h1 : ∀ k, a ≤ k → k < n → (∀ j, P (k + 1) j = E) → ∀ j, P k j = E) (h2 : ∀ j, P n j = E) : ∀ j, P a j = E := by
  have key : ∀ m k, k + m = n → a ≤ k → ∀ j, P k j = E := by
    intro m
    induction m with
    | zero => intro k hk _; rw [show k = n by omega]; exact h2
    | succ m ih => intro k hk ha; exact h1 k ha (by omega) (ih (k + 1) (by omega) (by omega))
  exact key (n - a) a (by omega) (Nat.le_refl a)
theorem am_im_fr {J : Type} {a n : Nat} (I : Nat → J → Prop) (P : Nat → J → Prop) (han : a ≤ n) (h1 : ∀ k j, a ≤ k → k < n → I k j → (∀ i, I (k + 1) i → P (k + 1) i) → P k j) (h2 : ∀ j, I n j → P n j) : ∀ j, I a j → P a j := by
  have key : ∀ m k, k + m = n → a ≤ k → ∀ j, I k j → P k j := by
    intro m
    induction m with
    | zero => intro k hk _; rw [show k = n by omega]; exact h2
    | succ m ih => intro k hk ha j hj; exact h1 k j ha (by omega) hj (ih (k + 1) (by omega) (by omega))
  exact key (n - a) a (by omega) (Nat.le_refl a)
theorem am_b0 : ¬ am_bi true = 0 := by decide
def am_led (h : Nat → Nat → Int) : Prop := h 42 2 = h 2 0 ∧ (∀ a b : Nat, a < 7 → b < 7 → h 43 (7 * a + b) = v_owes (am_wv h 2) (a : Int) (b : Int)) ∧ (∀ a : Nat, a < 7 → h 44 a = v_net (am_wv h 2) (a : Int))
theorem am_led_own {h : Nat → Nat → Int} (hl : am_led h) {i e : Int} (h0 : 0 ≤ i) (h1 : i < 7) (h2 : 0 ≤ e) (h3 : e < 7) : am_lk (h 43) 49 (am_add (am_mul 7 i) e) = v_owes (am_wv h 2) i e := by
  rw [am_mul_ok (by omega) (by omega), am_add_ok (by omega) (by omega), am_lk_in (by omega) (by omega)]
  obtain ⟨a, rfl⟩ := Int.eq_ofNat_of_zero_le h0
  obtain ⟨b, rfl⟩ := Int.eq_ofNat_of_zero_le h2
  have e : (7 * (a : Int) + (b : Int)).toNat = 7 * a + b := by omega
  rw [e, hl.2.1 a b (by omega) (by omega)]
theorem am_led_net {h : Nat → Nat → Int} (hl : am_led h) {i : Int} (h0 : 0 ≤ i) (h1 : i < 7) : am_lk (h 44) 7 i = v_net (am_wv h 2) i := by
  rw [am_lk_in (by omega) (by omega)]
  obtain ⟨a, rfl⟩ := Int.eq_ofNat_of_zero_le h0
  rw [Int.toNat_natCast, hl.2.2 a (by omega)]
theorem sp_Ledger_readI {d L kp : Nat} {h : Nat → Nat → Int} {Q : Option am_V → am_H → Prop} (hd : 3 ≤ d) (hv : v_ok (am_wv h 2)) (hq : ∀ g, am_keep h g → am_wv g 2 = am_wv h 2 → am_led g → Q none (am_SH L, g, am_RR kp)) : am_Wp d 71 0 [some (Sum.inr (Sum.inr 42)), some (Sum.inr (Sum.inr 2)), none, none, none] [] (am_SH L, h, am_RR kp) Q := by
  have hQ := wv_Q hv
  rw [sp_Ledger_read hd hv]
  refine hq _ (am_keep_led am_keep_r) rfl ⟨am_ledk_42, fun a b ha hb => ?_, fun a ha => ?_⟩
  · rw [am_ledk_43 (by omega)]
    have := v_owed_owes hv (a := (a : Int)) (b := (b : Int)) (by omega) (by omega) (by omega) (by omega)
    rw [show (7 * (a : Int) + (b : Int)).toNat = 7 * a + b by omega] at this
    exact this
  · rw [am_ledk_44 ha]
    have := v_net_nets hv (i := (a : Int)) (by omega)
    rw [Int.toNat_natCast] at this
    exact this
def v_can1 (V : am_Vw) (a n : Nat) : Int := am_sumb n (fun b => if a < b then am_min (v_owes V (a : Int) (b : Int)) (v_owes V (b : Int) (a : Int)) else 0)
def v_cans (V : am_Vw) (n : Nat) : Int := am_sumb n (fun a => v_can1 V a (vP V).toNat)
def a_cancels (V : am_Vw) : am_V × Nat := (Sum.inl (v_cans V (vP V).toNat), 0)
theorem am_min_le {x y B : Int} (h1 : 0 ≤ x ∧ x ≤ B) (h2 : 0 ≤ y ∧ y ≤ B) : 0 ≤ am_min x y ∧ am_min x y ≤ B := by
  unfold am_min; split <;> omega
theorem v_can1_le {V : am_Vw} (hv : v_ok V) {a n : Nat} (hn : n ≤ 7) : 0 ≤ v_can1 V a n ∧ v_can1 V a n ≤ 4480 := by
  have h1 := am_sumb_le (n := n) (g := fun b => if a < b then am_min (v_owes V (a : Int) (b : Int)) (v_owes V (b : Int) (a : Int)) else 0) (A := 0) (B := 640) (fun k hk => by
    have h2 := am_min_le (v_owes_le hv (a : Int) (k : Int)) (v_owes_le hv (k : Int) (a : Int))
    show 0 ≤ (if a < k then _ else (0 : Int)) ∧ (if a < k then _ else (0 : Int)) ≤ 640
    split <;> omega)
  unfold v_can1
  omega
theorem v_cans_le {V : am_Vw} (hv : v_ok V) {n : Nat} (hn : n ≤ 7) : 0 ≤ v_cans V n ∧ v_cans V n ≤ 31360 := by
  have hP := v_ok_P hv
  have h1 := am_sumb_le (n := n) (g := fun a => v_can1 V a (vP V).toNat) (A := 0) (B := 4480) (fun k hk => v_can1_le hv (by omega))
  unfold v_cans
  omega
theorem v_can1_0 {V : am_Vw} {a : Nat} : v_can1 V a (a + 1) = 0 := by
  unfold v_can1
  exact (am_sumb_eq (f := fun _ => 0) (fun k hk => if_neg (by omega))).trans am_sumb_0
theorem v_can1_s {V : am_Vw} {a b : Nat} (hb : a + 1 ≤ b) : v_can1 V a (b + 1) = v_can1 V a b + am_min (v_owes V (a : Int) (b : Int)) (v_owes V (b : Int) (a : Int)) := by
  show v_can1 V a b + (if a < b then _ else _) = _
  rw [if_pos (by omega)]
theorem v_cans_s {V : am_Vw} {a : Nat} : v_cans V (a + 1) = v_cans V a + v_can1 V a (vP V).toNat := rfl
theorem lp_KO_cancels_i {d L kp : Nat} {h : Nat → Nat → Int} {Q : Option am_V → am_H → Prop} {s : Int} {a : Nat} (hd : 4 ≤ d) (hv : v_ok (am_wv h 2)) (hl : am_led h) (ha : (a : Int) < h 2 0) (hs : 0 ≤ s ∧ s ≤ 100000) : am_Wp d 158 30 [some (Sum.inr (Sum.inr 1)), some (Sum.inl (s)), some (Sum.inl ((a : Int))), some (Sum.inl (((a + 1 : Nat) : Int)))] [] (am_SH L, h, am_RR kp) Q = am_Wp d 158 15 [some (Sum.inr (Sum.inr 1)), some (Sum.inl (s + v_can1 (am_wv h 2) a (h 2 0).toNat)), some (Sum.inl (((a + 1 : Nat) : Int))), some (Sum.inl ((((h 2 0).toNat : Nat) : Int)))] [] (am_SH L, h, am_RR kp) Q := by
  have hQ := wv_Q hv
  have hP := wv_P hv
  have hD := wv_D hv
  have e0 : s = s + v_can1 (am_wv h 2) a (a + 1) := by rw [v_can1_0]; omega
  refine Eq.trans ?_ (am_up_fr (a := a + 1) (n := (h 2 0).toNat) (fun b => am_Wp d 158 30 [some (Sum.inr (Sum.inr 1)), some (Sum.inl (s + v_can1 (am_wv h 2) a b)), some (Sum.inl ((a : Int))), some (Sum.inl ((b : Int)))] [] (am_SH L, h, am_RR kp) Q) _ (by omega) (fun b h1 h2 => ?_) ?_)
  · show _ = am_Wp d 158 30 [some (Sum.inr (Sum.inr 1)), some (Sum.inl (s + v_can1 (am_wv h 2) a (a + 1))), some (Sum.inl ((a : Int))), some (Sum.inl (((a + 1 : Nat) : Int)))] [] (am_SH L, h, am_RR kp) Q
    rw [← e0]
  · show am_Wp d 158 30 [some (Sum.inr (Sum.inr 1)), some (Sum.inl (s + v_can1 (am_wv h 2) a b)), some (Sum.inl ((a : Int))), some (Sum.inl ((b : Int)))] [] (am_SH L, h, am_RR kp) Q = am_Wp d 158 30 [some (Sum.inr (Sum.inr 1)), some (Sum.inl (s + v_can1 (am_wv h 2) a (b + 1))), some (Sum.inl ((a : Int))), some (Sum.inl (((b + 1 : Nat) : Int)))] [] (am_SH L, h, am_RR kp) Q
    have b1 := v_can1_le hv (a := a) (n := b) (by omega)
    have b2 := am_min_le (v_owes_le hv (a : Int) (b : Int)) (v_owes_le hv (b : Int) (a : Int))
    refine (bq_KO_cancels_30 (by omega)).trans ?_
    simp (disch := first | exact hv | omega) only [bq_KO_cancels_0, bq_KO_cancels_11, bq_KO_cancels_23, bq_KO_cancels_38, bq_KO_cancels_51, bq_KO_cancels_60, sp_Ledger_read, sp_World_people_2, sp_Ledger_owed, Option.toList_some, Option.toList_none, List.cons_append, List.nil_append, am_bi0, am_bi1, am_bft, true_and, reduceCtorEq, or_false, false_or, or_true, true_or, am_gd, am_incn, am_lk_nat, Int.toNat_natCast, ↓reduceIte, Int.reduceEq, am_led_own hl]
    rw [if_neg (by omega), v_can1_s h1, am_add_ok (by omega) (by omega), Int.add_assoc]
  · refine (bq_KO_cancels_30 (by omega)).trans ?_
    simp (disch := first | exact hv | omega) only [bq_KO_cancels_0, bq_KO_cancels_11, bq_KO_cancels_23, bq_KO_cancels_38, bq_KO_cancels_51, bq_KO_cancels_60, sp_Ledger_read, sp_World_people_2, sp_Ledger_owed, Option.toList_some, Option.toList_none, List.cons_append, List.nil_append, am_bi0, am_bi1, am_bft, true_and, reduceCtorEq, or_false, false_or, or_true, true_or, am_gd, am_incn, am_lk_nat, Int.toNat_natCast, ↓reduceIte, Int.reduceEq]
    rw [if_pos (by omega)]
theorem lp_KO_cancels {d L kp : Nat} {h : Nat → Nat → Int} {Q : Option am_V → am_H → Prop} (j : Option am_V) (hd : 4 ≤ d) (hv : v_ok (am_wv h 2)) (hl : am_led h) : am_Wp d 158 15 [some (Sum.inr (Sum.inr 1)), some (Sum.inl (v_cans (am_wv h 2) 0)), some (Sum.inl (0)), j] [] (am_SH L, h, am_RR kp) Q = Q (some (Sum.inl (v_cans (am_wv h 2) (h 2 0).toNat))) (am_SH L, h, am_RR kp) := by
  have hQ := wv_Q hv
  have hP := wv_P hv
  have hD := wv_D hv
  refine am_dn_eq (J := Option am_V) (n := (h 2 0).toNat) (fun a j => am_Wp d 158 15 [some (Sum.inr (Sum.inr 1)), some (Sum.inl (v_cans (am_wv h 2) a)), some (Sum.inl ((a : Int))), j] [] (am_SH L, h, am_RR kp) Q) (Q (some (Sum.inl (v_cans (am_wv h 2) (h 2 0).toNat))) (am_SH L, h, am_RR kp)) (fun a ha ih j => ?_) (fun j => ?_) j
  · have b1 := v_cans_le hv (n := a) (by omega)
    refine Eq.trans ?_ (ih (some (Sum.inl (((h 2 0).toNat : Nat) : Int))))
    refine (bq_KO_cancels_15 (by omega)).trans ?_
    simp (disch := first | exact hv | omega) only [bq_KO_cancels_0, bq_KO_cancels_11, bq_KO_cancels_23, bq_KO_cancels_38, bq_KO_cancels_51, bq_KO_cancels_60, sp_Ledger_read, sp_World_people_2, sp_Ledger_owed, Option.toList_some, Option.toList_none, List.cons_append, List.nil_append, am_bi0, am_bi1, am_bft, true_and, reduceCtorEq, or_false, false_or, or_true, true_or, am_gd, am_incn, am_lk_nat, Int.toNat_natCast, ↓reduceIte, Int.reduceEq]
    rw [if_neg (by omega), lp_KO_cancels_i (by omega) hv hl (by omega) (by omega), ← v_cans_s]
  · refine (bq_KO_cancels_15 (by omega)).trans ?_
    simp (disch := first | exact hv | omega) only [bq_KO_cancels_0, bq_KO_cancels_11, bq_KO_cancels_23, bq_KO_cancels_38, bq_KO_cancels_51, bq_KO_cancels_60, sp_Ledger_read, sp_World_people_2, sp_Ledger_owed, Option.toList_some, Option.toList_none, List.cons_append, List.nil_append, am_bi0, am_bi1, am_bft, true_and, reduceCtorEq, or_false, false_or, or_true, true_or, am_gd, am_incn, am_lk_nat, Int.toNat_natCast, ↓reduceIte, Int.reduceEq]
    rw [if_pos (by omega)]
theorem c_cancels {d L kp : Nat} {h : Nat → Nat → Int} (hd : 4 ≤ d) (hv : v_ok (am_wv h 2)) : am_An L 41 (a_cancels (am_wv h 2)) h (fun Q => am_Wp d 158 0 [some (Sum.inr (Sum.inr 1)), none, none, none] [] (am_SH L, h, am_RR kp) Q) := by
  intro Q hq
  show am_Wp d 158 0 [some (Sum.inr (Sum.inr 1)), none, none, none] [] (am_SH L, h, am_RR kp) Q
  rw [bq_KO_cancels_0 (by omega)]
  refine sp_Ledger_readI (by omega) hv (fun g hk hw hl => ?_)
  have h3 := hq g kp hk
  rw [← hw] at hv h3
  simp only [Option.toList_some, Option.toList_none, List.cons_append, List.nil_append]
  rw [bq_KO_cancels_11]
  exact (lp_KO_cancels none hd hv hl).mpr h3
theorem lp_M_cancels_i {d L kp : Nat} {h : Nat → Nat → Int} {Q : Option am_V → am_H → Prop} {s : Int} {a : Nat} (j : Option am_V × Option am_V) {E : Prop} (hd : 1 ≤ d) (hv : v_ok (am_mv h)) (ha : (a : Int) < h 70 0) (hs : 0 ≤ s ∧ s ≤ 100000) (hE : ∀ j : Option am_V × Option am_V × Option am_V, am_Wp d 277 9 [some (Sum.inr (Sum.inr 70)), some (Sum.inl (s + v_can1 (am_mv h) a (h 70 0).toNat)), some (Sum.inl (((a + 1 : Nat) : Int))), j.1, j.2.1, j.2.2] [] (am_SH L, h, am_RR kp) Q = E) : am_Wp d 277 21 [some (Sum.inr (Sum.inr 70)), some (Sum.inl (s)), some (Sum.inl ((a : Int))), some (Sum.inl (((a + 1 : Nat) : Int))), j.1, j.2] [] (am_SH L, h, am_RR kp) Q = E := by
  have hQ := mv_Q hv
  have hP := mv_P hv
  have hD := mv_D hv
  have e0 : s = s + v_can1 (am_mv h) a (a + 1) := by rw [v_can1_0]; omega
  have key := am_dn_fr (J := Option am_V × Option am_V) (a := a + 1) (n := (h 70 0).toNat) (fun b j => am_Wp d 277 21 [some (Sum.inr (Sum.inr 70)), some (Sum.inl (s + v_can1 (am_mv h) a b)), some (Sum.inl ((a : Int))), some (Sum.inl ((b : Int))), j.1, j.2] [] (am_SH L, h, am_RR kp) Q) E (by omega) (fun b h1 h2 ih j => ?_) (fun j => ?_) j
  · have key2 : am_Wp d 277 21 [some (Sum.inr (Sum.inr 70)), some (Sum.inl (s + v_can1 (am_mv h) a (a + 1))), some (Sum.inl ((a : Int))), some (Sum.inl (((a + 1 : Nat) : Int))), j.1, j.2] [] (am_SH L, h, am_RR kp) Q = E := key
    rw [← e0] at key2
    exact key2
  · have b1 := v_can1_le hv (a := a) (n := b) (by omega)
    have b2 := am_min_le (v_owes_le hv (a : Int) (b : Int)) (v_owes_le hv (b : Int) (a : Int))
    have em : am_min (v_owes (am_mv h) (a : Int) (b : Int)) (v_owes (am_mv h) (b : Int) (a : Int)) = if v_owes (am_mv h) (b : Int) (a : Int) < v_owes (am_mv h) (a : Int) (b : Int) then v_owes (am_mv h) (b : Int) (a : Int) else v_owes (am_mv h) (a : Int) (b : Int) := rfl
    have es := v_can1_s (V := (am_mv h)) (a := a) (b := b) h1
    refine Eq.trans ?_ (ih (some (Sum.inl (v_owes (am_mv h) (a : Int) (b : Int))), some (Sum.inl (v_owes (am_mv h) (b : Int) (a : Int)))))
    refine (bq_M_cancels_21 (by omega)).trans ?_
    simp (disch := first | exact hv | omega) only [bq_M_cancels_0, bq_M_cancels_35, bq_M_cancels_43, bq_M_cancels_60, sp_M_owesOf, Option.toList_some, Option.toList_none, List.cons_append, List.nil_append, am_bi0, am_bi1, am_bft, true_and, reduceCtorEq, or_false, false_or, or_true, true_or, am_gd, am_incn, am_lk_nat, Int.toNat_natCast, ↓reduceIte, Int.reduceEq]
    rw [if_neg (by omega)]
    by_cases q1 : v_owes (am_mv h) (b : Int) (a : Int) < v_owes (am_mv h) (a : Int) (b : Int)
    · rw [if_pos q1] at em
      rw [if_pos (by omega), am_add_ok (by omega) (by omega), es, em, Int.add_assoc]
    · rw [if_neg q1] at em
      by_cases q2 : v_owes (am_mv h) (b : Int) (a : Int) ≤ v_owes (am_mv h) (a : Int) (b : Int)
      · rw [if_pos q2, am_add_ok (by omega) (by omega), es, em, show v_owes (am_mv h) (b : Int) (a : Int) = v_owes (am_mv h) (a : Int) (b : Int) by omega, Int.add_assoc]
      · rw [if_neg q2, am_add_ok (by omega) (by omega), es, em, Int.add_assoc]
  · refine (bq_M_cancels_21 (by omega)).trans ?_
    simp (disch := first | exact hv | omega) only [bq_M_cancels_0, bq_M_cancels_35, bq_M_cancels_43, bq_M_cancels_60, sp_M_owesOf, Option.toList_some, Option.toList_none, List.cons_append, List.nil_append, am_bi0, am_bi1, am_bft, true_and, reduceCtorEq, or_false, false_or, or_true, true_or, am_gd, am_incn, am_lk_nat, Int.toNat_natCast, ↓reduceIte, Int.reduceEq]
    rw [if_pos (by omega)]
    exact hE (some (Sum.inl (((h 70 0).toNat : Nat) : Int)), j.1, j.2)
theorem lp_M_cancels {d L kp : Nat} {h : Nat → Nat → Int} {Q : Option am_V → am_H → Prop} (j : Option am_V × Option am_V × Option am_V) (hd : 1 ≤ d) (hv : v_ok (am_mv h)) : am_Wp d 277 9 [some (Sum.inr (Sum.inr 70)), some (Sum.inl (v_cans (am_mv h) 0)), some (Sum.inl (0)), j.1, j.2.1, j.2.2] [] (am_SH L, h, am_RR kp) Q = Q (some (Sum.inl (v_cans (am_mv h) (h 70 0).toNat))) (am_SH L, h, am_RR kp) := by
  have hQ := mv_Q hv
  have hP := mv_P hv
  have hD := mv_D hv
  refine am_dn_eq (J := Option am_V × Option am_V × Option am_V) (n := (h 70 0).toNat) (fun a j => am_Wp d 277 9 [some (Sum.inr (Sum.inr 70)), some (Sum.inl (v_cans (am_mv h) a)), some (Sum.inl ((a : Int))), j.1, j.2.1, j.2.2] [] (am_SH L, h, am_RR kp) Q) (Q (some (Sum.inl (v_cans (am_mv h) (h 70 0).toNat))) (am_SH L, h, am_RR kp)) (fun a ha ih j => ?_) (fun j => ?_) j
  · have b1 := v_cans_le hv (n := a) (by omega)
    refine (bq_M_cancels_9).trans ?_
    simp (disch := first | exact hv | omega) only [bq_M_cancels_0, bq_M_cancels_35, bq_M_cancels_43, bq_M_cancels_60, sp_M_owesOf, Option.toList_some, Option.toList_none, List.cons_append, List.nil_append, am_bi0, am_bi1, am_bft, true_and, reduceCtorEq, or_false, false_or, or_true, true_or, am_gd, am_incn, am_lk_nat, Int.toNat_natCast, ↓reduceIte, Int.reduceEq]
    rw [if_neg (by omega)]
    exact lp_M_cancels_i (j.2.1, j.2.2) (by omega) hv (by omega) (by omega) ih
  · refine (bq_M_cancels_9).trans ?_
    rw [if_pos (by omega)]
theorem m_cancels {d L kp : Nat} {h : Nat → Nat → Int} (hd : 1 ≤ d) (hv : v_ok (am_mv h)) : am_An L 81 (a_cancels (am_mv h)) h (fun Q => am_Wp d 277 0 [some (Sum.inr (Sum.inr 70)), none, none, none, none, none] [] (am_SH L, h, am_RR kp) Q) := by
  have hQ := mv_Q hv
  have hP := mv_P hv
  have hD := mv_D hv
  intro Q hq
  have hq2 : Q (some (a_cancels (am_mv h)).1) (am_SH L, am_bump 81 (a_cancels (am_mv h)).2 (am_up h 70 13 0), am_RR kp) := hq _ kp (am_keep_up rfl am_keep_r)
  clear hq
  have hv2 : v_ok (am_mv (am_up h 70 13 0)) := hv
  try rw [show am_mv h = am_mv (am_up h 70 13 0) from rfl] at hq2
  show am_Wp d 277 0 [some (Sum.inr (Sum.inr 70)), none, none, none, none, none] [] (am_SH L, h, am_RR kp) Q
  refine (show _ = _ from bq_M_cancels_0 ).mpr ?_
  clear hv hQ hP hD
  generalize am_up h 70 13 0 = g at hq2 hv2 ⊢
  have hv := hv2
  have hQ := mv_Q hv
  have hP := mv_P hv
  have hD := mv_D hv
  unfold a_cancels at hq2
  try simp (disch := first | exact hv | omega) only [bq_M_cancels_0, bq_M_cancels_35, bq_M_cancels_43, bq_M_cancels_60, sp_M_owesOf, lp_M_cancels, Option.toList_some, Option.toList_none, List.cons_append, List.nil_append, am_bi0, am_bi1, am_bft, true_and, reduceCtorEq, or_false, false_or, or_true, true_or, am_gd, am_incn, am_lk_nat, Int.toNat_natCast, ↓reduceIte, Int.reduceEq, Int.reduceAdd, Int.reduceNeg, Int.reduceToNat]
  exact (lp_M_cancels (none, none, none) hd hv).mpr hq2
