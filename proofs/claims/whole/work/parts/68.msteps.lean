/-! STEPS, and the calls through, chain, comesIn, stands of the reference -/
theorem m_through {d L kp : Nat} {h : Nat → Nat → Int} {i : Int} (hd : 4 ≤ d) (hv : v_ok (am_mv h)) : am_An L 81 (a_through (am_mv h) i) h (fun Q => am_Wp d 231 0 [some (Sum.inr (Sum.inr 70)), some (Sum.inl i)] [] (am_SH L, h, am_RR kp) Q) := by
  have hQ := mv_Q hv
  have hP := mv_P hv
  have hD := mv_D hv
  intro Q hq
  have hq2 : ∀ g' kq, am_keep (am_up h 70 13 0) g' → Q (some (a_through (am_mv h) i).1) (am_SH L, am_bump 81 (a_through (am_mv h) i).2 g', am_RR kq) := fun g' kq hk => hq g' kq (am_keep_t (am_keep_up rfl am_keep_r) hk)
  clear hq
  have hv2 : v_ok (am_mv (am_up h 70 13 0)) := hv
  try rw [show am_mv h = am_mv (am_up h 70 13 0) from rfl] at hq2
  show am_Wp d 231 0 [some (Sum.inr (Sum.inr 70)), some (Sum.inl i)] [] (am_SH L, h, am_RR kp) Q
  refine (show _ = _ from bq_M_through_0 (by omega)).mpr ?_
  clear hv hQ hP hD
  generalize am_up h 70 13 0 = g at hq2 hv2 ⊢
  have hv := hv2
  have hQ := mv_Q hv2
  have hP := mv_P hv
  have hD := mv_D hv
  have e0 : decide (0 ≤ i ∧ i ≤ 1) = true → (i = 0 ∨ i = 1) := fun w => by have := of_decide_eq_true w; omega
  rw [sp_M_in]
  simp only [Option.toList_some, Option.toList_none, List.cons_append, List.nil_append]
  rw [bq_M_through_12 (by omega)]
  cases hi : decide (0 ≤ i ∧ i ≤ 1) with
  | false =>
    have hi2 := of_decide_eq_false hi
    have h3 := hq2 g kp am_keep_r
    unfold a_through at h3
    rw [if_neg (by omega), if_neg (by omega)] at h3
    rw [if_pos am_bif, sp_M_refuse (by omega) (by omega)]
    simp only [Option.toList_some, Option.toList_none, List.cons_append, List.nil_append]
    rw [bq_M_through_21]
    exact h3
  | true =>
    rw [if_neg am_b0]
    refine sp_M_settle (by omega) hv (fun f k1 k2 k3 k4 k5 => ?_)
    have h3 := hq2 f kp k1
    simp only [Option.toList_some, Option.toList_none, List.cons_append, List.nil_append]
    rw [bq_M_through_26, bq_M_through_41, bq_M_through_41, k4, k5]
    unfold a_through at h3
    rcases e0 hi with rfl | rfl
    · rw [if_pos rfl] at h3 ⊢
      exact h3
    · rw [if_neg (by omega), if_pos rfl] at h3
      rw [if_neg (by omega)]
      exact h3
/-- what the steps from a0 are behind k rounds, those below a done once more, and of a those below e -/
def an_sp (fm : Nat → Nat) (n a0 k a e : Nat) (c : Nat → Int) : Prop := (∀ b, b < n → 0 ≤ c b ∧ c b ≤ 99) ∧ (∀ b, b < n → c b < 99 → am_in fm n a0 (c b).toNat b) ∧ (∀ b r, b < n → r ≤ k → am_in fm n a0 r b → c b ≤ (r : Int)) ∧ (∀ x b, x < n → b < n → x < a ∨ (x = a ∧ b < e) → am_in fm n a0 k x → Nat.testBit (fm x) b = true → c b ≤ (k : Int) + 1)
theorem an_sp_e {fm : Nat → Nat} {n a0 k a e : Nat} {c : Nat → Int} (ha : a < n) (he : e < n) (hk : k < 90) (hc : an_sp fm n a0 k a e c) : an_sp fm n a0 k a (e + 1) (if Nat.testBit (fm a) e = true ∧ c a + 1 < c e then am_sx c e (c a + 1) else c) := by
  obtain ⟨h1, h2, h3, h4⟩ := hc
  by_cases hx : Nat.testBit (fm a) e = true ∧ c a + 1 < c e
  · rw [if_pos hx]
    have b0 := h1 a ha
    have b1 := h1 e he
    have es : ∀ b, am_sx c e (c a + 1) b = if b = e then c a + 1 else c b := fun b => rfl
    refine ⟨fun b hb => ?_, fun b hb hb2 => ?_, fun b r hb hr hin => ?_, fun x b hx1 hb hxa hin htb => ?_⟩
    · rw [es]
      have := h1 b hb
      by_cases q : b = e
      · rw [if_pos q]; omega
      · rw [if_neg q]; exact this
    · rw [es] at hb2 ⊢
      by_cases q : b = e
      · rw [if_pos q, q, show (c a + 1).toNat = (c a).toNat + 1 by omega]
        exact am_in_s.2 (Or.inr ⟨a, ha, h2 a ha (by omega), hx.1⟩)
      · rw [if_neg q] at hb2 ⊢
        exact h2 b hb hb2
    · rw [es]
      have := h3 b r hb hr hin
      by_cases q : b = e
      · rw [if_pos q]; rw [q] at this; omega
      · rw [if_neg q]; exact this
    · rw [es]
      by_cases q : b = e
      · rw [if_pos q]
        by_cases q2 : x = a
        · have := h3 a k ha (Nat.le_refl k) (by rw [← q2]; exact hin)
          omega
        · have := h4 x b hx1 hb (by omega) hin htb
          rw [q] at this; omega
      · rw [if_neg q]
        exact h4 x b hx1 hb (by omega) hin htb
  · rw [if_neg hx]
    refine ⟨h1, h2, h3, fun x b hx1 hb hxa hin htb => ?_⟩
    by_cases q : x = a ∧ b = e
    · have h5 := h3 a k ha (Nat.le_refl k) (by rw [← q.1]; exact hin)
      rw [q.2]
      rw [q.1, q.2] at htb
      have h6 : ¬ c a + 1 < c e := fun w => hx ⟨htb, w⟩
      omega
    · exact h4 x b hx1 hb (by omega) hin htb
theorem an_sp_a {fm : Nat → Nat} {n a0 k a : Nat} {c : Nat → Int} (hc : an_sp fm n a0 k a n c) : an_sp fm n a0 k (a + 1) 0 c :=
  ⟨hc.1, hc.2.1, hc.2.2.1, fun x b hx hb hxa => hc.2.2.2 x b hx hb (by omega)⟩
theorem an_sp_k {fm : Nat → Nat} {n a0 k : Nat} {c : Nat → Int} (hc : an_sp fm n a0 k n 0 c) : an_sp fm n a0 (k + 1) 0 0 c := by
  obtain ⟨h1, h2, h3, h4⟩ := hc
  refine ⟨h1, h2, fun b r hb hr hin => ?_, fun x b hx hb hxa => absurd hxa (by omega)⟩
  by_cases q : r ≤ k
  · exact h3 b r hb q hin
  · rw [show r = k + 1 by omega] at hin ⊢
    rcases am_in_s.1 hin with h5 | ⟨x, h5, h6, h7⟩
    · have := h3 b k hb (Nat.le_refl k) h5
      omega
    · have := h4 x b h5 hb (Or.inl h5) h6 h7
      omega
/-- the steps told, and the first ball that meets a set -/
theorem an_sp_far {fm : Nat → Nat} {n a0 : Nat} {c : Nat → Int} (hn : n < 90) (ha : a0 < n) (hf : ∀ c, c < n → fm c < 2 ^ n) (hc : an_sp fm n a0 n 0 0 c) {b : Nat} (hb : b < n) : (if c b < 99 then c b else -9) = v_oi (am_fst (fun r => decide (¬ (am_bm fm n a0 r &&& 2 ^ b) = 0)) (n + 1) 0) := by
  obtain ⟨h1, h2, h3, h4⟩ := hc
  have hb1 := h1 b hb
  have ht : ∀ r, decide (¬ (am_bm fm n a0 r &&& 2 ^ b) = 0) = Nat.testBit (am_bm fm n a0 r) b := fun r => by
    cases q : Nat.testBit (am_bm fm n a0 r) b with
    | true =>
      refine decide_eq_true (fun w => ?_)
      have h5 := congrArg (fun z => Nat.testBit z b) w
      simp only [Nat.testBit_and, q, Nat.testBit_two_pow, decide_true, Bool.and_true, Nat.zero_testBit] at h5
      cases h5
    | false =>
      refine decide_eq_false (not_not_intro ?_)
      apply Nat.eq_of_testBit_eq
      intro i
      rw [Nat.testBit_and, Nat.testBit_two_pow, Nat.zero_testBit]
      by_cases h5 : b = i
      · rw [← h5, q]; rfl
      · rw [decide_eq_false h5, Bool.and_false]
  rw [am_fst_ext (e := fun r => Nat.testBit (am_bm fm n a0 r) b) 0 (fun r _ _ => ht r)]
  cases hq : am_fst (fun r => Nat.testBit (am_bm fm n a0 r) b) (n + 1) 0 with
  | none =>
    have h5 := am_fst_none hq
    rw [if_neg (fun w => ?_)]
    · rfl
    · have h6 := am_in_st ha hf (h2 b hb w)
      have h7 := h5 n (by omega) (by omega)
      unfold am_in at h6
      rw [h6] at h7; cases h7
  | some r =>
    have h5 := am_fst_some hq
    have h6 := h3 b r hb (by omega) h5.2.1
    by_cases h8 : c b < 99
    · rw [if_pos h8]
      show c b = (r : Int)
      have h9 := h2 b hb h8
      by_cases h10 : c b = (r : Int)
      · exact h10
      · have h11 := h5.2.2 (c b).toNat (by omega) (by omega)
        unfold am_in at h9
        rw [h9] at h11; cases h11
    · have := h5.1.2
      omega