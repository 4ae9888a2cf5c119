/-! keep, keepTurn; go, over OF BOTH -/
def c_kp (p f : Int) (h : Nat → Nat → Int) : Nat → Nat → Int := am_up (am_up (am_up (am_up h 24 2 (t_o1 (h 24 2).toNat (h 24 3).toNat : Int)) 25 ((t_o1 (h 24 2).toNat (h 24 3).toNat + t_n1 (h 24 3).toNat) % 8) p) 26 ((t_o1 (h 24 2).toNat (h 24 3).toNat + t_n1 (h 24 3).toNat) % 8) f) 24 3 ((t_n1 (h 24 3).toNat + 1 : Nat) : Int)
theorem sp_Past_keep {d L kp : Nat} {h : Nat → Nat → Int} {Q : Option am_V → am_H → Prop} {p f : Int} {o n : Nat} (hd : 1 ≤ d) (ho : h 24 2 = (o : Int)) (hn : h 24 3 = (n : Int)) (h8 : o < 8) (hn8 : n ≤ 8) : am_Wp d 63 0 [some (Sum.inr (Sum.inr 24)), some (Sum.inl p), some (Sum.inl f), none] [] (am_SH L, h, am_RR kp) Q = Q none (am_SH L, c_kp p f h, am_RR kp) := by
  have key : ∀ (g : Nat → Nat → Int) (o n : Nat), g 24 2 = (o : Int) → g 24 3 = (n : Int) → o < 8 → n ≤ 7 → am_Wp d 63 32 [some (Sum.inr (Sum.inr 24)), some (Sum.inl (p)), some (Sum.inl (f)), none] [] (am_SH L, g, am_RR kp) Q = Q none (am_SH L, am_up (am_up (am_up g 25 ((o + n) % 8) p) 26 ((o + n) % 8) f) 24 3 ((n + 1 : Nat) : Int), am_RR kp) := fun g o n h1 h2 h3 h4 => by
    have e : am_rem (am_add (g 24 2) (g 24 3)) 8 = (((o + n) % 8 : Nat) : Int) := by
      rw [h1, h2, am_add_ok (by omega) (by omega), am_rem_ok (by omega) (by omega) (by omega) (by omega)]; omega
    have e2 : (o + n) % 8 < 8 := Nat.mod_lt _ (by omega)
    rw [bq_Past_keep_32 (by omega), e, sp_put_25, am_put_nat e2]
    simp only [Option.toList_some, Option.toList_none, List.cons_append, List.nil_append]
    rw [bq_Past_keep_54 (by omega), sp_put_26, am_put_nat e2]
    simp only [Option.toList_some, Option.toList_none, List.cons_append, List.nil_append]
    rw [bq_Past_keep_63, show am_up (am_up g 25 ((o + n) % 8) p) 26 ((o + n) % 8) f 24 3 = (n : Int) from h2, am_incn (by omega)]
  rw [bq_Past_keep_0, hn]
  unfold c_kp
  rw [ho, hn, Int.toNat_natCast, Int.toNat_natCast]
  by_cases q : n = 8
  · subst q
    rw [if_neg (by omega)]
    have e1 : am_rem (am_add (h 24 2) 1) 8 = (((o + 1) % 8 : Nat) : Int) := by
      rw [ho, am_add_ok (by omega) (by omega), am_rem_ok (by omega) (by omega) (by omega) (by omega)]; omega
    rw [← ho, e1, show am_sub (am_up h 24 2 (((o + 1) % 8 : Nat) : Int) 24 3) 1 = ((7 : Nat) : Int) by
      rw [show am_up h 24 2 (((o + 1) % 8 : Nat) : Int) 24 3 = (8 : Int) from hn, am_sub_ok (by omega) (by omega)]; rfl]
    rw [key _ ((o + 1) % 8) 7 rfl rfl (Nat.mod_lt _ (by omega)) (by omega)]
    have e2 : t_o1 o 8 = (o + 1) % 8 := rfl
    have e3 : t_n1 8 = 7 := rfl
    rw [e2, e3]
    have e4 : am_up (am_up (am_up (am_up (am_up h 24 2 (((o + 1) % 8 : Nat) : Int)) 24 3 ((7 : Nat) : Int)) 25 (((o + 1) % 8 + 7) % 8) p) 26 (((o + 1) % 8 + 7) % 8) f) 24 3 ((7 + 1 : Nat) : Int) = am_up (am_up (am_up (am_up h 24 2 (((o + 1) % 8 : Nat) : Int)) 25 (((o + 1) % 8 + 7) % 8) p) 26 (((o + 1) % 8 + 7) % 8) f) 24 3 ((7 + 1 : Nat) : Int) := by
      funext a j
      unfold am_up
      by_cases q1 : a = 24
      · subst q1
        by_cases q2 : j = 3
        · subst q2; rfl
        · simp only [if_neg q2, ↓reduceIte]
      · simp only [if_neg q1]
    rw [e4]
  · rw [if_pos (by omega), key h o n ho hn h8 (by omega)]
    have e2 : t_o1 o n = o := if_neg q
    have e3 : t_n1 n = n := if_neg q
    rw [e2, e3, am_up_id (h := h) (b := 24) (j := 2) ho.symm]
theorem c_S_kp {h : Nat → Nat → Int} {p f : Int} : c_S (c_kp p f h) = (am_wv h 2, (am_wv h 13, am_wv h 29), h 1 2, am_sx (h 25) ((t_o1 (h 24 2).toNat (h 24 3).toNat + t_n1 (h 24 3).toNat) % 8) p, am_sx (h 26) ((t_o1 (h 24 2).toNat (h 24 3).toNat + t_n1 (h 24 3).toNat) % 8) f, (t_o1 (h 24 2).toNat (h 24 3).toNat : Int), ((t_n1 (h 24 3).toNat + 1 : Nat) : Int), h 28, h 27 1, h 40, h 1 6, h 41) := rfl
def m_kt (h : Nat → Nat → Int) : Nat → Nat → Int := fun b j => if b = 88 then t_keep (h 88) (h 70 31).toNat (am_car h) j else if b = 70 ∧ j = 31 then ((t_n1 (h 70 31).toNat + 1 : Nat) : Int) else h b j
theorem m_S_kt {h : Nat → Nat → Int} : m_S (m_kt h) = (am_mv h, h 70 25, h 87, t_keep (h 88) (h 70 31).toNat (am_car h), ((t_n1 (h 70 31).toNat + 1 : Nat) : Int), h 82, h 70 16, h 98, h 70 46, h 81) := rfl
def m_shk (h : Nat → Nat → Int) (k : Nat) : Nat → Nat → Int := fun b j => if b = 88 ∧ j + 127 < k then h 88 (j + 127) else h b j
def m_cpk (h : Nat → Nat → Int) (s k : Nat) : Nat → Nat → Int := fun b j => if b = 88 ∧ s ≤ j ∧ j < s + k then h 89 (j - s) else h b j
theorem m_shk_s {h : Nat → Nat → Int} {k : Nat} (hk : 127 ≤ k) : am_up (m_shk h k) 88 (k - 127) (m_shk h k 88 k) = m_shk h (k + 1) := by
  funext b j
  unfold am_up m_shk
  rw [if_neg (show ¬ ((88 : Nat) = 88 ∧ k + 127 < k) by omega)]
  by_cases q : b = 88
  · subst q
    rw [if_pos rfl]
    by_cases q2 : j = k - 127
    · rw [if_pos q2, if_pos ⟨rfl, by omega⟩]
      exact congrArg (h 88) (by omega)
    · rw [if_neg q2]
      by_cases q3 : j + 127 < k
      · rw [if_pos ⟨rfl, q3⟩, if_pos ⟨rfl, by omega⟩]
      · rw [if_neg (by omega), if_neg (by omega)]
  · rw [if_neg q, if_neg (fun w => q w.1), if_neg (fun w => q w.1)]
theorem m_cpk_s {h : Nat → Nat → Int} {s k : Nat} : am_up (m_cpk h s k) 88 (s + k) (m_cpk h s k 89 k) = m_cpk h s (k + 1) := by
  funext b j
  unfold am_up m_cpk
  rw [if_neg (show ¬ ((89 : Nat) = 88 ∧ s ≤ k ∧ k < s + k) by omega)]
  by_cases q : b = 88
  · subst q
    rw [if_pos rfl]
    by_cases q2 : j = s + k
    · rw [if_pos q2, if_pos ⟨rfl, by omega, by omega⟩]
      exact congrArg (h 89) (by omega)
    · rw [if_neg q2]
      by_cases q3 : s ≤ j ∧ j < s + k
      · rw [if_pos ⟨rfl, q3⟩, if_pos ⟨rfl, q3.1, by omega⟩]
      · rw [if_neg (by omega), if_neg (by omega)]
  · rw [if_neg q, if_neg (fun w => q w.1), if_neg (fun w => q w.1)]
theorem lp_M_kt_12 {d L kp : Nat} {h : Nat → Nat → Int} {Q : Option am_V → am_H → Prop} {E : Prop} (hE : am_Wp d 221 12 [some (Sum.inr (Sum.inr 70)), some (Sum.inl (((1016 : Nat) : Int)))] [] (am_SH L, m_shk h 1016, am_RR kp) Q = E) : am_Wp d 221 12 [some (Sum.inr (Sum.inr 70)), some (Sum.inl (127))] [] (am_SH L, h, am_RR kp) Q = E := by
  have h0 : m_shk h 127 = h := by
    funext b j
    unfold m_shk
    exact if_neg (by omega)
  have key := am_up_fr (a := 127) (n := 1016) (fun k => am_Wp d 221 12 [some (Sum.inr (Sum.inr 70)), some (Sum.inl ((k : Int)))] [] (am_SH L, m_shk h k, am_RR kp) Q) E (by omega) (fun k h1 h2 => ?_) hE
  · have key2 : am_Wp d 221 12 [some (Sum.inr (Sum.inr 70)), some (Sum.inl (((127 : Nat) : Int)))] [] (am_SH L, m_shk h 127, am_RR kp) Q = E := key
    rw [h0] at key2
    exact key2
  · show am_Wp d 221 12 [some (Sum.inr (Sum.inr 70)), some (Sum.inl ((k : Int)))] [] (am_SH L, m_shk h k, am_RR kp) Q = am_Wp d 221 12 [some (Sum.inr (Sum.inr 70)), some (Sum.inl (((k + 1 : Nat) : Int)))] [] (am_SH L, m_shk h (k + 1), am_RR kp) Q
    refine (bq_M_keepTurn_12).trans ?_
    have e : am_sub (k : Int) 127 = ((k - 127 : Nat) : Int) := by rw [am_sub_ok (by omega) (by omega)]; omega
    rw [if_neg (by omega), am_gd (by omega) (by omega), e, am_gd (by omega) (by omega), Int.toNat_natCast, Int.toNat_natCast, m_shk_s h1, am_incn (by omega)]
theorem lp_M_kt_61 {d L kp : Nat} {h : Nat → Nat → Int} {Q : Option am_V → am_H → Prop} {n : Nat} (hn : n ≤ 7) (h31 : h 70 31 = (n : Int)) : am_Wp d 221 61 [some (Sum.inr (Sum.inr 70)), some (Sum.inl (0))] [] (am_SH L, h, am_RR kp) Q = Q none (am_SH L, am_up (m_cpk h (127 * n) 127) 70 31 ((n + 1 : Nat) : Int), am_RR kp) := by
  have h0 : m_cpk h (127 * n) 0 = h := by
    funext b j
    unfold m_cpk
    exact if_neg (by omega)
  have e31 : ∀ k, m_cpk h (127 * n) k 70 31 = (n : Int) := fun k => h31
  have key := am_up_fr (a := 0) (n := 127) (fun k => am_Wp d 221 61 [some (Sum.inr (Sum.inr 70)), some (Sum.inl ((k : Int)))] [] (am_SH L, m_cpk h (127 * n) k, am_RR kp) Q) (Q none (am_SH L, am_up (m_cpk h (127 * n) 127) 70 31 ((n + 1 : Nat) : Int), am_RR kp)) (by omega) (fun k h1 h2 => ?_) ?_
  · have key2 : am_Wp d 221 61 [some (Sum.inr (Sum.inr 70)), some (Sum.inl (0))] [] (am_SH L, m_cpk h (127 * n) 0, am_RR kp) Q = _ := key
    rw [h0] at key2
    exact key2
  · show am_Wp d 221 61 [some (Sum.inr (Sum.inr 70)), some (Sum.inl ((k : Int)))] [] (am_SH L, m_cpk h (127 * n) k, am_RR kp) Q = am_Wp d 221 61 [some (Sum.inr (Sum.inr 70)), some (Sum.inl (((k + 1 : Nat) : Int)))] [] (am_SH L, m_cpk h (127 * n) (k + 1), am_RR kp) Q
    refine (bq_M_keepTurn_61).trans ?_
    have e : am_add (am_mul 127 (n : Int)) (k : Int) = ((127 * n + k : Nat) : Int) := by
      rw [am_mul_ok (by omega) (by omega), am_add_ok (by omega) (by omega)]; omega
    rw [if_neg (by omega), am_gd (by omega) (by omega), e31, e, am_gd (by omega) (by omega), Int.toNat_natCast, Int.toNat_natCast, m_cpk_s, am_incn (by omega)]
  · show am_Wp d 221 61 [some (Sum.inr (Sum.inr 70)), some (Sum.inl (((127 : Nat) : Int)))] [] (am_SH L, m_cpk h (127 * n) 127, am_RR kp) Q = _
    refine (bq_M_keepTurn_61).trans ?_
    rw [if_pos (by omega), e31, am_incn (by omega)]
theorem sp_M_keepTurn {d L kp : Nat} {h : Nat → Nat → Int} {Q : Option am_V → am_H → Prop} {n : Nat} (hd : 2 ≤ d) (h31 : h 70 31 = (n : Int)) (hn : n ≤ 8) (hq : ∀ g kq, am_keep (m_kt h) g → Q none (am_SH L, g, am_RR kq)) : am_Wp d 221 0 [some (Sum.inr (Sum.inr 70)), none] [] (am_SH L, h, am_RR kp) Q := by
  have r50 : ∀ (f : Nat → Nat → Int) (m : Nat) (j : Option am_V), m ≤ 7 → f 70 31 = (m : Int) → (∀ g kq, am_keep (am_up (m_cpk (am_tkk f 89 127) (127 * m) 127) 70 31 ((m + 1 : Nat) : Int)) g → Q none (am_SH L, g, am_RR kq)) → am_Wp d 221 50 [some (Sum.inr (Sum.inr 70)), j] [] (am_SH L, f, am_RR kp) Q := fun f m j hm hf hq2 => by
    rw [bq_M_keepTurn_50 (by omega), sp_M_carryAll_t89 (by omega)]
    simp only [Option.toList_some, Option.toList_none, List.cons_append, List.nil_append]
    rw [bq_M_keepTurn_59, lp_M_kt_61 (h := am_tkk f 89 127) (n := m) hm (show am_tkk f 89 127 70 31 = (m : Int) from hf)]
    exact hq2 _ _ am_keep_r
  have fin : ∀ (f : Nat → Nat → Int) (m : Nat), m = t_n1 n → am_mv f = am_mv h → (∀ j, ¬ (127 * m ≤ j ∧ j < 127 * m + 127) → f 88 j = t_sh (h 88) n j) → (∀ b j, am_rel b j = true → ¬ b = 88 → ¬ (b = 70 ∧ j = 31) → f b j = h b j) → ∀ g, am_keep (am_up (m_cpk (am_tkk f 89 127) (127 * m) 127) 70 31 ((m + 1 : Nat) : Int)) g → am_keep (m_kt h) g := fun f m em ef e88 eo g hk b j hr => by
    rw [hk b j hr]
    unfold m_kt
    rw [h31, Int.toNat_natCast, ← em]
    by_cases q : b = 88
    · subst q
      rw [if_pos rfl]
      show m_cpk (am_tkk f 89 127) (127 * m) 127 88 j = _
      unfold m_cpk t_keep
      rw [← em]
      by_cases q2 : 127 * m ≤ j ∧ j < 127 * m + 127
      · rw [if_pos ⟨rfl, q2⟩, if_pos q2]
        show (if j - 127 * m < 127 then am_car f (j - 127 * m) else _) = _
        rw [if_pos (by omega)]
        exact am_car_c ef
      · rw [if_neg (fun w => q2 w.2), if_neg q2]
        exact e88 j q2
    · rw [if_neg q]
      by_cases q3 : b = 70 ∧ j = 31
      · rw [if_pos q3, q3.1, q3.2]; rfl
      · rw [if_neg q3, ← eo b j hr q q3]
        unfold am_up
        have e5 : m_cpk (am_tkk f 89 127) (127 * m) 127 b j = f b j := by
          unfold m_cpk
          rw [if_neg (fun w => q w.1)]
          refine am_tkk_a (fun w => ?_) (fun w => ⟨fun w2 => ?_, fun w2 => ?_⟩)
          · subst w; cases hr
          · subst w; subst w2; cases hr
          · subst w; subst w2; cases hr
        by_cases q4 : b = 70
        · rw [if_pos q4, if_neg (fun w => q3 ⟨q4, w⟩), e5]
        · rw [if_neg q4, e5]
  rw [bq_M_keepTurn_0, h31]
  by_cases q : n = 8
  · subst q
    rw [if_pos (by omega)]
    refine (show _ = _ from lp_M_kt_12 rfl).mpr ?_
    rw [bq_M_keepTurn_12, if_pos (by omega), show am_sub (m_shk h 1016 70 31) 1 = ((7 : Nat) : Int) by
      rw [show m_shk h 1016 70 31 = (8 : Int) from h31, am_sub_ok (by omega) (by omega)]; rfl]
    have e31 : am_up (m_shk h 1016) 70 31 ((7 : Nat) : Int) 70 31 = ((7 : Nat) : Int) := if_pos rfl
    have emv : am_mv (am_up (m_shk h 1016) 70 31 ((7 : Nat) : Int)) = am_mv h := rfl
    refine r50 (am_up (m_shk h 1016) 70 31 ((7 : Nat) : Int)) 7 _ (by omega) e31 (fun g kq hk => hq g kq (fin (am_up (m_shk h 1016) 70 31 ((7 : Nat) : Int)) 7 rfl emv (fun j hj => ?_) (fun b j hr n1 n2 => ?_) g hk))
    · show m_shk h 1016 88 j = _
      unfold m_shk t_sh
      by_cases q2 : j < 889
      · rw [if_pos ⟨rfl, by omega⟩, if_pos ⟨rfl, q2⟩]
      · rw [if_neg (by omega), if_neg (by omega)]
    · unfold am_up
      have e6 : m_shk h 1016 b j = h b j := if_neg (fun w => n1 w.1)
      by_cases q4 : b = 70
      · rw [if_pos q4, if_neg (fun w => n2 ⟨q4, w⟩), e6]
      · rw [if_neg q4, e6]
  · rw [if_neg (by omega)]
    have e1 : t_n1 n = n := if_neg q
    refine r50 h n none (by omega) h31 (fun g kq hk => hq g kq (fin h n e1.symm rfl (fun j hj => ?_) (fun _ _ _ _ _ => rfl) g hk))
    unfold t_sh
    rw [if_neg (fun w => q w.1)]