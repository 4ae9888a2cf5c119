/-! THE REFERENCE READS A STATEMENT -/
def m_ab (h : Nat → Nat → Int) (a : Nat) (b : Bool) : Nat → Nat → Int := fun c j => if c = 70 ∧ j = 17 then (a : Int) else if c = 70 ∧ j = 18 then am_bi b else h c j
theorem m_ab_17 {h : Nat → Nat → Int} {a : Nat} {b : Bool} : m_ab h a b 70 17 = (a : Int) := rfl
theorem m_ab_18 {h : Nat → Nat → Int} {a : Nat} {b : Bool} : m_ab h a b 70 18 = am_bi b := rfl
theorem m_ab_o {h : Nat → Nat → Int} {a : Nat} {b : Bool} {c j : Nat} (hc : ¬ (c = 70 ∧ (j = 17 ∨ j = 18))) : m_ab h a b c j = h c j := by
  unfold m_ab
  rw [if_neg (by omega), if_neg (by omega)]
theorem m_ab_id {h : Nat → Nat → Int} {a : Nat} {b : Bool} (h1 : h 70 17 = (a : Int)) (h2 : h 70 18 = am_bi b) : m_ab h a b = h := by
  funext c j
  unfold m_ab
  by_cases q1 : c = 70 ∧ j = 17
  · rw [if_pos q1, q1.1, q1.2, h1]
  · rw [if_neg q1]
    by_cases q2 : c = 70 ∧ j = 18
    · rw [if_pos q2, q2.1, q2.2, h2]
    · rw [if_neg q2]
theorem m_ab_u17 {h : Nat → Nat → Int} {a c : Nat} {b : Bool} : am_up (m_ab h a b) 70 17 (c : Int) = m_ab h c b := by
  funext x j
  unfold am_up m_ab
  by_cases q1 : x = 70
  · subst q1
    by_cases q2 : j = 17
    · subst q2; rfl
    · simp only [q2, ↓reduceIte, and_false]
  · simp only [q1, ↓reduceIte, false_and]
theorem m_ab_u18 {h : Nat → Nat → Int} {a : Nat} {b c : Bool} : am_up (m_ab h a b) 70 18 (am_bi c) = m_ab h a c := by
  funext x j
  unfold am_up m_ab
  by_cases q1 : x = 70
  · subst q1
    by_cases q2 : j = 18
    · subst q2; rfl
    · simp only [q2, ↓reduceIte, and_false]
  · simp only [q1, ↓reduceIte, false_and]
theorem m_ab_u0 {h : Nat → Nat → Int} {a : Nat} {b : Bool} : am_up (m_ab h a b) 70 18 0 = m_ab h a false := m_ab_u18 (c := false)
theorem m_ab_u1 {h : Nat → Nat → Int} {a : Nat} {b : Bool} : am_up (m_ab h a b) 70 18 1 = m_ab h a true := m_ab_u18 (c := true)
theorem m_ab_up {h : Nat → Nat → Int} {a c j : Nat} {b : Bool} {x : Int} (hc : ¬ c = 70) : am_up (m_ab h a b) c j x = m_ab (am_up h c j x) a b := by
  funext y i
  unfold am_up m_ab
  by_cases q1 : y = c
  · subst q1
    simp only [hc, ↓reduceIte, false_and]
  · simp only [q1, ↓reduceIte]
def u_st (le : Nat → Int) (n : Nat) (f : Int) (p : Nat × Bool) : Nat × Bool := if p.2 = false ∧ p.1 < n ∧ u_suit f (le p.1) = true then (p.1 + 1, false) else (p.1, true)
theorem u_st_t {le : Nat → Int} {n a : Nat} {f : Int} : u_st le n f (a, true) = (a, true) := if_neg (fun w => by cases w.1)
theorem u_st_y {le : Nat → Int} {n a : Nat} {f : Int} (h1 : a < n) (h2 : u_suit f (le a) = true) : u_st le n f (a, false) = (a + 1, false) := if_pos ⟨rfl, h1, h2⟩
theorem u_st_n {le : Nat → Int} {n a : Nat} {f : Int} (h1 : ¬ (a < n ∧ u_suit f (le a) = true)) : u_st le n f (a, false) = (a, true) := if_neg (fun w => h1 w.2)
theorem u_st_le {le : Nat → Int} {n : Nat} {f : Int} {p : Nat × Bool} (h1 : p.1 ≤ n) : (u_st le n f p).1 ≤ n := by
  unfold u_st
  split
  · omega
  · exact h1
def u_h (le : Nat → Int) (n a : Nat) : Int := if a < n then le a else -1
theorem sp_M_here {d L kp : Nat} {h : Nat → Nat → Int} {Q : Option am_V → am_H → Prop} {n a : Nat} (hn : h 70 16 = (n : Int)) (h96 : n ≤ 96) (ha : h 70 17 = (a : Int)) : am_Wp d 194 0 [some (Sum.inr (Sum.inr 70))] [] (am_SH L, h, am_RR kp) Q = Q (some (Sum.inl (u_h (h 82) n a))) (am_SH L, h, am_RR kp) := by
  rw [bq_M_here_0, hn, ha]
  unfold u_h
  by_cases q : a < n
  · rw [if_neg (by omega), am_gd (by omega) (by omega), Int.toNat_natCast, bq_M_here_24, if_pos q]
  · rw [if_pos (by omega), bq_M_here_24, if_neg q]
theorem u_suit_9 {x : Int} : u_suit 57 x = decide (48 ≤ x ∧ x ≤ 57) := if_pos rfl
def u_w (le : Nat → Int) (n : Nat) (v : Int) (p : Nat × Bool) : Int := if (u_st le n 57 p).2 = true then 0 else 10 * v + le p.1 - 48
theorem lp_M_rd {d L kp : Nat} {h : Nat → Nat → Int} {Q : Option am_V → am_H → Prop} {n : Nat} {p : Nat × Bool} {v : Int} {m i : Nat} (hd : 3 ≤ d) (hn : h 70 16 = (n : Int)) (h96 : n ≤ 96) (hp : p.1 ≤ n) (h8 : ∀ j, 0 ≤ h 82 j ∧ h 82 j ≤ 255) (hv : 0 ≤ v ∧ v ≤ 1000) (hi : i < m) (hm : m ≤ 10) : am_Wp d 196 4 [some (Sum.inr (Sum.inr 70)), some (Sum.inl ((m : Int))), some (Sum.inl (v)), some (Sum.inl ((i : Int)))] [] (am_SH L, m_ab h p.1 p.2, am_RR kp) Q = am_Wp d 196 4 [some (Sum.inr (Sum.inr 70)), some (Sum.inl ((m : Int))), some (Sum.inl (u_w (h 82) n v p)), some (Sum.inl (((i + 1 : Nat) : Int)))] [] (am_SH L, m_ab h (u_st (h 82) n 57 p).1 (u_st (h 82) n 57 p).2, am_RR kp) Q := by
  obtain ⟨a, b⟩ := p
  have hp2 : a ≤ n := hp
  have h8a := h8 a
  refine (bq_M_readDigits_4 (by omega)).trans ?_
  have r34 : u_st (h 82) n 57 (a, b) = (a, true) → am_Wp d 196 34 [some (Sum.inr (Sum.inr 70)), some (Sum.inl ((m : Int))), some (Sum.inl (v)), some (Sum.inl ((i : Int)))] [Sum.inr (Sum.inr 70)] (am_SH L, m_ab h a b, am_RR kp) Q = am_Wp d 196 4 [some (Sum.inr (Sum.inr 70)), some (Sum.inl ((m : Int))), some (Sum.inl (u_w (h 82) n v (a, b))), some (Sum.inl (((i + 1 : Nat) : Int)))] [] (am_SH L, m_ab h (u_st (h 82) n 57 (a, b)).1 (u_st (h 82) n 57 (a, b)).2, am_RR kp) Q := fun w => by
    unfold u_w
    rw [w, if_pos rfl, bq_M_readDigits_34, bq_M_readDigits_39, am_11, m_ab_u1, m_ab_18, if_neg am_b0, bq_M_readDigits_70, m_ab_18, if_neg am_b0, bq_M_readDigits_88, m_ab_17, show am_add (a : Int) 0 = (a : Int) by rw [am_add_ok (by omega) (by omega), Int.add_zero], m_ab_u17, am_incn (by omega)]
  rw [if_neg (by omega)]
  cases b
  · dsimp only
    rw [m_ab_18, if_pos am_bif, sp_M_here (h := m_ab h a false) (n := n) (a := a) hn h96 rfl, show m_ab h a false 82 = h 82 from rfl]
    simp only [Option.toList_some, Option.toList_none, List.cons_append, List.nil_append]
    rw [bq_M_readDigits_21 (by omega), sp_M_in]
    simp only [Option.toList_some, Option.toList_none, List.cons_append, List.nil_append]
    rw [bq_M_readDigits_31]
    by_cases q : a < n ∧ u_suit 57 (h 82 a) = true
    · have q3 := u_suit9 q.2
      have e : u_h (h 82) n a = h 82 a := if_pos q.1
      have e2 : u_st (h 82) n 57 (a, false) = (a + 1, false) := u_st_y q.1 q.2
      unfold u_w
      rw [e, decide_eq_true q3, if_neg am_b0, bq_M_readDigits_39, am_01, m_ab_u0, m_ab_18, if_pos am_bif, m_ab_17, am_gd (by omega) (by omega), Int.toNat_natCast, show m_ab h a false 82 a = h 82 a from rfl, bq_M_readDigits_70, m_ab_18, if_pos am_bif, bq_M_readDigits_88, m_ab_17, show am_add (a : Int) 1 = ((a + 1 : Nat) : Int) from am_incn (by omega), m_ab_u17, am_incn (by omega), e2, if_neg (show ¬ ((a + 1, false) : Nat × Bool).2 = true from Bool.false_ne_true), am_mul_ok (by omega) (by omega), am_add_ok (by omega) (by omega), am_sub_ok (by omega) (by omega)]
    · have q3 : ¬ (48 ≤ u_h (h 82) n a ∧ u_h (h 82) n a ≤ 57) := fun w => by
        by_cases q4 : a < n
        · refine q ⟨q4, ?_⟩
          rw [u_suit_9]
          unfold u_h at w
          rw [if_pos q4] at w
          exact decide_eq_true w
        · unfold u_h at w
          rw [if_neg q4] at w
          omega
      rw [decide_eq_false q3, if_pos am_bif]
      exact r34 (u_st_n q)
  · dsimp only
    rw [m_ab_18, if_neg am_b0]
    exact r34 u_st_t
theorem u_w_le {le : Nat → Int} {n : Nat} {p : Nat × Bool} : 0 ≤ u_w le n 0 p ∧ u_w le n 0 p ≤ 9 := by
  unfold u_w
  by_cases q : (u_st le n 57 p).2 = true
  · rw [if_pos q]; omega
  · rw [if_neg q]
    unfold u_st at q
    by_cases q2 : p.2 = false ∧ p.1 < n ∧ u_suit 57 (le p.1) = true
    · have := u_suit9 q2.2.2
      omega
    · rw [if_neg q2] at q; exact absurd rfl q
theorem sp_M_rd1 {d L kp : Nat} {h : Nat → Nat → Int} {Q : Option am_V → am_H → Prop} {n : Nat} {p : Nat × Bool} (hd : 3 ≤ d) (hn : h 70 16 = (n : Int)) (h96 : n ≤ 96) (hp : p.1 ≤ n) (h8 : ∀ j, 0 ≤ h 82 j ∧ h 82 j ≤ 255) : am_Wp d 196 0 [some (Sum.inr (Sum.inr 70)), some (Sum.inl (1)), none, none] [] (am_SH L, m_ab h p.1 p.2, am_RR kp) Q = Q (some (Sum.inl (u_w (h 82) n 0 p))) (am_SH L, m_ab h (u_st (h 82) n 57 p).1 (u_st (h 82) n 57 p).2, am_RR kp) := by
  rw [bq_M_readDigits_0]
  refine (lp_M_rd (v := 0) (m := 1) (i := 0) hd hn h96 hp h8 (by omega) (by omega) (by omega)).trans ?_
  refine (bq_M_readDigits_4 (by omega)).trans ?_
  rw [if_pos (by omega)]
theorem sp_M_rd2 {d L kp : Nat} {h : Nat → Nat → Int} {Q : Option am_V → am_H → Prop} {n : Nat} {p : Nat × Bool} (hd : 3 ≤ d) (hn : h 70 16 = (n : Int)) (h96 : n ≤ 96) (hp : p.1 ≤ n) (h8 : ∀ j, 0 ≤ h 82 j ∧ h 82 j ≤ 255) : am_Wp d 196 0 [some (Sum.inr (Sum.inr 70)), some (Sum.inl (2)), none, none] [] (am_SH L, m_ab h p.1 p.2, am_RR kp) Q = Q (some (Sum.inl (u_w (h 82) n (u_w (h 82) n 0 p) (u_st (h 82) n 57 p)))) (am_SH L, m_ab h (u_st (h 82) n 57 (u_st (h 82) n 57 p)).1 (u_st (h 82) n 57 (u_st (h 82) n 57 p)).2, am_RR kp) := by
  have hw := u_w_le (le := h 82) (n := n) (p := p)
  rw [bq_M_readDigits_0]
  refine (lp_M_rd (v := 0) (m := 2) (i := 0) hd hn h96 hp h8 (by omega) (by omega) (by omega)).trans ?_
  refine (lp_M_rd (v := u_w (h 82) n 0 p) (m := 2) (i := 1) hd hn h96 (u_st_le hp) h8 (by omega) (by omega) (by omega)).trans ?_
  refine (bq_M_readDigits_4 (by omega)).trans ?_
  rw [if_pos (by omega)]
theorem sp_M_isLetter {d L kp : Nat} {h : Nat → Nat → Int} {Q : Option am_V → am_H → Prop} {c : Int} : am_Wp d 195 0 [some (Sum.inl c)] [] (am_SH L, h, am_RR kp) Q = Q (some (Sum.inl (if c = 112 ∨ c = 117 ∨ c = 111 ∨ c = 109 ∨ c = 100 then 1 else 0))) (am_SH L, h, am_RR kp) := by
  rw [bq_M_isLetter_0]
  have r : am_Wp d 195 30 [some (Sum.inl (c))] [] (am_SH L, h, am_RR kp) Q = Q (some (Sum.inl (1))) (am_SH L, h, am_RR kp) := by rw [bq_M_isLetter_30, bq_M_isLetter_35, am_11]
  by_cases q1 : c = 112
  · rw [if_pos q1, if_pos (by omega), r]
  · rw [if_neg q1]
    by_cases q2 : c = 117
    · rw [if_pos q2, if_pos (by omega), r]
    · rw [if_neg q2]
      by_cases q3 : c = 111
      · rw [if_pos q3, if_pos (by omega), r]
      · rw [if_neg q3]
        by_cases q4 : c = 109
        · rw [if_pos q4, if_pos (by omega), r]
        · rw [if_neg q4]
          by_cases q5 : c = 100
          · rw [if_pos q5, if_pos (by omega), r]
          · rw [if_neg q5, bq_M_isLetter_35, am_01, if_neg (by omega)]
/-- the end of a statement -/
theorem lp_M_semi {d L kp : Nat} {h : Nat → Nat → Int} {Q : Option am_V → am_H → Prop} {n k : Nat} {p : Nat × Bool} {x1 x2 x3 x4 : Option am_V} (hd : 3 ≤ d) (hn : h 70 16 = (n : Int)) (h96 : n ≤ 96) (hp : p.1 ≤ n) (h19 : h 70 19 = (k : Int)) (hk : k < 100) : am_Wp d 193 235 [some (Sum.inr (Sum.inr 70)), x1, x2, x3, x4] [] (am_SH L, m_ab h p.1 p.2, am_RR kp) Q = Q none (am_SH L, am_up (m_ab h (u_st (h 82) n 59 p).1 (u_st (h 82) n 59 p).2) 70 19 ((k + 1 : Nat) : Int), am_RR kp) := by
  obtain ⟨a, b⟩ := p
  have hp2 : a ≤ n := hp
  have e19 : ∀ a b, m_ab h a b 70 19 = (k : Int) := fun a b => h19
  have r252 : u_st (h 82) n 59 (a, b) = (a, true) → am_Wp d 193 252 [some (Sum.inr (Sum.inr 70)), x1, x2, x3, x4] [Sum.inr (Sum.inr 70)] (am_SH L, m_ab h a b, am_RR kp) Q = Q none (am_SH L, am_up (m_ab h (u_st (h 82) n 59 (a, b)).1 (u_st (h 82) n 59 (a, b)).2) 70 19 ((k + 1 : Nat) : Int), am_RR kp) := fun w => by
    rw [w, bq_M_readStatement_252, bq_M_readStatement_257, am_11, m_ab_u1, m_ab_18, if_neg am_b0, bq_M_readStatement_277, m_ab_17, show am_add (a : Int) 0 = (a : Int) by rw [am_add_ok (by omega) (by omega), Int.add_zero], m_ab_u17, e19, am_incn (by omega)]
  refine (bq_M_readStatement_235 (by omega)).trans ?_
  cases b
  · dsimp only
    rw [m_ab_18, if_pos am_bif, sp_M_here (h := m_ab h a false) (n := n) (a := a) hn h96 rfl, show m_ab h a false 82 = h 82 from rfl]
    simp only [Option.toList_some, Option.toList_none, List.cons_append, List.nil_append]
    rw [bq_M_readStatement_247]
    by_cases q : a < n ∧ u_suit 59 (h 82 a) = true
    · have q2 : h 82 a = 59 := by
        have := q.2
        unfold u_suit at this
        rw [if_neg (by omega), if_neg (by omega)] at this
        exact of_decide_eq_true this
      have e : u_h (h 82) n a = h 82 a := if_pos q.1
      have e2 : u_st (h 82) n 59 (a, false) = (a + 1, false) := u_st_y q.1 q.2
      rw [e, if_pos q2, bq_M_readStatement_257, am_01, m_ab_u0, m_ab_18, if_pos am_bif, bq_M_readStatement_277, m_ab_17, show am_add (a : Int) 1 = ((a + 1 : Nat) : Int) from am_incn (by omega), m_ab_u17, e19, am_incn (by omega), e2]
    · have q3 : ¬ u_h (h 82) n a = 59 := fun w => by
        by_cases q4 : a < n
        · refine q ⟨q4, ?_⟩
          unfold u_h at w
          rw [if_pos q4] at w
          unfold u_suit
          rw [if_neg (by omega), if_neg (by omega)]
          exact decide_eq_true w
        · unfold u_h at w
          rw [if_neg q4] at w
          omega
      rw [if_neg q3]
      exact r252 (u_st_n q)
  · dsimp only
    rw [m_ab_18, if_neg am_b0]
    exact r252 u_st_t
theorem lp_M_mark {d L kp : Nat} {h : Nat → Nat → Int} {Q : Option am_V → am_H → Prop} {n k : Nat} {p : Nat × Bool} {x1 x2 x4 : Option am_V} (hd : 3 ≤ d) (hn : h 70 16 = (n : Int)) (h96 : n ≤ 96) (hp : p.1 ≤ n) (hk : k < 49) : am_Wp d 193 162 [some (Sum.inr (Sum.inr 70)), x1, x2, some (Sum.inl ((5 * k : Nat) : Int)), x4] [Sum.inl (u_h (h 82) n p.1)] (am_SH L, m_ab h p.1 p.2, am_RR kp) Q = am_Wp d 193 235 [some (Sum.inr (Sum.inr 70)), x1, x2, some (Sum.inl ((5 * k : Nat) : Int)), some (Sum.inl (u_h (h 82) n p.1))] [] (am_SH L, m_ab (am_up h 85 (5 * k + 4) (if u_h (h 82) n p.1 = 120 then 1 else 0)) (u_st (h 82) n 61 p).1 (u_st (h 82) n 61 p).2, am_RR kp) Q := by
  obtain ⟨a, b⟩ := p
  have hp2 : a ≤ n := hp
  have m54 : am_add ((5 * k : Nat) : Int) 4 = ((5 * k + 4 : Nat) : Int) := by rw [am_add_ok (by omega) (by omega)]; omega
  have r211 : ∀ (x s : Int) (a2 : Nat) (b2 : Bool) (c : Nat), am_add (a2 : Int) s = (c : Int) → am_Wp d 193 211 [some (Sum.inr (Sum.inr 70)), x1, x2, some (Sum.inl ((5 * k : Nat) : Int)), some (Sum.inl x)] [Sum.inl s, Sum.inl (a2 : Int), Sum.inr (Sum.inr 70)] (am_SH L, m_ab h a2 b2, am_RR kp) Q = am_Wp d 193 235 [some (Sum.inr (Sum.inr 70)), x1, x2, some (Sum.inl ((5 * k : Nat) : Int)), some (Sum.inl x)] [] (am_SH L, m_ab (am_up h 85 (5 * k + 4) (if x = 120 then 1 else 0)) c b2, am_RR kp) Q := fun x s a2 b2 c hc => by
    rw [bq_M_readStatement_211, hc, m_ab_u17, m54]
    by_cases q : x = 120
    · rw [if_pos q, if_pos q, bq_M_readStatement_234, am_gd (by omega) (by omega), Int.toNat_natCast, m_ab_up (by omega)]
    · rw [if_neg q, if_neg q, bq_M_readStatement_234, am_gd (by omega) (by omega), Int.toNat_natCast, m_ab_up (by omega)]
  have r186 : ∀ x : Int, u_st (h 82) n 61 (a, b) = (a, true) → am_Wp d 193 186 [some (Sum.inr (Sum.inr 70)), x1, x2, some (Sum.inl ((5 * k : Nat) : Int)), some (Sum.inl x)] [Sum.inr (Sum.inr 70)] (am_SH L, m_ab h a b, am_RR kp) Q = am_Wp d 193 235 [some (Sum.inr (Sum.inr 70)), x1, x2, some (Sum.inl ((5 * k : Nat) : Int)), some (Sum.inl x)] [] (am_SH L, m_ab (am_up h 85 (5 * k + 4) (if x = 120 then 1 else 0)) (u_st (h 82) n 61 (a, b)).1 (u_st (h 82) n 61 (a, b)).2, am_RR kp) Q := fun x w => by
    rw [w, bq_M_readStatement_186, bq_M_readStatement_191, am_11, m_ab_u1, m_ab_18, if_neg am_b0, m_ab_17]
    exact r211 x 0 a true a (by rw [am_add_ok (by omega) (by omega), Int.add_zero])
  rw [bq_M_readStatement_162]
  cases b
  · dsimp only
    rw [m_ab_18, if_pos am_bif]
    have r190 : ∀ x : Int, u_st (h 82) n 61 (a, false) = (a + 1, false) → am_Wp d 193 190 [some (Sum.inr (Sum.inr 70)), x1, x2, some (Sum.inl ((5 * k : Nat) : Int)), some (Sum.inl x)] [Sum.inr (Sum.inr 70)] (am_SH L, m_ab h a false, am_RR kp) Q = am_Wp d 193 235 [some (Sum.inr (Sum.inr 70)), x1, x2, some (Sum.inl ((5 * k : Nat) : Int)), some (Sum.inl x)] [] (am_SH L, m_ab (am_up h 85 (5 * k + 4) (if x = 120 then 1 else 0)) (u_st (h 82) n 61 (a, false)).1 (u_st (h 82) n 61 (a, false)).2, am_RR kp) Q := fun x w => by
      rw [w, bq_M_readStatement_190, bq_M_readStatement_191, am_01, m_ab_u0, m_ab_18, if_pos am_bif, m_ab_17]
      exact r211 x 1 a false (a + 1) (am_incn (by omega))
    have su : ∀ x : Int, u_suit 61 x = decide (x = 61 ∨ x = 120) := fun x => by
      unfold u_suit
      rw [if_neg (by omega), if_pos rfl]
    by_cases q : a < n ∧ u_suit 61 (h 82 a) = true
    · have e : u_h (h 82) n a = h 82 a := if_pos q.1
      have q2 : h 82 a = 61 ∨ h 82 a = 120 := by
        have := q.2
        rw [su] at this
        exact of_decide_eq_true this
      have r := r190 (u_h (h 82) n a) (u_st_y q.1 q.2)
      by_cases q5 : u_h (h 82) n a = 61
      · rw [if_pos q5]; exact r
      · rw [if_neg q5, if_pos (show u_h (h 82) n a = 120 by have : ¬ u_h (h 82) n a = 61 := q5; omega)]; exact r
    · have q3 : ¬ u_h (h 82) n a = 61 ∧ ¬ u_h (h 82) n a = 120 := by
        by_cases q4 : a < n
        · have e : u_h (h 82) n a = h 82 a := if_pos q4
          rw [e]
          refine ⟨fun w => q ⟨q4, ?_⟩, fun w => q ⟨q4, ?_⟩⟩
          · rw [su]; exact decide_eq_true (Or.inl w)
          · rw [su]; exact decide_eq_true (Or.inr w)
        · unfold u_h
          rw [if_neg q4]
          omega
      rw [if_neg q3.1, if_neg q3.2]
      exact r186 _ (u_st_n q)
  · dsimp only
    rw [m_ab_18, if_neg am_b0]
    exact r186 _ u_st_t
theorem sp_M_here2 {d L kp : Nat} {h : Nat → Nat → Int} {Q : Option am_V → am_H → Prop} {n a : Nat} {le : Nat → Int} (hle : h 82 = le) (hn : h 70 16 = (n : Int)) (h96 : n ≤ 96) (ha : h 70 17 = (a : Int)) : am_Wp d 194 0 [some (Sum.inr (Sum.inr 70))] [] (am_SH L, h, am_RR kp) Q = Q (some (Sum.inl (u_h le n a))) (am_SH L, h, am_RR kp) := by
  rw [← hle]; exact sp_M_here hn h96 ha
theorem sp_M_rd1b {d L kp : Nat} {h : Nat → Nat → Int} {Q : Option am_V → am_H → Prop} {n : Nat} {p : Nat × Bool} {le : Nat → Int} (hle : h 82 = le) (hd : 3 ≤ d) (hn : h 70 16 = (n : Int)) (h96 : n ≤ 96) (hp : p.1 ≤ n) (h8 : ∀ j, 0 ≤ le j ∧ le j ≤ 255) : am_Wp d 196 0 [some (Sum.inr (Sum.inr 70)), some (Sum.inl (1)), none, none] [] (am_SH L, m_ab h p.1 p.2, am_RR kp) Q = Q (some (Sum.inl (u_w le n 0 p))) (am_SH L, m_ab h (u_st le n 57 p).1 (u_st le n 57 p).2, am_RR kp) := by
  subst hle
  exact sp_M_rd1 hd hn h96 hp h8
theorem sp_M_rd2b {d L kp : Nat} {h : Nat → Nat → Int} {Q : Option am_V → am_H → Prop} {n : Nat} {p : Nat × Bool} {le : Nat → Int} (hle : h 82 = le) (hd : 3 ≤ d) (hn : h 70 16 = (n : Int)) (h96 : n ≤ 96) (hp : p.1 ≤ n) (h8 : ∀ j, 0 ≤ le j ∧ le j ≤ 255) : am_Wp d 196 0 [some (Sum.inr (Sum.inr 70)), some (Sum.inl (2)), none, none] [] (am_SH L, m_ab h p.1 p.2, am_RR kp) Q = Q (some (Sum.inl (u_w le n (u_w le n 0 p) (u_st le n 57 p)))) (am_SH L, m_ab h (u_st le n 57 (u_st le n 57 p)).1 (u_st le n 57 (u_st le n 57 p)).2, am_RR kp) := by
  subst hle
  exact sp_M_rd2 hd hn h96 hp h8
theorem lp_M_semib {d L kp : Nat} {h : Nat → Nat → Int} {Q : Option am_V → am_H → Prop} {n k : Nat} {p : Nat × Bool} {le : Nat → Int} {x1 x2 x3 x4 : Option am_V} (hle : h 82 = le) (hd : 3 ≤ d) (hn : h 70 16 = (n : Int)) (h96 : n ≤ 96) (hp : p.1 ≤ n) (h19 : h 70 19 = (k : Int)) (hk : k < 100) : am_Wp d 193 235 [some (Sum.inr (Sum.inr 70)), x1, x2, x3, x4] [] (am_SH L, m_ab h p.1 p.2, am_RR kp) Q = Q none (am_SH L, am_up (m_ab h (u_st le n 59 p).1 (u_st le n 59 p).2) 70 19 ((k + 1 : Nat) : Int), am_RR kp) := by
  subst hle
  exact lp_M_semi hd hn h96 hp h19 hk
theorem lp_M_markb {d L kp : Nat} {h : Nat → Nat → Int} {Q : Option am_V → am_H → Prop} {n k : Nat} {p : Nat × Bool} {le : Nat → Int} {x1 x2 x4 : Option am_V} (hle : h 82 = le) (hd : 3 ≤ d) (hn : h 70 16 = (n : Int)) (h96 : n ≤ 96) (hp : p.1 ≤ n) (hk : k < 49) : am_Wp d 193 162 [some (Sum.inr (Sum.inr 70)), x1, x2, some (Sum.inl ((5 * k : Nat) : Int)), x4] [Sum.inl (u_h le n p.1)] (am_SH L, m_ab h p.1 p.2, am_RR kp) Q = am_Wp d 193 235 [some (Sum.inr (Sum.inr 70)), x1, x2, some (Sum.inl ((5 * k : Nat) : Int)), some (Sum.inl (u_h le n p.1))] [] (am_SH L, m_ab (am_up h 85 (5 * k + 4) (if u_h le n p.1 = 120 then 1 else 0)) (u_st le n 61 p).1 (u_st le n 61 p).2, am_RR kp) Q := by
  subst hle
  exact lp_M_mark hd hn h96 hp hk