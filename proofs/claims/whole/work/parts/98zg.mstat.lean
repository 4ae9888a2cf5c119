/-! THE REFERENCE READS A STATEMENT, letter by letter -/
theorem am_upe {f : Nat → Nat → Int} {i j : Nat} {v : Int} : am_up f i j v i j = v := by
  unfold am_up; rw [if_pos rfl, if_pos rfl]
theorem am_upj {f : Nat → Nat → Int} {i j a b : Nat} {v : Int} (hb : ¬ b = j) : am_up f i j v a b = f a b := by
  unfold am_up
  by_cases q : a = i
  · rw [if_pos q, if_neg hb]
  · rw [if_neg q]
def m_fra (h g : Nat → Nat → Int) (k : Nat) : Prop := ∀ c j, ¬ (c = 70 ∧ (j = 17 ∨ j = 18 ∨ j = 19)) → ¬ (c = 83 ∧ j = k) → ¬ (c = 84 ∧ j = k) → ¬ (c = 85 ∧ 5 * k ≤ j ∧ j < 5 * k + 5) → g c j = h c j
theorem m_fra_r {h : Nat → Nat → Int} {k : Nat} : m_fra h h k := fun _ _ _ _ _ _ => rfl
theorem m_fra_8 {h g : Nat → Nat → Int} {k c j : Nat} {x : Int} (hk : m_fra h g k) (hc : (c = 83 ∧ j = k) ∨ (c = 84 ∧ j = k) ∨ (c = 85 ∧ 5 * k ≤ j ∧ j < 5 * k + 5) ∨ (c = 70 ∧ j = 19)) : m_fra h (am_up g c j x) k := fun a b h1 h2 h3 h4 => by
  by_cases q : a = c ∧ b = j
  · exfalso
    rw [q.1, q.2] at h1 h2 h3 h4
    omega
  · refine Eq.trans ?_ (hk a b h1 h2 h3 h4)
    unfold am_up
    by_cases q1 : a = c
    · rw [if_pos q1, if_neg (fun w => q ⟨q1, w⟩)]
    · rw [if_neg q1]
theorem m_fra_ab {h g : Nat → Nat → Int} {k a : Nat} {b : Bool} (hk : m_fra h g k) : m_fra h (m_ab g a b) k := fun c j h1 h2 h3 h4 => by
  rw [m_ab_o (by omega)]
  exact hk c j h1 h2 h3 h4
def u_fo (le : Nat → Int) (n : Nat) : List Int → Nat × Bool → Nat × Bool
  | [], p => p
  | f :: r, p => u_fo le n r (u_st le n f p)
theorem u_fo_t {le : Nat → Int} {n a : Nat} : ∀ l, u_fo le n l (a, true) = (a, true) := by
  intro l
  induction l with
  | nil => rfl
  | cons f r ih =>
    show u_fo le n r (u_st le n f (a, true)) = _
    rw [u_st_t]; exact ih
theorem u_fo_good {le : Nat → Int} {n : Nat} : ∀ (l : List Int) (a : Nat), (∀ i, i < l.length → a + i < n ∧ u_suit (l.getD i 0) (le (a + i)) = true) → u_fo le n l (a, false) = (a + l.length, false) := by
  intro l
  induction l with
  | nil => intro a _; rfl
  | cons f r ih =>
    intro a ho
    have h0 : a < n ∧ u_suit f (le a) = true := ho 0 (by show 0 < r.length + 1; omega)
    show u_fo le n r (u_st le n f (a, false)) = _
    rw [u_st_y (f := f) h0.1 h0.2, ih (a + 1) (fun i hi => by
      have := ho (i + 1) (by show i + 1 < r.length + 1; omega)
      rw [show a + (i + 1) = a + 1 + i by omega] at this
      exact this)]
    show (a + 1 + r.length, false) = (a + (r.length + 1), false)
    rw [show a + 1 + r.length = a + (r.length + 1) by omega]
theorem u_fo_bad {le : Nat → Int} {n : Nat} : ∀ (l : List Int) (a i : Nat), i < l.length → (∀ j, j < i → a + j < n ∧ u_suit (l.getD j 0) (le (a + j)) = true) → ¬ (a + i < n ∧ u_suit (l.getD i 0) (le (a + i)) = true) → u_fo le n l (a, false) = (a + i, true) := by
  intro l
  induction l with
  | nil => intro a i hi _ _; exact absurd hi (by show ¬ i < 0; omega)
  | cons f r ih =>
    intro a i hi ho hb
    show u_fo le n r (u_st le n f (a, false)) = _
    cases i with
    | zero =>
      have hb2 : ¬ (a < n ∧ u_suit f (le a) = true) := hb
      rw [u_st_n (f := f) hb2]; exact u_fo_t r
    | succ i =>
      have h0 : a < n ∧ u_suit f (le a) = true := ho 0 (by omega)
      rw [u_st_y (f := f) h0.1 h0.2, ih (a + 1) i (by have : i + 1 < r.length + 1 := hi; omega) (fun j hj => by
        have := ho (j + 1) (by omega)
        rw [show a + (j + 1) = a + 1 + j by omega] at this
        exact this) (by
        rw [show a + (i + 1) = a + 1 + i by omega] at hb
        exact hb), show a + 1 + i = a + (i + 1) by omega]
theorem u_w_y {le : Nat → Int} {n a : Nat} {v : Int} (hs : u_st le n 57 (a, false) = (a + 1, false)) : u_w le n v (a, false) = 10 * v + le a - 48 := by
  unfold u_w
  rw [hs]
  exact if_neg Bool.false_ne_true
theorem lp_M_rs0 {d L kp : Nat} {h : Nat → Nat → Int} {Q : Option am_V → am_H → Prop} {n s k : Nat} {c : Int} (hd : 4 ≤ d) (hn : h 70 16 = (n : Int)) (h96 : n ≤ 96) (h8 : ∀ j, 0 ≤ h 82 j ∧ h 82 j ≤ 255) (h19 : h 70 19 = (k : Int)) (hk : k < 49) (hs : s ≤ n) (hc : u_h (h 82) n s = c) : am_Wp d 193 0 [some (Sum.inr (Sum.inr 70)), none, none, none, none] [] (am_SH L, m_ab h s false, am_RR kp) Q = (if ((c = 112 ∨ c = 117 ∨ c = 111 ∨ c = 109 ∨ c = 100) : Prop) then am_Wp d 193 51 [some (Sum.inr (Sum.inr 70)), some (Sum.inl ((k : Int))), some (Sum.inl (c)), some (Sum.inl (((5 * k : Nat) : Int))), none] [Sum.inl 0, Sum.inr (Sum.inr 70)] (am_SH L, m_ab (am_up (am_up h 83 k (s : Int)) 84 k c) s false, am_RR kp) Q else am_Wp d 193 51 [some (Sum.inr (Sum.inr 70)), some (Sum.inl ((k : Int))), some (Sum.inl (c)), some (Sum.inl (((5 * k : Nat) : Int))), none] [Sum.inl 1, Sum.inr (Sum.inr 70)] (am_SH L, m_ab (am_up (am_up h 83 k (s : Int)) 84 k c) s false, am_RR kp) Q) := by
  have m5 : am_mul 5 (k : Int) = ((5 * k : Nat) : Int) := by rw [am_mul_ok (by omega) (by omega)]; omega
  have m51 : am_add ((5 * k : Nat) : Int) 1 = ((5 * k + 1 : Nat) : Int) := am_incn (by omega)
  have m52 : am_add ((5 * k : Nat) : Int) 2 = ((5 * k + 2 : Nat) : Int) := by rw [am_add_ok (by omega) (by omega)]; omega
  have m53 : am_add ((5 * k : Nat) : Int) 3 = ((5 * k + 3 : Nat) : Int) := by rw [am_add_ok (by omega) (by omega)]; omega
  rw [bq_M_readStatement_0 (by omega), sp_M_here (h := m_ab h s false) (n := n) (a := s) hn h96 rfl, show m_ab h s false 82 = h 82 from rfl, show m_ab h s false 70 19 = (k : Int) from h19, hc]
  simp only [Option.toList_some, Option.toList_none, List.cons_append, List.nil_append]
  rw [bq_M_readStatement_9 (by omega), am_gd (by omega) (by omega), am_gd (by omega) (by omega), Int.toNat_natCast, m_ab_17, m_ab_up (by omega), m_ab_up (by omega), m_ab_18, if_pos am_bif, sp_M_isLetter, m5]
  simp only [Option.toList_some, Option.toList_none, List.cons_append, List.nil_append]
  rw [bq_M_readStatement_43]
  by_cases q : c = 112 ∨ c = 117 ∨ c = 111 ∨ c = 109 ∨ c = 100
  · rw [if_pos q, if_pos q, if_neg (by omega)]
  · rw [if_neg q, if_neg q, if_pos rfl, bq_M_readStatement_46]
theorem lp_M_rsX {d L kp : Nat} {h : Nat → Nat → Int} {Q : Option am_V → am_H → Prop} {n s k : Nat} {c : Int} (hd : 4 ≤ d) (hn : h 70 16 = (n : Int)) (h96 : n ≤ 96) (h8 : ∀ j, 0 ≤ h 82 j ∧ h 82 j ≤ 255) (h19 : h 70 19 = (k : Int)) (hk : k < 49) (hs : s ≤ n) (hc : u_h (h 82) n s = c) (hx : ¬ (c = 112 ∨ c = 117 ∨ c = 111 ∨ c = 109 ∨ c = 100)) : am_Wp d 193 0 [some (Sum.inr (Sum.inr 70)), none, none, none, none] [] (am_SH L, m_ab h s false, am_RR kp) Q = Q none (am_SH L, am_up (m_ab (am_up (am_up h 83 k (s : Int)) 84 k c) s true) 70 19 ((k + 1 : Nat) : Int), am_RR kp) := by
  rw [lp_M_rs0 hd hn h96 h8 h19 hk hs hc, if_neg hx, bq_M_readStatement_51, am_11, m_ab_u1, m_ab_18, if_neg am_b0, bq_M_readStatement_71, m_ab_17, show am_add (s : Int) 0 = (s : Int) by rw [am_add_ok (by omega) (by omega), Int.add_zero], m_ab_u17, m_ab_18, if_neg am_b0, bq_M_readStatement_126 (by omega), if_neg (by omega)]
  refine (lp_M_semib (h := am_up (am_up h 83 k (s : Int)) 84 k c) (le := h 82) (n := n) (k := k) (p := (s, true)) rfl (by omega) hn h96 hs h19 (by omega)).trans ?_
  rw [u_st_t]
theorem lp_M_rsY {d L kp : Nat} {h : Nat → Nat → Int} {Q : Option am_V → am_H → Prop} {n s k : Nat} (hd : 4 ≤ d) (hn : h 70 16 = (n : Int)) (h96 : n ≤ 96) (h8 : ∀ j, 0 ≤ h 82 j ∧ h 82 j ≤ 255) (h19 : h 70 19 = (k : Int)) (hk : k < 49) (hs : s < n) (hx : (h 82 s = 112 ∨ h 82 s = 117 ∨ h 82 s = 111 ∨ h 82 s = 109 ∨ h 82 s = 100)) : am_Wp d 193 0 [some (Sum.inr (Sum.inr 70)), none, none, none, none] [] (am_SH L, m_ab h s false, am_RR kp) Q = (if h 82 s = 109 then am_Wp d 193 99 [some (Sum.inr (Sum.inr 70)), some (Sum.inl ((k : Int))), some (Sum.inl ((h 82 s))), some (Sum.inl (((5 * k : Nat) : Int))), none] [Sum.inl 2, Sum.inr (Sum.inr 70), Sum.inl ((5 * k : Nat) : Int), Sum.inr (Sum.inr 85)] (am_SH L, m_ab (am_up (am_up h 83 k (s : Int)) 84 k (h 82 s)) (s + 1) false, am_RR kp) Q else am_Wp d 193 99 [some (Sum.inr (Sum.inr 70)), some (Sum.inl ((k : Int))), some (Sum.inl ((h 82 s))), some (Sum.inl (((5 * k : Nat) : Int))), none] [Sum.inl 1, Sum.inr (Sum.inr 70), Sum.inl ((5 * k : Nat) : Int), Sum.inr (Sum.inr 85)] (am_SH L, m_ab (am_up (am_up h 83 k (s : Int)) 84 k (h 82 s)) (s + 1) false, am_RR kp) Q) := by
  rw [lp_M_rs0 hd hn h96 h8 h19 hk (by omega) (if_pos hs), if_pos hx, bq_M_readStatement_51, am_01, m_ab_u0, m_ab_18, if_pos am_bif, bq_M_readStatement_71, m_ab_17, am_incn (by omega), m_ab_u17, m_ab_18, if_pos am_bif]
theorem lp_M_rs_p {d L kp : Nat} {h : Nat → Nat → Int} {Q : Option am_V → am_H → Prop} {n s k : Nat} (hd : 4 ≤ d) (hn : h 70 16 = (n : Int)) (h96 : n ≤ 96) (h8 : ∀ j, 0 ≤ h 82 j ∧ h 82 j ≤ 255) (h19 : h 70 19 = (k : Int)) (hk : k < 49) (hs : s < n) (e : h 82 s = 112) : am_Wp d 193 0 [some (Sum.inr (Sum.inr 70)), none, none, none, none] [] (am_SH L, m_ab h s false, am_RR kp) Q = Q none (am_SH L, am_up (m_ab (am_up (am_up (am_up (am_up h 83 k (s : Int)) 84 k (h 82 s)) 85 (5 * k) (u_w (h 82) n 0 (s + 1, false))) 85 (5 * k + 1) (u_w (h 82) n 0 (u_st (h 82) n 57 (s + 1, false)))) (u_st (h 82) n 59 (u_st (h 82) n 57 (u_st (h 82) n 57 (s + 1, false)))).1 (u_st (h 82) n 59 (u_st (h 82) n 57 (u_st (h 82) n 57 (s + 1, false)))).2) 70 19 ((k + 1 : Nat) : Int), am_RR kp) := by
  have m5 : am_mul 5 (k : Int) = ((5 * k : Nat) : Int) := by rw [am_mul_ok (by omega) (by omega)]; omega
  have m51 : am_add ((5 * k : Nat) : Int) 1 = ((5 * k + 1 : Nat) : Int) := am_incn (by omega)
  have m52 : am_add ((5 * k : Nat) : Int) 2 = ((5 * k + 2 : Nat) : Int) := by rw [am_add_ok (by omega) (by omega)]; omega
  have m53 : am_add ((5 * k : Nat) : Int) 3 = ((5 * k + 3 : Nat) : Int) := by rw [am_add_ok (by omega) (by omega)]; omega
  have hs1 : ((s + 1, false) : Nat × Bool).1 ≤ n := hs
  rw [lp_M_rsY hd hn h96 h8 h19 hk hs (by omega)]
  rw [if_neg (by omega), bq_M_readStatement_99 (by omega), sp_M_rd1b (h := (am_up (am_up h 83 k (s : Int)) 84 k (h 82 s))) (le := h 82) (n := n) (p := (s + 1, false)) rfl (by omega) hn h96 (by show s + 1 ≤ n; omega) h8]
  simp only [Option.toList_some, Option.toList_none, List.cons_append, List.nil_append]
  rw [bq_M_readStatement_102 (by omega), am_gd (by omega) (by omega), Int.toNat_natCast, m_ab_up (by omega), m51]
  rw [if_neg (by omega), sp_M_rd1b (h := (am_up (am_up (am_up h 83 k (s : Int)) 84 k (h 82 s)) 85 (5 * k) (u_w (h 82) n 0 (s + 1, false)))) (le := h 82) (n := n) (p := (u_st (h 82) n 57 (s + 1, false))) rfl (by omega) hn h96 (u_st_le hs1) h8]
  simp only [Option.toList_some, Option.toList_none, List.cons_append, List.nil_append]
  rw [bq_M_readStatement_125, am_gd (by omega) (by omega), Int.toNat_natCast, m_ab_up (by omega), bq_M_readStatement_126 (by omega)]
  rw [if_neg (by omega)]
  refine (lp_M_semib (h := (am_up (am_up (am_up (am_up h 83 k (s : Int)) 84 k (h 82 s)) 85 (5 * k) (u_w (h 82) n 0 (s + 1, false))) 85 (5 * k + 1) (u_w (h 82) n 0 (u_st (h 82) n 57 (s + 1, false))))) (le := h 82) (n := n) (k := k) (p := (u_st (h 82) n 57 (u_st (h 82) n 57 (s + 1, false)))) rfl (by omega) hn h96 (u_st_le (u_st_le hs1)) h19 (by omega)).trans rfl
theorem lp_M_rs_u {d L kp : Nat} {h : Nat → Nat → Int} {Q : Option am_V → am_H → Prop} {n s k : Nat} (hd : 4 ≤ d) (hn : h 70 16 = (n : Int)) (h96 : n ≤ 96) (h8 : ∀ j, 0 ≤ h 82 j ∧ h 82 j ≤ 255) (h19 : h 70 19 = (k : Int)) (hk : k < 49) (hs : s < n) (e : h 82 s = 117) : am_Wp d 193 0 [some (Sum.inr (Sum.inr 70)), none, none, none, none] [] (am_SH L, m_ab h s false, am_RR kp) Q = Q none (am_SH L, am_up (m_ab (am_up (am_up (am_up (am_up h 83 k (s : Int)) 84 k (h 82 s)) 85 (5 * k) (u_w (h 82) n 0 (s + 1, false))) 85 (5 * k + 1) (u_w (h 82) n 0 (u_st (h 82) n 57 (s + 1, false)))) (u_st (h 82) n 59 (u_st (h 82) n 57 (u_st (h 82) n 57 (s + 1, false)))).1 (u_st (h 82) n 59 (u_st (h 82) n 57 (u_st (h 82) n 57 (s + 1, false)))).2) 70 19 ((k + 1 : Nat) : Int), am_RR kp) := by
  have m5 : am_mul 5 (k : Int) = ((5 * k : Nat) : Int) := by rw [am_mul_ok (by omega) (by omega)]; omega
  have m51 : am_add ((5 * k : Nat) : Int) 1 = ((5 * k + 1 : Nat) : Int) := am_incn (by omega)
  have m52 : am_add ((5 * k : Nat) : Int) 2 = ((5 * k + 2 : Nat) : Int) := by rw [am_add_ok (by omega) (by omega)]; omega
  have m53 : am_add ((5 * k : Nat) : Int) 3 = ((5 * k + 3 : Nat) : Int) := by rw [am_add_ok (by omega) (by omega)]; omega
  have hs1 : ((s + 1, false) : Nat × Bool).1 ≤ n := hs
  rw [lp_M_rsY hd hn h96 h8 h19 hk hs (by omega)]
  rw [if_neg (by omega), bq_M_readStatement_99 (by omega), sp_M_rd1b (h := (am_up (am_up h 83 k (s : Int)) 84 k (h 82 s))) (le := h 82) (n := n) (p := (s + 1, false)) rfl (by omega) hn h96 (by show s + 1 ≤ n; omega) h8]
  simp only [Option.toList_some, Option.toList_none, List.cons_append, List.nil_append]
  rw [bq_M_readStatement_102 (by omega), am_gd (by omega) (by omega), Int.toNat_natCast, m_ab_up (by omega), m51]
  rw [if_neg (by omega), sp_M_rd1b (h := (am_up (am_up (am_up h 83 k (s : Int)) 84 k (h 82 s)) 85 (5 * k) (u_w (h 82) n 0 (s + 1, false)))) (le := h 82) (n := n) (p := (u_st (h 82) n 57 (s + 1, false))) rfl (by omega) hn h96 (u_st_le hs1) h8]
  simp only [Option.toList_some, Option.toList_none, List.cons_append, List.nil_append]
  rw [bq_M_readStatement_125, am_gd (by omega) (by omega), Int.toNat_natCast, m_ab_up (by omega), bq_M_readStatement_126 (by omega)]
  rw [if_neg (by omega)]
  refine (lp_M_semib (h := (am_up (am_up (am_up (am_up h 83 k (s : Int)) 84 k (h 82 s)) 85 (5 * k) (u_w (h 82) n 0 (s + 1, false))) 85 (5 * k + 1) (u_w (h 82) n 0 (u_st (h 82) n 57 (s + 1, false))))) (le := h 82) (n := n) (k := k) (p := (u_st (h 82) n 57 (u_st (h 82) n 57 (s + 1, false)))) rfl (by omega) hn h96 (u_st_le (u_st_le hs1)) h19 (by omega)).trans rfl
theorem lp_M_rs_o {d L kp : Nat} {h : Nat → Nat → Int} {Q : Option am_V → am_H → Prop} {n s k : Nat} (hd : 4 ≤ d) (hn : h 70 16 = (n : Int)) (h96 : n ≤ 96) (h8 : ∀ j, 0 ≤ h 82 j ∧ h 82 j ≤ 255) (h19 : h 70 19 = (k : Int)) (hk : k < 49) (hs : s < n) (e : h 82 s = 111) : am_Wp d 193 0 [some (Sum.inr (Sum.inr 70)), none, none, none, none] [] (am_SH L, m_ab h s false, am_RR kp) Q = Q none (am_SH L, am_up (m_ab (am_up (am_up (am_up (am_up (am_up (am_up (am_up h 83 k (s : Int)) 84 k (h 82 s)) 85 (5 * k) (u_w (h 82) n 0 (s + 1, false))) 85 (5 * k + 1) (u_w (h 82) n 0 (u_st (h 82) n 57 (s + 1, false)))) 85 (5 * k + 2) (u_w (h 82) n (u_w (h 82) n 0 (u_st (h 82) n 57 (u_st (h 82) n 57 (s + 1, false)))) (u_st (h 82) n 57 (u_st (h 82) n 57 (u_st (h 82) n 57 (s + 1, false)))))) 85 (5 * k + 3) (u_w (h 82) n (u_w (h 82) n 0 (u_st (h 82) n 57 (u_st (h 82) n 57 (u_st (h 82) n 57 (u_st (h 82) n 57 (s + 1, false)))))) (u_st (h 82) n 57 (u_st (h 82) n 57 (u_st (h 82) n 57 (u_st (h 82) n 57 (u_st (h 82) n 57 (s + 1, false)))))))) 85 (5 * k + 4) (if u_h (h 82) n (u_st (h 82) n 57 (u_st (h 82) n 57 (u_st (h 82) n 57 (u_st (h 82) n 57 (u_st (h 82) n 57 (u_st (h 82) n 57 (s + 1, false))))))).1 = 120 then 1 else 0)) (u_st (h 82) n 59 (u_st (h 82) n 61 (u_st (h 82) n 57 (u_st (h 82) n 57 (u_st (h 82) n 57 (u_st (h 82) n 57 (u_st (h 82) n 57 (u_st (h 82) n 57 (s + 1, false))))))))).1 (u_st (h 82) n 59 (u_st (h 82) n 61 (u_st (h 82) n 57 (u_st (h 82) n 57 (u_st (h 82) n 57 (u_st (h 82) n 57 (u_st (h 82) n 57 (u_st (h 82) n 57 (s + 1, false))))))))).2) 70 19 ((k + 1 : Nat) : Int), am_RR kp) := by
  have m5 : am_mul 5 (k : Int) = ((5 * k : Nat) : Int) := by rw [am_mul_ok (by omega) (by omega)]; omega
  have m51 : am_add ((5 * k : Nat) : Int) 1 = ((5 * k + 1 : Nat) : Int) := am_incn (by omega)
  have m52 : am_add ((5 * k : Nat) : Int) 2 = ((5 * k + 2 : Nat) : Int) := by rw [am_add_ok (by omega) (by omega)]; omega
  have m53 : am_add ((5 * k : Nat) : Int) 3 = ((5 * k + 3 : Nat) : Int) := by rw [am_add_ok (by omega) (by omega)]; omega
  have hs1 : ((s + 1, false) : Nat × Bool).1 ≤ n := hs
  rw [lp_M_rsY hd hn h96 h8 h19 hk hs (by omega)]
  rw [if_neg (by omega), bq_M_readStatement_99 (by omega), sp_M_rd1b (h := (am_up (am_up h 83 k (s : Int)) 84 k (h 82 s))) (le := h 82) (n := n) (p := (s + 1, false)) rfl (by omega) hn h96 (by show s + 1 ≤ n; omega) h8]
  simp only [Option.toList_some, Option.toList_none, List.cons_append, List.nil_append]
  rw [bq_M_readStatement_102 (by omega), am_gd (by omega) (by omega), Int.toNat_natCast, m_ab_up (by omega), m51]
  rw [if_neg (by omega), sp_M_rd1b (h := (am_up (am_up (am_up h 83 k (s : Int)) 84 k (h 82 s)) 85 (5 * k) (u_w (h 82) n 0 (s + 1, false)))) (le := h 82) (n := n) (p := (u_st (h 82) n 57 (s + 1, false))) rfl (by omega) hn h96 (u_st_le hs1) h8]
  simp only [Option.toList_some, Option.toList_none, List.cons_append, List.nil_append]
  rw [bq_M_readStatement_125, am_gd (by omega) (by omega), Int.toNat_natCast, m_ab_up (by omega), bq_M_readStatement_126 (by omega)]
  rw [if_pos e, sp_M_rd2b (h := (am_up (am_up (am_up (am_up h 83 k (s : Int)) 84 k (h 82 s)) 85 (5 * k) (u_w (h 82) n 0 (s + 1, false))) 85 (5 * k + 1) (u_w (h 82) n 0 (u_st (h 82) n 57 (s + 1, false))))) (le := h 82) (n := n) (p := (u_st (h 82) n 57 (u_st (h 82) n 57 (s + 1, false)))) rfl (by omega) hn h96 (u_st_le (u_st_le hs1)) h8]
  simp only [Option.toList_some, Option.toList_none, List.cons_append, List.nil_append]
  rw [m52, bq_M_readStatement_144 (by omega), am_gd (by omega) (by omega), Int.toNat_natCast, m_ab_up (by omega)]
  rw [sp_M_rd2b (h := (am_up (am_up (am_up (am_up (am_up h 83 k (s : Int)) 84 k (h 82 s)) 85 (5 * k) (u_w (h 82) n 0 (s + 1, false))) 85 (5 * k + 1) (u_w (h 82) n 0 (u_st (h 82) n 57 (s + 1, false)))) 85 (5 * k + 2) (u_w (h 82) n (u_w (h 82) n 0 (u_st (h 82) n 57 (u_st (h 82) n 57 (s + 1, false)))) (u_st (h 82) n 57 (u_st (h 82) n 57 (u_st (h 82) n 57 (s + 1, false))))))) (le := h 82) (n := n) (p := (u_st (h 82) n 57 (u_st (h 82) n 57 (u_st (h 82) n 57 (u_st (h 82) n 57 (s + 1, false)))))) rfl (by omega) hn h96 (u_st_le (u_st_le (u_st_le (u_st_le hs1)))) h8]
  simp only [Option.toList_some, Option.toList_none, List.cons_append, List.nil_append]
  rw [m53, bq_M_readStatement_157 (by omega), am_gd (by omega) (by omega), Int.toNat_natCast, m_ab_up (by omega)]
  rw [sp_M_here2 (h := m_ab (am_up (am_up (am_up (am_up (am_up (am_up h 83 k (s : Int)) 84 k (h 82 s)) 85 (5 * k) (u_w (h 82) n 0 (s + 1, false))) 85 (5 * k + 1) (u_w (h 82) n 0 (u_st (h 82) n 57 (s + 1, false)))) 85 (5 * k + 2) (u_w (h 82) n (u_w (h 82) n 0 (u_st (h 82) n 57 (u_st (h 82) n 57 (s + 1, false)))) (u_st (h 82) n 57 (u_st (h 82) n 57 (u_st (h 82) n 57 (s + 1, false)))))) 85 (5 * k + 3) (u_w (h 82) n (u_w (h 82) n 0 (u_st (h 82) n 57 (u_st (h 82) n 57 (u_st (h 82) n 57 (u_st (h 82) n 57 (s + 1, false)))))) (u_st (h 82) n 57 (u_st (h 82) n 57 (u_st (h 82) n 57 (u_st (h 82) n 57 (u_st (h 82) n 57 (s + 1, false)))))))) (u_st (h 82) n 57 (u_st (h 82) n 57 (u_st (h 82) n 57 (u_st (h 82) n 57 (u_st (h 82) n 57 (u_st (h 82) n 57 (s + 1, false))))))).1 (u_st (h 82) n 57 (u_st (h 82) n 57 (u_st (h 82) n 57 (u_st (h 82) n 57 (u_st (h 82) n 57 (u_st (h 82) n 57 (s + 1, false))))))).2) (le := h 82) (n := n) (a := (u_st (h 82) n 57 (u_st (h 82) n 57 (u_st (h 82) n 57 (u_st (h 82) n 57 (u_st (h 82) n 57 (u_st (h 82) n 57 (s + 1, false))))))).1) rfl hn h96 rfl]
  simp only [Option.toList_some, Option.toList_none, List.cons_append, List.nil_append]
  rw [lp_M_markb (h := (am_up (am_up (am_up (am_up (am_up (am_up h 83 k (s : Int)) 84 k (h 82 s)) 85 (5 * k) (u_w (h 82) n 0 (s + 1, false))) 85 (5 * k + 1) (u_w (h 82) n 0 (u_st (h 82) n 57 (s + 1, false)))) 85 (5 * k + 2) (u_w (h 82) n (u_w (h 82) n 0 (u_st (h 82) n 57 (u_st (h 82) n 57 (s + 1, false)))) (u_st (h 82) n 57 (u_st (h 82) n 57 (u_st (h 82) n 57 (s + 1, false)))))) 85 (5 * k + 3) (u_w (h 82) n (u_w (h 82) n 0 (u_st (h 82) n 57 (u_st (h 82) n 57 (u_st (h 82) n 57 (u_st (h 82) n 57 (s + 1, false)))))) (u_st (h 82) n 57 (u_st (h 82) n 57 (u_st (h 82) n 57 (u_st (h 82) n 57 (u_st (h 82) n 57 (s + 1, false))))))))) (le := h 82) (n := n) (k := k) (p := (u_st (h 82) n 57 (u_st (h 82) n 57 (u_st (h 82) n 57 (u_st (h 82) n 57 (u_st (h 82) n 57 (u_st (h 82) n 57 (s + 1, false)))))))) rfl (by omega) hn h96 (u_st_le (u_st_le (u_st_le (u_st_le (u_st_le (u_st_le hs1)))))) hk]
  refine (lp_M_semib (h := (am_up (am_up (am_up (am_up (am_up (am_up (am_up h 83 k (s : Int)) 84 k (h 82 s)) 85 (5 * k) (u_w (h 82) n 0 (s + 1, false))) 85 (5 * k + 1) (u_w (h 82) n 0 (u_st (h 82) n 57 (s + 1, false)))) 85 (5 * k + 2) (u_w (h 82) n (u_w (h 82) n 0 (u_st (h 82) n 57 (u_st (h 82) n 57 (s + 1, false)))) (u_st (h 82) n 57 (u_st (h 82) n 57 (u_st (h 82) n 57 (s + 1, false)))))) 85 (5 * k + 3) (u_w (h 82) n (u_w (h 82) n 0 (u_st (h 82) n 57 (u_st (h 82) n 57 (u_st (h 82) n 57 (u_st (h 82) n 57 (s + 1, false)))))) (u_st (h 82) n 57 (u_st (h 82) n 57 (u_st (h 82) n 57 (u_st (h 82) n 57 (u_st (h 82) n 57 (s + 1, false)))))))) 85 (5 * k + 4) (if u_h (h 82) n (u_st (h 82) n 57 (u_st (h 82) n 57 (u_st (h 82) n 57 (u_st (h 82) n 57 (u_st (h 82) n 57 (u_st (h 82) n 57 (s + 1, false))))))).1 = 120 then 1 else 0))) (le := h 82) (n := n) (k := k) (p := (u_st (h 82) n 61 (u_st (h 82) n 57 (u_st (h 82) n 57 (u_st (h 82) n 57 (u_st (h 82) n 57 (u_st (h 82) n 57 (u_st (h 82) n 57 (s + 1, false))))))))) rfl (by omega) hn h96 (u_st_le (u_st_le (u_st_le (u_st_le (u_st_le (u_st_le (u_st_le hs1))))))) h19 (by omega)).trans rfl
theorem lp_M_rs_d {d L kp : Nat} {h : Nat → Nat → Int} {Q : Option am_V → am_H → Prop} {n s k : Nat} (hd : 4 ≤ d) (hn : h 70 16 = (n : Int)) (h96 : n ≤ 96) (h8 : ∀ j, 0 ≤ h 82 j ∧ h 82 j ≤ 255) (h19 : h 70 19 = (k : Int)) (hk : k < 49) (hs : s < n) (e : h 82 s = 100) : am_Wp d 193 0 [some (Sum.inr (Sum.inr 70)), none, none, none, none] [] (am_SH L, m_ab h s false, am_RR kp) Q = Q none (am_SH L, am_up (m_ab (am_up (am_up (am_up (am_up h 83 k (s : Int)) 84 k (h 82 s)) 85 (5 * k) (u_w (h 82) n 0 (s + 1, false))) 85 (5 * k + 1) 0) (u_st (h 82) n 59 (u_st (h 82) n 57 (s + 1, false))).1 (u_st (h 82) n 59 (u_st (h 82) n 57 (s + 1, false))).2) 70 19 ((k + 1 : Nat) : Int), am_RR kp) := by
  have m5 : am_mul 5 (k : Int) = ((5 * k : Nat) : Int) := by rw [am_mul_ok (by omega) (by omega)]; omega
  have m51 : am_add ((5 * k : Nat) : Int) 1 = ((5 * k + 1 : Nat) : Int) := am_incn (by omega)
  have m52 : am_add ((5 * k : Nat) : Int) 2 = ((5 * k + 2 : Nat) : Int) := by rw [am_add_ok (by omega) (by omega)]; omega
  have m53 : am_add ((5 * k : Nat) : Int) 3 = ((5 * k + 3 : Nat) : Int) := by rw [am_add_ok (by omega) (by omega)]; omega
  have hs1 : ((s + 1, false) : Nat × Bool).1 ≤ n := hs
  rw [lp_M_rsY hd hn h96 h8 h19 hk hs (by omega)]
  rw [if_neg (by omega), bq_M_readStatement_99 (by omega), sp_M_rd1b (h := (am_up (am_up h 83 k (s : Int)) 84 k (h 82 s))) (le := h 82) (n := n) (p := (s + 1, false)) rfl (by omega) hn h96 (by show s + 1 ≤ n; omega) h8]
  simp only [Option.toList_some, Option.toList_none, List.cons_append, List.nil_append]
  rw [bq_M_readStatement_102 (by omega), am_gd (by omega) (by omega), Int.toNat_natCast, m_ab_up (by omega), m51]
  rw [if_pos e]
  rw [bq_M_readStatement_125, am_gd (by omega) (by omega), Int.toNat_natCast, m_ab_up (by omega), bq_M_readStatement_126 (by omega)]
  rw [if_neg (by omega)]
  refine (lp_M_semib (h := (am_up (am_up (am_up (am_up h 83 k (s : Int)) 84 k (h 82 s)) 85 (5 * k) (u_w (h 82) n 0 (s + 1, false))) 85 (5 * k + 1) 0)) (le := h 82) (n := n) (k := k) (p := (u_st (h 82) n 57 (s + 1, false))) rfl (by omega) hn h96 (u_st_le hs1) h19 (by omega)).trans rfl
theorem lp_M_rs_m {d L kp : Nat} {h : Nat → Nat → Int} {Q : Option am_V → am_H → Prop} {n s k : Nat} (hd : 4 ≤ d) (hn : h 70 16 = (n : Int)) (h96 : n ≤ 96) (h8 : ∀ j, 0 ≤ h 82 j ∧ h 82 j ≤ 255) (h19 : h 70 19 = (k : Int)) (hk : k < 49) (hs : s < n) (e : h 82 s = 109) : am_Wp d 193 0 [some (Sum.inr (Sum.inr 70)), none, none, none, none] [] (am_SH L, m_ab h s false, am_RR kp) Q = Q none (am_SH L, am_up (m_ab (am_up (am_up (am_up (am_up h 83 k (s : Int)) 84 k (h 82 s)) 85 (5 * k) (u_w (h 82) n (u_w (h 82) n 0 (s + 1, false)) (u_st (h 82) n 57 (s + 1, false)))) 85 (5 * k + 1) (u_w (h 82) n 0 (u_st (h 82) n 57 (u_st (h 82) n 57 (s + 1, false))))) (u_st (h 82) n 59 (u_st (h 82) n 57 (u_st (h 82) n 57 (u_st (h 82) n 57 (s + 1, false))))).1 (u_st (h 82) n 59 (u_st (h 82) n 57 (u_st (h 82) n 57 (u_st (h 82) n 57 (s + 1, false))))).2) 70 19 ((k + 1 : Nat) : Int), am_RR kp) := by
  have m5 : am_mul 5 (k : Int) = ((5 * k : Nat) : Int) := by rw [am_mul_ok (by omega) (by omega)]; omega
  have m51 : am_add ((5 * k : Nat) : Int) 1 = ((5 * k + 1 : Nat) : Int) := am_incn (by omega)
  have m52 : am_add ((5 * k : Nat) : Int) 2 = ((5 * k + 2 : Nat) : Int) := by rw [am_add_ok (by omega) (by omega)]; omega
  have m53 : am_add ((5 * k : Nat) : Int) 3 = ((5 * k + 3 : Nat) : Int) := by rw [am_add_ok (by omega) (by omega)]; omega
  have hs1 : ((s + 1, false) : Nat × Bool).1 ≤ n := hs
  rw [lp_M_rsY hd hn h96 h8 h19 hk hs (by omega)]
  rw [if_pos e, bq_M_readStatement_99 (by omega), sp_M_rd2b (h := (am_up (am_up h 83 k (s : Int)) 84 k (h 82 s))) (le := h 82) (n := n) (p := (s + 1, false)) rfl (by omega) hn h96 (by show s + 1 ≤ n; omega) h8]
  simp only [Option.toList_some, Option.toList_none, List.cons_append, List.nil_append]
  rw [bq_M_readStatement_102 (by omega), am_gd (by omega) (by omega), Int.toNat_natCast, m_ab_up (by omega), m51]
  rw [if_neg (by omega), sp_M_rd1b (h := (am_up (am_up (am_up h 83 k (s : Int)) 84 k (h 82 s)) 85 (5 * k) (u_w (h 82) n (u_w (h 82) n 0 (s + 1, false)) (u_st (h 82) n 57 (s + 1, false))))) (le := h 82) (n := n) (p := (u_st (h 82) n 57 (u_st (h 82) n 57 (s + 1, false)))) rfl (by omega) hn h96 (u_st_le (u_st_le hs1)) h8]
  simp only [Option.toList_some, Option.toList_none, List.cons_append, List.nil_append]
  rw [bq_M_readStatement_125, am_gd (by omega) (by omega), Int.toNat_natCast, m_ab_up (by omega), bq_M_readStatement_126 (by omega)]
  rw [if_neg (by omega)]
  refine (lp_M_semib (h := (am_up (am_up (am_up (am_up h 83 k (s : Int)) 84 k (h 82 s)) 85 (5 * k) (u_w (h 82) n (u_w (h 82) n 0 (s + 1, false)) (u_st (h 82) n 57 (s + 1, false)))) 85 (5 * k + 1) (u_w (h 82) n 0 (u_st (h 82) n 57 (u_st (h 82) n 57 (s + 1, false)))))) (le := h 82) (n := n) (k := k) (p := (u_st (h 82) n 57 (u_st (h 82) n 57 (u_st (h 82) n 57 (s + 1, false))))) rfl (by omega) hn h96 (u_st_le (u_st_le (u_st_le hs1))) h19 (by omega)).trans rfl
theorem sp_M_rsGood {d L kp : Nat} {h : Nat → Nat → Int} {Q : Option am_V → am_H → Prop} {n s k : Nat} (hd : 4 ≤ d) (hn : h 70 16 = (n : Int)) (h96 : n ≤ 96) (h8 : ∀ j, 0 ≤ h 82 j ∧ h 82 j ≤ 255) (h19 : h 70 19 = (k : Int)) (hk : k < 49) (h17 : h 70 17 = (s : Int)) (h18 : h 70 18 = 0) (hf : u_fit (h 82) n s) (hq : ∀ g, g 70 17 = ((s + u_l (h 82 s) : Nat) : Int) → g 70 18 = 0 → g 70 19 = ((k + 1 : Nat) : Int) → m_told (h 82) g k s → m_fra h g k → Q none (am_SH L, g, am_RR kp)) : am_Wp d 193 0 [some (Sum.inr (Sum.inr 70)), none, none, none, none] [] (am_SH L, h, am_RR kp) Q := by
  have hid : m_ab h s false = h := m_ab_id h17 h18
  have hs : s < n := (hf.2 0 hf.1).1
  have key : am_Wp d 193 0 [some (Sum.inr (Sum.inr 70)), none, none, none, none] [] (am_SH L, m_ab h s false, am_RR kp) Q := ?_
  · rw [hid] at key; exact key
  rcases u_x_cases (h 82 s) with ⟨e, hx⟩ | ⟨e, hx⟩ | ⟨e, hx⟩ | ⟨e, hx⟩ | ⟨e, hx⟩ | ⟨-, hx⟩
  · have hl := u_l_of (m := 3) hx rfl
    have hf2 := hf.2
    rw [hl] at hf2
    unfold u_at at hf2
    rw [u_t_of hx] at hf2
    have a1 := hf2 1 (by omega)
    have q1 : u_st (h 82) n 57 (s + 1, false) = (s + 2, false) := u_st_y (f := 57) a1.1 a1.2
    have a2 := hf2 2 (by omega)
    have q2 : u_st (h 82) n 59 (s + 2, false) = (s + 3, false) := u_st_y (f := 59) a2.1 a2.2
    rw [lp_M_rs_d hd hn h96 h8 h19 hk hs e, q1, q2]
    refine hq _ ?_ rfl am_upe ⟨?_, ?_, fun _ => ⟨?_, ?_⟩, fun w => absurd (e.symm.trans w) (by omega), fun w => absurd (e.symm.trans w) (by omega), fun w => absurd (e.symm.trans w) (by omega), fun w => absurd (e.symm.trans w) (by omega)⟩ (m_fra_8 (m_fra_ab (m_fra_8 (m_fra_8 (m_fra_8 (m_fra_8 m_fra_r (Or.inl ⟨rfl, rfl⟩)) (Or.inr (Or.inl ⟨rfl, rfl⟩))) (Or.inr (Or.inr (Or.inl ⟨rfl, by omega, by omega⟩)))) (Or.inr (Or.inr (Or.inl ⟨rfl, by omega, by omega⟩))))) (Or.inr (Or.inr (Or.inr ⟨rfl, rfl⟩))))
    · rw [hl]; rfl
    · rw [am_upo (by omega), m_ab_o (by omega), am_upo (by omega), am_upo (by omega), am_upo (by omega), am_upe]
    · rw [am_upo (by omega), m_ab_o (by omega), am_upo (by omega), am_upo (by omega), am_upe]
    · show am_up (m_ab (am_up (am_up (am_up (am_up h 83 k (s : Int)) 84 k (h 82 s)) 85 (5 * k) (u_w (h 82) n 0 (s + 1, false))) 85 (5 * k + 1) 0) (s + 3) false) 70 19 _ 85 (5 * k) = _
      rw [am_upo (by omega), m_ab_o (by omega), am_upj (by omega), am_upe]
      rw [u_w_y (a := s + 1) q1]
      show 10 * 0 + h 82 (s + 1) - 48 = h 82 (s + 1) - 48
      omega
    · show am_up (m_ab (am_up (am_up (am_up (am_up h 83 k (s : Int)) 84 k (h 82 s)) 85 (5 * k) (u_w (h 82) n 0 (s + 1, false))) 85 (5 * k + 1) 0) (s + 3) false) 70 19 _ 85 (5 * k + 1) = _
      rw [am_upo (by omega), m_ab_o (by omega), am_upe]
  · have hl := u_l_of (m := 5) hx rfl
    have hf2 := hf.2
    rw [hl] at hf2
    unfold u_at at hf2
    rw [u_t_of hx] at hf2
    have a1 := hf2 1 (by omega)
    have q1 : u_st (h 82) n 57 (s + 1, false) = (s + 2, false) := u_st_y (f := 57) a1.1 a1.2
    have a2 := hf2 2 (by omega)
    have q2 : u_st (h 82) n 57 (s + 2, false) = (s + 3, false) := u_st_y (f := 57) a2.1 a2.2
    have a3 := hf2 3 (by omega)
    have q3 : u_st (h 82) n 57 (s + 3, false) = (s + 4, false) := u_st_y (f := 57) a3.1 a3.2
    have a4 := hf2 4 (by omega)
    have q4 : u_st (h 82) n 59 (s + 4, false) = (s + 5, false) := u_st_y (f := 59) a4.1 a4.2
    rw [lp_M_rs_m hd hn h96 h8 h19 hk hs e, q1, q2, q3, q4]
    refine hq _ ?_ rfl am_upe ⟨?_, ?_, fun w => absurd (e.symm.trans w) (by omega), fun _ => ⟨?_, ?_⟩, fun w => absurd (e.symm.trans w) (by omega), fun w => absurd (e.symm.trans w) (by omega), fun w => absurd (e.symm.trans w) (by omega)⟩ (m_fra_8 (m_fra_ab (m_fra_8 (m_fra_8 (m_fra_8 (m_fra_8 m_fra_r (Or.inl ⟨rfl, rfl⟩)) (Or.inr (Or.inl ⟨rfl, rfl⟩))) (Or.inr (Or.inr (Or.inl ⟨rfl, by omega, by omega⟩)))) (Or.inr (Or.inr (Or.inl ⟨rfl, by omega, by omega⟩))))) (Or.inr (Or.inr (Or.inr ⟨rfl, rfl⟩))))
    · rw [hl]; rfl
    · rw [am_upo (by omega), m_ab_o (by omega), am_upo (by omega), am_upo (by omega), am_upo (by omega), am_upe]
    · rw [am_upo (by omega), m_ab_o (by omega), am_upo (by omega), am_upo (by omega), am_upe]
    · show am_up (m_ab (am_up (am_up (am_up (am_up h 83 k (s : Int)) 84 k (h 82 s)) 85 (5 * k) (u_w (h 82) n (u_w (h 82) n 0 (s + 1, false)) (s + 2, false))) 85 (5 * k + 1) (u_w (h 82) n 0 (s + 3, false))) (s + 5) false) 70 19 _ 85 (5 * k) = _
      rw [am_upo (by omega), m_ab_o (by omega), am_upj (by omega), am_upe]
      rw [u_w_y (a := s + 1) q1, u_w_y (a := s + 2) q2]
      show 10 * (10 * 0 + h 82 (s + 1) - 48) + h 82 (s + 2) - 48 = 10 * (h 82 (s + 1) - 48) + (h 82 (s + (1 + 1)) - 48)
      rw [show s + (1 + 1) = s + 2 by omega]
      omega
    · show am_up (m_ab (am_up (am_up (am_up (am_up h 83 k (s : Int)) 84 k (h 82 s)) 85 (5 * k) (u_w (h 82) n (u_w (h 82) n 0 (s + 1, false)) (s + 2, false))) 85 (5 * k + 1) (u_w (h 82) n 0 (s + 3, false))) (s + 5) false) 70 19 _ 85 (5 * k + 1) = _
      rw [am_upo (by omega), m_ab_o (by omega), am_upe]
      rw [u_w_y (a := s + 3) q3]
      show 10 * 0 + h 82 (s + 3) - 48 = h 82 (s + 3) - 48
      omega
  · have hl := u_l_of (m := 9) hx rfl
    have hf2 := hf.2
    rw [hl] at hf2
    unfold u_at at hf2
    rw [u_t_of hx] at hf2
    have a1 := hf2 1 (by omega)
    have q1 : u_st (h 82) n 57 (s + 1, false) = (s + 2, false) := u_st_y (f := 57) a1.1 a1.2
    have a2 := hf2 2 (by omega)
    have q2 : u_st (h 82) n 57 (s + 2, false) = (s + 3, false) := u_st_y (f := 57) a2.1 a2.2
    have a3 := hf2 3 (by omega)
    have q3 : u_st (h 82) n 57 (s + 3, false) = (s + 4, false) := u_st_y (f := 57) a3.1 a3.2
    have a4 := hf2 4 (by omega)
    have q4 : u_st (h 82) n 57 (s + 4, false) = (s + 5, false) := u_st_y (f := 57) a4.1 a4.2
    have a5 := hf2 5 (by omega)
    have q5 : u_st (h 82) n 57 (s + 5, false) = (s + 6, false) := u_st_y (f := 57) a5.1 a5.2
    have a6 := hf2 6 (by omega)
    have q6 : u_st (h 82) n 57 (s + 6, false) = (s + 7, false) := u_st_y (f := 57) a6.1 a6.2
    have a7 := hf2 7 (by omega)
    have q7 : u_st (h 82) n 61 (s + 7, false) = (s + 8, false) := u_st_y (f := 61) a7.1 a7.2
    have a8 := hf2 8 (by omega)
    have q8 : u_st (h 82) n 59 (s + 8, false) = (s + 9, false) := u_st_y (f := 59) a8.1 a8.2
    rw [lp_M_rs_o hd hn h96 h8 h19 hk hs e, q1, q2, q3, q4, q5, q6, q7, q8]
    refine hq _ ?_ rfl am_upe ⟨?_, ?_, fun w => absurd (e.symm.trans w) (by omega), fun w => absurd (e.symm.trans w) (by omega), fun _ => ⟨?_, ?_, ?_, ?_, ?_⟩, fun w => absurd (e.symm.trans w) (by omega), fun w => absurd (e.symm.trans w) (by omega)⟩ (m_fra_8 (m_fra_ab (m_fra_8 (m_fra_8 (m_fra_8 (m_fra_8 (m_fra_8 (m_fra_8 (m_fra_8 m_fra_r (Or.inl ⟨rfl, rfl⟩)) (Or.inr (Or.inl ⟨rfl, rfl⟩))) (Or.inr (Or.inr (Or.inl ⟨rfl, by omega, by omega⟩)))) (Or.inr (Or.inr (Or.inl ⟨rfl, by omega, by omega⟩)))) (Or.inr (Or.inr (Or.inl ⟨rfl, by omega, by omega⟩)))) (Or.inr (Or.inr (Or.inl ⟨rfl, by omega, by omega⟩)))) (Or.inr (Or.inr (Or.inl ⟨rfl, by omega, by omega⟩))))) (Or.inr (Or.inr (Or.inr ⟨rfl, rfl⟩))))
    · rw [hl]; rfl
    · rw [am_upo (by omega), m_ab_o (by omega), am_upo (by omega), am_upo (by omega), am_upo (by omega), am_upo (by omega), am_upo (by omega), am_upo (by omega), am_upe]
    · rw [am_upo (by omega), m_ab_o (by omega), am_upo (by omega), am_upo (by omega), am_upo (by omega), am_upo (by omega), am_upo (by omega), am_upe]
    · show am_up (m_ab (am_up (am_up (am_up (am_up (am_up (am_up (am_up h 83 k (s : Int)) 84 k (h 82 s)) 85 (5 * k) (u_w (h 82) n 0 (s + 1, false))) 85 (5 * k + 1) (u_w (h 82) n 0 (s + 2, false))) 85 (5 * k + 2) (u_w (h 82) n (u_w (h 82) n 0 (s + 3, false)) (s + 4, false))) 85 (5 * k + 3) (u_w (h 82) n (u_w (h 82) n 0 (s + 5, false)) (s + 6, false))) 85 (5 * k + 4) (if u_h (h 82) n (s + 7, false).1 = 120 then 1 else 0)) (s + 9) false) 70 19 _ 85 (5 * k) = _
      rw [am_upo (by omega), m_ab_o (by omega), am_upj (by omega), am_upj (by omega), am_upj (by omega), am_upj (by omega), am_upe]
      rw [u_w_y (a := s + 1) q1]
      show 10 * 0 + h 82 (s + 1) - 48 = h 82 (s + 1) - 48
      omega
    · show am_up (m_ab (am_up (am_up (am_up (am_up (am_up (am_up (am_up h 83 k (s : Int)) 84 k (h 82 s)) 85 (5 * k) (u_w (h 82) n 0 (s + 1, false))) 85 (5 * k + 1) (u_w (h 82) n 0 (s + 2, false))) 85 (5 * k + 2) (u_w (h 82) n (u_w (h 82) n 0 (s + 3, false)) (s + 4, false))) 85 (5 * k + 3) (u_w (h 82) n (u_w (h 82) n 0 (s + 5, false)) (s + 6, false))) 85 (5 * k + 4) (if u_h (h 82) n (s + 7, false).1 = 120 then 1 else 0)) (s + 9) false) 70 19 _ 85 (5 * k + 1) = _
      rw [am_upo (by omega), m_ab_o (by omega), am_upj (by omega), am_upj (by omega), am_upj (by omega), am_upe]
      rw [u_w_y (a := s + 2) q2]
      show 10 * 0 + h 82 (s + 2) - 48 = h 82 (s + 2) - 48
      omega
    · show am_up (m_ab (am_up (am_up (am_up (am_up (am_up (am_up (am_up h 83 k (s : Int)) 84 k (h 82 s)) 85 (5 * k) (u_w (h 82) n 0 (s + 1, false))) 85 (5 * k + 1) (u_w (h 82) n 0 (s + 2, false))) 85 (5 * k + 2) (u_w (h 82) n (u_w (h 82) n 0 (s + 3, false)) (s + 4, false))) 85 (5 * k + 3) (u_w (h 82) n (u_w (h 82) n 0 (s + 5, false)) (s + 6, false))) 85 (5 * k + 4) (if u_h (h 82) n (s + 7, false).1 = 120 then 1 else 0)) (s + 9) false) 70 19 _ 85 (5 * k + 2) = _
      rw [am_upo (by omega), m_ab_o (by omega), am_upj (by omega), am_upj (by omega), am_upe]
      rw [u_w_y (a := s + 3) q3, u_w_y (a := s + 4) q4]
      show 10 * (10 * 0 + h 82 (s + 3) - 48) + h 82 (s + 4) - 48 = 10 * (h 82 (s + 3) - 48) + (h 82 (s + (3 + 1)) - 48)
      rw [show s + (3 + 1) = s + 4 by omega]
      omega
    · show am_up (m_ab (am_up (am_up (am_up (am_up (am_up (am_up (am_up h 83 k (s : Int)) 84 k (h 82 s)) 85 (5 * k) (u_w (h 82) n 0 (s + 1, false))) 85 (5 * k + 1) (u_w (h 82) n 0 (s + 2, false))) 85 (5 * k + 2) (u_w (h 82) n (u_w (h 82) n 0 (s + 3, false)) (s + 4, false))) 85 (5 * k + 3) (u_w (h 82) n (u_w (h 82) n 0 (s + 5, false)) (s + 6, false))) 85 (5 * k + 4) (if u_h (h 82) n (s + 7, false).1 = 120 then 1 else 0)) (s + 9) false) 70 19 _ 85 (5 * k + 3) = _
      rw [am_upo (by omega), m_ab_o (by omega), am_upj (by omega), am_upe]
      rw [u_w_y (a := s + 5) q5, u_w_y (a := s + 6) q6]
      show 10 * (10 * 0 + h 82 (s + 5) - 48) + h 82 (s + 6) - 48 = 10 * (h 82 (s + 5) - 48) + (h 82 (s + (5 + 1)) - 48)
      rw [show s + (5 + 1) = s + 6 by omega]
      omega
    · show am_up (m_ab (am_up (am_up (am_up (am_up (am_up (am_up (am_up h 83 k (s : Int)) 84 k (h 82 s)) 85 (5 * k) (u_w (h 82) n 0 (s + 1, false))) 85 (5 * k + 1) (u_w (h 82) n 0 (s + 2, false))) 85 (5 * k + 2) (u_w (h 82) n (u_w (h 82) n 0 (s + 3, false)) (s + 4, false))) 85 (5 * k + 3) (u_w (h 82) n (u_w (h 82) n 0 (s + 5, false)) (s + 6, false))) 85 (5 * k + 4) (if u_h (h 82) n (s + 7, false).1 = 120 then 1 else 0)) (s + 9) false) 70 19 _ 85 (5 * k + 4) = _
      rw [am_upo (by omega), m_ab_o (by omega), am_upe]
      unfold u_h
      rw [if_pos (show (s + 7, false).1 < n from a7.1)]
  · have hl := u_l_of (m := 4) hx rfl
    have hf2 := hf.2
    rw [hl] at hf2
    unfold u_at at hf2
    rw [u_t_of hx] at hf2
    have a1 := hf2 1 (by omega)
    have q1 : u_st (h 82) n 57 (s + 1, false) = (s + 2, false) := u_st_y (f := 57) a1.1 a1.2
    have a2 := hf2 2 (by omega)
    have q2 : u_st (h 82) n 57 (s + 2, false) = (s + 3, false) := u_st_y (f := 57) a2.1 a2.2
    have a3 := hf2 3 (by omega)
    have q3 : u_st (h 82) n 59 (s + 3, false) = (s + 4, false) := u_st_y (f := 59) a3.1 a3.2
    rw [lp_M_rs_p hd hn h96 h8 h19 hk hs e, q1, q2, q3]
    refine hq _ ?_ rfl am_upe ⟨?_, ?_, fun w => absurd (e.symm.trans w) (by omega), fun w => absurd (e.symm.trans w) (by omega), fun w => absurd (e.symm.trans w) (by omega), fun _ => ⟨?_, ?_⟩, fun w => absurd (e.symm.trans w) (by omega)⟩ (m_fra_8 (m_fra_ab (m_fra_8 (m_fra_8 (m_fra_8 (m_fra_8 m_fra_r (Or.inl ⟨rfl, rfl⟩)) (Or.inr (Or.inl ⟨rfl, rfl⟩))) (Or.inr (Or.inr (Or.inl ⟨rfl, by omega, by omega⟩)))) (Or.inr (Or.inr (Or.inl ⟨rfl, by omega, by omega⟩))))) (Or.inr (Or.inr (Or.inr ⟨rfl, rfl⟩))))
    · rw [hl]; rfl
    · rw [am_upo (by omega), m_ab_o (by omega), am_upo (by omega), am_upo (by omega), am_upo (by omega), am_upe]
    · rw [am_upo (by omega), m_ab_o (by omega), am_upo (by omega), am_upo (by omega), am_upe]
    · show am_up (m_ab (am_up (am_up (am_up (am_up h 83 k (s : Int)) 84 k (h 82 s)) 85 (5 * k) (u_w (h 82) n 0 (s + 1, false))) 85 (5 * k + 1) (u_w (h 82) n 0 (s + 2, false))) (s + 4) false) 70 19 _ 85 (5 * k) = _
      rw [am_upo (by omega), m_ab_o (by omega), am_upj (by omega), am_upe]
      rw [u_w_y (a := s + 1) q1]
      show 10 * 0 + h 82 (s + 1) - 48 = h 82 (s + 1) - 48
      omega
    · show am_up (m_ab (am_up (am_up (am_up (am_up h 83 k (s : Int)) 84 k (h 82 s)) 85 (5 * k) (u_w (h 82) n 0 (s + 1, false))) 85 (5 * k + 1) (u_w (h 82) n 0 (s + 2, false))) (s + 4) false) 70 19 _ 85 (5 * k + 1) = _
      rw [am_upo (by omega), m_ab_o (by omega), am_upe]
      rw [u_w_y (a := s + 2) q2]
      show 10 * 0 + h 82 (s + 2) - 48 = h 82 (s + 2) - 48
      omega
  · have hl := u_l_of (m := 4) hx rfl
    have hf2 := hf.2
    rw [hl] at hf2
    unfold u_at at hf2
    rw [u_t_of hx] at hf2
    have a1 := hf2 1 (by omega)
    have q1 : u_st (h 82) n 57 (s + 1, false) = (s + 2, false) := u_st_y (f := 57) a1.1 a1.2
    have a2 := hf2 2 (by omega)
    have q2 : u_st (h 82) n 57 (s + 2, false) = (s + 3, false) := u_st_y (f := 57) a2.1 a2.2
    have a3 := hf2 3 (by omega)
    have q3 : u_st (h 82) n 59 (s + 3, false) = (s + 4, false) := u_st_y (f := 59) a3.1 a3.2
    rw [lp_M_rs_u hd hn h96 h8 h19 hk hs e, q1, q2, q3]
    refine hq _ ?_ rfl am_upe ⟨?_, ?_, fun w => absurd (e.symm.trans w) (by omega), fun w => absurd (e.symm.trans w) (by omega), fun w => absurd (e.symm.trans w) (by omega), fun w => absurd (e.symm.trans w) (by omega), fun _ => ⟨?_, ?_⟩⟩ (m_fra_8 (m_fra_ab (m_fra_8 (m_fra_8 (m_fra_8 (m_fra_8 m_fra_r (Or.inl ⟨rfl, rfl⟩)) (Or.inr (Or.inl ⟨rfl, rfl⟩))) (Or.inr (Or.inr (Or.inl ⟨rfl, by omega, by omega⟩)))) (Or.inr (Or.inr (Or.inl ⟨rfl, by omega, by omega⟩))))) (Or.inr (Or.inr (Or.inr ⟨rfl, rfl⟩))))
    · rw [hl]; rfl
    · rw [am_upo (by omega), m_ab_o (by omega), am_upo (by omega), am_upo (by omega), am_upo (by omega), am_upe]
    · rw [am_upo (by omega), m_ab_o (by omega), am_upo (by omega), am_upo (by omega), am_upe]
    · show am_up (m_ab (am_up (am_up (am_up (am_up h 83 k (s : Int)) 84 k (h 82 s)) 85 (5 * k) (u_w (h 82) n 0 (s + 1, false))) 85 (5 * k + 1) (u_w (h 82) n 0 (s + 2, false))) (s + 4) false) 70 19 _ 85 (5 * k) = _
      rw [am_upo (by omega), m_ab_o (by omega), am_upj (by omega), am_upe]
      rw [u_w_y (a := s + 1) q1]
      show 10 * 0 + h 82 (s + 1) - 48 = h 82 (s + 1) - 48
      omega
    · show am_up (m_ab (am_up (am_up (am_up (am_up h 83 k (s : Int)) 84 k (h 82 s)) 85 (5 * k) (u_w (h 82) n 0 (s + 1, false))) 85 (5 * k + 1) (u_w (h 82) n 0 (s + 2, false))) (s + 4) false) 70 19 _ 85 (5 * k + 1) = _
      rw [am_upo (by omega), m_ab_o (by omega), am_upe]
      rw [u_w_y (a := s + 2) q2]
      show 10 * 0 + h 82 (s + 2) - 48 = h 82 (s + 2) - 48
      omega
  · have h1 := hf.1
    rw [u_l_of (m := 0) hx rfl] at h1
    omega
theorem sp_M_rsBad {d L kp : Nat} {h : Nat → Nat → Int} {Q : Option am_V → am_H → Prop} {n s k i : Nat} (hd : 4 ≤ d) (hn : h 70 16 = (n : Int)) (h96 : n ≤ 96) (h8 : ∀ j, 0 ≤ h 82 j ∧ h 82 j ≤ 255) (h19 : h 70 19 = (k : Int)) (hk : k < 49) (h17 : h 70 17 = (s : Int)) (h18 : h 70 18 = 0) (hs : s ≤ n) (hb : u_bad (h 82) n s i) (hq : ∀ g, g 70 17 = ((s + i : Nat) : Int) → g 70 18 = 1 → g 70 19 = ((k + 1 : Nat) : Int) → m_fra h g k → Q none (am_SH L, g, am_RR kp)) : am_Wp d 193 0 [some (Sum.inr (Sum.inr 70)), none, none, none, none] [] (am_SH L, h, am_RR kp) Q := by
  have hid : m_ab h s false = h := m_ab_id h17 h18
  have key : am_Wp d 193 0 [some (Sum.inr (Sum.inr 70)), none, none, none, none] [] (am_SH L, m_ab h s false, am_RR kp) Q := ?_
  · rw [hid] at key; exact key
  by_cases hsn : s < n
  · rcases u_x_cases (h 82 s) with ⟨e, hx⟩ | ⟨e, hx⟩ | ⟨e, hx⟩ | ⟨e, hx⟩ | ⟨e, hx⟩ | ⟨e, hx⟩
    · have hl := u_l_of (m := 3) hx rfl
      rcases hb with ⟨h1, -⟩ | ⟨h1, h2, h3⟩
      · omega
      · rw [hl] at h1
        unfold u_at at h2 h3
        rw [u_t_of hx] at h2 h3
        obtain ⟨i, rfl⟩ : ∃ j, i = j + 1 := ⟨i - 1, by
          refine Decidable.byContradiction fun w => ?_
          have hi0 : i = 0 := by omega
          subst hi0
          exact h3 ⟨hsn, by rw [Nat.add_zero, e]; rfl⟩⟩
        have hfin : (u_st (h 82) n 59 (u_st (h 82) n 57 (s + 1, false))) = (s + (i + 1), true) := by
          have h4 := u_fo_bad (le := h 82) (n := n) [57, 59] (s + 1) i (by show i < 2; omega) (fun j hj => by
            have := h2 (j + 1) (by omega)
            rw [show s + (j + 1) = s + 1 + j by omega] at this
            exact this) (by
            rw [show s + (i + 1) = s + 1 + i by omega] at h3
            exact h3)
          rw [show s + 1 + i = s + (i + 1) by omega] at h4
          exact h4
        rw [lp_M_rs_d hd hn h96 h8 h19 hk hsn e, hfin]
        exact hq _ rfl rfl am_upe (m_fra_8 (m_fra_ab (m_fra_8 (m_fra_8 (m_fra_8 (m_fra_8 m_fra_r (Or.inl ⟨rfl, rfl⟩)) (Or.inr (Or.inl ⟨rfl, rfl⟩))) (Or.inr (Or.inr (Or.inl ⟨rfl, by omega, by omega⟩)))) (Or.inr (Or.inr (Or.inl ⟨rfl, by omega, by omega⟩))))) (Or.inr (Or.inr (Or.inr ⟨rfl, rfl⟩))))
    · have hl := u_l_of (m := 5) hx rfl
      rcases hb with ⟨h1, -⟩ | ⟨h1, h2, h3⟩
      · omega
      · rw [hl] at h1
        unfold u_at at h2 h3
        rw [u_t_of hx] at h2 h3
        obtain ⟨i, rfl⟩ : ∃ j, i = j + 1 := ⟨i - 1, by
          refine Decidable.byContradiction fun w => ?_
          have hi0 : i = 0 := by omega
          subst hi0
          exact h3 ⟨hsn, by rw [Nat.add_zero, e]; rfl⟩⟩
        have hfin : (u_st (h 82) n 59 (u_st (h 82) n 57 (u_st (h 82) n 57 (u_st (h 82) n 57 (s + 1, false))))) = (s + (i + 1), true) := by
          have h4 := u_fo_bad (le := h 82) (n := n) [57, 57, 57, 59] (s + 1) i (by show i < 4; omega) (fun j hj => by
            have := h2 (j + 1) (by omega)
            rw [show s + (j + 1) = s + 1 + j by omega] at this
            exact this) (by
            rw [show s + (i + 1) = s + 1 + i by omega] at h3
            exact h3)
          rw [show s + 1 + i = s + (i + 1) by omega] at h4
          exact h4
        rw [lp_M_rs_m hd hn h96 h8 h19 hk hsn e, hfin]
        exact hq _ rfl rfl am_upe (m_fra_8 (m_fra_ab (m_fra_8 (m_fra_8 (m_fra_8 (m_fra_8 m_fra_r (Or.inl ⟨rfl, rfl⟩)) (Or.inr (Or.inl ⟨rfl, rfl⟩))) (Or.inr (Or.inr (Or.inl ⟨rfl, by omega, by omega⟩)))) (Or.inr (Or.inr (Or.inl ⟨rfl, by omega, by omega⟩))))) (Or.inr (Or.inr (Or.inr ⟨rfl, rfl⟩))))
    · have hl := u_l_of (m := 9) hx rfl
      rcases hb with ⟨h1, -⟩ | ⟨h1, h2, h3⟩
      · omega
      · rw [hl] at h1
        unfold u_at at h2 h3
        rw [u_t_of hx] at h2 h3
        obtain ⟨i, rfl⟩ : ∃ j, i = j + 1 := ⟨i - 1, by
          refine Decidable.byContradiction fun w => ?_
          have hi0 : i = 0 := by omega
          subst hi0
          exact h3 ⟨hsn, by rw [Nat.add_zero, e]; rfl⟩⟩
        have hfin : (u_st (h 82) n 59 (u_st (h 82) n 61 (u_st (h 82) n 57 (u_st (h 82) n 57 (u_st (h 82) n 57 (u_st (h 82) n 57 (u_st (h 82) n 57 (u_st (h 82) n 57 (s + 1, false))))))))) = (s + (i + 1), true) := by
          have h4 := u_fo_bad (le := h 82) (n := n) [57, 57, 57, 57, 57, 57, 61, 59] (s + 1) i (by show i < 8; omega) (fun j hj => by
            have := h2 (j + 1) (by omega)
            rw [show s + (j + 1) = s + 1 + j by omega] at this
            exact this) (by
            rw [show s + (i + 1) = s + 1 + i by omega] at h3
            exact h3)
          rw [show s + 1 + i = s + (i + 1) by omega] at h4
          exact h4
        rw [lp_M_rs_o hd hn h96 h8 h19 hk hsn e, hfin]
        exact hq _ rfl rfl am_upe (m_fra_8 (m_fra_ab (m_fra_8 (m_fra_8 (m_fra_8 (m_fra_8 (m_fra_8 (m_fra_8 (m_fra_8 m_fra_r (Or.inl ⟨rfl, rfl⟩)) (Or.inr (Or.inl ⟨rfl, rfl⟩))) (Or.inr (Or.inr (Or.inl ⟨rfl, by omega, by omega⟩)))) (Or.inr (Or.inr (Or.inl ⟨rfl, by omega, by omega⟩)))) (Or.inr (Or.inr (Or.inl ⟨rfl, by omega, by omega⟩)))) (Or.inr (Or.inr (Or.inl ⟨rfl, by omega, by omega⟩)))) (Or.inr (Or.inr (Or.inl ⟨rfl, by omega, by omega⟩))))) (Or.inr (Or.inr (Or.inr ⟨rfl, rfl⟩))))
    · have hl := u_l_of (m := 4) hx rfl
      rcases hb with ⟨h1, -⟩ | ⟨h1, h2, h3⟩
      · omega
      · rw [hl] at h1
        unfold u_at at h2 h3
        rw [u_t_of hx] at h2 h3
        obtain ⟨i, rfl⟩ : ∃ j, i = j + 1 := ⟨i - 1, by
          refine Decidable.byContradiction fun w => ?_
          have hi0 : i = 0 := by omega
          subst hi0
          exact h3 ⟨hsn, by rw [Nat.add_zero, e]; rfl⟩⟩
        have hfin : (u_st (h 82) n 59 (u_st (h 82) n 57 (u_st (h 82) n 57 (s + 1, false)))) = (s + (i + 1), true) := by
          have h4 := u_fo_bad (le := h 82) (n := n) [57, 57, 59] (s + 1) i (by show i < 3; omega) (fun j hj => by
            have := h2 (j + 1) (by omega)
            rw [show s + (j + 1) = s + 1 + j by omega] at this
            exact this) (by
            rw [show s + (i + 1) = s + 1 + i by omega] at h3
            exact h3)
          rw [show s + 1 + i = s + (i + 1) by omega] at h4
          exact h4
        rw [lp_M_rs_p hd hn h96 h8 h19 hk hsn e, hfin]
        exact hq _ rfl rfl am_upe (m_fra_8 (m_fra_ab (m_fra_8 (m_fra_8 (m_fra_8 (m_fra_8 m_fra_r (Or.inl ⟨rfl, rfl⟩)) (Or.inr (Or.inl ⟨rfl, rfl⟩))) (Or.inr (Or.inr (Or.inl ⟨rfl, by omega, by omega⟩)))) (Or.inr (Or.inr (Or.inl ⟨rfl, by omega, by omega⟩))))) (Or.inr (Or.inr (Or.inr ⟨rfl, rfl⟩))))
    · have hl := u_l_of (m := 4) hx rfl
      rcases hb with ⟨h1, -⟩ | ⟨h1, h2, h3⟩
      · omega
      · rw [hl] at h1
        unfold u_at at h2 h3
        rw [u_t_of hx] at h2 h3
        obtain ⟨i, rfl⟩ : ∃ j, i = j + 1 := ⟨i - 1, by
          refine Decidable.byContradiction fun w => ?_
          have hi0 : i = 0 := by omega
          subst hi0
          exact h3 ⟨hsn, by rw [Nat.add_zero, e]; rfl⟩⟩
        have hfin : (u_st (h 82) n 59 (u_st (h 82) n 57 (u_st (h 82) n 57 (s + 1, false)))) = (s + (i + 1), true) := by
          have h4 := u_fo_bad (le := h 82) (n := n) [57, 57, 59] (s + 1) i (by show i < 3; omega) (fun j hj => by
            have := h2 (j + 1) (by omega)
            rw [show s + (j + 1) = s + 1 + j by omega] at this
            exact this) (by
            rw [show s + (i + 1) = s + 1 + i by omega] at h3
            exact h3)
          rw [show s + 1 + i = s + (i + 1) by omega] at h4
          exact h4
        rw [lp_M_rs_u hd hn h96 h8 h19 hk hsn e, hfin]
        exact hq _ rfl rfl am_upe (m_fra_8 (m_fra_ab (m_fra_8 (m_fra_8 (m_fra_8 (m_fra_8 m_fra_r (Or.inl ⟨rfl, rfl⟩)) (Or.inr (Or.inl ⟨rfl, rfl⟩))) (Or.inr (Or.inr (Or.inl ⟨rfl, by omega, by omega⟩)))) (Or.inr (Or.inr (Or.inl ⟨rfl, by omega, by omega⟩))))) (Or.inr (Or.inr (Or.inr ⟨rfl, rfl⟩))))
    · have hi : i = 0 := by
        have hl := u_l_of (m := 0) hx rfl
        rcases hb with ⟨-, h1⟩ | ⟨h1, -⟩ <;> omega
      subst hi
      rw [lp_M_rsX hd hn h96 h8 h19 hk hs (if_pos hsn) (by omega)]
      exact hq _ rfl rfl am_upe (m_fra_8 (m_fra_ab (m_fra_8 (m_fra_8 m_fra_r (Or.inl ⟨rfl, rfl⟩)) (Or.inr (Or.inl ⟨rfl, rfl⟩)))) (Or.inr (Or.inr (Or.inr ⟨rfl, rfl⟩))))
  · have hi : i = 0 := by
      rcases hb with ⟨-, h1⟩ | ⟨-, h2, -⟩
      · exact h1
      · refine Decidable.byContradiction fun w => ?_
        have := (h2 0 (by omega)).1
        omega
    subst hi
    rw [lp_M_rsX hd hn h96 h8 h19 hk hs (if_neg hsn) (by omega)]
    exact hq _ rfl rfl am_upe (m_fra_8 (m_fra_ab (m_fra_8 (m_fra_8 m_fra_r (Or.inl ⟨rfl, rfl⟩)) (Or.inr (Or.inl ⟨rfl, rfl⟩)))) (Or.inr (Or.inr (Or.inr ⟨rfl, rfl⟩))))