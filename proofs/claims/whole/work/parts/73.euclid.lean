/-! EUCLID, ORDERS, HOW MANY BITS -/
theorem an_ladd_ok {x y : Int} (h1 : -9000000000000000000 ≤ x + y) (h2 : x + y ≤ 9000000000000000000) : am_ladd x y = x + y := by
  unfold am_ladd
  rw [← Int64.ofInt_add, am_to64 ⟨by omega, by omega⟩]
theorem an_lsub_ok {x y : Int} (h1 : -9000000000000000000 ≤ x - y) (h2 : x - y ≤ 9000000000000000000) : am_lsub x y = x - y := by
  unfold am_lsub
  rw [← Int64.ofInt_sub, am_to64 ⟨by omega, by omega⟩]
theorem an_lmul_ok {x y : Int} (h1 : -9000000000000000000 ≤ x * y) (h2 : x * y ≤ 9000000000000000000) : am_lmul x y = x * y := by
  unfold am_lmul
  rw [← Int64.ofInt_mul, am_to64 ⟨by omega, by omega⟩]
theorem an_ldiv_ok {x y : Int} (h1 : 0 ≤ x) (h2 : x ≤ 9000000000000000000) (h3 : 0 < y) (h4 : y ≤ 9000000000000000000) : am_ldiv x y = x / y := by
  unfold am_ldiv
  have hx := am_to64 (z := x) ⟨by omega, by omega⟩
  have hy := am_to64 (z := y) ⟨by omega, by omega⟩
  rw [Jvm.Kit.i64_div (by rw [hx, hy]; omega), hx, hy, Int.tdiv_eq_ediv_of_nonneg h1]
theorem an_lrem_ok {x y : Int} (h1 : 0 ≤ x) (h2 : x ≤ 9000000000000000000) (h3 : 0 < y) (h4 : y ≤ 9000000000000000000) : am_lrem x y = x % y := by
  unfold am_lrem
  have hx := am_to64 (z := x) ⟨by omega, by omega⟩
  have hy := am_to64 (z := y) ⟨by omega, by omega⟩
  rw [Jvm.Kit.i64_rem_nonneg (by rw [hx]; omega), hx, hy]
theorem an_lc0 {x : Int} : (am_lcmp x 0 = 0) = (x = 0) := by
  unfold am_lcmp
  by_cases h1 : 0 < x
  · rw [if_pos h1]; exact propext (by omega)
  · rw [if_neg h1]
    by_cases h2 : x = 0
    · rw [if_pos h2]; exact propext (by omega)
    · rw [if_neg h2]; exact propext (by omega)
theorem an_half {a b n : Nat} (hb : 0 < a % b) (h : b < 2 ^ (n + 1)) : b % (a % b) < 2 ^ n := by
  rw [Nat.pow_succ] at h
  by_cases h00 : b = 0
  · subst h00
    rw [Nat.zero_mod]
    exact Nat.two_pow_pos n
  have h0 : 0 < b := by omega
  have h1 : a % b < b := Nat.mod_lt _ h0
  have h2 : b % (a % b) < a % b := Nat.mod_lt _ hb
  have h3 := Nat.div_add_mod b (a % b)
  have h4 : 1 ≤ b / (a % b) := (Nat.one_le_div_iff hb).2 (by omega)
  have h5 : (a % b) * 1 ≤ (a % b) * (b / (a % b)) := Nat.mul_le_mul_left _ h4
  omega
theorem lp_M_divisor {d L kp : Nat} {h : Nat → Nat → Int} {Q : Option am_V → am_H → Prop} : ∀ (n a b : Nat), a ≤ 9000000000000000000 → b ≤ 9000000000000000000 → b < 2 ^ n → ∀ j0 j1 j2 j3 j5 j7 j8 j9 : Option am_V, am_Wp d 262 6 [j0, j1, j2, j3, some (Sum.inr (Sum.inl ((a : Int)))), j5, some (Sum.inr (Sum.inl ((b : Int)))), j7, j8, j9] [] (am_SH L, h, am_RR kp) Q = Q (some (Sum.inr (Sum.inl ((Nat.gcd a b : Nat) : Int)))) (am_SH L, h, am_RR kp) := by
  intro n
  induction n with
  | zero =>
    intro a b ha hb hn j0 j1 j2 j3 j5 j7 j8 j9
    have h0 : b = 0 := by omega
    rw [bq_M_divisor_6]
    simp only [an_lc0]
    rw [if_pos (by omega), h0, Nat.gcd_zero_right]
  | succ n ih =>
    intro a b ha hb hn j0 j1 j2 j3 j5 j7 j8 j9
    rw [bq_M_divisor_6]
    simp only [an_lc0]
    by_cases q : b = 0
    · rw [if_pos (by omega), q, Nat.gcd_zero_right]
    · have h1 : a % b < b := Nat.mod_lt _ (by omega)
      have e1 : am_lrem (a : Int) (b : Int) = ((a % b : Nat) : Int) := by
        rw [an_lrem_ok (by omega) (by omega) (by omega) (by omega)]; rfl
      have g1 : Nat.gcd a b = Nat.gcd b (a % b) := by rw [Nat.gcd_comm a b, Nat.gcd_rec b a, Nat.gcd_comm]
      rw [if_neg (by omega), e1, bq_M_divisor_6]
      simp only [an_lc0]
      have q1 : ¬ ((b : Int) = 0) := by omega
      by_cases q2 : a % b = 0
      · rw [if_pos (by omega), g1, q2, Nat.gcd_zero_right]
        simp only [q1, not_false_eq_true, true_and]
      · have h2 : b % (a % b) < 2 ^ n := an_half (by omega) hn
        have h3 : b % (a % b) < a % b := Nat.mod_lt _ (by omega)
        have e2 : am_lrem (b : Int) ((a % b : Nat) : Int) = ((b % (a % b) : Nat) : Int) := by
          rw [an_lrem_ok (by omega) (by omega) (by omega) (by omega)]; rfl
        have g2 : Nat.gcd b (a % b) = Nat.gcd (a % b) (b % (a % b)) := by rw [Nat.gcd_comm b (a % b), Nat.gcd_rec (a % b) b, Nat.gcd_comm]
        have q3 : ¬ (((a % b : Nat) : Int) = 0) := by omega
        rw [if_neg q3, e2, ih (a % b) (b % (a % b)) (by omega) (by omega) h2, g1, g2]
        simp only [q1, q3, not_false_eq_true, true_and]
theorem sp_M_divisor {d L kp : Nat} {h : Nat → Nat → Int} {Q : Option am_V → am_H → Prop} {a b : Nat} (ha : a ≤ 9000000000000000000) (hb : b ≤ 9000000000000000000) : am_Wp d 262 0 [some (Sum.inr (Sum.inl ((a : Int)))), none, some (Sum.inr (Sum.inl ((b : Int)))), none, none, none, none, none, none, none] [] (am_SH L, h, am_RR kp) Q = Q (some (Sum.inr (Sum.inl ((Nat.gcd a b : Nat) : Int)))) (am_SH L, h, am_RR kp) := by
  rw [bq_M_divisor_0]
  exact lp_M_divisor 63 a b ha hb (Nat.lt_of_le_of_lt hb (by decide)) _ _ _ _ _ _ _ _
theorem lp_KO_commonDivisor {d L kp : Nat} {h : Nat → Nat → Int} {Q : Option am_V → am_H → Prop} : ∀ (n a b i : Nat), a ≤ 2000000000 → b ≤ 2000000000 → b < 2 ^ n → i + 2 * n ≤ 50 → ∀ j0 j1 j5 : Option am_V, am_Wp d 169 7 [j0, j1, some (Sum.inl ((a : Int))), some (Sum.inl ((b : Int))), some (Sum.inl ((i : Int))), j5] [] (am_SH L, h, am_RR kp) Q = Q (some (Sum.inl ((Nat.gcd a b : Nat) : Int))) (am_SH L, h, am_RR kp) := by
  intro n
  induction n with
  | zero =>
    intro a b i ha hb hn hi j0 j1 j5
    have h0 : b = 0 := by omega
    rw [bq_KO_commonDivisor_7, bq_KO_commonDivisor_34, h0, Nat.gcd_zero_right]
    by_cases q : (50 : Int) ≤ (i : Int)
    · rw [if_pos q]
    · rw [if_neg q, if_pos (by omega)]
  | succ n ih =>
    intro a b i ha hb hn hi j0 j1 j5
    rw [bq_KO_commonDivisor_7, if_neg (by omega)]
    by_cases q : b = 0
    · rw [if_pos (by omega), bq_KO_commonDivisor_34, q, Nat.gcd_zero_right]
    · have h1 : a % b < b := Nat.mod_lt _ (by omega)
      have e1 : am_rem (a : Int) (b : Int) = ((a % b : Nat) : Int) := by
        rw [am_rem_ok (by omega) (by omega) (by omega) (by omega)]; rfl
      have g1 : Nat.gcd a b = Nat.gcd b (a % b) := by rw [Nat.gcd_comm a b, Nat.gcd_rec b a, Nat.gcd_comm]
      rw [if_neg (by omega), e1, am_incn (by omega), bq_KO_commonDivisor_7, if_neg (by omega)]
      have q1 : ¬ ((b : Int) = 0) := by omega
      by_cases q2 : a % b = 0
      · rw [if_pos (by omega), bq_KO_commonDivisor_34, g1, q2, Nat.gcd_zero_right]
        simp only [q1, not_false_eq_true, true_and]
      · have h2 : b % (a % b) < 2 ^ n := an_half (by omega) hn
        have h3 : b % (a % b) < a % b := Nat.mod_lt _ (by omega)
        have e2 : am_rem (b : Int) ((a % b : Nat) : Int) = ((b % (a % b) : Nat) : Int) := by
          rw [am_rem_ok (by omega) (by omega) (by omega) (by omega)]; rfl
        have g2 : Nat.gcd b (a % b) = Nat.gcd (a % b) (b % (a % b)) := by rw [Nat.gcd_comm b (a % b), Nat.gcd_rec (a % b) b, Nat.gcd_comm]
        have q3 : ¬ (((a % b : Nat) : Int) = 0) := by omega
        rw [if_neg q3, e2, am_incn (by omega), ih (a % b) (b % (a % b)) (i + 1 + 1) (by omega) (by omega) h2 (by omega), g1, g2]
        simp only [q1, q3, not_false_eq_true, true_and]
theorem sp_KO_commonDivisor {d L kp : Nat} {h : Nat → Nat → Int} {Q : Option am_V → am_H → Prop} {a b : Nat} (ha : a ≤ 2000000000) (hb : b < 2 ^ 20) : am_Wp d 169 0 [some (Sum.inl ((a : Int))), some (Sum.inl ((b : Int))), none, none, none, none] [] (am_SH L, h, am_RR kp) Q = Q (some (Sum.inl ((Nat.gcd a b : Nat) : Int))) (am_SH L, h, am_RR kp) := by
  rw [bq_KO_commonDivisor_0]
  exact lp_KO_commonDivisor 20 a b 0 ha (by omega) hb (by omega) _ _ _
def an_fac : Nat → Nat
  | 0 => 1
  | n + 1 => an_fac n * (n + 1)
theorem an_fac_pos {n : Nat} : 0 < an_fac n := by
  induction n with
  | zero => exact Nat.one_pos
  | succ n ih => exact Nat.mul_pos ih (by omega)
theorem an_fac_m {n m : Nat} (h : n ≤ m) : an_fac n ≤ an_fac m := by
  induction m with
  | zero => rw [show n = 0 by omega]; exact Nat.le_refl _
  | succ m ih =>
    by_cases q : n = m + 1
    · rw [q]; exact Nat.le_refl _
    · exact Nat.le_trans (ih (by omega)) (Nat.le_mul_of_pos_right _ (by omega))
theorem an_fac_7 {n : Nat} (h : n ≤ 7) : an_fac n ≤ 5040 := an_fac_m h
theorem sp_M_faculty {d L kp : Nat} {h : Nat → Nat → Int} {Q : Option am_V → am_H → Prop} {n : Nat} (hn : n ≤ 7) : am_Wp d 281 0 [some (Sum.inl ((n : Int))), none, none, none] [] (am_SH L, h, am_RR kp) Q = Q (some (Sum.inr (Sum.inl ((an_fac n : Nat) : Int)))) (am_SH L, h, am_RR kp) := by
  rw [bq_M_faculty_0]
  have hE : ∀ i, n < i + 2 → an_fac (i + 1) = an_fac n ∨ n < i + 1 → True := fun _ _ _ => trivial
  by_cases q : n = 0
  · subst q
    rw [bq_M_faculty_4, if_pos (by omega)]
    rfl
  · refine am_up_fr (a := 1) (n := n) (fun i => am_Wp d 281 4 [some (Sum.inl ((n : Int))), some (Sum.inr (Sum.inl (((an_fac i : Nat) : Int)))), none, some (Sum.inl (((i + 1 : Nat) : Int)))] [] (am_SH L, h, am_RR kp) Q) _ (by omega) (fun i h1 h2 => ?_) ?_
    · show am_Wp d 281 4 [some (Sum.inl ((n : Int))), some (Sum.inr (Sum.inl (((an_fac i : Nat) : Int)))), none, some (Sum.inl (((i + 1 : Nat) : Int)))] [] (am_SH L, h, am_RR kp) Q = am_Wp d 281 4 [some (Sum.inl ((n : Int))), some (Sum.inr (Sum.inl (((an_fac (i + 1) : Nat) : Int)))), none, some (Sum.inl (((i + 1 + 1 : Nat) : Int)))] [] (am_SH L, h, am_RR kp) Q
      have b1 := an_fac_7 (n := i) (by omega)
      have b2 := an_fac_7 (n := i + 1) (by omega)
      have e1 : ((an_fac (i + 1) : Nat) : Int) = ((an_fac i : Nat) : Int) * ((i + 1 : Nat) : Int) := by
        show ((an_fac i * (i + 1) : Nat) : Int) = _
        push_cast
        rfl
      rw [bq_M_faculty_4, if_neg (by omega), am_incn (by omega), an_lmul_ok (by omega) (by omega), e1]
    · show am_Wp d 281 4 [some (Sum.inl ((n : Int))), some (Sum.inr (Sum.inl (((an_fac n : Nat) : Int)))), none, some (Sum.inl (((n + 1 : Nat) : Int)))] [] (am_SH L, h, am_RR kp) Q = _
      rw [bq_M_faculty_4, if_pos (by omega)]
theorem sp_Votes_ordersOf {d L kp : Nat} {h : Nat → Nat → Int} {Q : Option am_V → am_H → Prop} {n : Nat} (hn : n ≤ 7) : am_Wp d 167 0 [some (Sum.inl ((n : Int))), none, none] [] (am_SH L, h, am_RR kp) Q = Q (some (Sum.inl (((an_fac n : Nat) : Int)))) (am_SH L, h, am_RR kp) := by
  rw [bq_Votes_ordersOf_0]
  by_cases q : n = 0
  · subst q
    rw [bq_Votes_ordersOf_4, if_pos (by omega)]
    rfl
  · refine am_up_fr (a := 1) (n := n) (fun i => am_Wp d 167 4 [some (Sum.inl ((n : Int))), some (Sum.inl (((an_fac i : Nat) : Int))), some (Sum.inl (((i + 1 : Nat) : Int)))] [] (am_SH L, h, am_RR kp) Q) _ (by omega) (fun i h1 h2 => ?_) ?_
    · show am_Wp d 167 4 [some (Sum.inl ((n : Int))), some (Sum.inl (((an_fac i : Nat) : Int))), some (Sum.inl (((i + 1 : Nat) : Int)))] [] (am_SH L, h, am_RR kp) Q = am_Wp d 167 4 [some (Sum.inl ((n : Int))), some (Sum.inl (((an_fac (i + 1) : Nat) : Int))), some (Sum.inl (((i + 1 + 1 : Nat) : Int)))] [] (am_SH L, h, am_RR kp) Q
      have b1 := an_fac_7 (n := i) (by omega)
      have b2 := an_fac_7 (n := i + 1) (by omega)
      have e1 : ((an_fac (i + 1) : Nat) : Int) = ((an_fac i : Nat) : Int) * ((i + 1 : Nat) : Int) := by
        show ((an_fac i * (i + 1) : Nat) : Int) = _
        push_cast
        rfl
      rw [bq_Votes_ordersOf_4, if_neg (by omega), am_incn (by omega), am_mul_ok (by omega) (by omega), e1]
    · show am_Wp d 167 4 [some (Sum.inl ((n : Int))), some (Sum.inl (((an_fac n : Nat) : Int))), some (Sum.inl (((n + 1 : Nat) : Int)))] [] (am_SH L, h, am_RR kp) Q = _
      rw [bq_Votes_ordersOf_4, if_pos (by omega)]
/-- without its lowest bit -/
theorem an_low : ∀ (n x : Nat), x < 2 ^ n → 0 < x → ∃ t, t < n ∧ Nat.testBit x t = true ∧ ∀ i, Nat.testBit (x &&& (x - 1)) i = (Nat.testBit x i && !decide (i = t)) := by
  intro n
  induction n with
  | zero => intro x h1 h2; omega
  | succ n ih =>
    intro x h1 h2
    rw [Nat.pow_succ] at h1
    rcases Nat.mod_two_eq_zero_or_one x with he | ho
    · obtain ⟨t, h3, h4, h5⟩ := ih (x / 2) (by omega) (by omega)
      refine ⟨t + 1, by omega, by rw [Nat.testBit_succ]; exact h4, fun i => ?_⟩
      cases i with
      | zero =>
        rw [Nat.testBit_and, Nat.testBit_zero, decide_eq_false (show ¬ x % 2 = 1 by omega)]
        rfl
      | succ i =>
        have h6 := h5 i
        rw [Nat.testBit_and] at h6 ⊢
        rw [Nat.testBit_succ, Nat.testBit_succ, show (x - 1) / 2 = x / 2 - 1 by omega, h6]
        congr 2
        exact decide_eq_decide.2 (by omega)
    · refine ⟨0, by omega, by rw [Nat.testBit_zero]; exact decide_eq_true ho, fun i => ?_⟩
      cases i with
      | zero =>
        rw [Nat.testBit_and, Nat.testBit_zero (x - 1), decide_eq_false (show ¬ (x - 1) % 2 = 1 by omega), Bool.and_false]
        simp
      | succ i =>
        rw [Nat.testBit_and, Nat.testBit_succ, Nat.testBit_succ, show (x - 1) / 2 = x / 2 by omega, Bool.and_self]
        simp
theorem an_pc_low {x : Nat} (hx : x < 65536) (h0 : 0 < x) : am_pc (x &&& (x - 1)) = am_pc x - 1 := by
  obtain ⟨t, h1, h2, h3⟩ := an_low 16 x hx h0
  have h4 := am_sumb_one (n := 16) (i := t) (x := 1) h1
  have key : am_sumb 16 (fun i => bif Nat.testBit (x &&& (x - 1)) i then 1 else 0) = am_sumb 16 (fun i => (bif Nat.testBit x i then 1 else 0) - (if i = t then 1 else 0)) := am_sumb_eq (fun i _ => by
    show (bif Nat.testBit (x &&& (x - 1)) i then (1 : Int) else 0) = (bif Nat.testBit x i then 1 else 0) - (if i = t then 1 else 0)
    rw [h3]
    by_cases q : i = t
    · rw [q, h2, if_pos rfl, decide_eq_true rfl]; rfl
    · rw [if_neg q, decide_eq_false q]
      cases Nat.testBit x i <;> rfl)
  unfold am_pc
  rw [key, am_sumb_sub, h4]
theorem an_pc_le {x : Nat} : 0 ≤ am_pc x ∧ am_pc x ≤ 16 := by
  have h1 := am_sumb_le (n := 16) (g := fun i => bif Nat.testBit x i then 1 else 0) (A := 0) (B := 1) (fun k _ => by
    show 0 ≤ (bif Nat.testBit x k then (1 : Int) else 0) ∧ (bif Nat.testBit x k then (1 : Int) else 0) ≤ 1
    cases Nat.testBit x k
    · exact ⟨by decide, by decide⟩
    · exact ⟨by decide, by decide⟩)
  unfold am_pc
  omega
theorem lp_M_onesOf {d L kp : Nat} {h : Nat → Nat → Int} {Q : Option am_V → am_H → Prop} {j0 : Option am_V} : ∀ (m x : Nat) (s : Int), x < 65536 → x ≤ m → 0 ≤ s → s + am_pc x ≤ 100 → am_Wp d 230 4 [j0, some (Sum.inl (s)), some (Sum.inl ((x : Int)))] [] (am_SH L, h, am_RR kp) Q = Q (some (Sum.inl (s + am_pc x))) (am_SH L, h, am_RR kp) := by
  intro m
  induction m with
  | zero =>
    intro x s hx hm h0 h1
    rw [show x = 0 by omega, bq_M_onesOf_4, if_pos (by omega)]
    show _ = Q (some (Sum.inl (s + 0))) (am_SH L, h, am_RR kp)
    rw [Int.add_zero]
  | succ m ih =>
    intro x s hx hm h0 h1
    have b1 := an_pc_le (x := x)
    rw [bq_M_onesOf_4]
    by_cases q : x = 0
    · rw [if_pos (by omega), q]
      show _ = Q (some (Sum.inl (s + 0))) (am_SH L, h, am_RR kp)
      rw [Int.add_zero]
    · have h2 := an_pc_low hx (by omega)
      have h3 : x &&& (x - 1) ≤ x - 1 := Nat.and_le_right
      have e1 : am_and (x : Int) (am_sub (x : Int) 1) = ((x &&& (x - 1) : Nat) : Int) := by
        rw [am_sub_ok (by omega) (by omega), show (x : Int) - 1 = ((x - 1 : Nat) : Int) by omega, am_and_ok (by omega) (by omega)]
      have b2 := an_pc_le (x := x &&& (x - 1))
      rw [if_neg (by omega), e1, am_add_ok (by omega) (by omega), ih _ (s + 1) (by omega) (by omega) (by omega) (by omega), h2]
      rw [show s + 1 + (am_pc x - 1) = s + am_pc x by omega]
theorem sp_M_onesOf {d L kp : Nat} {h : Nat → Nat → Int} {Q : Option am_V → am_H → Prop} {x : Nat} (hx : x < 65536) : am_Wp d 230 0 [some (Sum.inl ((x : Int))), none, none] [] (am_SH L, h, am_RR kp) Q = Q (some (Sum.inl (am_pc x))) (am_SH L, h, am_RR kp) := by
  have b1 := an_pc_le (x := x)
  rw [bq_M_onesOf_0, lp_M_onesOf x x 0 hx (Nat.le_refl x) (by omega) (by omega), Int.zero_add]
theorem an_r41 : am_lsub 4000000000000000000 (-1) = 4000000000000000001 := by rw [an_lsub_ok (by omega) (by omega)]; rfl
theorem sp_KO_refuseLong {d L kp : Nat} {h : Nat → Nat → Int} {Q : Option am_V → am_H → Prop} {i : Int} (hd : 2 ≤ d) (hi : -6 ≤ i) (hi2 : i ≤ -1) : am_Wp d 131 0 [some (Sum.inr (Sum.inr 1)), some (Sum.inl i)] [] (am_SH L, h, am_RR kp) Q = Q (some (Sum.inr (Sum.inl (4000000000000000000 - i)))) (am_SH L, am_bump 41 (-i).toNat h, am_RR kp) := by
  rw [bq_KO_refuseLong_0 (by omega), sp_KO_refuse (by omega) hi hi2]
  simp only [Option.toList_some, Option.toList_none, List.cons_append, List.nil_append]
  rw [bq_KO_refuseLong_8, an_lsub_ok (by omega) (by omega)]