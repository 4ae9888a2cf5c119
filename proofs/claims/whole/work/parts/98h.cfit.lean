/-! FITS of the class -/
def an_ow (x n : Nat) : Int := am_sumb n (fun i => if Nat.testBit x i = true then ((2 ^ (7 * i) : Nat) : Int) else 0)
theorem an_ow_s {x n : Nat} : an_ow x (n + 1) = an_ow x n + (if Nat.testBit x n = true then ((2 ^ (7 * n) : Nat) : Int) else 0) := rfl
theorem an_ow_le {x n : Nat} (hn : n ≤ 4) : 0 ≤ an_ow x n ∧ an_ow x n ≤ 8388608 := by
  have h1 := am_sumb_le (n := n) (g := fun i => if Nat.testBit x i = true then ((2 ^ (7 * i) : Nat) : Int) else 0) (A := 0) (B := 2097152) (fun k hk => by
    have h20 := Nat.two_pow_pos (7 * k)
    have h2 : 2 ^ (7 * k) ≤ 2 ^ 21 := Nat.pow_le_pow_right (by omega) (by omega)
    show 0 ≤ (if Nat.testBit x k = true then ((2 ^ (7 * k) : Nat) : Int) else 0) ∧ (if Nat.testBit x k = true then ((2 ^ (7 * k) : Nat) : Int) else 0) ≤ 2097152
    split <;> omega)
  unfold an_ow
  omega
def v_br (V : am_Vw) (p : Nat) : Nat := 2 ^ p ||| (vU V p).toNat
def an_kw (V : am_Vw) (ρ : Nat → Int) (n : Nat) : Nat → Nat → Int → Int
  | 0, _, w => if w = 0 then 1 else 0
  | k + 1, p, w => am_sumb (2 ^ n) (fun s => if s &&& v_br V p = 0 ∧ am_pc s = ρ p then an_kw V ρ n k (p + 1) (w - an_ow s n) else 0)
theorem an_kw_s {V : am_Vw} {ρ : Nat → Int} {n k p : Nat} {w : Int} : an_kw V ρ n (k + 1) p w = am_sumb (2 ^ n) (fun s => if s &&& v_br V p = 0 ∧ am_pc s = ρ p then an_kw V ρ n k (p + 1) (w - an_ow s n) else 0) := rfl
theorem an_kw_le {V : am_Vw} {ρ : Nat → Int} {n : Nat} (hn : n ≤ 4) : ∀ (k p : Nat) (w : Int), 0 ≤ an_kw V ρ n k p w ∧ an_kw V ρ n k p w ≤ ((16 ^ k : Nat) : Int) := by
  intro k
  induction k with
  | zero =>
    intro p w
    show 0 ≤ (if w = 0 then (1 : Int) else 0) ∧ (if w = 0 then (1 : Int) else 0) ≤ 1
    split <;> omega
  | succ k ih =>
    intro p w
    have h5 : 0 < 16 ^ k := Nat.pow_pos (by decide)
    have h2 : 2 ^ n ≤ 2 ^ 4 := Nat.pow_le_pow_right (by omega) hn
    have h1 := am_sumb_le (n := 2 ^ n) (g := fun s => if s &&& v_br V p = 0 ∧ am_pc s = ρ p then an_kw V ρ n k (p + 1) (w - an_ow s n) else 0) (A := 0) (B := ((16 ^ k : Nat) : Int)) (fun s _ => by
      have h3 := ih (p + 1) (w - an_ow s n)
      show 0 ≤ (if s &&& v_br V p = 0 ∧ am_pc s = ρ p then an_kw V ρ n k (p + 1) (w - an_ow s n) else 0) ∧ (if s &&& v_br V p = 0 ∧ am_pc s = ρ p then an_kw V ρ n k (p + 1) (w - an_ow s n) else 0) ≤ ((16 ^ k : Nat) : Int)
      split <;> omega)
    have h4 : ((2 ^ n : Nat) : Int) * ((16 ^ k : Nat) : Int) ≤ 16 * ((16 ^ k : Nat) : Int) := Int.mul_le_mul_of_nonneg_right (by omega) (by omega)
    rw [an_kw_s, Nat.pow_succ]
    omega
def an_wt (ρ : Nat → Int) (n : Nat) : Nat → Nat
  | 0 => 0
  | i + 1 => an_wt ρ n i + (ρ (n + i)).toNat * 2 ^ (7 * i)
theorem an_wt_lt {ρ : Nat → Int} {n : Nat} : ∀ i, (∀ j, j < i → ρ (n + j) ≤ 99) → an_wt ρ n i < 2 ^ (7 * i) := by
  intro i
  induction i with
  | zero => exact fun _ => Nat.one_pos
  | succ i ih =>
    intro h
    have h1 := ih (fun j hj => h j (by omega))
    have h2 := h i (by omega)
    have h3 : (ρ (n + i)).toNat * 2 ^ (7 * i) ≤ 127 * 2 ^ (7 * i) - 1 + 1 := by
      have := Nat.mul_le_mul_right (2 ^ (7 * i)) (show (ρ (n + i)).toNat ≤ 127 by omega)
      omega
    have h4 : 2 ^ (7 * (i + 1)) = 128 * 2 ^ (7 * i) := by
      rw [show 7 * (i + 1) = 7 * i + 7 by omega, Nat.pow_add, Nat.mul_comm]
    show an_wt ρ n i + (ρ (n + i)).toNat * 2 ^ (7 * i) < 2 ^ (7 * (i + 1))
    omega
/-- the number of kissings that the row's first n want and its second n get -/
def a_fits (V : am_Vw) (L : Int) (ρ : Nat → Int) : am_V × Nat := if 2 ≤ L / 2 ∧ L / 2 ≤ 4 ∧ L = 2 * (L / 2) ∧ L / 2 ≤ vP V then (Sum.inl (an_kw V ρ (L / 2).toNat (L / 2).toNat 0 ((an_wt ρ (L / 2).toNat (L / 2).toNat : Nat) : Int)), 0) else (Sum.inl (-3), 3)
theorem sp_KO_oneEach {d L kp : Nat} {h : Nat → Nat → Int} {Q : Option am_V → am_H → Prop} {x n : Nat} (hd : 1 ≤ d) (hn : n ≤ 4) (hx : x < 16) : am_Wp d 129 0 [some (Sum.inl (x : Int)), some (Sum.inl (n : Int)), none, none] [] (am_SH L, h, am_RR kp) Q = Q (some (Sum.inl (an_ow x n))) (am_SH L, h, am_RR kp) := by
  have key := am_dn_fr (J := Unit) (a := 0) (n := n) (fun i _ => am_Wp d 129 4 [some (Sum.inl ((x : Int))), some (Sum.inl ((n : Int))), some (Sum.inl ((an_ow x i))), some (Sum.inl ((i : Int)))] [] (am_SH L, h, am_RR kp) Q) (Q (some (Sum.inl (an_ow x n))) (am_SH L, h, am_RR kp)) (by omega) (fun i _ hi ih _ => ?_) (fun _ => ?_) ()
  · rw [bq_KO_oneEach_0]
    exact key
  · have ih2 := ih ()
    have ho := an_ow_le (x := x) (show i ≤ 4 by omega)
    have h20 := Nat.two_pow_pos (7 * i)
    have h2 : 2 ^ (7 * i) ≤ 2 ^ 21 := Nat.pow_le_pow_right (by omega) (by omega)
    have em : am_mul 7 (i : Int) = ((7 * i : Nat) : Int) := by rw [am_mul_ok (by omega) (by omega)]; omega
    rw [an_ow_s] at ih2
    refine (bq_KO_oneEach_4 (by omega)).trans ?_
    rw [if_neg (by omega), sp_has, am_has_tb (by omega) (by omega)]
    simp only [Option.toList_some, Option.toList_none, List.cons_append, List.nil_append]
    rw [bq_KO_oneEach_14]
    cases hb : Nat.testBit x i with
    | false =>
      rw [hb, if_neg Bool.noConfusion, Int.add_zero] at ih2
      rw [if_pos am_bif, bq_KO_oneEach_26, am_incn (by omega)]
      exact ih2
    | true =>
      rw [hb, if_pos rfl] at ih2
      rw [if_neg am_b0, em, am_shl1 (by omega), am_add_ok (by omega) (by omega), bq_KO_oneEach_26, am_incn (by omega)]
      exact ih2
  · refine (bq_KO_oneEach_4 (by omega)).trans ?_
    rw [if_pos (Int.le_refl _)]
theorem sp_KO_kissings {L kp : Nat} {h : Nat → Nat → Int} {n : Nat} (hv : v_ok (am_wv h 2)) (hn : n ≤ 4) : ∀ (k p d : Nat) (w : Int) (Q : Option am_V → am_H → Prop), p + k = n → k + 3 ≤ d → -536870912 + 67108864 * (k : Int) ≤ w → w ≤ 268435456 → am_Wp d 128 0 [some (Sum.inr (Sum.inr 2)), some (Sum.inr (Sum.inr 40)), some (Sum.inl (n : Int)), some (Sum.inl (p : Int)), some (Sum.inl w), none, none, none] [] (am_SH L, h, am_RR kp) Q = Q (some (Sum.inl (an_kw (am_wv h 2) (h 40) n k p w))) (am_SH L, h, am_RR kp) := by
  intro k
  induction k with
  | zero =>
    intro p d w Q hp hd _ _
    rw [bq_KO_kissings_0 (by omega), if_pos (by omega), bq_KO_kissings_10]
    show _ = Q (some (Sum.inl (if w = 0 then (1 : Int) else 0))) (am_SH L, h, am_RR kp)
    by_cases q : w = 0
    · rw [if_pos q, if_pos q, bq_KO_kissings_20]
    · rw [if_neg q, if_neg q, bq_KO_kissings_20]
  | succ k ihk =>
    intro p d w Q hp hd hw1 hw2
    have h16p : 0 < 16 ^ k := Nat.pow_pos (by decide)
    have hu := (v_ok_i hv p (by omega)).2.2.2
    obtain ⟨u, hu2⟩ := Int.eq_ofNat_of_zero_le hu.1
    have e6 : h 6 p = (u : Int) := hu2
    have p1 : 2 ^ p < 2 ^ 7 := Nat.pow_lt_pow_right (by omega) (by omega)
    have p2 : 2 ^ n ≤ 2 ^ 4 := Nat.pow_le_pow_right (by omega) hn
    have p20 := Nat.two_pow_pos n
    have p10 := Nat.two_pow_pos p
    have hu7 : u < 2 ^ 7 := by omega
    have hbl : v_br (am_wv h 2) p < 2 ^ 7 := by
      unfold v_br
      rw [hu2, Int.toNat_natCast]
      exact Nat.or_lt_two_pow p1 hu7
    have ebr : am_or ((2 ^ p : Nat) : Int) (u : Int) = ((v_br (am_wv h 2) p : Nat) : Int) := by
      rw [am_or_ok (by omega) (by omega)]
      unfold v_br
      rw [hu2, Int.toNat_natCast]
    have key := am_dn_fr (J := Unit) (a := 0) (n := 2 ^ n) (fun s _ => am_Wp d 128 38 [some (Sum.inr (Sum.inr 2)), some (Sum.inr (Sum.inr 40)), some (Sum.inl ((n : Int))), some (Sum.inl ((p : Int))), some (Sum.inl (w)), some (Sum.inl ((am_sumb s (fun s => if s &&& v_br (am_wv h 2) p = 0 ∧ am_pc s = h 40 p then an_kw (am_wv h 2) (h 40) n k (p + 1) (w - an_ow s n) else 0)))), some (Sum.inl (((v_br (am_wv h 2) p : Nat) : Int))), some (Sum.inl ((s : Int)))] [] (am_SH L, h, am_RR kp) Q) (Q (some (Sum.inl (am_sumb (2 ^ n) (fun s => if s &&& v_br (am_wv h 2) p = 0 ∧ am_pc s = h 40 p then an_kw (am_wv h 2) (h 40) n k (p + 1) (w - an_ow s n) else 0)))) (am_SH L, h, am_RR kp)) (by omega) (fun s _ hs ih _ => ?_) (fun _ => ?_) ()
    · rw [bq_KO_kissings_0 (by omega), if_neg (by omega), if_pos (by omega), sp_World_unwillingOf_2 (by omega), am_lk_nat (by omega), e6, am_shl1 (by omega)]
      simp only [Option.toList_some, Option.toList_none, List.cons_append, List.nil_append]
      rw [bq_KO_kissings_32, ebr]
      exact key
    · have ih2 := ih ()
      have hsum := am_sumb_le (n := s) (g := (fun s => if s &&& v_br (am_wv h 2) p = 0 ∧ am_pc s = h 40 p then an_kw (am_wv h 2) (h 40) n k (p + 1) (w - an_ow s n) else 0)) (A := 0) (B := ((16 ^ k : Nat) : Int)) (fun s2 _ => by
        have h3 := an_kw_le (V := (am_wv h 2)) (ρ := h 40) hn k (p + 1) (w - an_ow s2 n)
        show 0 ≤ (if s2 &&& v_br (am_wv h 2) p = 0 ∧ am_pc s2 = h 40 p then an_kw (am_wv h 2) (h 40) n k (p + 1) (w - an_ow s2 n) else 0) ∧ (if s2 &&& v_br (am_wv h 2) p = 0 ∧ am_pc s2 = h 40 p then an_kw (am_wv h 2) (h 40) n k (p + 1) (w - an_ow s2 n) else 0) ≤ ((16 ^ k : Nat) : Int)
        split <;> omega)
      have h16 : 16 ^ k ≤ 16 ^ 3 := Nat.pow_le_pow_right (by omega) (by omega)
      have h17 : (s : Int) * ((16 ^ k : Nat) : Int) ≤ 16 * ((16 ^ k : Nat) : Int) := Int.mul_le_mul_of_nonneg_right (by omega) (by omega)
      rw [am_sumb_s] at ih2
      refine (bq_KO_kissings_38 (by omega)).trans ?_
      rw [am_shl1 (by omega), if_neg (by omega), am_and_ok (by omega) (by omega)]
      have r90 : ∀ acc : Int, am_Wp d 128 90 [some (Sum.inr (Sum.inr 2)), some (Sum.inr (Sum.inr 40)), some (Sum.inl ((n : Int))), some (Sum.inl ((p : Int))), some (Sum.inl (w)), some (Sum.inl (acc)), some (Sum.inl (((v_br (am_wv h 2) p : Nat) : Int))), some (Sum.inl ((s : Int)))] [] (am_SH L, h, am_RR kp) Q = am_Wp d 128 38 [some (Sum.inr (Sum.inr 2)), some (Sum.inr (Sum.inr 40)), some (Sum.inl ((n : Int))), some (Sum.inl ((p : Int))), some (Sum.inl (w)), some (Sum.inl (acc)), some (Sum.inl (((v_br (am_wv h 2) p : Nat) : Int))), some (Sum.inl (((s + 1 : Nat) : Int)))] [] (am_SH L, h, am_RR kp) Q := fun acc => by
        rw [bq_KO_kissings_90, am_incn (by omega)]
      by_cases q1 : s &&& v_br (am_wv h 2) p = 0
      · rw [if_pos (by omega), sp_bitCount (by omega)]
        simp only [Option.toList_some, Option.toList_none, List.cons_append, List.nil_append]
        rw [bq_KO_kissings_59 (by omega), sp_at_40, am_lk_nat (by omega)]
        simp only [Option.toList_some, Option.toList_none, List.cons_append, List.nil_append]
        rw [bq_KO_kissings_64 (by omega)]
        by_cases q2 : am_pc s = h 40 p
        · have ho := an_ow_le (x := s) hn
          have hk := an_kw_le (V := (am_wv h 2)) (ρ := h 40) hn k (p + 1) (w - an_ow s n)
          rw [if_pos ⟨q1, q2⟩] at ih2
          rw [if_pos q2, sp_KO_oneEach (by omega) hn (by omega)]
          simp only [Option.toList_some, Option.toList_none, List.cons_append, List.nil_append]
          rw [bq_KO_kissings_83 (by omega), am_incn (by omega), am_sub_ok (by omega) (by omega), ihk (p + 1) (d - 1) (w - an_ow s n) _ (by omega) (by omega) (by omega) (by omega)]
          simp only [Option.toList_some, Option.toList_none, List.cons_append, List.nil_append]
          rw [bq_KO_kissings_87, am_add_ok (by omega) (by omega), r90]
          exact ih2
        · rw [if_neg (fun w => q2 w.2), Int.add_zero] at ih2
          rw [if_neg q2, r90]
          exact ih2
      · rw [if_neg (fun w => q1 w.1), Int.add_zero] at ih2
        rw [if_neg (by omega), r90]
        exact ih2
    · refine (bq_KO_kissings_38 (by omega)).trans ?_
      rw [am_shl1 (by omega), if_pos (Int.le_refl _)]
theorem c_fits {d L kp : Nat} {h : Nat → Nat → Int} (hd : 30 ≤ d) (hv : v_ok (am_wv h 2)) (hL : 0 ≤ h 1 6 ∧ h 1 6 ≤ 12) (hr : ∀ i, i < 12 → 0 ≤ h 40 i ∧ h 40 i ≤ 99) : am_An L 41 (a_fits (am_wv h 2) (h 1 6) (h 40)) h (fun Q => am_Wp d 127 0 [some (Sum.inr (Sum.inr 1)), none, none, none] [] (am_SH L, h, am_RR kp) Q) := by
  have hQ := wv_Q hv
  have hP := wv_P hv
  have hD := wv_D hv
  intro Q hq
  show am_Wp d 127 0 [some (Sum.inr (Sum.inr 1)), none, none, none] [] (am_SH L, h, am_RR kp) Q
  have h3 := fun g2 (m : am_keep h g2) => hq g2 kp m
  unfold a_fits at h3
  have ed : am_div (h 1 6) 2 = h 1 6 / 2 := am_div_ok (by omega) (by omega) (by omega) (by omega)
  have em : am_mul 2 (h 1 6 / 2) = 2 * (h 1 6 / 2) := am_mul_ok (by omega) (by omega)
  have r38 : ¬ (2 ≤ h 1 6 / 2 ∧ h 1 6 / 2 ≤ 4 ∧ h 1 6 = 2 * (h 1 6 / 2) ∧ h 1 6 / 2 ≤ vP (am_wv h 2)) → am_Wp d 127 38 [some (Sum.inr (Sum.inr 1)), some (Sum.inl ((h 1 6 / 2))), none, none] [] (am_SH L, h, am_RR kp) Q := fun hn => by
    rw [if_neg hn] at h3
    rw [bq_KO_fits_38 (by omega), sp_KO_refuse (by omega) (by omega) (by omega)]
    simp only [Option.toList_some, Option.toList_none, List.cons_append, List.nil_append]
    rw [bq_KO_fits_44]
    exact h3 h am_keep_r
  have eP : vP (am_wv h 2) = h 2 0 := rfl
  rw [bq_KO_fits_0 (by omega), ed, em]
  by_cases q1 : h 1 6 / 2 < 2
  · rw [if_pos q1]; exact r38 (by omega)
  · rw [if_neg q1]
    by_cases q2 : 4 < h 1 6 / 2
    · rw [if_pos q2]; exact r38 (by omega)
    · rw [if_neg q2]
      by_cases q3 : h 1 6 = 2 * (h 1 6 / 2)
      · rw [if_pos q3, sp_World_people_2]
        simp only [Option.toList_some, Option.toList_none, List.cons_append, List.nil_append]
        rw [bq_KO_fits_35]
        by_cases q4 : h 1 6 / 2 ≤ h 2 0
        · rw [if_pos q4]
          rw [if_pos ⟨by omega, by omega, q3, by omega⟩] at h3
          obtain ⟨n, hn⟩ := Int.eq_ofNat_of_zero_le (show 0 ≤ h 1 6 / 2 by omega)
          rw [hn] at h3 q1 q2 q4 ⊢
          rw [Int.toNat_natCast] at h3
          have key := am_dn_fr (J := Unit) (a := 0) (n := n) (fun i _ => am_Wp d 127 49 [some (Sum.inr (Sum.inr 1)), some (Sum.inl ((n : Int))), some (Sum.inl (((an_wt (h 40) n i : Nat) : Int))), some (Sum.inl ((i : Int)))] [] (am_SH L, h, am_RR kp) Q) (am_Wp d 127 49 [some (Sum.inr (Sum.inr 1)), some (Sum.inl ((n : Int))), some (Sum.inl (((an_wt (h 40) n n : Nat) : Int))), some (Sum.inl ((n : Int)))] [] (am_SH L, h, am_RR kp) Q) (by omega) (fun i _ hi ih _ => ?_) (fun _ => rfl) ()
          · refine (show _ = _ from key).mpr ?_
            have hwl := an_wt_lt (ρ := h 40) (n := n) n (fun j hj => (hr (n + j) (by omega)).2)
            have hp28 : 2 ^ (7 * n) ≤ 2 ^ 28 := Nat.pow_le_pow_right (by omega) (by omega)
            rw [bq_KO_fits_49 (by omega), if_pos (Int.le_refl _)]
            refine (show _ = _ from sp_KO_kissings hv (by omega) n 0 (d - 1) ((an_wt (h 40) n n : Nat) : Int) _ (by omega) (by omega) (by omega) (by omega)).mpr ?_
            simp only [Option.toList_some, Option.toList_none, List.cons_append, List.nil_append]
            rw [bq_KO_fits_92]
            exact h3 h am_keep_r
          · have ih2 := ih ()
            have hwl := an_wt_lt (ρ := h 40) (n := n) i (fun j hj => (hr (n + j) (by omega)).2)
            have hp28 : 2 ^ (7 * i) ≤ 2 ^ 21 := Nat.pow_le_pow_right (by omega) (by omega)
            have hrn := hr (n + i) (by omega)
            obtain ⟨t, ht⟩ := Int.eq_ofNat_of_zero_le hrn.1
            have e7 : am_mul 7 (i : Int) = ((7 * i : Nat) : Int) := by rw [am_mul_ok (by omega) (by omega)]; omega
            have hmul : t * 2 ^ (7 * i) ≤ 127 * 2 ^ (7 * i) := Nat.mul_le_mul_right _ (by omega)
            have eadd : am_add (n : Int) (i : Int) = ((n + i : Nat) : Int) := by rw [am_add_ok (by omega) (by omega)]; omega
            have eor : am_or ((an_wt (h 40) n i : Nat) : Int) ((t * 2 ^ (7 * i) : Nat) : Int) = ((an_wt (h 40) n (i + 1) : Nat) : Int) := by
              rw [am_or_ok (by omega) (by omega)]
              show ((an_wt (h 40) n i ||| t * 2 ^ (7 * i) : Nat) : Int) = ((an_wt (h 40) n i + (h 40 (n + i)).toNat * 2 ^ (7 * i) : Nat) : Int)
              have e2 := Nat.two_pow_add_eq_or_of_lt hwl t
              rw [ht, Int.toNat_natCast, Nat.or_comm, Nat.mul_comm t, ← e2, Nat.add_comm]
            refine (bq_KO_fits_49 (by omega)).trans ?_
            rw [if_neg (by omega), eadd, sp_at_40, am_lk_nat (by omega), ht]
            simp only [Option.toList_some, Option.toList_none, List.cons_append, List.nil_append]
            rw [bq_KO_fits_65, e7, am_shl_ok (by omega) (by omega), eor, am_incn (by omega)]
            exact ih2
        · rw [if_neg q4]; exact r38 (by omega)
      · rw [if_neg q3]; exact r38 (by omega)