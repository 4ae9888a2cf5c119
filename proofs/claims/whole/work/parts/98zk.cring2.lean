/-! THE CLASS FINDS THE RING -/
theorem sp_Ring_size {d L kp : Nat} {h : Nat → Nat → Int} {Q : Option am_V → am_H → Prop} : am_Wp d 144 0 [some (Sum.inr (Sum.inr 63))] [] (am_SH L, h, am_RR kp) Q = Q (some (Sum.inl (h 63 2))) (am_SH L, h, am_RR kp) := by
  rw [bq_Ring_size_0]
theorem sp_Ring_member {d L kp : Nat} {h : Nat → Nat → Int} {Q : Option am_V → am_H → Prop} {i : Nat} (hd : 1 ≤ d) (hi : i < 7) : am_Wp d 145 0 [some (Sum.inr (Sum.inr 63)), some (Sum.inl (i : Int))] [] (am_SH L, h, am_RR kp) Q = Q (some (Sum.inl (h 65 i))) (am_SH L, h, am_RR kp) := by
  rw [bq_Ring_member_0 (by omega), sp_at_65, am_lk_nat hi]
  simp only [Option.toList_some, Option.toList_none, List.cons_append, List.nil_append]
  rw [bq_Ring_member_8]
/-- what is known of the steps -/
def r_ok (V : am_Vw) (P : Nat) (h : Nat → Nat → Int) : Prop := h 42 2 = (P : Int) ∧ P ≤ 7 ∧ (∀ a b : Nat, a < 7 → b < 7 → h 43 (7 * a + b) = v_owes V (a : Int) (b : Int)) ∧ (∀ a b, r_E V a b → a < P ∧ b < P) ∧ r_snd (r_E V) (h 64) ∧ r_cpl (r_E V) P (h 64)
theorem r_ok_owed {V : am_Vw} {P : Nat} {h : Nat → Nat → Int} (ho : r_ok V P h) {a b : Nat} (ha : a < 7) (hb : b < 7) : am_lk (h 43) 49 (am_add (am_mul 7 (a : Int)) (b : Int)) = v_owes V (a : Int) (b : Int) := by
  rw [am_mul_ok (by omega) (by omega), am_add_ok (by omega) (by omega), show 7 * (a : Int) + (b : Int) = ((7 * a + b : Nat) : Int) by omega, am_lk_nat (by omega)]
  exact ho.2.2.1 a b ha hb
theorem sp_Ring_next {d L kp : Nat} {h : Nat → Nat → Int} {Q : Option am_V → am_H → Prop} {V : am_Vw} {P a p t : Nat} {left : Int} (hd : 2 ≤ d) (ho : r_ok V P h) (ha : a < 7) (hp : p < 7) (ht : t < P) (h1 : r_E V a t ∧ h 64 (7 * t + p) = left) (h2 : ∀ i, i < t → ¬ (r_E V a i ∧ h 64 (7 * i + p) = left)) : am_Wp d 143 0 [some (Sum.inr (Sum.inr 63)), some (Sum.inr (Sum.inr 42)), some (Sum.inl (a : Int)), some (Sum.inl (p : Int)), some (Sum.inl left), none] [] (am_SH L, h, am_RR kp) Q = Q (some (Sum.inl ((t : Int)))) (am_SH L, h, am_RR kp) := by
  have ho2 := ho
  obtain ⟨e42, P7, -⟩ := ho
  have eo : ∀ i : Nat, i < 7 → am_lk (h 43) 49 (am_add (am_mul 7 (a : Int)) (i : Int)) = v_owes V (a : Int) (i : Int) := fun i hi => r_ok_owed ho2 ha hi
  rw [bq_Ring_next_0]
  have key := am_up_fr (a := 0) (n := t) (fun i => am_Wp d 143 3 [some (Sum.inr (Sum.inr 63)), some (Sum.inr (Sum.inr 42)), some (Sum.inl ((a : Int))), some (Sum.inl ((p : Int))), some (Sum.inl (left)), some (Sum.inl ((i : Int)))] [] (am_SH L, h, am_RR kp) Q) (Q (some (Sum.inl ((t : Int)))) (am_SH L, h, am_RR kp)) (by omega) (fun i h3 h4 => ?_) ?_
  · exact key
  · show am_Wp d 143 3 [some (Sum.inr (Sum.inr 63)), some (Sum.inr (Sum.inr 42)), some (Sum.inl ((a : Int))), some (Sum.inl ((p : Int))), some (Sum.inl (left)), some (Sum.inl ((i : Int)))] [] (am_SH L, h, am_RR kp) Q = am_Wp d 143 3 [some (Sum.inr (Sum.inr 63)), some (Sum.inr (Sum.inr 42)), some (Sum.inl ((a : Int))), some (Sum.inl ((p : Int))), some (Sum.inl (left)), some (Sum.inl (((i + 1 : Nat) : Int)))] [] (am_SH L, h, am_RR kp) Q
    have h5 := h2 i h4
    refine (bq_Ring_next_3 (by omega)).trans ?_
    rw [sp_Ledger_people, e42]
    simp only [Option.toList_some, Option.toList_none, List.cons_append, List.nil_append]
    rw [bq_Ring_next_9 (by omega), if_neg (by omega), sp_Ledger_owed (by omega), eo i (by omega)]
    simp only [Option.toList_some, Option.toList_none, List.cons_append, List.nil_append]
    rw [bq_Ring_next_19 (by omega)]
    by_cases q : v_owes V (a : Int) (i : Int) ≤ 0
    · rw [if_pos q, bq_Ring_next_37, am_incn (by omega)]
    · rw [if_neg q, sp_Ring_stepsFrom (by omega) (by omega) hp]
      simp only [Option.toList_some, Option.toList_none, List.cons_append, List.nil_append]
      rw [bq_Ring_next_29, if_neg (fun w => h5 ⟨by unfold r_E; omega, w⟩), bq_Ring_next_37, am_incn (by omega)]
  · show am_Wp d 143 3 [some (Sum.inr (Sum.inr 63)), some (Sum.inr (Sum.inr 42)), some (Sum.inl ((a : Int))), some (Sum.inl ((p : Int))), some (Sum.inl (left)), some (Sum.inl ((t : Int)))] [] (am_SH L, h, am_RR kp) Q = _
    have h5 : 0 < v_owes V (a : Int) (t : Int) := h1.1
    refine (bq_Ring_next_3 (by omega)).trans ?_
    rw [sp_Ledger_people, e42]
    simp only [Option.toList_some, Option.toList_none, List.cons_append, List.nil_append]
    rw [bq_Ring_next_9 (by omega), if_neg (by omega), sp_Ledger_owed (by omega), eo t (by omega)]
    simp only [Option.toList_some, Option.toList_none, List.cons_append, List.nil_append]
    rw [bq_Ring_next_19 (by omega), if_neg (by omega), sp_Ring_stepsFrom (by omega) (by omega) hp]
    simp only [Option.toList_some, Option.toList_none, List.cons_append, List.nil_append]
    rw [bq_Ring_next_29, if_pos h1.2]
/-- what the best ring says of the least steps -/
theorem r_facts {V : am_Vw} {P m : Nat} {c : Nat → Nat} {h : Nat → Nat → Int} (hn : v_nl V) (ho : r_ok V P h) (hb : r_Best (r_E V) m c) : 2 ≤ m ∧ m ≤ P ∧ (∀ k, k < m → c k < P) ∧ (∀ i, i < 7 → (m : Int) ≤ h 64 (7 * i + i)) ∧ (∀ i, i < c 0 → ¬ h 64 (7 * i + i) = (m : Int)) ∧ h 64 (7 * c 0 + c 0) = (m : Int) ∧ (∀ k, 0 < k → k < m → r_E V (c (k - 1)) (c k) ∧ h 64 (7 * c k + c 0) = (m : Int) - (k : Int) ∧ ∀ i, i < c k → ¬ (r_E V (c (k - 1)) i ∧ h 64 (7 * i + c 0) = (m : Int) - (k : Int))) := by
  obtain ⟨e42, P7, e43, hlt, hsn, hcp⟩ := ho
  have hE := r_E_ne (V := V) hn
  have hf := hb.1
  have h2 := hf.1
  have hcP : ∀ k, k < m → c k < P := fun k hk => by
    by_cases q : k + 1 < m
    · exact (hlt _ _ (hf.2.1 k q)).1
    · have h3 := (hlt _ _ hf.2.2.1).1
      rw [show k = m - 1 by omega]; exact h3
  have hmP : m ≤ P := r_pigeon P m c hcP hf.2.2.2
  have hall : ∀ {i j L}, i < 7 → j < 7 → 1 ≤ L → r_R (r_E V) L i j → h 64 (7 * i + j) ≤ (L : Int) := fun hi hj hL hr => r_cpl_all hlt P7 hcp hi hj hL hr
  have hlow : ∀ i, i < 7 → (m : Int) ≤ h 64 (7 * i + i) := fun i hi => by
    obtain ⟨s1, s2, s3⟩ := hsn i i hi hi
    by_cases q : h 64 (7 * i + i) < 1000000
    · have := r_best_le hE hb (by omega) (s3 q)
      omega
    · omega
  refine ⟨h2, hmP, hcP, hlow, fun i hi w => ?_, ?_, fun k hk0 hk => ?_⟩
  · have hc0 := hcP 0 (by omega)
    obtain ⟨s1, s2, s3⟩ := hsn i i (by omega) (by omega)
    have hr := s3 (by omega)
    rw [w, Int.toNat_natCast] at hr
    obtain ⟨f, f0, fm, fs⟩ := hr
    have hfull := r_best_full hE hb fs (by rw [fm, f0])
    have := hb.2.2 f 0 hfull (by omega) (fun j hj => absurd hj (by omega))
    omega
  · have hc0 := hcP 0 (by omega)
    have h3 := hall (by omega) (by omega) (by omega) (r_full_E hf (k := 0) (by omega))
    rw [Nat.sub_zero] at h3
    have := hlow (c 0) (by omega)
    omega
  · have hck := hcP k hk
    have hc0 := hcP 0 (by omega)
    have hE1 : r_E V (c (k - 1)) (c k) := by
      have := hf.2.1 (k - 1) (by omega)
      rw [show k - 1 + 1 = k by omega] at this
      exact this
    have h3 := hall (by omega) (by omega) (by omega) (r_full_E hf hk)
    have hge : ∀ i, i < 7 → r_E V (c (k - 1)) i → (m : Int) - (k : Int) ≤ h 64 (7 * i + c 0) := fun i hi hEi => by
      obtain ⟨s1, s2, s3⟩ := hsn i (c 0) hi (by omega)
      by_cases q : h 64 (7 * i + c 0) < 1000000
      · have h4 := r_R_c (r_R_c (r_full_R hf (i := 0) (j := k - 1) (by omega) (by omega)) (r_R_1 hEi)) (s3 q)
        have h5 := r_best_le hE hb (by omega) h4
        omega
      · omega
    refine ⟨hE1, ?_, fun i hi w => ?_⟩
    · have h4 := hge (c k) (by omega) hE1
      omega
    · obtain ⟨s1, s2, s3⟩ := hsn i (c 0) (by omega) (by omega)
      have hr := s3 (by rw [w.2]; omega)
      rw [w.2, show ((m : Int) - (k : Int)).toNat = m - k by omega] at hr
      obtain ⟨g, g0, gm, gs⟩ := hr
      have hfull := r_best_full hE hb (f := fun t => if t < k then c t else g (t - k)) (fun t ht => by
        show r_E V (if t < k then c t else g (t - k)) (if t + 1 < k then c (t + 1) else g (t + 1 - k))
        by_cases q : t < k
        · rw [if_pos q]
          by_cases q2 : t + 1 < k
          · rw [if_pos q2]; exact hf.2.1 t (by omega)
          · rw [if_neg q2, show t + 1 - k = 0 by omega, g0, show t = k - 1 by omega]
            exact w.1
        · rw [if_neg q, if_neg (by omega), show t + 1 - k = t - k + 1 by omega]
          exact gs (t - k) (by omega)) (by
        show (if m < k then _ else g (m - k)) = (if 0 < k then c 0 else _)
        rw [if_neg (by omega), if_pos hk0, gm])
      have h6 := hb.2.2 _ k hfull hk (fun j hj => if_pos hj)
      have h7 : (if k < k then c k else g (k - k)) = i := by rw [if_neg (by omega), Nat.sub_self, g0]
      rw [h7] at h6
      omega
theorem r_none {V : am_Vw} {P : Nat} {h : Nat → Nat → Int} (hn : v_nl V) (ho : r_ok V P h) (hno : ∀ n f, ¬ r_Full (r_E V) n f) : ∀ i, i < 7 → h 64 (7 * i + i) = 1000000 := fun i hi => by
  obtain ⟨e42, P7, e43, hlt, hsn, hcp⟩ := ho
  obtain ⟨s1, s2, s3⟩ := hsn i i hi hi
  by_cases q : h 64 (7 * i + i) < 1000000
  · obtain ⟨n, f, -, hf⟩ := r_full_of (r_E_ne (V := V) hn) _ _ i (Nat.le_refl _) (by omega) (s3 q)
    exact absurd hf (hno n f)
  · omega
def r_fs (h g : Nat → Nat → Int) : Prop := ∀ c j, ¬ (c = 63 ∨ c = 65) → g c j = h c j
/-- the search, the steps being known -/
theorem lp_Ring_find {d L kp : Nat} {h : Nat → Nat → Int} {Q : Option am_V → am_H → Prop} {V : am_Vw} {P : Nat} (hd : 4 ≤ d) (hn : v_nl V) (ho : r_ok V P h) (hq1 : (∀ n f, ¬ r_Full (r_E V) n f) → ∀ g, r_fs h g → g 63 2 = 0 → Q none (am_SH L, g, am_RR kp)) (hq2 : ∀ m c, r_Best (r_E V) m c → ∀ g, r_fs h g → g 63 2 = (m : Int) → (∀ k, k < m → g 65 k = (c k : Int)) → Q none (am_SH L, g, am_RR kp)) : am_Wp d 140 13 [some (Sum.inr (Sum.inr 63)), some (Sum.inr (Sum.inr 42)), some (Sum.inl (1000000)), some (Sum.inl (0)), some (Sum.inl (0)), none] [] (am_SH L, h, am_RR kp) Q := by
  have ho2 := ho
  obtain ⟨e42, P7, e43, hlt, hsn, hcp⟩ := ho
  have step : ∀ (x y : Int) (i : Nat), i < P → am_Wp d 140 13 [some (Sum.inr (Sum.inr 63)), some (Sum.inr (Sum.inr 42)), some (Sum.inl (x)), some (Sum.inl (y)), some (Sum.inl ((i : Int))), none] [] (am_SH L, h, am_RR kp) Q = if x ≤ h 64 (7 * i + i) then am_Wp d 140 13 [some (Sum.inr (Sum.inr 63)), some (Sum.inr (Sum.inr 42)), some (Sum.inl (x)), some (Sum.inl (y)), some (Sum.inl (((i + 1 : Nat) : Int))), none] [] (am_SH L, h, am_RR kp) Q else am_Wp d 140 13 [some (Sum.inr (Sum.inr 63)), some (Sum.inr (Sum.inr 42)), some (Sum.inl ((h 64 (7 * i + i)))), some (Sum.inl ((i : Int))), some (Sum.inl (((i + 1 : Nat) : Int))), none] [] (am_SH L, h, am_RR kp) Q := fun x y i hi => by
    rw [bq_Ring_find_13 (by omega), sp_Ledger_people, e42]
    simp only [Option.toList_some, Option.toList_none, List.cons_append, List.nil_append]
    rw [bq_Ring_find_19 (by omega), if_neg (by omega), sp_Ring_stepsFrom (by omega) (by omega) (by omega)]
    simp only [Option.toList_some, Option.toList_none, List.cons_append, List.nil_append]
    rw [bq_Ring_find_30 (by omega)]
    by_cases q : x ≤ h 64 (7 * i + i)
    · rw [if_pos q, if_pos q, bq_Ring_find_46, am_incn (by omega)]
    · rw [if_neg q, if_neg q, sp_Ring_stepsFrom (by omega) (by omega) (by omega)]
      simp only [Option.toList_some, Option.toList_none, List.cons_append, List.nil_append]
      rw [bq_Ring_find_42, bq_Ring_find_46, am_incn (by omega)]
  by_cases hex : ∃ n f, r_Full (r_E V) n f
  · obtain ⟨m, c, hb⟩ := r_best_ex hex
    have hq3 := hq2 m c hb
    clear hq1 hq2
    obtain ⟨h2, hmP, hcP, hlow, hne, heq, hnx⟩ := r_facts hn ho2 hb
    have hc0 := hcP 0 (by omega)
    refine am_im_fr (J := Int × Int) (a := 0) (n := P) (fun i j => (i ≤ c 0 → (m : Int) < j.1) ∧ (c 0 < i → j.1 = (m : Int) ∧ j.2 = (c 0 : Int))) (fun i j => am_Wp d 140 13 [some (Sum.inr (Sum.inr 63)), some (Sum.inr (Sum.inr 42)), some (Sum.inl (j.1)), some (Sum.inl (j.2)), some (Sum.inl ((i : Int))), none] [] (am_SH L, h, am_RR kp) Q) (by omega) (fun i j h3 h4 hi ih => ?_) (fun j hi => ?_) (1000000, 0) ⟨fun _ => by show (m : Int) < 1000000; omega, fun w => absurd w (by omega)⟩
    · obtain ⟨x, y⟩ := j
      obtain ⟨i1, i2⟩ := hi
      dsimp only at i1 i2 ⊢
      have hl := hlow i (by omega)
      rw [step x y i h4]
      by_cases q : x ≤ h 64 (7 * i + i)
      · rw [if_pos q]
        refine ih (x, y) ⟨fun w => i1 (by omega), fun w => ?_⟩
        by_cases q2 : i = c 0
        · rw [q2, heq] at q
          have := i1 (by omega)
          omega
        · exact i2 (by omega)
      · rw [if_neg q]
        refine ih (h 64 (7 * i + i), (i : Int)) ⟨fun w => ?_, fun w => ?_⟩
        · have := hne i (by omega)
          show (m : Int) < h 64 (7 * i + i)
          omega
        · by_cases q2 : i = c 0
          · rw [q2]; exact ⟨heq, rfl⟩
          · have := (i2 (by omega)).1
            omega
    · obtain ⟨x, y⟩ := j
      have i2 := hi.2 (by omega)
      dsimp only at i2 ⊢
      rw [i2.1, i2.2, bq_Ring_find_13 (by omega), sp_Ledger_people, e42]
      simp only [Option.toList_some, Option.toList_none, List.cons_append, List.nil_append]
      rw [bq_Ring_find_19 (by omega), if_pos (by omega), if_neg (by omega), bq_Ring_find_64]
      have key := am_im_fr (J := Option am_V) (a := 0) (n := m) (fun k j => True) (fun k j => am_Wp d 140 70 [some (Sum.inr (Sum.inr 63)), some (Sum.inr (Sum.inr 42)), some (Sum.inl (m : Int)), some (Sum.inl (c 0 : Int)), some (Sum.inl (k : Int)), j] [] (am_SH L, an_arr (am_up h 63 2 (m : Int)) 65 k (fun t => (c t : Int)), am_RR kp) Q) (by omega) (fun k j h3 h4 _ ih => ?_) (fun j _ => ?_) none trivial
      · have k2 : am_Wp d 140 70 [some (Sum.inr (Sum.inr 63)), some (Sum.inr (Sum.inr 42)), some (Sum.inl (m : Int)), some (Sum.inl (c 0 : Int)), some (Sum.inl 0), none] [] (am_SH L, an_arr (am_up h 63 2 (m : Int)) 65 0 (fun t => (c t : Int)), am_RR kp) Q := key
        rw [an_arr_0] at k2
        exact k2
      · have e63 : an_arr (am_up h 63 2 (m : Int)) 65 k (fun t => (c t : Int)) 63 2 = (m : Int) := rfl
        have fin : ∀ x : Int, am_Wp d 140 122 [some (Sum.inr (Sum.inr 63)), some (Sum.inr (Sum.inr 42)), some (Sum.inl (m : Int)), some (Sum.inl (c 0 : Int)), some (Sum.inl (k : Int)), some (Sum.inl x)] [Sum.inl (c k : Int), Sum.inl (k : Int), Sum.inr (Sum.inr 65)] (am_SH L, an_arr (am_up h 63 2 (m : Int)) 65 k (fun t => (c t : Int)), am_RR kp) Q := fun x => by
          rw [bq_Ring_find_122 (by omega), sp_put_65, am_put_nat (by omega), an_arr_g (c := fun t => (c t : Int))]
          simp only [Option.toList_some, Option.toList_none, List.cons_append, List.nil_append]
          rw [bq_Ring_find_125, am_incn (by omega)]
          exact ih _ trivial
        rw [bq_Ring_find_70 (by omega), e63, if_neg (by omega), sp_at_65]
        simp only [Option.toList_some, Option.toList_none, List.cons_append, List.nil_append]
        rw [bq_Ring_find_90 (by omega)]
        by_cases q : k = 0
        · subst q
          rw [if_pos (show ((0 : Nat) : Int) = 0 from rfl)]
          exact fin _
        · have ek : am_sub (k : Int) 1 = ((k - 1 : Nat) : Int) := by rw [am_sub_ok (by omega) (by omega)]; omega
          have eh : am_lk (an_arr (am_up h 63 2 (m : Int)) 65 k (fun t => (c t : Int)) 65) 7 (am_sub (k : Int) 1) = (c (k - 1) : Int) := by
            rw [ek, am_lk_nat (by omega), an_arr_i (by omega)]
          obtain ⟨n1, n2, n3⟩ := hnx k (by omega) h4
          have hck := hcP k h4
          have hck1 := hcP (k - 1) (by omega)
          have ho3 : r_ok V P (an_arr (am_up h 63 2 (m : Int)) 65 k (fun t => (c t : Int))) := ho2
          rw [if_neg (by omega), eh, e63, am_sub_ok (by omega) (by omega), sp_Ring_next (V := V) (P := P) (t := c k) (by omega) ho3 (by omega) (by omega) (by omega) ⟨n1, n2⟩ n3]
          simp only [Option.toList_some, Option.toList_none, List.cons_append, List.nil_append]
          exact fin _
      · rw [bq_Ring_find_70 (by omega), show an_arr (am_up h 63 2 (m : Int)) 65 m (fun t => (c t : Int)) 63 2 = (m : Int) from rfl, if_pos (by omega)]
        refine hq3 _ (fun a b hab => ?_) rfl (fun k hk => an_arr_i hk)
        show (if a = 65 then _ else am_up h 63 2 (m : Int) a b) = _
        rw [if_neg (by omega), am_upo (by omega)]
  · have hno : ∀ n f, ¬ r_Full (r_E V) n f := fun n f hf => hex ⟨n, f, hf⟩
    have hS := r_none hn ho2 hno
    have key := am_up_fr (a := 0) (n := P) (fun i => am_Wp d 140 13 [some (Sum.inr (Sum.inr 63)), some (Sum.inr (Sum.inr 42)), some (Sum.inl (1000000)), some (Sum.inl (0)), some (Sum.inl ((i : Int))), none] [] (am_SH L, h, am_RR kp) Q) (am_Wp d 140 13 [some (Sum.inr (Sum.inr 63)), some (Sum.inr (Sum.inr 42)), some (Sum.inl (1000000)), some (Sum.inl (0)), some (Sum.inl ((P : Int))), none] [] (am_SH L, h, am_RR kp) Q) (by omega) (fun i h3 h4 => by
      show am_Wp d 140 13 [some (Sum.inr (Sum.inr 63)), some (Sum.inr (Sum.inr 42)), some (Sum.inl (1000000)), some (Sum.inl (0)), some (Sum.inl ((i : Int))), none] [] (am_SH L, h, am_RR kp) Q = am_Wp d 140 13 [some (Sum.inr (Sum.inr 63)), some (Sum.inr (Sum.inr 42)), some (Sum.inl (1000000)), some (Sum.inl (0)), some (Sum.inl (((i + 1 : Nat) : Int))), none] [] (am_SH L, h, am_RR kp) Q
      rw [step 1000000 0 i h4, hS i (by omega), if_pos (by omega)]) rfl
    refine (show am_Wp d 140 13 [some (Sum.inr (Sum.inr 63)), some (Sum.inr (Sum.inr 42)), some (Sum.inl (1000000)), some (Sum.inl (0)), some (Sum.inl (0)), none] [] (am_SH L, h, am_RR kp) Q = _ from key).mpr ?_
    rw [bq_Ring_find_13 (by omega), sp_Ledger_people, e42]
    simp only [Option.toList_some, Option.toList_none, List.cons_append, List.nil_append]
    rw [bq_Ring_find_19 (by omega), if_pos (by omega), if_pos rfl, bq_Ring_find_64, bq_Ring_find_70 (by omega), if_pos (show am_up h 63 2 0 63 2 ≤ 0 by show (0 : Int) ≤ 0; omega)]
    exact hq1 hno _ (fun a b hab => am_upo (by omega)) rfl
theorem sp_Ring_find {d L kp : Nat} {h : Nat → Nat → Int} {Q : Option am_V → am_H → Prop} (hd : 5 ≤ d) (hv : v_ok (am_wv h 2)) (hn : v_nl (am_wv h 2)) (hl : am_led h) (hq1 : (∀ n f, ¬ r_Full (r_E (am_wv h 2)) n f) → ∀ g, am_keep h g → am_led g → am_wv g 2 = am_wv h 2 → g 63 2 = 0 → Q none (am_SH L, g, am_RR kp)) (hq2 : ∀ m c, r_Best (r_E (am_wv h 2)) m c → ∀ g, am_keep h g → am_led g → am_wv g 2 = am_wv h 2 → g 63 2 = (m : Int) → m ≤ 7 → (∀ k, k < m → c k < 7) → (∀ k, k < m → g 65 k = (c k : Int)) → Q none (am_SH L, g, am_RR kp)) : am_Wp d 140 0 [some (Sum.inr (Sum.inr 63)), some (Sum.inr (Sum.inr 42)), none, none, none, none] [] (am_SH L, h, am_RR kp) Q := by
  have hP7 := wv_P hv
  obtain ⟨P, hP⟩ := Int.eq_ofNat_of_zero_le hP7.1
  rw [bq_Ring_find_0 (by omega)]
  refine sp_Ring_measure (P := P) (by omega) hv hl hP (fun g hg hs hc => ?_)
  simp only [Option.toList_some, Option.toList_none, List.cons_append, List.nil_append]
  rw [bq_Ring_find_5]
  have ho : r_ok (am_wv h 2) P g := ⟨(hg 42 2 (by omega)).trans (hl.1.trans hP), by omega, fun a b ha hb => (hg 43 _ (by omega)).trans (hl.2.1 a b ha hb), fun a b hab => by
    have h1 := r_E_lt hv hab
    rw [show (vP (am_wv h 2)).toNat = P by rw [show vP (am_wv h 2) = (P : Int) from hP]; exact Int.toNat_natCast P] at h1
    exact h1, hs, hc⟩
  have kk : ∀ g2, r_fs g g2 → am_keep h g2 ∧ am_led g2 ∧ am_wv g2 2 = am_wv h 2 := fun g2 hf => by
    have e : ∀ c, ¬ (c = 63 ∨ c = 64 ∨ c = 65) → g2 c = h c := fun c hc => funext fun j => (hf c j (by omega)).trans (hg c j (by omega))
    have hk : am_keep h g2 := fun c j hr => by
      by_cases q : c = 63 ∨ c = 64 ∨ c = 65
      · rcases q with q | q | q <;> subst q <;> cases hr
      · rw [e c q]
    refine ⟨hk, ?_, am_keep_wv hk⟩
    unfold am_led
    rw [am_keep_wv hk, e 42 (by omega), e 43 (by omega), e 44 (by omega), e 2 (by omega)]
    exact hl
  refine lp_Ring_find (by omega) hn ho (fun hno g2 hf h63 => ?_) (fun m c hb g2 hf h63 h65 => ?_)
  · obtain ⟨a1, a2, a3⟩ := kk g2 hf
    exact hq1 hno g2 a1 a2 a3 h63
  · obtain ⟨a1, a2, a3⟩ := kk g2 hf
    obtain ⟨h2, hmP, hcP, -⟩ := r_facts hn ho hb
    exact hq2 m c hb g2 a1 a2 a3 h63 (by omega) (fun k hk => by have := hcP k hk; omega) h65
def a_ringN (i : Int) : am_V × Nat := if i < -1 then (Sum.inl (-4), 4) else (Sum.inl (-9), 0)
def a_ringB (m : Nat) (c : Nat → Nat) (i : Int) : am_V × Nat := if i < -1 then (Sum.inl (-4), 4) else (Sum.inl (if i = -1 then (m : Int) else if i < (m : Int) then (c i.toNat : Int) else -9), 0)
theorem c_ring {d L kp : Nat} {h : Nat → Nat → Int} {i : Int} {A : am_V × Nat} (hd : 30 ≤ d) (hv : v_ok (am_wv h 2)) (hn : v_nl (am_wv h 2)) (hA1 : (∀ n f, ¬ r_Full (r_E (am_wv h 2)) n f) → A = a_ringN i) (hA2 : ∀ m c, r_Best (r_E (am_wv h 2)) m c → A = a_ringB m c i) : am_An L 41 A h (fun Q => am_Wp d 139 0 [some (Sum.inr (Sum.inr 1)), some (Sum.inl i)] [] (am_SH L, h, am_RR kp) Q) := by
  intro Q hq
  show am_Wp d 139 0 [some (Sum.inr (Sum.inr 1)), some (Sum.inl i)] [] (am_SH L, h, am_RR kp) Q
  by_cases q : i < -1
  · have hA : A = (Sum.inl (-4), 4) := by
      by_cases hex : ∃ n f, r_Full (r_E (am_wv h 2)) n f
      · obtain ⟨m, c, hb⟩ := r_best_ex hex
        rw [hA2 m c hb]; exact if_pos q
      · rw [hA1 (fun n f hf => hex ⟨n, f, hf⟩)]; exact if_pos q
    rw [hA] at hq
    rw [bq_KO_ring_0 (by omega), if_neg (by omega), sp_KO_refuse (by omega) (by omega) (by omega)]
    simp only [Option.toList_some, Option.toList_none, List.cons_append, List.nil_append]
    rw [bq_KO_ring_11]
    exact hq _ kp am_keep_r
  · rw [bq_KO_ring_0 (by omega), if_pos (by omega)]
    refine sp_Ledger_readI (by omega) hv (fun g hk hw hl => ?_)
    have hvg : v_ok (am_wv g 2) := by rw [hw]; exact hv
    have hng : v_nl (am_wv g 2) := by rw [hw]; exact hn
    simp only [Option.toList_some, Option.toList_none, List.cons_append, List.nil_append]
    rw [bq_KO_ring_23 (by omega)]
    refine sp_Ring_find (by omega) hvg hng hl (fun hno g2 hk2 hl2 hw2 h63 => ?_) (fun m c hb g2 hk2 hl2 hw2 h63 hm7 hc7 h65 => ?_)
    · rw [hw] at hno
      rw [hA1 hno] at hq
      unfold a_ringN at hq
      rw [if_neg q] at hq
      simp only [Option.toList_some, Option.toList_none, List.cons_append, List.nil_append]
      rw [bq_KO_ring_34 (by omega), sp_Ring_size]
      simp only [Option.toList_some, Option.toList_none, List.cons_append, List.nil_append]
      rw [bq_KO_ring_41 (by omega), if_pos h63]
      exact hq _ kp (am_keep_t hk hk2)
    · rw [hw] at hb
      have h2 := hb.1.1
      rw [hA2 m c hb] at hq
      unfold a_ringB at hq
      rw [if_neg q] at hq
      simp only [Option.toList_some, Option.toList_none, List.cons_append, List.nil_append]
      rw [bq_KO_ring_34 (by omega), sp_Ring_size]
      simp only [Option.toList_some, Option.toList_none, List.cons_append, List.nil_append]
      rw [bq_KO_ring_41 (by omega), if_neg (by omega)]
      by_cases q1 : i = -1
      · rw [if_pos q1] at hq
        rw [if_pos q1, sp_Ring_size]
        simp only [Option.toList_some, Option.toList_none, List.cons_append, List.nil_append]
        rw [bq_KO_ring_59, h63]
        exact hq _ kp (am_keep_t hk hk2)
      · rw [if_neg q1] at hq
        rw [if_neg q1, sp_Ring_size]
        simp only [Option.toList_some, Option.toList_none, List.cons_append, List.nil_append]
        rw [bq_KO_ring_68 (by omega), h63]
        by_cases q2 : i < (m : Int)
        · rw [if_pos q2] at hq
          obtain ⟨k, rfl⟩ := Int.eq_ofNat_of_zero_le (show 0 ≤ i by omega)
          rw [if_neg (by omega), sp_Ring_member (by omega) (by omega), h65 k (by omega)]
          simp only [Option.toList_some, Option.toList_none, List.cons_append, List.nil_append]
          rw [bq_KO_ring_79, bq_KO_ring_84]
          rw [Int.toNat_natCast] at hq
          exact hq _ kp (am_keep_t hk hk2)
        · rw [if_neg q2] at hq
          rw [if_pos (by omega), bq_KO_ring_84]
          exact hq _ kp (am_keep_t hk hk2)
def r_min (w : Nat → Int) : Nat → Int
  | 0 => 1000000
  | k + 1 => am_min (r_min w k) (w k)
def r_w (V : am_Vw) (c : Nat → Nat) (m k : Nat) : Int := v_owes V (c k : Int) (c (if k + 1 < m then k + 1 else 0) : Int)
theorem r_min_le {w : Nat → Int} (hw : ∀ k, 0 ≤ w k ∧ w k ≤ 640) : ∀ k, 0 ≤ r_min w k ∧ r_min w k ≤ 1000000 := by
  intro k
  induction k with
  | zero => show (0 : Int) ≤ 1000000 ∧ (1000000 : Int) ≤ 1000000; omega
  | succ k ih =>
    obtain ⟨m1, m2, m3⟩ := am_min_1 (x := r_min w k) (y := w k)
    have h1 := hw k
    show 0 ≤ am_min (r_min w k) (w k) ∧ am_min (r_min w k) (w k) ≤ 1000000
    omega
theorem sp_Ring_least {d L kp : Nat} {h : Nat → Nat → Int} {Q : Option am_V → am_H → Prop} {V : am_Vw} {m : Nat} {c : Nat → Nat} (hd : 2 ≤ d) (h43 : ∀ a b : Nat, a < 7 → b < 7 → h 43 (7 * a + b) = v_owes V (a : Int) (b : Int)) (h63 : h 63 2 = (m : Int)) (hm : m ≤ 7) (hc7 : ∀ k, k < m → c k < 7) (h65 : ∀ k, k < m → h 65 k = (c k : Int)) : am_Wp d 147 0 [some (Sum.inr (Sum.inr 63)), some (Sum.inr (Sum.inr 42)), none, none, none] [] (am_SH L, h, am_RR kp) Q = Q (some (Sum.inl (r_min (r_w V c m) m))) (am_SH L, h, am_RR kp) := by
  rw [bq_Ring_least_0]
  refine am_dn_fr (J := Option am_V) (a := 0) (n := m) (fun k j => am_Wp d 147 5 [some (Sum.inr (Sum.inr 63)), some (Sum.inr (Sum.inr 42)), some (Sum.inl (r_min (r_w V c m) k)), some (Sum.inl (k : Int)), j] [] (am_SH L, h, am_RR kp) Q) (Q (some (Sum.inl (r_min (r_w V c m) m))) (am_SH L, h, am_RR kp)) (by omega) (fun k h1 h2 ih j => ?_) (fun j => ?_) none
  · have fin : ∀ t : Nat, t < m → t = (if k + 1 < m then k + 1 else 0) → am_Wp d 147 30 [some (Sum.inr (Sum.inr 63)), some (Sum.inr (Sum.inr 42)), some (Sum.inl (r_min (r_w V c m) k)), some (Sum.inl (k : Int)), j] [Sum.inl (t : Int)] (am_SH L, h, am_RR kp) Q = Q (some (Sum.inl (r_min (r_w V c m) m))) (am_SH L, h, am_RR kp) := fun t ht et => by
      have c1 := hc7 k h2
      have c2 := hc7 t ht
      have eo : am_lk (h 43) 49 (am_add (am_mul 7 (c k : Int)) (c t : Int)) = v_owes V (c k : Int) (c t : Int) := by
        rw [am_mul_ok (by omega) (by omega), am_add_ok (by omega) (by omega), show 7 * (c k : Int) + (c t : Int) = ((7 * c k + c t : Nat) : Int) by omega, am_lk_nat (by omega)]
        exact h43 _ _ c1 c2
      rw [bq_Ring_least_30 (by omega), sp_at_65, am_lk_nat (by omega), h65 k h2]
      simp only [Option.toList_some, Option.toList_none, List.cons_append, List.nil_append]
      rw [bq_Ring_least_42 (by omega), sp_at_65, am_lk_nat (by omega), h65 t ht]
      simp only [Option.toList_some, Option.toList_none, List.cons_append, List.nil_append]
      rw [bq_Ring_least_51 (by omega), sp_Ledger_owed (by omega), eo]
      simp only [Option.toList_some, Option.toList_none, List.cons_append, List.nil_append]
      rw [bq_Ring_least_54, am_incn (by omega)]
      have e2 : r_w V c m k = v_owes V (c k : Int) (c t : Int) := by
        unfold r_w; rw [← et]
      have ih2 := ih (some (Sum.inl (t : Int)))
      rw [← e2]
      exact ih2
    refine (bq_Ring_least_5).trans ?_
    rw [h63, if_neg (by omega), am_incn (by omega)]
    by_cases q : k + 1 < m
    · rw [if_neg (by omega)]
      exact fin (k + 1) q (by rw [if_pos q])
    · rw [if_pos (by omega)]
      exact fin 0 (by omega) (by rw [if_neg q])
  · refine (bq_Ring_least_5).trans ?_
    rw [h63, if_pos (by omega)]
theorem c_round {d L kp : Nat} {h : Nat → Nat → Int} {A : am_V × Nat} (hd : 30 ≤ d) (hv : v_ok (am_wv h 2)) (hn : v_nl (am_wv h 2)) (hA1 : (∀ n f, ¬ r_Full (r_E (am_wv h 2)) n f) → A = (Sum.inl (-9), 0)) (hA2 : ∀ m c, r_Best (r_E (am_wv h 2)) m c → A = (Sum.inl (r_min (r_w (am_wv h 2) c m) m), 0)) : am_An L 41 A h (fun Q => am_Wp d 146 0 [some (Sum.inr (Sum.inr 1))] [] (am_SH L, h, am_RR kp) Q) := by
  intro Q hq
  show am_Wp d 146 0 [some (Sum.inr (Sum.inr 1))] [] (am_SH L, h, am_RR kp) Q
  rw [bq_KO_round_0 (by omega)]
  refine sp_Ledger_readI (by omega) hv (fun g hk hw hl => ?_)
  have hvg : v_ok (am_wv g 2) := by rw [hw]; exact hv
  have hng : v_nl (am_wv g 2) := by rw [hw]; exact hn
  simp only [Option.toList_some, Option.toList_none, List.cons_append, List.nil_append]
  rw [bq_KO_round_11 (by omega)]
  refine sp_Ring_find (by omega) hvg hng hl (fun hno g2 hk2 hl2 hw2 h63 => ?_) (fun m c hb g2 hk2 hl2 hw2 h63 hm7 hc7 h65 => ?_)
  · rw [hw] at hno
    rw [hA1 hno] at hq
    simp only [Option.toList_some, Option.toList_none, List.cons_append, List.nil_append]
    rw [bq_KO_round_22 (by omega), sp_Ring_size]
    simp only [Option.toList_some, Option.toList_none, List.cons_append, List.nil_append]
    rw [bq_KO_round_29 (by omega), if_pos h63, bq_KO_round_48]
    exact hq _ kp (am_keep_t hk hk2)
  · rw [hw] at hb
    have h2 := hb.1.1
    rw [hA2 m c hb] at hq
    simp only [Option.toList_some, Option.toList_none, List.cons_append, List.nil_append]
    rw [bq_KO_round_22 (by omega), sp_Ring_size]
    simp only [Option.toList_some, Option.toList_none, List.cons_append, List.nil_append]
    rw [bq_KO_round_29 (by omega), if_neg (by omega), sp_Ring_least (V := am_wv g2 2) (m := m) (c := c) (by omega) hl2.2.1 h63 hm7 hc7 h65]
    simp only [Option.toList_some, Option.toList_none, List.cons_append, List.nil_append]
    rw [bq_KO_round_48, hw2, hw]
    exact hq _ kp (am_keep_t hk hk2)