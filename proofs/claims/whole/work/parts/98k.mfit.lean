/-! FITS of the reference -/
theorem sp_M_isKissed {d L kp : Nat} {h : Nat → Nat → Int} {Q : Option am_V → am_H → Prop} {x n : Nat} (hd : 1 ≤ d) (hn : n ≤ 4) (hx : x < 65536) (hq1 : v_kd (h 98) n n x → Q (some (Sum.inl 1)) (am_SH L, h, am_RR kp)) (hq2 : ¬ v_kd (h 98) n n x → Q (some (Sum.inl 0)) (am_SH L, h, am_RR kp)) : am_Wp d 259 0 [some (Sum.inr (Sum.inr 70)), some (Sum.inl (x : Int)), some (Sum.inl (n : Int)), none, none, none, none, none] [] (am_SH L, h, am_RR kp) Q := by
  have em : ∀ a b : Nat, a ≤ 4 → b ≤ 4 → am_mul (a : Int) (b : Int) = ((a * b : Nat) : Int) ∧ a * b ≤ 16 := fun a b ha hb => by
    have h1 : a * b ≤ 4 * 4 := Nat.mul_le_mul ha hb
    have e : (a : Int) * (b : Int) = ((a * b : Nat) : Int) := (Int.natCast_mul a b).symm
    have h2 : am_mul (a : Int) (b : Int) = (a : Int) * (b : Int) := am_mul_ok (by rw [e]; omega) (by rw [e]; omega)
    exact ⟨h2.trans e, h1⟩
  rw [bq_M_isKissed_0]
  refine am_im_fr (J := Int × Option am_V × Option am_V × Option am_V) (a := 0) (n := n) (fun i j => (j.1 = 1 ∧ v_kd (h 98) n i x) ∨ (j.1 = 0 ∧ ¬ v_kd (h 98) n n x)) (fun i j => am_Wp d 259 5 [some (Sum.inr (Sum.inr 70)), some (Sum.inl ((x : Int))), some (Sum.inl ((n : Int))), some (Sum.inl (j.1)), some (Sum.inl ((i : Int))), j.2.1, j.2.2.1, j.2.2.2] [] (am_SH L, h, am_RR kp) Q) (by omega) (fun i j _ hi hj ih => ?_) (fun j hj => ?_) (1, none, none, none) (Or.inl ⟨rfl, fun i hi => by omega⟩)
  · obtain ⟨ok, j5, j6, j7⟩ := j
    dsimp only at hj
    have key := am_dn_fr (J := Unit) (a := 0) (n := n) (fun j _ => am_Wp d 259 20 [some (Sum.inr (Sum.inr 70)), some (Sum.inl ((x : Int))), some (Sum.inl ((n : Int))), some (Sum.inl (ok)), some (Sum.inl ((i : Int))), some (Sum.inl ((am_sumb j (fun j => if Nat.testBit x (n * i + j) = true then (1 : Int) else 0)))), some (Sum.inl ((am_sumb j (fun k => if Nat.testBit x (n * k + i) = true then (1 : Int) else 0)))), some (Sum.inl ((j : Int)))] [] (am_SH L, h, am_RR kp) Q) (am_Wp d 259 20 [some (Sum.inr (Sum.inr 70)), some (Sum.inl ((x : Int))), some (Sum.inl ((n : Int))), some (Sum.inl (ok)), some (Sum.inl ((i : Int))), some (Sum.inl ((v_rc x n i))), some (Sum.inl ((v_cc x n i))), some (Sum.inl ((n : Int)))] [] (am_SH L, h, am_RR kp) Q) (by omega) (fun j _ hj2 ih2 _ => ?_) (fun _ => rfl) ()
    · show am_Wp d 259 5 [some (Sum.inr (Sum.inr 70)), some (Sum.inl ((x : Int))), some (Sum.inl ((n : Int))), some (Sum.inl (ok)), some (Sum.inl ((i : Int))), j5, j6, j7] [] (am_SH L, h, am_RR kp) Q
      rw [bq_M_isKissed_5, if_neg (by omega)]
      refine (show _ = _ from key).mpr ?_
      have eadd : am_add (n : Int) (i : Int) = ((n + i : Nat) : Int) := by rw [am_add_ok (by omega) (by omega)]; omega
      have r115 : ∀ v : Int, ((v = 1 ∧ v_kd (h 98) n (i + 1) x) ∨ (v = 0 ∧ ¬ v_kd (h 98) n n x)) → am_Wp d 259 115 [some (Sum.inr (Sum.inr 70)), some (Sum.inl ((x : Int))), some (Sum.inl ((n : Int))), some (Sum.inl (ok)), some (Sum.inl ((i : Int))), some (Sum.inl ((v_rc x n i))), some (Sum.inl ((v_cc x n i))), some (Sum.inl ((n : Int)))] [Sum.inl v] (am_SH L, h, am_RR kp) Q := fun v w => by
        rw [bq_M_isKissed_115, am_incn (by omega)]
        exact ih (v, _, _, _) w
      have r114 : ¬ v_kd (h 98) n n x → am_Wp d 259 114 [some (Sum.inr (Sum.inr 70)), some (Sum.inl ((x : Int))), some (Sum.inl ((n : Int))), some (Sum.inl (ok)), some (Sum.inl ((i : Int))), some (Sum.inl ((v_rc x n i))), some (Sum.inl ((v_cc x n i))), some (Sum.inl ((n : Int)))] [] (am_SH L, h, am_RR kp) Q := fun w => by
        rw [bq_M_isKissed_114]
        exact r115 0 (Or.inr ⟨rfl, w⟩)
      rw [bq_M_isKissed_20 (by omega), if_pos (Int.le_refl _)]
      rcases hj with ⟨q1, q2⟩ | ⟨q1, q2⟩
      · rw [if_neg (by omega), am_gd (by omega) (by omega), Int.toNat_natCast]
        by_cases q3 : v_rc x n i = h 98 i
        · rw [if_pos q3, eadd, am_gd (by omega) (by omega), Int.toNat_natCast]
          by_cases q4 : v_cc x n i = h 98 (n + i)
          · rw [if_pos q4]
            refine r115 1 (Or.inl ⟨rfl, fun k hk => ?_⟩)
            by_cases q5 : k = i
            · rw [q5]; exact ⟨q3, q4⟩
            · exact q2 k (by omega)
          · rw [if_neg q4]
            exact r114 (fun w => q4 (w i hi).2)
        · rw [if_neg q3]
          exact r114 (fun w => q3 (w i hi).1)
      · rw [if_pos q1]
        exact r114 q2
    · have ih3 := ih2 ()
      obtain ⟨m1, m2⟩ := em n i (by omega) (by omega)
      obtain ⟨m3, m4⟩ := em n j (by omega) (by omega)
      have s1 := am_sumb_le (n := j) (g := fun j => if Nat.testBit x (n * i + j) = true then (1 : Int) else 0) (A := 0) (B := 1) (fun k _ => by
        show 0 ≤ (if Nat.testBit x (n * i + k) = true then (1 : Int) else 0) ∧ (if Nat.testBit x (n * i + k) = true then (1 : Int) else 0) ≤ 1
        split <;> omega)
      have s2 := am_sumb_le (n := j) (g := fun k => if Nat.testBit x (n * k + i) = true then (1 : Int) else 0) (A := 0) (B := 1) (fun k _ => by
        show 0 ≤ (if Nat.testBit x (n * k + i) = true then (1 : Int) else 0) ∧ (if Nat.testBit x (n * k + i) = true then (1 : Int) else 0) ≤ 1
        split <;> omega)
      have a1 : am_add ((n * i : Nat) : Int) (j : Int) = ((n * i + j : Nat) : Int) := by rw [am_add_ok (by omega) (by omega)]; omega
      have a2 : am_add ((n * j : Nat) : Int) (i : Int) = ((n * j + i : Nat) : Int) := by rw [am_add_ok (by omega) (by omega)]; omega
      rw [am_sumb_s, am_sumb_s] at ih3
      refine (bq_M_isKissed_20 (by omega)).trans ?_
      rw [if_neg (by omega), m1, a1, sp_M_hasBit (by omega) (by omega) (by omega) (by omega), am_has_tb (by omega) (by omega)]
      simp only [Option.toList_some, Option.toList_none, List.cons_append, List.nil_append]
      have r47 : ∀ b : Int, b = (if Nat.testBit x (n * i + j) = true then (1 : Int) else 0) → am_Wp d 259 47 [some (Sum.inr (Sum.inr 70)), some (Sum.inl ((x : Int))), some (Sum.inl ((n : Int))), some (Sum.inl (ok)), some (Sum.inl ((i : Int))), some (Sum.inl ((am_sumb j (fun j => if Nat.testBit x (n * i + j) = true then (1 : Int) else 0)))), some (Sum.inl ((am_sumb j (fun k => if Nat.testBit x (n * k + i) = true then (1 : Int) else 0)))), some (Sum.inl ((j : Int)))] [Sum.inl b, Sum.inl (am_sumb j (fun j => if Nat.testBit x (n * i + j) = true then (1 : Int) else 0))] (am_SH L, h, am_RR kp) Q = am_Wp d 259 20 [some (Sum.inr (Sum.inr 70)), some (Sum.inl ((x : Int))), some (Sum.inl ((n : Int))), some (Sum.inl (ok)), some (Sum.inl ((i : Int))), some (Sum.inl ((v_rc x n i))), some (Sum.inl ((v_cc x n i))), some (Sum.inl ((n : Int)))] [] (am_SH L, h, am_RR kp) Q := fun b hb => by
        rw [← hb] at ih3
        rw [bq_M_isKissed_47 (by omega), m3, a2, sp_M_hasBit (by omega) (by omega) (by omega) (by omega), am_has_tb (by omega) (by omega)]
        simp only [Option.toList_some, Option.toList_none, List.cons_append, List.nil_append]
        have hb01 : 0 ≤ b ∧ b ≤ 1 := by rw [hb]; split <;> omega
        rw [am_add_ok (x := am_sumb j _) (by omega) (by omega), bq_M_isKissed_63]
        cases hc : Nat.testBit x (n * j + i) with
        | false =>
          rw [hc, if_neg Bool.noConfusion] at ih3
          rw [if_pos am_bif, bq_M_isKissed_71, am_incn (by omega), am_add_ok (by omega) (by omega)]
          exact ih3
        | true =>
          rw [hc, if_pos rfl] at ih3
          rw [if_neg am_b0, bq_M_isKissed_71, am_incn (by omega), am_add_ok (by omega) (by omega)]
          exact ih3
      rw [bq_M_isKissed_39]
      cases hc : Nat.testBit x (n * i + j) with
      | false => rw [if_pos am_bif]; exact r47 0 (by rw [hc, if_neg Bool.noConfusion])
      | true => rw [if_neg am_b0]; exact r47 1 (by rw [hc, if_pos rfl])
  · obtain ⟨ok, j5, j6, j7⟩ := j
    dsimp only at hj
    show am_Wp d 259 5 [some (Sum.inr (Sum.inr 70)), some (Sum.inl ((x : Int))), some (Sum.inl ((n : Int))), some (Sum.inl (ok)), some (Sum.inl ((n : Int))), j5, j6, j7] [] (am_SH L, h, am_RR kp) Q
    rw [bq_M_isKissed_5, if_pos (Int.le_refl _)]
    rcases hj with ⟨q1, q2⟩ | ⟨q1, q2⟩
    · rw [q1]; exact ⟨Or.inr rfl, hq1 q2⟩
    · rw [q1]; exact ⟨Or.inl rfl, hq2 q2⟩