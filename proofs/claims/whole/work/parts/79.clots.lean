/-! THE CALL lots -/
theorem an_and31 (s : Int) : ∃ u : Nat, u < 2147483648 ∧ am_and s 2147483647 = (u : Int) := by
  refine ⟨((Int32.ofInt s).toBitVec &&& 2147483647#32).toNat, ?_, ?_⟩
  · rw [BitVec.toNat_and]
    have h1 : (Int32.ofInt s).toBitVec.toNat &&& (2147483647#32).toNat ≤ (2147483647#32).toNat := Nat.and_le_right
    have h2 : (2147483647#32).toNat = 2147483647 := rfl
    omega
  · have h1 : ((Int32.ofInt s).toBitVec &&& 2147483647#32).toNat ≤ 2147483647 := by
      rw [BitVec.toNat_and]
      exact Nat.and_le_right
    show ((Int32.ofInt s).toBitVec &&& (Int32.ofInt 2147483647).toBitVec).toInt = _
    have h3 : (Int32.ofInt 2147483647).toBitVec = 2147483647#32 := rfl
    rw [h3, BitVec.toInt_eq_toNat_of_lt (by omega)]
def v_dr (s : Int) : Int := am_rem (am_shr (am_and s 2147483647) 16) 99
theorem v_dr_le {s : Int} : 0 ≤ v_dr s ∧ v_dr s ≤ 98 := by
  obtain ⟨u, h1, h2⟩ := an_and31 s
  have h3 := am_shr_ok (a := u) (k := 16) (by omega) h1
  have h4 : u / 2 ^ 16 ≤ u := Nat.div_le_self _ _
  unfold v_dr
  rw [h2]
  have h5 : ((16 : Nat) : Int) = 16 := rfl
  rw [h5] at h3
  rw [h3, am_rem_ok (by omega) (by omega) (by omega) (by omega)]
  omega
theorem v_dr_div {s : Int} : am_rem (am_div (am_and s 2147483647) 65536) 99 = v_dr s := by
  obtain ⟨u, h1, h2⟩ := an_and31 s
  have h3 := am_shr_ok (a := u) (k := 16) (by omega) h1
  have h5 : ((16 : Nat) : Int) = 16 := rfl
  rw [h5] at h3
  unfold v_dr
  rw [h2, h3, am_div_ok (by omega) (by omega) (by omega) (by omega)]
  rfl
def v_nx (s : Int) : Int := am_add (am_mul s 1103515245) 12345
def v_sd (V : am_Vw) (z : Int) (n : Nat) : Int := am_for (fun k s => if vT V k = 0 then v_nx s else s) n z
theorem v_sd_s {V : am_Vw} {z : Int} {n : Nat} : v_sd V z (n + 1) = if vT V n = 0 then v_nx (v_sd V z n) else v_sd V z n := rfl
def v_lot (V : am_Vw) (z : Int) (n : Nat) : Int := am_sumb n (fun p => if vT V p = 0 ∧ v_paid V (p : Int) = true ∧ vD V ≤ v_dr (v_sd V z (p + 1)) then vN V p else 0)
theorem v_lot_s {V : am_Vw} {z : Int} {n : Nat} : v_lot V z (n + 1) = v_lot V z n + (if vT V n = 0 ∧ v_paid V (n : Int) = true ∧ vD V ≤ v_dr (v_sd V z (n + 1)) then vN V n else 0) := rfl
theorem v_lot_le {V : am_Vw} (hv : v_ok V) {z : Int} {n : Nat} (hn : n ≤ 16) : 0 ≤ v_lot V z n ∧ v_lot V z n ≤ 640 := by
  have h1 := am_sumb_le (n := n) (g := fun p => if vT V p = 0 ∧ v_paid V (p : Int) = true ∧ vD V ≤ v_dr (v_sd V z (p + 1)) then vN V p else 0) (A := 0) (B := 40) (fun k hk => by
    have h2 := v_ok_p hv k (by omega)
    show 0 ≤ (if vT V k = 0 ∧ v_paid V (k : Int) = true ∧ vD V ≤ v_dr (v_sd V z (k + 1)) then vN V k else 0) ∧ (if vT V k = 0 ∧ v_paid V (k : Int) = true ∧ vD V ≤ v_dr (v_sd V z (k + 1)) then vN V k else 0) ≤ 40
    split <;> omega)
  unfold v_lot
  omega
def v_lots (V : am_Vw) (z : Int) (n : Nat) : Int × Int := am_for (fun _ s => (v_sd V s.1 (vQ V).toNat, s.2 + v_lot V s.1 (vQ V).toNat)) n (z, 0)
theorem v_lots_s {V : am_Vw} {z : Int} {n : Nat} : v_lots V z (n + 1) = (v_sd V (v_lots V z n).1 (vQ V).toNat, (v_lots V z n).2 + v_lot V (v_lots V z n).1 (vQ V).toNat) := by
  unfold v_lots
  exact am_for_s
theorem v_lots_le {V : am_Vw} (hv : v_ok V) {z : Int} {n : Nat} : 0 ≤ (v_lots V z n).2 ∧ (v_lots V z n).2 ≤ (n : Int) * 640 := by
  have hQ := v_ok_Q hv
  induction n with
  | zero => exact ⟨(by decide : (0 : Int) ≤ 0), (by decide : (0 : Int) ≤ ((0 : Nat) : Int) * 640)⟩
  | succ n ih =>
    have h1 := v_lot_le hv (z := (v_lots V z n).1) (n := (vQ V).toNat) (by omega)
    rw [v_lots_s]
    show 0 ≤ (v_lots V z n).2 + v_lot V (v_lots V z n).1 (vQ V).toNat ∧ (v_lots V z n).2 + v_lot V (v_lots V z n).1 (vQ V).toNat ≤ _
    omega
def a_lots (V : am_Vw) (n z : Int) : am_V × Nat := if n < 1 then (Sum.inl (-4), 4) else if 20 < n then (Sum.inl (-6), 6) else (Sum.inl (v_lots V z n.toNat).2, 0)
theorem lp_KO_lots_i {d L kp : Nat} {h : Nat → Nat → Int} {Q : Option am_V → am_H → Prop} {x y z s : Int} {j2 : Option am_V} (j : Option am_V) {E : Prop} (hd : 3 ≤ d) (hv : v_ok (am_wv h 2)) (hs : 0 ≤ s ∧ s ≤ 100000) (hE : ∀ j, am_Wp d 183 42 [some (Sum.inr (Sum.inr 1)), some (Sum.inl (x)), j2, some (Sum.inl (v_sd (am_wv h 2) z (h 2 1).toNat)), some (Sum.inl (s + v_lot (am_wv h 2) z (h 2 1).toNat)), some (Sum.inl (y)), some (Sum.inl ((((h 2 1).toNat : Nat) : Int))), j] [] (am_SH L, h, am_RR kp) Q = E) : am_Wp d 183 42 [some (Sum.inr (Sum.inr 1)), some (Sum.inl (x)), j2, some (Sum.inl (z)), some (Sum.inl (s)), some (Sum.inl (y)), some (Sum.inl (0)), j] [] (am_SH L, h, am_RR kp) Q = E := by
  have hQ := wv_Q hv
  have hP := wv_P hv
  have hD := wv_D hv
  have key := am_dn_fr (J := Option am_V) (a := 0) (n := (h 2 1).toNat) (fun p j => am_Wp d 183 42 [some (Sum.inr (Sum.inr 1)), some (Sum.inl (x)), j2, some (Sum.inl (v_sd (am_wv h 2) z p)), some (Sum.inl (s + v_lot (am_wv h 2) z p)), some (Sum.inl (y)), some (Sum.inl ((p : Int))), j] [] (am_SH L, h, am_RR kp) Q) E (by omega) (fun p _ hp ih j => ?_) hE j
  · have e0 : s + v_lot (am_wv h 2) z 0 = s := Int.add_zero s
    rw [e0] at key
    exact key
  · have b1 := v_lot_le hv (z := z) (n := p) (by omega)
    have hp1 := wv_p hv p (by omega)
    have et : vT (am_wv h 2) p = h 12 p := rfl
    have en' : vN (am_wv h 2) p = h 9 p := rfl
    have ed : vD (am_wv h 2) = h 2 2 := rfl
    rw [v_lot_s, v_sd_s, et, en', ed] at ih
    refine (bq_KO_lots_42 (by omega)).trans ?_
    rw [sp_World_papers_2]
    simp only [Option.toList_some, Option.toList_none, List.cons_append, List.nil_append]
    rw [bq_KO_lots_51 (by omega), if_neg (by omega), sp_World_isOpen_2 (by omega), v_open_nat hv (show (p : Int) < h 2 1 by omega)]
    simp only [Option.toList_some, Option.toList_none, List.cons_append, List.nil_append]
    rw [bq_KO_lots_63 (by omega), et]
    by_cases q1 : h 12 p = 0
    · have ih2 : ∀ j, am_Wp d 183 42 [some (Sum.inr (Sum.inr 1)), some (Sum.inl (x)), j2, some (Sum.inl (v_nx (v_sd (am_wv h 2) z p))), some (Sum.inl (s + (v_lot (am_wv h 2) z p + (if v_paid (am_wv h 2) (p : Int) = true ∧ h 2 2 ≤ v_dr (v_nx (v_sd (am_wv h 2) z p)) then h 9 p else 0)))), some (Sum.inl (y)), some (Sum.inl (((p + 1 : Nat) : Int))), j] [] (am_SH L, h, am_RR kp) Q = E := by
        intro j
        have i2 := ih j
        simp only [q1, true_and, ↓reduceIte] at i2
        exact i2
      clear ih
      have edr : am_rem (am_shr (am_and (am_add (am_mul (v_sd (am_wv h 2) z p) 1103515245) 12345) 2147483647) 16) 99 = v_dr (v_nx (v_sd (am_wv h 2) z p)) := rfl
      have enx : am_add (am_mul (v_sd (am_wv h 2) z p) 1103515245) 12345 = v_nx (v_sd (am_wv h 2) z p) := rfl
      rw [decide_eq_true q1, if_neg am_b0, sp_World_day_2, edr, enx]
      clear edr enx
      generalize v_dr (v_nx (v_sd (am_wv h 2) z p)) = u at ih2 ⊢
      generalize v_nx (v_sd (am_wv h 2) z p) = t at ih2 ⊢
      simp only [Option.toList_some, Option.toList_none, List.cons_append, List.nil_append]
      rw [bq_KO_lots_101 (by omega), bq_KO_lots_130, am_incn (by omega)]
      have i2 := ih2 (some (Sum.inl u))
      clear ih2
      by_cases q2 : u < h 2 2
      · rw [if_pos q2]
        have e0 : (if v_paid (am_wv h 2) (p : Int) = true ∧ h 2 2 ≤ u then h 9 p else 0) = 0 := if_neg (fun w => by have := w.2; omega)
        rw [e0, Int.add_zero] at i2
        exact i2
      · rw [if_neg q2, sp_World_wouldBePaid_2 (by omega)]
        simp only [Option.toList_some, Option.toList_none, List.cons_append, List.nil_append]
        rw [bq_KO_lots_113 (by omega), bq_KO_lots_130, am_incn (by omega)]
        cases q3 : v_paid (am_wv h 2) (p : Int) with
        | false =>
          have e0 : (if v_paid (am_wv h 2) (p : Int) = true ∧ h 2 2 ≤ u then h 9 p else 0) = 0 := if_neg (fun w => by rw [q3] at w; cases w.1)
          rw [e0, Int.add_zero] at i2
          rw [if_pos am_bif]
          exact i2
        | true =>
          have e0 : (if v_paid (am_wv h 2) (p : Int) = true ∧ h 2 2 ≤ u then h 9 p else 0) = h 9 p := if_pos ⟨q3, by omega⟩
          rw [e0, ← Int.add_assoc] at i2
          rw [if_neg am_b0, sp_World_quartersOf_2 (by omega), am_lk_nat (by omega)]
          simp only [Option.toList_some, Option.toList_none, List.cons_append, List.nil_append]
          rw [bq_KO_lots_127, bq_KO_lots_130, am_incn (by omega), am_add_ok (by omega) (by omega)]
          exact i2
    · have i2 := ih j
      simp only [q1, false_and, ↓reduceIte, Int.add_zero] at i2
      rw [decide_eq_false q1, if_pos am_bif, bq_KO_lots_130, am_incn (by omega)]
      exact i2
theorem lp_KO_lots {d L kp : Nat} {h : Nat → Nat → Int} {Q : Option am_V → am_H → Prop} {z : Int} {m : Nat} {j2 : Option am_V} (j : Option am_V × Option am_V) (hd : 3 ≤ d) (hv : v_ok (am_wv h 2)) (hm : m ≤ 20) : am_Wp d 183 33 [some (Sum.inr (Sum.inr 1)), some (Sum.inl (m : Int)), j2, some (Sum.inl ((v_lots (am_wv h 2) z 0).1)), some (Sum.inl ((v_lots (am_wv h 2) z 0).2)), some (Sum.inl (0)), j.1, j.2] [] (am_SH L, h, am_RR kp) Q = Q (some (Sum.inl ((v_lots (am_wv h 2) z m).2))) (am_SH L, h, am_RR kp) := by
  have hQ := wv_Q hv
  have hP := wv_P hv
  have hD := wv_D hv
  refine am_dn_fr (J := Option am_V × Option am_V) (a := 0) (n := m) (fun y j => am_Wp d 183 33 [some (Sum.inr (Sum.inr 1)), some (Sum.inl (m : Int)), j2, some (Sum.inl ((v_lots (am_wv h 2) z y).1)), some (Sum.inl ((v_lots (am_wv h 2) z y).2)), some (Sum.inl ((y : Int))), j.1, j.2] [] (am_SH L, h, am_RR kp) Q) (Q (some (Sum.inl ((v_lots (am_wv h 2) z m).2))) (am_SH L, h, am_RR kp)) (by omega) (fun y _ hy ih j => ?_) (fun j => ?_) j
  · have b1 := v_lots_le hv (z := z) (n := y)
    have ih2 : ∀ j1 j3 : Option am_V, am_Wp d 183 33 [some (Sum.inr (Sum.inr 1)), some (Sum.inl ((m : Int))), j2, some (Sum.inl ((v_lots (am_wv h 2) z (y + 1)).1)), some (Sum.inl ((v_lots (am_wv h 2) z (y + 1)).2)), some (Sum.inl (((y + 1 : Nat) : Int))), j1, j3] [] (am_SH L, h, am_RR kp) Q = Q (some (Sum.inl ((v_lots (am_wv h 2) z m).2))) (am_SH L, h, am_RR kp) := fun j1 j3 => ih (j1, j3)
    rw [v_lots_s] at ih2
    refine (bq_KO_lots_33).trans ?_
    rw [if_neg (by omega)]
    refine lp_KO_lots_i _ (by omega) hv (by omega) (fun j => ?_)
    refine (bq_KO_lots_42 (by omega)).trans ?_
    rw [sp_World_papers_2]
    simp only [Option.toList_some, Option.toList_none, List.cons_append, List.nil_append]
    rw [bq_KO_lots_51 (by omega), if_pos (by omega), am_incn (by omega)]
    exact ih2 _ _
  · refine (bq_KO_lots_33).trans ?_
    rw [if_pos (by omega)]
theorem c_lots {d L kp : Nat} {h : Nat → Nat → Int} {i e : Int} (hd : 3 ≤ d) (hv : v_ok (am_wv h 2)) : am_An L 41 (a_lots (am_wv h 2) i e) h (fun Q => am_Wp d 183 0 [some (Sum.inr (Sum.inr 1)), some (Sum.inl i), some (Sum.inl e), none, none, none, none, none] [] (am_SH L, h, am_RR kp) Q) := by
  have hQ := wv_Q hv
  have hP := wv_P hv
  have hD := wv_D hv
  intro Q hq
  show am_Wp d 183 0 [some (Sum.inr (Sum.inr 1)), some (Sum.inl i), some (Sum.inl e), none, none, none, none, none] [] (am_SH L, h, am_RR kp) Q
  have h3 := hq h kp am_keep_r
  unfold a_lots at h3
  by_cases q1 : i < 1
  · rw [if_pos q1] at h3
    rw [bq_KO_lots_0 (by omega), if_neg (by omega), sp_KO_refuse (by omega) (by omega) (by omega)]
    simp only [Option.toList_some, Option.toList_none, List.cons_append, List.nil_append]
    rw [bq_KO_lots_11]
    exact h3
  · rw [if_neg q1] at h3
    by_cases q2 : 20 < i
    · rw [if_pos q2] at h3
      rw [bq_KO_lots_0 (by omega), if_pos (by omega), if_neg (by omega), sp_KO_refuse (by omega) (by omega) (by omega)]
      simp only [Option.toList_some, Option.toList_none, List.cons_append, List.nil_append]
      rw [bq_KO_lots_24]
      exact h3
    · rw [if_neg q2] at h3
      obtain ⟨m, rfl⟩ := Int.eq_ofNat_of_zero_le (show 0 ≤ i by omega)
      rw [Int.toNat_natCast] at h3
      rw [bq_KO_lots_0 (by omega), if_pos (by omega), if_pos (by omega)]
      exact (lp_KO_lots (z := e) (m := m) (none, none) hd hv (by omega)).mpr h3