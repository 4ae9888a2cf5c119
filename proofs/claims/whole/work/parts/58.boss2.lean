/-! THE CALL boss of the class -/
theorem v_owes_hi {V : am_Vw} (hv : v_ok V) {e i : Int} (hi : vP V ≤ i) : v_owes V e i = 0 := by
  have hQ := v_ok_Q hv
  unfold v_owes
  refine (am_sumb_eq (f := fun _ => 0) (fun p hp => ?_)).trans am_sumb_0
  have h2 := v_ok_q hv p (by omega)
  exact if_neg (fun w => by have := w.2.2; omega)
theorem v_boss_fst {V : am_Vw} (hv : v_ok V) {e : Int} : v_boss V e (vP V).toNat = (match am_fst (fun i => decide (v_all V e < 2 * v_owes V e (i : Int))) 7 0 with | some k => (k : Int) | none => -9) := by
  have hP := v_ok_P hv
  have hA := v_all_le hv e
  have key := am_for_ind (n := (vP V).toNat) (f := fun k s => if v_all V e < 2 * v_owes V e (k : Int) then (k : Int) else s) (a := -9) (fun n s => (∃ i : Nat, i < n ∧ v_all V e < 2 * v_owes V e (i : Int) ∧ s = (i : Int)) ∨ ((∀ i : Nat, i < n → ¬ v_all V e < 2 * v_owes V e (i : Int)) ∧ s = -9)) (Or.inr ⟨fun i hi => by omega, rfl⟩) (fun k s hk hs => by
    show (∃ i : Nat, i < k + 1 ∧ v_all V e < 2 * v_owes V e (i : Int) ∧ (if v_all V e < 2 * v_owes V e (k : Int) then (k : Int) else s) = (i : Int)) ∨ ((∀ i : Nat, i < k + 1 → ¬ v_all V e < 2 * v_owes V e (i : Int)) ∧ (if v_all V e < 2 * v_owes V e (k : Int) then (k : Int) else s) = -9)
    by_cases h1 : v_all V e < 2 * v_owes V e (k : Int)
    · rw [if_pos h1]; exact Or.inl ⟨k, by omega, h1, rfl⟩
    · rw [if_neg h1]
      rcases hs with ⟨i, h2, h3, h4⟩ | ⟨h2, h3⟩
      · exact Or.inl ⟨i, by omega, h3, h4⟩
      · refine Or.inr ⟨fun i hi => ?_, h3⟩
        by_cases h4 : i = k
        · rw [h4]; exact h1
        · exact h2 i (by omega))
  have key2 : (∃ i : Nat, i < (vP V).toNat ∧ v_all V e < 2 * v_owes V e (i : Int) ∧ v_boss V e (vP V).toNat = (i : Int)) ∨ ((∀ i : Nat, i < (vP V).toNat → ¬ v_all V e < 2 * v_owes V e (i : Int)) ∧ v_boss V e (vP V).toNat = -9) := key
  have hlow : ∀ i : Nat, v_all V e < 2 * v_owes V e (i : Int) → i < (vP V).toNat := fun i hi => by
    by_cases h1 : vP V ≤ (i : Int)
    · rw [v_owes_hi hv h1] at hi; omega
    · omega
  cases hf : am_fst (fun i => decide (v_all V e < 2 * v_owes V e (i : Int))) 7 0 with
  | none =>
    have hn := am_fst_none hf
    rcases key2 with ⟨i, h2, h3, h4⟩ | ⟨h2, h3⟩
    · exact absurd h3 (of_decide_eq_false (hn i (by omega) (by omega)))
    · exact h3
  | some k =>
    have hs := (am_fst_some hf).2.1
    have h5 : v_all V e < 2 * v_owes V e (k : Int) := of_decide_eq_true hs
    have h6 := hlow k h5
    rcases key2 with ⟨i, h2, h3, h4⟩ | ⟨h2, h3⟩
    · rw [h4]
      by_cases h7 : i = k
      · rw [h7]
      · have h8 := am_sumb_two (n := (vP V).toNat) (g := fun i => v_owes V e (i : Int)) (fun k _ => (v_owes_le hv e (k : Int)).1) h2 h6 h7
        have h9 : v_owes V e (i : Int) + v_owes V e (k : Int) ≤ v_all V e := h8
        omega
    · exact absurd h5 (h2 k h6)
theorem am_keep_vot {h g : Nat → Nat → Int} {V : am_Vw} {e : Int} {n : Nat} {v : Int} (hk : am_keep h g) : am_keep h (am_up (am_votk g V e n) 61 2 v) := by
  refine am_keep_up rfl (fun a j hr => ?_)
  unfold am_votk
  by_cases h3 : a = 62
  · subst h3; cases hr
  · by_cases h5 : a = 61
    · subst h5; cases hr
    · rw [if_neg h3, if_neg h5]; exact hk a j hr
theorem c_boss {d L kp : Nat} {h : Nat → Nat → Int} {i : Int} (hd : 3 ≤ d) (hv : v_ok (am_wv h 2)) : am_An L 41 (a_boss (am_wv h 2) i) h (fun Q => am_Wp d 116 0 [some (Sum.inr (Sum.inr 1)), some (Sum.inl i)] [] (am_SH L, h, am_RR kp) Q) := by
  have hQ := wv_Q hv
  have hP := wv_P hv
  have hD := wv_D hv
  intro Q hq
  have hq2 : Q (some (a_boss (am_wv h 2) i).1) (am_SH L, am_bump 41 (a_boss (am_wv h 2) i).2 h, am_RR kp) := hq _ kp am_keep_r
  show am_Wp d 116 0 [some (Sum.inr (Sum.inr 1)), some (Sum.inl i)] [] (am_SH L, h, am_RR kp) Q
  unfold a_boss at hq2
  simp (disch := first | exact hv | omega) only [bq_KO_boss_0, bq_KO_boss_8, bq_KO_boss_29, bq_KO_boss_16, bq_KO_boss_36, sp_World_isPerson_2, sp_KO_refuse, sp_Votes_gather, Option.toList_some, Option.toList_none, List.cons_append, List.nil_append, am_bi0, am_bi1, am_bft, true_and, reduceCtorEq, or_false, false_or, or_true, true_or, am_gd, am_incn, am_lk_nat, Int.toNat_natCast, ↓reduceIte, Int.reduceEq, Int.reduceAdd, Int.reduceNeg, Int.reduceToNat]
  have hq3 := hq (am_up (am_votk h (am_wv h 2) i (h 2 1).toNat) 61 2 (am_pc (v_vh (am_wv h 2) i (h 2 1).toNat))) kp (am_keep_vot am_keep_r)
  unfold a_boss at hq3
  cases hi : v_isP (am_wv h 2) i
  · simp only [hi, ↓reduceIte] at hq2 ⊢
    exact hq2
  · simp only [hi, ↓reduceIte, reduceCtorEq] at hq3 ⊢
    have e62 : ∀ j, j < 7 → (am_up (am_votk h (am_wv h 2) i (h 2 1).toNat) 61 2 (am_pc (v_vh (am_wv h 2) i (h 2 1).toNat))) 62 j = v_owes (am_wv h 2) i (j : Int) := fun j hj => by
      rw [← v_vt_owes]
      show (if j < 7 then _ else _) = _
      exact if_pos hj
    have hb : ∀ j, j < 7 → 0 ≤ (am_up (am_votk h (am_wv h 2) i (h 2 1).toNat) 61 2 (am_pc (v_vh (am_wv h 2) i (h 2 1).toNat))) 62 j ∧ (am_up (am_votk h (am_wv h 2) i (h 2 1).toNat) 61 2 (am_pc (v_vh (am_wv h 2) i (h 2 1).toNat))) 62 j ≤ 640 := fun j hj => by
      rw [e62 j hj]
      exact v_owes_le hv i (j : Int)
    have e61 : (am_up (am_votk h (am_wv h 2) i (h 2 1).toNat) 61 2 (am_pc (v_vh (am_wv h 2) i (h 2 1).toNat))) 61 3 = v_all (am_wv h 2) i := v_va_all hv i
    rw [sp_Votes_decidesAlone (by omega) hb, e61, am_fst_ext (e := fun k => decide (v_all (am_wv h 2) i < 2 * v_owes (am_wv h 2) i (k : Int))) 0 (fun k _ hk => by rw [e62 k (by omega)])]
    have eb := v_boss_fst hv (e := i)
    rw [eb] at hq3
    revert hq3
    cases am_fst (fun k => decide (v_all (am_wv h 2) i < 2 * v_owes (am_wv h 2) i (k : Int))) 7 0 with
    | none => simp only [bq_KO_boss_0, bq_KO_boss_8, bq_KO_boss_29, bq_KO_boss_16, bq_KO_boss_36, Option.toList_some, Option.toList_none, List.cons_append, List.nil_append]; exact fun w => w
    | some k => simp only [bq_KO_boss_0, bq_KO_boss_8, bq_KO_boss_29, bq_KO_boss_16, bq_KO_boss_36, Option.toList_some, Option.toList_none, List.cons_append, List.nil_append]; exact fun w => w
