/-! THE LEDGER: who owes whom how much, and the nets -/
theorem am_put_nat {h : Nat → Nat → Int} {a n i : Nat} {v : Int} (hi : i < n) : am_put h a n (i : Int) v = am_up h a i v := by
  unfold am_put
  rw [if_pos (by omega), Int.toNat_natCast]
def v_owed (V : am_Vw) (n j : Nat) : Int := am_sumb n (fun p => if vT V p = 0 ∧ 7 * vO V p + vH V p = (j : Int) then vN V p else 0)
def v_nets (V : am_Vw) (n i : Nat) : Int := am_sumb n (fun p => if vT V p = 0 then (if vH V p = (i : Int) then vN V p else 0) - (if vO V p = (i : Int) then vN V p else 0) else 0)
def am_ledk (h : Nat → Nat → Int) (V : am_Vw) (n : Nat) : Nat → Nat → Int := fun a j => if a = 43 then (if j < 49 then v_owed V n j else h a j) else if a = 44 then (if j < 7 then v_nets V n j else h a j) else if a = 42 then (if j = 2 then vP V else h a j) else h a j
theorem v_owed_s {V : am_Vw} {n j : Nat} : v_owed V (n + 1) j = v_owed V n j + (if vT V n = 0 ∧ 7 * vO V n + vH V n = (j : Int) then vN V n else 0) := rfl
theorem v_nets_s {V : am_Vw} {n i : Nat} : v_nets V (n + 1) i = v_nets V n i + (if vT V n = 0 then (if vH V n = (i : Int) then vN V n else 0) - (if vO V n = (i : Int) then vN V n else 0) else 0) := rfl
theorem v_owed_le {V : am_Vw} (hv : v_ok V) {n : Nat} (hn : n ≤ 16) (j : Nat) : 0 ≤ v_owed V n j ∧ v_owed V n j ≤ 640 := by
  have h1 := am_sumb_le (n := n) (g := fun p => if vT V p = 0 ∧ 7 * vO V p + vH V p = (j : Int) then vN V p else 0) (A := 0) (B := 40) (fun k hk => by
    have h2 := v_ok_p hv k (by omega)
    show 0 ≤ (if vT V k = 0 ∧ 7 * vO V k + vH V k = (j : Int) then vN V k else 0) ∧ (if vT V k = 0 ∧ 7 * vO V k + vH V k = (j : Int) then vN V k else 0) ≤ 40
    split <;> omega)
  unfold v_owed
  omega
theorem v_nets_le {V : am_Vw} (hv : v_ok V) {n : Nat} (hn : n ≤ 16) (i : Nat) : -640 ≤ v_nets V n i ∧ v_nets V n i ≤ 640 := by
  have h1 := am_sumb_le (n := n) (g := fun p => if vT V p = 0 then (if vH V p = (i : Int) then vN V p else 0) - (if vO V p = (i : Int) then vN V p else 0) else 0) (A := -40) (B := 40) (fun k hk => by
    have h2 := v_ok_p hv k (by omega)
    show -40 ≤ (if vT V k = 0 then (if vH V k = (i : Int) then vN V k else 0) - (if vO V k = (i : Int) then vN V k else 0) else 0) ∧ (if vT V k = 0 then (if vH V k = (i : Int) then vN V k else 0) - (if vO V k = (i : Int) then vN V k else 0) else 0) ≤ 40
    (repeat' split) <;> omega)
  unfold v_nets
  omega
theorem am_ledk_s0 {h : Nat → Nat → Int} {V : am_Vw} {k : Nat} (hT : ¬ vT V k = 0) : am_ledk h V (k + 1) = am_ledk h V k := by
  have e1 : ∀ j, v_owed V (k + 1) j = v_owed V k j := fun j => by rw [v_owed_s, if_neg (fun w => hT w.1)]; omega
  have e2 : ∀ j, v_nets V (k + 1) j = v_nets V k j := fun j => by rw [v_nets_s, if_neg hT]; omega
  funext a j
  unfold am_ledk
  rw [e1, e2]
theorem am_ledk_s {h : Nat → Nat → Int} {V : am_Vw} {k : Nat} (hv : v_ok V) (hk : k < 16) (hT : vT V k = 0) {o c : Nat} (ho : vO V k = (o : Int)) (hc : vH V k = (c : Int)) : am_up (am_up (am_up (am_ledk h V k) 43 (7 * o + c) (am_add (v_owed V k (7 * o + c)) (vN V k))) 44 o (am_add (v_nets V k o) (am_neg (vN V k)))) 44 c (am_add (if c = o then am_add (v_nets V k o) (am_neg (vN V k)) else v_nets V k c) (vN V k)) = am_ledk h V (k + 1) := by
  have hp := v_ok_p hv k hk
  have b1 := v_owed_le hv (n := k) (by omega) (7 * o + c)
  have b2 := v_nets_le hv (n := k) (by omega) o
  have b3 := v_nets_le hv (n := k) (by omega) c
  rw [am_neg_ok (by omega) (by omega), am_add_ok (x := v_owed V k (7 * o + c)) (by omega) (by omega), am_add_ok (x := v_nets V k o) (by omega) (by omega)]
  have e3 : am_add (if c = o then v_nets V k o + -vN V k else v_nets V k c) (vN V k) = if c = o then v_nets V k o else v_nets V k c + vN V k := by
    by_cases h1 : c = o
    · rw [if_pos h1, if_pos h1, am_add_ok (by omega) (by omega)]; omega
    · rw [if_neg h1, if_neg h1, am_add_ok (by omega) (by omega)]
  rw [e3]
  have e1 : ∀ j, v_owed V (k + 1) j = if j = 7 * o + c then v_owed V k j + vN V k else v_owed V k j := fun j => by
    rw [v_owed_s, ho, hc]
    by_cases h1 : j = 7 * o + c
    · rw [if_pos ⟨hT, by omega⟩, if_pos h1]
    · rw [if_neg (fun w => h1 (by omega)), if_neg h1]; omega
  have e2 : ∀ j, v_nets V (k + 1) j = if j = c then (if c = o then v_nets V k j else v_nets V k j + vN V k) else if j = o then v_nets V k j - vN V k else v_nets V k j := fun j => by
    rw [v_nets_s, ho, hc, if_pos hT]
    by_cases h1 : j = c
    · rw [if_pos h1, if_pos (show (c : Int) = (j : Int) by omega)]
      by_cases h2 : c = o
      · rw [if_pos h2, if_pos (show (o : Int) = (j : Int) by omega)]; omega
      · rw [if_neg h2, if_neg (show ¬ (o : Int) = (j : Int) by omega)]; omega
    · rw [if_neg h1, if_neg (show ¬ (c : Int) = (j : Int) by omega)]
      by_cases h2 : j = o
      · rw [if_pos h2, if_pos (show (o : Int) = (j : Int) by omega)]; omega
      · rw [if_neg h2, if_neg (show ¬ (o : Int) = (j : Int) by omega)]; omega
  funext a j
  unfold am_up am_ledk
  rw [e1, e2]
  by_cases h3 : a = 43
  · subst h3
    simp only [show ¬ (43 = 44) by omega, if_false, if_true]
    by_cases h4 : j = 7 * o + c
    · subst h4
      rw [if_pos rfl, if_pos (by omega), if_pos rfl]
    · rw [if_neg h4, if_neg h4]
  · by_cases h5 : a = 44
    · subst h5
      simp only [show ¬ (44 = 43) by omega, if_false, if_true]
      by_cases h6 : j = c
      · subst h6
        rw [if_pos rfl, if_pos rfl]
        by_cases h7 : j = o
        · rw [if_pos h7, if_pos (show j < 7 by omega), if_pos h7, h7]
        · rw [if_neg h7, if_pos (show j < 7 by omega), if_neg h7]
      · rw [if_neg h6, if_neg h6]
        by_cases h7 : j = o
        · subst h7
          rw [if_pos rfl, if_pos rfl, if_pos (by omega)]; omega
        · rw [if_neg h7, if_neg h7]
    · simp only [if_neg h3, if_neg h5]
theorem am_ledk_0 {h : Nat → Nat → Int} {V : am_Vw} : am_up (am_fill (am_fill h 43 49 0) 44 7 0) 42 2 (vP V) = am_ledk h V 0 := by
  funext a j
  unfold am_up am_fill am_ledk
  by_cases h3 : a = 43
  · subst h3
    simp only [show ¬ (43 = 44) by omega, show ¬ (43 = 42) by omega, if_false, if_true]
    rfl
  · by_cases h5 : a = 44
    · subst h5
      simp only [show ¬ (44 = 43) by omega, show ¬ (44 = 42) by omega, if_false, if_true]
      rfl
    · by_cases h6 : a = 42
      · subst h6
        simp only [show ¬ (42 = 43) by omega, show ¬ (42 = 44) by omega, if_false, if_true]
      · simp only [if_neg h3, if_neg h5, if_neg h6]
theorem am_keep_led {h g : Nat → Nat → Int} {V : am_Vw} {n : Nat} (hk : am_keep h g) : am_keep h (am_ledk g V n) := by
  intro a j hr
  unfold am_ledk
  by_cases h3 : a = 43
  · subst h3; cases hr
  · by_cases h5 : a = 44
    · subst h5; cases hr
    · by_cases h6 : a = 42
      · subst h6; cases hr
      · rw [if_neg h3, if_neg h5, if_neg h6]; exact hk a j hr
theorem am_ledk_w {h : Nat → Nat → Int} {V : am_Vw} {n : Nat} : am_wv (am_ledk h V n) 2 = am_wv h 2 := rfl
theorem am_ledk_43 {h : Nat → Nat → Int} {V : am_Vw} {n j : Nat} (hj : j < 49) : am_ledk h V n 43 j = v_owed V n j := if_pos hj
theorem am_ledk_44 {h : Nat → Nat → Int} {V : am_Vw} {n j : Nat} (hj : j < 7) : am_ledk h V n 44 j = v_nets V n j := if_pos hj
theorem am_ledk_42 {h : Nat → Nat → Int} {V : am_Vw} {n : Nat} : am_ledk h V n 42 2 = vP V := rfl
theorem sp_Ledger_shift {d L kp : Nat} {h : Nat → Nat → Int} {Q : Option am_V → am_H → Prop} {i e x : Int} (hd : 2 ≤ d) : am_Wp d 74 0 [some (Sum.inr (Sum.inr 42)), some (Sum.inl i), some (Sum.inl e), some (Sum.inl x)] [] (am_SH L, h, am_RR kp) Q = Q none (am_SH L, am_put (am_put h 44 7 i (am_add (am_lk (h 44) 7 i) (am_neg x))) 44 7 e (am_add (am_lk (am_put h 44 7 i (am_add (am_lk (h 44) 7 i) (am_neg x)) 44) 7 e) x), am_RR kp) := by
  simp (disch := omega) only [bq_Ledger_shift_0, bq_Ledger_shift_10, bq_Ledger_shift_19, sp_increase_44, Option.toList_some, Option.toList_none, List.cons_append, List.nil_append, am_bi0, am_bi1, am_bft, true_and, reduceCtorEq, or_false, false_or, or_true, true_or]
  

theorem sp_Ledger_netOf {d L kp : Nat} {h : Nat → Nat → Int} {Q : Option am_V → am_H → Prop} {i : Int} (hd : 1 ≤ d) : am_Wp d 77 0 [some (Sum.inr (Sum.inr 42)), some (Sum.inl i)] [] (am_SH L, h, am_RR kp) Q = Q (some (Sum.inl (am_lk (h 44) 7 i))) (am_SH L, h, am_RR kp) := by
  simp (disch := omega) only [bq_Ledger_netOf_0, bq_Ledger_netOf_8, sp_at_44, Option.toList_some, Option.toList_none, List.cons_append, List.nil_append, am_bi0, am_bi1, am_bft, true_and, reduceCtorEq, or_false, false_or, or_true, true_or]
  

theorem sp_Ledger_people {d L kp : Nat} {h : Nat → Nat → Int} {Q : Option am_V → am_H → Prop} : am_Wp d 80 0 [some (Sum.inr (Sum.inr 42))] [] (am_SH L, h, am_RR kp) Q = Q (some (Sum.inl (h 42 2))) (am_SH L, h, am_RR kp) := by
  simp (disch := omega) only [bq_Ledger_people_0, Option.toList_some, Option.toList_none, List.cons_append, List.nil_append, am_bi0, am_bi1, am_bft, true_and, reduceCtorEq, or_false, false_or, or_true, true_or]
  

theorem sp_Ledger_owed {d L kp : Nat} {h : Nat → Nat → Int} {Q : Option am_V → am_H → Prop} {i e : Int} (hd : 1 ≤ d) : am_Wp d 75 0 [some (Sum.inr (Sum.inr 42)), some (Sum.inl i), some (Sum.inl e)] [] (am_SH L, h, am_RR kp) Q = Q (some (Sum.inl (am_lk (h 43) 49 (am_add (am_mul 7 i) e)))) (am_SH L, h, am_RR kp) := by
  simp (disch := omega) only [bq_Ledger_owed_0, bq_Ledger_owed_13, sp_at_43, Option.toList_some, Option.toList_none, List.cons_append, List.nil_append, am_bi0, am_bi1, am_bft, true_and, reduceCtorEq, or_false, false_or, or_true, true_or]
  

theorem lp_Ledger_read {d L kp : Nat} {h : Nat → Nat → Int} {Q : Option am_V → am_H → Prop} (j : Option am_V × Option am_V) (hd : 3 ≤ d) (hv : v_ok (am_wv h 2)) : am_Wp d 71 26 [some (Sum.inr (Sum.inr 42)), some (Sum.inr (Sum.inr 2)), some (Sum.inl 0), j.1, j.2] [] (am_SH L, am_ledk h (am_wv h 2) 0, am_RR kp) Q = Q none (am_SH L, am_ledk h (am_wv h 2) (h 2 1).toNat, am_RR kp) := by
  have hQ := wv_Q hv
  have hP := wv_P hv
  have hD := wv_D hv
  refine am_dn_eq (J := Option am_V × Option am_V) (n := (h 2 1).toNat) (fun k j => am_Wp d 71 26 [some (Sum.inr (Sum.inr 42)), some (Sum.inr (Sum.inr 2)), some (Sum.inl (k : Int)), j.1, j.2] [] (am_SH L, am_ledk h (am_wv h 2) k, am_RR kp) Q) (Q none (am_SH L, am_ledk h (am_wv h 2) (h 2 1).toNat, am_RR kp)) (fun k hk ih j => ?_) (fun j => ?_) j
  · have ih2 : ∀ j : Option am_V × Option am_V, am_Wp d 71 26 [some (Sum.inr (Sum.inr 42)), some (Sum.inr (Sum.inr 2)), some (Sum.inl ((k + 1 : Nat) : Int)), j.1, j.2] [] (am_SH L, am_ledk h (am_wv h 2) (k + 1), am_RR kp) Q = Q none (am_SH L, am_ledk h (am_wv h 2) (h 2 1).toNat, am_RR kp) := ih
    clear ih
    have hp1 := wv_p hv k (by omega)
    have hq1 := wv_q hv k (by omega)
    have hw1 := wv_w hv k (by omega)
    have ho1 : v_open (am_wv h 2) (k : Int) = decide (h 12 k = 0) := v_open_nat hv (show (k : Int) < h 2 1 by omega)
    obtain ⟨o, ho⟩ := Int.eq_ofNat_of_zero_le hp1.1.1
    obtain ⟨c, hc⟩ := Int.eq_ofNat_of_zero_le hp1.2.1.1
    have e7 : am_ledk h (am_wv h 2) k 7 = h 7 := rfl
    have e8 : am_ledk h (am_wv h 2) k 8 = h 8 := rfl
    have e9 : am_ledk h (am_wv h 2) k 9 = h 9 := rfl
    have e2 : am_ledk h (am_wv h 2) k 2 1 = h 2 1 := rfl
    have em : am_add (am_mul 7 (o : Int)) (c : Int) = ((7 * o + c : Nat) : Int) := by
      rw [am_mul_ok (by omega) (by omega), am_add_ok (by omega) (by omega)]; push_cast; rfl
    show am_Wp d 71 26 [some (Sum.inr (Sum.inr 42)), some (Sum.inr (Sum.inr 2)), some (Sum.inl (k : Int)), j.1, j.2] [] (am_SH L, am_ledk h (am_wv h 2) k, am_RR kp) Q = _
    refine (bq_Ledger_read_26 (by omega)).trans ?_
    simp (disch := first | exact hv | omega) only [bq_Ledger_read_0, bq_Ledger_read_8, bq_Ledger_read_16, bq_Ledger_read_21, bq_Ledger_read_31, bq_Ledger_read_39, bq_Ledger_read_86, bq_Ledger_read_47, bq_Ledger_read_53, bq_Ledger_read_71, bq_Ledger_read_74, bq_Ledger_read_83, sp_fill_43, sp_fill_44, sp_World_people_2, sp_World_papers_2, sp_World_isOpen_2, sp_World_debtorOf_2, sp_World_holderOf_2, sp_World_quartersOf_2, sp_increase_43, sp_Ledger_shift, Option.toList_some, Option.toList_none, List.cons_append, List.nil_append, am_bi0, am_bi1, am_bft, true_and, reduceCtorEq, or_false, false_or, or_true, true_or, am_gd, am_incn, am_lk_nat, Int.toNat_natCast, ↓reduceIte, Int.reduceEq, am_put_nat, am_ledk_w, ho1, e2, e7, e8, e9, ho, hc, em, decide_eq_false_iff_not]
    rw [if_neg (by omega)]
    by_cases hT : h 12 k = 0
    · rw [if_neg (not_not_intro hT)]
      have u1 : ∀ v, am_up (am_ledk h (am_wv h 2) k) 43 (7 * o + c) v 9 = h 9 := fun v => rfl
      have u2 : ∀ v, am_up (am_ledk h (am_wv h 2) k) 43 (7 * o + c) v 44 = am_ledk h (am_wv h 2) k 44 := fun v => rfl
      have u3 : ∀ v w, am_up (am_up (am_ledk h (am_wv h 2) k) 43 (7 * o + c) v) 44 o w 44 c = if c = o then w else am_ledk h (am_wv h 2) k 44 c := fun v w => rfl
      have s1 := am_ledk_s (h := h) hv (k := k) (by omega) hT ho hc
      simp (disch := omega) only [am_lk_nat, u1, u2, u3, am_ledk_43, am_ledk_44]
      refine Eq.trans ?_ (ih2 (some (Sum.inl (o : Int)), some (Sum.inl (c : Int))))
      rw [← s1]
    · rw [if_pos hT]
      refine Eq.trans ?_ (ih2 j)
      rw [am_ledk_s0 hT]
  · show am_Wp d 71 26 [some (Sum.inr (Sum.inr 42)), some (Sum.inr (Sum.inr 2)), some (Sum.inl (((h 2 1).toNat : Nat) : Int)), j.1, j.2] [] (am_SH L, am_ledk h (am_wv h 2) (h 2 1).toNat, am_RR kp) Q = _
    have e2 : am_ledk h (am_wv h 2) (h 2 1).toNat 2 1 = h 2 1 := rfl
    refine (bq_Ledger_read_26 (by omega)).trans ?_
    simp (disch := first | exact hv | omega) only [bq_Ledger_read_0, bq_Ledger_read_8, bq_Ledger_read_16, bq_Ledger_read_21, bq_Ledger_read_31, bq_Ledger_read_39, bq_Ledger_read_86, bq_Ledger_read_47, bq_Ledger_read_53, bq_Ledger_read_71, bq_Ledger_read_74, bq_Ledger_read_83, sp_fill_43, sp_fill_44, sp_World_people_2, sp_World_papers_2, sp_World_isOpen_2, sp_World_debtorOf_2, sp_World_holderOf_2, sp_World_quartersOf_2, sp_increase_43, sp_Ledger_shift, Option.toList_some, Option.toList_none, List.cons_append, List.nil_append, am_bi0, am_bi1, am_bft, true_and, reduceCtorEq, or_false, false_or, or_true, true_or, am_gd, am_incn, am_lk_nat, Int.toNat_natCast, ↓reduceIte, Int.reduceEq, am_put_nat, e2]
    rw [if_pos (by omega)]
theorem sp_Ledger_read {d L kp : Nat} {h : Nat → Nat → Int} {Q : Option am_V → am_H → Prop} (hd : 3 ≤ d) (hv : v_ok (am_wv h 2)) : am_Wp d 71 0 [some (Sum.inr (Sum.inr 42)), some (Sum.inr (Sum.inr 2)), none, none, none] [] (am_SH L, h, am_RR kp) Q = Q none (am_SH L, am_ledk h (am_wv h 2) (h 2 1).toNat, am_RR kp) := by
  have h0 := lp_Ledger_read (kp := kp) (Q := Q) (L := L) (none, none) hd hv
  simp (disch := first | exact hv | omega) only [bq_Ledger_read_0, bq_Ledger_read_8, bq_Ledger_read_16, bq_Ledger_read_21, bq_Ledger_read_31, bq_Ledger_read_39, bq_Ledger_read_86, bq_Ledger_read_47, bq_Ledger_read_53, bq_Ledger_read_71, bq_Ledger_read_74, bq_Ledger_read_83, sp_fill_43, sp_fill_44, sp_World_people_2, sp_World_papers_2, sp_World_isOpen_2, sp_World_debtorOf_2, sp_World_holderOf_2, sp_World_quartersOf_2, sp_increase_43, sp_Ledger_shift, Option.toList_some, Option.toList_none, List.cons_append, List.nil_append, am_bi0, am_bi1, am_bft, true_and, reduceCtorEq, or_false, false_or, or_true, true_or, am_gd, am_incn, am_lk_nat, Int.toNat_natCast, ↓reduceIte, Int.reduceEq]
  have e2 : am_fill (am_fill h 43 49 0) 44 7 0 2 0 = vP (am_wv h 2) := rfl
  rw [e2, am_ledk_0]
  exact h0
