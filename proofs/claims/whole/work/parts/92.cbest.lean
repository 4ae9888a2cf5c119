/-! BEST OVER -/
def v_mo (V : am_Vw) (p : Nat) (t : Int) : am_Vw := (V.1, vK V, vF V, vS V, vU V, vO V, am_sx (vH V) p t, vN V, vE V, vG V, am_sx (vT V) p (if vO V p = t then 2 else 0))
theorem v_mo_ok {V : am_Vw} (hv : v_ok V) {p : Nat} {t : Int} (h0 : 0 ≤ t) (h1 : t < vP V) : v_ok (v_mo V p t) := by
  have hP := v_ok_P hv
  refine ⟨hv.1, hv.2.1, hv.2.2.1, hv.2.2.2.1, fun q hq => ?_, fun q hq => ?_⟩
  · have h2 := v_ok_p hv q hq
    refine ⟨h2.1, ?_, h2.2.2.1, h2.2.2.2.1, h2.2.2.2.2.1, ?_⟩
    · show 0 ≤ am_sx (vH V) p t q ∧ am_sx (vH V) p t q ≤ 6
      unfold am_sx
      split <;> omega
    · show 0 ≤ am_sx (vT V) p (if vO V p = t then 2 else 0) q ∧ am_sx (vT V) p (if vO V p = t then 2 else 0) q ≤ 3
      unfold am_sx
      (repeat' split) <;> omega
  · have h2 := v_ok_q hv q hq
    refine ⟨h2.1, ?_, h2.2.2⟩
    show am_sx (vH V) p t q < vP V
    unfold am_sx
    split <;> omega
theorem v_mo_net {V : am_Vw} (hv : v_ok V) {p : Nat} {t i : Int} (hp : (p : Int) < vQ V) (hT : vT V p = 0) (h0 : 0 ≤ t) (h1 : t < vP V) (hi : 0 ≤ i) : v_net (v_mo V p t) i = v_net V i + (if t = i then vN V p else 0) - (if vH V p = i then vN V p else 0) := by
  have hv2 := v_mo_ok hv (p := p) h0 h1
  have hQ := v_ok_Q hv
  rw [← v_net_nets hv hi, ← v_net_nets hv2 hi]
  have h2 := am_sumb_one (n := (vQ V).toNat) (i := p) (x := (if t = i then vN V p else 0) - (if vH V p = i then vN V p else 0)) (by omega)
  have key : v_nets (v_mo V p t) (vQ (v_mo V p t)).toNat i.toNat = v_nets V (vQ V).toNat i.toNat + am_sumb (vQ V).toNat (fun k => if k = p then (if t = i then vN V p else 0) - (if vH V p = i then vN V p else 0) else 0) := by
    have e1 : vQ (v_mo V p t) = vQ V := rfl
    rw [e1]
    unfold v_nets
    rw [← am_sumb_add]
    refine am_sumb_eq (fun k hk => ?_)
    have hk2 := v_ok_p hv k (by omega)
    have eT : vT (v_mo V p t) k = am_sx (vT V) p (if vO V p = t then 2 else 0) k := rfl
    have eH : vH (v_mo V p t) k = am_sx (vH V) p t k := rfl
    have eO : vO (v_mo V p t) k = vO V k := rfl
    have eN : vN (v_mo V p t) k = vN V k := rfl
    rw [eT, eH, eO, eN]
    unfold am_sx
    by_cases q : k = p
    · subst q
      rw [if_pos rfl, if_pos rfl, if_pos rfl, if_pos hT]
      by_cases q2 : vO V k = t
      · rw [if_pos q2, if_neg (show ¬ (2 : Int) = 0 by omega)]
        (repeat' split) <;> omega
      · rw [if_neg q2, if_pos rfl]
        (repeat' split) <;> omega
    · rw [if_neg q, if_neg q, if_neg q, Int.add_zero]
  rw [key, h2]
  omega
noncomputable def v_pv (V : am_Vw) : Int := v_pay (fun p => v_net V (p : Int)) (vP V).toNat
noncomputable def v_bo1 (V : am_Vw) (p n : Nat) (s : Int × Int) : Int × Int := am_for (fun t s => if v_take V (p : Int) (t : Int) = true ∧ v_pv (v_mo V p (t : Int)) < s.2 then (10 * (p : Int) + (t : Int), v_pv (v_mo V p (t : Int))) else s) n s
noncomputable def v_bo (V : am_Vw) (n : Nat) : Int × Int := am_for (fun p s => v_bo1 V p (vP V).toNat s) n (-9, v_pv V)
theorem v_bo1_s {V : am_Vw} {p t : Nat} {s : Int × Int} : v_bo1 V p (t + 1) s = if v_take V (p : Int) (t : Int) = true ∧ v_pv (v_mo V p (t : Int)) < (v_bo1 V p t s).2 then (10 * (p : Int) + (t : Int), v_pv (v_mo V p (t : Int))) else v_bo1 V p t s := by
  unfold v_bo1
  exact am_for_s
theorem v_bo_s {V : am_Vw} {n : Nat} : v_bo V (n + 1) = v_bo1 V n (vP V).toNat (v_bo V n) := by
  unfold v_bo
  exact am_for_s
noncomputable def a_bestOver (V : am_Vw) : am_V × Nat := (Sum.inl (v_bo V (vQ V).toNat).1, 0)
theorem lp_KO_bestOver_i {d L kp : Nat} {h0 : Nat → Nat → Int} {V : am_Vw} {Q : Option am_V → am_H → Prop} {p : Nat} {s : Int × Int} (hd : 4 ≤ d) (hv : v_ok V) (hp : (p : Int) < vQ V) (K : ∀ j : (Nat → Nat → Int) × Option am_V, am_keep h0 j.1 ∧ am_wv j.1 2 = V ∧ am_led j.1 → ∀ j4 : Option am_V, am_Wp d 159 28 [some (Sum.inr (Sum.inr 1)), some (Sum.inl ((v_bo1 V p (vP V).toNat s).2)), some (Sum.inl ((v_bo1 V p (vP V).toNat s).1)), some (Sum.inl (((p + 1 : Nat) : Int))), j4, j.2] [] (am_SH L, j.1, am_RR kp) Q) : ∀ j : (Nat → Nat → Int) × Option am_V, am_keep h0 j.1 ∧ am_wv j.1 2 = V ∧ am_led j.1 → am_Wp d 159 42 [some (Sum.inr (Sum.inr 1)), some (Sum.inl ((s).2)), some (Sum.inl ((s).1)), some (Sum.inl ((p : Int))), some (Sum.inl (0)), j.2] [] (am_SH L, j.1, am_RR kp) Q := by
  have hP := v_ok_P hv
  have hQ := v_ok_Q hv
  refine am_im_fr (J := (Nat → Nat → Int) × Option am_V) (a := 0) (n := (vP V).toNat) (fun _ j => am_keep h0 j.1 ∧ am_wv j.1 2 = V ∧ am_led j.1) (fun t j => am_Wp d 159 42 [some (Sum.inr (Sum.inr 1)), some (Sum.inl ((v_bo1 V p t s).2)), some (Sum.inl ((v_bo1 V p t s).1)), some (Sum.inl ((p : Int))), some (Sum.inl ((t : Int))), j.2] [] (am_SH L, j.1, am_RR kp) Q) (by omega) (fun t j _ ht hj ih => ?_) (fun j hj => ?_)
  · obtain ⟨g, j5⟩ := j
    obtain ⟨k1, k2, k3⟩ := hj
    dsimp only at k1 k2 k3
    have hgp : g 2 0 = vP V := congrArg vP k2
    have hgq : g 2 1 = vQ V := congrArg vQ k2
    have hvg : v_ok (am_wv g 2) := by rw [k2]; exact hv
    have hpp := v_ok_p hv p (by omega)
    have hpq := v_ok_q hv p hp
    have es := v_bo1_s (V := V) (p := p) (t := t) (s := s)
    show am_Wp d 159 42 [some (Sum.inr (Sum.inr 1)), some (Sum.inl ((v_bo1 V p t s).2)), some (Sum.inl ((v_bo1 V p t s).1)), some (Sum.inl ((p : Int))), some (Sum.inl ((t : Int))), j5] [] (am_SH L, g, am_RR kp) Q
    rw [bq_KO_bestOver_42 (by omega), sp_World_people_2, hgp]
    simp only [Option.toList_some, Option.toList_none, List.cons_append, List.nil_append]
    rw [bq_KO_bestOver_51 (by omega), if_neg (by omega), sp_World_canTake_2 (by omega), k2]
    simp only [Option.toList_some, Option.toList_none, List.cons_append, List.nil_append]
    rw [bq_KO_bestOver_64 (by omega)]
    cases htk : v_take V (p : Int) (t : Int) with
    | false =>
      rw [htk, if_neg (fun w => by cases w.1)] at es
      rw [if_pos am_bif, bq_KO_bestOver_150, am_incn (by omega)]
      have h9 := ih (g, j5) ⟨k1, k2, k3⟩
      rw [es] at h9
      exact h9
    | true =>
      have htk2 := htk
      unfold v_take v_open at htk2
      rw [Bool.and_eq_true, Bool.and_eq_true, Bool.and_eq_true, Bool.and_eq_true, am_lk_nat (by omega), am_lk_nat (by omega), decide_eq_true_eq] at htk2
      have hT : vT V p = 0 := htk2.1.1.1.2
      have hHt : ¬ vH V p = (t : Int) := by
        have := htk2.1.2
        rw [Bool.not_eq_true', decide_eq_false_iff_not] at this
        exact this
      have eH : g 8 p = vH V p := congrFun (congrArg vH k2) p
      have eN : g 9 p = vN V p := congrFun (congrArg vN k2) p
      have hnet : ∀ a : Nat, a < 7 → v_net (v_mo V p (t : Int)) (a : Int) = v_net V (a : Int) + (if (t : Int) = (a : Int) then vN V p else 0) - (if vH V p = (a : Int) then vN V p else 0) := fun a ha => v_mo_net hv hp hT (by omega) (by omega) (by omega)
      obtain ⟨c, hc⟩ := Int.eq_ofNat_of_zero_le hpp.2.1.1
      have hvm := v_mo_ok hv (p := p) (t := (t : Int)) (by omega) (by omega)
      have n1 := v_net_le hv (i := (c : Int)) (by omega)
      have n2 := v_net_le hv (i := (t : Int)) (by omega)
      have g44c : g 44 c = v_net V (c : Int) := by rw [k3.2.2 c (by omega), k2]
      have g44t : g 44 t = v_net V (t : Int) := by rw [k3.2.2 t (by omega), k2]
      have hct : ¬ c = t := fun w => hHt (by rw [hc, w])
      rw [hc] at hnet
      rw [if_neg am_b0, sp_World_holderOf_2 (by omega), am_lk_nat (by omega), eH, hc]
      simp only [Option.toList_some, Option.toList_none, List.cons_append, List.nil_append]
      rw [bq_KO_bestOver_82 (by omega), sp_World_quartersOf_2 (by omega), am_lk_nat (by omega), eN]
      simp only [Option.toList_some, Option.toList_none, List.cons_append, List.nil_append]
      rw [bq_KO_bestOver_92 (by omega), sp_Ledger_shift (by omega), am_put_nat (by omega), am_put_nat (by omega), am_lk_nat (by omega), g44c, am_neg_ok (by omega) (by omega), am_add_ok (x := v_net V (c : Int)) (by omega) (by omega), am_lk_nat (by omega), am_up_n (fun w => hct w.symm), g44t, am_add_ok (x := v_net V (t : Int)) (by omega) (by omega)]
      simp only [Option.toList_some, Option.toList_none, List.cons_append, List.nil_append]
      generalize hB : am_up (am_up g 44 c (v_net V (c : Int) + -vN V p)) 44 t (v_net V (t : Int) + vN V p) = B
      have b44 : ∀ a, a < 7 → B 44 a = v_net (v_mo V p (t : Int)) (a : Int) := fun a ha => by
        rw [← hB, hnet a ha]
        by_cases q1 : a = t
        · rw [q1, am_up_y, if_pos rfl, if_neg (show ¬ (c : Int) = (t : Int) by omega)]; omega
        · rw [am_up_n q1]
          by_cases q2 : a = c
          · rw [q2, am_up_y, if_neg (show ¬ (t : Int) = (c : Int) by omega), if_pos rfl]; omega
          · rw [am_up_n q2, if_neg (show ¬ (t : Int) = (a : Int) by omega), if_neg (show ¬ (c : Int) = (a : Int) by omega), k3.2.2 a ha, k2]; omega
      have bo : ∀ a j, ¬ a = 44 → B a j = g a j := fun a j h1 => by
        rw [← hB]; unfold am_up; rw [if_neg h1, if_neg h1]
      clear hB
      have b42 : B 42 2 = ((vP V).toNat : Int) := by rw [bo 42 2 (by omega), k3.1, hgp]; omega
      rw [bq_KO_bestOver_95 (by omega)]
      refine sp_Settlement_fewestPayments (N := fun a => v_net (v_mo V p (t : Int)) (a : Int)) (P := (vP V).toNat) (by omega) (by omega) b42 (fun a ha => b44 a (by omega)) (fun a _ => ?_) (v_net_sum (V := v_mo V p (t : Int))) (fun f hf => ?_)
      · have := v_net_le hvm (i := (a : Int)) (by omega)
        show -10000 ≤ v_net (v_mo V p (t : Int)) (a : Int) ∧ v_net (v_mo V p (t : Int)) (a : Int) ≤ 10000
        omega
      · have fo : ∀ a j, ¬ a = 44 → ¬ a = 48 → ¬ a = 49 → ¬ a = 50 → f a j = g a j := fun a j h1 h2 h3 h4 => by rw [hf a j h2 h3 h4]; exact bo a j h1
        have f44 : ∀ a, a < 7 → f 44 a = v_net (v_mo V p (t : Int)) (a : Int) := fun a ha => by rw [hf 44 a (by omega) (by omega) (by omega)]; exact b44 a ha
        have f8 : f 8 p = (c : Int) := by rw [fo 8 p (by omega) (by omega) (by omega) (by omega), eH, hc]
        have f9 : f 9 p = vN V p := by rw [fo 9 p (by omega) (by omega) (by omega) (by omega), eN]
        have m1 := v_net_le hvm (i := (c : Int)) (by omega)
        have m2 := v_net_le hvm (i := (t : Int)) (by omega)
        simp only [Option.toList_some, Option.toList_none, List.cons_append, List.nil_append]
        rw [bq_KO_bestOver_106 (by omega), sp_World_holderOf_2 (by omega), am_lk_nat (by omega), f8]
        simp only [Option.toList_some, Option.toList_none, List.cons_append, List.nil_append]
        rw [bq_KO_bestOver_122 (by omega), sp_World_quartersOf_2 (by omega), am_lk_nat (by omega), f9]
        simp only [Option.toList_some, Option.toList_none, List.cons_append, List.nil_append]
        rw [bq_KO_bestOver_130 (by omega), sp_Ledger_shift (by omega), am_put_nat (by omega), am_put_nat (by omega), am_lk_nat (by omega), f44 t (by omega), am_neg_ok (by omega) (by omega), am_add_ok (x := v_net (v_mo V p (t : Int)) (t : Int)) (by omega) (by omega), am_lk_nat (by omega), am_up_n hct, f44 c (by omega), am_add_ok (x := v_net (v_mo V p (t : Int)) (c : Int)) (by omega) (by omega)]
        simp only [Option.toList_some, Option.toList_none, List.cons_append, List.nil_append]
        generalize hC : am_up (am_up f 44 t (v_net (v_mo V p (t : Int)) (t : Int) + -vN V p)) 44 c (v_net (v_mo V p (t : Int)) (c : Int) + vN V p) = C
        have c44 : ∀ a, a < 7 → C 44 a = v_net V (a : Int) := fun a ha => by
          rw [← hC]
          have h1 := hnet a ha
          by_cases q1 : a = c
          · rw [q1, am_up_y]
            rw [q1, if_neg (show ¬ (t : Int) = (c : Int) by omega), if_pos rfl] at h1
            omega
          · rw [am_up_n q1]
            by_cases q2 : a = t
            · rw [q2, am_up_y]
              rw [q2, if_pos rfl, if_neg (show ¬ (c : Int) = (t : Int) by omega)] at h1
              omega
            · rw [am_up_n q2, f44 a ha]
              rw [if_neg (show ¬ (t : Int) = (a : Int) by omega), if_neg (show ¬ (c : Int) = (a : Int) by omega)] at h1
              omega
        have co : ∀ a j, ¬ a = 44 → ¬ a = 48 → ¬ a = 49 → ¬ a = 50 → C a j = g a j := fun a j h1 h2 h3 h4 => by
          rw [← hC]
          unfold am_up
          rw [if_neg h1, if_neg h1]
          exact fo a j h1 h2 h3 h4
        clear hC
        have hCw : am_wv C 2 = V := by
          rw [← k2]
          have hcc : ∀ a, a < 44 → C a = g a := fun a ha => funext (fun j => co a j (by omega) (by omega) (by omega) (by omega))
          show (_, _, _, _, _, _, _, _, _, _, _) = _
          rw [hcc 2 (by omega), hcc (2 + 1) (by omega), hcc (2 + 2) (by omega), hcc (2 + 3) (by omega), hcc (2 + 4) (by omega), hcc (2 + 5) (by omega), hcc (2 + 6) (by omega), hcc (2 + 7) (by omega), hcc (2 + 8) (by omega), hcc (2 + 9) (by omega), hcc (2 + 10) (by omega)]
        have hCk : am_keep h0 C := am_keep_t k1 (fun a j hr => co a j (fun w => by rw [w] at hr; cases hr) (fun w => by rw [w] at hr; cases hr) (fun w => by rw [w] at hr; cases hr) (fun w => by rw [w] at hr; cases hr))
        have hCl : am_led C := by
          refine ⟨?_, fun a b ha hb => ?_, fun a ha => ?_⟩
          · rw [co 42 2 (by omega) (by omega) (by omega) (by omega), co 2 0 (by omega) (by omega) (by omega) (by omega)]; exact k3.1
          · rw [co 43 _ (by omega) (by omega) (by omega) (by omega), hCw, ← k2]; exact k3.2.1 a b ha hb
          · rw [hCw]; exact c44 a ha
        have epv : v_pay (fun a => v_net (v_mo V p (t : Int)) (a : Int)) (vP V).toNat = v_pv (v_mo V p (t : Int)) := rfl
        have e10 : am_add (am_mul 10 (p : Int)) (t : Int) = 10 * (p : Int) + (t : Int) := by rw [am_mul_ok (by omega) (by omega), am_add_ok (by omega) (by omega)]
        rw [bq_KO_bestOver_133, epv, e10]
        simp only [bq_KO_bestOver_150]
        rw [am_incn (by omega)]
        have h9 := ih (C, some (Sum.inl (v_pv (v_mo V p (t : Int))))) ⟨hCk, hCw, hCl⟩
        rw [htk] at es
        by_cases q : v_pv (v_mo V p (t : Int)) < (v_bo1 V p t s).2
        · rw [if_pos ⟨rfl, q⟩] at es
          rw [es] at h9
          rw [if_neg (by omega)]
          exact h9
        · rw [if_neg (fun w => q w.2)] at es
          rw [es] at h9
          rw [if_pos (by omega)]
          exact h9
  · obtain ⟨g, j5⟩ := j
    obtain ⟨k1, k2, k3⟩ := hj
    dsimp only at k1 k2 k3
    have hgp : g 2 0 = vP V := congrArg vP k2
    show am_Wp d 159 42 [some (Sum.inr (Sum.inr 1)), some (Sum.inl ((v_bo1 V p (vP V).toNat s).2)), some (Sum.inl ((v_bo1 V p (vP V).toNat s).1)), some (Sum.inl ((p : Int))), some (Sum.inl ((((vP V).toNat : Nat) : Int))), j5] [] (am_SH L, g, am_RR kp) Q
    rw [bq_KO_bestOver_42 (by omega), sp_World_people_2, hgp]
    simp only [Option.toList_some, Option.toList_none, List.cons_append, List.nil_append]
    rw [bq_KO_bestOver_51 (by omega), if_pos (by omega), am_incn (by omega)]
    exact K (g, j5) ⟨k1, k2, k3⟩ _
theorem lp_KO_bestOver {d L kp : Nat} {h0 : Nat → Nat → Int} {V : am_Vw} {Q : Option am_V → am_H → Prop} (hd : 4 ≤ d) (hv : v_ok V) (hq : ∀ g, am_keep h0 g → Q (some (Sum.inl (v_bo V (vQ V).toNat).1)) (am_SH L, g, am_RR kp)) : ∀ j : (Nat → Nat → Int) × Option am_V × Option am_V, am_keep h0 j.1 ∧ am_wv j.1 2 = V ∧ am_led j.1 → am_Wp d 159 28 [some (Sum.inr (Sum.inr 1)), some (Sum.inl (v_pv V)), some (Sum.inl (-9)), some (Sum.inl (0)), j.2.1, j.2.2] [] (am_SH L, j.1, am_RR kp) Q := by
  have hQ := v_ok_Q hv
  refine am_im_fr (J := (Nat → Nat → Int) × Option am_V × Option am_V) (a := 0) (n := (vQ V).toNat) (fun _ j => am_keep h0 j.1 ∧ am_wv j.1 2 = V ∧ am_led j.1) (fun p j => am_Wp d 159 28 [some (Sum.inr (Sum.inr 1)), some (Sum.inl ((v_bo V p).2)), some (Sum.inl ((v_bo V p).1)), some (Sum.inl ((p : Int))), j.2.1, j.2.2] [] (am_SH L, j.1, am_RR kp) Q) (by omega) (fun p j _ hp hj ih => ?_) (fun j hj => ?_)
  · obtain ⟨g, j4, j5⟩ := j
    have hgq : g 2 1 = vQ V := congrArg vQ hj.2.1
    show am_Wp d 159 28 [some (Sum.inr (Sum.inr 1)), some (Sum.inl ((v_bo V p).2)), some (Sum.inl ((v_bo V p).1)), some (Sum.inl ((p : Int))), j4, j5] [] (am_SH L, g, am_RR kp) Q
    rw [bq_KO_bestOver_28 (by omega), sp_World_papers_2, hgq]
    simp only [Option.toList_some, Option.toList_none, List.cons_append, List.nil_append]
    rw [bq_KO_bestOver_36, if_neg (by omega)]
    refine lp_KO_bestOver_i (h0 := h0) (V := V) (s := v_bo V p) hd hv (by omega) (fun j hj j4 => ?_) (g, j5) hj
    rw [← v_bo_s]
    exact ih (j.1, j4, j.2) hj
  · obtain ⟨g, j4, j5⟩ := j
    have hgq : g 2 1 = vQ V := congrArg vQ hj.2.1
    show am_Wp d 159 28 [some (Sum.inr (Sum.inr 1)), some (Sum.inl ((v_bo V (vQ V).toNat).2)), some (Sum.inl ((v_bo V (vQ V).toNat).1)), some (Sum.inl ((((vQ V).toNat : Nat) : Int))), j4, j5] [] (am_SH L, g, am_RR kp) Q
    rw [bq_KO_bestOver_28 (by omega), sp_World_papers_2, hgq]
    simp only [Option.toList_some, Option.toList_none, List.cons_append, List.nil_append]
    rw [bq_KO_bestOver_36, if_pos (by omega)]
    exact hq g hj.1
theorem c_bestOver {d L kp : Nat} {h : Nat → Nat → Int} (hd : 4 ≤ d) (hv : v_ok (am_wv h 2)) : am_An L 41 (a_bestOver (am_wv h 2)) h (fun Q => am_Wp d 159 0 [some (Sum.inr (Sum.inr 1)), none, none, none, none, none] [] (am_SH L, h, am_RR kp) Q) := by
  have hQ := wv_Q hv
  have hP := wv_P hv
  have hD := wv_D hv
  intro Q hq
  show am_Wp d 159 0 [some (Sum.inr (Sum.inr 1)), none, none, none, none, none] [] (am_SH L, h, am_RR kp) Q
  rw [bq_KO_bestOver_0 (by omega)]
  refine sp_Ledger_readI (by omega) hv (fun g hk hw hl => ?_)
  simp only [Option.toList_some, Option.toList_none, List.cons_append, List.nil_append]
  have hp : g 2 0 = h 2 0 := congrArg vP hw
  rw [bq_KO_bestOver_11 (by omega)]
  refine sp_Settlement_fewestPayments (N := fun p => v_net (am_wv h 2) (p : Int)) (P := (h 2 0).toNat) (by omega) (by omega) (by rw [hl.1, hp]; omega) (fun p hp2 => ?_) (fun p _ => ?_) (v_net_sum (V := am_wv h 2)) (fun g2 k2 => ?_)
  · rw [hl.2.2 p (by omega), hw]
  · have := v_net_le hv (i := (p : Int)) (by omega)
    show -10000 ≤ v_net (am_wv h 2) (p : Int) ∧ v_net (am_wv h 2) (p : Int) ≤ 10000
    omega
  · simp only [Option.toList_some, Option.toList_none, List.cons_append, List.nil_append]
    rw [bq_KO_bestOver_22]
    have hg2w : am_wv g2 2 = am_wv h 2 := by
      rw [← hw]
      have hcc : ∀ a, a < 44 → g2 a = g a := fun a ha => funext (fun j => k2 a j (by omega) (by omega) (by omega))
      show (_, _, _, _, _, _, _, _, _, _, _) = _
      rw [hcc 2 (by omega), hcc (2 + 1) (by omega), hcc (2 + 2) (by omega), hcc (2 + 3) (by omega), hcc (2 + 4) (by omega), hcc (2 + 5) (by omega), hcc (2 + 6) (by omega), hcc (2 + 7) (by omega), hcc (2 + 8) (by omega), hcc (2 + 9) (by omega), hcc (2 + 10) (by omega)]
    have hg2l : am_led g2 := by
      refine ⟨?_, fun a b ha hb => ?_, fun a ha => ?_⟩
      · rw [k2 42 2 (by omega) (by omega) (by omega), k2 2 0 (by omega) (by omega) (by omega)]; exact hl.1
      · rw [k2 43 _ (by omega) (by omega) (by omega), hg2w, ← hw]; exact hl.2.1 a b ha hb
      · rw [k2 44 _ (by omega) (by omega) (by omega), hg2w, ← hw]; exact hl.2.2 a ha
    refine lp_KO_bestOver (h0 := h) (V := am_wv h 2) hd hv (fun f hf => hq f kp hf) (g2, none, none) ⟨am_keep_t hk (fun a j hr => k2 a j (fun w => ?_) (fun w => ?_) (fun w => ?_)), hg2w, hg2l⟩
    · rw [w] at hr; cases hr
    · rw [w] at hr; cases hr
    · rw [w] at hr; cases hr