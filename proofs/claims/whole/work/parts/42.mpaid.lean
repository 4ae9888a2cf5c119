/-! THE CALL paidBy of the reference -/
theorem am_runk_D {h : Nat → Nat → Int} {k : Nat} : am_runk h k 70 5 = h 70 5 + (k : Int) := by
  have e := (v_run_c (V := am_mv h) (k := k)).2.2.1
  rw [← am_runk_mv] at e
  exact e
theorem am_runk_Q {h : Nat → Nat → Int} {k : Nat} : am_runk h k 70 6 = h 70 6 := am_runk_o (by omega) (by omega) (by omega)
theorem v_pb_le {V : am_Vw} (hv : v_ok V) {n : Nat} : 0 ≤ v_pb V n ∧ v_pb V n ≤ (n : Int) * 640 := by
  have h1 := am_sumb_le (n := n) (g := fun k => v_pon V (vD V + (k : Int)) (-9)) (A := 0) (B := 640) (fun k _ => v_pon_le hv _ _)
  unfold v_pb
  omega
theorem am_runk_s {h : Nat → Nat → Int} {k : Nat} (hv : v_ok (am_mv h)) (hk : h 70 5 + (k : Int) ≤ 98) : am_up (am_falk 73 80 (am_runk h k) (am_mv (am_runk h k)) (am_runk h k 70 6).toNat) 70 5 (am_add (am_falk 73 80 (am_runk h k) (am_mv (am_runk h k)) (am_runk h k 70 6).toNat 70 5) 1) = am_runk h (k + 1) := by
  have hD := mv_D hv
  have e : am_falk 73 80 (am_runk h k) (am_mv (am_runk h k)) (am_runk h k 70 6).toNat 70 5 = am_runk h k 70 5 := rfl
  have e2 : am_add (am_runk h k 70 5) 1 = am_runk h k 70 5 + 1 := by
    rw [am_runk_D, am_add_ok (by omega) (by omega)]
  rw [e, e2]
  rfl
theorem lp_M_paidBy {d L kp : Nat} {h : Nat → Nat → Int} {Q : Option am_V → am_H → Prop} {i : Int} (hd : 4 ≤ d) (hv : v_ok (am_mv h)) (h0i : h 70 5 ≤ i) (h1i : i ≤ 98) : am_Wp d 273 44 [some (Sum.inr (Sum.inr 70)), some (Sum.inl i), some (Sum.inl (v_pb (am_mv h) 0))] [] (am_SH L, am_runk h 0, am_RR kp) Q = Q (some (Sum.inl (v_pb (am_mv h) (i - h 70 5 + 1).toNat))) (am_SH L, am_puk (am_runk h (i - h 70 5 + 1).toNat) 86 127, am_RR 87) := by
  have hQ := mv_Q hv
  have hP := mv_P hv
  have hD := mv_D hv
  refine am_up_eq (n := (i - h 70 5 + 1).toNat) (fun k => am_Wp d 273 44 [some (Sum.inr (Sum.inr 70)), some (Sum.inl i), some (Sum.inl (v_pb (am_mv h) k))] [] (am_SH L, am_runk h k, am_RR kp) Q) (Q (some (Sum.inl (v_pb (am_mv h) (i - h 70 5 + 1).toNat))) (am_SH L, am_puk (am_runk h (i - h 70 5 + 1).toNat) 86 127, am_RR 87)) (fun k hk => ?_) ?_
  · show am_Wp d 273 44 [some (Sum.inr (Sum.inr 70)), some (Sum.inl i), some (Sum.inl (v_pb (am_mv h) k))] [] (am_SH L, am_runk h k, am_RR kp) Q = am_Wp d 273 44 [some (Sum.inr (Sum.inr 70)), some (Sum.inl i), some (Sum.inl (v_pb (am_mv h) (k + 1)))] [] (am_SH L, am_runk h (k + 1), am_RR kp) Q
    have hvk : v_ok (am_mv (am_runk h k)) := by
      rw [am_runk_mv]
      exact v_run_ok hv (show h 70 5 + (k : Int) ≤ 99 by omega)
    have b1 := v_pb_le hv (n := k)
    have b2 := v_pon_le hv (h 70 5 + (k : Int)) (-9)
    have es : v_fsum (am_mv (am_runk h k)) (am_runk h k 70 6).toNat = v_pon (am_mv h) (h 70 5 + (k : Int)) (-9) := by
      rw [am_runk_mv, am_runk_Q]
      exact v_run_sum
    have ea : am_add (v_pb (am_mv h) k) (v_pon (am_mv h) (h 70 5 + (k : Int)) (-9)) = v_pb (am_mv h) (k + 1) := am_add_ok (by omega) (by omega)
    refine (bq_M_paidBy_44 (by omega)).trans ?_
    rw [am_runk_D, if_neg (by omega), sp_M_fallDue (by omega) hvk]
    simp only [Option.toList_some, List.cons_append, List.nil_append]
    rw [bq_M_paidBy_57, am_runk_s hv (by omega), es, ea]
  · show am_Wp d 273 44 [some (Sum.inr (Sum.inr 70)), some (Sum.inl i), some (Sum.inl (v_pb (am_mv h) (i - h 70 5 + 1).toNat))] [] (am_SH L, am_runk h (i - h 70 5 + 1).toNat, am_RR kp) Q = _
    refine (bq_M_paidBy_44 (by omega)).trans ?_
    rw [am_runk_D, if_pos (by omega), sp_M_carryAll_p86 (by omega)]
    simp only [Option.toList_none, List.nil_append]
    rw [bq_M_paidBy_81]
theorem am_runk_73 {h : Nat → Nat → Int} {k j : Nat} (hv : v_ok (am_mv h)) (hj : 7 ≤ j) : am_runk h k 73 j = h 73 j := by
  have hQ := mv_Q hv
  induction k with
  | zero => rfl
  | succ k ih =>
    show v_ki (am_mv (am_runk h k)) (am_runk h k 70 6).toNat j = _
    rw [am_runk_Q, ← ih]
    exact am_for_ind (n := (h 70 6).toNat) (fun _ s => s = am_runk h k 73 j) rfl (fun p s hp hs => by
      show (if _ then _ else s) = _
      have h1 : am_runk h k 76 p = h 76 p := am_runk_o (by omega) (by omega) (by omega)
      have h2 := mv_p hv p (by omega)
      rw [if_neg (fun w => by have h3 : am_runk h k 76 p = (j : Int) := w.2.2; omega)]
      exact hs)
theorem am_runk_80 {h : Nat → Nat → Int} {k j : Nat} (hv : v_ok (am_mv h)) (hj : 16 ≤ j) : am_runk h k 80 j = h 80 j := by
  have hQ := mv_Q hv
  induction k with
  | zero => rfl
  | succ k ih =>
    show v_st (am_mv (am_runk h k)) (am_runk h k 70 6).toNat j = _
    rw [am_runk_Q, v_st_n (by omega)]
    exact ih
theorem am_tkk_rel {h : Nat → Nat → Int} {b j : Nat} (hr : am_rel b j = true) : am_tkk h 86 127 b j = h b j := by
  refine am_tkk_a (fun w => ?_) (fun w => ⟨fun w2 => ?_, fun w2 => ?_⟩)
  · subst w; cases hr
  · subst w w2; cases hr
  · subst w w2; cases hr
theorem am_keep_run {h : Nat → Nat → Int} {n : Nat} (hv : v_ok (am_mv h)) : am_keep h (am_puk (am_runk (am_tkk h 86 127) n) 86 127) := by
  have hv2 : v_ok (am_mv (am_tkk h 86 127)) := hv
  refine am_back (fun j hj => ?_) (fun b j hr hi => ?_)
  · rw [am_runk_o (by omega) (by omega) (by omega)]
    show (if j < 127 then _ else _) = _
    exact if_pos hj
  · by_cases h73 : b = 73
    · subst h73
      have h7 : 7 ≤ j := by
        by_cases h8 : j < 7
        · exact absurd (show am_ix 73 j < 127 by unfold am_ix; rw [if_neg (by omega), if_neg (by omega), if_pos (by omega), if_pos h8]; omega) hi
        · omega
      rw [am_runk_73 hv2 h7, am_tkk_rel hr]
    · by_cases h80 : b = 80
      · subst h80
        have h7 : 16 ≤ j := by
          by_cases h8 : j < 16
          · exact absurd (show am_ix 80 j < 127 by unfold am_ix; rw [if_neg (by omega), if_neg (by omega), if_neg (by omega), if_pos (by omega), if_pos h8]; omega) hi
          · omega
        rw [am_runk_80 hv2 h7, am_tkk_rel hr]
      · rw [am_runk_o h73 h80 (fun w => hi (by rw [w.1, w.2]; exact show (1 : Nat) < 127 by omega)), am_tkk_rel hr]
