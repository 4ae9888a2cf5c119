/-! THE CALL lots of the reference -/
def v_ldu (V : am_Vw) (z : Int) (n : Nat) : Nat → Int := fun j => if j < n ∧ vT V j = 0 then v_dr (v_sd V z (j + 1)) else vE V j
theorem v_ldu_s {V : am_Vw} {z : Int} {n : Nat} (h : vT V n = 0) : am_sx (v_ldu V z n) n (v_dr (v_sd V z (n + 1))) = v_ldu V z (n + 1) := by
  funext j
  unfold am_sx v_ldu
  by_cases q : j = n
  · rw [if_pos q, q, if_pos ⟨by omega, h⟩]
  · rw [if_neg q]
    by_cases q2 : j < n ∧ vT V j = 0
    · rw [if_pos q2, if_pos ⟨by omega, q2.2⟩]
    · rw [if_neg q2, if_neg (fun w => q2 ⟨by have := w.1; omega, w.2⟩)]
theorem v_ldu_n {V : am_Vw} {z : Int} {n : Nat} (h : ¬ vT V n = 0) : v_ldu V z n = v_ldu V z (n + 1) := by
  funext j
  unfold v_ldu
  by_cases q2 : j < n ∧ vT V j = 0
  · rw [if_pos q2, if_pos ⟨by omega, q2.2⟩]
  · rw [if_neg q2, if_neg (fun w => q2 ⟨by
      by_cases q3 : j = n
      · exact absurd (q3 ▸ w.2) h
      · have := w.1; omega, w.2⟩)]
def v_lw (V : am_Vw) (z : Int) (n : Nat) : am_Vw := (V.1, vK V, vF V, vS V, vU V, vO V, vH V, vN V, v_ldu V z n, vG V, vT V)
theorem v_lw_ok {V : am_Vw} (hv : v_ok V) {z : Int} {n : Nat} : v_ok (v_lw V z n) := by
  refine ⟨hv.1, hv.2.1, hv.2.2.1, hv.2.2.2.1, fun p hp => ?_, hv.2.2.2.2.2⟩
  have h1 := v_ok_p hv p hp
  have h2 := v_dr_le (s := v_sd V z (p + 1))
  refine ⟨h1.1, h1.2.1, h1.2.2.1, ?_, h1.2.2.2.2⟩
  show 0 ≤ v_ldu V z n p ∧ v_ldu V z n p ≤ 98
  unfold v_ldu
  by_cases q : p < n ∧ vT V p = 0
  · rw [if_pos q]; exact h2
  · rw [if_neg q]; exact h1.2.2.2.1
theorem v_lw_pb {V : am_Vw} (hv : v_ok V) {z : Int} : v_pb (v_lw V z (vQ V).toNat) (99 - vD V).toNat = v_lot V z (vQ V).toNat := by
  have hD := v_ok_D hv
  have hQ := v_ok_Q hv
  unfold v_pb v_pon v_lot
  rw [am_sumb_swap]
  refine am_sumb_eq (fun p hp => ?_)
  have hp2 : p < (vQ V).toNat := hp
  have h2 := v_dr_le (s := v_sd V z (p + 1))
  have ed : vE (v_lw V z (vQ V).toNat) p = v_ldu V z (vQ V).toNat p := rfl
  by_cases q1 : vT V p = 0
  · have ed2 : v_ldu V z (vQ V).toNat p = v_dr (v_sd V z (p + 1)) := if_pos ⟨hp2, q1⟩
    rw [ed2] at ed
    generalize v_dr (v_sd V z (p + 1)) = u at ed h2 ⊢
    by_cases q2 : v_paid V (p : Int) = true
    · by_cases q3 : vD V ≤ u
      · rw [if_pos ⟨q1, q2, q3⟩]
        refine Eq.trans (am_sumb_eq (fun k hk => ?_)) (am_sumb_one (n := (99 - vD V).toNat) (i := (u - vD V).toNat) (x := vN V p) (by omega))
        by_cases q4 : k = (u - vD V).toNat
        · rw [if_pos q4]
          exact if_pos ⟨⟨q1, by rw [ed]; show u = vD V + (k : Int); omega⟩, q2, Or.inl rfl⟩
        · rw [if_neg q4]
          refine if_neg (fun w => q4 ?_)
          have w2 := w.1.2
          rw [ed] at w2
          have w3 : u = vD V + (k : Int) := w2
          omega
      · rw [if_neg (fun w => q3 w.2.2)]
        refine (am_sumb_eq (f := fun _ => 0) (fun k hk => if_neg (fun w => q3 ?_))).trans am_sumb_0
        have w2 := w.1.2
        rw [ed] at w2
        have w3 : u = vD V + (k : Int) := w2
        omega
    · rw [if_neg (fun w => q2 w.2.1)]
      exact (am_sumb_eq (f := fun _ => 0) (fun k hk => if_neg (fun w => q2 w.2.1))).trans am_sumb_0
  · rw [if_neg (fun w => q1 w.1)]
    exact (am_sumb_eq (f := fun _ => 0) (fun k hk => if_neg (fun w => q1 w.1.1))).trans am_sumb_0
theorem lp_M_lots_i {d L kp : Nat} {B : Nat → Nat → Int} {Q : Option am_V → am_H → Prop} {x y z s : Int} {j2 : Option am_V} (hv : v_ok (am_mv B)) : am_Wp d 290 53 [some (Sum.inr (Sum.inr 70)), some (Sum.inl (x)), j2, some (Sum.inl (z)), some (Sum.inl (s)), some (Sum.inl (y)), some (Sum.inl (0))] [] (am_SH L, B, am_RR kp) Q = am_Wp d 290 53 [some (Sum.inr (Sum.inr 70)), some (Sum.inl (x)), j2, some (Sum.inl (v_sd (am_mv B) z (B 70 6).toNat)), some (Sum.inl (s)), some (Sum.inl (y)), some (Sum.inl ((((B 70 6).toNat : Nat) : Int)))] [] (am_SH L, (am_ov B 78 (v_ldu (am_mv B) z (B 70 6).toNat)), am_RR kp) Q := by
  have hQ := mv_Q hv
  have hP := mv_P hv
  have hD := mv_D hv
  have e0 : (am_ov B 78 (v_ldu (am_mv B) z 0)) = B := by
    refine Eq.trans ?_ (am_ov_id (A := 78))
    congr 1
  have h1 := am_up_eq (n := (B 70 6).toNat) (fun p => am_Wp d 290 53 [some (Sum.inr (Sum.inr 70)), some (Sum.inl (x)), j2, some (Sum.inl (v_sd (am_mv B) z p)), some (Sum.inl (s)), some (Sum.inl (y)), some (Sum.inl ((p : Int)))] [] (am_SH L, (am_ov B 78 (v_ldu (am_mv B) z p)), am_RR kp) Q) (am_Wp d 290 53 [some (Sum.inr (Sum.inr 70)), some (Sum.inl (x)), j2, some (Sum.inl (v_sd (am_mv B) z (B 70 6).toNat)), some (Sum.inl (s)), some (Sum.inl (y)), some (Sum.inl ((((B 70 6).toNat : Nat) : Int)))] [] (am_SH L, (am_ov B 78 (v_ldu (am_mv B) z (B 70 6).toNat)), am_RR kp) Q) (fun p hp => ?_) rfl
  · rw [e0] at h1
    exact h1
  · have e70 : (am_ov B 78 (v_ldu (am_mv B) z p)) 70 6 = B 70 6 := rfl
    have e80 : (am_ov B 78 (v_ldu (am_mv B) z p)) 80 ((p : Int)).toNat = B 80 p := rfl
    have et : vT (am_mv B) p = B 80 p := rfl
    have edr : am_rem (am_div (am_and (am_add (am_mul (v_sd (am_mv B) z p) 1103515245) 12345) 2147483647) 65536) 99 = v_dr (v_nx (v_sd (am_mv B) z p)) := v_dr_div
    have enx : am_add (am_mul (v_sd (am_mv B) z p) 1103515245) 12345 = v_nx (v_sd (am_mv B) z p) := rfl
    have es := v_sd_s (V := (am_mv B)) (z := z) (n := p)
    refine (bq_M_lots_53).trans ?_
    rw [e70, if_neg (by omega), am_gd (by omega) (by omega), e80]
    by_cases q1 : B 80 p = 0
    · rw [et, if_pos q1] at es
      have el := v_ldu_s (V := (am_mv B)) (z := z) (n := p) (et.trans q1)
      rw [es] at el
      rw [if_pos q1, am_gd (by omega) (by omega), edr, enx, bq_M_lots_101, am_incn (by omega), Int.toNat_natCast, am_up_ov, el, es]
    · rw [et, if_neg q1] at es
      rw [if_neg q1, bq_M_lots_101, am_incn (by omega), v_ldu_n (fun w => q1 (et.symm.trans w)), es]
theorem lp_M_lots_d {d L kp : Nat} {B : Nat → Nat → Int} {Q : Option am_V → am_H → Prop} {x y t s : Int} {j2 j6 : Option am_V} (hd : 4 ≤ d) (hv : v_ok (am_mv B)) (hs : 0 ≤ s ∧ s ≤ 1000000) : am_Wp d 290 107 [some (Sum.inr (Sum.inr 70)), some (Sum.inl (x)), j2, some (Sum.inl (t)), some (Sum.inl (s)), some (Sum.inl (y)), j6] [] (am_SH L, B, am_RR kp) Q = am_Wp d 290 107 [some (Sum.inr (Sum.inr 70)), some (Sum.inl (x)), j2, some (Sum.inl (t)), some (Sum.inl (s + v_pb (am_mv B) (99 - B 70 5).toNat)), some (Sum.inl (y)), j6] [] (am_SH L, (am_runk B (99 - B 70 5).toNat), am_RR kp) Q := by
  have hQ := mv_Q hv
  have hP := mv_P hv
  have hD := mv_D hv
  have h1 := am_up_eq (n := (99 - B 70 5).toNat) (fun k => am_Wp d 290 107 [some (Sum.inr (Sum.inr 70)), some (Sum.inl (x)), j2, some (Sum.inl (t)), some (Sum.inl (s + v_pb (am_mv B) k)), some (Sum.inl (y)), j6] [] (am_SH L, (am_runk B k), am_RR kp) Q) (am_Wp d 290 107 [some (Sum.inr (Sum.inr 70)), some (Sum.inl (x)), j2, some (Sum.inl (t)), some (Sum.inl (s + v_pb (am_mv B) (99 - B 70 5).toNat)), some (Sum.inl (y)), j6] [] (am_SH L, (am_runk B (99 - B 70 5).toNat), am_RR kp) Q) (fun k hk => ?_) rfl
  · have e0 : s + v_pb (am_mv B) 0 = s := Int.add_zero s
    have e1 : am_runk B 0 = B := rfl
    rw [e0, e1] at h1
    exact h1
  · have hvk : v_ok (am_mv (am_runk B k)) := by
      rw [am_runk_mv]
      exact v_run_ok hv (show B 70 5 + (k : Int) ≤ 99 by omega)
    have b1 := v_pb_le hv (n := k)
    have b2 := v_pon_le hv (B 70 5 + (k : Int)) (-9)
    have es : v_fsum (am_mv (am_runk B k)) (am_runk B k 70 6).toNat = v_pon (am_mv B) (B 70 5 + (k : Int)) (-9) := by
      rw [am_runk_mv, am_runk_Q]
      exact v_run_sum
    have ea : am_add (s + v_pb (am_mv B) k) (v_pon (am_mv B) (B 70 5 + (k : Int)) (-9)) = s + v_pb (am_mv B) (k + 1) := by
      rw [am_add_ok (by omega) (by omega), Int.add_assoc]; rfl
    refine (bq_M_lots_107 (by omega)).trans ?_
    rw [am_runk_D, if_neg (by omega), sp_M_fallDue (by omega) hvk]
    simp only [Option.toList_some, Option.toList_none, List.cons_append, List.nil_append]
    rw [bq_M_lots_122, am_runk_s hv (by omega), es, ea]
theorem lp_M_lots {d L : Nat} {g : Nat → Nat → Int} {Q : Option am_V → am_H → Prop} {z : Int} {m : Nat} {j2 : Option am_V} (hd : 4 ≤ d) (hv : v_ok (am_mv g)) (hm : m ≤ 20) (hq : ∀ f, am_keep g f → Q (some (Sum.inl (v_lots (am_mv g) z m).2)) (am_SH L, f, am_RR 87)) : ∀ j : ((Nat → Nat → Int) × Option am_V), am_keep g j.1 ∧ (∀ n, n < 127 → j.1 86 n = am_car g n) → am_Wp d 290 44 [some (Sum.inr (Sum.inr 70)), some (Sum.inl ((m : Int))), j2, some (Sum.inl ((v_lots (am_mv g) z 0).1)), some (Sum.inl ((v_lots (am_mv g) z 0).2)), some (Sum.inl (0)), j.2] [] (am_SH L, j.1, am_RR 87) Q := by
  have hQ := mv_Q hv
  have hP := mv_P hv
  have hD := mv_D hv
  refine am_im_fr (J := ((Nat → Nat → Int) × Option am_V)) (a := 0) (n := m) (fun _ j => am_keep g j.1 ∧ (∀ n, n < 127 → j.1 86 n = am_car g n)) (fun y j => am_Wp d 290 44 [some (Sum.inr (Sum.inr 70)), some (Sum.inl ((m : Int))), j2, some (Sum.inl ((v_lots (am_mv g) z y).1)), some (Sum.inl ((v_lots (am_mv g) z y).2)), some (Sum.inl ((y : Int))), j.2] [] (am_SH L, j.1, am_RR 87) Q) (by omega) (fun y j _ hy hj ih => ?_) (fun j hj => ?_)
  · obtain ⟨G, j6⟩ := j
    obtain ⟨k1, k2⟩ := hj
    have emv : am_mv G = am_mv g := am_keep_mv k1
    have hvG : v_ok (am_mv G) := by rw [emv]; exact hv
    have e70 : G 70 0 = g 70 0 := k1 70 0 rfl
    have eQ : G 70 6 = g 70 6 := k1 70 6 rfl
    have eD : G 70 5 = g 70 5 := k1 70 5 rfl
    have b1 := v_lots_le hv (z := z) (n := y)
    show am_Wp d 290 44 [some (Sum.inr (Sum.inr 70)), some (Sum.inl ((m : Int))), j2, some (Sum.inl ((v_lots (am_mv g) z y).1)), some (Sum.inl ((v_lots (am_mv g) z y).2)), some (Sum.inl ((y : Int))), j6] [] (am_SH L, G, am_RR 87) Q
    refine (show _ = _ from bq_M_lots_44).mpr ?_
    rw [if_neg (by omega)]
    refine (lp_M_lots_i hvG).mpr ?_
    refine (show _ = _ from bq_M_lots_53).mpr ?_
    have e6 : (am_ov G 78 (v_ldu (am_mv G) (v_lots (am_mv g) z y).1 (G 70 6).toNat)) 70 6 = G 70 6 := rfl
    rw [e6, if_pos (by omega)]
    have hvB : v_ok (am_mv (am_ov G 78 (v_ldu (am_mv G) (v_lots (am_mv g) z y).1 (G 70 6).toNat))) := v_lw_ok hvG
    refine (lp_M_lots_d (by omega) hvB (by omega)).mpr ?_
    have hvB2 : v_ok (am_mv (am_ov G 78 (v_ldu (am_mv G) (v_lots (am_mv g) z y).1 (G 70 6).toNat))) := hvB
    have e5 : (am_ov G 78 (v_ldu (am_mv G) (v_lots (am_mv g) z y).1 (G 70 6).toNat)) 70 5 = G 70 5 := rfl
    have epb : v_pb (am_mv (am_ov G 78 (v_ldu (am_mv G) (v_lots (am_mv g) z y).1 (G 70 6).toNat))) (99 - G 70 5).toNat = v_lot (am_mv G) (v_lots (am_mv g) z y).1 (G 70 6).toNat := v_lw_pb hvG
    rw [e5, epb]
    have hkp : am_keep g (am_puk (am_runk (am_ov G 78 (v_ldu (am_mv G) (v_lots (am_mv g) z y).1 (G 70 6).toNat)) (99 - G 70 5).toNat) 86 127) := by
      refine am_back (fun n hn => ?_) (fun b j hr hix => ?_)
      · rw [am_runk_o (by omega) (by omega) (by omega)]
        exact k2 n hn
      · by_cases h73 : b = 73
        · subst h73
          have h7 : 7 ≤ j := by
            by_cases h8 : j < 7
            · exact absurd (show am_ix 73 j < 127 by unfold am_ix; rw [if_neg (by omega), if_neg (by omega), if_pos (by omega), if_pos h8]; omega) hix
            · omega
          rw [am_runk_73 hvB2 h7]
          exact k1 73 j hr
        · by_cases h80 : b = 80
          · subst h80
            have h7 : 16 ≤ j := by
              by_cases h8 : j < 16
              · exact absurd (show am_ix 80 j < 127 by unfold am_ix; rw [if_neg (by omega), if_neg (by omega), if_neg (by omega), if_pos (by omega), if_pos h8]; omega) hix
              · omega
            rw [am_runk_80 hvB2 h7]
            exact k1 80 j hr
          · rw [am_runk_o h73 h80 (fun w => hix (by rw [w.1, w.2]; exact show (1 : Nat) < 127 by omega))]
            by_cases h78 : b = 78
            · subst h78
              have h7 : 16 ≤ j := by
                by_cases h8 : j < 16
                · exact absurd (show am_ix 78 j < 127 by unfold am_ix; rw [if_neg (by omega), if_neg (by omega), if_neg (by omega), if_pos (by omega), if_pos h8]; omega) hix
                · omega
              have e78 : (am_ov G 78 (v_ldu (am_mv G) (v_lots (am_mv g) z y).1 (G 70 6).toNat)) 78 j = G 78 j := by
                show v_ldu (am_mv G) (v_lots (am_mv g) z y).1 (G 70 6).toNat j = G 78 j
                exact if_neg (fun w => by have := w.1; omega)
              rw [e78]
              exact k1 78 j hr
            · show (if b = 78 then _ else G b j) = _
              rw [if_neg h78]
              exact k1 b j hr
    have h86 : ∀ n, n < 127 → am_puk (am_runk (am_ov G 78 (v_ldu (am_mv G) (v_lots (am_mv g) z y).1 (G 70 6).toNat)) (99 - G 70 5).toNat) 86 127 86 n = am_car g n := fun n hn => by
      rcases am_puk_a (h := am_runk (am_ov G 78 (v_ldu (am_mv G) (v_lots (am_mv g) z y).1 (G 70 6).toNat)) (99 - G 70 5).toNat) (a := 86) (n := 127) (j := n) (by omega) with w | w
      · rw [w, am_runk_o (by omega) (by omega) (by omega)]
        exact k2 n hn
      · omega
    refine (show _ = _ from bq_M_lots_107 (by omega)).mpr ?_
    have hDD := mv_D hvG
    rw [am_runk_D, e5, if_pos (by omega), sp_M_carryAll_p86 (by omega)]
    simp only [Option.toList_some, Option.toList_none, List.cons_append, List.nil_append]
    rw [bq_M_lots_147, am_incn (by omega)]
    have h9 := ih (am_puk (am_runk (am_ov G 78 (v_ldu (am_mv G) (v_lots (am_mv g) z y).1 (G 70 6).toNat)) (99 - G 70 5).toNat) 86 127, some (Sum.inl (((G 70 6).toNat : Nat) : Int))) ⟨hkp, h86⟩
    rw [v_lots_s] at h9
    have es1 : v_sd (am_mv g) (v_lots (am_mv g) z y).1 (vQ (am_mv g)).toNat = v_sd (am_mv G) (v_lots (am_mv g) z y).1 (G 70 6).toNat := by rw [emv, eQ]
    have es2 : v_lot (am_mv g) (v_lots (am_mv g) z y).1 (vQ (am_mv g)).toNat = v_lot (am_mv G) (v_lots (am_mv g) z y).1 (G 70 6).toNat := by rw [emv, eQ]
    rw [es1, es2] at h9
    exact h9
  · show am_Wp d 290 44 [some (Sum.inr (Sum.inr 70)), some (Sum.inl ((m : Int))), j2, some (Sum.inl ((v_lots (am_mv g) z m).1)), some (Sum.inl ((v_lots (am_mv g) z m).2)), some (Sum.inl ((m : Int))), j.2] [] (am_SH L, j.1, am_RR 87) Q
    refine (show _ = _ from bq_M_lots_44).mpr ?_
    rw [if_pos (by omega)]
    exact hq j.1 hj.1
theorem m_lots {d L kp : Nat} {h : Nat → Nat → Int} {i e : Int} (hd : 4 ≤ d) (hv : v_ok (am_mv h)) : am_An L 81 (a_lots (am_mv h) i e) h (fun Q => am_Wp d 290 0 [some (Sum.inr (Sum.inr 70)), some (Sum.inl i), some (Sum.inl e), none, none, none, none] [] (am_SH L, h, am_RR kp) Q) := by
  have hQ := mv_Q hv
  have hP := mv_P hv
  have hD := mv_D hv
  intro Q hq
  have hq2 : ∀ g' kq, am_keep (am_up h 70 13 0) g' → Q (some (a_lots (am_mv h) i e).1) (am_SH L, am_bump 81 (a_lots (am_mv h) i e).2 g', am_RR kq) := fun g' kq hk => hq g' kq (am_keep_t (am_keep_up rfl am_keep_r) hk)
  clear hq
  have hv2 : v_ok (am_mv (am_up h 70 13 0)) := hv
  try rw [show am_mv h = am_mv (am_up h 70 13 0) from rfl] at hq2
  show am_Wp d 290 0 [some (Sum.inr (Sum.inr 70)), some (Sum.inl i), some (Sum.inl e), none, none, none, none] [] (am_SH L, h, am_RR kp) Q
  refine (show _ = _ from bq_M_lots_0 (by omega)).mpr ?_
  clear hv hQ hP hD
  generalize am_up h 70 13 0 = g at hq2 hv2 ⊢
  have hv := hv2
  have hQ := mv_Q hv2
  have hP := mv_P hv
  have hD := mv_D hv
  rw [sp_M_wrongNumber]
  simp only [Option.toList_some, Option.toList_none, List.cons_append, List.nil_append]
  rw [bq_M_lots_12 (by omega)]
  by_cases q1 : i < 1
  · have em : m_wrong i 1 20 = -4 := if_pos q1
    have h3 := hq2 g kp am_keep_r
    unfold a_lots at h3
    rw [if_pos q1] at h3
    rw [em, if_neg (by omega), sp_M_wrongNumber, em]
    simp only [Option.toList_some, Option.toList_none, List.cons_append, List.nil_append]
    rw [bq_M_lots_23 (by omega), sp_M_refuse (by omega) (by omega)]
    simp only [Option.toList_some, Option.toList_none, List.cons_append, List.nil_append]
    rw [bq_M_lots_26]
    exact h3
  · by_cases q2 : 20 < i
    · have em : m_wrong i 1 20 = -6 := (if_neg q1).trans (if_pos q2)
      have h3 := hq2 g kp am_keep_r
      unfold a_lots at h3
      rw [if_neg q1, if_pos q2] at h3
      rw [em, if_neg (by omega), sp_M_wrongNumber, em]
      simp only [Option.toList_some, Option.toList_none, List.cons_append, List.nil_append]
      rw [bq_M_lots_23 (by omega), sp_M_refuse (by omega) (by omega)]
      simp only [Option.toList_some, Option.toList_none, List.cons_append, List.nil_append]
      rw [bq_M_lots_26]
      exact h3
    · have em : m_wrong i 1 20 = 0 := (if_neg q1).trans (if_neg q2)
      obtain ⟨m, rfl⟩ := Int.eq_ofNat_of_zero_le (show 0 ≤ i by omega)
      rw [em, if_pos (by omega), sp_M_carryAll_t86 (by omega)]
      simp only [Option.toList_some, Option.toList_none, List.cons_append, List.nil_append]
      rw [bq_M_lots_41]
      have k1 : am_keep g (am_tkk g 86 127) := fun b j hr => am_tkk_rel hr
      refine lp_M_lots hd hv (by omega) (fun f k2 => ?_) (am_tkk g 86 127, none) ⟨k1, fun n hn => ?_⟩
      · have h3 := hq2 f 87 k2
        unfold a_lots at h3
        rw [if_neg q1, if_neg q2, Int.toNat_natCast] at h3
        exact h3
      · show (if n < 127 then am_car g n else g 86 n) = _
        rw [if_pos hn]