/-! THE CALLS chain, comesIn of the reference; what is left of a set -/
def an_dif (x y : Nat) : Nat := x ^^^ (x &&& y)
theorem an_dif_tb {x y i : Nat} : Nat.testBit (an_dif x y) i = (Nat.testBit x i && !Nat.testBit y i) := by
  unfold an_dif
  rw [Nat.testBit_xor, Nat.testBit_and]
  cases Nat.testBit x i <;> cases Nat.testBit y i <;> rfl
theorem an_dif_le {x y : Nat} : an_dif x y ≤ x := by
  have h1 : an_dif x y = an_dif x y &&& x := by
    apply Nat.eq_of_testBit_eq
    intro i
    rw [Nat.testBit_and, an_dif_tb]
    cases Nat.testBit x i <;> simp
  rw [h1]
  exact Nat.and_le_right
theorem an_dif_ok {x y : Nat} (hx : x < 2147483648) (hy : y < 2147483648) : am_and (x : Int) (am_xor (y : Int) (-1)) = ((an_dif x y : Nat) : Int) := by
  have hb : ∀ a b : BitVec 32, a &&& (b ^^^ BitVec.allOnes 32) = a ^^^ (a &&& b) := by
    intro a b
    apply BitVec.eq_of_getLsbD_eq
    intro i hi
    simp only [BitVec.getLsbD_and, BitVec.getLsbD_xor, BitVec.getLsbD_allOnes, hi, decide_true]
    cases BitVec.getLsbD a i <;> cases BitVec.getLsbD b i <;> rfl
  have e : Int32.ofInt (x : Int) &&& (Int32.ofInt (y : Int) ^^^ Int32.ofInt (-1)) = Int32.ofInt ((an_dif x y : Nat) : Int) := by
    apply Int32.toBitVec.inj
    have h1 := hb (Int32.ofInt (x : Int)).toBitVec (Int32.ofInt (y : Int)).toBitVec
    refine Eq.trans (show _ = (Int32.ofInt (x : Int)).toBitVec &&& ((Int32.ofInt (y : Int)).toBitVec ^^^ BitVec.allOnes 32) from rfl) (h1.trans ?_)
    unfold an_dif
    simp [BitVec.ofNat_and, BitVec.ofNat_xor]
  have h2 := an_dif_le (x := x) (y := y)
  unfold am_and am_xor
  rw [Int32.ofInt_toInt, e, am_to32 ⟨by omega, by omega⟩]
theorem m_chain {d L kp : Nat} {h : Nat → Nat → Int} {i e : Int} (hd : 3 ≤ d) (hv : v_ok (am_mv h)) : am_An L 81 (a_chain (am_mv h) i e) h (fun Q => am_Wp d 253 0 [some (Sum.inr (Sum.inr 70)), some (Sum.inl i), some (Sum.inl e)] [] (am_SH L, h, am_RR kp) Q) := by
  have hQ := mv_Q hv
  have hP := mv_P hv
  have hD := mv_D hv
  intro Q hq
  have hq2 : ∀ g' kq, am_keep (am_up h 70 13 0) g' → Q (some (a_chain (am_mv h) i e).1) (am_SH L, am_bump 81 (a_chain (am_mv h) i e).2 g', am_RR kq) := fun g' kq hk => hq g' kq (am_keep_t (am_keep_up rfl am_keep_r) hk)
  clear hq
  have hv2 : v_ok (am_mv (am_up h 70 13 0)) := hv
  try rw [show am_mv h = am_mv (am_up h 70 13 0) from rfl] at hq2
  show am_Wp d 253 0 [some (Sum.inr (Sum.inr 70)), some (Sum.inl i), some (Sum.inl e)] [] (am_SH L, h, am_RR kp) Q
  refine (show _ = _ from bq_M_chain_0 (by omega)).mpr ?_
  clear hv hQ hP hD
  generalize am_up h 70 13 0 = g at hq2 hv2 ⊢
  have hv := hv2
  have hQ := mv_Q hv2
  have hP := mv_P hv
  have hD := mv_D hv
  have er : v_isP (am_mv g) i = false ∨ v_isP (am_mv g) e = false → am_Wp d 253 21 [some (Sum.inr (Sum.inr 70)), some (Sum.inl (i)), some (Sum.inl (e))] [] (am_SH L, g, am_RR kp) Q := fun w => by
    have h3 := hq2 g kp am_keep_r
    unfold a_chain at h3
    rw [if_pos (by rcases w with w | w <;> rw [w] <;> simp)] at h3
    rw [bq_M_chain_21 (by omega), sp_M_refuse (by omega) (by omega)]
    simp only [Option.toList_some, Option.toList_none, List.cons_append, List.nil_append]
    rw [bq_M_chain_26]
    exact h3
  rw [sp_M_isOne (by omega) hv]
  simp only [Option.toList_some, Option.toList_none, List.cons_append, List.nil_append]
  rw [bq_M_chain_10 (by omega)]
  cases hi : v_isP (am_mv g) i with
  | false =>
    rw [if_pos am_bif]
    exact er (Or.inl hi)
  | true =>
    rw [if_neg am_b0, sp_M_isOne (by omega) hv]
    simp only [Option.toList_some, Option.toList_none, List.cons_append, List.nil_append]
    rw [bq_M_chain_18 (by omega)]
    cases he : v_isP (am_mv g) e with
    | false =>
      rw [if_pos am_bif]
      exact er (Or.inr he)
    | true =>
      have hi2 := v_isP_iff.1 hi
      have he2 := v_isP_iff.1 he
      dsimp only [vP, vQ, vD, vK, vF, vS, vU, vO, vH, vN, vE, vG, vT, am_mv, am_wv] at hi2 he2
      obtain ⟨a, rfl⟩ := Int.eq_ofNat_of_zero_le hi2.1
      obtain ⟨b, rfl⟩ := Int.eq_ofNat_of_zero_le he2.1
      rw [if_neg am_b0]
      refine sp_M_layStepsFrom (by omega) hv (fun c hc => ?_)
      have h3 := hq2 (an_arr g 97 7 c) kp (am_keep_arr (fun _ => rfl) am_keep_r)
      unfold a_chain at h3
      rw [hi, he, if_neg (by simp), Int.toNat_natCast, Int.toNat_natCast] at h3
      have hb1 := hc.1 b (by omega)
      have e97 : (an_arr g 97 7 c) 97 ((b : Int)).toNat = c b := an_arr_i (by omega)
      have hf := an_sp_far (b := b) (by omega) (show a < (g 70 0).toNat by omega) (fun _ _ => v_fm_lt) hc (by omega)
      have hf2 : (if c b < 99 then c b else -9) = v_oi (v_far (am_mv g) (-9) a (2 ^ b)) := hf
      rw [← hf2] at h3
      simp only [Option.toList_some, Option.toList_none, List.cons_append, List.nil_append]
      rw [bq_M_chain_32, am_gd (by omega) (by omega), e97]
      by_cases q1 : c b < 99
      · rw [if_pos q1] at h3
        rw [if_neg (by omega), am_gd (by omega) (by omega), bq_M_chain_54]
        exact h3
      · rw [if_neg q1] at h3
        rw [if_pos (by omega), bq_M_chain_54]
        exact h3
theorem m_comesIn {d L kp : Nat} {h : Nat → Nat → Int} {i : Int} (hd : 3 ≤ d) (hv : v_ok (am_mv h)) : am_An L 81 (a_comesIn (am_mv h) i) h (fun Q => am_Wp d 257 0 [some (Sum.inr (Sum.inr 70)), some (Sum.inl i), none, none, none] [] (am_SH L, h, am_RR kp) Q) := by
  have hQ := mv_Q hv
  have hP := mv_P hv
  have hD := mv_D hv
  intro Q hq
  have hq2 : ∀ g' kq, am_keep (am_up h 70 13 0) g' → Q (some (a_comesIn (am_mv h) i).1) (am_SH L, am_bump 81 (a_comesIn (am_mv h) i).2 g', am_RR kq) := fun g' kq hk => hq g' kq (am_keep_t (am_keep_up rfl am_keep_r) hk)
  clear hq
  have hv2 : v_ok (am_mv (am_up h 70 13 0)) := hv
  try rw [show am_mv h = am_mv (am_up h 70 13 0) from rfl] at hq2
  show am_Wp d 257 0 [some (Sum.inr (Sum.inr 70)), some (Sum.inl i), none, none, none] [] (am_SH L, h, am_RR kp) Q
  refine (show _ = _ from bq_M_comesIn_0 (by omega)).mpr ?_
  clear hv hQ hP hD
  generalize am_up h 70 13 0 = g at hq2 hv2 ⊢
  have hv := hv2
  have hQ := mv_Q hv2
  have hP := mv_P hv
  have hD := mv_D hv
  rw [sp_M_isOne (by omega) hv]
  simp only [Option.toList_some, Option.toList_none, List.cons_append, List.nil_append]
  rw [bq_M_comesIn_10 (by omega)]
  cases hi : v_isP (am_mv g) i with
  | false =>
    have h3 := hq2 g kp am_keep_r
    unfold a_comesIn at h3
    rw [if_pos hi] at h3
    rw [if_pos am_bif, sp_M_refuse (by omega) (by omega)]
    simp only [Option.toList_some, Option.toList_none, List.cons_append, List.nil_append]
    rw [bq_M_comesIn_18]
    exact h3
  | true =>
    have hi2 := v_isP_iff.1 hi
    dsimp only [vP, vQ, vD, vK, vF, vS, vU, vO, vH, vN, vE, vG, vT, am_mv, am_wv] at hi2
    obtain ⟨a, rfl⟩ := Int.eq_ofNat_of_zero_le hi2.1
    rw [if_neg am_b0]
    refine sp_M_layStepsFrom (by omega) hv (fun c hc => ?_)
    have h3 := hq2 (an_arr g 97 7 c) kp (am_keep_arr (fun _ => rfl) am_keep_r)
    unfold a_comesIn at h3
    rw [hi, if_neg (by simp), Int.toNat_natCast] at h3
    have hvc : v_ok (am_mv (an_arr g 97 7 c)) := hv
    have lx : (v_ins (am_mv g) (g 70 6).toNat) < 2 ^ 7 := v_ins_lt hv (by omega)
    have hf : (if an_lst (v_ins (am_mv g) (g 70 6).toNat) c (g 70 0).toNat < 99 then an_lst (v_ins (am_mv g) (g 70 6).toNat) c (g 70 0).toNat else -9) = v_oi (v_far (am_mv g) (-9) a (v_ins (am_mv g) (g 70 6).toNat)) := an_sp_near (by omega) (show a < (g 70 0).toNat by omega) (fun _ _ => v_fm_lt) hc
    have h4 : Q (some (Sum.inl (v_oi (v_far (am_mv g) (-9) a (v_ins (am_mv g) (g 70 6).toNat))))) (am_SH L, (an_arr g 97 7 c), am_RR kp) := h3
    rw [← hf] at h4
    clear h3
    simp only [Option.toList_some, Option.toList_none, List.cons_append, List.nil_append]
    rw [bq_M_comesIn_24 (by omega), sp_M_inBits hvc]
    simp only [Option.toList_some, Option.toList_none, List.cons_append, List.nil_append]
    have ex : ((v_ins (am_mv (an_arr g 97 7 c)) ((an_arr g 97 7 c) 70 6).toNat : Nat) : Int) = (((v_ins (am_mv g) (g 70 6).toNat) : Nat) : Int) := rfl
    rw [bq_M_comesIn_31, ex]
    refine (am_up_eq (n := (g 70 0).toNat) (fun k => am_Wp d 257 35 [some (Sum.inr (Sum.inr 70)), some (Sum.inl ((a : Int))), some (Sum.inl (an_lst (v_ins (am_mv g) (g 70 6).toNat) c k)), some (Sum.inl ((((v_ins (am_mv g) (g 70 6).toNat) : Nat) : Int))), some (Sum.inl ((k : Int)))] [] (am_SH L, (an_arr g 97 7 c), am_RR kp) Q) (Q (some (Sum.inl (if an_lst (v_ins (am_mv g) (g 70 6).toNat) c (g 70 0).toNat < 99 then an_lst (v_ins (am_mv g) (g 70 6).toNat) c (g 70 0).toNat else -9))) (am_SH L, (an_arr g 97 7 c), am_RR kp)) (fun k hk => ?_) ?_).mpr h4
    · show am_Wp d 257 35 [some (Sum.inr (Sum.inr 70)), some (Sum.inl ((a : Int))), some (Sum.inl (an_lst (v_ins (am_mv g) (g 70 6).toNat) c k)), some (Sum.inl ((((v_ins (am_mv g) (g 70 6).toNat) : Nat) : Int))), some (Sum.inl ((k : Int)))] [] (am_SH L, (an_arr g 97 7 c), am_RR kp) Q = am_Wp d 257 35 [some (Sum.inr (Sum.inr 70)), some (Sum.inl ((a : Int))), some (Sum.inl (an_lst (v_ins (am_mv g) (g 70 6).toNat) c (k + 1))), some (Sum.inl ((((v_ins (am_mv g) (g 70 6).toNat) : Nat) : Int))), some (Sum.inl (((k + 1 : Nat) : Int)))] [] (am_SH L, (an_arr g 97 7 c), am_RR kp) Q
      have e70 : (an_arr g 97 7 c) 70 0 = g 70 0 := rfl
      have e97 : (an_arr g 97 7 c) 97 ((k : Int)).toNat = c k := an_arr_i (by omega)
      refine (bq_M_comesIn_35 (by omega)).trans ?_
      rw [e70, if_neg (by omega), sp_M_hasBit (by omega) (by omega) (by omega) (by omega), am_has_tb (by omega) (by omega)]
      simp only [Option.toList_some, Option.toList_none, List.cons_append, List.nil_append]
      rw [bq_M_comesIn_50, an_lst_s]
      cases hx : Nat.testBit (v_ins (am_mv g) (g 70 6).toNat) k with
      | false => rw [if_pos am_bif, bq_M_comesIn_74, bq_M_comesIn_75, am_incn (by omega), if_neg (fun w => by cases w.1)]
      | true =>
        rw [if_neg am_b0, am_gd (by omega) (by omega), e97]
        by_cases q1 : c k < an_lst (v_ins (am_mv g) (g 70 6).toNat) c k
        · rw [if_neg (by omega), am_gd (by omega) (by omega), bq_M_comesIn_75, am_incn (by omega), if_pos ⟨rfl, q1⟩]
        · rw [if_pos (by omega), bq_M_comesIn_74, bq_M_comesIn_75, am_incn (by omega), if_neg (fun w => q1 w.2)]
    · show am_Wp d 257 35 [some (Sum.inr (Sum.inr 70)), some (Sum.inl ((a : Int))), some (Sum.inl (an_lst (v_ins (am_mv g) (g 70 6).toNat) c (g 70 0).toNat)), some (Sum.inl ((((v_ins (am_mv g) (g 70 6).toNat) : Nat) : Int))), some (Sum.inl ((((g 70 0).toNat : Nat) : Int)))] [] (am_SH L, (an_arr g 97 7 c), am_RR kp) Q = _
      have e70 : (an_arr g 97 7 c) 70 0 = g 70 0 := rfl
      refine (bq_M_comesIn_35 (by omega)).trans ?_
      rw [e70, if_pos (by omega)]
      by_cases q1 : an_lst (v_ins (am_mv g) (g 70 6).toNat) c (g 70 0).toNat < 99
      · rw [if_neg (by omega), bq_M_comesIn_94, if_pos q1]
      · rw [if_pos (by omega), bq_M_comesIn_94, if_neg q1]