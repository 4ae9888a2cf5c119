/-! back OF BOTH -/
def am_unk (h : Nat → Nat → Int) (U : am_Vw) (b n : Nat) : Nat → Nat → Int := fun a j => if a = 12 then v_ust U b n j else if a = 5 then v_uki U b n j else h a j
theorem v_ust_n {V : am_Vw} {b n j : Nat} (hj : n ≤ j) : v_ust V b n j = vT V j := if_neg (fun w => absurd w.1 (by omega))
theorem v_ust_s {V : am_Vw} {b n j : Nat} (hj : ¬ j = n) : v_ust V b (n + 1) j = v_ust V b n j := by
  unfold v_ust
  by_cases q : j < n ∧ Nat.testBit b j = true
  · rw [if_pos q, if_pos ⟨by omega, q.2⟩]
  · rw [if_neg q, if_neg (fun w => q ⟨by omega, w.2⟩)]
theorem am_unk_0 {h : Nat → Nat → Int} {b : Nat} : am_unk h (am_wv h 2) b 0 = h := by
  funext a j
  unfold am_unk
  by_cases q : a = 12
  · rw [if_pos q, v_ust_n (by omega), q]
  · rw [if_neg q]
    by_cases q2 : a = 5
    · rw [if_pos q2, q2]; rfl
    · rw [if_neg q2]
theorem am_unk_n {h : Nat → Nat → Int} {U : am_Vw} {b n : Nat} (hb : Nat.testBit b n = false) : am_unk h U b (n + 1) = am_unk h U b n := by
  funext a j
  unfold am_unk
  have e1 : v_ust U b (n + 1) j = v_ust U b n j := by
    by_cases q : j = n
    · subst q
      unfold v_ust
      rw [if_neg (fun w => by rw [hb] at w; exact absurd w.2 (by decide)), if_neg (fun w => absurd w.1 (by omega))]
    · exact v_ust_s q
  have e2 : v_uki U b (n + 1) j = v_uki U b n j := by
    rw [v_uki_s]
    exact if_neg (fun w => by rw [hb] at w; exact absurd w.1 (by decide))
  rw [e1, e2]
theorem am_unk_l {h : Nat → Nat → Int} {U : am_Vw} {b n : Nat} (hb : Nat.testBit b n = true) (hT : ¬ vT U n = 1) : am_up (am_unk h U b n) 12 n 0 = am_unk h U b (n + 1) := by
  funext a j
  unfold am_up am_unk
  have e2 : v_uki U b (n + 1) j = v_uki U b n j := by
    rw [v_uki_s]
    exact if_neg (fun w => hT w.2.1)
  rw [e2]
  by_cases q : a = 12
  · simp only [if_pos q]
    by_cases q2 : j = n
    · subst q2
      rw [if_pos rfl]
      unfold v_ust
      rw [if_pos ⟨by omega, hb⟩]
    · rw [if_neg q2, v_ust_s q2]
  · simp only [if_neg q]
theorem am_unk_p {h : Nat → Nat → Int} {U : am_Vw} {b n c : Nat} (hb : Nat.testBit b n = true) (hT : vT U n = 1) (hc : vH U n = (c : Int)) : am_up (am_up (am_unk h U b n) 5 c (am_add (v_uki U b n c) (-(vN U n)))) 12 n 0 = am_unk h U b (n + 1) := by
  funext a j
  unfold am_up am_unk
  by_cases q : a = 12
  · simp only [if_pos q]
    by_cases q2 : j = n
    · subst q2
      rw [if_pos rfl]
      unfold v_ust
      rw [if_pos ⟨by omega, hb⟩]
    · rw [if_neg q2, v_ust_s q2, if_neg (fun w => by omega)]
  · simp only [if_neg q]
    by_cases q3 : a = 5
    · simp only [if_pos q3]
      by_cases q2 : j = c
      · rw [if_pos q2, v_uki_s, if_pos ⟨hb, hT, by omega⟩, q2]
      · rw [if_neg q2, v_uki_s]
        exact (if_neg (fun w => q2 (by have := w.2.2; omega))).symm
    · simp only [if_neg q3]
theorem sp_World_takeDayBack_2 {d L kp : Nat} {h : Nat → Nat → Int} {Q : Option am_V → am_H → Prop} {b : Nat} (hd : 2 ≤ d) (hv : v_ok (am_wv h 2)) (hb : b < 65536) : am_Wp d 68 0 [some (Sum.inr (Sum.inr 2)), some (Sum.inl (b : Int)), none] [] (am_SH L, h, am_RR kp) Q = Q none (am_SH L, am_up (am_unk h (am_wv h 2) b (h 2 1).toNat) 2 2 (am_max 0 (am_sub (h 2 2) 1)), am_RR kp) := by
  have hQ := wv_Q hv
  have hP := wv_P hv
  rw [bq_World_takeDayBack_0]
  have key := am_up_fr (a := 0) (n := (h 2 1).toNat) (fun k => am_Wp d 68 2 [some (Sum.inr (Sum.inr 2)), some (Sum.inl ((b : Int))), some (Sum.inl ((k : Int)))] [] (am_SH L, am_unk h (am_wv h 2) b k, am_RR kp) Q) (Q none (am_SH L, am_up (am_unk h (am_wv h 2) b (h 2 1).toNat) 2 2 (am_max 0 (am_sub (h 2 2) 1)), am_RR kp)) (by omega) (fun k h1 h2 => ?_) ?_
  · have key2 : am_Wp d 68 2 [some (Sum.inr (Sum.inr 2)), some (Sum.inl ((b : Int))), some (Sum.inl (0))] [] (am_SH L, am_unk h (am_wv h 2) b 0, am_RR kp) Q = _ := key
    rw [am_unk_0] at key2
    exact key2
  · show am_Wp d 68 2 [some (Sum.inr (Sum.inr 2)), some (Sum.inl ((b : Int))), some (Sum.inl ((k : Int)))] [] (am_SH L, am_unk h (am_wv h 2) b k, am_RR kp) Q = am_Wp d 68 2 [some (Sum.inr (Sum.inr 2)), some (Sum.inl ((b : Int))), some (Sum.inl (((k + 1 : Nat) : Int)))] [] (am_SH L, am_unk h (am_wv h 2) b (k + 1), am_RR kp) Q
    have hp1 := wv_p hv k (by omega)
    obtain ⟨c, hc⟩ := Int.eq_ofNat_of_zero_le hp1.2.1.1
    have e21 : am_unk h (am_wv h 2) b k 2 1 = h 2 1 := rfl
    have e12 : am_unk h (am_wv h 2) b k 12 k = h 12 k := v_ust_n (Nat.le_refl k)
    have e8 : am_unk h (am_wv h 2) b k 8 = h 8 := rfl
    have e9 : am_unk h (am_wv h 2) b k 9 = h 9 := rfl
    have e5 : am_unk h (am_wv h 2) b k 5 c = v_uki (am_wv h 2) b k c := rfl
    refine (bq_World_takeDayBack_2 (by omega)).trans ?_
    rw [e21, if_neg (by omega), sp_has, am_has_tb (by omega) (by omega)]
    simp only [Option.toList_some, Option.toList_none, List.cons_append, List.nil_append]
    rw [bq_World_takeDayBack_15 (by omega)]
    cases hb2 : Nat.testBit b k
    · rw [if_pos am_bif, bq_World_takeDayBack_66, am_incn (by omega), am_unk_n hb2]
    · rw [if_neg am_b0, sp_at_12, am_lk_nat (by omega), e12]
      simp only [Option.toList_some, Option.toList_none, List.cons_append, List.nil_append]
      rw [bq_World_takeDayBack_29 (by omega)]
      by_cases q : h 12 k = 1
      · rw [if_pos q, sp_at_8, am_lk_nat (by omega), e8, hc]
        simp only [Option.toList_some, Option.toList_none, List.cons_append, List.nil_append]
        rw [bq_World_takeDayBack_45 (by omega), sp_at_9, am_lk_nat (by omega), e9]
        simp only [Option.toList_some, Option.toList_none, List.cons_append, List.nil_append]
        rw [bq_World_takeDayBack_53 (by omega), sp_increase_5 (by omega), am_lk_nat (by omega), e5, am_put_nat (by omega), am_neg_ok (by omega) (by omega)]
        simp only [Option.toList_some, Option.toList_none, List.cons_append, List.nil_append]
        rw [bq_World_takeDayBack_57 (by omega), sp_put_12, am_put_nat (by omega)]
        simp only [Option.toList_some, Option.toList_none, List.cons_append, List.nil_append]
        rw [bq_World_takeDayBack_66, am_incn (by omega)]
        have s1 := am_unk_p (h := h) (U := (am_wv h 2)) (b := b) (n := k) (c := c) hb2 q hc
        rw [← s1]
      · rw [if_neg q, bq_World_takeDayBack_57 (by omega), sp_put_12, am_put_nat (by omega)]
        simp only [Option.toList_some, Option.toList_none, List.cons_append, List.nil_append]
        rw [bq_World_takeDayBack_66, am_incn (by omega), am_unk_l hb2 q]
  · show am_Wp d 68 2 [some (Sum.inr (Sum.inr 2)), some (Sum.inl ((b : Int))), some (Sum.inl ((((h 2 1).toNat : Nat) : Int)))] [] (am_SH L, am_unk h (am_wv h 2) b (h 2 1).toNat, am_RR kp) Q = _
    have e21 : am_unk h (am_wv h 2) b (h 2 1).toNat 2 1 = h 2 1 := rfl
    have e22 : am_unk h (am_wv h 2) b (h 2 1).toNat 2 2 = h 2 2 := rfl
    refine (bq_World_takeDayBack_2 (by omega)).trans ?_
    rw [e21, e22, if_pos (by omega)]
theorem sp_World_takeOverBack_2 {d L kp : Nat} {h : Nat → Nat → Int} {Q : Option am_V → am_H → Prop} {k : Nat} {c : Int} (hd : 1 ≤ d) (hk : k < 16) : am_Wp d 69 0 [some (Sum.inr (Sum.inr 2)), some (Sum.inl (k : Int)), some (Sum.inl c)] [] (am_SH L, h, am_RR kp) Q = Q none (am_SH L, am_up (am_up h 8 k c) 12 k 0, am_RR kp) := by
  rw [bq_World_takeOverBack_0 (by omega), sp_put_8, am_put_nat hk]
  simp only [Option.toList_some, Option.toList_none, List.cons_append, List.nil_append]
  rw [bq_World_takeOverBack_9 (by omega), sp_put_12, am_put_nat hk]
  simp only [Option.toList_some, Option.toList_none, List.cons_append, List.nil_append]
  rw [bq_World_takeOverBack_18]
def c_hbk (h : Nat → Nat → Int) (pl n : Nat) : Nat → Nat → Int := if h 25 pl = -1 then am_up (am_unk (am_up h 24 3 (n : Int)) (am_wv h 2) (h 26 pl).toNat (h 2 1).toNat) 2 2 (am_max 0 (am_sub (h 2 2) 1)) else am_up (am_up (am_up h 24 3 (n : Int)) 8 (h 25 pl).toNat (h 26 pl)) 12 (h 25 pl).toNat 0
def c_hback (h : Nat → Nat → Int) : Nat → Nat → Int := c_hbk h (((h 24 2).toNat + ((h 24 3).toNat - 1)) % 8) ((h 24 3).toNat - 1)
theorem c_S_hbk {h : Nat → Nat → Int} {pl n : Nat} {U : am_Vw} (hu : v_un (h 25 pl) (h 26 pl) (am_wv h 2) U) : c_S (c_hbk h pl n) = (U, (am_wv h 13, am_wv h 29), h 1 2, h 25, h 26, h 24 2, (n : Int), h 28, h 27 1, h 40, h 1 6, h 41) := by
  unfold c_hbk
  rcases hu with ⟨h1, b, h2, h3, h4⟩ | ⟨k, c, h1, h2, h3, h4, h5⟩
  · rw [if_pos h1, ← h4, h2, Int.toNat_natCast]; rfl
  · rw [if_neg (by omega), ← h5, h1, h2, Int.toNat_natCast]; rfl
theorem c_hbk_0 {h : Nat → Nat → Int} {pl n : Nat} : m_S (c_hbk h pl n) = m_S h ∧ c_hbk h pl n 0 = h 0 := by
  unfold c_hbk
  by_cases q : h 25 pl = -1
  · rw [if_pos q]; exact ⟨rfl, rfl⟩
  · rw [if_neg q]; exact ⟨rfl, rfl⟩
def a_back (n : Int) (t : Nat → Int) : am_V × Nat := if n = 0 then (Sum.inl (-3), 3) else (Sum.inl (t (127 * (n.toNat - 1) + 1)), 0)
theorem c_back {d L kp : Nat} {h : Nat → Nat → Int} (hd : 30 ≤ d) (hv : v_ok (am_wv h 2)) (hp : i_P (am_wv h 2) (h 25) (h 26) (h 24 2) (h 24 3) (h 88) (h 70 31)) : am_Ch L (a_back (h 24 3) (h 88)).1 (am_hif 41 (a_back (h 24 3) (h 88)).2 c_hback h) (fun Q => am_Wp d 66 0 [some (Sum.inr (Sum.inr 1))] [] (am_SH L, h, am_RR kp) Q) := by
  intro Q hq
  show am_Wp d 66 0 [some (Sum.inr (Sum.inr 1))] [] (am_SH L, h, am_RR kp) Q
  obtain ⟨o, n, ho, hn, h31, h8, hn8, hi⟩ := hp
  unfold a_back at hq
  rw [bq_KO_back_0 (by omega), bq_Past_takeBack_0 (by omega)]
  by_cases q : h 24 3 = 0
  · rw [if_pos q] at hq
    rw [if_neg (by omega)]
    simp only [Option.toList_some, Option.toList_none, List.cons_append, List.nil_append]
    rw [bq_KO_back_11 (by omega), if_pos rfl, sp_KO_refuse (by omega) (by omega) (by omega)]
    simp only [Option.toList_some, Option.toList_none, List.cons_append, List.nil_append]
    rw [bq_KO_back_20]
    exact hq _ kp am_keep_r
  · rw [if_neg q, am_hif_0] at hq
    obtain ⟨m, rfl⟩ : ∃ m, n = m + 1 := ⟨n - 1, by omega⟩
    have hu := hi m (by omega)
    have etw : v_twn (am_wv h 2) (h 88) (m + 1) (m + 1) = (am_wv h 2) := if_neg (by omega)
    rw [etw] at hu
    have e0 : am_sub (h 24 3) 1 = (m : Int) := by rw [hn, am_sub_ok (by omega) (by omega)]; omega
    have e3 : am_rem (am_add (am_up h 24 3 (m : Int) 24 2) (am_up h 24 3 (m : Int) 24 3)) 8 = (((o + m) % 8 : Nat) : Int) := by
      rw [show am_up h 24 3 (m : Int) 24 2 = (o : Int) from ho, show am_up h 24 3 (m : Int) 24 3 = (m : Int) from rfl, am_add_ok (by omega) (by omega), am_rem_ok (by omega) (by omega) (by omega) (by omega)]; omega
    have e4 : (o + m) % 8 < 8 := Nat.mod_lt _ (by omega)
    have eh : c_hback h = c_hbk h ((o + m) % 8) m := by
      unfold c_hback
      rw [ho, hn, Int.toNat_natCast, Int.toNat_natCast, show m + 1 - 1 = m by omega]
    rw [hn, Int.toNat_natCast, show m + 1 - 1 = m by omega, eh] at hq
    have er : h 88 (127 * m + 1) = c_hbk h ((o + m) % 8) m 2 2 := by
      have := congrArg (fun c : am_CS => vD c.1) (c_S_hbk (n := m) hu.2)
      exact this.symm
    rw [er] at hq
    rw [if_pos (by omega), e0, e3, sp_at_25, am_lk_nat e4, show am_up h 24 3 (m : Int) 25 = h 25 from rfl]
    simp only [Option.toList_some, Option.toList_none, List.cons_append, List.nil_append]
    rw [bq_Past_takeBack_44 (by omega)]
    rcases hu.2 with ⟨h1, b, h2, h3, h4⟩ | ⟨k, c, h1, h2, h3, h4, h5⟩
    · rw [if_pos h1, sp_at_26, am_lk_nat e4, show am_up h 24 3 (m : Int) 26 = h 26 from rfl, h2]
      simp only [Option.toList_some, Option.toList_none, List.cons_append, List.nil_append]
      rw [bq_Past_takeBack_57 (by omega), sp_World_takeDayBack_2 (h := am_up h 24 3 (m : Int)) (by omega) hv h3]
      simp only [Option.toList_some, Option.toList_none, List.cons_append, List.nil_append]
      rw [bq_Past_takeBack_60, bq_Past_takeBack_83]
      simp only [Option.toList_some, Option.toList_none, List.cons_append, List.nil_append]
      rw [bq_KO_back_11 (by omega), if_neg (by omega), sp_World_day_2]
      simp only [Option.toList_some, Option.toList_none, List.cons_append, List.nil_append]
      rw [bq_KO_back_28]
      have e5 : c_hbk h ((o + m) % 8) m = am_up (am_unk (am_up h 24 3 (m : Int)) (am_wv h 2) b (h 2 1).toNat) 2 2 (am_max 0 (am_sub (h 2 2) 1)) := by
        unfold c_hbk
        rw [if_pos h1, h2, Int.toNat_natCast]
      rw [e5] at hq
      exact hq _ kp am_keep_r
    · rw [if_neg (by omega), sp_at_25, am_lk_nat e4, show am_up h 24 3 (m : Int) 25 = h 25 from rfl, h1]
      simp only [Option.toList_some, Option.toList_none, List.cons_append, List.nil_append]
      rw [bq_Past_takeBack_72 (by omega), sp_at_26, am_lk_nat e4, show am_up h 24 3 (m : Int) 26 = h 26 from rfl]
      simp only [Option.toList_some, Option.toList_none, List.cons_append, List.nil_append]
      rw [bq_Past_takeBack_80 (by omega), sp_World_takeOverBack_2 (by omega) h3]
      simp only [Option.toList_some, Option.toList_none, List.cons_append, List.nil_append]
      rw [bq_Past_takeBack_83]
      simp only [Option.toList_some, Option.toList_none, List.cons_append, List.nil_append]
      rw [bq_KO_back_11 (by omega), if_neg (by omega), sp_World_day_2]
      simp only [Option.toList_some, Option.toList_none, List.cons_append, List.nil_append]
      rw [bq_KO_back_28]
      have e5 : c_hbk h ((o + m) % 8) m = am_up (am_up (am_up h 24 3 (m : Int)) 8 k (h 26 ((o + m) % 8))) 12 k 0 := by
        unfold c_hbk
        rw [if_neg (by omega), h1, Int.toNat_natCast]
      rw [e5] at hq
      exact hq _ kp am_keep_r
def m_cp9 (h : Nat → Nat → Int) (s k : Nat) : Nat → Nat → Int := fun b j => if b = 89 ∧ j < k then h 88 (s + j) else h b j
theorem m_cp9_s {h : Nat → Nat → Int} {s k : Nat} : am_up (m_cp9 h s k) 89 k (m_cp9 h s k 88 (s + k)) = m_cp9 h s (k + 1) := by
  funext b j
  unfold am_up m_cp9
  rw [if_neg (show ¬ ((88 : Nat) = 89 ∧ s + k < k) by omega)]
  by_cases q : b = 89
  · subst q
    rw [if_pos rfl]
    by_cases q2 : j = k
    · rw [if_pos q2, if_pos ⟨rfl, by omega⟩, q2]
    · rw [if_neg q2]
      by_cases q3 : j < k
      · rw [if_pos ⟨rfl, q3⟩, if_pos ⟨rfl, by omega⟩]
      · rw [if_neg (by omega), if_neg (by omega)]
  · rw [if_neg q, if_neg (fun w => q w.1), if_neg (fun w => q w.1)]
def m_hback (h : Nat → Nat → Int) : Nat → Nat → Int := am_puk (m_cp9 (am_up h 70 31 (((h 70 31).toNat - 1 : Nat) : Int)) (127 * ((h 70 31).toNat - 1)) 127) 89 127
theorem m_S_hback {h : Nat → Nat → Int} (hz : v_z (am_mv h)) : m_S (m_hback h) = (v_of (h 88) (127 * ((h 70 31).toNat - 1)), h 70 25, h 87, h 88, (((h 70 31).toNat - 1 : Nat) : Int), h 82, h 70 16, h 98, h 70 46, h 81) := by
  have e : am_mv (m_hback h) = v_of (h 88) (127 * ((h 70 31).toNat - 1)) := by
    refine (v_puk (h := m_cp9 (am_up h 70 31 (((h 70 31).toNat - 1 : Nat) : Int)) (127 * ((h 70 31).toNat - 1)) 127) (a := 89) hz).trans (v_of_c (fun k hk => ?_))
    show (if _ then _ else _) = _
    rw [if_pos ⟨rfl, by omega⟩]
    exact congrArg (h 88) (by omega)
  show (am_mv (m_hback h), _) = _
  rw [e]
  rfl
theorem m_S_hback0 {h : Nat → Nat → Int} : c_S (m_hback h) = c_S h ∧ m_hback h 0 = h 0 := ⟨rfl, rfl⟩
theorem m_back {d L kp : Nat} {h : Nat → Nat → Int} {n : Nat} (hd : 30 ≤ d) (hn : h 70 31 = (n : Int)) (hn8 : n ≤ 8) : am_Ch L (a_back (h 70 31) (h 88)).1 (am_hif 81 (a_back (h 70 31) (h 88)).2 m_hback h) (fun Q => am_Wp d 223 0 [some (Sum.inr (Sum.inr 70)), none] [] (am_SH L, h, am_RR kp) Q) := by
  intro Q hq
  show am_Wp d 223 0 [some (Sum.inr (Sum.inr 70)), none] [] (am_SH L, h, am_RR kp) Q
  have h81 : ∀ j, am_rel 81 j = true := fun _ => rfl
  have e31 : am_up h 70 13 0 70 31 = h 70 31 := rfl
  unfold a_back at hq
  rw [bq_M_back_0 (by omega), e31]
  by_cases q : h 70 31 = 0
  · rw [if_pos q] at hq
    rw [if_pos q, sp_M_refuse (by omega) (by omega)]
    simp only [Option.toList_some, Option.toList_none, List.cons_append, List.nil_append]
    rw [bq_M_back_18]
    exact hq _ kp (am_keep_bb h81 am_keep_70)
  · rw [if_neg q, am_hif_0] at hq
    obtain ⟨m, rfl⟩ : ∃ m, n = m + 1 := ⟨n - 1, by omega⟩
    rw [hn, Int.toNat_natCast, show m + 1 - 1 = m by omega] at hq
    rw [if_neg q, hn, show am_sub (((m + 1 : Nat)) : Int) 1 = (m : Int) by rw [am_sub_ok (by omega) (by omega)]; omega]
    have key := am_up_fr (a := 0) (n := 127) (fun k => am_Wp d 223 31 [some (Sum.inr (Sum.inr 70)), some (Sum.inl ((k : Int)))] [] (am_SH L, m_cp9 (am_up (am_up h 70 13 0) 70 31 (m : Int)) (127 * m) k, am_RR kp) Q) True (by omega) (fun k h1 h2 => ?_) ?_
    · have key2 : am_Wp d 223 31 [some (Sum.inr (Sum.inr 70)), some (Sum.inl (0))] [] (am_SH L, m_cp9 (am_up (am_up h 70 13 0) 70 31 (m : Int)) (127 * m) 0, am_RR kp) Q = True := key
      have h0 : m_cp9 (am_up (am_up h 70 13 0) 70 31 (m : Int)) (127 * m) 0 = am_up (am_up h 70 13 0) 70 31 (m : Int) := by
        funext b j
        unfold m_cp9
        exact if_neg (by omega)
      rw [h0] at key2
      rw [key2]
      trivial
    · show am_Wp d 223 31 [some (Sum.inr (Sum.inr 70)), some (Sum.inl ((k : Int)))] [] (am_SH L, m_cp9 (am_up (am_up h 70 13 0) 70 31 (m : Int)) (127 * m) k, am_RR kp) Q = am_Wp d 223 31 [some (Sum.inr (Sum.inr 70)), some (Sum.inl (((k + 1 : Nat) : Int)))] [] (am_SH L, m_cp9 (am_up (am_up h 70 13 0) 70 31 (m : Int)) (127 * m) (k + 1), am_RR kp) Q
      have e : am_add (am_mul 127 (m : Int)) (k : Int) = ((127 * m + k : Nat) : Int) := by
        rw [am_mul_ok (by omega) (by omega), am_add_ok (by omega) (by omega)]; omega
      refine (bq_M_back_31 (by omega)).trans ?_
      rw [if_neg (by omega), show m_cp9 (am_up (am_up h 70 13 0) 70 31 (m : Int)) (127 * m) k 70 31 = (m : Int) from rfl, e, am_gd (by omega) (by omega), am_gd (by omega) (by omega), Int.toNat_natCast, Int.toNat_natCast, m_cp9_s, am_incn (by omega)]
    · refine eq_true ?_
      show am_Wp d 223 31 [some (Sum.inr (Sum.inr 70)), some (Sum.inl (((127 : Nat) : Int)))] [] (am_SH L, m_cp9 (am_up (am_up h 70 13 0) 70 31 (m : Int)) (127 * m) 127, am_RR kp) Q
      rw [bq_M_back_31 (by omega), if_pos (by omega), sp_M_carryAll_p89 (by omega)]
      simp only [Option.toList_some, Option.toList_none, List.cons_append, List.nil_append]
      rw [bq_M_back_72]
      have er : am_puk (m_cp9 (am_up (am_up h 70 13 0) 70 31 (m : Int)) (127 * m) 127) 89 127 70 5 = h 88 (127 * m + 1) := rfl
      rw [er]
      refine hq _ _ ?_
      unfold m_hback
      rw [hn, Int.toNat_natCast, show m + 1 - 1 = m by omega]
      intro b j hr
      unfold am_puk
      by_cases hi : am_ix b j < 127
      · rw [if_pos hi, if_pos hi]
        show (if _ then _ else _) = (if _ then _ else _)
        rw [if_pos ⟨rfl, hi⟩, if_pos ⟨rfl, hi⟩]; rfl
      · rw [if_neg hi, if_neg hi]
        by_cases hb : b = 70
        · rw [if_pos hb, if_pos hb]
          subst hb
          by_cases h13 : j = 13
          · subst h13; cases hr
          · show (if j = 26 then _ else if j = 27 then _ else (if j = 31 then _ else if j = 13 then 0 else h 70 j)) = (if j = 26 then _ else if j = 27 then _ else (if j = 31 then _ else h 70 j))
            rw [if_neg h13]
        · rw [if_neg hb, if_neg hb]
          unfold m_cp9
          by_cases q9 : b = 89
          · subst q9; cases hr
          · rw [if_neg (fun w => q9 w.1), if_neg (fun w => q9 w.1), am_upo hb, am_upo hb, am_upo hb]
theorem p_back {d : Nat} (hd : 30 ≤ d) : am_PR am_isI (fun h L kp Q => am_Wp d 66 0 [some (Sum.inr (Sum.inr 1))] [] (am_SH L, h, am_RR kp) Q) (fun h L kp Q => am_Wp d 223 0 [some (Sum.inr (Sum.inr 70)), none] [] (am_SH L, h, am_RR kp) Q) := by
  refine am_PR_A (fun h => a_back (h 24 3) (h 88)) (fun h => a_back (h 70 31) (h 88)) c_hback m_hback (fun h => by show am_isI (a_back _ _).1; unfold a_back; (repeat' split) <;> exact ⟨_, rfl⟩) (fun h L kp hi => ?_) (fun h g L kp hi eg => ?_) (fun h g hi eg => ?_) (fun h hi => c_hbk_0) (fun h g hi eg q => ⟨?_, m_S_hback0.1, m_S_hback0.2⟩) (fun h hi q => ?_)
  · obtain ⟨b1, b2, b3, b4⟩ := am_INV_u.1 hi
    exact c_back hd b1.1 b3
  · obtain ⟨b1, b2, ⟨o, n, p1, p2, p3, p4, p5, p6⟩, b4⟩ := am_INV_u.1 hi
    exact m_back hd (by rw [(m_S_c eg).2.2.2.2.1]; exact p3) p5
  · obtain ⟨b1, b2, ⟨o, n, p1, p2, p3, p4, p5, p6⟩, b4⟩ := am_INV_u.1 hi
    show a_back (g 70 31) (g 88) = a_back (h 24 3) (h 88)
    rw [(m_S_c eg).2.2.2.2.1, (m_S_c eg).2.2.2.1, p2, p3]
  · have hz2 := (am_INV_g hi eg).2.1
    obtain ⟨k0, k1, k2, k3, k4, k5, k6, k7, k8, k9⟩ := m_S_c eg
    rw [m_S_hback hz2, m_S_hback (am_INV_g hi rfl).2.1, k1, k2, k3, k4, k5, k6, k7, k8, k9]
  · obtain ⟨⟨b1, b2, b3⟩, b4, ⟨o, n, ho, hn, h31, h8, hn8, hp⟩, b6, b7⟩ := am_INV_u.1 hi
    have q2 : ¬ h 24 3 = 0 := fun w => by
      revert q
      show (a_back (h 24 3) (h 88)).2 = 0 → _
      unfold a_back
      rw [if_pos w]
      intro q; exact absurd q (by show ¬ (3 : Nat) = 0; omega)
    obtain ⟨m, rfl⟩ : ∃ m, n = m + 1 := ⟨n - 1, by omega⟩
    have hu := hp m (by omega)
    have etw : v_twn (am_wv h 2) (h 88) (m + 1) (m + 1) = (am_wv h 2) := if_neg (by omega)
    rw [etw] at hu
    unfold c_hback
    rw [m_S_hback (am_INV_g hi rfl).2.1, h31, ho, hn, Int.toNat_natCast, Int.toNat_natCast, show m + 1 - 1 = m by omega, c_S_hbk hu.2, ho]
    refine ⟨⟨hu.1, v_z_of, rfl⟩, b4, ⟨o, m, rfl, rfl, rfl, h8, by omega, fun i hi2 => ?_⟩, b6, b7.1, b7.2.1, b7.2.2.2.2 m (by omega), b7.2.2.2.1, fun i hi2 => b7.2.2.2.2 i (by omega)⟩
    have h3 := hp i (by omega)
    refine ⟨h3.1, ?_⟩
    have e : v_twn (v_of (h 88) (127 * m)) (h 88) m (i + 1) = v_twn (am_wv h 2) (h 88) (m + 1) (i + 1) := by
      unfold v_twn
      rw [if_pos (show i + 1 < m + 1 by omega)]
      by_cases q5 : i + 1 < m
      · rw [if_pos q5]
      · rw [if_neg q5, show i + 1 = m by omega]
    rw [e]
    exact h3.2