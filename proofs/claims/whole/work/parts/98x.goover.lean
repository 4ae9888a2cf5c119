/-! go, over OF BOTH -/
theorem sp_World_passDay_2 {d L kp : Nat} {h : Nat → Nat → Int} {Q : Option am_V → am_H → Prop} (hd : 4 ≤ d) (hv : v_ok (am_wv h 2)) (h99 : h 2 2 < 99) : am_Wp d 38 0 [some (Sum.inr (Sum.inr 2)), some (Sum.inl 1), none, none, none, none] [] (am_SH L, h, am_RR kp) Q = Q (some (Sum.inl 1)) (am_SH L, am_up (am_falk 5 12 h (am_wv h 2) (h 2 1).toNat) 2 2 (h 2 2 + 1), am_RR kp) := by
  have hD := wv_D hv
  rw [bq_World_passDays_0, if_neg (by omega), am_sub_ok (by omega) (by omega), if_pos (by omega), bq_World_passDays_19 (by omega), if_neg (by omega), sp_World_dueToday_2 (by omega) hv]
  simp only [Option.toList_some, Option.toList_none, List.cons_append, List.nil_append]
  rw [bq_World_passDays_28]
  have h0 := lp_World_passDays_2 (x := 1) (y := 0) (Q := Q) (L := L) (kp := kp) (E := Q (some (Sum.inl 1)) (am_SH L, am_up (am_falk 5 12 h (am_wv h 2) (h 2 1).toNat) 2 2 (h 2 2 + 1), am_RR kp)) (d := d) none (by omega) hv (fun j => by
    rw [bq_World_passDays_19 (by omega), am_add_ok (by omega) (by omega), if_pos (by omega), am_add_ok (by omega) (by omega)])
  rw [am_falk_0 (V := (am_wv h 2)) rfl rfl] at h0
  exact h0
theorem sp_World_passDay0_2 {d L kp : Nat} {h : Nat → Nat → Int} {Q : Option am_V → am_H → Prop} (h99 : h 2 2 = 99) : am_Wp d 38 0 [some (Sum.inr (Sum.inr 2)), some (Sum.inl 1), none, none, none, none] [] (am_SH L, h, am_RR kp) Q = Q (some (Sum.inl 0)) (am_SH L, h, am_RR kp) := by
  rw [bq_World_passDays_0, if_neg (by omega), h99, am_sub_ok (by omega) (by omega), if_neg (by omega), bq_World_passDays_15]
def a_go (x : Int) : am_V × Nat := if x = 99 then (Sum.inl (-6), 6) else (Sum.inl (x + 1), 0)
def c_hgo (h : Nat → Nat → Int) : Nat → Nat → Int := c_kp (-1) ((v_dueb (am_wv h 2) (h 2 1).toNat : Nat) : Int) (am_up (am_falk 5 12 h (am_wv h 2) (h 2 1).toNat) 2 2 (h 2 2 + 1))
def m_hgo (h : Nat → Nat → Int) : Nat → Nat → Int := am_up (am_falk 73 80 (m_kt h) (am_mv h) (h 70 6).toNat) 70 5 (h 70 5 + 1)
theorem c_S_hgo {h : Nat → Nat → Int} : c_S (c_hgo h) = (v_day1 (am_wv h 2), (am_wv h 13, am_wv h 29), h 1 2, am_sx (h 25) ((t_o1 (h 24 2).toNat (h 24 3).toNat + t_n1 (h 24 3).toNat) % 8) (-1), am_sx (h 26) ((t_o1 (h 24 2).toNat (h 24 3).toNat + t_n1 (h 24 3).toNat) % 8) ((v_dueb (am_wv h 2) (h 2 1).toNat : Nat) : Int), (t_o1 (h 24 2).toNat (h 24 3).toNat : Int), ((t_n1 (h 24 3).toNat + 1 : Nat) : Int), h 28, h 27 1, h 40, h 1 6, h 41) := rfl
theorem m_S_hgo {h : Nat → Nat → Int} : m_S (m_hgo h) = (v_day1 (am_mv h), h 70 25, h 87, t_keep (h 88) (h 70 31).toNat (am_car h), ((t_n1 (h 70 31).toNat + 1 : Nat) : Int), h 82, h 70 16, h 98, h 70 46, h 81) := rfl
theorem m_S_hgo0 {h : Nat → Nat → Int} : m_S (c_hgo h) = m_S h ∧ c_hgo h 0 = h 0 := ⟨rfl, rfl⟩
theorem c_S_hgo0 {h : Nat → Nat → Int} : c_S (m_hgo h) = c_S h ∧ m_hgo h 0 = h 0 := ⟨rfl, rfl⟩
theorem am_keep_kt {h : Nat → Nat → Int} : am_keep (m_kt h) (m_kt (am_up h 70 13 0)) := fun b j hr => by
  unfold m_kt
  by_cases q : b = 88
  · rw [if_pos q, if_pos q]
    have e : am_car (am_up h 70 13 0) = am_car h := funext fun n => am_car_c (g := am_up h 70 13 0) (h := h) rfl
    rw [e]; rfl
  · rw [if_neg q, if_neg q]
    by_cases q2 : b = 70 ∧ j = 31
    · rw [if_pos q2, if_pos q2]; rfl
    · rw [if_neg q2, if_neg q2]
      by_cases q3 : b = 70
      · subst q3
        show (if j = 13 then (0 : Int) else h 70 j) = h 70 j
        exact if_neg (fun w => by subst w; cases hr)
      · exact am_upo q3
theorem am_keep_falk {f g : Nat → Nat → Int} {bs bt n : Nat} {U : am_Vw} (hk : am_keep f g) : am_keep (am_falk bs bt f U n) (am_falk bs bt g U n) := fun b j hr => by
  unfold am_falk
  by_cases q : b = bt
  · rw [if_pos q, if_pos q]
  · rw [if_neg q, if_neg q]
    by_cases q2 : b = bs
    · rw [if_pos q2, if_pos q2]
    · rw [if_neg q2, if_neg q2]; exact hk b j hr
theorem c_go {d L kp : Nat} {h : Nat → Nat → Int} {o n : Nat} (hd : 30 ≤ d) (hv : v_ok (am_wv h 2)) (ho : h 24 2 = (o : Int)) (hn : h 24 3 = (n : Int)) (h8 : o < 8) (hn8 : n ≤ 8) : am_Ch L (a_go (h 2 2)).1 (am_hif 41 (a_go (h 2 2)).2 c_hgo h) (fun Q => am_Wp d 64 0 [some (Sum.inr (Sum.inr 1)), none] [] (am_SH L, h, am_RR kp) Q) := by
  intro Q hq
  show am_Wp d 64 0 [some (Sum.inr (Sum.inr 1)), none] [] (am_SH L, h, am_RR kp) Q
  have hD := wv_D hv
  unfold a_go at hq
  rw [bq_KO_go_0 (by omega), sp_World_dueToday_2 (by omega) hv]
  simp only [Option.toList_some, Option.toList_none, List.cons_append, List.nil_append]
  rw [bq_KO_go_7 (by omega)]
  by_cases q : h 2 2 = 99
  · rw [if_pos q] at hq
    rw [sp_World_passDay0_2 q]
    simp only [Option.toList_some, Option.toList_none, List.cons_append, List.nil_append]
    rw [bq_KO_go_16 (by omega), if_pos rfl, sp_KO_refuse (by omega) (by omega) (by omega)]
    simp only [Option.toList_some, Option.toList_none, List.cons_append, List.nil_append]
    rw [bq_KO_go_25]
    exact hq _ kp am_keep_r
  · rw [if_neg q, am_hif_0] at hq
    rw [sp_World_passDay_2 (by omega) hv (by omega)]
    simp only [Option.toList_some, Option.toList_none, List.cons_append, List.nil_append]
    rw [bq_KO_go_16 (by omega), if_neg (by omega), sp_Past_keep (h := am_up (am_falk 5 12 h (am_wv h 2) (h 2 1).toNat) 2 2 (h 2 2 + 1)) (o := o) (n := n) (by omega) ho hn h8 hn8]
    simp only [Option.toList_some, Option.toList_none, List.cons_append, List.nil_append]
    rw [bq_KO_go_35 (by omega), sp_World_day_2]
    simp only [Option.toList_some, Option.toList_none, List.cons_append, List.nil_append]
    rw [bq_KO_go_42]
    exact hq _ kp am_keep_r
theorem m_go {d L kp : Nat} {h : Nat → Nat → Int} {n : Nat} (hd : 30 ≤ d) (hv : v_ok (am_mv h)) (hn : h 70 31 = (n : Int)) (hn8 : n ≤ 8) : am_Ch L (a_go (h 70 5)).1 (am_hif 81 (a_go (h 70 5)).2 m_hgo h) (fun Q => am_Wp d 222 0 [some (Sum.inr (Sum.inr 70))] [] (am_SH L, h, am_RR kp) Q) := by
  intro Q hq
  show am_Wp d 222 0 [some (Sum.inr (Sum.inr 70))] [] (am_SH L, h, am_RR kp) Q
  have hD := mv_D hv
  have h81 : ∀ j, am_rel 81 j = true := fun _ => rfl
  have e5 : am_up h 70 13 0 70 5 = h 70 5 := rfl
  unfold a_go at hq
  rw [bq_M_go_0 (by omega), e5]
  by_cases q : h 70 5 = 99
  · rw [if_pos q] at hq
    rw [if_pos q, sp_M_refuse (by omega) (by omega)]
    simp only [Option.toList_some, Option.toList_none, List.cons_append, List.nil_append]
    rw [bq_M_go_20]
    exact hq _ kp (am_keep_bb h81 am_keep_70)
  · rw [if_neg q, am_hif_0] at hq
    rw [if_neg q]
    refine sp_M_keepTurn (h := am_up h 70 13 0) (n := n) (by omega) hn hn8 (fun g kq hk => ?_)
    have hk2 : am_keep (m_kt h) g := am_keep_t am_keep_kt hk
    have em : am_mv g = am_mv h := (am_keep_mv hk2).trans rfl
    have hvg : v_ok (am_mv g) := by rw [em]; exact hv
    have e6 : g 70 6 = h 70 6 := congrArg vQ em
    have e5 : g 70 5 = h 70 5 := congrArg vD em
    simp only [Option.toList_some, Option.toList_none, List.cons_append, List.nil_append]
    rw [bq_M_go_25 (by omega), sp_M_fallDue (by omega) hvg]
    simp only [Option.toList_some, Option.toList_none, List.cons_append, List.nil_append]
    rw [bq_M_go_29, show am_falk 73 80 g (am_mv g) (g 70 6).toNat 70 5 = h 70 5 from e5, am_add_ok (by omega) (by omega)]
    refine hq _ kq ?_
    unfold m_hgo
    rw [em, e6]
    exact am_keep_upup (am_keep_falk hk2)
theorem p_go {d : Nat} (hd : 30 ≤ d) : am_PR am_isI (fun h L kp Q => am_Wp d 64 0 [some (Sum.inr (Sum.inr 1)), none] [] (am_SH L, h, am_RR kp) Q) (fun h L kp Q => am_Wp d 222 0 [some (Sum.inr (Sum.inr 70))] [] (am_SH L, h, am_RR kp) Q) := by
  refine am_PR_A (fun h => a_go (h 2 2)) (fun h => a_go (h 70 5)) c_hgo m_hgo (fun h => by show am_isI (a_go _).1; unfold a_go; (repeat' split) <;> exact ⟨_, rfl⟩) (fun h L kp hi => ?_) (fun h g L kp hi eg => ?_) (fun h g hi eg => ?_) (fun h hi => m_S_hgo0) (fun h g hi eg q => ⟨?_, c_S_hgo0.1, c_S_hgo0.2⟩) (fun h hi q => ?_)
  · obtain ⟨b1, b2, ⟨o, n, p1, p2, p3, p4, p5, p6⟩, b4⟩ := am_INV_u.1 hi
    exact c_go hd b1.1 p1 p2 p4 p5
  · obtain ⟨b1, b2, ⟨o, n, p1, p2, p3, p4, p5, p6⟩, b4⟩ := am_INV_u.1 hi
    exact m_go hd (am_INV_g hi eg).1 (by rw [(m_S_c eg).2.2.2.2.1]; exact p3) p5
  · show a_go (g 70 5) = a_go (h 2 2)
    rw [show g 70 5 = h 2 2 from congrArg vD (am_INV_g hi eg).2.2]
  · obtain ⟨k0, k1, k2, k3, k4, k5, k6, k7, k8, k9⟩ := m_S_c eg
    have e : am_car g = am_car h := funext fun n => am_car_c k0
    rw [m_S_hgo, m_S_hgo, k0, k1, k2, k3, k4, k5, k6, k7, k8, k9, e]
  · obtain ⟨⟨b1, b2, b3⟩, b4, b5, b6, b7⟩ := am_INV_u.1 hi
    have hD := wv_D b1
    have q2 : ¬ h 2 2 = 99 := fun w => by
      revert q
      show (a_go (h 2 2)).2 = 0 → _
      unfold a_go
      rw [if_pos w]
      intro q; exact absurd q (by show ¬ (6 : Nat) = 0; omega)
    have hk := i_P_keep (car := am_car h) b1 b5 (by rw [v_of_car (by rw [b3]; exact b2), b3]) (v_un_day b1 b2)
    have e31 : h 70 31 = h 24 3 := by
      obtain ⟨o, n, p1, p2, p3, p4, p5, p6⟩ := b5
      rw [p2, p3]
    rw [c_S_hgo, m_S_hgo, b3, e31]
    exact ⟨⟨v_run_ok (k := 1) b1 (by show h 2 2 + ((1 : Nat) : Int) ≤ 99; omega), v_z_day1 b1 b2, rfl⟩, b4, hk, b6, b7.1, b7.2.1, v_nI_keep b5 b7.2.2 (by rw [v_of_car (by rw [b3]; exact b2), b3]) (v_nl_day1 b7.2.2.1)⟩
def a_over (V : am_Vw) (i t : Int) : am_V × Nat := if (v_isQ V i && v_isP V t) = false then (Sum.inl (-1), 1) else if v_take V i t = false then (Sum.inl (-3), 3) else (Sum.inl (if vO V i.toNat = t then 2 else 0), 0)
def c_hover (i t : Int) (h : Nat → Nat → Int) : Nat → Nat → Int := c_kp (i.toNat : Int) (h 8 i.toNat) (am_up (am_up h 8 i.toNat t) 12 i.toNat (if h 7 i.toNat = t then 2 else 0))
def m_hover (i t : Int) (h : Nat → Nat → Int) : Nat → Nat → Int := am_up (am_up (m_kt h) 76 i.toNat t) 80 i.toNat (if h 75 i.toNat = t then 2 else 0)
theorem c_S_hover {h : Nat → Nat → Int} {i t : Int} : c_S (c_hover i t h) = (v_ovr (am_wv h 2) i.toNat t, (am_wv h 13, am_wv h 29), h 1 2, am_sx (h 25) ((t_o1 (h 24 2).toNat (h 24 3).toNat + t_n1 (h 24 3).toNat) % 8) (i.toNat : Int), am_sx (h 26) ((t_o1 (h 24 2).toNat (h 24 3).toNat + t_n1 (h 24 3).toNat) % 8) (h 8 i.toNat), (t_o1 (h 24 2).toNat (h 24 3).toNat : Int), ((t_n1 (h 24 3).toNat + 1 : Nat) : Int), h 28, h 27 1, h 40, h 1 6, h 41) := rfl
theorem m_S_hover {h : Nat → Nat → Int} {i t : Int} : m_S (m_hover i t h) = (v_ovr (am_mv h) i.toNat t, h 70 25, h 87, t_keep (h 88) (h 70 31).toNat (am_car h), ((t_n1 (h 70 31).toNat + 1 : Nat) : Int), h 82, h 70 16, h 98, h 70 46, h 81) := rfl
theorem m_S_hover0 {h : Nat → Nat → Int} {i t : Int} : m_S (c_hover i t h) = m_S h ∧ c_hover i t h 0 = h 0 := ⟨rfl, rfl⟩
theorem c_S_hover0 {h : Nat → Nat → Int} {i t : Int} : c_S (m_hover i t h) = c_S h ∧ m_hover i t h 0 = h 0 := ⟨rfl, rfl⟩
theorem a_over_0 {V : am_Vw} {i t : Int} (q : (a_over V i t).2 = 0) : v_isP V t = true ∧ v_take V i t = true := by
  revert q
  unfold a_over
  cases v_isQ V i
  · rw [Bool.false_and, if_pos rfl]; intro q; exact absurd q (by show ¬ (1 : Nat) = 0; omega)
  · cases v_isP V t
    · rw [Bool.true_and, if_pos rfl]; intro q; exact absurd q (by show ¬ (1 : Nat) = 0; omega)
    · rw [if_neg (by decide)]
      cases v_take V i t
      · rw [if_pos rfl]; intro q; exact absurd q (by show ¬ (3 : Nat) = 0; omega)
      · exact fun _ => ⟨rfl, rfl⟩
theorem c_over {d L kp : Nat} {h : Nat → Nat → Int} {i t : Int} {o n : Nat} (hd : 30 ≤ d) (hv : v_ok (am_wv h 2)) (ho : h 24 2 = (o : Int)) (hn : h 24 3 = (n : Int)) (h8 : o < 8) (hn8 : n ≤ 8) : am_Ch L (a_over (am_wv h 2) i t).1 (am_hif 41 (a_over (am_wv h 2) i t).2 (c_hover i t) h) (fun Q => am_Wp d 62 0 [some (Sum.inr (Sum.inr 1)), some (Sum.inl i), some (Sum.inl t), none] [] (am_SH L, h, am_RR kp) Q) := by
  intro Q hq
  show am_Wp d 62 0 [some (Sum.inr (Sum.inr 1)), some (Sum.inl i), some (Sum.inl t), none] [] (am_SH L, h, am_RR kp) Q
  have hQ := wv_Q hv
  unfold a_over at hq
  have r22 : (v_isQ (am_wv h 2) i && v_isP (am_wv h 2) t) = false → am_Wp d 62 22 [some (Sum.inr (Sum.inr 1)), some (Sum.inl (i)), some (Sum.inl (t)), none] [] (am_SH L, h, am_RR kp) Q := fun w => by
    rw [if_pos w] at hq
    rw [bq_KO_over_22 (by omega), sp_KO_refuse (by omega) (by omega) (by omega)]
    simp only [Option.toList_some, Option.toList_none, List.cons_append, List.nil_append]
    rw [bq_KO_over_27]
    exact hq _ kp am_keep_r
  rw [bq_KO_over_0 (by omega), sp_World_isPaper_2]
  simp only [Option.toList_some, Option.toList_none, List.cons_append, List.nil_append]
  rw [bq_KO_over_8 (by omega)]
  cases e1 : v_isQ (am_wv h 2) i
  · rw [if_pos am_bif]
    exact r22 (by rw [e1]; rfl)
  · rw [if_neg am_b0, sp_World_isPerson_2]
    simp only [Option.toList_some, Option.toList_none, List.cons_append, List.nil_append]
    rw [bq_KO_over_19 (by omega)]
    cases e2 : v_isP (am_wv h 2) t
    · rw [if_pos am_bif]
      exact r22 (by rw [e1, e2]; rfl)
    · obtain ⟨f1, f2⟩ := v_isQ_iff.1 e1
      have f2b : i < h 2 1 := f2
      obtain ⟨p, rfl⟩ := Int.eq_ofNat_of_zero_le f1
      rw [if_neg (by rw [e1, e2]; decide)] at hq
      rw [if_neg am_b0, sp_World_holderOf_2 (by omega), am_lk_nat (by omega)]
      simp only [Option.toList_some, Option.toList_none, List.cons_append, List.nil_append]
      rw [bq_KO_over_36 (by omega)]
      refine sp_World_makeOver_2 (by omega) hv (fun p2 ep hp16 ht => ?_) (fun ht => ?_)
      · have ep2 : p2 = p := by omega
        subst ep2
        rw [if_neg (by rw [ht]; decide), am_hif_0] at hq
        simp only [Option.toList_some, Option.toList_none, List.cons_append, List.nil_append]
        rw [bq_KO_over_46 (by omega), if_neg (by omega), sp_Past_keep (h := am_up (am_up h 8 p2 t) 12 p2 (if h 7 p2 = t then 2 else 0)) (o := o) (n := n) (by omega) ho hn h8 hn8]
        simp only [Option.toList_some, Option.toList_none, List.cons_append, List.nil_append]
        rw [bq_KO_over_65 (by omega), sp_World_stateOf_2 (by omega), am_lk_nat hp16]
        simp only [Option.toList_some, Option.toList_none, List.cons_append, List.nil_append]
        rw [bq_KO_over_73]
        have e3 : c_kp (p2 : Int) (h 8 p2) (am_up (am_up h 8 p2 t) 12 p2 (if h 7 p2 = t then 2 else 0)) 12 p2 = if h 7 p2 = t then 2 else 0 := (show am_sx (h 12) p2 _ p2 = _ from am_sx_e)
        rw [e3]
        exact hq _ kp am_keep_r
      · rw [if_pos ht] at hq
        simp only [Option.toList_some, Option.toList_none, List.cons_append, List.nil_append]
        rw [bq_KO_over_46 (by omega), if_pos rfl, sp_KO_refuse (by omega) (by omega) (by omega)]
        simp only [Option.toList_some, Option.toList_none, List.cons_append, List.nil_append]
        rw [bq_KO_over_55]
        exact hq _ kp am_keep_r
theorem m_over {d L kp : Nat} {h : Nat → Nat → Int} {i t : Int} {n : Nat} (hd : 30 ≤ d) (hv : v_ok (am_mv h)) (hn : h 70 31 = (n : Int)) (hn8 : n ≤ 8) : am_Ch L (a_over (am_mv h) i t).1 (am_hif 81 (a_over (am_mv h) i t).2 (m_hover i t) h) (fun Q => am_Wp d 220 0 [some (Sum.inr (Sum.inr 70)), some (Sum.inl i), some (Sum.inl t), none] [] (am_SH L, h, am_RR kp) Q) := by
  intro Q hq
  show am_Wp d 220 0 [some (Sum.inr (Sum.inr 70)), some (Sum.inl i), some (Sum.inl t), none] [] (am_SH L, h, am_RR kp) Q
  have hQ := mv_Q hv
  have hP := mv_P hv
  have h81 : ∀ j, am_rel 81 j = true := fun _ => rfl
  have hv2 : v_ok (am_mv (am_up h 70 13 0)) := hv
  have em2 : am_mv (am_up h 70 13 0) = am_mv h := rfl
  unfold a_over at hq
  have r40 : ∀ x : Int, -6 ≤ x → x < 0 → (∀ g kq, am_keep (am_bump 81 (-x).toNat h) g → Q (some (Sum.inl x)) (am_SH L, g, am_RR kq)) → am_Wp d 220 40 [some (Sum.inr (Sum.inr 70)), some (Sum.inl (i)), some (Sum.inl (t)), none] [Sum.inl x] (am_SH L, am_up h 70 13 0, am_RR kp) Q := fun x x1 x2 hq2 => by
    rw [bq_M_over_40 (by omega), if_neg (by omega), sp_M_refuse (by omega) (by omega)]
    simp only [Option.toList_some, Option.toList_none, List.cons_append, List.nil_append]
    rw [bq_M_over_50]
    exact hq2 _ kp (am_keep_bb h81 am_keep_70)
  rw [bq_M_over_0 (by omega), sp_M_isPaper (by omega) hv2, em2]
  simp only [Option.toList_some, Option.toList_none, List.cons_append, List.nil_append]
  rw [bq_M_over_10 (by omega)]
  cases e1 : v_isQ (am_mv h) i
  · rw [if_pos (by rw [e1]; rfl)] at hq
    rw [if_pos am_bif, bq_M_over_21]
    exact r40 (-1) (by omega) (by omega) hq
  · rw [if_neg am_b0, sp_M_isOne (by omega) hv2, em2]
    simp only [Option.toList_some, Option.toList_none, List.cons_append, List.nil_append]
    rw [bq_M_over_18 (by omega)]
    cases e2 : v_isP (am_mv h) t
    · rw [if_pos (by rw [e1, e2]; rfl)] at hq
      rw [if_pos am_bif, bq_M_over_21]
      exact r40 (-1) (by omega) (by omega) hq
    · obtain ⟨f1, f2⟩ := v_isQ_iff.1 e1
      obtain ⟨f3, f4⟩ := v_isP_iff.1 e2
      have f2b : i < h 70 6 := f2
      have f4b : t < h 70 0 := f4
      obtain ⟨p, rfl⟩ := Int.eq_ofNat_of_zero_le f1
      rw [if_neg (by rw [e1, e2]; decide)] at hq
      rw [if_neg am_b0, sp_M_canGo (h := am_up h 70 13 0) (by omega) hv2 (by omega) f2b f3 f4b, em2]
      simp only [Option.toList_some, Option.toList_none, List.cons_append, List.nil_append]
      rw [bq_M_over_31]
      cases ht : v_take (am_mv h) (p : Int) t
      · rw [if_pos ht] at hq
        rw [if_pos am_bif]
        exact r40 (-3) (by omega) (by omega) hq
      · rw [if_neg (by rw [ht]; decide), am_hif_0] at hq
        rw [if_neg am_b0, bq_M_over_40 (by omega), if_pos (by omega)]
        refine sp_M_keepTurn (h := am_up h 70 13 0) (n := n) (by omega) hn hn8 (fun g kq hk => ?_)
        have hk2 : am_keep (m_kt h) g := am_keep_t am_keep_kt hk
        have em : am_mv g = am_mv h := (am_keep_mv hk2).trans rfl
        have e75 : g 75 = h 75 := congrArg vO em
        simp only [Option.toList_some, Option.toList_none, List.cons_append, List.nil_append]
        rw [bq_M_over_55 (by omega), sp_M_makeOver (by omega), e75]
        simp only [Option.toList_some, Option.toList_none, List.cons_append, List.nil_append]
        rw [bq_M_over_61, am_gd (by omega) (by omega), Int.toNat_natCast]
        have e3 : am_up (am_up g 76 p t) 80 p (if h 75 p = t then 2 else 0) 80 p = if h 75 p = t then 2 else 0 := (show am_sx (g 80) p _ p = _ from am_sx_e)
        rw [e3]
        exact hq _ kq (am_keep_upup (am_keep_upup hk2))
theorem p_over {d : Nat} {i t : Int} (hd : 30 ≤ d) : am_PR am_isI (fun h L kp Q => am_Wp d 62 0 [some (Sum.inr (Sum.inr 1)), some (Sum.inl i), some (Sum.inl t), none] [] (am_SH L, h, am_RR kp) Q) (fun h L kp Q => am_Wp d 220 0 [some (Sum.inr (Sum.inr 70)), some (Sum.inl i), some (Sum.inl t), none] [] (am_SH L, h, am_RR kp) Q) := by
  refine am_PR_A (fun h => a_over (am_wv h 2) i t) (fun h => a_over (am_mv h) i t) (c_hover i t) (m_hover i t) (fun h => by show am_isI (a_over _ i t).1; unfold a_over; (repeat' split) <;> exact ⟨_, rfl⟩) (fun h L kp hi => ?_) (fun h g L kp hi eg => ?_) (fun h g hi eg => ?_) (fun h hi => m_S_hover0) (fun h g hi eg q => ⟨?_, c_S_hover0.1, c_S_hover0.2⟩) (fun h hi q => ?_)
  · obtain ⟨b1, b2, ⟨o, n, p1, p2, p3, p4, p5, p6⟩, b4⟩ := am_INV_u.1 hi
    exact c_over hd b1.1 p1 p2 p4 p5
  · obtain ⟨b1, b2, ⟨o, n, p1, p2, p3, p4, p5, p6⟩, b4⟩ := am_INV_u.1 hi
    exact m_over hd (am_INV_g hi eg).1 (by rw [(m_S_c eg).2.2.2.2.1]; exact p3) p5
  · show a_over (am_mv g) i t = a_over (am_wv h 2) i t
    rw [(am_INV_g hi eg).2.2]
  · obtain ⟨k0, k1, k2, k3, k4, k5, k6, k7, k8, k9⟩ := m_S_c eg
    have e : am_car g = am_car h := funext fun n => am_car_c k0
    rw [m_S_hover, m_S_hover, k0, k1, k2, k3, k4, k5, k6, k7, k8, k9, e]
  · obtain ⟨⟨b1, b2, b3⟩, b4, b5, b6, b7⟩ := am_INV_u.1 hi
    obtain ⟨f1, f2⟩ := a_over_0 q
    obtain ⟨p, hp, h16, ho⟩ := v_take_o b1 f2
    have f3 := v_isP_iff.1 f1
    have hk := i_P_keep (car := am_car h) b1 b5 (by rw [v_of_car (by rw [b3]; exact b2), b3]) (v_un_ovr (t := t) b1 h16 ho)
    have e31 : h 70 31 = h 24 3 := by
      obtain ⟨o, n, p1, p2, p3, p4, p5, p6⟩ := b5
      rw [p2, p3]
    rw [c_S_hover, m_S_hover, b3, e31, hp, Int.toNat_natCast]
    exact ⟨⟨v_ok_ovr b1 h16 f3, v_z_ovr b2 h16, rfl⟩, b4, hk, b6, b7.1, b7.2.1, v_nI_keep b5 b7.2.2 (by rw [v_of_car (by rw [b3]; exact b2), b3]) (v_nl_ovr b7.2.2.1)⟩