/-! owe OF BOTH -/
def a_owe (V : am_Vw) (o n q e g : Int) : am_V × Nat := if v_two V o n = false then (Sum.inl (-1), 1) else if ¬ g = 0 ∧ ¬ g = 1 then (Sum.inl (-2), 2) else if q < 1 ∨ e < 0 then (Sum.inl (-4), 4) else if 40 < q ∨ 98 < e ∨ 16 ≤ vQ V then (Sum.inl (-6), 6) else (Sum.inl (vQ V), 0)
def c_howe (o n q e g : Int) (h : Nat → Nat → Int) : Nat → Nat → Int := am_up (am_up (am_up (am_up (am_up (am_up (am_up (am_up h 7 (h 2 1).toNat o) 8 (h 2 1).toNat n) 9 (h 2 1).toNat q) 10 (h 2 1).toNat e) 11 (h 2 1).toNat g) 12 (h 2 1).toNat 0) 2 1 (am_add (h 2 1) 1)) 24 3 0
def m_howe (o n q e g : Int) (h : Nat → Nat → Int) : Nat → Nat → Int := am_up (am_up (am_up (am_up (am_up (am_up (am_up (am_up h 75 (h 70 6).toNat o) 76 (h 70 6).toNat n) 77 (h 70 6).toNat q) 78 (h 70 6).toNat e) 79 (h 70 6).toNat g) 80 (h 70 6).toNat 0) 70 6 (am_add (h 70 6) 1)) 70 31 0
theorem c_S_howe {h : Nat → Nat → Int} {o n q e g : Int} : c_S (c_howe o n q e g h) = (v_pap (am_wv h 2) o n q e g, (am_wv h 13, am_wv h 29), h 1 2, h 25, h 26, h 24 2, 0, h 28, h 27 1, h 40, h 1 6, h 41) := rfl
theorem m_S_howe {h : Nat → Nat → Int} {o n q e g : Int} : m_S (m_howe o n q e g h) = (v_pap (am_mv h) o n q e g, h 70 25, h 87, h 88, 0, h 82, h 70 16, h 98, h 70 46, h 81) := rfl
theorem m_S_howe0 {h : Nat → Nat → Int} {o n q e g : Int} : m_S (c_howe o n q e g h) = m_S h ∧ c_howe o n q e g h 0 = h 0 := ⟨rfl, rfl⟩
theorem c_S_howe0 {h : Nat → Nat → Int} {o n q e g : Int} : c_S (m_howe o n q e g h) = c_S h ∧ m_howe o n q e g h 0 = h 0 := ⟨rfl, rfl⟩
theorem a_owe_0 {V : am_Vw} {o n q e g : Int} (hz : (a_owe V o n q e g).2 = 0) : v_two V o n = true ∧ (g = 0 ∨ g = 1) ∧ (1 ≤ q ∧ q ≤ 40) ∧ (0 ≤ e ∧ e ≤ 98) ∧ vQ V < 16 := by
  revert hz
  unfold a_owe
  cases v_two V o n
  · intro q; exact absurd q (by show ¬ (1 : Nat) = 0; omega)
  · rw [if_neg (by decide)]
    by_cases q1 : ¬ g = 0 ∧ ¬ g = 1
    · rw [if_pos q1]; intro q; exact absurd q (by show ¬ (2 : Nat) = 0; omega)
    · rw [if_neg q1]
      by_cases q2 : q < 1 ∨ e < 0
      · rw [if_pos q2]; intro q; exact absurd q (by show ¬ (4 : Nat) = 0; omega)
      · rw [if_neg q2]
        by_cases q3 : 40 < q ∨ 98 < e ∨ 16 ≤ vQ V
        · rw [if_pos q3]; intro q; exact absurd q (by show ¬ (6 : Nat) = 0; omega)
        · intro _
          exact ⟨rfl, by omega, by omega, by omega, by omega⟩
theorem c_owe {d L kp : Nat} {h : Nat → Nat → Int} {o n q e g : Int} (hd : 30 ≤ d) (hv : v_ok (am_wv h 2)) : am_Ch L (a_owe (am_wv h 2) o n q e g).1 (am_hif 41 (a_owe (am_wv h 2) o n q e g).2 (c_howe o n q e g) h) (fun Q => am_Wp d 60 0 [some (Sum.inr (Sum.inr 1)), some (Sum.inl o), some (Sum.inl n), some (Sum.inl q), some (Sum.inl e), some (Sum.inl g)] [] (am_SH L, h, am_RR kp) Q) := by
  intro Q hq
  show am_Wp d 60 0 [some (Sum.inr (Sum.inr 1)), some (Sum.inl o), some (Sum.inl n), some (Sum.inl q), some (Sum.inl e), some (Sum.inl g)] [] (am_SH L, h, am_RR kp) Q
  have eQ : vQ (am_wv h 2) = h 2 1 := rfl
  unfold a_owe at hq
  rw [bq_KO_owe_0 (by omega), sp_KO_areTwo (by omega)]
  simp only [Option.toList_some, Option.toList_none, List.cons_append, List.nil_append]
  rw [bq_KO_owe_6 (by omega)]
  cases ht : v_two (am_wv h 2) o n
  · rw [ht, if_pos rfl] at hq
    rw [if_pos am_bif, sp_KO_refuse (by omega) (by omega) (by omega)]
    simp only [Option.toList_some, Option.toList_none, List.cons_append, List.nil_append]
    rw [bq_KO_owe_14]
    exact hq _ kp am_keep_r
  · rw [ht, if_neg (by decide)] at hq
    rw [if_neg am_b0]
    by_cases q1 : ¬ g = 0 ∧ ¬ g = 1
    · rw [if_pos q1] at hq
      rw [if_neg q1.1, if_neg q1.2, sp_KO_refuse (by omega) (by omega) (by omega)]
      simp only [Option.toList_some, Option.toList_none, List.cons_append, List.nil_append]
      rw [bq_KO_owe_32]
      exact hq _ kp am_keep_r
    · rw [if_neg q1] at hq
      have r33 : am_Wp d 60 33 [some (Sum.inr (Sum.inr 1)), some (Sum.inl (o)), some (Sum.inl (n)), some (Sum.inl (q)), some (Sum.inl (e)), some (Sum.inl (g))] [] (am_SH L, h, am_RR kp) Q := by
        rw [bq_KO_owe_33 (by omega)]
        by_cases q2 : q < 1 ∨ e < 0
        · rw [if_pos q2] at hq
          have r43 : am_Wp d 60 43 [some (Sum.inr (Sum.inr 1)), some (Sum.inl (o)), some (Sum.inl (n)), some (Sum.inl (q)), some (Sum.inl (e)), some (Sum.inl (g))] [] (am_SH L, h, am_RR kp) Q := by
            rw [bq_KO_owe_43 (by omega), sp_KO_refuse (by omega) (by omega) (by omega)]
            simp only [Option.toList_some, Option.toList_none, List.cons_append, List.nil_append]
            rw [bq_KO_owe_49]
            exact hq _ kp am_keep_r
          by_cases q3 : q < 1
          · rw [if_pos q3]; exact r43
          · rw [if_neg q3, if_neg (by omega)]; exact r43
        · rw [if_neg q2] at hq
          rw [if_neg (by omega), if_pos (by omega)]
          refine sp_World_addPaper_2 (by omega) hv (fun k hk c1 => ?_) (fun c1 => ?_)
          · rw [if_neg (by omega), am_hif_0, eQ, hk] at hq
            simp only [Option.toList_some, Option.toList_none, List.cons_append, List.nil_append]
            rw [bq_KO_owe_64 (by omega), if_neg (by omega), sp_Past_forget]
            simp only [Option.toList_some, Option.toList_none, List.cons_append, List.nil_append]
            rw [bq_KO_owe_81 (by omega), sp_World_papers_2]
            simp only [Option.toList_some, Option.toList_none, List.cons_append, List.nil_append]
            rw [bq_KO_owe_88]
            have e1 : am_up (am_up (am_up (am_up (am_up (am_up (am_up (am_up h 7 k o) 8 k n) 9 k q) 10 k e) 11 k g) 12 k 0) 2 1 ((k + 1 : Nat) : Int)) 24 3 0 2 1 = ((k + 1 : Nat) : Int) := rfl
            rw [e1, am_sub_ok (by omega) (by omega), show ((k + 1 : Nat) : Int) - 1 = (k : Int) by omega]
            refine hq _ kp ?_
            have e2 : c_howe o n q e g h = am_up (am_up (am_up (am_up (am_up (am_up (am_up (am_up h 7 k o) 8 k n) 9 k q) 10 k e) 11 k g) 12 k 0) 2 1 ((k + 1 : Nat) : Int)) 24 3 0 := by
              unfold c_howe; rw [hk, Int.toNat_natCast, am_incn (by omega)]
            rw [e2]
            exact am_keep_r
          · have c2 : 40 < q ∨ 98 < e ∨ 16 ≤ vQ (am_wv h 2) := Decidable.byContradiction fun w => c1 ⟨ht, by omega, by omega, by omega, by omega, by omega⟩
            rw [if_pos c2] at hq
            simp only [Option.toList_some, Option.toList_none, List.cons_append, List.nil_append]
            rw [bq_KO_owe_64 (by omega), if_pos rfl, sp_KO_refuse (by omega) (by omega) (by omega)]
            simp only [Option.toList_some, Option.toList_none, List.cons_append, List.nil_append]
            rw [bq_KO_owe_73]
            exact hq _ kp am_keep_r
      by_cases q4 : g = 0
      · rw [if_pos q4]; exact r33
      · rw [if_neg q4, if_pos (by omega)]; exact r33
theorem m_owe {d L kp : Nat} {h : Nat → Nat → Int} {o n q e g : Int} (hd : 30 ≤ d) (hv : v_ok (am_mv h)) : am_Ch L (a_owe (am_mv h) o n q e g).1 (am_hif 81 (a_owe (am_mv h) o n q e g).2 (m_howe o n q e g) h) (fun Q => am_Wp d 219 0 [some (Sum.inr (Sum.inr 70)), some (Sum.inl o), some (Sum.inl n), some (Sum.inl q), some (Sum.inl e), some (Sum.inl g), none] [] (am_SH L, h, am_RR kp) Q) := by
  intro Q hq
  show am_Wp d 219 0 [some (Sum.inr (Sum.inr 70)), some (Sum.inl o), some (Sum.inl n), some (Sum.inl q), some (Sum.inl e), some (Sum.inl g), none] [] (am_SH L, h, am_RR kp) Q
  have h81 : ∀ j, am_rel 81 j = true := fun _ => rfl
  have eQ : vQ (am_mv h) = h 70 6 := rfl
  have hQ := mv_Q hv
  have e6 : am_up h 70 13 0 70 6 = h 70 6 := rfl
  have hv2 : v_ok (am_mv (am_up h 70 13 0)) := hv
  unfold a_owe at hq
  have r84 : ∀ x : Int, -6 ≤ x → x < 0 → (∀ g kq, am_keep (am_bump 81 (-x).toNat h) g → Q (some (Sum.inl x)) (am_SH L, g, am_RR kq)) → am_Wp d 219 84 [some (Sum.inr (Sum.inr 70)), some (Sum.inl (o)), some (Sum.inl (n)), some (Sum.inl (q)), some (Sum.inl (e)), some (Sum.inl (g)), some (Sum.inl (x))] [] (am_SH L, am_up h 70 13 0, am_RR kp) Q := fun x x1 x2 hq2 => by
    rw [bq_M_owe_84 (by omega), if_neg (by omega), sp_M_refuse (by omega) (by omega)]
    simp only [Option.toList_some, Option.toList_none, List.cons_append, List.nil_append]
    rw [bq_M_owe_95]
    exact hq2 _ kp (am_keep_bb h81 am_keep_70)
  rw [bq_M_owe_0 (by omega), sp_M_areTwo (by omega) hv2]
  simp only [Option.toList_some, Option.toList_none, List.cons_append, List.nil_append]
  rw [bq_M_owe_14 (by omega), show am_mv (am_up h 70 13 0) = am_mv h from rfl]
  cases ht : v_two (am_mv h) o n
  · rw [ht, if_pos rfl] at hq
    rw [if_pos am_bif]
    exact r84 _ (by omega) (by omega) hq
  · rw [ht, if_neg (by decide)] at hq
    rw [if_neg am_b0, sp_M_in]
    simp only [Option.toList_some, Option.toList_none, List.cons_append, List.nil_append]
    rw [bq_M_owe_31]
    by_cases q1 : ¬ g = 0 ∧ ¬ g = 1
    · rw [if_pos q1] at hq
      rw [decide_eq_false (by omega), if_pos am_bif]
      exact r84 _ (by omega) (by omega) hq
    · rw [if_neg q1] at hq
      rw [decide_eq_true (by omega), if_neg am_b0]
      by_cases q2 : q < 1 ∨ e < 0
      · rw [if_pos q2] at hq
        by_cases q3 : q < 1
        · rw [if_pos q3, bq_M_owe_51]
          exact r84 _ (by omega) (by omega) hq
        · rw [if_neg q3, if_neg (by omega), bq_M_owe_51]
          exact r84 _ (by omega) (by omega) hq
      · rw [if_neg q2] at hq
        rw [if_neg (by omega), if_pos (by omega), e6]
        by_cases q3 : 40 < q ∨ 98 < e ∨ 16 ≤ vQ (am_mv h)
        · rw [if_pos q3] at hq
          by_cases d1 : 40 < q
          · rw [if_pos d1, bq_M_owe_80]
            exact r84 _ (by omega) (by omega) hq
          · rw [if_neg d1]
            by_cases d2 : 98 < e
            · rw [if_pos d2, bq_M_owe_80]
              exact r84 _ (by omega) (by omega) hq
            · rw [if_neg d2, if_pos (by omega), bq_M_owe_80]
              exact r84 _ (by omega) (by omega) hq
        · rw [if_neg q3, am_hif_0] at hq
          obtain ⟨k, hk⟩ := Int.eq_ofNat_of_zero_le hQ.1
          rw [if_neg (by omega), if_neg (by omega), if_neg (by omega), bq_M_owe_84 (by omega), if_pos (by omega), sp_M_paperComes (k := k) (by rw [e6]; exact hk) (by omega)]
          simp only [Option.toList_some, Option.toList_none, List.cons_append, List.nil_append]
          rw [bq_M_owe_107]
          have e1 : am_up (am_up (am_up (am_up (am_up (am_up (am_up (am_up (am_up h 70 13 0) 75 k o) 76 k n) 77 k q) 78 k e) 79 k g) 80 k 0) 70 6 ((k + 1 : Nat) : Int)) 70 31 0 70 6 = ((k + 1 : Nat) : Int) := rfl
          rw [e1, am_sub_ok (by omega) (by omega), show ((k + 1 : Nat) : Int) - 1 = (k : Int) by omega]
          rw [eQ, hk] at hq
          refine hq _ kp ?_
          have e2 : m_howe o n q e g h = am_up (am_up (am_up (am_up (am_up (am_up (am_up (am_up h 75 k o) 76 k n) 77 k q) 78 k e) 79 k g) 80 k 0) 70 6 ((k + 1 : Nat) : Int)) 70 31 0 := by
            unfold m_howe; rw [hk, Int.toNat_natCast, am_incn (by omega)]
          rw [e2]
          exact am_keep_upup (am_keep_upup (am_keep_upup (am_keep_upup (am_keep_upup (am_keep_upup (am_keep_upup (am_keep_upup (am_keep_70))))))))
theorem p_owe {d : Nat} {o n q e g : Int} (hd : 30 ≤ d) : am_PR am_isI (fun h L kp Q => am_Wp d 60 0 [some (Sum.inr (Sum.inr 1)), some (Sum.inl o), some (Sum.inl n), some (Sum.inl q), some (Sum.inl e), some (Sum.inl g)] [] (am_SH L, h, am_RR kp) Q) (fun h L kp Q => am_Wp d 219 0 [some (Sum.inr (Sum.inr 70)), some (Sum.inl o), some (Sum.inl n), some (Sum.inl q), some (Sum.inl e), some (Sum.inl g), none] [] (am_SH L, h, am_RR kp) Q) := by
  refine am_PR_A (fun h => a_owe (am_wv h 2) o n q e g) (fun h => a_owe (am_mv h) o n q e g) (c_howe o n q e g) (m_howe o n q e g) (fun h => by show am_isI (a_owe _ o n q e g).1; unfold a_owe; (repeat' split) <;> exact ⟨_, rfl⟩) (fun h L kp hi => c_owe hd (am_INV_u.1 hi).1.1) (fun h g L kp hi eg => m_owe hd (am_INV_g hi eg).1) (fun h g hi eg => ?_) (fun h hi => m_S_howe0) (fun h g hi eg q => ⟨?_, c_S_howe0.1, c_S_howe0.2⟩) (fun h hi q => ?_)
  · show a_owe (am_mv g) o n q e _ = _
    rw [(am_INV_g hi eg).2.2]
  · obtain ⟨k0, k1, k2, k3, k4, k5, k6, k7, k8, k9⟩ := m_S_c eg
    rw [m_S_howe, m_S_howe, k0, k1, k2, k3, k5, k6, k7, k8, k9]
  · obtain ⟨⟨b1, b2, b3⟩, b4, b5, b6, b7⟩ := am_INV_u.1 hi
    obtain ⟨f1, f2, f3, f4, f5⟩ := a_owe_0 q
    rw [c_S_howe, m_S_howe, b3]
    exact ⟨⟨v_ok_pap b1 f1 f5 f3 f4 (by omega), v_z_pap b1 b2 f5, rfl⟩, b4, i_P_0 b5, b6, b7.1, b7.2.1, v_nI_0 b7.2.2 (v_nl_pap b1 b7.2.2.1 f1 f5)⟩