/-! row, judge, clear, feed, unwilling, owe OF BOTH -/
theorem am_bump_I {h : Nat → Nat → Int} {r : Nat} (hi : am_INV (c_S h) (m_S h)) : am_INV (c_S (am_bump 41 r h)) (m_S (am_bump 81 r h)) := by
  rw [c_bump.1, m_bump.1]; exact am_INV_rf hi
theorem m_bump_S {g h : Nat → Nat → Int} {r : Nat} (e : m_S g = m_S h) : m_S (am_bump 81 r g) = m_S (am_bump 81 r h) ∧ c_S (am_bump 81 r g) = c_S g ∧ am_bump 81 r g 0 = g 0 := ⟨by rw [m_bump.1, m_bump.1, e], m_bump.2.1, m_bump.2.2⟩
theorem c_bump_S {h : Nat → Nat → Int} {r : Nat} : m_S (am_bump 41 r h) = m_S h ∧ am_bump 41 r h 0 = h 0 := ⟨c_bump.2.1, c_bump.2.2⟩
/-- both refuse with r, or both change -/
def am_hif (c r : Nat) (H : (Nat → Nat → Int) → Nat → Nat → Int) (h : Nat → Nat → Int) : Nat → Nat → Int := if r = 0 then H h else am_bump c r h
theorem am_hif_0 {c : Nat} {H : (Nat → Nat → Int) → Nat → Nat → Int} {h : Nat → Nat → Int} : am_hif c 0 H h = H h := rfl
theorem am_hif_r {c r : Nat} {H : (Nat → Nat → Int) → Nat → Nat → Int} {h : Nat → Nat → Int} (hr : ¬ r = 0) : am_hif c r H h = am_bump c r h := if_neg hr
theorem am_PR_A {T : am_V → Prop} {WC WM : (Nat → Nat → Int) → Nat → Nat → (Option am_V → am_H → Prop) → Prop} (A B : (Nat → Nat → Int) → am_V × Nat) (HC HM : (Nat → Nat → Int) → Nat → Nat → Int) (hT : ∀ h, T (A h).1) (hc : ∀ h L kp, am_INV (c_S h) (m_S h) → am_Ch L (A h).1 (am_hif 41 (A h).2 HC h) (WC h L kp)) (hm : ∀ h g L kp, am_INV (c_S h) (m_S h) → m_S g = m_S h → am_Ch L (B g).1 (am_hif 81 (B g).2 HM g) (WM g L kp)) (hAB : ∀ h g, am_INV (c_S h) (m_S h) → m_S g = m_S h → B g = A h) (e1 : ∀ h, am_INV (c_S h) (m_S h) → m_S (HC h) = m_S h ∧ HC h 0 = h 0) (e2 : ∀ h g, am_INV (c_S h) (m_S h) → m_S g = m_S h → (A h).2 = 0 → m_S (HM g) = m_S (HM h) ∧ c_S (HM g) = c_S g ∧ HM g 0 = g 0) (e3 : ∀ h, am_INV (c_S h) (m_S h) → (A h).2 = 0 → am_INV (c_S (HC h)) (m_S (HM h))) : am_PR T WC WM := by
  refine am_PR_Ch (fun h => (A h).1) (fun h => am_hif 41 (A h).2 HC h) (fun h => am_hif 81 (B h).2 HM h) hT hc (fun h g L kp hi eg => ?_) (fun h hi => ?_) (fun h g hi eg => ?_) (fun h hi => ?_)
  · rw [← hAB h g hi eg]; exact hm h g L kp hi eg
  · by_cases q : (A h).2 = 0
    · rw [q]; exact e1 h hi
    · rw [am_hif_r q]; exact c_bump_S
  · rw [hAB h g hi eg, hAB h h hi rfl]
    by_cases q : (A h).2 = 0
    · rw [q]; exact e2 h g hi eg q
    · rw [am_hif_r q, am_hif_r q]; exact m_bump_S eg
  · rw [hAB h h hi rfl]
    by_cases q : (A h).2 = 0
    · rw [q]; exact e3 h hi q
    · rw [am_hif_r q, am_hif_r q]; exact am_bump_I hi
theorem am_INV_g {h g : Nat → Nat → Int} (hi : am_INV (c_S h) (m_S h)) (e : m_S g = m_S h) : v_ok (am_mv g) ∧ v_z (am_mv g) ∧ am_mv g = am_wv h 2 := by
  obtain ⟨b1, b2, b3⟩ := (am_INV_u.1 hi).1
  rw [(m_S_c e).1, b3]; exact ⟨b1, b2, rfl⟩
theorem p_row {d : Nat} {v : Int} (hd : 30 ≤ d) : am_PR am_isI (fun h L kp Q => am_Wp d 180 0 [some (Sum.inr (Sum.inr 1)), some (Sum.inl v)] [] (am_SH L, h, am_RR kp) Q) (fun h L kp Q => am_Wp d 287 0 [some (Sum.inr (Sum.inr 70)), some (Sum.inl v)] [] (am_SH L, h, am_RR kp) Q) := by
  refine am_PR_A (fun h => a_row (h 1 6) v) (fun h => a_row (h 70 46) v) (fun h => am_up (am_up h 40 (h 1 6).toNat v) 1 6 (h 1 6 + 1)) (fun h => am_up (am_up h 98 (h 70 46).toNat v) 70 46 (h 70 46 + 1)) (fun h => by show am_isI (a_row _ v).1; unfold a_row; (repeat' split) <;> exact ⟨_, rfl⟩) (fun h L kp hi => c_row hd (am_INV_u.1 hi).2.2.2.2.1.2.2.1) (fun h g L kp hi eg => ?_) (fun h g hi eg => ?_) (fun h hi => ⟨rfl, rfl⟩) (fun h g hi eg q => ⟨?_, rfl, rfl⟩) (fun h hi q => ?_)
  · obtain ⟨-, e2, e3, -⟩ := (am_INV_u.1 hi).2.2.2.2.1
    exact m_row hd (by rw [(m_S_c eg).2.2.2.2.2.2.2.2.1, e2]; exact e3)
  · show a_row (g 70 46) v = a_row (h 1 6) v
    rw [(m_S_c eg).2.2.2.2.2.2.2.2.1, (am_INV_u.1 hi).2.2.2.2.1.2.1]
  · obtain ⟨k0, k1, k2, k3, k4, k5, k6, k7, k8, k9⟩ := m_S_c eg
    refine m_S_mk (show am_mv g = am_mv h from k0) k1 k2 k3 k4 k5 k6 ?_ ?_ k9
    · show am_sx (g 98) (g 70 46).toNat v = am_sx (h 98) (h 70 46).toNat v
      rw [k7, k8]
    · show g 70 46 + 1 = h 70 46 + 1
      rw [k8]
  · obtain ⟨b1, b2, b3, b4, ⟨c1, c2, c3, c4⟩, b6⟩ := am_INV_u.1 hi
    have f : 0 ≤ v ∧ v ≤ 99 ∧ h 1 6 < 12 := by
      revert q
      show (a_row (h 1 6) v).2 = 0 → _
      unfold a_row
      by_cases q1 : v < 0
      · rw [if_pos q1]; intro q; exact absurd q (by show ¬ 4 = 0; omega)
      · rw [if_neg q1]
        by_cases q2 : 99 < v ∨ 12 ≤ h 1 6
        · rw [if_pos q2]; intro q; exact absurd q (by show ¬ 6 = 0; omega)
        · intro _; omega
    refine am_INV_u.2 ⟨b1, b2, b3, b4, ⟨?_, ?_, ?_, ?_⟩, b6⟩
    · show am_sx (h 98) (h 70 46).toNat v = am_sx (h 40) (h 1 6).toNat v
      rw [c1, c2]
    · show h 70 46 + 1 = h 1 6 + 1
      rw [c2]
    · show 0 ≤ h 1 6 + 1 ∧ h 1 6 + 1 ≤ 12
      omega
    · intro j
      show 0 ≤ am_sx (h 40) (h 1 6).toNat v j ∧ am_sx (h 40) (h 1 6).toNat v j ≤ 99
      by_cases q1 : j = (h 1 6).toNat
      · rw [q1, am_sx_e]; omega
      · rw [am_sx_n q1]; exact c4 j
theorem p_judge {d : Nat} (hd : 30 ≤ d) : am_PR am_isI (fun h L kp Q => am_Wp d 181 0 [some (Sum.inr (Sum.inr 1)), none, none] [] (am_SH L, h, am_RR kp) Q) (fun h L kp Q => am_Wp d 288 0 [some (Sum.inr (Sum.inr 70)), none, none] [] (am_SH L, h, am_RR kp) Q) := by
  refine am_PR_Ch (fun h => Sum.inl (v_jf (am_wv h 2) (h 40) (h 1 6).toNat 0)) (fun h => am_up h 1 6 0) (fun h => am_up h 70 46 0) (fun h => ⟨_, rfl⟩) (fun h L kp hi => ?_) (fun h g L kp hi eg => ?_) (fun h hi => ⟨rfl, rfl⟩) (fun h g hi eg => ⟨?_, rfl, rfl⟩) (fun h hi => ?_)
  · obtain ⟨e1, e2, e3, -⟩ := (am_INV_u.1 hi).2.2.2.2.1
    have e0 := (am_INV_u.1 hi).1.1
    exact c_judge hd e0 e3
  · obtain ⟨e1, e2, e3, -⟩ := (am_INV_u.1 hi).2.2.2.2.1
    obtain ⟨k0, k1, k2, k3, k4, k5, k6, k7, k8, k9⟩ := m_S_c eg
    have ee : v_jf (am_mv g) (g 98) (g 70 46).toNat 0 = v_jf (am_wv h 2) (h 40) (h 1 6).toNat 0 := by rw [(am_INV_g hi eg).2.2, k7, e1, k8, e2]
    exact ee ▸ m_judge hd (am_INV_g hi eg).1 (by rw [k8, e2]; exact e3)
  · obtain ⟨k0, k1, k2, k3, k4, k5, k6, k7, k8, k9⟩ := m_S_c eg
    exact m_S_mk (show am_mv g = am_mv h from k0) k1 k2 k3 k4 k5 k6 k7 rfl k9
  · obtain ⟨b1, b2, b3, b4, ⟨c1, c2, c3, c4⟩, b6⟩ := am_INV_u.1 hi
    exact am_INV_u.2 ⟨b1, b2, b3, b4, ⟨c1, rfl, by show (0 : Int) ≤ 0 ∧ (0 : Int) ≤ 12; omega, c4⟩, b6⟩
theorem p_clear {d : Nat} : am_PR am_isI (fun h L kp Q => am_Wp d 182 0 [some (Sum.inr (Sum.inr 1)), none] [] (am_SH L, h, am_RR kp) Q) (fun h L kp Q => am_Wp d 289 0 [some (Sum.inr (Sum.inr 70)), none] [] (am_SH L, h, am_RR kp) Q) := by
  refine am_PR_Ch (fun h => Sum.inl (h 1 6)) (fun h => am_up h 1 6 0) (fun h => am_up h 70 46 0) (fun h => ⟨_, rfl⟩) (fun h L kp hi => ?_) (fun h g L kp hi eg => ?_) (fun h hi => ⟨rfl, rfl⟩) (fun h g hi eg => ⟨?_, rfl, rfl⟩) (fun h hi => ?_)
  · obtain ⟨e1, e2, e3, -⟩ := (am_INV_u.1 hi).2.2.2.2.1
    have e0 := (am_INV_u.1 hi).1.1
    exact c_clear
  · obtain ⟨e1, e2, e3, -⟩ := (am_INV_u.1 hi).2.2.2.2.1
    obtain ⟨k0, k1, k2, k3, k4, k5, k6, k7, k8, k9⟩ := m_S_c eg
    have ee : g 70 46 = h 1 6 := by rw [k8, e2]
    exact ee ▸ m_clear
  · obtain ⟨k0, k1, k2, k3, k4, k5, k6, k7, k8, k9⟩ := m_S_c eg
    exact m_S_mk (show am_mv g = am_mv h from k0) k1 k2 k3 k4 k5 k6 k7 rfl k9
  · obtain ⟨b1, b2, b3, b4, ⟨c1, c2, c3, c4⟩, b6⟩ := am_INV_u.1 hi
    exact am_INV_u.2 ⟨b1, b2, b3, b4, ⟨c1, rfl, by show (0 : Int) ≤ 0 ∧ (0 : Int) ≤ 12; omega, c4⟩, b6⟩
def a_feed (n v : Int) : am_V × Nat := if v < 0 then (Sum.inl (-4), 4) else if 255 < v ∨ 96 ≤ n then (Sum.inl (-6), 6) else (Sum.inl (n + 1), 0)
def c_hfeed (v : Int) (h : Nat → Nat → Int) : Nat → Nat → Int := am_up (am_up h 28 (h 27 1).toNat v) 27 1 (h 27 1 + 1)
def m_hfeed (v : Int) (h : Nat → Nat → Int) : Nat → Nat → Int := am_up (am_up h 82 (h 70 16).toNat v) 70 16 (h 70 16 + 1)
theorem c_feed {d L kp : Nat} {h : Nat → Nat → Int} {v : Int} (hd : 30 ≤ d) (hL : 0 ≤ h 27 1 ∧ h 27 1 ≤ 96) : am_Ch L (a_feed (h 27 1) v).1 (am_hif 41 (a_feed (h 27 1) v).2 (c_hfeed v) h) (fun Q => am_Wp d 12 0 [some (Sum.inr (Sum.inr 1)), some (Sum.inl v)] [] (am_SH L, h, am_RR kp) Q) := by
  intro Q hq
  show am_Wp d 12 0 [some (Sum.inr (Sum.inr 1)), some (Sum.inl v)] [] (am_SH L, h, am_RR kp) Q
  unfold a_feed at hq
  have r30 : (255 < v ∨ 96 ≤ h 27 1) → ¬ v < 0 → am_Wp d 12 30 [some (Sum.inr (Sum.inr 1)), some (Sum.inl (v))] [] (am_SH L, h, am_RR kp) Q := fun w1 w2 => by
    rw [if_neg w2, if_pos w1] at hq
    rw [bq_KO_feed_30 (by omega), sp_KO_refuse (by omega) (by omega) (by omega)]
    simp only [Option.toList_some, Option.toList_none, List.cons_append, List.nil_append]
    rw [bq_KO_feed_36]
    exact hq _ kp am_keep_r
  rw [bq_KO_feed_0 (by omega)]
  by_cases q1 : v < 0
  · rw [if_pos q1] at hq
    rw [if_neg (by omega), sp_KO_refuse (by omega) (by omega) (by omega)]
    simp only [Option.toList_some, Option.toList_none, List.cons_append, List.nil_append]
    rw [bq_KO_feed_10]
    exact hq _ kp am_keep_r
  · rw [if_pos (by omega)]
    by_cases q2 : 255 < v
    · rw [if_pos q2]; exact r30 (Or.inl q2) q1
    · rw [if_neg q2, sp_Letters_size]
      simp only [Option.toList_some, Option.toList_none, List.cons_append, List.nil_append]
      rw [bq_KO_feed_25 (by omega)]
      by_cases q3 : h 27 1 < 96
      · have n2 : ¬ (255 < v ∨ 96 ≤ h 27 1) := by omega
        rw [if_neg q1, if_neg n2] at hq
        obtain ⟨n, hn⟩ := Int.eq_ofNat_of_zero_le hL.1
        rw [if_pos q3, bq_Letters_add_0 (by omega), if_neg (by omega), hn, sp_put_28, am_put_nat (by omega)]
        simp only [Option.toList_some, Option.toList_none, List.cons_append, List.nil_append]
        rw [bq_Letters_add_21, show am_up h 28 n v 27 1 = (n : Int) from hn, am_incn (by omega), bq_Letters_add_31]
        simp only [Option.toList_some, Option.toList_none, List.cons_append, List.nil_append]
        rw [bq_KO_feed_45 (by omega), sp_Letters_size]
        simp only [Option.toList_some, Option.toList_none, List.cons_append, List.nil_append]
        rw [bq_KO_feed_52]
        have e : c_hfeed v h = am_up (am_up h 28 n v) 27 1 ((n + 1 : Nat) : Int) := by
          unfold c_hfeed; rw [hn, Int.toNat_natCast]; rfl
        rw [am_hif_0, e, hn] at hq
        exact hq _ kp am_keep_r
      · rw [if_neg q3]; exact r30 (Or.inr (by omega)) q1
theorem m_feed {d L kp : Nat} {h : Nat → Nat → Int} {v : Int} (hd : 30 ≤ d) (hL : 0 ≤ h 70 16 ∧ h 70 16 ≤ 96) : am_Ch L (a_feed (h 70 16) v).1 (am_hif 81 (a_feed (h 70 16) v).2 (m_hfeed v) h) (fun Q => am_Wp d 190 0 [some (Sum.inr (Sum.inr 70)), some (Sum.inl v)] [] (am_SH L, h, am_RR kp) Q) := by
  intro Q hq
  show am_Wp d 190 0 [some (Sum.inr (Sum.inr 70)), some (Sum.inl v)] [] (am_SH L, h, am_RR kp) Q
  unfold a_feed at hq
  have h81 : ∀ j, am_rel 81 j = true := fun _ => rfl
  have r32 : (255 < v ∨ 96 ≤ h 70 16) → ¬ v < 0 → am_Wp d 190 32 [some (Sum.inr (Sum.inr 70)), some (Sum.inl (v))] [] (am_SH L, am_up h 70 13 0, am_RR kp) Q := fun w1 w2 => by
    rw [if_neg w2, if_pos w1] at hq
    rw [bq_M_feed_32 (by omega), sp_M_refuse (by omega) (by omega)]
    simp only [Option.toList_some, Option.toList_none, List.cons_append, List.nil_append]
    rw [bq_M_feed_38]
    exact hq _ kp (am_keep_bb h81 am_keep_70)
  have e16 : am_up h 70 13 0 70 16 = h 70 16 := rfl
  rw [bq_M_feed_0 (by omega), e16]
  by_cases q1 : v < 0
  · rw [if_pos q1] at hq
    rw [if_neg (by omega), sp_M_refuse (by omega) (by omega)]
    simp only [Option.toList_some, Option.toList_none, List.cons_append, List.nil_append]
    rw [bq_M_feed_15]
    exact hq _ kp (am_keep_bb h81 am_keep_70)
  · rw [if_pos (by omega)]
    by_cases q2 : 255 < v
    · rw [if_pos q2]; exact r32 (Or.inl q2) q1
    · rw [if_neg q2]
      by_cases q3 : h 70 16 = 96
      · rw [if_pos q3]; exact r32 (Or.inr (by omega)) q1
      · have n2 : ¬ (255 < v ∨ 96 ≤ h 70 16) := by omega
        rw [if_neg q1, if_neg n2] at hq
        obtain ⟨n, hn⟩ := Int.eq_ofNat_of_zero_le hL.1
        have e2 : am_up (am_up h 70 13 0) 82 n v 70 16 = (n : Int) := hn
        rw [if_neg q3, am_gd (by omega) (by omega), hn, Int.toNat_natCast, e2, am_incn (by omega)]
        have e : m_hfeed v h = am_up (am_up h 82 n v) 70 16 ((n + 1 : Nat) : Int) := by
          unfold m_hfeed; rw [hn, Int.toNat_natCast]; rfl
        rw [am_hif_0, e, hn] at hq
        exact hq _ kp (am_keep_upup (am_keep_upup am_keep_70))
theorem p_feed {d : Nat} {v : Int} (hd : 30 ≤ d) : am_PR am_isI (fun h L kp Q => am_Wp d 12 0 [some (Sum.inr (Sum.inr 1)), some (Sum.inl v)] [] (am_SH L, h, am_RR kp) Q) (fun h L kp Q => am_Wp d 190 0 [some (Sum.inr (Sum.inr 70)), some (Sum.inl v)] [] (am_SH L, h, am_RR kp) Q) := by
  refine am_PR_A (fun h => a_feed (h 27 1) v) (fun h => a_feed (h 70 16) v) (c_hfeed v) (m_hfeed v) (fun h => by show am_isI (a_feed _ v).1; unfold a_feed; (repeat' split) <;> exact ⟨_, rfl⟩) (fun h L kp hi => c_feed hd (am_INV_u.1 hi).2.2.2.1.2.2.1) (fun h g L kp hi eg => ?_) (fun h g hi eg => ?_) (fun h hi => ⟨rfl, rfl⟩) (fun h g hi eg q => ⟨?_, rfl, rfl⟩) (fun h hi q => ?_)
  · obtain ⟨-, e2, e3, -⟩ := (am_INV_u.1 hi).2.2.2.1
    exact m_feed hd (by rw [(m_S_c eg).2.2.2.2.2.2.1, e2]; exact e3)
  · show a_feed (g 70 16) v = a_feed (h 27 1) v
    rw [(m_S_c eg).2.2.2.2.2.2.1, (am_INV_u.1 hi).2.2.2.1.2.1]
  · obtain ⟨k0, k1, k2, k3, k4, k5, k6, k7, k8, k9⟩ := m_S_c eg
    refine m_S_mk (show am_mv g = am_mv h from k0) k1 k2 k3 k4 ?_ ?_ k7 k8 k9
    · show am_sx (g 82) (g 70 16).toNat v = am_sx (h 82) (h 70 16).toNat v
      rw [k5, k6]
    · show g 70 16 + 1 = h 70 16 + 1
      rw [k6]
  · obtain ⟨b1, b2, b3, ⟨c1, c2, c3, c4⟩, b5, b6⟩ := am_INV_u.1 hi
    have f : 0 ≤ v ∧ v ≤ 255 ∧ h 27 1 < 96 := by
      revert q
      show (a_feed (h 27 1) v).2 = 0 → _
      unfold a_feed
      by_cases q1 : v < 0
      · rw [if_pos q1]; intro q; exact absurd q (by show ¬ 4 = 0; omega)
      · rw [if_neg q1]
        by_cases q2 : 255 < v ∨ 96 ≤ h 27 1
        · rw [if_pos q2]; intro q; exact absurd q (by show ¬ 6 = 0; omega)
        · intro _; omega
    refine am_INV_u.2 ⟨b1, b2, b3, ⟨?_, ?_, ?_, ?_⟩, b5, b6⟩
    · show am_sx (h 82) (h 70 16).toNat v = am_sx (h 28) (h 27 1).toNat v
      rw [c1, c2]
    · show h 70 16 + 1 = h 27 1 + 1
      rw [c2]
    · show 0 ≤ h 27 1 + 1 ∧ h 27 1 + 1 ≤ 96
      omega
    · intro j
      show 0 ≤ am_sx (h 28) (h 27 1).toNat v j ∧ am_sx (h 28) (h 27 1).toNat v j ≤ 255
      by_cases q1 : j = (h 27 1).toNat
      · rw [q1, am_sx_e]; omega
      · rw [am_sx_n q1]; exact c4 j
theorem an_bit1 {n c : Nat} (hn : n < 2147483648) (hc : c < 31) : am_and (am_shr (n : Int) (c : Int)) 1 = am_bi (am_has (n : Int) (c : Int)) := by
  unfold am_has
  rw [am_shr_ok hc hn]
  have h1 : n / 2 ^ c < 2147483648 := Nat.lt_of_le_of_lt (Nat.div_le_self _ _) hn
  have e := am_and_ok (a := n / 2 ^ c) (b := 1) h1 (by omega)
  rw [show ((1 : Nat) : Int) = 1 from rfl] at e
  rw [e, Nat.and_one_is_mod]
  have h2 : n / 2 ^ c % 2 = 0 ∨ n / 2 ^ c % 2 = 1 := by omega
  rcases h2 with h2 | h2
  · rw [h2, decide_eq_false (fun w => w.2.2 rfl)]; rfl
  · rw [h2, decide_eq_true ⟨by omega, by omega, by decide⟩]; rfl
def a_unw (V : am_Vw) (i j : Int) : am_V × Nat := if v_two V i j = true then (Sum.inl (am_bi (v_shuns (v_flip V i.toNat j.toNat) i j)), 0) else (Sum.inl (-1), 1)
def c_hunw (i j : Int) (h : Nat → Nat → Int) : Nat → Nat → Int := am_up (am_up h 6 i.toNat (am_xor (h 6 i.toNat) (am_shl 1 (j.toNat : Int)))) 24 3 0
def m_hunw (i j : Int) (h : Nat → Nat → Int) : Nat → Nat → Int := am_up (am_up h 74 i.toNat (am_xor (h 74 i.toNat) (am_shl 1 (j.toNat : Int)))) 70 31 0
theorem c_unwilling {d L kp : Nat} {h : Nat → Nat → Int} {i j : Int} (hd : 30 ≤ d) (hv : v_ok (am_wv h 2)) : am_Ch L (a_unw (am_wv h 2) i j).1 (am_hif 41 (a_unw (am_wv h 2) i j).2 (c_hunw i j) h) (fun Q => am_Wp d 58 0 [some (Sum.inr (Sum.inr 1)), some (Sum.inl i), some (Sum.inl j)] [] (am_SH L, h, am_RR kp) Q) := by
  intro Q hq
  show am_Wp d 58 0 [some (Sum.inr (Sum.inr 1)), some (Sum.inl i), some (Sum.inl j)] [] (am_SH L, h, am_RR kp) Q
  unfold a_unw at hq
  rw [bq_KO_unwilling_0 (by omega), sp_KO_areTwo (by omega)]
  simp only [Option.toList_some, Option.toList_none, List.cons_append, List.nil_append]
  rw [bq_KO_unwilling_6 (by omega)]
  cases ht : v_two (am_wv h 2) i j
  · rw [ht, if_neg (by decide)] at hq
    rw [if_pos am_bif, sp_KO_refuse (by omega) (by omega) (by omega)]
    simp only [Option.toList_some, Option.toList_none, List.cons_append, List.nil_append]
    rw [bq_KO_unwilling_14]
    exact hq _ kp am_keep_r
  · rw [ht, if_pos rfl, am_hif_0] at hq
    rw [if_neg am_b0]
    refine sp_World_flip_2 (by omega) hv (fun a c ea ec _ => ?_) (fun w => absurd (ht.symm.trans w) (by decide))
    have e : c_hunw i j h = am_up (am_up h 6 a (am_xor (h 6 a) (am_shl 1 (c : Int)))) 24 3 0 := by
      unfold c_hunw; rw [ea, ec, Int.toNat_natCast, Int.toNat_natCast]
    simp only [Option.toList_some, Option.toList_none, List.cons_append, List.nil_append]
    rw [bq_KO_unwilling_24 (by omega), sp_Past_forget]
    simp only [Option.toList_some, Option.toList_none, List.cons_append, List.nil_append]
    rw [bq_KO_unwilling_32 (by omega), sp_World_shuns_2 (by omega)]
    simp only [Option.toList_some, Option.toList_none, List.cons_append, List.nil_append]
    rw [bq_KO_unwilling_41]
    have h3 := hq _ kp am_keep_r
    rw [e] at h3
    have e5 : v_shuns (am_wv (am_up (am_up h 6 a (am_xor (h 6 a) (am_shl 1 (c : Int)))) 24 3 0) 2) i j = v_shuns (v_flip (am_wv h 2) i.toNat j.toNat) i j := by
      rw [ea, ec, Int.toNat_natCast, Int.toNat_natCast]; rfl
    rw [e5]
    revert h3
    show Q (some (Sum.inl (am_bi (v_shuns (v_flip (am_wv h 2) i.toNat j.toNat) i j)))) _ → _
    cases v_shuns (v_flip (am_wv h 2) i.toNat j.toNat) i j
    · intro h3
      rw [if_pos am_bif, bq_KO_unwilling_49]; exact h3
    · intro h3
      rw [if_neg am_b0, bq_KO_unwilling_49]; exact h3
theorem m_unwilling {d L kp : Nat} {h : Nat → Nat → Int} {i j : Int} (hd : 30 ≤ d) (hv : v_ok (am_mv h)) : am_Ch L (a_unw (am_mv h) i j).1 (am_hif 81 (a_unw (am_mv h) i j).2 (m_hunw i j) h) (fun Q => am_Wp d 218 0 [some (Sum.inr (Sum.inr 70)), some (Sum.inl i), some (Sum.inl j)] [] (am_SH L, h, am_RR kp) Q) := by
  intro Q hq
  show am_Wp d 218 0 [some (Sum.inr (Sum.inr 70)), some (Sum.inl i), some (Sum.inl j)] [] (am_SH L, h, am_RR kp) Q
  unfold a_unw at hq
  have h81 : ∀ j, am_rel 81 j = true := fun _ => rfl
  have hv2 : v_ok (am_mv (am_up h 70 13 0)) := hv
  have hP := mv_P hv
  rw [bq_M_unwilling_0 (by omega), sp_M_areTwo (by omega) hv2]
  simp only [Option.toList_some, Option.toList_none, List.cons_append, List.nil_append]
  rw [bq_M_unwilling_11 (by omega), show am_mv (am_up h 70 13 0) = am_mv h from rfl]
  cases ht : v_two (am_mv h) i j
  · rw [ht, if_neg (by decide)] at hq
    rw [if_pos am_bif, sp_M_refuse (by omega) (by omega)]
    simp only [Option.toList_some, Option.toList_none, List.cons_append, List.nil_append]
    rw [bq_M_unwilling_19]
    exact hq _ kp (am_keep_bb h81 am_keep_70)
  · rw [ht, if_pos rfl, am_hif_0] at hq
    rw [if_neg am_b0]
    obtain ⟨f1, f2, -⟩ := v_two_iff.1 ht
    obtain ⟨a, rfl⟩ := Int.eq_ofNat_of_zero_le f1.1
    obtain ⟨c, rfl⟩ := Int.eq_ofNat_of_zero_le f2.1
    have e : m_hunw (a : Int) (c : Int) h = am_up (am_up h 74 a (am_xor (h 74 a) (am_shl 1 (c : Int)))) 70 31 0 := rfl
    have hP2 : vP (am_mv h) ≤ 7 := hP.2
    rw [am_gd (by omega) (by omega), am_gd (by omega) (by omega), am_gd (by omega) (by omega), Int.toNat_natCast]
    have h3 := hq _ kp (am_keep_upup (am_keep_upup am_keep_70))
    have hx := am_xor_bit (mv_i hv a (by omega)).2.2.2.1 (mv_i hv a (by omega)).2.2.2.2 (show c < 7 by omega)
    obtain ⟨n, hn⟩ := Int.eq_ofNat_of_zero_le hx.1
    have hn2 : n < 2147483648 := by omega
    have e5 : am_and (am_shr (am_up (am_up (am_up h 70 13 0) 74 a (am_xor (am_up h 70 13 0 74 a) (am_shl 1 (c : Int)))) 70 31 0 74 a) (c : Int)) 1 = am_bi (v_shuns (v_flip (am_mv h) (a : Int).toNat (c : Int).toNat) (a : Int) (c : Int)) := by
      have e6 : am_up (am_up (am_up h 70 13 0) 74 a (am_xor (am_up h 70 13 0 74 a) (am_shl 1 (c : Int)))) 70 31 0 74 a = (n : Int) := (if_pos rfl).trans hn
      rw [e6, an_bit1 hn2 (by omega)]
      unfold v_shuns
      rw [am_lk_nat (by omega), Int.toNat_natCast, Int.toNat_natCast]
      have e7 : vU (v_flip (am_mv h) a c) a = (n : Int) := (if_pos rfl).trans hn
      rw [e7]
    rw [e5]
    exact h3
theorem c_S_hunw {h : Nat → Nat → Int} {i j : Int} : c_S (c_hunw i j h) = (v_flip (am_wv h 2) i.toNat j.toNat, (am_wv h 13, am_wv h 29), h 1 2, h 25, h 26, h 24 2, 0, h 28, h 27 1, h 40, h 1 6, h 41) := rfl
theorem m_S_hunw {h : Nat → Nat → Int} {i j : Int} : m_S (m_hunw i j h) = (v_flip (am_mv h) i.toNat j.toNat, h 70 25, h 87, h 88, 0, h 82, h 70 16, h 98, h 70 46, h 81) := rfl
theorem m_S_c0 {h : Nat → Nat → Int} {i j : Int} : m_S (c_hunw i j h) = m_S h ∧ c_hunw i j h 0 = h 0 := ⟨rfl, rfl⟩
theorem c_S_m0 {h : Nat → Nat → Int} {i j : Int} : c_S (m_hunw i j h) = c_S h ∧ m_hunw i j h 0 = h 0 := ⟨rfl, rfl⟩
theorem a_unw_0 {V : am_Vw} {i j : Int} (q : (a_unw V i j).2 = 0) : v_two V i j = true := by
  revert q
  unfold a_unw
  cases v_two V i j
  · intro q; exact absurd q (by show ¬ (1 : Nat) = 0; omega)
  · exact fun _ => rfl
theorem p_unwilling {d : Nat} {i j : Int} (hd : 30 ≤ d) : am_PR am_isI (fun h L kp Q => am_Wp d 58 0 [some (Sum.inr (Sum.inr 1)), some (Sum.inl i), some (Sum.inl j)] [] (am_SH L, h, am_RR kp) Q) (fun h L kp Q => am_Wp d 218 0 [some (Sum.inr (Sum.inr 70)), some (Sum.inl i), some (Sum.inl j)] [] (am_SH L, h, am_RR kp) Q) := by
  refine am_PR_A (fun h => a_unw (am_wv h 2) i j) (fun h => a_unw (am_mv h) i j) (c_hunw i j) (m_hunw i j) (fun h => by show am_isI (a_unw _ i j).1; unfold a_unw; (repeat' split) <;> exact ⟨_, rfl⟩) (fun h L kp hi => c_unwilling hd (am_INV_u.1 hi).1.1) (fun h g L kp hi eg => m_unwilling hd (am_INV_g hi eg).1) (fun h g hi eg => ?_) (fun h hi => m_S_c0) (fun h g hi eg q => ⟨?_, c_S_m0.1, c_S_m0.2⟩) (fun h hi q => ?_)
  · show a_unw (am_mv g) i j = _
    rw [(am_INV_g hi eg).2.2]
  · obtain ⟨k0, k1, k2, k3, k4, k5, k6, k7, k8, k9⟩ := m_S_c eg
    rw [m_S_hunw, m_S_hunw, k0, k1, k2, k3, k5, k6, k7, k8, k9]
  · obtain ⟨⟨b1, b2, b3⟩, b4, b5, b6, b7⟩ := am_INV_u.1 hi
    obtain ⟨f1, f2, -⟩ := v_two_iff.1 (a_unw_0 q)
    have hP := v_ok_P b1
    rw [c_S_hunw, m_S_hunw, b3]
    exact ⟨⟨v_ok_flip b1 (by omega) (by omega), v_z_flip b2 (by omega), rfl⟩, b4, i_P_0 b5, b6, b7.1, b7.2.1, v_nI_0 b7.2.2 (v_nl_flip b7.2.2.1)⟩