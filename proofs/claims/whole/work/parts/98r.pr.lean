/-! BOTH SIDES OF A CALL THAT CHANGES: image, restore, row, judge, clear -/
theorem am_INV_u {h g : Nat → Nat → Int} : am_INV (c_S h) (m_S g) ↔ ((v_ok (am_wv h 2) ∧ v_z (am_wv h 2) ∧ am_mv g = am_wv h 2) ∧ ((v_z (am_wv h 13) ∧ v_z (am_wv h 29)) ∧ g 70 25 = h 1 2 ∧ (h 1 2 = 0 ∨ (h 1 2 = 1 ∧ v_ok (am_wv h 13) ∧ v_of (g 87) 0 = am_wv h 13))) ∧ i_P (am_wv h 2) (h 25) (h 26) (h 24 2) (h 24 3) (g 88) (g 70 31) ∧ (g 82 = h 28 ∧ g 70 16 = h 27 1 ∧ (0 ≤ h 27 1 ∧ h 27 1 ≤ 96) ∧ ∀ j, 0 ≤ h 28 j ∧ h 28 j ≤ 255) ∧ (g 98 = h 40 ∧ g 70 46 = h 1 6 ∧ (0 ≤ h 1 6 ∧ h 1 6 ≤ 12) ∧ ∀ j, 0 ≤ h 40 j ∧ h 40 j ≤ 99) ∧ g 81 = h 41 ∧ v_nI (am_wv h 2) (h 1 2) (am_wv h 13) (g 88) (g 70 31)) := Iff.rfl
theorem am_mv_c {g h : Nat → Nat → Int} (e : am_mv g = am_mv h) : (g 70 0 = h 70 0 ∧ g 70 6 = h 70 6 ∧ g 70 5 = h 70 5) ∧ g 71 = h 71 ∧ g 72 = h 72 ∧ g 73 = h 73 ∧ g 74 = h 74 ∧ g 75 = h 75 ∧ g 76 = h 76 ∧ g 77 = h 77 ∧ g 78 = h 78 ∧ g 79 = h 79 ∧ g 80 = h 80 :=
  ⟨⟨congrArg vP e, congrArg vQ e, congrArg vD e⟩, congrArg vK e, congrArg vF e, congrArg vS e, congrArg vU e, congrArg vO e, congrArg vH e, congrArg vN e, congrArg vE e, congrArg vG e, congrArg vT e⟩
theorem m_S_c {g h : Nat → Nat → Int} (e : m_S g = m_S h) : am_mv g = am_mv h ∧ g 70 25 = h 70 25 ∧ g 87 = h 87 ∧ g 88 = h 88 ∧ g 70 31 = h 70 31 ∧ g 82 = h 82 ∧ g 70 16 = h 70 16 ∧ g 98 = h 98 ∧ g 70 46 = h 70 46 ∧ g 81 = h 81 :=
  ⟨congrArg (fun m : am_MS => m.1) e, congrArg (fun m : am_MS => m.2.1) e, congrArg (fun m : am_MS => m.2.2.1) e, congrArg (fun m : am_MS => m.2.2.2.1) e, congrArg (fun m : am_MS => m.2.2.2.2.1) e, congrArg (fun m : am_MS => m.2.2.2.2.2.1) e, congrArg (fun m : am_MS => m.2.2.2.2.2.2.1) e, congrArg (fun m : am_MS => m.2.2.2.2.2.2.2.1) e, congrArg (fun m : am_MS => m.2.2.2.2.2.2.2.2.1) e, congrArg (fun m : am_MS => m.2.2.2.2.2.2.2.2.2) e⟩
theorem m_S_mk {g h : Nat → Nat → Int} (e : am_mv g = am_mv h) (e1 : g 70 25 = h 70 25) (e2 : g 87 = h 87) (e3 : g 88 = h 88) (e4 : g 70 31 = h 70 31) (e5 : g 82 = h 82) (e6 : g 70 16 = h 70 16) (e7 : g 98 = h 98) (e8 : g 70 46 = h 70 46) (e9 : g 81 = h 81) : m_S g = m_S h := by
  show (am_mv g, g 70 25, g 87, g 88, g 70 31, g 82, g 70 16, g 98, g 70 46, g 81) = _
  rw [e, e1, e2, e3, e4, e5, e6, e7, e8, e9]
theorem am_mv_mk {g h : Nat → Nat → Int} (e0 : g 70 0 = h 70 0) (e1 : g 70 6 = h 70 6) (e2 : g 70 5 = h 70 5) (f1 : g 71 = h 71) (f2 : g 72 = h 72) (f3 : g 73 = h 73) (f4 : g 74 = h 74) (f5 : g 75 = h 75) (f6 : g 76 = h 76) (f7 : g 77 = h 77) (f8 : g 78 = h 78) (f9 : g 79 = h 79) (f10 : g 80 = h 80) : am_mv g = am_mv h := by
  show ((_, _, _), _, _, _, _, _, _, _, _, _, _) = _
  rw [e0, e1, e2, f1, f2, f3, f4, f5, f6, f7, f8, f9, f10]
theorem am_PR_Ch {T : am_V → Prop} {WC WM : (Nat → Nat → Int) → Nat → Nat → (Option am_V → am_H → Prop) → Prop} (r : (Nat → Nat → Int) → am_V) (hC hM : (Nat → Nat → Int) → Nat → Nat → Int) (hT : ∀ h, T (r h)) (hc : ∀ h L kp, am_INV (c_S h) (m_S h) → am_Ch L (r h) (hC h) (WC h L kp)) (hm : ∀ h g L kp, am_INV (c_S h) (m_S h) → m_S g = m_S h → am_Ch L (r h) (hM g) (WM g L kp)) (e1 : ∀ h, am_INV (c_S h) (m_S h) → m_S (hC h) = m_S h ∧ hC h 0 = h 0) (e2 : ∀ h g, am_INV (c_S h) (m_S h) → m_S g = m_S h → m_S (hM g) = m_S (hM h) ∧ c_S (hM g) = c_S g ∧ hM g 0 = g 0) (e3 : ∀ h, am_INV (c_S h) (m_S h) → am_INV (c_S (hC h)) (m_S (hM h))) : am_PR T WC WM := fun h hi =>
  ⟨r h, c_S (hC h), m_S (hM h), hT h, am_SC_Ch (fun L kp => hc h L kp hi) rfl (e1 h hi).1 (e1 h hi).2, fun g _ k2 => am_SM_Ch (fun L kp => hm h g L kp hi k2) (e2 h g hi k2).1 (e2 h g hi k2).2.1 (e2 h g hi k2).2.2, e3 h hi⟩
theorem am_car_c {g h : Nat → Nat → Int} (e : am_mv g = am_mv h) {n : Nat} : am_car g n = am_car h n := by
  obtain ⟨⟨a0, a1, a2⟩, f1, f2, f3, f4, f5, f6, f7, f8, f9, f10⟩ := am_mv_c e
  have h4 : ∀ c, c < 4 → g (71 + c) = h (71 + c) := fun c hc => by
    rcases (show c = 0 ∨ c = 1 ∨ c = 2 ∨ c = 3 by omega) with q | q | q | q <;> subst q <;> assumption
  have h6 : ∀ c, c < 6 → g (75 + c) = h (75 + c) := fun c hc => by
    rcases (show c = 0 ∨ c = 1 ∨ c = 2 ∨ c = 3 ∨ c = 4 ∨ c = 5 by omega) with q | q | q | q | q | q <;> subst q <;> assumption
  unfold am_car
  rw [a0, a1, a2, h4 _ (Nat.mod_lt _ (by omega)), h6 _ (Nat.mod_lt _ (by omega))]
theorem p_image {d : Nat} (hd : 30 ≤ d) : am_PR am_isI (fun h L kp Q => am_Wp d 184 0 [some (Sum.inr (Sum.inr 1))] [] (am_SH L, h, am_RR kp) Q) (fun h L kp Q => am_Wp d 211 0 [some (Sum.inr (Sum.inr 70))] [] (am_SH L, h, am_RR kp) Q) := by
  refine am_PR_Ch (fun h => Sum.inl (h 2 2)) (fun h => am_up (am_cw_13_2 h) 1 2 1) (fun h => am_tkk (am_up h 70 25 1) 87 127) (fun h => ⟨_, rfl⟩) (fun h L kp hi => c_image hd) (fun h g L kp hi eg => ?_) (fun h hi => ⟨rfl, rfl⟩) (fun h g hi eg => ⟨?_, rfl, rfl⟩) (fun h hi => ?_)
  · have e : g 70 5 = h 2 2 := (congrArg vD (m_S_c eg).1).trans (congrArg vD (am_INV_u.1 hi).1.2.2)
    exact e ▸ m_image hd
  · obtain ⟨k0, k1, k2, k3, k4, k5, k6, k7, k8, k9⟩ := m_S_c eg
    have ec : ∀ n, am_car (am_up g 70 25 1) n = am_car (am_up h 70 25 1) n := fun n => am_car_c (g := am_up g 70 25 1) (h := am_up h 70 25 1) (show am_mv g = am_mv h from k0)
    refine m_S_mk (show am_mv g = am_mv h from k0) rfl ?_ k3 k4 k5 k6 k7 k8 k9
    funext j
    show (if j < 127 then am_car (am_up g 70 25 1) j else g 87 j) = (if j < 127 then am_car (am_up h 70 25 1) j else h 87 j)
    rw [ec, k2]
  · obtain ⟨⟨b1, b2, b3⟩, ⟨b4, b5, b6⟩, b7, b8, b9, b10⟩ := am_INV_u.1 hi
    have ew : am_wv (am_up (am_cw_13_2 h) 1 2 1) 13 = am_wv h 2 := am_cw_13_2_w b2 b4.1
    refine am_INV_u.2 ⟨⟨b1, b2, b3⟩, ⟨⟨?_, b4.2⟩, rfl, Or.inr ⟨rfl, ?_, ?_⟩⟩, b7, b8, b9, b10.1, b10.2.1, fun _ => by rw [ew]; exact b10.2.1, b10.2.2.2⟩
    · rw [ew]; exact b2
    · rw [ew]; exact b1
    · rw [ew, ← b3]
      refine Eq.trans (v_of_c (u := am_car h) (b := 0) (fun n hn => ?_)) (v_of_car (by rw [b3]; exact b2))
      show (if 0 + n < 127 then am_car (am_up h 70 25 1) (0 + n) else _) = _
      rw [if_pos (by omega)]
      exact am_car_c (g := am_up h 70 25 1) (h := h) rfl
theorem p_restore {d : Nat} (hd : 30 ≤ d) : am_PR am_isI (fun h L kp Q => am_Wp d 185 0 [some (Sum.inr (Sum.inr 1))] [] (am_SH L, h, am_RR kp) Q) (fun h L kp Q => am_Wp d 212 0 [some (Sum.inr (Sum.inr 70))] [] (am_SH L, h, am_RR kp) Q) := by
  refine am_PR_Ch (fun h => Sum.inl (if h 1 2 = 0 then -3 else h 13 2)) c_hrest m_hrest (fun h => ⟨_, rfl⟩) (fun h L kp hi => c_restore hd) (fun h g L kp hi eg => ?_) (fun h hi => ?_) (fun h g hi eg => ?_) (fun h hi => ?_)
  · obtain ⟨k0, k1, k2, k3, k4, k5, k6, k7, k8, k9⟩ := m_S_c eg
    obtain ⟨⟨b1, b2, b3⟩, ⟨b4, b5, b6⟩, b7, b8, b9, b10⟩ := am_INV_u.1 hi
    have e : (if g 70 25 = 0 then (-3 : Int) else g 87 1) = (if h 1 2 = 0 then -3 else h 13 2) := by
      rw [k1, b5, k2]
      by_cases q : h 1 2 = 0
      · rw [if_pos q, if_pos q]
      · rw [if_neg q, if_neg q]
        rcases b6 with b6 | ⟨-, -, b6⟩
        · exact absurd b6 q
        · exact congrArg vD b6
    exact e ▸ m_restore hd
  · unfold c_hrest
    by_cases q : h 1 2 = 0
    · rw [if_pos q]; exact ⟨rfl, rfl⟩
    · rw [if_neg q]; exact ⟨rfl, rfl⟩
  · obtain ⟨k0, k1, k2, k3, k4, k5, k6, k7, k8, k9⟩ := m_S_c eg
    obtain ⟨⟨b1, b2, b3⟩, ⟨b4, b5, b6⟩, b7, b8, b9, b10⟩ := am_INV_u.1 hi
    unfold m_hrest
    rw [k1]
    by_cases q : h 70 25 = 0
    · rw [if_pos q, if_pos q]
      refine ⟨m_S_mk (show am_mv g = am_mv h from k0) k1 k2 k3 k4 k5 k6 k7 k8 ?_, rfl, rfl⟩
      show (fun b => if b = 3 then am_add (g 81 3) 1 else g 81 b) = (fun b => if b = 3 then am_add (h 81 3) 1 else h 81 b)
      rw [k9]
    · rw [if_neg q, if_neg q]
      have ha : ∀ f : Nat → Nat → Int, v_z (am_mv f) → am_mv (am_up (am_puk f 87 127) 70 31 0) = v_of (f 87) 0 := fun f hf => v_puk hf
      refine ⟨m_S_mk ?_ k1 k2 k3 rfl k5 k6 k7 k8 k9, rfl, rfl⟩
      rw [ha h (by rw [b3]; exact b2), ha g (by rw [k0, b3]; exact b2), k2]
  · obtain ⟨⟨b1, b2, b3⟩, ⟨b4, b5, b6⟩, b7, b8, b9, b10⟩ := am_INV_u.1 hi
    unfold c_hrest m_hrest
    rw [b5]
    by_cases q : h 1 2 = 0
    · rw [if_pos q, if_pos q]
      refine am_INV_u.2 ⟨⟨b1, b2, b3⟩, ⟨b4, b5, b6⟩, b7, b8, b9, ?_, b10.2⟩
      show (fun b => if b = 3 then am_add (h 81 3) 1 else h 81 b) = (fun b => if b = 3 then am_add (h 41 3) 1 else h 41 b)
      rw [b10.1]
    · rw [if_neg q, if_neg q]
      rcases b6 with b6 | ⟨c1, c2, c3⟩
      · exact absurd b6 q
      · have ew : am_wv (am_up (am_cw_2_13 h) 24 3 0) 2 = am_wv h 13 := am_cw_2_13_w b4.1 b2
        have em : am_mv (am_up (am_puk h 87 127) 70 31 0) = am_wv h 13 := (v_puk (by rw [b3]; exact b2)).trans c3
        refine am_INV_u.2 ⟨⟨by rw [ew]; exact c2, by rw [ew]; exact b4.1, em.trans ew.symm⟩, ⟨b4, b5, Or.inr ⟨c1, c2, c3⟩⟩, i_P_0 b7, b8, b9, b10.1, v_nI_0 b10.2 (by rw [ew]; exact b10.2.2.1 c1)⟩