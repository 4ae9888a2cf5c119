/-! WHAT LASTS, of the class and of the reference, and what holds between the two from call to call -/
def v_o (n : Nat) (f : Nat → Int) : Prop := ∀ j, n ≤ j → f j = 0
def v_z (V : am_Vw) : Prop := (v_o 7 (vK V) ∧ v_o 7 (vF V) ∧ v_o 7 (vS V) ∧ v_o 7 (vU V)) ∧ v_o 16 (vO V) ∧ v_o 16 (vH V) ∧ v_o 16 (vN V) ∧ v_o 16 (vE V) ∧ v_o 16 (vG V) ∧ v_o 16 (vT V)
/-- a World out of the numbers carried, from b on -/
def v_c4 (t : Nat → Int) (b c : Nat) : Nat → Int := fun j => if j < 7 then t (b + (3 + 4 * j + c)) else 0
def v_c6 (t : Nat → Int) (b c : Nat) : Nat → Int := fun j => if j < 16 then t (b + (31 + 6 * j + c)) else 0
def v_of (t : Nat → Int) (b : Nat) : am_Vw := ((t b, t (b + 2), t (b + 1)), v_c4 t b 0, v_c4 t b 1, v_c4 t b 2, v_c4 t b 3, v_c6 t b 0, v_c6 t b 1, v_c6 t b 2, v_c6 t b 3, v_c6 t b 4, v_c6 t b 5)
theorem v_z_of {t : Nat → Int} {b : Nat} : v_z (v_of t b) := by
  have h4 : ∀ c, v_o 7 (v_c4 t b c) := fun c j hj => if_neg (by omega)
  have h6 : ∀ c, v_o 16 (v_c6 t b c) := fun c j hj => if_neg (by omega)
  exact ⟨⟨h4 0, h4 1, h4 2, h4 3⟩, h6 0, h6 1, h6 2, h6 3, h6 4, h6 5⟩
theorem v_of_c {t u : Nat → Int} {a b : Nat} (h : ∀ n, n < 127 → t (a + n) = u (b + n)) : v_of t a = v_of u b := by
  have h4 : ∀ c, c < 4 → v_c4 t a c = v_c4 u b c := fun c hc => by
    funext j
    unfold v_c4
    by_cases hj : j < 7
    · rw [if_pos hj, if_pos hj]; exact h _ (by omega)
    · rw [if_neg hj, if_neg hj]
  have h6 : ∀ c, c < 6 → v_c6 t a c = v_c6 u b c := fun c hc => by
    funext j
    unfold v_c6
    by_cases hj : j < 16
    · rw [if_pos hj, if_pos hj]; exact h _ (by omega)
    · rw [if_neg hj, if_neg hj]
  unfold v_of
  rw [show t a = u b from h 0 (by omega), h 2 (by omega), h 1 (by omega), h4 0 (by omega), h4 1 (by omega), h4 2 (by omega), h4 3 (by omega), h6 0 (by omega), h6 1 (by omega), h6 2 (by omega), h6 3 (by omega), h6 4 (by omega), h6 5 (by omega)]
/-- what is taken is the World -/
theorem v_of_car {h : Nat → Nat → Int} (hz : v_z (am_mv h)) : v_of (am_car h) 0 = am_mv h := by
  obtain ⟨⟨z0, z1, z2, z3⟩, y0, y1, y2, y3, y4, y5⟩ := hz
  have h4 : ∀ c, c < 4 → v_o 7 (h (71 + c)) → v_c4 (am_car h) 0 c = h (71 + c) := fun c hc hz => by
    funext j
    unfold v_c4
    by_cases hj : j < 7
    · rw [if_pos hj, Nat.zero_add, am_car_1 hj hc]
    · rw [if_neg hj]; exact (hz j (by omega)).symm
  have h6 : ∀ c, c < 6 → v_o 16 (h (75 + c)) → v_c6 (am_car h) 0 c = h (75 + c) := fun c hc hz => by
    funext j
    unfold v_c6
    by_cases hj : j < 16
    · rw [if_pos hj, Nat.zero_add, am_car_2 hc]
    · rw [if_neg hj]; exact (hz j (by omega)).symm
  unfold v_of
  rw [h4 0 (by omega) z0, h4 1 (by omega) z1, h4 2 (by omega) z2, h4 3 (by omega) z3, h6 0 (by omega) y0, h6 1 (by omega) y1, h6 2 (by omega) y2, h6 3 (by omega) y3, h6 4 (by omega) y4, h6 5 (by omega) y5]
  rfl
/-- what is put back is the World -/
theorem v_puk {h : Nat → Nat → Int} {a : Nat} (hz : v_z (am_mv h)) : am_mv (am_puk h a 127) = v_of (h a) 0 := by
  obtain ⟨⟨z0, z1, z2, z3⟩, y0, y1, y2, y3, y4, y5⟩ := hz
  have h4 : ∀ c, c < 4 → v_o 7 (h (71 + c)) → am_puk h a 127 (71 + c) = v_c4 (h a) 0 c := fun c hc hz => by
    funext j
    unfold v_c4
    by_cases hj : j < 7
    · have e : am_ix (71 + c) j = 3 + 4 * j + c := by
        unfold am_ix
        rw [if_neg (by omega), if_neg (by omega), if_pos (by omega), if_pos hj]; omega
      unfold am_puk
      rw [if_pos hj, e, if_pos (by omega), Nat.zero_add]
    · have e : am_ix (71 + c) j = 1000 := by
        unfold am_ix
        rw [if_neg (by omega), if_neg (by omega), if_pos (by omega), if_neg hj]
      unfold am_puk
      rw [if_neg hj, e, if_neg (by omega), if_neg (by omega)]
      exact hz j (by omega)
  have h6 : ∀ c, c < 6 → v_o 16 (h (75 + c)) → am_puk h a 127 (75 + c) = v_c6 (h a) 0 c := fun c hc hz => by
    funext j
    unfold v_c6
    by_cases hj : j < 16
    · have e : am_ix (75 + c) j = 31 + 6 * j + c := by
        unfold am_ix
        rw [if_neg (by omega), if_neg (by omega), if_neg (by omega), if_pos (by omega), if_pos hj]; omega
      unfold am_puk
      rw [if_pos hj, e, if_pos (by omega), Nat.zero_add]
    · have e : am_ix (75 + c) j = 1000 := by
        unfold am_ix
        rw [if_neg (by omega), if_neg (by omega), if_neg (by omega), if_pos (by omega), if_neg hj]
      unfold am_puk
      rw [if_neg hj, e, if_neg (by omega), if_neg (by omega)]
      exact hz j (by omega)
  show (_, am_puk h a 127 71, am_puk h a 127 72, am_puk h a 127 73, am_puk h a 127 74, am_puk h a 127 75, am_puk h a 127 76, am_puk h a 127 77, am_puk h a 127 78, am_puk h a 127 79, am_puk h a 127 80) = _
  rw [h4 0 (by omega) z0, h4 1 (by omega) z1, h4 2 (by omega) z2, h4 3 (by omega) z3, h6 0 (by omega) y0, h6 1 (by omega) y1, h6 2 (by omega) y2, h6 3 (by omega) y3, h6 4 (by omega) y4, h6 5 (by omega) y5]
  rfl
/-- what a call takes back: a paper made over, a DAY gone by -/
def v_uov (V : am_Vw) (p f : Nat) : am_Vw := (V.1, vK V, vF V, vS V, vU V, vO V, am_sx (vH V) p (f : Int), vN V, vE V, vG V, am_sx (vT V) p 0)
def v_uki (V : am_Vw) (b n j : Nat) : Int := am_for (fun p s => if Nat.testBit b p = true ∧ vT V p = 1 ∧ vH V p = (j : Int) then am_add s (-(vN V p)) else s) n (vS V j)
def v_ust (V : am_Vw) (b n j : Nat) : Int := if j < n ∧ Nat.testBit b j = true then 0 else vT V j
def v_uday (V : am_Vw) (b : Nat) : am_Vw := ((vP V, vQ V, am_max 0 (am_sub (vD V) 1)), vK V, vF V, v_uki V b (vQ V).toNat, vU V, vO V, vH V, vN V, vE V, vG V, v_ust V b (vQ V).toNat)
/-- V comes by taking back (p, f) from U -/
def v_un (p f : Int) (U V : am_Vw) : Prop := (p = -1 ∧ ∃ b : Nat, f = (b : Int) ∧ b < 65536 ∧ v_uday U b = V) ∨ (∃ k c : Nat, p = (k : Int) ∧ f = (c : Int) ∧ k < 16 ∧ c < 7 ∧ v_uov U k c = V)
/-- the Worlds from turn to turn -/
def v_twn (V : am_Vw) (tu : Nat → Int) (n i : Nat) : am_Vw := if i < n then v_of tu (127 * i) else V
def i_P (V : am_Vw) (pa fo : Nat → Int) (po : Int) (ps : Int) (tu : Nat → Int) (tn : Int) : Prop := ∃ o n : Nat, po = (o : Int) ∧ ps = (n : Int) ∧ tn = (n : Int) ∧ o < 8 ∧ n ≤ 8 ∧ ∀ i, i < n → v_ok (v_of tu (127 * i)) ∧ v_un (pa ((o + i) % 8)) (fo ((o + i) % 8)) (v_twn V tu n (i + 1)) (v_of tu (127 * i))
theorem i_P_0 {V V' : am_Vw} {pa fo : Nat → Int} {po ps : Int} {tu : Nat → Int} {tn : Int} (hp : i_P V pa fo po ps tu tn) : i_P V' pa fo po 0 tu 0 := by
  obtain ⟨o, n, h1, h2, h3, h4, h5, h6⟩ := hp
  exact ⟨o, 0, h1, rfl, rfl, h4, by omega, fun i hi => absurd hi (by omega)⟩
abbrev am_CS : Type := am_Vw × (am_Vw × am_Vw) × Int × (Nat → Int) × (Nat → Int) × Int × Int × (Nat → Int) × Int × (Nat → Int) × Int × (Nat → Int)
abbrev am_MS : Type := am_Vw × Int × (Nat → Int) × (Nat → Int) × Int × (Nat → Int) × Int × (Nat → Int) × Int × (Nat → Int)
/-- class: World, imaged World and draft, whether there is one, papers, formers, oldest, size, letters, how many, row, how many, refusals -/
abbrev c_S (h : Nat → Nat → Int) : am_CS := (am_wv h 2, (am_wv h 13, am_wv h 29), h 1 2, h 25, h 26, h 24 2, h 24 3, h 28, h 27 1, h 40, h 1 6, h 41)
/-- reference: World, whether there is an image, image, turns, how many, letters, how many, row, how many, refusals -/
abbrev m_S (h : Nat → Nat → Int) : am_MS := (am_mv h, h 70 25, h 87, h 88, h 70 31, h 82, h 70 16, h 98, h 70 46, h 81)
/-- no one owes himself what is OPEN -/
def v_nl (V : am_Vw) : Prop := ∀ p : Nat, (p : Int) < vQ V → vT V p = 0 → ¬ vO V p = vH V p
def v_nI (V : am_Vw) (hi : Int) (I : am_Vw) (tu : Nat → Int) (tn : Int) : Prop := v_nl V ∧ (hi = 1 → v_nl I) ∧ ∀ i : Nat, (i : Int) < tn → v_nl (v_of tu (127 * i))
theorem v_nI_0 {V V2 I : am_Vw} {hi tn : Int} {tu tu2 : Nat → Int} (h : v_nI V hi I tu tn) (h2 : v_nl V2) : v_nI V2 hi I tu2 0 := ⟨h2, h.2.1, fun i hi => absurd hi (by omega)⟩
def am_INV : am_CS → am_MS → Prop
  | (V, (I, D), hi, pa, fo, po, ps, le, ln, ro, rn, rf), (V', hi', im, tu, tn, le', ln', ro', rn', rf') =>
    (v_ok V ∧ v_z V ∧ V' = V) ∧ ((v_z I ∧ v_z D) ∧ hi' = hi ∧ (hi = 0 ∨ (hi = 1 ∧ v_ok I ∧ v_of im 0 = I))) ∧ i_P V pa fo po ps tu tn ∧ (le' = le ∧ ln' = ln ∧ (0 ≤ ln ∧ ln ≤ 96) ∧ ∀ j, 0 ≤ le j ∧ le j ≤ 255) ∧ (ro' = ro ∧ rn' = rn ∧ (0 ≤ rn ∧ rn ≤ 12) ∧ ∀ j, 0 ≤ ro j ∧ ro j ≤ 99) ∧ rf' = rf ∧ v_nI V hi I tu tn
theorem am_keep_S {h g : Nat → Nat → Int} (hk : am_keep h g) : c_S g = c_S h ∧ m_S g = m_S h ∧ g 0 = h 0 := by
  have e : ∀ a, (∀ j, am_rel a j = true) → g a = h a := fun a ha => am_keep_c hk a ha
  refine ⟨?_, ?_, e 0 (fun _ => rfl)⟩
  · show (am_wv g 2, (am_wv g 13, am_wv g 29), g 1 2, g 25, g 26, g 24 2, g 24 3, g 28, g 27 1, g 40, g 1 6, g 41) = _
    have ei : am_wv g 13 = am_wv h 13 := by
      show (_, _, _, _, _, _, _, _, _, _, _) = _
      rw [hk 13 0 rfl, hk 13 1 rfl, hk 13 2 rfl, e 14 (fun _ => rfl), e 15 (fun _ => rfl), e 16 (fun _ => rfl), e 17 (fun _ => rfl), e 18 (fun _ => rfl), e 19 (fun _ => rfl), e 20 (fun _ => rfl), e 21 (fun _ => rfl), e 22 (fun _ => rfl), e 23 (fun _ => rfl)]
    have ed : am_wv g 29 = am_wv h 29 := by
      show (_, _, _, _, _, _, _, _, _, _, _) = _
      rw [hk 29 0 rfl, hk 29 1 rfl, hk 29 2 rfl, e 30 (fun _ => rfl), e 31 (fun _ => rfl), e 32 (fun _ => rfl), e 33 (fun _ => rfl), e 34 (fun _ => rfl), e 35 (fun _ => rfl), e 36 (fun _ => rfl), e 37 (fun _ => rfl), e 38 (fun _ => rfl), e 39 (fun _ => rfl)]
    rw [am_keep_wv hk, ei, ed, hk 1 2 rfl, e 25 (fun _ => rfl), e 26 (fun _ => rfl), hk 24 2 rfl, hk 24 3 rfl, e 28 (fun _ => rfl), hk 27 1 rfl, e 40 (fun _ => rfl), hk 1 6 rfl, e 41 (fun _ => rfl)]
  · show (am_mv g, g 70 25, g 87, g 88, g 70 31, g 82, g 70 16, g 98, g 70 46, g 81) = _
    rw [am_keep_mv hk, hk 70 25 rfl, e 87 (fun _ => rfl), e 88 (fun _ => rfl), hk 70 31 rfl, e 82 (fun _ => rfl), hk 70 16 rfl, e 98 (fun _ => rfl), hk 70 46 rfl, e 81 (fun _ => rfl)]
/-- a call of the class, of the reference: its answer, what lasts behind it -/
def am_SC (h : Nat → Nat → Int) (r : am_V) (c : am_CS) (W : Nat → Nat → (Option am_V → am_H → Prop) → Prop) : Prop := ∀ (L kp : Nat) (Q : Option am_V → am_H → Prop), (∀ g kq, g 0 = h 0 → c_S g = c → m_S g = m_S h → Q (some r) (am_SH L, g, am_RR kq)) → W L kp Q
def am_SM (h : Nat → Nat → Int) (r : am_V) (m : am_MS) (W : Nat → Nat → (Option am_V → am_H → Prop) → Prop) : Prop := ∀ (L kp : Nat) (Q : Option am_V → am_H → Prop), (∀ g kq, g 0 = h 0 → m_S g = m → c_S g = c_S h → Q (some r) (am_SH L, g, am_RR kq)) → W L kp Q
def am_isI (r : am_V) : Prop := ∃ x, r = Sum.inl x
def am_isJ (r : am_V) : Prop := ∃ x, r = Sum.inr (Sum.inl x)
/-- a call of both: they answer alike, and what holds between them holds behind it -/
def am_PR (T : am_V → Prop) (WC WM : (Nat → Nat → Int) → Nat → Nat → (Option am_V → am_H → Prop) → Prop) : Prop := ∀ h, am_INV (c_S h) (m_S h) → ∃ (r : am_V) (c : am_CS) (m : am_MS), T r ∧ am_SC h r c (WC h) ∧ (∀ g, c_S g = c → m_S g = m_S h → am_SM g r m (WM g)) ∧ am_INV c m
/-- refusals counted -/
def v_rf (r : Nat) (f : Nat → Int) : Nat → Int := match r with
  | 0 => f
  | n + 1 => am_sx f (n + 1) (am_add (f (n + 1)) 1)
def c_rf (r : Nat) (c : am_CS) : am_CS := (c.1, c.2.1, c.2.2.1, c.2.2.2.1, c.2.2.2.2.1, c.2.2.2.2.2.1, c.2.2.2.2.2.2.1, c.2.2.2.2.2.2.2.1, c.2.2.2.2.2.2.2.2.1, c.2.2.2.2.2.2.2.2.2.1, c.2.2.2.2.2.2.2.2.2.2.1, v_rf r c.2.2.2.2.2.2.2.2.2.2.2)
def m_rf (r : Nat) (m : am_MS) : am_MS := (m.1, m.2.1, m.2.2.1, m.2.2.2.1, m.2.2.2.2.1, m.2.2.2.2.2.1, m.2.2.2.2.2.2.1, m.2.2.2.2.2.2.2.1, m.2.2.2.2.2.2.2.2.1, v_rf r m.2.2.2.2.2.2.2.2.2)
theorem c_bump {h : Nat → Nat → Int} {r : Nat} : c_S (am_bump 41 r h) = c_rf r (c_S h) ∧ m_S (am_bump 41 r h) = m_S h ∧ am_bump 41 r h 0 = h 0 := by
  cases r with
  | zero => exact ⟨rfl, rfl, rfl⟩
  | succ n => exact ⟨rfl, rfl, rfl⟩
theorem m_bump {h : Nat → Nat → Int} {r : Nat} : m_S (am_bump 81 r h) = m_rf r (m_S h) ∧ c_S (am_bump 81 r h) = c_S h ∧ am_bump 81 r h 0 = h 0 := by
  cases r with
  | zero => exact ⟨rfl, rfl, rfl⟩
  | succ n => exact ⟨rfl, rfl, rfl⟩
theorem am_INV_rf {r : Nat} {c : am_CS} {m : am_MS} (hi : am_INV c m) : am_INV (c_rf r c) (m_rf r m) := by
  obtain ⟨V, ⟨I, D⟩, hi1, pa, fo, po, ps, le, ln, ro, rn, rf⟩ := c
  obtain ⟨V', hi2, im, tu, tn, le', ln', ro', rn', rf'⟩ := m
  obtain ⟨h1, h2, h3, h4, h5, h6⟩ := hi
  exact ⟨h1, h2, h3, h4, h5, (by show v_rf r rf' = v_rf r rf; rw [h6.1]), h6.2⟩
theorem am_SC_An {h : Nat → Nat → Int} {A : am_V × Nat} {W : Nat → Nat → (Option am_V → am_H → Prop) → Prop} (hc : ∀ L kp, am_An L 41 A h (W L kp)) : am_SC h A.1 (c_rf A.2 (c_S h)) W := fun L kp Q hq => hc L kp Q fun g kq hk => by
  obtain ⟨k1, k2, k3⟩ := am_keep_S hk
  obtain ⟨b1, b2, b3⟩ := c_bump (h := g) (r := A.2)
  exact hq _ kq (b3.trans k3) (by rw [b1, k1]) (b2.trans k2)
theorem am_SM_An {h : Nat → Nat → Int} {A : am_V × Nat} {W : Nat → Nat → (Option am_V → am_H → Prop) → Prop} (hm : ∀ L kp, am_An L 81 A h (W L kp)) : am_SM h A.1 (m_rf A.2 (m_S h)) W := fun L kp Q hq => hm L kp Q fun g kq hk => by
  obtain ⟨k1, k2, k3⟩ := am_keep_S hk
  obtain ⟨b1, b2, b3⟩ := m_bump (h := g) (r := A.2)
  exact hq _ kq (b3.trans k3) (by rw [b1, k2]) (b2.trans k1)
theorem am_SC_Ch {h h2 : Nat → Nat → Int} {r : am_V} {c : am_CS} {W : Nat → Nat → (Option am_V → am_H → Prop) → Prop} (hc : ∀ L kp, am_Ch L r h2 (W L kp)) (e1 : c_S h2 = c) (e2 : m_S h2 = m_S h) (e3 : h2 0 = h 0) : am_SC h r c W := fun L kp Q hq => hc L kp Q fun g kq hk => by
  obtain ⟨k1, k2, k3⟩ := am_keep_S hk
  exact hq _ kq (k3.trans e3) (k1.trans e1) (k2.trans e2)
theorem am_SM_Ch {h h2 : Nat → Nat → Int} {r : am_V} {m : am_MS} {W : Nat → Nat → (Option am_V → am_H → Prop) → Prop} (hm : ∀ L kp, am_Ch L r h2 (W L kp)) (e1 : m_S h2 = m) (e2 : c_S h2 = c_S h) (e3 : h2 0 = h 0) : am_SM h r m W := fun L kp Q hq => hm L kp Q fun g kq hk => by
  obtain ⟨k1, k2, k3⟩ := am_keep_S hk
  exact hq _ kq (k3.trans e3) (k2.trans e1) (k1.trans e2)
theorem am_INV_V {h : Nat → Nat → Int} (hi : am_INV (c_S h) (m_S h)) : v_ok (am_wv h 2) ∧ v_z (am_wv h 2) ∧ am_mv h = am_wv h 2 := hi.1
theorem am_SS {h g : Nat → Nat → Int} {r : Nat} (hc : c_S g = c_rf r (c_S h)) (hm : m_S g = m_S h) : am_wv g 2 = am_wv h 2 ∧ am_mv g = am_mv h ∧ g 40 = h 40 ∧ g 98 = h 98 ∧ g 1 6 = h 1 6 ∧ g 70 46 = h 70 46 := ⟨congrArg (fun c : am_CS => c.1) hc, congrArg (fun m : am_MS => m.1) hm, congrArg (fun c : am_CS => c.2.2.2.2.2.2.2.2.2.1) hc, congrArg (fun m : am_MS => m.2.2.2.2.2.2.2.1) hm, congrArg (fun c : am_CS => c.2.2.2.2.2.2.2.2.2.2.1) hc, congrArg (fun m : am_MS => m.2.2.2.2.2.2.2.2.1) hm⟩
