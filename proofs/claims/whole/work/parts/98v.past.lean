/-! WHAT IS TAKEN BACK, on paper -/
def t_n1 (n : Nat) : Nat := if n = 8 then 7 else n
def t_o1 (o n : Nat) : Nat := if n = 8 then (o + 1) % 8 else o
def t_sh (tu : Nat → Int) (n : Nat) : Nat → Int := fun k => if n = 8 ∧ k < 889 then tu (k + 127) else tu k
def t_keep (tu : Nat → Int) (n : Nat) (car : Nat → Int) : Nat → Int := fun k => if 127 * t_n1 n ≤ k ∧ k < 127 * t_n1 n + 127 then car (k - 127 * t_n1 n) else t_sh tu n k
theorem t_n1_lt {n : Nat} (hn : n ≤ 8) : t_n1 n ≤ 7 := by unfold t_n1; split <;> omega
theorem t_o1_lt {o n : Nat} (ho : o < 8) : t_o1 o n < 8 := by unfold t_o1; split <;> omega
theorem i_P_drop {V : am_Vw} {pa fo tu : Nat → Int} {o n : Nat} (hp : ∀ i, i < n → v_ok (v_of tu (127 * i)) ∧ v_un (pa ((o + i) % 8)) (fo ((o + i) % 8)) (v_twn V tu n (i + 1)) (v_of tu (127 * i))) : ∀ i, i < t_n1 n → v_ok (v_of (t_sh tu n) (127 * i)) ∧ v_un (pa ((t_o1 o n + i) % 8)) (fo ((t_o1 o n + i) % 8)) (v_twn V (t_sh tu n) (t_n1 n) (i + 1)) (v_of (t_sh tu n) (127 * i)) := by
  by_cases q : n = 8
  · subst q
    have e1 : t_n1 8 = 7 := rfl
    have e2 : t_o1 o 8 = (o + 1) % 8 := rfl
    have e3 : ∀ i, i < 7 → v_of (t_sh tu 8) (127 * i) = v_of tu (127 * (i + 1)) := fun i hi => v_of_c (fun k hk => by
      unfold t_sh
      rw [if_pos ⟨rfl, by omega⟩]
      exact congrArg tu (by omega))
    rw [e1, e2]
    intro i hi
    have h1 := hp (i + 1) (by omega)
    have e4 : v_twn V (t_sh tu 8) 7 (i + 1) = v_twn V tu 8 (i + 1 + 1) := by
      unfold v_twn
      by_cases q2 : i + 1 < 7
      · rw [if_pos q2, if_pos (by omega), e3 _ q2]
      · rw [if_neg q2, if_neg (by omega)]
    rw [e3 i hi, e4, show ((o + 1) % 8 + i) % 8 = (o + (i + 1)) % 8 by omega]
    exact h1
  · have e1 : t_n1 n = n := if_neg q
    have e2 : t_o1 o n = o := if_neg q
    have e3 : t_sh tu n = tu := funext fun k => if_neg (fun w => q w.1)
    rw [e1, e2, e3]
    exact hp
theorem i_P_keep {V V2 : am_Vw} {pa fo tu car : Nat → Int} {po ps tn p f : Int} (hok : v_ok V) (hp : i_P V pa fo po ps tu tn) (hcar : v_of car 0 = V) (hu : v_un p f V2 V) : i_P V2 (am_sx pa ((t_o1 po.toNat ps.toNat + t_n1 ps.toNat) % 8) p) (am_sx fo ((t_o1 po.toNat ps.toNat + t_n1 ps.toNat) % 8) f) (t_o1 po.toNat ps.toNat : Int) ((t_n1 ps.toNat + 1 : Nat) : Int) (t_keep tu ps.toNat car) ((t_n1 ps.toNat + 1 : Nat) : Int) := by
  obtain ⟨o, n, h1, h2, h3, h4, h5, h6⟩ := hp
  subst h1; subst h2
  rw [Int.toNat_natCast, Int.toNat_natCast]
  have hd := i_P_drop h6
  have hn := t_n1_lt h5
  have ho := t_o1_lt (n := n) h4
  refine ⟨t_o1 o n, t_n1 n + 1, rfl, rfl, rfl, ho, by omega, fun i hi => ?_⟩
  have e1 : ∀ i, i < t_n1 n → v_of (t_keep tu n car) (127 * i) = v_of (t_sh tu n) (127 * i) := fun i hi => v_of_c (fun k hk => by
    unfold t_keep
    rw [if_neg (by omega)])
  have e2 : v_of (t_keep tu n car) (127 * t_n1 n) = V := by
    rw [← hcar]
    exact v_of_c (fun k hk => by
      unfold t_keep
      rw [if_pos (by omega)]
      exact congrArg car (by omega))
  by_cases q : i < t_n1 n
  · have h7 := hd i q
    rw [e1 i q, am_sx_n (show ¬ (t_o1 o n + i) % 8 = (t_o1 o n + t_n1 n) % 8 by omega), am_sx_n (show ¬ (t_o1 o n + i) % 8 = (t_o1 o n + t_n1 n) % 8 by omega)]
    have e4 : v_twn V2 (t_keep tu n car) (t_n1 n + 1) (i + 1) = v_twn V (t_sh tu n) (t_n1 n) (i + 1) := by
      unfold v_twn
      rw [if_pos (by omega)]
      by_cases q2 : i + 1 < t_n1 n
      · rw [if_pos q2, e1 _ q2]
      · rw [if_neg q2, show i + 1 = t_n1 n by omega, e2]
    rw [e4]
    exact h7
  · have q2 : i = t_n1 n := by omega
    subst q2
    rw [e2, am_sx_e, am_sx_e]
    refine ⟨hok, ?_⟩
    unfold v_twn
    rw [if_neg (by omega)]
    exact hu
theorem v_nI_keep {V V2 I : am_Vw} {hi : Int} {pa fo tu car : Nat → Int} {po ps tn : Int} (hp : i_P V pa fo po ps tu tn) (hN : v_nI V hi I tu tn) (hcar : v_of car 0 = V) (h2 : v_nl V2) : v_nI V2 hi I (t_keep tu ps.toNat car) ((t_n1 ps.toNat + 1 : Nat) : Int) := by
  obtain ⟨o, n, h1, h2', h3, h4, h5, h6⟩ := hp
  subst h2'
  rw [Int.toNat_natCast]
  refine ⟨h2, hN.2.1, fun i hi => ?_⟩
  by_cases q : i < t_n1 n
  · have e1 : v_of (t_keep tu n car) (127 * i) = v_of (t_sh tu n) (127 * i) := v_of_c (fun k hk => by
      unfold t_keep
      rw [if_neg (by omega)])
    rw [e1]
    by_cases q8 : n = 8
    · subst q8
      have e7 : t_n1 8 = 7 := rfl
      have e3 : v_of (t_sh tu 8) (127 * i) = v_of tu (127 * (i + 1)) := v_of_c (fun k hk => by
        unfold t_sh
        rw [if_pos ⟨rfl, by omega⟩]
        exact congrArg tu (by omega))
      rw [e3]
      exact hN.2.2 (i + 1) (by omega)
    · have e3 : t_sh tu n = tu := funext fun k => if_neg (fun w => q8 w.1)
      have e7 : t_n1 n = n := if_neg q8
      rw [e3]
      exact hN.2.2 i (by omega)
  · have e2 : v_of (t_keep tu n car) (127 * i) = V := by
      rw [← hcar]
      exact v_of_c (fun k hk => by
        unfold t_keep
        rw [if_pos (by omega)]
        exact congrArg car (by omega))
    rw [e2]; exact hN.1
theorem am_add_0 {x : Int} (hx : am_i32 x) : am_add x 0 = x := by
  rw [am_add_ok (by have := hx.1; omega) (by have := hx.2; omega), Int.add_zero]
theorem v_uki_s {V : am_Vw} {b n j : Nat} : v_uki V b (n + 1) j = if Nat.testBit b n = true ∧ vT V n = 1 ∧ vH V n = (j : Int) then am_add (v_uki V b n j) (-(vN V n)) else v_uki V b n j := rfl
theorem v_uki_ki {V : am_Vw} (hv : v_ok V) {j : Nat} (hj : am_i32 (vS V j)) {m : Nat} (hm : m ≤ (vQ V).toNat) : v_uki (v_day1 V) (v_dueb V (vQ V).toNat) m j = am_add (v_ki V (vQ V).toNat j) (-(am_sumb m (fun p => if v_due V p = true ∧ v_paid V (p : Int) = true ∧ vH V p = (j : Int) then vN V p else 0))) := by
  induction m with
  | zero =>
    show v_ki V (vQ V).toNat j = am_add _ (-0)
    have e : am_i32 (v_ki V (vQ V).toNat j) := by
      rw [v_ki_sum hj]; exact am_add_i32 _ _
    rw [Int.neg_zero, am_add_0 e]
  | succ m ih =>
    rw [v_uki_s, am_sumb_s, ih (by omega)]
    have e1 : Nat.testBit (v_dueb V (vQ V).toNat) m = v_due V m := by
      unfold v_dueb
      rw [am_bits_tb, decide_eq_true (show m < (vQ V).toNat by omega), Bool.true_and]
    have e2 : vH (v_day1 V) m = vH V m := rfl
    have e3 : vN (v_day1 V) m = vN V m := rfl
    have e4 : vT (v_day1 V) m = v_st V (vQ V).toNat m := rfl
    rw [e1, e2, e3, e4]
    by_cases q : v_due V m = true ∧ v_paid V (m : Int) = true ∧ vH V m = (j : Int)
    · have e5 : v_st V (vQ V).toNat m = 1 := by
        unfold v_st; rw [if_pos ⟨by omega, q.1⟩, if_pos q.2.1]
      rw [if_pos q, if_pos ⟨q.1, e5, q.2.2⟩, am_add_add, Int.neg_add]
    · rw [if_neg q, Int.add_zero, if_neg (fun w => ?_)]
      have e5 : v_st V (vQ V).toNat m = if v_paid V (m : Int) = true then 1 else 3 := by
        unfold v_st; rw [if_pos ⟨by omega, w.1⟩]
      have e6 := w.2.1
      rw [e5] at e6
      by_cases q2 : v_paid V (m : Int) = true
      · exact q ⟨w.1, q2, w.2.2⟩
      · rw [if_neg q2] at e6; omega
theorem v_uday_day {V : am_Vw} (hv : v_ok V) (hz : v_z V) : v_uday (v_day1 V) (v_dueb V (vQ V).toNat) = V := by
  have hD := v_ok_D hv
  have e1 : am_max 0 (am_sub (vD V + 1) 1) = vD V := by
    rw [am_sub_ok (by omega) (by omega)]
    unfold am_max
    split <;> omega
  have e2 : v_uki (v_day1 V) (v_dueb V (vQ V).toNat) (vQ V).toNat = vS V := by
    funext j
    have hj : am_i32 (vS V j) := by
      by_cases q : j < 7
      · exact (v_ok_i hv j q).2.2.1
      · rw [hz.1.2.2.1 j (by omega)]; unfold am_i32; omega
    rw [v_uki_ki hv hj (Nat.le_refl _), v_ki_sum hj, am_add_add, ← Int.sub_eq_add_neg, Int.sub_self, am_add_0 hj]
  have e3 : v_ust (v_day1 V) (v_dueb V (vQ V).toNat) (vQ V).toNat = vT V := by
    funext j
    unfold v_ust
    have e4 : vT (v_day1 V) j = v_st V (vQ V).toNat j := rfl
    rw [e4]
    by_cases q : j < (vQ V).toNat ∧ Nat.testBit (v_dueb V (vQ V).toNat) j = true
    · rw [if_pos q]
      have q2 := q.2
      unfold v_dueb at q2
      rw [am_bits_tb, Bool.and_eq_true] at q2
      have q3 := q2.2
      unfold v_due at q3
      exact (of_decide_eq_true q3).1.symm
    · rw [if_neg q]
      unfold v_st
      rw [if_neg (fun w => q ⟨w.1, ?_⟩)]
      unfold v_dueb
      rw [am_bits_tb, decide_eq_true w.1, Bool.true_and]
      exact w.2
  show ((_, _, am_max 0 (am_sub (vD V + 1) 1)), vK V, vF V, v_uki (v_day1 V) (v_dueb V (vQ V).toNat) (vQ V).toNat, vU V, vO V, vH V, vN V, vE V, vG V, v_ust (v_day1 V) (v_dueb V (vQ V).toNat) (vQ V).toNat) = V
  rw [e1, e2, e3]
  rfl
theorem v_dueb_lt {V : am_Vw} (hv : v_ok V) : v_dueb V (vQ V).toNat < 65536 := by
  have hQ := v_ok_Q hv
  have hlt : v_dueb V (vQ V).toNat < 2 ^ (vQ V).toNat := am_bits_lt
  have hlt3 : 2 ^ (vQ V).toNat ≤ 2 ^ 16 := Nat.pow_le_pow_right (by omega) (by omega)
  omega
theorem v_un_day {V : am_Vw} (hv : v_ok V) (hz : v_z V) : v_un (-1) ((v_dueb V (vQ V).toNat : Nat) : Int) (v_day1 V) V := Or.inl ⟨rfl, _, rfl, v_dueb_lt hv, v_uday_day hv hz⟩
theorem am_sx_back {f : Nat → Int} {i : Nat} {v x : Int} (hx : x = f i) : am_sx (am_sx f i v) i x = f := by
  funext j
  by_cases q : j = i
  · rw [q, am_sx_e, hx]
  · rw [am_sx_n q, am_sx_n q]
theorem v_un_ovr {V : am_Vw} (hv : v_ok V) {p : Nat} {t : Int} (hp : p < 16) (hT : vT V p = 0) : v_un (p : Int) (vH V p) (v_ovr V p t) V := by
  have h1 := (v_ok_p hv p hp).2.1
  obtain ⟨c, hc⟩ := Int.eq_ofNat_of_zero_le h1.1
  refine Or.inr ⟨p, c, rfl, hc, hp, by omega, ?_⟩
  show (V.1, vK V, vF V, vS V, vU V, vO V, am_sx (am_sx (vH V) p t) p (c : Int), vN V, vE V, vG V, am_sx (am_sx (vT V) p _) p 0) = V
  rw [am_sx_back hc.symm, am_sx_back hT.symm]