/-! CALLS THAT CHANGE: row, judge -/
/-- a call that changes: its answer and the heap that lasts -/
def am_Ch (L : Nat) (r : am_V) (h2 : Nat → Nat → Int) (W : (Option am_V → am_H → Prop) → Prop) : Prop := ∀ Q : Option am_V → am_H → Prop, (∀ g kq, am_keep h2 g → Q (some r) (am_SH L, g, am_RR kq)) → W Q
def a_row (n v : Int) : am_V × Nat := if v < 0 then (Sum.inl (-4), 4) else if 99 < v ∨ 12 ≤ n then (Sum.inl (-6), 6) else (Sum.inl (n + 1), 0)
def h_row (c R k : Nat) (n v : Int) (a j : Nat) (h : Nat → Nat → Int) : Nat → Nat → Int := if (a_row n v).2 = 0 then am_up (am_up h R n.toNat v) a j (n + 1) else am_bump c (a_row n v).2 h
theorem am_keep_70 {h : Nat → Nat → Int} : am_keep h (am_up h 70 13 0) := am_keep_up rfl am_keep_r
theorem am_keep_upup {h g : Nat → Nat → Int} {a j : Nat} {v : Int} (hk : am_keep h g) : am_keep (am_up h a j v) (am_up g a j v) := fun b i hr => by
  unfold am_up
  by_cases q : b = a
  · rw [if_pos q, if_pos q]
    by_cases q2 : i = j
    · rw [if_pos q2, if_pos q2]
    · rw [if_neg q2, if_neg q2]; exact hk b i hr
  · rw [if_neg q, if_neg q]; exact hk b i hr
theorem am_keep_bb {h g : Nat → Nat → Int} {c n : Nat} (hc : ∀ j, am_rel c j = true) (hk : am_keep h g) : am_keep (am_bump c n h) (am_bump c n g) := fun b i hr => by
  cases n with
  | zero => exact hk b i hr
  | succ m =>
    show am_up g c (m + 1) (am_add (g c (m + 1)) 1) b i = am_up h c (m + 1) (am_add (h c (m + 1)) 1) b i
    rw [hk c (m + 1) (hc _)]
    exact am_keep_upup hk b i hr
theorem c_row {d L kp : Nat} {h : Nat → Nat → Int} {v : Int} (hd : 30 ≤ d) (hL : 0 ≤ h 1 6 ∧ h 1 6 ≤ 12) : am_Ch L (a_row (h 1 6) v).1 (h_row 41 40 0 (h 1 6) v 1 6 h) (fun Q => am_Wp d 180 0 [some (Sum.inr (Sum.inr 1)), some (Sum.inl v)] [] (am_SH L, h, am_RR kp) Q) := by
  intro Q hq
  show am_Wp d 180 0 [some (Sum.inr (Sum.inr 1)), some (Sum.inl v)] [] (am_SH L, h, am_RR kp) Q
  unfold h_row a_row at hq
  have r26 : (99 < v ∨ 12 ≤ h 1 6) → ¬ v < 0 → am_Wp d 180 26 [some (Sum.inr (Sum.inr 1)), some (Sum.inl (v))] [] (am_SH L, h, am_RR kp) Q := fun w1 w2 => by
    rw [if_neg w2, if_pos w1] at hq
    rw [bq_KO_row_26 (by omega), sp_KO_refuse (by omega) (by omega) (by omega)]
    simp only [Option.toList_some, Option.toList_none, List.cons_append, List.nil_append]
    rw [bq_KO_row_32]
    exact hq _ kp am_keep_r
  rw [bq_KO_row_0 (by omega)]
  by_cases q1 : v < 0
  · rw [if_pos q1] at hq
    rw [if_neg (by omega), sp_KO_refuse (by omega) (by omega) (by omega)]
    simp only [Option.toList_some, Option.toList_none, List.cons_append, List.nil_append]
    rw [bq_KO_row_10]
    exact hq _ kp am_keep_r
  · rw [if_pos (by omega)]
    by_cases q2 : 99 < v
    · rw [if_pos q2]; exact r26 (Or.inl q2) q1
    · rw [if_neg q2]
      by_cases q3 : h 1 6 < 12
      · have n2 : ¬ (99 < v ∨ 12 ≤ h 1 6) := by omega
        rw [if_neg q1, if_neg n2] at hq
        obtain ⟨n, hn⟩ := Int.eq_ofNat_of_zero_le hL.1
        rw [hn] at hq q3
        rw [Int.toNat_natCast] at hq
        rw [hn]
        rw [if_pos q3, sp_put_40, am_put_nat (by omega)]
        simp only [Option.toList_some, Option.toList_none, List.cons_append, List.nil_append]
        rw [bq_KO_row_45, show am_up h 40 n v 1 6 = (n : Int) from hn, am_add_ok (by omega) (by omega)]
        exact hq _ kp am_keep_r
      · rw [if_neg q3]; exact r26 (Or.inr (by omega)) q1
theorem m_row {d L kp : Nat} {h : Nat → Nat → Int} {v : Int} (hd : 30 ≤ d) (hL : 0 ≤ h 70 46 ∧ h 70 46 ≤ 12) : am_Ch L (a_row (h 70 46) v).1 (h_row 81 98 0 (h 70 46) v 70 46 h) (fun Q => am_Wp d 287 0 [some (Sum.inr (Sum.inr 70)), some (Sum.inl v)] [] (am_SH L, h, am_RR kp) Q) := by
  intro Q hq
  show am_Wp d 287 0 [some (Sum.inr (Sum.inr 70)), some (Sum.inl v)] [] (am_SH L, h, am_RR kp) Q
  unfold h_row a_row at hq
  have e46 : am_up h 70 13 0 70 46 = h 70 46 := rfl
  have h81 : ∀ j, am_rel 81 j = true := fun _ => rfl
  have r31 : (99 < v ∨ 12 ≤ h 70 46) → ¬ v < 0 → am_Wp d 287 31 [some (Sum.inr (Sum.inr 70)), some (Sum.inl (v))] [] (am_SH L, (am_up h 70 13 0), am_RR kp) Q := fun w1 w2 => by
    rw [if_neg w2, if_pos w1] at hq
    rw [bq_M_row_31 (by omega), sp_M_refuse (by omega) (by omega)]
    simp only [Option.toList_some, Option.toList_none, List.cons_append, List.nil_append]
    rw [bq_M_row_37]
    exact hq _ kp (am_keep_bb h81 am_keep_70)
  rw [bq_M_row_0 (by omega), e46]
  by_cases q1 : v < 0
  · rw [if_pos q1] at hq
    rw [if_neg (by omega), sp_M_refuse (by omega) (by omega)]
    simp only [Option.toList_some, Option.toList_none, List.cons_append, List.nil_append]
    rw [bq_M_row_15]
    exact hq _ kp (am_keep_bb h81 am_keep_70)
  · rw [if_pos (by omega)]
    by_cases q2 : 99 < v
    · rw [if_pos q2]; exact r31 (Or.inl q2) q1
    · rw [if_neg q2]
      by_cases q3 : h 70 46 = 12
      · rw [if_pos q3]; exact r31 (Or.inr (by omega)) q1
      · have n2 : ¬ (99 < v ∨ 12 ≤ h 70 46) := by omega
        rw [if_neg q1, if_neg n2] at hq
        obtain ⟨n, hn⟩ := Int.eq_ofNat_of_zero_le hL.1
        rw [hn] at hq q3 hL
        rw [Int.toNat_natCast] at hq
        rw [hn, if_neg q3, am_gd (by omega) (by omega), Int.toNat_natCast]
        rw [show am_up (am_up h 70 13 0) 98 n v 70 46 = (n : Int) from hn, am_add_ok (by omega) (by omega)]
        exact hq _ kp (am_keep_upup (am_keep_upup am_keep_70))