/-! THE REFERENCE'S CARRYING: all that there is, into an array and out of one -/
def am_ix (b j : Nat) : Nat := if b = 70 then (if j = 0 then 0 else if j = 5 then 1 else if j = 6 then 2 else 1000) else if b < 71 then 1000 else if b < 75 then (if j < 7 then 3 + 4 * j + (b - 71) else 1000) else if b < 81 then (if j < 16 then 31 + 6 * j + (b - 75) else 1000) else 1000
theorem am_ix_inj {b j c i : Nat} (h1 : am_ix b j = am_ix c i) (h2 : am_ix b j < 127) : c = b ∧ i = j := by
  unfold am_ix at h1 h2
  revert h1 h2
  by_cases b0 : b = 70 <;> by_cases c0 : c = 70
  · subst b0 c0
    simp only [if_true]
    (repeat' split) <;> intro h1 h2 <;> first | omega | exact ⟨trivial, by omega⟩
  · simp only [b0, c0, if_true, if_false]
    (repeat' split) <;> intro h1 h2 <;> omega
  · simp only [b0, c0, if_true, if_false]
    (repeat' split) <;> intro h1 h2 <;> omega
  · simp only [b0, c0, if_false]
    (repeat' split) <;> intro h1 h2 <;> omega
def am_car (h : Nat → Nat → Int) (n : Nat) : Int := if n = 0 then h 70 0 else if n = 1 then h 70 5 else if n = 2 then h 70 6 else if n < 31 then h (71 + (n - 3) % 4) ((n - 3) / 4) else h (75 + (n - 31) % 6) ((n - 31) / 6)
theorem am_car_1 {h : Nat → Nat → Int} {k c : Nat} (hk : k < 7) (hc : c < 4) : am_car h (3 + 4 * k + c) = h (71 + c) k := by
  unfold am_car
  rw [if_neg (by omega), if_neg (by omega), if_neg (by omega), if_pos (by omega), show (3 + 4 * k + c - 3) % 4 = c by omega, show (3 + 4 * k + c - 3) / 4 = k by omega]
theorem am_car_2 {h : Nat → Nat → Int} {k c : Nat} (hc : c < 6) : am_car h (31 + 6 * k + c) = h (75 + c) k := by
  unfold am_car
  rw [if_neg (by omega), if_neg (by omega), if_neg (by omega), if_neg (by omega), show (31 + 6 * k + c - 31) % 6 = c by omega, show (31 + 6 * k + c - 31) / 6 = k by omega]
def am_tkk (h : Nat → Nat → Int) (a n : Nat) : Nat → Nat → Int := fun b j => if b = a then (if j < n then am_car h j else h b j) else if b = 70 then (if j = 26 then (n : Int) else if j = 27 then 1 else h b j) else h b j
def am_puk (h : Nat → Nat → Int) (a n : Nat) : Nat → Nat → Int := fun b j => if am_ix b j < n then h a (am_ix b j) else if b = 70 then (if j = 26 then (n : Int) else if j = 27 then 0 else h b j) else h b j
theorem am_tkk_0 {h : Nat → Nat → Int} {a : Nat} (ha : ¬ a = 70) : am_up (am_up h 70 27 1) 70 26 0 = am_tkk h a 0 := by
  funext b j
  unfold am_up am_tkk
  by_cases h1 : b = a
  · rw [if_pos h1, if_neg (by omega), if_neg (by omega), if_neg (by omega)]
  · rw [if_neg h1]
    by_cases h2 : b = 70
    · simp only [h2, if_true]; rfl
    · simp only [h2, if_false]
theorem am_tkk_s {h : Nat → Nat → Int} {a n : Nat} (ha : ¬ a = 70) : am_up (am_up (am_tkk h a n) a n (am_car h n)) 70 26 ((n + 1 : Nat) : Int) = am_tkk h a (n + 1) := by
  funext b j
  unfold am_up am_tkk
  by_cases h1 : b = 70
  · subst h1
    have h7 : ¬ 70 = a := fun w => ha w.symm
    simp only [h7, if_true, if_false]
    by_cases h8 : j = 26
    · simp only [h8, if_true]
    · simp only [h8, if_false]
  · rw [if_neg h1]
    by_cases h2 : b = a
    · simp only [h2, if_true]
      by_cases h3 : j = n
      · rw [if_pos h3, if_pos (by omega), h3]
      · rw [if_neg h3]
        by_cases h4 : j < n
        · rw [if_pos h4, if_pos (by omega)]
        · rw [if_neg h4, if_neg (by omega)]
    · simp only [h2, h1, if_false]
theorem am_tkk_a {h : Nat → Nat → Int} {a n b j : Nat} (h1 : ¬ b = a) (h2 : b = 70 → ¬ j = 26 ∧ ¬ j = 27) : am_tkk h a n b j = h b j := by
  unfold am_tkk
  rw [if_neg h1]
  by_cases h3 : b = 70
  · rw [if_pos h3, if_neg (h2 h3).1, if_neg (h2 h3).2]
  · rw [if_neg h3]
theorem am_up_id {h : Nat → Nat → Int} {b j : Nat} {v : Int} (hv : v = h b j) : am_up h b j v = h := by
  funext c i
  unfold am_up
  by_cases h1 : c = b
  · by_cases h2 : i = j
    · rw [if_pos h1, if_pos h2, hv, h1, h2]
    · rw [if_pos h1, if_neg h2]
  · rw [if_neg h1]
theorem am_puk_0 {h : Nat → Nat → Int} {a : Nat} : am_up (am_up h 70 27 0) 70 26 0 = am_puk h a 0 := by
  funext b j
  unfold am_up am_puk
  rw [if_neg (Nat.not_lt_zero _)]
  by_cases h2 : b = 70
  · simp only [h2, if_true]; rfl
  · simp only [h2, if_false]
theorem am_puk_s {h : Nat → Nat → Int} {a n b j : Nat} (hn : n < 127) (hi : am_ix b j = n) : am_up (am_up (am_puk h a n) 70 26 ((n + 1 : Nat) : Int)) b j (h a n) = am_puk h a (n + 1) := by
  funext c i
  by_cases h1 : c = b ∧ i = j
  · obtain ⟨rfl, rfl⟩ := h1
    unfold am_up am_puk
    rw [if_pos rfl, if_pos rfl, hi, if_pos (by omega)]
  · have h3 : ¬ am_ix c i = n := fun w => h1 (am_ix_inj (hi.trans w.symm) (by omega))
    have e1 : am_up (am_up (am_puk h a n) 70 26 ((n + 1 : Nat) : Int)) b j (h a n) c i = am_up (am_puk h a n) 70 26 ((n + 1 : Nat) : Int) c i := by
      show (if c = b then _ else _) = _
      by_cases h4 : c = b
      · rw [if_pos h4, if_neg (fun w => h1 ⟨h4, w⟩)]
      · rw [if_neg h4]
    rw [e1]
    unfold am_up am_puk
    by_cases h5 : am_ix c i < n
    · rw [if_pos h5, if_pos (show am_ix c i < n + 1 by omega)]
      by_cases h6 : c = 70
      · by_cases h7 : i = 26
        · subst h6 h7; exact absurd h5 (by show ¬ 1000 < n; omega)
        · rw [if_pos h6, if_neg h7]
      · rw [if_neg h6]
    · rw [if_neg h5, if_neg (show ¬ am_ix c i < n + 1 by omega)]
      (repeat' split) <;> rfl
theorem am_puk_a {h : Nat → Nat → Int} {a n j : Nat} (h1 : 80 < a) : am_puk h a n a j = h a j ∨ n > 1000 := by
  by_cases hn : n > 1000
  · exact Or.inr hn
  · refine Or.inl ?_
    unfold am_puk
    have e : am_ix a j = 1000 := by unfold am_ix; rw [if_neg (by omega), if_neg (by omega), if_neg (by omega), if_neg (by omega)]
    rw [e, if_neg (by omega), if_neg (by omega)]
theorem sp_M_carry_t86 {d L n : Nat} {h : Nat → Nat → Int} {Q : Option am_V → am_H → Prop} {x : Int} (hn : n < 127) (hx : x = am_car h n) : am_Wp d 199 0 [some (Sum.inr (Sum.inr 70)), some (Sum.inl x)] [] (am_SH L, am_tkk h 86 n, am_RR 87) Q = Q (some (Sum.inl x)) (am_SH L, am_tkk h 86 (n + 1), am_RR 87) := by
  have e27 : am_tkk h 86 n 70 27 = 1 := rfl
  have e26 : am_tkk h 86 n 70 26 = (n : Int) := rfl
  have u26 : am_up (am_tkk h 86 n) 86 n x 70 26 = (n : Int) := rfl
  have v26 : ∀ y, am_up (am_up (am_tkk h 86 n) 86 n x) 70 26 y 70 26 = y := fun y => rfl
  have va : ∀ y, am_up (am_up (am_tkk h 86 n) 86 n x) 70 26 y 86 n = x := fun y => by
    show (if n = n then x else _) = x
    exact if_pos rfl
  rw [bq_M_carry_0, e27, e26, if_neg (by omega), am_gd (by omega) (by omega), Int.toNat_natCast, bq_M_carry_17, u26, am_incn (by omega), v26, am_sub_ok (by omega) (by omega), show ((n + 1 : Nat) : Int) - 1 = (n : Int) by omega, am_gd (by omega) (by omega), Int.toNat_natCast, va, hx, am_tkk_s (by omega)]
theorem sp_M_carry_p86 {d L n : Nat} {h : Nat → Nat → Int} {Q : Option am_V → am_H → Prop} {x : Int} (hn : n < 127) : am_Wp d 199 0 [some (Sum.inr (Sum.inr 70)), some (Sum.inl x)] [] (am_SH L, am_puk h 86 n, am_RR 87) Q = Q (some (Sum.inl (h 86 n))) (am_SH L, am_up (am_puk h 86 n) 70 26 ((n + 1 : Nat) : Int), am_RR 87) := by
  have i26 : am_ix 70 26 = 1000 := rfl
  have i27 : am_ix 70 27 = 1000 := rfl
  have e27 : am_puk h 86 n 70 27 = 0 := by unfold am_puk; rw [i27, if_neg (by omega)]; rfl
  have e26 : am_puk h 86 n 70 26 = (n : Int) := by unfold am_puk; rw [i26, if_neg (by omega)]; rfl
  have v26 : ∀ y, am_up (am_puk h 86 n) 70 26 y 70 26 = y := fun y => rfl
  have va : ∀ y, am_up (am_puk h 86 n) 70 26 y 86 n = h 86 n := fun y => by
    rcases am_puk_a (h := h) (a := 86) (n := n) (j := n) (by omega) with e | e
    · exact e
    · omega
  rw [bq_M_carry_0, e27, if_pos rfl, bq_M_carry_17, e26, am_incn (by omega), v26, am_sub_ok (by omega) (by omega), show ((n + 1 : Nat) : Int) - 1 = (n : Int) by omega, am_gd (by omega) (by omega), Int.toNat_natCast, va]
theorem sp_M_carry_t89 {d L n : Nat} {h : Nat → Nat → Int} {Q : Option am_V → am_H → Prop} {x : Int} (hn : n < 127) (hx : x = am_car h n) : am_Wp d 199 0 [some (Sum.inr (Sum.inr 70)), some (Sum.inl x)] [] (am_SH L, am_tkk h 89 n, am_RR 90) Q = Q (some (Sum.inl x)) (am_SH L, am_tkk h 89 (n + 1), am_RR 90) := by
  have e27 : am_tkk h 89 n 70 27 = 1 := rfl
  have e26 : am_tkk h 89 n 70 26 = (n : Int) := rfl
  have u26 : am_up (am_tkk h 89 n) 89 n x 70 26 = (n : Int) := rfl
  have v26 : ∀ y, am_up (am_up (am_tkk h 89 n) 89 n x) 70 26 y 70 26 = y := fun y => rfl
  have va : ∀ y, am_up (am_up (am_tkk h 89 n) 89 n x) 70 26 y 89 n = x := fun y => by
    show (if n = n then x else _) = x
    exact if_pos rfl
  rw [bq_M_carry_v2_0, e27, e26, if_neg (by omega), am_gd (by omega) (by omega), Int.toNat_natCast, bq_M_carry_v2_17, u26, am_incn (by omega), v26, am_sub_ok (by omega) (by omega), show ((n + 1 : Nat) : Int) - 1 = (n : Int) by omega, am_gd (by omega) (by omega), Int.toNat_natCast, va, hx, am_tkk_s (by omega)]
theorem sp_M_carry_p89 {d L n : Nat} {h : Nat → Nat → Int} {Q : Option am_V → am_H → Prop} {x : Int} (hn : n < 127) : am_Wp d 199 0 [some (Sum.inr (Sum.inr 70)), some (Sum.inl x)] [] (am_SH L, am_puk h 89 n, am_RR 90) Q = Q (some (Sum.inl (h 89 n))) (am_SH L, am_up (am_puk h 89 n) 70 26 ((n + 1 : Nat) : Int), am_RR 90) := by
  have i26 : am_ix 70 26 = 1000 := rfl
  have i27 : am_ix 70 27 = 1000 := rfl
  have e27 : am_puk h 89 n 70 27 = 0 := by unfold am_puk; rw [i27, if_neg (by omega)]; rfl
  have e26 : am_puk h 89 n 70 26 = (n : Int) := by unfold am_puk; rw [i26, if_neg (by omega)]; rfl
  have v26 : ∀ y, am_up (am_puk h 89 n) 70 26 y 70 26 = y := fun y => rfl
  have va : ∀ y, am_up (am_puk h 89 n) 70 26 y 89 n = h 89 n := fun y => by
    rcases am_puk_a (h := h) (a := 89) (n := n) (j := n) (by omega) with e | e
    · exact e
    · omega
  rw [bq_M_carry_v2_0, e27, if_pos rfl, bq_M_carry_v2_17, e26, am_incn (by omega), v26, am_sub_ok (by omega) (by omega), show ((n + 1 : Nat) : Int) - 1 = (n : Int) by omega, am_gd (by omega) (by omega), Int.toNat_natCast, va]
theorem sp_M_carry_t87 {d L n : Nat} {h : Nat → Nat → Int} {Q : Option am_V → am_H → Prop} {x : Int} (hn : n < 127) (hx : x = am_car h n) : am_Wp d 199 0 [some (Sum.inr (Sum.inr 70)), some (Sum.inl x)] [] (am_SH L, am_tkk h 87 n, am_RR 88) Q = Q (some (Sum.inl x)) (am_SH L, am_tkk h 87 (n + 1), am_RR 88) := by
  have e27 : am_tkk h 87 n 70 27 = 1 := rfl
  have e26 : am_tkk h 87 n 70 26 = (n : Int) := rfl
  have u26 : am_up (am_tkk h 87 n) 87 n x 70 26 = (n : Int) := rfl
  have v26 : ∀ y, am_up (am_up (am_tkk h 87 n) 87 n x) 70 26 y 70 26 = y := fun y => rfl
  have va : ∀ y, am_up (am_up (am_tkk h 87 n) 87 n x) 70 26 y 87 n = x := fun y => by
    show (if n = n then x else _) = x
    exact if_pos rfl
  rw [bq_M_carry_v3_0, e27, e26, if_neg (by omega), am_gd (by omega) (by omega), Int.toNat_natCast, bq_M_carry_v3_17, u26, am_incn (by omega), v26, am_sub_ok (by omega) (by omega), show ((n + 1 : Nat) : Int) - 1 = (n : Int) by omega, am_gd (by omega) (by omega), Int.toNat_natCast, va, hx, am_tkk_s (by omega)]
theorem sp_M_carry_p87 {d L n : Nat} {h : Nat → Nat → Int} {Q : Option am_V → am_H → Prop} {x : Int} (hn : n < 127) : am_Wp d 199 0 [some (Sum.inr (Sum.inr 70)), some (Sum.inl x)] [] (am_SH L, am_puk h 87 n, am_RR 88) Q = Q (some (Sum.inl (h 87 n))) (am_SH L, am_up (am_puk h 87 n) 70 26 ((n + 1 : Nat) : Int), am_RR 88) := by
  have i26 : am_ix 70 26 = 1000 := rfl
  have i27 : am_ix 70 27 = 1000 := rfl
  have e27 : am_puk h 87 n 70 27 = 0 := by unfold am_puk; rw [i27, if_neg (by omega)]; rfl
  have e26 : am_puk h 87 n 70 26 = (n : Int) := by unfold am_puk; rw [i26, if_neg (by omega)]; rfl
  have v26 : ∀ y, am_up (am_puk h 87 n) 70 26 y 70 26 = y := fun y => rfl
  have va : ∀ y, am_up (am_puk h 87 n) 70 26 y 87 n = h 87 n := fun y => by
    rcases am_puk_a (h := h) (a := 87) (n := n) (j := n) (by omega) with e | e
    · exact e
    · omega
  rw [bq_M_carry_v3_0, e27, if_pos rfl, bq_M_carry_v3_17, e26, am_incn (by omega), v26, am_sub_ok (by omega) (by omega), show ((n + 1 : Nat) : Int) - 1 = (n : Int) by omega, am_gd (by omega) (by omega), Int.toNat_natCast, va]