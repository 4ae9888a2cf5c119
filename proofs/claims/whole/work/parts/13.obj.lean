/-! THE OBJECTS, once made: their kinds and sizes, what each refers to (the place of KissesOwedModel.keptIn is free) -/
def am_SH1 : List (Nat × Nat) := [(11, 15), (10, 13), (0, 7), (0, 7), (0, 7), (0, 7), (0, 16), (0, 16), (0, 16), (0, 16), (0, 16), (0, 16), (10, 13), (0, 7), (0, 7), (0, 7), (0, 7), (0, 16), (0, 16), (0, 16), (0, 16), (0, 16), (0, 16), (4, 4), (0, 8), (0, 8), (3, 3), (0, 96), (10, 13), (0, 7), (0, 7), (0, 7), (0, 7), (0, 16), (0, 16), (0, 16), (0, 16), (0, 16), (0, 16), (0, 12), (0, 7), (2, 3), (0, 49), (0, 7), (1, 2), (0, 7), (7, 3), (0, 7), (0, 128), (0, 128), (8, 11), (0, 21), (0, 21), (0, 21), (0, 7), (0, 7), (0, 7), (0, 7), (0, 128), (0, 128), (9, 4), (0, 7), (6, 3), (0, 49), (0, 7), (5, 7), (0, 16), (0, 16), (0, 16), (12, 51), (0, 7), (0, 7), (0, 7), (0, 7), (0, 16), (0, 16), (0, 16), (0, 16), (0, 16), (0, 16), (0, 7), (0, 96), (0, 49), (0, 49), (0, 245), (0, 127), (0, 127), (0, 1016), (0, 127), (0, 128), (0, 7), (0, 7), (0, 21), (0, 21), (0, 21), (0, 7), (0, 7), (0, 12), (0, 7), (0, 7), (0, 128)]
def am_SH (L : Nat) : List (Nat × Nat) := (0, L) :: am_SH1
def am_RR (kp n b : Nat) : Nat := (bif Nat.beq n 1 then ([3, 14, 0, 25, 28, 41, 0, 42, 43, 46, 48, 52, 62, 64, 67] : List Nat).getD b 0 else (bif Nat.beq n 2 then ([0, 0, 0, 4, 5, 6, 7, 8, 9, 10, 11, 12, 13] : List Nat).getD b 0 else (bif Nat.beq n 13 then ([0, 0, 0, 15, 16, 17, 18, 19, 20, 21, 22, 23, 24] : List Nat).getD b 0 else (bif Nat.beq n 24 then ([26, 27, 0, 0] : List Nat).getD b 0 else (bif Nat.beq n 27 then ([29, 0, 30] : List Nat).getD b 0 else (bif Nat.beq n 29 then ([0, 0, 0, 31, 32, 33, 34, 35, 36, 37, 38, 39, 40] : List Nat).getD b 0 else (bif Nat.beq n 42 then ([44, 45, 0] : List Nat).getD b 0 else (bif Nat.beq n 45 then ([47, 0] : List Nat).getD b 0 else (bif Nat.beq n 47 then ([49, 50, 51] : List Nat).getD b 0 else (bif Nat.beq n 51 then ([0, 53, 54, 55, 56, 57, 58, 59, 0, 60, 61] : List Nat).getD b 0 else (bif Nat.beq n 61 then ([63, 0, 0, 0] : List Nat).getD b 0 else (bif Nat.beq n 63 then ([65, 66, 0] : List Nat).getD b 0 else (bif Nat.beq n 66 then ([68, 69, 70, 0, 0, 0, 0] : List Nat).getD b 0 else (bif Nat.beq n 70 then (bif Nat.beq b 28 then kp else ([0, 72, 73, 74, 75, 0, 0, 76, 77, 78, 79, 80, 81, 0, 82, 83, 0, 0, 0, 0, 84, 85, 86, 87, 88, 0, 0, 0, 0, 89, 90, 0, 91, 92, 93, 0, 0, 0, 94, 95, 96, 97, 0, 0, 98, 99, 0, 0, 100, 101, 102] : List Nat).getD b 0) else 0))))))))))))))
theorem am_RR_up (kp kq : Nat) : am_upr (am_RR kp) 70 28 kq = am_RR kq := by
  funext a b
  unfold am_upr
  by_cases ha : a = 70
  · subst ha
    rw [if_pos rfl]
    by_cases hb : b = 28
    · subst hb
      rw [if_pos rfl]
      rfl
    · rw [if_neg hb]
      have e : Nat.beq b 28 = false := by
        cases hh : Nat.beq b 28 with
        | true => exact absurd (Nat.eq_of_beq_eq_true hh) hb
        | false => rfl
      show am_RR kp 70 b = am_RR kq 70 b
      have h1 : ∀ k, am_RR k 70 b = (bif Nat.beq b 28 then k else ([0, 72, 73, 74, 75, 0, 0, 76, 77, 78, 79, 80, 81, 0, 82, 83, 0, 0, 0, 0, 84, 85, 86, 87, 88, 0, 0, 0, 0, 89, 90, 0, 91, 92, 93, 0, 0, 0, 94, 95, 96, 97, 0, 0, 98, 99, 0, 0, 100, 101, 102] : List Nat).getD b 0) := fun k => rfl
      rw [h1, h1, e]
      rfl
  · rw [if_neg ha]
    have e : Nat.beq a 70 = false := by
      cases hh : Nat.beq a 70 with
      | true => exact absurd (Nat.eq_of_beq_eq_true hh) ha
      | false => rfl
    unfold am_RR
    rw [e]
    rfl
theorem am_Wal {d k q L kp : Nat} {ls : am_L} {t : List am_V} {h : Nat → Nat → Int} {Q : Option am_V → am_H → Prop} (hL : Nat.blt L 200000 = true) (h1 : (Nat.beq (am_code k q).1 29 || (Nat.ble 50 (am_code k q).1 && Nat.ble (am_code k q).1 54)) = false) (h2 : am_code k q = (26, 1, 0, 0, 0, 0, [])) : am_Wp d k q ls (Sum.inr (Sum.inr 0) :: t) (am_SH L, h, am_RR kp) Q = am_Wp d k (q + 1) ls (Sum.inl (L : Int) :: t) (am_SH L, h, am_RR kp) Q := by
  have e : am_one k (q, ls, Sum.inr (Sum.inr 0) :: t, (am_SH L, h, am_RR kp)) = some (q + 1, ls, Sum.inl (L : Int) :: t, (am_SH L, h, am_RR kp)) := by
    unfold am_one
    simp only [h1]
    rw [h2]
    have e2 : am_step (26, 1, 0, 0, 0, 0, []) q ls (Sum.inr (Sum.inr 0) :: t) (am_SH L, h, am_RR kp) = (match Nat.blt L 200000 with | true => some (q + 1, ls, Sum.inl (L : Int) :: t, (am_SH L, h, am_RR kp)) | false => none) := rfl
    rw [e2, hL]
  exact am_W1 e
theorem am_ifc {P : Prop} [Decidable P] {A A' B B' : Prop} (h1 : A = A') (h2 : B = B') : (if P then A else B) = (if P then A' else B') := by rw [h1, h2]
theorem am_andc {P A A' : Prop} (h1 : A = A') : (P ∧ A) = (P ∧ A') := by rw [h1]
