/-! WHAT A WORLD IS, whoever holds it: people, papers, day; kinds, figures, kissed, unwilling; debtors, holders, quarters, dues, forged, states -/
abbrev am_Vw : Type := (Int × Int × Int) × (Nat → Int) × (Nat → Int) × (Nat → Int) × (Nat → Int) × (Nat → Int) × (Nat → Int) × (Nat → Int) × (Nat → Int) × (Nat → Int) × (Nat → Int)
abbrev vP (V : am_Vw) : Int := V.1.1
abbrev vQ (V : am_Vw) : Int := V.1.2.1
abbrev vD (V : am_Vw) : Int := V.1.2.2
abbrev vK (V : am_Vw) : Nat → Int := V.2.1
abbrev vF (V : am_Vw) : Nat → Int := V.2.2.1
abbrev vS (V : am_Vw) : Nat → Int := V.2.2.2.1
abbrev vU (V : am_Vw) : Nat → Int := V.2.2.2.2.1
abbrev vO (V : am_Vw) : Nat → Int := V.2.2.2.2.2.1
abbrev vH (V : am_Vw) : Nat → Int := V.2.2.2.2.2.2.1
abbrev vN (V : am_Vw) : Nat → Int := V.2.2.2.2.2.2.2.1
abbrev vE (V : am_Vw) : Nat → Int := V.2.2.2.2.2.2.2.2.1
abbrev vG (V : am_Vw) : Nat → Int := V.2.2.2.2.2.2.2.2.2.1
abbrev vT (V : am_Vw) : Nat → Int := V.2.2.2.2.2.2.2.2.2.2
/-- a World of the class at its cell, and the reference's -/
abbrev am_wv (h : Nat → Nat → Int) (w : Nat) : am_Vw := ((h w 0, h w 1, h w 2), h (w + 1), h (w + 2), h (w + 3), h (w + 4), h (w + 5), h (w + 6), h (w + 7), h (w + 8), h (w + 9), h (w + 10))
abbrev am_mv (h : Nat → Nat → Int) : am_Vw := ((h 70 0, h 70 6, h 70 5), h 71, h 72, h 73, h 74, h 75, h 76, h 77, h 78, h 79, h 80)
def v_isP (V : am_Vw) (i : Int) : Bool := decide (0 ≤ i ∧ i < vP V)
def v_isQ (V : am_Vw) (p : Int) : Bool := decide (0 ≤ p ∧ p < vQ V)
def v_open (V : am_Vw) (p : Int) : Bool := v_isQ V p && decide (am_lk (vT V) 16 p = 0)
def v_shuns (V : am_Vw) (a b : Int) : Bool := am_has (am_lk (vU V) 7 a) b
def v_friend (V : am_Vw) (a b : Int) : Bool := !v_shuns V a b && !v_shuns V b a
def v_paid (V : am_Vw) (p : Int) : Bool := decide (am_lk (vG V) 16 p = 0) && v_friend V (am_lk (vO V) 16 p) (am_lk (vH V) 16 p)
def v_take (V : am_Vw) (p t : Int) : Bool := v_open V p && v_isP V t && !decide (am_lk (vH V) 16 p = t) && !v_shuns V t (am_lk (vO V) 16 p)
/-- what a paper would be worth of a PERSON, behind his whole QUARTERS q -/
def v_later (V : am_Vw) (p : Int) : Int := am_sub (am_lk (vN V) 16 p) (am_div (am_mul (am_lk (vN V) 16 p) (am_min 100 (am_mul 2 (am_max 0 (am_sub (am_lk (vE V) 16 p) (vD V)))))) 100)
def v_worth (V : am_Vw) (p : Int) : Int := if v_open V p = false then 0 else
  if am_lk (vK V) 7 (am_lk (vO V) 16 p) = 1 then am_lk (vN V) 16 p
  else if am_lk (vK V) 7 (am_lk (vO V) 16 p) = 2 then am_div (v_later V p) 2
  else if am_lk (vK V) 7 (am_lk (vO V) 16 p) = 3 then am_max 0 (am_sub (v_later V p) (am_lk (vF V) 7 (am_lk (vO V) 16 p)))
  else if am_lk (vK V) 7 (am_lk (vO V) 16 p) = 4 then am_sub (am_lk (vN V) 16 p) (am_div (am_lk (vN V) 16 p) 10)
  else if am_lk (vK V) 7 (am_lk (vO V) 16 p) = 5 then (if am_lk (vG V) 16 p = 1 then 0 else am_div (v_later V p) 2)
  else v_later V p
theorem am_bi1 {b : Bool} : (am_bi b = 1) = (b = true) := by cases b <;> simp [am_bi]
theorem am_bft {b : Bool} : (b = false ∨ b = true) = True := by cases b <;> simp
theorem am_bit : am_bi true = 1 := rfl
theorem am_bif : am_bi false = 0 := rfl
theorem am_in0 {i n : Int} {A : Prop} {Q : Bool → Prop} (hA : A = Q false) (hB : Q true = Q true) : (if i < 0 then A else if n ≤ i then A else Q true) = Q (decide (0 ≤ i ∧ i < n)) := by
  by_cases h1 : i < 0
  · rw [if_pos h1, decide_eq_false (by omega), hA]
  · by_cases h2 : n ≤ i
    · rw [if_neg h1, if_pos h2, decide_eq_false (by omega), hA]
    · rw [if_neg h1, if_neg h2, decide_eq_true (by omega)]
