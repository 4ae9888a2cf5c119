/-! THE SMALL MACHINE: ints as whole numbers, references as numbers of cells (0: the script), a heap as its cells' kinds and sizes, their numbers, their references (0: null, a + 1) -/
abbrev am_V : Type := Int ⊕ (Int ⊕ Nat)
abbrev am_H : Type := List (Nat × Nat) × (Nat → Nat → Int) × (Nat → Nat → Nat)
abbrev am_L : Type := List (Option am_V)
abbrev am_F : Type := Nat × am_L × List am_V × am_H
def am_y (k : Nat) : MethodName := (am_m k).1
def am_bs (k : Nat) : ByteArray := (am_m k).2.1
def am_ft (k : Nat) : Option FieldType := (am_m k).2.2.1
def am_n (k i : Nat) : Nat := (am_m k).2.2.2.getD i 0
def am_get : am_L → Nat → Option am_V
  | [], _ => none
  | o :: _, 0 => o
  | _ :: t, n + 1 => am_get t n
def am_two : am_V → Bool
  | .inr (.inl _) => true
  | _ => false
def am_k2 : Option am_V → Option am_V
  | some (.inr (.inl _)) => none
  | o => o
def am_set (v : am_V) : Nat → am_L → am_L
  | _, [] => []
  | 0, _ :: t => some v :: t
  | n + 1, o :: t => o :: am_set v n t
def am_dr : am_L → am_L
  | [] => []
  | _ :: t => none :: t
def am_setK (v : am_V) : Nat → am_L → am_L
  | _, [] => []
  | 0, _ :: t => some v :: (match am_two v with | true => am_dr t | false => t)
  | n + 1, o :: t => (match n with | 0 => am_k2 o | _ => o) :: am_setK v n t
def am_sto (c : Nat) (v : am_V) (i : Nat) (ls : am_L) : am_L := match c with
  | 0 => am_set v i ls
  | _ => am_setK v i ls
def am_shp (h : am_H) (n : Nat) : Nat × Nat := h.1.getD n (1000, 0)
def am_obj (h : am_H) (n c b : Nat) : Bool := Nat.beq (am_shp h n).1 (c + 1) && Nat.blt b (am_shp h n).2
def am_up (f : Nat → Nat → Int) (i j : Nat) (v : Int) : Nat → Nat → Int := fun a b => if a = i then (if b = j then v else f a b) else f a b
def am_upr (f : Nat → Nat → Nat) (i j : Nat) (v : Nat) : Nat → Nat → Nat := fun a b => if a = i then (if b = j then v else f a b) else f a b
def am_zi (f : Nat → Nat → Int) (i : Nat) : Nat → Nat → Int := fun a b => if a = i then 0 else f a b
def am_zr (f : Nat → Nat → Nat) (i : Nat) : Nat → Nat → Nat := fun a b => if a = i then 0 else f a b
def am_add (x y : Int) : Int := (Int32.ofInt x + Int32.ofInt y).toInt
def am_sub (x y : Int) : Int := (Int32.ofInt x - Int32.ofInt y).toInt
def am_mul (x y : Int) : Int := (Int32.ofInt x * Int32.ofInt y).toInt
def am_and (x y : Int) : Int := (Int32.ofInt x &&& Int32.ofInt y).toInt
def am_or (x y : Int) : Int := (Int32.ofInt x ||| Int32.ofInt y).toInt
def am_xor (x y : Int) : Int := (Int32.ofInt x ^^^ Int32.ofInt y).toInt
def am_shl (x y : Int) : Int := (Int32.ofInt x <<< (Int32.ofInt y &&& 31)).toInt
def am_shr (x y : Int) : Int := (Int32.ofInt x >>> (Int32.ofInt y &&& 31)).toInt
def am_ush (x y : Int) : Int := ((Int32.ofInt x).toUInt32 >>> ((Int32.ofInt y).toUInt32 &&& Int32.toUInt32 31)).toInt32.toInt
def am_neg (x : Int) : Int := (-Int32.ofInt x).toInt
def am_div (x y : Int) : Int := (Int32.ofInt x / Int32.ofInt y).toInt
def am_rem (x y : Int) : Int := (Int32.ofInt x - Int32.ofInt x / Int32.ofInt y * Int32.ofInt y).toInt
def am_ladd (x y : Int) : Int := (Int64.ofInt x + Int64.ofInt y).toInt
def am_lsub (x y : Int) : Int := (Int64.ofInt x - Int64.ofInt y).toInt
def am_lmul (x y : Int) : Int := (Int64.ofInt x * Int64.ofInt y).toInt
def am_ldiv (x y : Int) : Int := (Int64.ofInt x / Int64.ofInt y).toInt
def am_lrem (x y : Int) : Int := (Int64.ofInt x - Int64.ofInt x / Int64.ofInt y * Int64.ofInt y).toInt
def am_lcmp (x y : Int) : Int := if y < x then 1 else if x = y then 0 else -1
def am_max (x y : Int) : Int := if x < y then y else x
def am_min (x y : Int) : Int := if y < x then y else x
def am_abs (x : Int) : Int := if 0 ≤ x then x else am_sub 0 x
def am_wt : List am_V → Nat
  | [] => 0
  | v :: t => (match am_two v with | true => 2 | false => 1) + am_wt t
def am_tsw (d : Nat) : List (Int × Nat) → Int → Int → Nat
  | [], _, _ => d
  | q :: r, i, x => if x = i then q.2 else am_tsw d r (i + 1) x
def am_lsw (d : Nat) : List (Int × Nat) → Int → Nat
  | [], _ => d
  | q :: r, x => if x = q.1 then q.2 else am_lsw d r x
/-- the letters of the String constants -/
def am_txt : List (List Int) := [[112, 57, 57, 59], [117, 57, 57, 59], [111, 57, 57, 57, 57, 57, 57, 61, 59], [109, 57, 57, 57, 59], [100, 57, 59], []]
def am_b1 (l : Nat) (z : Int) (q : Nat) (ls : am_L) (st : List am_V) (h : am_H) : Option am_F := some (q + l, ls, .inl z :: st, h)
def am_b2 (l a q : Nat) (ls : am_L) (st : List am_V) (h : am_H) : Option am_F := match am_get ls a with
  | some (.inl x) => some (q + l, ls, .inl x :: st, h)
  | _ => none
def am_b3 (l a c q : Nat) (ls : am_L) (st : List am_V) (h : am_H) : Option am_F := match st with
  | .inl x :: t => some (q + l, am_sto c (.inl x) a ls, t, h)
  | _ => none
def am_b4 (l a q : Nat) (ls : am_L) (st : List am_V) (h : am_H) : Option am_F := match am_get ls a with
  | some (.inr (.inr x)) => some (q + l, ls, .inr (.inr x) :: st, h)
  | _ => none
def am_b5 (l a c q : Nat) (ls : am_L) (st : List am_V) (h : am_H) : Option am_F := match st with
  | .inr (.inr x) :: t => some (q + l, am_sto c (.inr (.inr x)) a ls, t, h)
  | _ => none
def am_b6 (a c : Nat) (z : Int) (q : Nat) (ls : am_L) (st : List am_V) (h : am_H) : Option am_F := match am_get ls a with
  | some (.inl x) => some (q + 3, am_sto c (.inl (am_add x z)) a ls, st, h)
  | _ => none
/-- two ints to one -/
def am_bb (f : Int → Int → Int) (q : Nat) (ls : am_L) (st : List am_V) (h : am_H) : Option am_F := match st with
  | .inl y :: .inl x :: t => some (q + 1, ls, .inl (f x y) :: t, h)
  | _ => none
def am_bd (f : Int → Int → Int) (q : Nat) (ls : am_L) (st : List am_V) (h : am_H) : Option am_F := match st with
  | .inl y :: .inl x :: t => if y = 0 then none else some (q + 1, ls, .inl (f x y) :: t, h)
  | _ => none
def am_bl (f : Int → Int → Int) (q : Nat) (ls : am_L) (st : List am_V) (h : am_H) : Option am_F := match st with
  | .inr (.inl y) :: .inr (.inl x) :: t => some (q + 1, ls, .inr (.inl (f x y)) :: t, h)
  | _ => none
def am_ble (f : Int → Int → Int) (q : Nat) (ls : am_L) (st : List am_V) (h : am_H) : Option am_F := match st with
  | .inr (.inl y) :: .inr (.inl x) :: t => if y = 0 then none else some (q + 1, ls, .inr (.inl (f x y)) :: t, h)
  | _ => none
/-- the same of Math, with little beneath -/
def am_bw (f : Int → Int → Int) (q : Nat) (ls : am_L) (st : List am_V) (h : am_H) : Option am_F := match st with
  | .inl y :: .inl x :: t => match Nat.ble (am_wt t) 8 with
    | true => some (q + 3, ls, .inl (f x y) :: t, h)
    | false => none
  | _ => none
def am_b78 (q : Nat) (ls : am_L) (st : List am_V) (h : am_H) : Option am_F := match st with
  | .inl x :: t => match Nat.ble (am_wt t) 8 with
    | true => some (q + 3, ls, .inl (am_abs x) :: t, h)
    | false => none
  | _ => none
def am_b16 (q : Nat) (ls : am_L) (st : List am_V) (h : am_H) : Option am_F := match st with
  | .inl x :: t => some (q + 1, ls, .inl (am_neg x) :: t, h)
  | _ => none
def am_b22 (b c q : Nat) (ls : am_L) (st : List am_V) (h : am_H) : Option am_F := match st with
  | .inr (.inr n) :: t => match am_obj h n c b with
    | true => some (q + 3, ls, .inl (h.2.1 n b) :: t, h)
    | false => none
  | _ => none
def am_b58 (b c q : Nat) (ls : am_L) (st : List am_V) (h : am_H) : Option am_F := match st with
  | .inr (.inr n) :: t => match am_obj h n c b, h.2.2 n b with
    | true, r + 1 => some (q + 3, ls, .inr (.inr r) :: t, h)
    | _, _ => none
  | _ => none
def am_b23 (b c q : Nat) (ls : am_L) (st : List am_V) (h : am_H) : Option am_F := match st with
  | .inl x :: .inr (.inr n) :: t => match am_obj h n c b with
    | true => some (q + 3, ls, t, (h.1, am_up h.2.1 n b x, h.2.2))
    | false => none
  | _ => none
def am_b74 (b c q : Nat) (ls : am_L) (st : List am_V) (h : am_H) : Option am_F := match st with
  | .inl x :: .inr (.inr n) :: t => match am_obj h n c b with
    | true => if x = 0 ∨ x = 1 then some (q + 3, ls, t, (h.1, am_up h.2.1 n b x, h.2.2)) else none
    | false => none
  | _ => none
def am_b72 (b c q : Nat) (ls : am_L) (st : List am_V) (h : am_H) : Option am_F := match st with
  | .inr (.inr v) :: .inr (.inr n) :: t => match am_obj h n c b with
    | true => some (q + 3, ls, t, (h.1, h.2.1, am_upr h.2.2 n b (v + 1)))
    | false => none
  | _ => none
def am_b24 (q : Nat) (ls : am_L) (st : List am_V) (h : am_H) : Option am_F := match st with
  | .inl j :: .inr (.inr n) :: t => match Nat.beq (am_shp h n).1 0 with
    | true => if 0 ≤ j ∧ j < ((am_shp h n).2 : Int) then some (q + 1, ls, .inl (h.2.1 n j.toNat) :: t, h) else none
    | false => none
  | _ => none
def am_b25 (q : Nat) (ls : am_L) (st : List am_V) (h : am_H) : Option am_F := match st with
  | .inl x :: .inl j :: .inr (.inr (n + 1)) :: t => match Nat.beq (am_shp h (n + 1)).1 0 with
    | true => if 0 ≤ j ∧ j < ((am_shp h (n + 1)).2 : Int) then some (q + 1, ls, t, (h.1, am_up h.2.1 (n + 1) j.toNat x, h.2.2)) else none
    | false => none
  | _ => none
def am_b26 (q : Nat) (ls : am_L) (st : List am_V) (h : am_H) : Option am_F := match st with
  | .inr (.inr n) :: t => match Nat.beq (am_shp h n).1 0 && Nat.blt (am_shp h n).2 200000 with
    | true => some (q + 1, ls, .inl ((am_shp h n).2 : Int) :: t, h)
    | false => none
  | _ => none
def am_b27 (q : Nat) (ls : am_L) (st : List am_V) (h : am_H) : Option am_F := match st with
  | .inl x :: t => if 0 ≤ x ∧ x ≤ 100000 ∧ 0 < h.1.length ∧ h.1.length < 800000 then some (q + 2, ls, .inr (.inr h.1.length) :: t, (h.1 ++ [(0, x.toNat)], am_zi h.2.1 h.1.length, am_zr h.2.2 h.1.length)) else none
  | _ => none
def am_N (c : Nat) : Nat := (am_cs.getD c ("", [], [], 0, 0)).2.1.length
def am_b28 (c q : Nat) (ls : am_L) (st : List am_V) (h : am_H) : Option am_F := if 0 < h.1.length ∧ h.1.length < 800000 then some (q + 3, ls, .inr (.inr h.1.length) :: st, (h.1 ++ [(c + 1, am_N c)], am_zi h.2.1 h.1.length, am_zr h.2.2 h.1.length)) else none
def am_b31 (l a q : Nat) (ls : am_L) (st : List am_V) (h : am_H) : Option am_F := match am_get ls a with
  | some (.inr (.inl x)) => some (q + l, ls, .inr (.inl x) :: st, h)
  | _ => none
def am_b32 (l a c q : Nat) (ls : am_L) (st : List am_V) (h : am_H) : Option am_F := match st with
  | .inr (.inl x) :: t => some (q + l, am_sto c (.inr (.inl x)) a ls, t, h)
  | _ => none
def am_b38 (q : Nat) (ls : am_L) (st : List am_V) (h : am_H) : Option am_F := match st with
  | .inr (.inl y) :: .inr (.inl x) :: t => some (q + 1, ls, .inl (am_lcmp x y) :: t, h)
  | _ => none
def am_b39 (q : Nat) (ls : am_L) (st : List am_V) (h : am_H) : Option am_F := match st with
  | .inl x :: t => some (q + 1, ls, .inr (.inl x) :: t, h)
  | _ => none
def am_b40 (q : Nat) (ls : am_L) (st : List am_V) (h : am_H) : Option am_F := match st with
  | v :: t => match am_two v with
    | false => some (q + 1, ls, v :: v :: t, h)
    | true => none
  | _ => none
def am_b41 (q : Nat) (ls : am_L) (st : List am_V) (h : am_H) : Option am_F := match st with
  | v :: w :: t => match am_two v || am_two w with
    | false => some (q + 1, ls, v :: w :: v :: w :: t, h)
    | true => none
  | _ => none
def am_b42 (q : Nat) (ls : am_L) (st : List am_V) (h : am_H) : Option am_F := match st with
  | v :: t => match am_two v with
    | false => some (q + 1, ls, t, h)
    | true => none
  | _ => none
def am_b43 (p q : Nat) (ls : am_L) (st : List am_V) (h : am_H) : Option am_F := match st with
  | .inr (.inr _) :: t => some (p, ls, t, h)
  | _ => none
def am_b49 (q : Nat) (ls : am_L) (st : List am_V) (h : am_H) : Option am_F := match st with
  | .inr (.inr _) :: t => match Nat.ble (am_wt t) 8 with
    | true => some (q + 3, ls, t, h)
    | false => none
  | _ => none
def am_b45 (a : Nat) (sw : List (Int × Nat)) (ls : am_L) (st : List am_V) (h : am_H) : Option am_F := match st with
  | .inl x :: t => some (am_lsw a sw x, ls, t, h)
  | _ => none
def am_b46 (a : Nat) (z : Int) (sw : List (Int × Nat)) (ls : am_L) (st : List am_V) (h : am_H) : Option am_F := match st with
  | .inl x :: t => some (am_tsw a sw z x, ls, t, h)
  | _ => none
def am_b47 (l b q : Nat) (ls : am_L) (st : List am_V) (h : am_H) : Option am_F := match Nat.ble (am_wt st) 8 with
  | true => some (q + l, ls, .inr (.inr (1000000 + b)) :: st, h)
  | false => none
def am_b55 (q : Nat) (ls : am_L) (st : List am_V) (h : am_H) : Option am_F := match st with
  | .inr (.inr n) :: t => match Nat.ble 1000000 n && Nat.blt n 1000006 && Nat.ble (am_wt t) 8 with
    | true => some (q + 3, ls, .inl ((am_txt.getD (n - 1000000) []).length : Int) :: t, h)
    | false => none
  | _ => none
def am_b56 (q : Nat) (ls : am_L) (st : List am_V) (h : am_H) : Option am_F := match st with
  | .inl j :: .inr (.inr n) :: t => match Nat.ble 1000000 n && Nat.blt n 1000006 && Nat.ble (am_wt t) 8 with
    | true => if 0 ≤ j ∧ j < ((am_txt.getD (n - 1000000) []).length : Int) then some (q + 3, ls, .inl ((am_txt.getD (n - 1000000) []).getD j.toNat 0) :: t, h) else none
    | false => none
  | _ => none
def am_b57 (q : Nat) (ls : am_L) (st : List am_V) (h : am_H) : Option am_F := match st with
  | .inr (.inr n) :: t => match Nat.ble 1000000 n && Nat.blt n 1000006 && Nat.ble (am_wt t) 8 with
    | true => some (q + 3, ls, .inl (if (am_txt.getD (n - 1000000) []).length = 0 then 1 else 0) :: t, h)
    | false => none
  | _ => none
/-- one branch on an int, on two -/
def am_j1 (f : Int → Bool) (a q : Nat) (ls : am_L) (st : List am_V) (h : am_H) : Option am_F := match st with
  | .inl x :: t => some (match f x with | true => a | false => q + 3, ls, t, h)
  | _ => none
def am_j2 (f : Int → Int → Bool) (a q : Nat) (ls : am_L) (st : List am_V) (h : am_H) : Option am_F := match st with
  | .inl y :: .inl x :: t => some (match f x y with | true => a | false => q + 3, ls, t, h)
  | _ => none
def am_step (i : am_I) (q : Nat) (ls : am_L) (st : List am_V) (h : am_H) : Option am_F :=
  match i with
  | (o, l, a, b, c, z, sw) => match o with
    | 1 => am_b1 l z q ls st h
    | 2 => am_b2 l a q ls st h
    | 3 => am_b3 l a c q ls st h
    | 4 => am_b4 l a q ls st h
    | 5 => am_b5 l a c q ls st h
    | 6 => am_b6 a c z q ls st h
    | 7 => am_bb am_add q ls st h
    | 8 => am_bb am_sub q ls st h
    | 9 => am_bb am_mul q ls st h
    | 10 => am_bb am_and q ls st h
    | 11 => am_bb am_or q ls st h
    | 12 => am_bb am_xor q ls st h
    | 13 => am_bb am_shl q ls st h
    | 14 => am_bb am_shr q ls st h
    | 15 => am_bb am_ush q ls st h
    | 16 => am_b16 q ls st h
    | 17 => am_bd am_div q ls st h
    | 18 => am_bd am_rem q ls st h
    | 21 => some (a, ls, st, h)
    | 22 => am_b22 b c q ls st h
    | 23 => am_b23 b c q ls st h
    | 24 => am_b24 q ls st h
    | 25 => am_b25 q ls st h
    | 26 => am_b26 q ls st h
    | 27 => am_b27 q ls st h
    | 28 => am_b28 c q ls st h
    | 30 => some (q + l, ls, .inr (.inl z) :: st, h)
    | 31 => am_b31 l a q ls st h
    | 32 => am_b32 l a c q ls st h
    | 33 => am_bl am_ladd q ls st h
    | 34 => am_bl am_lsub q ls st h
    | 35 => am_bl am_lmul q ls st h
    | 36 => am_ble am_ldiv q ls st h
    | 37 => am_ble am_lrem q ls st h
    | 38 => am_b38 q ls st h
    | 39 => am_b39 q ls st h
    | 40 => am_b40 q ls st h
    | 41 => am_b41 q ls st h
    | 42 => am_b42 q ls st h
    | 43 => am_b43 (q + 3) q ls st h
    | 44 => am_b43 a q ls st h
    | 45 => am_b45 a sw ls st h
    | 46 => am_b46 a z sw ls st h
    | 47 => am_b47 l b q ls st h
    | 49 => am_b49 q ls st h
    | 55 => am_b55 q ls st h
    | 56 => am_b56 q ls st h
    | 57 => am_b57 q ls st h
    | 58 => am_b58 b c q ls st h
    | 60 => am_j1 (fun x => decide (x = 0)) a q ls st h
    | 61 => am_j1 (fun x => decide (¬ x = 0)) a q ls st h
    | 62 => am_j1 (fun x => decide (x < 0)) a q ls st h
    | 63 => am_j1 (fun x => decide (0 ≤ x)) a q ls st h
    | 64 => am_j1 (fun x => decide (0 < x)) a q ls st h
    | 65 => am_j1 (fun x => decide (x ≤ 0)) a q ls st h
    | 66 => am_j2 (fun x y => decide (x = y)) a q ls st h
    | 67 => am_j2 (fun x y => decide (¬ x = y)) a q ls st h
    | 68 => am_j2 (fun x y => decide (x < y)) a q ls st h
    | 69 => am_j2 (fun x y => decide (y ≤ x)) a q ls st h
    | 70 => am_j2 (fun x y => decide (y < x)) a q ls st h
    | 71 => am_j2 (fun x y => decide (x ≤ y)) a q ls st h
    | 72 => am_b72 b c q ls st h
    | 73 => am_b72 b c q ls st h
    | 74 => am_b74 b c q ls st h
    | 76 => am_bw am_max q ls st h
    | 77 => am_bw am_min q ls st h
    | 78 => am_b78 q ls st h
    | _ => none
/-- what a return takes off -/
def am_ret (rk b : Nat) (st : List am_V) : Option (Option am_V) := match b, st with
  | 0, [] => some none
  | 1, [.inl x] => match Nat.beq rk 4 with
    | true => if x = 0 ∨ x = 1 then some (some (.inl x)) else none
    | false => some (some (.inl x))
  | 2, [.inr (.inl x)] => some (some (.inr (.inl x)))
  | 3, [.inr (.inr x)] => some (some (.inr (.inr x)))
  | _, _ => none
def am_take : Nat → List am_V → List am_V → Option (List am_V × List am_V)
  | 0, as, st => some (as, st)
  | n + 1, as, v :: st => am_take n (v :: as) st
  | _ + 1, _, [] => none
def am_ent : List am_V → am_L
  | [] => []
  | v :: t => match am_two v with
    | true => some v :: none :: am_ent t
    | false => some v :: am_ent t
def am_pad : Nat → am_L → am_L
  | 0, _ => []
  | n + 1, [] => none :: am_pad n []
  | n + 1, o :: t => o :: am_pad n t
def am_no2 : List am_V → Bool
  | [] => true
  | v :: t => (match am_two v with | true => false | false => true) && am_no2 t
/-- the receiver is of the method's class -/
def am_rcv (k : Nat) (as : List am_V) (h : am_H) : Bool := match am_n k 3, as with
  | 0, _ => true
  | 1, .inr (.inr n) :: _ => Nat.beq (am_shp h n).1 (am_n k 10 + 1) && Nat.ble 1 n
  | 2, .inr (.inr _) :: _ => true
  | _, _ => false
def am_call (k : Nat) (st : List am_V) (h : am_H) : Option (am_L × List am_V) := match am_take (am_n k 1) [] st with
  | some (as, r) => match Nat.ble (am_wt r) 8 && am_rcv k as h && (Nat.beq (am_n k 4) 1 || am_no2 as) && Nat.ble (am_wt as) (am_n k 0) with
    | true => some (am_pad (am_n k 0) (am_ent as), r)
    | false => none
  | none => none
def am_run : Nat → Nat → Nat → Nat → am_L → List am_V → am_H → Option (Option am_V × am_H)
  | 0, _, _, _, _, _, _ => none
  | n + 1, d, k, q, ls, st, h =>
    match Nat.beq (am_code k q).1 29 with
    | true => match am_ret (am_n k 2) (am_code k q).2.2.2.1 st with
      | some r => some (r, h)
      | none => none
    | false => match Nat.ble 50 (am_code k q).1 && Nat.ble (am_code k q).1 54 with
      | true => match d, am_call (am_code k q).2.2.2.1 st h with
        | d' + 1, some (ls0, t) => match am_run n d' (am_code k q).2.2.2.1 0 ls0 [] h with
          | some (r, h1) => am_run n (d' + 1) k (q + 3) ls (r.toList ++ t) h1
          | none => none
        | _, _ => none
      | false => match am_step (am_code k q) q ls st h with
        | some (q', ls', st', h') => am_run n d k q' ls' st' h'
        | none => none
