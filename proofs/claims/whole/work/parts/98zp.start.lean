/-! THE START: what the constructors make -/
abbrev am_X : Type := List (Nat × Nat) × List (Nat × Nat × Nat)
def am_ups : List (Nat × Nat × Nat) → Nat → Nat → Nat
  | [] => fun _ _ => 0
  | u :: t => am_upr (am_ups t) u.1 u.2.1 u.2.2
def am_hx (L : Nat) (f : Nat → Int) (x : am_X) : am_H := ((0, L) :: x.1, fun a j => if a = 0 then f j else 0, am_ups x.2)
def am_xo (x : am_X) (n c b : Nat) : Bool := Nat.ble 1 n && (Nat.beq (x.1.getD (n - 1) (1000, 0)).1 (c + 1) && Nat.blt b (x.1.getD (n - 1) (1000, 0)).2)
def am_xf (x : am_X) : Bool := x.2.all (fun u => Nat.ble u.1 x.1.length) && decide (x.1.length + 1 < 800000)
def am_xs (o l a b c : Nat) (z : Int) (q : Nat) (ls : am_L) (st : List am_V) (x : am_X) : Option (Nat × am_L × List am_V × am_X) :=
  match o with
  | 1 => some (q + l, ls, .inl z :: st, x)
  | 3 => match st with
    | .inl y :: t => some (q + l, am_sto c (.inl y) a ls, t, x)
    | _ => none
  | 4 => match am_get ls a with
    | some (.inr (.inr r)) => some (q + l, ls, .inr (.inr r) :: st, x)
    | _ => none
  | 5 => match st with
    | .inr (.inr y) :: t => some (q + l, am_sto c (.inr (.inr y)) a ls, t, x)
    | _ => none
  | 23 => match st with
    | .inl y :: .inr (.inr n) :: t => match am_xo x n c b && decide (y = 0) with
      | true => some (q + 3, ls, t, x)
      | false => none
    | _ => none
  | 74 => match st with
    | .inl y :: .inr (.inr n) :: t => match am_xo x n c b && decide (y = 0) with
      | true => some (q + 3, ls, t, x)
      | false => none
    | _ => none
  | 27 => match st with
    | .inl y :: t => match decide (0 ≤ y ∧ y ≤ 100000) && am_xf x with
      | true => some (q + 2, ls, .inr (.inr (x.1.length + 1)) :: t, (x.1 ++ [(0, y.toNat)], x.2))
      | false => none
    | _ => none
  | 28 => match am_xf x with
    | true => some (q + 3, ls, .inr (.inr (x.1.length + 1)) :: st, (x.1 ++ [(c + 1, am_N c)], x.2))
    | false => none
  | 40 => match st with
    | v :: t => match am_two v with
      | false => some (q + 1, ls, v :: v :: t, x)
      | true => none
    | _ => none
  | 49 => match st with
    | .inr (.inr _) :: t => match Nat.ble (am_wt t) 8 with
      | true => some (q + 3, ls, t, x)
      | false => none
    | _ => none
  | 73 => match st with
    | .inr (.inr v) :: .inr (.inr n) :: t => match am_xo x n c b with
      | true => some (q + 3, ls, t, (x.1, (n, b, v + 1) :: x.2))
      | false => none
    | _ => none
  | _ => none
theorem am_xo_ok {L : Nat} {f : Nat → Int} {x : am_X} {n c b : Nat} (h : am_xo x n c b = true) : 1 ≤ n ∧ am_obj (am_hx L f x) n c b = true := by
  unfold am_xo at h
  rw [Bool.and_eq_true] at h
  have h1 := Nat.le_of_ble_eq_true h.1
  obtain ⟨m, rfl⟩ : ∃ m, n = m + 1 := ⟨n - 1, by omega⟩
  refine ⟨h1, ?_⟩
  have h2 := h.2
  rw [Nat.add_sub_cancel] at h2
  exact h2
theorem am_ups_f {us : List (Nat × Nat × Nat)} {i : Nat} (h : us.all (fun u => Nat.ble u.1 i) = true) (b : Nat) : am_ups us (i + 1) b = 0 := by
  induction us with
  | nil => rfl
  | cons u t ih =>
    rw [List.all_cons, Bool.and_eq_true] at h
    have h1 := Nat.le_of_ble_eq_true h.1
    show (if i + 1 = u.1 then _ else am_ups t (i + 1) b) = 0
    rw [if_neg (by omega)]
    exact ih h.2
theorem am_zr_ups {us : List (Nat × Nat × Nat)} {i : Nat} (h : us.all (fun u => Nat.ble u.1 i) = true) : am_zr (am_ups us) (i + 1) = am_ups us := by
  funext a b
  unfold am_zr
  by_cases q : a = i + 1
  · rw [if_pos q, q, am_ups_f h]
  · rw [if_neg q]
theorem am_zi_hx {f : Nat → Int} {i : Nat} : am_zi (fun a j => if a = 0 then f j else 0) (i + 1) = fun a j => if a = 0 then f j else 0 := by
  funext a j
  unfold am_zi
  by_cases q : a = i + 1
  · rw [if_pos q, if_neg (by omega)]
  · rw [if_neg q]
theorem am_up_hx {f : Nat → Int} {n b : Nat} (hn : 1 ≤ n) : am_up (fun a j => if a = 0 then f j else 0) n b 0 = fun a j => if a = 0 then f j else 0 := by
  funext a j
  unfold am_up
  by_cases q : a = n
  · rw [if_pos q]
    by_cases q2 : j = b
    · rw [if_pos q2, if_neg (by omega)]
    · rw [if_neg q2]
  · rw [if_neg q]
theorem am_xf_ok {L : Nat} {f : Nat → Int} {x : am_X} (h : am_xf x = true) : 0 < (am_hx L f x).1.length ∧ (am_hx L f x).1.length < 800000 ∧ am_zi (am_hx L f x).2.1 (am_hx L f x).1.length = (am_hx L f x).2.1 ∧ am_zr (am_hx L f x).2.2 (am_hx L f x).1.length = (am_hx L f x).2.2 := by
  unfold am_xf at h
  rw [Bool.and_eq_true] at h
  have h2 := of_decide_eq_true h.2
  exact ⟨Nat.succ_pos _, h2, am_zi_hx, am_zr_ups h.1⟩
theorem am_xs_ok {L : Nat} {f : Nat → Int} {o l a b c : Nat} {z : Int} {sw : List (Int × Nat)} {q q' : Nat} {ls ls' : am_L} {st st' : List am_V} {x x' : am_X} (h : am_xs o l a b c z q ls st x = some (q', ls', st', x')) : am_step (o, l, a, b, c, z, sw) q ls st (am_hx L f x) = some (q', ls', st', am_hx L f x') := by
  unfold am_xs at h
  split at h
  · cases h; rfl
  · split at h
    · cases h; rfl
    · cases h
  · split at h
    next e =>
      cases h
      show am_b4 l a q ls st (am_hx L f x) = _
      unfold am_b4
      rw [e]
    next => cases h
  · split at h
    · cases h; rfl
    · cases h
  · split at h
    · split at h
      next e =>
        rw [Bool.and_eq_true] at e
        obtain ⟨e1, e2⟩ := am_xo_ok (L := L) (f := f) e.1
        have e3 := of_decide_eq_true e.2
        cases h
        subst e3
        rw [show ∀ st, am_step (23, l, a, b, c, z, sw) q ls st (am_hx L f x) = am_b23 b c q ls st (am_hx L f x) from fun _ => rfl]
        unfold am_b23
        simp only [e2]
        show some (q + 3, ls, st', ((am_hx L f x).1, am_up (fun a j => if a = 0 then f j else 0) _ b 0, (am_hx L f x).2.2)) = _
        rw [am_up_hx e1]
        rfl
      next => cases h
    · cases h
  · split at h
    · split at h
      next e =>
        rw [Bool.and_eq_true] at e
        obtain ⟨e1, e2⟩ := am_xo_ok (L := L) (f := f) e.1
        have e3 := of_decide_eq_true e.2
        cases h
        subst e3
        rw [show ∀ st, am_step (74, l, a, b, c, z, sw) q ls st (am_hx L f x) = am_b74 b c q ls st (am_hx L f x) from fun _ => rfl]
        unfold am_b74
        simp only [e2]
        rw [if_pos (Or.inl trivial)]
        show some (q + 3, ls, st', ((am_hx L f x).1, am_up (fun a j => if a = 0 then f j else 0) _ b 0, (am_hx L f x).2.2)) = _
        rw [am_up_hx e1]
        rfl
      next => cases h
    · cases h
  · split at h
    · split at h
      next e =>
        rw [Bool.and_eq_true] at e
        have e1 := of_decide_eq_true e.1
        obtain ⟨e2, e3, e4, e5⟩ := am_xf_ok (L := L) (f := f) e.2
        cases h
        rw [show ∀ st, am_step (27, l, a, b, c, z, sw) q ls st (am_hx L f x) = am_b27 q ls st (am_hx L f x) from fun _ => rfl]
        unfold am_b27
        dsimp only
        rw [if_pos ⟨e1.1, e1.2, e2, e3⟩, e4, e5]
        rfl
      next => cases h
    · cases h
  · split at h
    next e =>
      obtain ⟨e2, e3, e4, e5⟩ := am_xf_ok (L := L) (f := f) e
      cases h
      show am_b28 c q ls st (am_hx L f x) = _
      unfold am_b28
      rw [if_pos ⟨e2, e3⟩, e4, e5]
      rfl
    next => cases h
  · split at h
    · split at h
      next e =>
        cases h
        rw [show ∀ st, am_step (40, l, a, b, c, z, sw) q ls st (am_hx L f x) = am_b40 q ls st (am_hx L f x) from fun _ => rfl]
        unfold am_b40
        simp only [e]
      next => cases h
    · cases h
  · split at h
    · split at h
      next e =>
        cases h
        rw [show ∀ st, am_step (49, l, a, b, c, z, sw) q ls st (am_hx L f x) = am_b49 q ls st (am_hx L f x) from fun _ => rfl]
        unfold am_b49
        simp only [e]
      next => cases h
    · cases h
  · split at h
    · split at h
      next e =>
        obtain ⟨e1, e2⟩ := am_xo_ok (L := L) (f := f) e
        cases h
        rw [show ∀ st, am_step (73, l, a, b, c, z, sw) q ls st (am_hx L f x) = am_b72 b c q ls st (am_hx L f x) from fun _ => rfl]
        unfold am_b72
        simp only [e2]
        rfl
      next => cases h
    · cases h
  · cases h
theorem am_shp_hx {L M : Nat} {f g : Nat → Int} {x : am_X} {n : Nat} : (am_shp (am_hx L f x) n).1 = (am_shp (am_hx M g x) n).1 := by
  cases n with
  | zero => rfl
  | succ n => rfl
theorem am_call_hx {L M : Nat} {f g : Nat → Int} {x : am_X} {k : Nat} {st : List am_V} : am_call k st (am_hx L f x) = am_call k st (am_hx M g x) := by
  have hr : ∀ as, am_rcv k as (am_hx L f x) = am_rcv k as (am_hx M g x) := fun as => by
    unfold am_rcv
    generalize am_n k 3 = w
    rcases w with _ | _ | _ | w
    · rfl
    · rcases as with _ | ⟨v, as⟩
      · rfl
      · rcases v with v | v | n
        · rfl
        · rfl
        · show (Nat.beq (am_shp (am_hx L f x) n).1 _ && _) = (Nat.beq (am_shp (am_hx M g x) n).1 _ && _)
          rw [am_shp_hx (L := L) (M := M) (f := f) (g := g)]
    · rcases as with _ | ⟨v, as⟩
      · rfl
      · rcases v with v | v | n <;> rfl
    · rfl
  unfold am_call
  split
  · simp only [hr]
  · rfl
/-- a constructor: what it leaves -/
def am_xr : Nat → Nat → Nat → am_L → List am_V → am_X → Option am_X
  | 0, _, _, _, _, _ => none
  | n + 1, k, q, ls, st, x => match Nat.beq (am_code k q).1 29 with
    | true => match Nat.beq (am_code k q).2.2.2.1 0, st with
      | true, [] => some x
      | _, _ => none
    | false => match Nat.ble 50 (am_code k q).1 && Nat.ble (am_code k q).1 54 with
      | true => match am_call (am_code k q).2.2.2.1 st (am_hx 0 (fun _ => 0) x) with
        | some (ls0, t) => match am_xr n (am_code k q).2.2.2.1 0 ls0 [] x with
          | some x1 => am_xr n k (q + 3) ls t x1
          | none => none
        | none => none
      | false => match am_xs (am_code k q).1 (am_code k q).2.1 (am_code k q).2.2.1 (am_code k q).2.2.2.1 (am_code k q).2.2.2.2.1 (am_code k q).2.2.2.2.2.1 q ls st x with
        | some (q', ls', st', x') => am_xr n k q' ls' st' x'
        | none => none
theorem am_xr_ok {L : Nat} {f : Nat → Int} : ∀ (n : Nat) {d k q : Nat} {ls : am_L} {st : List am_V} {x x' : am_X} {Q : Option am_V → am_H → Prop}, am_xr n k q ls st x = some x' → n ≤ d → am_Wp d k q ls st (am_hx L f x) Q = Q none (am_hx L f x') := by
  intro n
  induction n with
  | zero => intro d k q ls st x x' Q h; cases h
  | succ n ih =>
    intro d k q ls st x x' Q h hd
    unfold am_xr at h
    split at h
    next h1 =>
      split at h
      next h2 =>
        cases h
        exact am_Wr h1 (by rw [Nat.eq_of_beq_eq_true h2]; rfl)
      next => cases h
    next h1 =>
      split at h
      next h2 =>
        split at h
        next ls0 t hc =>
          split at h
          next x1 hx =>
            rw [am_Wc (d := d) (b := (am_code k q).2.2.2.1) (ls0 := ls0) (t := t) (by omega) h1 h2 rfl (by rw [am_call_hx (M := 0) (g := fun _ => 0)]; exact hc), ih hx (by omega)]
            exact ih h (by omega)
          next => cases h
        next => cases h
      next h2 =>
        split at h
        next q' ls' st' x2 hs =>
          have h3 := am_xs_ok (L := L) (f := f) (sw := (am_code k q).2.2.2.2.2.2) hs
          have h4 : am_one k (q, ls, st, am_hx L f x) = some (q', ls', st', am_hx L f x2) := by
            unfold am_one
            have e : (Nat.beq (am_code k q).1 29 || (Nat.ble 50 (am_code k q).1 && Nat.ble (am_code k q).1 54)) = false := by rw [h1, h2]; rfl
            show (match Nat.beq (am_code k q).1 29 || (Nat.ble 50 (am_code k q).1 && Nat.ble (am_code k q).1 54) with | true => none | false => am_step (am_code k q) q ls st (am_hx L f x)) = _
            rw [e]
            exact h3
          rw [am_We 1 (q' := q') (ls' := ls') (st' := st') (h' := am_hx L f x2) (by
            show (match am_one k (q, ls, st, am_hx L f x) with | some g => am_go 0 k g | none => none) = _
            rw [h4]; rfl)]
          exact ih h (by omega)
        next => cases h
/-- the law's beginning, up to its loop -/
def am_xq : Nat → Nat → am_L → List am_V → am_X → Option (am_L × List am_V × am_X)
  | 0, _, _, _, _ => none
  | n + 1, q, ls, st, x => match Nat.beq q 18 with
    | true => some (ls, st, x)
    | false => match Nat.beq (am_code 0 q).1 29 with
      | true => none
      | false => match Nat.ble 50 (am_code 0 q).1 && Nat.ble (am_code 0 q).1 54 with
        | true => match am_call (am_code 0 q).2.2.2.1 st (am_hx 0 (fun _ => 0) x) with
          | some (ls0, t) => match am_xr 500 (am_code 0 q).2.2.2.1 0 ls0 [] x with
            | some x1 => am_xq n (q + 3) ls t x1
            | none => none
          | none => none
        | false => match am_xs (am_code 0 q).1 (am_code 0 q).2.1 (am_code 0 q).2.2.1 (am_code 0 q).2.2.2.1 (am_code 0 q).2.2.2.2.1 (am_code 0 q).2.2.2.2.2.1 q ls st x with
          | some (q', ls', st', x') => am_xq n q' ls' st' x'
          | none => none
theorem am_xq_ok {L : Nat} {f : Nat → Int} : ∀ (n : Nat) {d q : Nat} {ls ls' : am_L} {st st' : List am_V} {x x' : am_X} {Q : Option am_V → am_H → Prop}, am_xq n q ls st x = some (ls', st', x') → 501 ≤ d → am_Wp d 0 q ls st (am_hx L f x) Q = am_Wp d 0 18 ls' st' (am_hx L f x') Q := by
  intro n
  induction n with
  | zero => intro d q ls ls' st st' x x' Q h; cases h
  | succ n ih =>
    intro d q ls ls' st st' x x' Q h hd
    unfold am_xq at h
    split at h
    next h0 =>
      cases h
      rw [Nat.eq_of_beq_eq_true h0]
    next h0 =>
      split at h
      next => cases h
      next h1 =>
        split at h
        next h2 =>
          split at h
          next ls0 t hc =>
            split at h
            next x1 hx =>
              rw [am_Wc (d := d) (b := (am_code 0 q).2.2.2.1) (ls0 := ls0) (t := t) (by omega) h1 h2 rfl (by rw [am_call_hx (M := 0) (g := fun _ => 0)]; exact hc), am_xr_ok 500 hx (by omega)]
              exact ih h hd
            next => cases h
          next => cases h
        next h2 =>
          split at h
          next q' ls1 st1 x2 hs =>
            have h3 := am_xs_ok (L := L) (f := f) (sw := (am_code 0 q).2.2.2.2.2.2) hs
            have h4 : am_one 0 (q, ls, st, am_hx L f x) = some (q', ls1, st1, am_hx L f x2) := by
              unfold am_one
              have e : (Nat.beq (am_code 0 q).1 29 || (Nat.ble 50 (am_code 0 q).1 && Nat.ble (am_code 0 q).1 54)) = false := by rw [h1, h2]; rfl
              show (match Nat.beq (am_code 0 q).1 29 || (Nat.ble 50 (am_code 0 q).1 && Nat.ble (am_code 0 q).1 54) with | true => none | false => am_step (am_code 0 q) q ls st (am_hx L f x)) = _
              rw [e]
              exact h3
            rw [am_We 1 (q' := q') (ls' := ls1) (st' := st1) (h' := am_hx L f x2) (by
              show (match am_one 0 (q, ls, st, am_hx L f x) with | some g => am_go 0 0 g | none => none) = _
              rw [h4]; rfl)]
            exact ih h hd
          next => cases h
def am_us : List (Nat × Nat × Nat) := [(70, 50, 102), (70, 49, 101), (70, 48, 100), (70, 45, 99), (70, 44, 98), (70, 41, 97), (70, 40, 96), (70, 39, 95), (70, 38, 94), (70, 34, 93), (70, 33, 92), (70, 32, 91), (70, 30, 90), (70, 29, 89), (70, 24, 88), (70, 23, 87), (70, 22, 86), (70, 21, 85), (70, 20, 84), (70, 15, 83), (70, 14, 82), (70, 12, 81), (70, 11, 80), (70, 10, 79), (70, 9, 78), (70, 8, 77), (70, 7, 76), (70, 4, 75), (70, 3, 74), (70, 2, 73), (70, 1, 72), (1, 14, 67), (66, 2, 70), (66, 1, 69), (66, 0, 68), (1, 13, 64), (63, 1, 66), (63, 0, 65), (1, 12, 62), (61, 0, 63), (1, 11, 52), (51, 10, 61), (51, 9, 60), (51, 7, 59), (51, 6, 58), (51, 5, 57), (51, 4, 56), (51, 3, 55), (51, 2, 54), (51, 1, 53), (1, 10, 48), (47, 2, 51), (47, 1, 50), (47, 0, 49), (1, 9, 46), (45, 0, 47), (1, 8, 43), (42, 1, 45), (42, 0, 44), (1, 7, 42), (1, 5, 41), (1, 4, 28), (27, 2, 30), (29, 12, 40), (29, 11, 39), (29, 10, 38), (29, 9, 37), (29, 8, 36), (29, 7, 35), (29, 6, 34), (29, 5, 33), (29, 4, 32), (29, 3, 31), (27, 0, 29), (1, 3, 25), (24, 1, 27), (24, 0, 26), (1, 1, 14), (13, 12, 24), (13, 11, 23), (13, 10, 22), (13, 9, 21), (13, 8, 20), (13, 7, 19), (13, 6, 18), (13, 5, 17), (13, 4, 16), (13, 3, 15), (1, 0, 3), (2, 12, 13), (2, 11, 12), (2, 10, 11), (2, 9, 10), (2, 8, 9), (2, 7, 8), (2, 6, 7), (2, 5, 6), (2, 4, 5), (2, 3, 4)]
def am_e1 (o : Option am_V) : Nat × Nat × Int := match o with
  | none => (0, 0, 0)
  | some (.inl x) => (1, 0, x)
  | some (.inr (.inl x)) => (2, 0, x)
  | some (.inr (.inr n)) => (3, n, 0)
theorem am_e1_inj {a b : Option am_V} (h : am_e1 a = am_e1 b) : a = b := by
  rcases a with _ | x | x | x <;> rcases b with _ | y | y | y <;> simp_all [am_e1]
theorem am_map_inj : ∀ l m : am_L, l.map am_e1 = m.map am_e1 → l = m := by
  intro l
  induction l with
  | nil =>
    intro m h
    cases m with
    | nil => rfl
    | cons b m => cases h
  | cons a l ih =>
    intro m h
    cases m with
    | nil => cases h
    | cons b m =>
      rw [List.map_cons, List.map_cons] at h
      injection h with h1 h2
      rw [am_e1_inj h1, ih m h2]
def am_lq {α : Type} (g : α → α → Bool) : List α → List α → Bool
  | [], [] => true
  | a :: l, b :: m => g a b && am_lq g l m
  | _, _ => false
theorem am_lq_ok {α : Type} {g : α → α → Bool} (hg : ∀ a b, g a b = true → a = b) : ∀ l m, am_lq g l m = true → l = m := by
  intro l
  induction l with
  | nil =>
    intro m h
    cases m with
    | nil => rfl
    | cons b m => cases h
  | cons a l ih =>
    intro m h
    cases m with
    | nil => cases h
    | cons b m =>
      have h2 : (g a b && am_lq g l m) = true := h
      rw [Bool.and_eq_true] at h2
      rw [hg a b h2.1, ih m h2.2]
def am_g2 (a b : Nat × Nat) : Bool := Nat.beq a.1 b.1 && Nat.beq a.2 b.2
def am_g3 (a b : Nat × Nat × Nat) : Bool := Nat.beq a.1 b.1 && (Nat.beq a.2.1 b.2.1 && Nat.beq a.2.2 b.2.2)
def am_g4 (a b : Nat × Nat × Int) : Bool := Nat.beq a.1 b.1 && (Nat.beq a.2.1 b.2.1 && decide (a.2.2 = b.2.2))
theorem am_g2_ok (a b : Nat × Nat) (h : am_g2 a b = true) : a = b := by
  obtain ⟨a1, a2⟩ := a
  obtain ⟨b1, b2⟩ := b
  unfold am_g2 at h
  rw [Bool.and_eq_true] at h
  have e1 : a1 = b1 := Nat.eq_of_beq_eq_true h.1
  have e2 : a2 = b2 := Nat.eq_of_beq_eq_true h.2
  rw [e1, e2]
theorem am_g3_ok (a b : Nat × Nat × Nat) (h : am_g3 a b = true) : a = b := by
  obtain ⟨a1, a2, a3⟩ := a
  obtain ⟨b1, b2, b3⟩ := b
  unfold am_g3 at h
  rw [Bool.and_eq_true, Bool.and_eq_true] at h
  have e1 : a1 = b1 := Nat.eq_of_beq_eq_true h.1
  have e2 : a2 = b2 := Nat.eq_of_beq_eq_true h.2.1
  have e3 : a3 = b3 := Nat.eq_of_beq_eq_true h.2.2
  rw [e1, e2, e3]
theorem am_g4_ok (a b : Nat × Nat × Int) (h : am_g4 a b = true) : a = b := by
  obtain ⟨a1, a2, a3⟩ := a
  obtain ⟨b1, b2, b3⟩ := b
  unfold am_g4 at h
  rw [Bool.and_eq_true, Bool.and_eq_true] at h
  have e1 : a1 = b1 := Nat.eq_of_beq_eq_true h.1
  have e2 : a2 = b2 := Nat.eq_of_beq_eq_true h.2.1
  have e3 : a3 = b3 := of_decide_eq_true h.2.2
  rw [e1, e2, e3]
def am_xe (r : Option (am_L × List am_V × am_X)) (ls : List (Nat × Nat × Int)) (x : am_X) : Bool := match r with
  | none => false
  | some r => am_lq am_g4 (r.1.map am_e1) ls && (Nat.beq r.2.1.length 0 && (am_lq am_g2 r.2.2.1 x.1 && am_lq am_g3 r.2.2.2 x.2))
set_option maxRecDepth 100000 in
theorem am_xq_dec : am_xe (am_xq 60 0 [some (Sum.inr (Sum.inr 0)), none, none, none] [] ([], [])) [(3, 0, 0), (3, 1, 0), (3, 70, 0), (1, 0, 0)] (am_SH1, am_us) = true := by decide +kernel
theorem am_xe_ok {r : Option (am_L × List am_V × am_X)} {ls : am_L} {x : am_X} (h : am_xe r (ls.map am_e1) x = true) : r = some (ls, [], x) := by
  cases r with
  | none => cases h
  | some r =>
    obtain ⟨l, s, y1, y2⟩ := r
    obtain ⟨x1, x2⟩ := x
    have h2 : (am_lq am_g4 (l.map am_e1) (ls.map am_e1) && (Nat.beq s.length 0 && (am_lq am_g2 y1 x1 && am_lq am_g3 y2 x2))) = true := h
    rw [Bool.and_eq_true, Bool.and_eq_true, Bool.and_eq_true] at h2
    have e1 := am_map_inj _ _ (am_lq_ok am_g4_ok _ _ h2.1)
    have e2 : s = [] := List.length_eq_zero_iff.mp (Nat.eq_of_beq_eq_true h2.2.1)
    have e3 := am_lq_ok am_g2_ok _ _ h2.2.2.1
    have e4 := am_lq_ok am_g3_ok _ _ h2.2.2.2
    rw [e1, e2, e3, e4]
theorem am_xq_run : am_xq 60 0 [some (Sum.inr (Sum.inr 0)), none, none, none] [] ([], []) = some ([some (Sum.inr (Sum.inr 0)), some (Sum.inr (Sum.inr 1)), some (Sum.inr (Sum.inr 70)), some (Sum.inl 0)], [], (am_SH1, am_us)) := am_xe_ok am_xq_dec
set_option maxRecDepth 100000 in
theorem am_us_in : (List.range 71).all (fun a => (List.range 53).all (fun b => Nat.beq (am_ups am_us a b) (am_RR 0 a b))) = true := by decide +kernel
theorem am_us_lt : am_us.all (fun u => Nat.blt u.1 71 && Nat.blt u.2.1 53) = true := by decide +kernel
theorem am_ups_0 {us : List (Nat × Nat × Nat)} (h : us.all (fun u => Nat.blt u.1 71 && Nat.blt u.2.1 53) = true) {a b : Nat} (hab : 71 ≤ a ∨ 53 ≤ b) : am_ups us a b = 0 := by
  induction us with
  | nil => rfl
  | cons u t ih =>
    rw [List.all_cons, Bool.and_eq_true, Bool.and_eq_true] at h
    have h1 : u.1 < 71 := Nat.le_of_ble_eq_true h.1.1
    have h2 : u.2.1 < 53 := Nat.le_of_ble_eq_true h.1.2
    show (if a = u.1 then (if b = u.2.1 then _ else am_ups t a b) else am_ups t a b) = 0
    by_cases q : a = u.1
    · rw [if_pos q, if_neg (by omega)]; exact ih h.2
    · rw [if_neg q]; exact ih h.2
theorem am_gd0 {l : List Nat} {b : Nat} (h : l.length ≤ b) : l.getD b 0 = 0 := by
  rw [List.getD_eq_getElem?_getD, List.getElem?_eq_none h]; rfl
theorem am_beq_f {a b : Nat} (h : ¬ a = b) : Nat.beq a b = false := by
  cases hh : Nat.beq a b with
  | true => exact absurd (Nat.eq_of_beq_eq_true hh) h
  | false => rfl
theorem am_bif0 {c : Bool} {x y : Nat} (h1 : x = 0) (h2 : y = 0) : (bif c then x else y) = 0 := by
  cases c
  · exact h2
  · exact h1
theorem am_RR_0 {a b : Nat} (hab : 71 ≤ a ∨ 53 ≤ b) : am_RR 0 a b = 0 := by
  by_cases ha : 71 ≤ a
  · unfold am_RR
    rw [am_beq_f (show ¬ a = 1 by omega), am_beq_f (show ¬ a = 2 by omega), am_beq_f (show ¬ a = 13 by omega), am_beq_f (show ¬ a = 24 by omega), am_beq_f (show ¬ a = 27 by omega), am_beq_f (show ¬ a = 29 by omega), am_beq_f (show ¬ a = 42 by omega), am_beq_f (show ¬ a = 45 by omega), am_beq_f (show ¬ a = 47 by omega), am_beq_f (show ¬ a = 51 by omega), am_beq_f (show ¬ a = 61 by omega), am_beq_f (show ¬ a = 63 by omega), am_beq_f (show ¬ a = 66 by omega), am_beq_f (show ¬ a = 70 by omega)]
    rfl
  · have hb : 53 ≤ b := by omega
    unfold am_RR
    have g : ∀ l : List Nat, l.length ≤ 53 → l.getD b 0 = 0 := fun l hl => am_gd0 (Nat.le_trans hl hb)
    exact am_bif0 (g _ (by decide)) (am_bif0 (g _ (by decide)) (am_bif0 (g _ (by decide)) (am_bif0 (g _ (by decide)) (am_bif0 (g _ (by decide)) (am_bif0 (g _ (by decide)) (am_bif0 (g _ (by decide)) (am_bif0 (g _ (by decide)) (am_bif0 (g _ (by decide)) (am_bif0 (g _ (by decide)) (am_bif0 (g _ (by decide)) (am_bif0 (g _ (by decide)) (am_bif0 (g _ (by decide)) (am_bif0 (am_bif0 rfl (g _ (by decide))) rfl)))))))))))))
theorem am_us_RR : am_ups am_us = am_RR 0 := by
  funext a b
  by_cases hab : 71 ≤ a ∨ 53 ≤ b
  · rw [am_ups_0 am_us_lt hab, am_RR_0 hab]
  · have h1 := List.all_eq_true.mp am_us_in a (List.mem_range.mpr (by omega))
    have h2 := List.all_eq_true.mp h1 b (List.mem_range.mpr (by omega))
    exact Nat.eq_of_beq_eq_true h2
def am_f0 (f : Nat → Int) : Nat → Nat → Int := fun a j => if a = 0 then f j else 0
theorem am_INV_0 {f : Nat → Int} : am_INV (c_S (am_f0 f)) (m_S (am_f0 f)) := by
  have z : ∀ n, v_o n (fun _ => 0) := fun n j _ => rfl
  have hz : v_z ((((0 : Int), (0 : Int), (0 : Int)), (fun _ => 0), (fun _ => 0), (fun _ => 0), (fun _ => 0), (fun _ => 0), (fun _ => 0), (fun _ => 0), (fun _ => 0), (fun _ => 0), (fun _ => 0)) : am_Vw) := ⟨⟨z 7, z 7, z 7, z 7⟩, z 16, z 16, z 16, z 16, z 16, z 16⟩
  refine am_INV_u.2 ⟨⟨?_, hz, rfl⟩, ⟨⟨hz, hz⟩, rfl, Or.inl rfl⟩, ⟨0, 0, rfl, rfl, rfl, by omega, by omega, fun i hi => absurd hi (by omega)⟩, ⟨rfl, rfl, ⟨Int.le_refl 0, (by show (0 : Int) ≤ 96; omega)⟩, fun j => ⟨Int.le_refl 0, (by show (0 : Int) ≤ 255; omega)⟩⟩, ⟨rfl, rfl, ⟨Int.le_refl 0, (by show (0 : Int) ≤ 12; omega)⟩, fun j => ⟨Int.le_refl 0, (by show (0 : Int) ≤ 99; omega)⟩⟩, rfl, fun p hp => absurd hp (by show ¬ (p : Int) < 0; omega), fun w => absurd w (by show ¬ (0 : Int) = 1; omega), fun i hi => absurd hi (by show ¬ (i : Int) < 0; omega)⟩
  refine ⟨(by show (0 : Int) ≤ 0 ∧ (0 : Int) ≤ 7; omega), (by show (0 : Int) ≤ 0 ∧ (0 : Int) ≤ 16; omega), (by show (0 : Int) ≤ 0 ∧ (0 : Int) ≤ 99; omega), fun i hi => ?_, fun p hp => ?_, fun p hp => absurd hp (by show ¬ (p : Int) < 0; omega)⟩
  · show ((0 : Int) ≤ 0 ∧ (0 : Int) ≤ 5) ∧ ((0 : Int) ≤ 0 ∧ (0 : Int) ≤ 9) ∧ am_i32 0 ∧ ((0 : Int) ≤ 0 ∧ (0 : Int) ≤ 127)
    unfold am_i32
    omega
  · show ((0 : Int) ≤ 0 ∧ (0 : Int) ≤ 6) ∧ ((0 : Int) ≤ 0 ∧ (0 : Int) ≤ 6) ∧ ((0 : Int) ≤ 0 ∧ (0 : Int) ≤ 40) ∧ ((0 : Int) ≤ 0 ∧ (0 : Int) ≤ 98) ∧ ((0 : Int) ≤ 0 ∧ (0 : Int) ≤ 1) ∧ ((0 : Int) ≤ 0 ∧ (0 : Int) ≤ 3)
    omega
theorem am_SH_len {L : Nat} : (am_SH L).length ≤ 1000 := by
  show am_SH1.length + 1 ≤ 1000
  decide
theorem am_SH_sl {L : Nat} (hL : L ≤ 3072) : am_sl (am_SH L) ≤ 100000 := by
  have h : am_sl am_SH1 ≤ 90000 := by decide +kernel
  show L + am_sl am_SH1 ≤ 100000
  omega
theorem am_pure : am_Pure := by
  intro L f hL _
  have h0 : am_h0 L f = am_hx L f ([], []) := rfl
  have h1 : am_hx L f (am_SH1, am_us) = (am_SH L, am_f0 f, am_RR 0) := by
    show ((0, L) :: am_SH1, _, am_ups am_us) = _
    rw [am_us_RR]
    rfl
  rw [h0, am_xq_ok 60 am_xq_run (by omega), h1]
  exact law_all (L := L) (by omega) (by omega) (fun g kp => ⟨rfl, am_SH_len, am_SH_sl hL⟩) L 0 0 (am_f0 f) (by omega) (by omega) am_INV_0