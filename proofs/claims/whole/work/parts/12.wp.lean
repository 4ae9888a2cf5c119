/-! THE SMALL MACHINE BY EQUATIONS: from a state it comes to an end with Q -/
def am_Wp (d k q : Nat) (ls : am_L) (st : List am_V) (h : am_H) (Q : Option am_V → am_H → Prop) : Prop := ∃ n r h', am_run n d k q ls st h = some (r, h') ∧ Q r h'
def am_bod (rec : Nat → Nat → Nat → am_L → List am_V → am_H → Option (Option am_V × am_H)) (d k q : Nat) (ls : am_L) (st : List am_V) (h : am_H) : Option (Option am_V × am_H) :=
    match Nat.beq (am_code k q).1 29 with
    | true => match am_ret (am_n k 2) (am_code k q).2.2.2.1 st with
      | some r => some (r, h)
      | none => none
    | false => match Nat.ble 50 (am_code k q).1 && Nat.ble (am_code k q).1 54 with
      | true => match d, am_call (am_code k q).2.2.2.1 st h with
        | d' + 1, some (ls0, t) => match rec d' (am_code k q).2.2.2.1 0 ls0 [] h with
          | some (r, h1) => rec (d' + 1) k (q + 3) ls (r.toList ++ t) h1
          | none => none
        | _, _ => none
      | false => match am_step (am_code k q) q ls st h with
        | some (q', ls', st', h') => rec d k q' ls' st' h'
        | none => none
theorem am_run_u {n d k q : Nat} {ls : am_L} {st : List am_V} {h : am_H} : am_run (n + 1) d k q ls st h = am_bod (am_run n) d k q ls st h := rfl
theorem am_run_s : ∀ {n d k q : Nat} {ls : am_L} {st : List am_V} {h : am_H} {x : Option am_V × am_H}, am_run n d k q ls st h = some x → am_run (n + 1) d k q ls st h = some x
  | 0, d, k, q, ls, st, h, x, hr => by simp [am_run] at hr
  | n + 1, d, k, q, ls, st, h, x, hr => by
    rw [am_run_u] at hr ⊢
    unfold am_bod at hr ⊢
    split at hr
    next ho =>
      try simp only [ho]
      exact hr
    next ho =>
      try simp only [ho]
      split at hr
      next hc =>
        try simp only [hc]
        split at hr
        next d' ls0 t hca =>
          try simp only [hca]
          split at hr
          next r1 h1 he =>
            rw [am_run_s he]
            exact am_run_s hr
          next => cases hr
        next => cases hr
      next hc =>
        try simp only [hc]
        split at hr
        next hs =>
          try simp only [hs]
          exact am_run_s hr
        next => cases hr
theorem am_run_le {n m d k q : Nat} {ls : am_L} {st : List am_V} {h : am_H} {x : Option am_V × am_H} (hr : am_run n d k q ls st h = some x) (hm : n ≤ m) : am_run m d k q ls st h = some x := by
  induction m with
  | zero => rw [show n = 0 by omega] at hr; exact hr
  | succ m ih =>
    by_cases h1 : n = m + 1
    · rw [← h1]; exact hr
    · exact am_run_s (ih (by omega))
theorem am_run_eq {n m d k q : Nat} {ls : am_L} {st : List am_V} {h : am_H} {x y : Option am_V × am_H} (h1 : am_run n d k q ls st h = some x) (h2 : am_run m d k q ls st h = some y) : x = y := by
  have h3 := am_run_le h1 (Nat.le_max_left n m)
  have h4 := am_run_le h2 (Nat.le_max_right n m)
  exact Option.some.inj (h3.symm.trans h4)
/-- a step that is neither a call nor an end -/
def am_one (k : Nat) (f : am_F) : Option am_F := match Nat.beq (am_code k f.1).1 29 || (Nat.ble 50 (am_code k f.1).1 && Nat.ble (am_code k f.1).1 54) with
  | true => none
  | false => am_step (am_code k f.1) f.1 f.2.1 f.2.2.1 f.2.2.2
def am_go : Nat → Nat → am_F → Option am_F
  | 0, _, f => some f
  | n + 1, k, f => match am_one k f with
    | some g => am_go n k g
    | none => none
theorem am_one_run {n d k : Nat} {f g : am_F} (hs : am_one k f = some g) : am_run (n + 1) d k f.1 f.2.1 f.2.2.1 f.2.2.2 = am_run n d k g.1 g.2.1 g.2.2.1 g.2.2.2 := by
  unfold am_one at hs
  split at hs
  next => cases hs
  next hb =>
    rw [Bool.or_eq_false_iff] at hb
    rw [am_run_u]
    unfold am_bod
    simp only [hb.1, hb.2, hs]
theorem am_one_no {n d k : Nat} {f : am_F} (hb : (Nat.beq (am_code k f.1).1 29 || (Nat.ble 50 (am_code k f.1).1 && Nat.ble (am_code k f.1).1 54)) = false) (hs : am_one k f = none) : am_run n d k f.1 f.2.1 f.2.2.1 f.2.2.2 = none := by
  cases n with
  | zero => rfl
  | succ n =>
    unfold am_one at hs
    rw [hb] at hs
    rw [Bool.or_eq_false_iff] at hb
    rw [am_run_u]
    unfold am_bod
    simp only [hb.1, hb.2, hs]
theorem am_W1 {d k : Nat} {f g : am_F} {Q : Option am_V → am_H → Prop} (hs : am_one k f = some g) : am_Wp d k f.1 f.2.1 f.2.2.1 f.2.2.2 Q = am_Wp d k g.1 g.2.1 g.2.2.1 g.2.2.2 Q := by
  apply propext
  constructor
  · rintro ⟨n, r, h', h1, h2⟩
    cases n with
    | zero => cases h1
    | succ n => exact ⟨n, r, h', by rw [← am_one_run hs]; exact h1, h2⟩
  · rintro ⟨n, r, h', h1, h2⟩
    exact ⟨n + 1, r, h', by rw [am_one_run hs]; exact h1, h2⟩
theorem am_Wgo {d k : Nat} {Q : Option am_V → am_H → Prop} : ∀ (n : Nat) {f g : am_F}, am_go n k f = some g → am_Wp d k f.1 f.2.1 f.2.2.1 f.2.2.2 Q = am_Wp d k g.1 g.2.1 g.2.2.1 g.2.2.2 Q
  | 0, f, g, hs => by cases hs; rfl
  | n + 1, f, g, hs => by
    unfold am_go at hs
    split at hs
    next g' h1 => exact (am_W1 h1).trans (am_Wgo n hs)
    next => cases hs
section AWP
variable {d k q q' a b : Nat} {ls ls' : am_L} {st st' : List am_V} {h h' : am_H} {Q : Option am_V → am_H → Prop}
/-- n plain steps -/
theorem am_We (n : Nat) (hs : am_go n k (q, ls, st, h) = some (q', ls', st', h')) : am_Wp d k q ls st h Q = am_Wp d k q' ls' st' h' Q := am_Wgo n hs
/-- a branch -/
theorem am_Wif {P : Prop} [Decidable P] (hs : am_one k (q, ls, st, h) = some ((match decide P with | true => a | false => b), ls', st', h')) : am_Wp d k q ls st h Q = if P then am_Wp d k a ls' st' h' Q else am_Wp d k b ls' st' h' Q := by
  rw [am_W1 (f := (q, ls, st, h)) hs]
  by_cases hp : P
  · simp only [if_pos hp, decide_eq_true hp]
  · simp only [if_neg hp, decide_eq_false hp]
theorem am_Wifn {P : Prop} [Decidable P] (hs : am_one k (q, ls, st, h) = some ((match decide (¬ P) with | true => a | false => b), ls', st', h')) : am_Wp d k q ls st h Q = if P then am_Wp d k b ls' st' h' Q else am_Wp d k a ls' st' h' Q := by
  rw [am_Wif hs]
  by_cases hp : P
  · rw [if_pos hp, if_neg (not_not_intro hp)]
  · rw [if_neg hp, if_pos hp]
theorem am_Wq {P : Prop} [Decidable P] : am_Wp d k (if P then a else b) ls st h Q = if P then am_Wp d k a ls st h Q else am_Wp d k b ls st h Q := by
  by_cases hp : P
  · simp only [if_pos hp]
  · simp only [if_neg hp]
/-- a step that wants something -/
theorem am_Wck {P : Prop} [Decidable P] (hb : (Nat.beq (am_code k q).1 29 || (Nat.ble 50 (am_code k q).1 && Nat.ble (am_code k q).1 54)) = false) (hs : am_one k (q, ls, st, h) = if P then some (q', ls', st', h') else none) : am_Wp d k q ls st h Q = (P ∧ am_Wp d k q' ls' st' h' Q) := by
  by_cases hp : P
  · rw [if_pos hp] at hs
    rw [am_W1 (f := (q, ls, st, h)) hs]
    simp only [hp, true_and]
  · rw [if_neg hp] at hs
    apply propext
    constructor
    · rintro ⟨n, r, h', h1, -⟩
      rw [am_one_no (f := (q, ls, st, h)) hb hs] at h1
      cases h1
    · exact fun w => absurd w.1 hp
theorem am_Wckn {P : Prop} [Decidable P] (hb : (Nat.beq (am_code k q).1 29 || (Nat.ble 50 (am_code k q).1 && Nat.ble (am_code k q).1 54)) = false) (hs : am_one k (q, ls, st, h) = if P then none else some (q', ls', st', h')) : am_Wp d k q ls st h Q = (¬ P ∧ am_Wp d k q' ls' st' h' Q) :=
  am_Wck (P := ¬ P) hb (by rw [hs]; by_cases hp : P
                           · rw [if_pos hp, if_neg (not_not_intro hp)]
                           · rw [if_neg hp, if_pos hp])
/-- a call -/
theorem am_Wc {ls0 : am_L} {t : List am_V} (hd : 1 ≤ d) (h1 : Nat.beq (am_code k q).1 29 = false) (h2 : (Nat.ble 50 (am_code k q).1 && Nat.ble (am_code k q).1 54) = true) (hb : (am_code k q).2.2.2.1 = b) (hc : am_call b st h = some (ls0, t)) : am_Wp d k q ls st h Q = am_Wp (d - 1) b 0 ls0 [] h (fun r h1 => am_Wp d k (q + 3) ls (r.toList ++ t) h1 Q) := by
  obtain ⟨d, rfl⟩ : ∃ w, d = w + 1 := ⟨d - 1, by omega⟩
  rw [Nat.add_sub_cancel]
  apply propext
  constructor
  · rintro ⟨n, r, h', h3, h4⟩
    cases n with
    | zero => cases h3
    | succ n =>
      rw [am_run_u] at h3
      unfold am_bod at h3
      simp only [h1, h2, hb, hc] at h3
      split at h3
      next r1 h5 he => exact ⟨n, r1, h5, he, n, r, h', h3, h4⟩
      next => cases h3
  · rintro ⟨n, r1, h5, he, m, r, h', h3, h4⟩
    refine ⟨max n m + 1, r, h', ?_, h4⟩
    rw [am_run_u]
    unfold am_bod
    simp only [h1, h2, hb, hc, am_run_le he (Nat.le_max_left n m)]
    exact am_run_le h3 (Nat.le_max_right n m)
/-- an end -/
theorem am_Wr {r : Option am_V} (h1 : Nat.beq (am_code k q).1 29 = true) (hr : am_ret (am_n k 2) (am_code k q).2.2.2.1 st = some r) : am_Wp d k q ls st h Q = Q r h := by
  apply propext
  constructor
  · rintro ⟨n, r', h', h3, h4⟩
    cases n with
    | zero => cases h3
    | succ n =>
      rw [am_run_u] at h3
      unfold am_bod at h3
      simp only [h1, hr, Option.some.injEq, Prod.mk.injEq] at h3
      rw [h3.1, h3.2]
      exact h4
  · intro hq
    exact ⟨1, r, h, by rw [am_run_u]; unfold am_bod; simp only [h1, hr], hq⟩
theorem am_Wrb {x : Int} (h1 : Nat.beq (am_code k q).1 29 = true) (hr : am_ret (am_n k 2) (am_code k q).2.2.2.1 st = if x = 0 ∨ x = 1 then some (some (.inl x)) else none) : am_Wp d k q ls st h Q = ((x = 0 ∨ x = 1) ∧ Q (some (.inl x)) h) := by
  by_cases hp : x = 0 ∨ x = 1
  · rw [if_pos hp] at hr
    rw [am_Wr h1 hr]
    simp only [hp, true_and]
  · rw [if_neg hp] at hr
    apply propext
    constructor
    · rintro ⟨n, r', h', h3, h4⟩
      cases n with
      | zero => cases h3
      | succ n =>
        rw [am_run_u] at h3
        unfold am_bod at h3
        simp only [h1, hr] at h3
        cases h3
    · exact fun w => absurd w.1 hp
end AWP
