
theorem am_wt_ok {ph : Nat → Nat} : ∀ (st : List am_V), ((st.map (am_rv ph)).map fun v => v.category).sum = am_wt st
  | [] => rfl
  | v :: t => by
    have ih := am_wt_ok (ph := ph) t
    simp only [List.map_cons, List.sum_cons, am_wt, ih]
    rcases v with z | z | a <;> rfl
/-- what is said of String constants: a predicate that moves, and what the machine does with them -/
def am_SOK (SX : am_G → State → Prop) : Prop :=
  (∀ (G : am_G) (s U : State), s.WarmedH U.vm → (∀ a : Nat, a < s.heap.size → ¬ am_A G a → U.heap[a]? = s.heap[a]?) → SX G s → SX G U) ∧
  (∀ (p : Program) (l : Launch) (e : Env) (R : Room) (s : State) (m : MethodId) (args : Array Value) (below : List Frame) (meth : Method) (c : Code) (G : am_G) (k : Nat) (Q : State → Prop) (H : Heap) (locs : List Loc) (cells slots : Nat) (lsR : Array Slot) (rest : List Value) (q a b cc : Nat),
    am_Cx p l e R s m args below meth c G k → SX G s → va_S (am_A G) s.heap H locs → lsR.size = am_n k 0 → cells ≤ R.cells → slots ≤ R.slots → 5 ≤ R.frames → 256 ≤ R.locals → (rest.map fun v => v.category).sum ≤ 8 → b < 6 →
    ((am_chk k q (47, 2, a, b, cc, 0, []) = true → W p l e R s m args below meth c H locs cells slots Q (F0 m (q + 2) lsR (.ref (G.2.2.2.2 (1000000 + b)) :: rest)) → W p l e R s m args below meth c H locs cells slots Q (F0 m q lsR rest)) ∧
     (am_chk k q (55, 3, a, 0, cc, 0, []) = true → W p l e R s m args below meth c H locs cells slots Q (F0 m (q + 3) lsR (.int (Int32.ofInt ((am_txt.getD b []).length : Int)) :: rest)) → W p l e R s m args below meth c H locs cells slots Q (F0 m q lsR (.ref (G.2.2.2.2 (1000000 + b)) :: rest))) ∧
     (am_chk k q (57, 3, a, 0, cc, 0, []) = true → W p l e R s m args below meth c H locs cells slots Q (F0 m (q + 3) lsR (.int (Int32.ofInt (if (am_txt.getD b []).length = 0 then 1 else 0)) :: rest)) → W p l e R s m args below meth c H locs cells slots Q (F0 m q lsR (.ref (G.2.2.2.2 (1000000 + b)) :: rest))) ∧
     (∀ j : Int, 0 ≤ j → j < ((am_txt.getD b []).length : Int) → am_chk k q (56, 3, a, 0, cc, 0, []) = true → W p l e R s m args below meth c H locs cells slots Q (F0 m (q + 3) lsR (.int (Int32.ofInt ((am_txt.getD b []).getD j.toNat 0)) :: rest)) → W p l e R s m args below meth c H locs cells slots Q (F0 m q lsR (.int (Int32.ofInt j) :: .ref (G.2.2.2.2 (1000000 + b)) :: rest)))))
section AMR
variable {p : Program} {l : Launch} {e : Env} {R : Room} {s : State} {m : MethodId} {args : Array Value} {below : List Frame} {meth : Method} {c : Code} {G : am_G} {k k0 s0 : Nat} {Q : State → Prop} {q q' : Nat} {ls ls' : am_L} {st st' : List am_V} {h h' : am_H} {lo a b cc : Nat} {z : Int} {sw : List (Int × Nat)}
theorem am_s49 (C : am_Cx p l e R s m args below meth c G k) (hc : am_chk k q (49, lo, a, b, cc, z, sw) = true) (hs : am_b49 q ls st h = some (q', ls', st', h')) (K : am_Go p l e R s m args below meth c G k k0 s0 Q q' ls' st' h') (hF : 1 ≤ R.frames) (hL : 64 ≤ R.locals) : am_Go p l e R s m args below meth c G k k0 s0 Q q ls st h := by
  intro lsR H locs hI hS
  obtain ⟨hx, hb, hml, hown, hts, hin, hW, hG⟩ := C
  simp only [am_chk, Bool.and_eq_true] at hc
  unfold am_b49 at hs
  split at hs
  next n t =>
    split at hs
    next hw =>
      cases hs
      have hw := Nat.le_of_ble_eq_true hw
      refine W.objInit hx hb hown (hts _ (am_okW_in hc.2)) (hts _ (am_okW_in am_w_obj.1)) (hts _ (am_okW_in am_w_obj.2)) rfl (hI.1.1.trans hml.symm) rfl (am_D_ok hc.1) hF ?_ ?_
      · show 2 * 0 + _ + 12 ≤ _
        rw [am_wt_ok]
        omega
      · exact K lsR H locs (hI.less (fun _ h => List.mem_cons_of_mem _ h)) hS
    next => cases hs
  next => cases hs
theorem am_sbw (f : Int → Int → Int) (F : Int32 → Int32 → Int32) (hf : ∀ x y, am_okv (.inl x) → am_okv (.inl y) → am_okv (.inl (f x y)) ∧ Int32.ofInt (f x y) = F (Int32.ofInt x) (Int32.ofInt y))
    (row : ∀ {H : Heap} {locs : List Loc} {cells slots : Nat} {lsR : Array Slot} {rest : List Value} {x y : Int32}, lsR.size = c.maxLocals → cells ≤ R.cells → slots ≤ R.slots → (rest.map fun v => v.category).sum ≤ 8 → W p l e R s m args below meth c H locs cells slots Q (F0 m (q + 3) lsR (.int (F x y) :: rest)) → W p l e R s m args below meth c H locs cells slots Q (F0 m q lsR (.int y :: .int x :: rest)))
    (hml : c.maxLocals = am_n k 0) (hRc : h.1.length - k0 ≤ R.cells) (hRs : am_sl h.1 - s0 ≤ R.slots) (hs : am_bw f q ls st h = some (q', ls', st', h')) (K : am_Go p l e R s m args below meth c G k k0 s0 Q q' ls' st' h') : am_Go p l e R s m args below meth c G k k0 s0 Q q ls st h := by
  intro lsR H locs hI hS
  unfold am_bw at hs
  split at hs
  next y x t =>
    split at hs
    next hw =>
      cases hs
      have hw := Nat.le_of_ble_eq_true hw
      obtain ⟨e1, e2⟩ := hf x y (hI.2.1 _ (List.mem_cons_of_mem _ List.mem_cons_self)) (hI.2.1 _ List.mem_cons_self)
      refine row (hI.1.1.trans hml.symm) hRc hRs (by rw [am_wt_ok]; exact hw) ?_
      rw [← e2]
      exact K lsR H locs (hI.cons (fun _ h => List.mem_cons_of_mem _ (List.mem_cons_of_mem _ h)) e1) hS
    next => cases hs
  next => cases hs
theorem am_s76 (C : am_Cx p l e R s m args below meth c G k) (hc : am_chk k q (76, lo, a, b, cc, z, sw) = true) (hs : am_bw am_max q ls st h = some (q', ls', st', h')) (K : am_Go p l e R s m args below meth c G k k0 s0 Q q' ls' st' h') (hF : 1 ≤ R.frames) (hL : 64 ≤ R.locals) (hRc : h.1.length - k0 ≤ R.cells) (hRs : am_sl h.1 - s0 ≤ R.slots) : am_Go p l e R s m args below meth c G k k0 s0 Q q ls st h := by
  obtain ⟨hx, hb, hml, hown, hts, hin, hW, hG⟩ := C
  simp only [am_chk, Bool.and_eq_true] at hc
  refine am_sbw am_max (fun x y => if x < y then y else x) (fun x y hx hy => ?_) (fun g1 g2 g3 g4 K => va_mmax hx hb g1.symm hown (hts _ (am_okW_in hc.2)) (hts _ (am_okW_in am_w_max.1)) (hts _ (am_okW_in am_w_math)) (hts _ (am_okW_in am_w_max.2)) hF (by omega) g2 g3 (am_D_ok hc.1) K) hml hRc hRs hs K
  unfold am_max
  simp only [am_lt32 hx hy]
  split
  · exact ⟨hy, rfl⟩
  · exact ⟨hx, rfl⟩
theorem am_s77 (C : am_Cx p l e R s m args below meth c G k) (hc : am_chk k q (77, lo, a, b, cc, z, sw) = true) (hs : am_bw am_min q ls st h = some (q', ls', st', h')) (K : am_Go p l e R s m args below meth c G k k0 s0 Q q' ls' st' h') (hF : 1 ≤ R.frames) (hL : 64 ≤ R.locals) (hRc : h.1.length - k0 ≤ R.cells) (hRs : am_sl h.1 - s0 ≤ R.slots) : am_Go p l e R s m args below meth c G k k0 s0 Q q ls st h := by
  obtain ⟨hx, hb, hml, hown, hts, hin, hW, hG⟩ := C
  simp only [am_chk, Bool.and_eq_true] at hc
  refine am_sbw am_min (fun x y => if y < x then y else x) (fun x y hx hy => ?_) (fun g1 g2 g3 g4 K => va_mmin hx hb g1.symm hown (hts _ (am_okW_in hc.2)) (hts _ (am_okW_in am_w_min.1)) (hts _ (am_okW_in am_w_math)) (hts _ (am_okW_in am_w_min.2)) hF (by omega) g2 g3 (am_D_ok hc.1) K) hml hRc hRs hs K
  unfold am_min
  simp only [am_lt32 hy hx]
  split
  · exact ⟨hy, rfl⟩
  · exact ⟨hx, rfl⟩
theorem am_s78 (C : am_Cx p l e R s m args below meth c G k) (hc : am_chk k q (78, lo, a, b, cc, z, sw) = true) (hs : am_b78 q ls st h = some (q', ls', st', h')) (K : am_Go p l e R s m args below meth c G k k0 s0 Q q' ls' st' h') (hF : 1 ≤ R.frames) (hL : 64 ≤ R.locals) (hRc : h.1.length - k0 ≤ R.cells) (hRs : am_sl h.1 - s0 ≤ R.slots) : am_Go p l e R s m args below meth c G k k0 s0 Q q ls st h := by
  intro lsR H locs hI hS
  obtain ⟨hx, hb, hml, hown, hts, hin, hW, hG⟩ := C
  simp only [am_chk, Bool.and_eq_true] at hc
  unfold am_b78 at hs
  split at hs
  next x t =>
    split at hs
    next hw =>
      cases hs
      have hw := Nat.le_of_ble_eq_true hw
      have hx1 : am_okv (.inl x) := hI.2.1 _ List.mem_cons_self
      have e : am_okv (.inl (am_abs x)) ∧ Int32.ofInt (am_abs x) = (if 0 ≤ Int32.ofInt x then Int32.ofInt x else 0 - Int32.ofInt x) := by
        unfold am_abs
        have h0 := am_le32 am_z32 hx1
        have h1 : (0 ≤ Int32.ofInt x) ↔ 0 ≤ x := h0
        by_cases hz : 0 ≤ x
        · rw [if_pos hz, if_pos (h1.mpr hz)]; exact ⟨hx1, rfl⟩
        · rw [if_neg hz, if_neg (fun w => hz (h1.mp w))]
          exact ⟨am_ok32 _, by rw [am_sub, Int32.ofInt_toInt]; rfl⟩
      refine va_mabs hx hb (hml.trans hI.1.1.symm) hown (hts _ (am_okW_in hc.2)) (hts _ (am_okW_in am_w_abs.1)) (hts _ (am_okW_in am_w_math)) (hts _ (am_okW_in am_w_abs.2)) hF (by rw [am_wt_ok]; omega) hRc hRs (am_D_ok hc.1) ?_
      rw [← e.2]
      exact K lsR H locs (hI.cons (fun _ h => List.mem_cons_of_mem _ h) e.1) hS
    next => cases hs
  next => cases hs
theorem am_txt_ok : ∀ b, b < 6 → ((am_txt.getD b []).length < 100 ∧ ∀ j, am_okv (.inl ((am_txt.getD b []).getD j 0))) := by
  intro b hb
  have h1 : ∀ b, b < 6 → (am_txt.getD b []).length < 100 ∧ (am_txt.getD b []).all (fun x => decide (0 ≤ x ∧ x < 1000)) = true := by decide
  obtain ⟨h2, h3⟩ := h1 b hb
  refine ⟨h2, fun j => ?_⟩
  rw [List.getD_eq_getElem?_getD]
  cases hj : (am_txt.getD b [])[j]? with
  | none => exact am_z32
  | some w =>
    have h4 := of_decide_eq_true (List.all_eq_true.mp h3 w (List.mem_of_getElem? hj))
    exact ⟨by show _ ≤ w; omega, by show w ≤ _; omega⟩
theorem am_sS {SX : am_G → State → Prop} (hSO : am_SOK SX) (C : am_Cx p l e R s m args below meth c G k) (hX : SX G s) (hF : 5 ≤ R.frames) (hL : 256 ≤ R.locals) (hRc : h.1.length - k0 ≤ R.cells) (hRs : am_sl h.1 - s0 ≤ R.slots) : 
    (am_chk k q (47, lo, a, b, cc, z, sw) = true → am_b47 lo b q ls st h = some (q', ls', st', h') → am_Go p l e R s m args below meth c G k k0 s0 Q q' ls' st' h' → am_Go p l e R s m args below meth c G k k0 s0 Q q ls st h) ∧
    (am_chk k q (55, lo, a, b, cc, z, sw) = true → am_b55 q ls st h = some (q', ls', st', h') → am_Go p l e R s m args below meth c G k k0 s0 Q q' ls' st' h' → am_Go p l e R s m args below meth c G k k0 s0 Q q ls st h) ∧
    (am_chk k q (56, lo, a, b, cc, z, sw) = true → am_b56 q ls st h = some (q', ls', st', h') → am_Go p l e R s m args below meth c G k k0 s0 Q q' ls' st' h' → am_Go p l e R s m args below meth c G k k0 s0 Q q ls st h) ∧
    (am_chk k q (57, lo, a, b, cc, z, sw) = true → am_b57 q ls st h = some (q', ls', st', h') → am_Go p l e R s m args below meth c G k k0 s0 Q q' ls' st' h' → am_Go p l e R s m args below meth c G k k0 s0 Q q ls st h) := by
  have hS2 := hSO.2 p l e R s m args below meth c G k Q
  have rng : ∀ n, (Nat.ble 1000000 n && Nat.blt n 1000006) = true → n = 1000000 + (n - 1000000) ∧ n - 1000000 < 6 := by
    intro n hn
    simp only [Bool.and_eq_true] at hn
    have h1 := Nat.le_of_ble_eq_true hn.1
    have h2 := am_blt hn.2
    exact ⟨by omega, by omega⟩
  refine ⟨fun hc hs K => ?_, fun hc hs K => ?_, fun hc hs K => ?_, fun hc hs K => ?_⟩
  · have hc2 := hc
    simp only [am_chk, Bool.and_eq_true] at hc2
    have hb : b < 6 := am_blt hc2.1.1.2
    have e1 := am_beq hc2.1.1.1.2
    subst e1
    unfold am_b47 at hs
    split at hs
    next hw =>
      cases hs
      intro lsR H locs hI hS
      refine (hS2 H locs _ _ lsR _ q a b cc C hX hS hI.1.1 hRc hRs hF hL (by rw [am_wt_ok]; exact Nat.le_of_ble_eq_true hw) hb).1 hc ?_
      exact K lsR H locs (hI.cons (fun _ h => h) trivial) hS
    next => cases hs
  · unfold am_b55 at hs
    split at hs
    next n t =>
      split at hs
      next hn =>
        cases hs
        intro lsR H locs hI hS
        simp only [Bool.and_eq_true] at hn
        obtain ⟨e1, e2⟩ := rng n (by simp only [Bool.and_eq_true]; exact hn.1)
        have K2 := K lsR H locs (hI.cons (v := .inl ((am_txt.getD (n - 1000000) []).length : Int)) (fun _ h => List.mem_cons_of_mem _ h) ⟨by omega, by have := (am_txt_ok _ e2).1; omega⟩) hS
        have K3 := (hS2 H locs _ _ lsR _ q a (n - 1000000) cc C hX hS hI.1.1 hRc hRs hF hL (by rw [am_wt_ok]; exact Nat.le_of_ble_eq_true hn.2) e2).2.1 hc K2
        rw [← e1] at K3
        exact K3
      next => cases hs
    next => cases hs
  · unfold am_b56 at hs
    split at hs
    next j n t =>
      split at hs
      next hn =>
        split at hs
        next hj =>
          cases hs
          intro lsR H locs hI hS
          simp only [Bool.and_eq_true] at hn
          obtain ⟨e1, e2⟩ := rng n (by simp only [Bool.and_eq_true]; exact hn.1)
          have K2 := K lsR H locs (hI.cons (fun _ h => List.mem_cons_of_mem _ (List.mem_cons_of_mem _ h)) ((am_txt_ok _ e2).2 j.toNat)) hS
          have K3 := (hS2 H locs _ _ lsR _ q a (n - 1000000) cc C hX hS hI.1.1 hRc hRs hF hL (by rw [am_wt_ok]; exact Nat.le_of_ble_eq_true hn.2) e2).2.2.2 j hj.1 hj.2 hc K2
          rw [← e1] at K3
          exact K3
        next => cases hs
      next => cases hs
    next => cases hs
  · unfold am_b57 at hs
    split at hs
    next n t =>
      split at hs
      next hn =>
        cases hs
        intro lsR H locs hI hS
        simp only [Bool.and_eq_true] at hn
        obtain ⟨e1, e2⟩ := rng n (by simp only [Bool.and_eq_true]; exact hn.1)
        have K2 := K lsR H locs (hI.cons (v := .inl (if (am_txt.getD (n - 1000000) []).length = 0 then 1 else 0)) (fun _ h => List.mem_cons_of_mem _ h) (by split <;> exact ⟨by omega, by omega⟩)) hS
        have K3 := (hS2 H locs _ _ lsR _ q a (n - 1000000) cc C hX hS hI.1.1 hRc hRs hF hL (by rw [am_wt_ok]; exact Nat.le_of_ble_eq_true hn.2) e2).2.2.1 hc K2
        rw [← e1] at K3
        exact K3
      next => cases hs
    next => cases hs
theorem am_step_mono {i : am_I} (hs : am_step i q ls st h = some (q', ls', st', h')) : h.1.length ≤ h'.1.length ∧ am_sl h.1 ≤ am_sl h'.1 := by
  obtain ⟨o, lo, a, b, cc, z, sw⟩ := i
  simp only [am_step] at hs
  split at hs <;> (try simp only [am_b1, am_b2, am_b3, am_b4, am_b5, am_b6, am_bb, am_bd, am_bl, am_ble, am_bw, am_b78, am_b16, am_b22, am_b58, am_b23, am_b74, am_b72, am_b24, am_b25, am_b26, am_b27, am_b28, am_b31, am_b32, am_b38, am_b39, am_b40, am_b41, am_b42, am_b43, am_b49, am_b45, am_b46, am_b55, am_b56, am_b57, am_j1, am_j2, am_b47] at hs) <;> (repeat' split at hs) <;> first
    | (cases hs; done)
    | (cases hs; exact ⟨Nat.le_refl _, Nat.le_refl _⟩)
    | (cases hs; exact ⟨by simp, by rw [am_sl_app]; omega⟩)
theorem am_run_mono : ∀ {n d k q : Nat} {ls : am_L} {st : List am_V} {h : am_H} {r : Option am_V} {h' : am_H}, am_run n d k q ls st h = some (r, h') → h.1.length ≤ h'.1.length ∧ am_sl h.1 ≤ am_sl h'.1
  | 0, d, k, q, ls, st, h, r, h', hr => by simp [am_run] at hr
  | n + 1, d, k, q, ls, st, h, r, h', hr => by
    unfold am_run at hr
    split at hr
    · split at hr
      · cases hr; exact ⟨Nat.le_refl _, Nat.le_refl _⟩
      · cases hr
    · split at hr
      · split at hr
        · split at hr
          next h1 he =>
            have e1 := am_run_mono he
            have e2 := am_run_mono hr
            exact ⟨Nat.le_trans e1.1 e2.1, Nat.le_trans e1.2 e2.2⟩
          next => cases hr
        · cases hr
      · split at hr
        next hs =>
          have e1 := am_step_mono hs
          have e2 := am_run_mono hr
          exact ⟨Nat.le_trans e1.1 e2.1, Nat.le_trans e1.2 e2.2⟩
        next => cases hr
end AMR
