
/-- how a method ends -/
def am_RA (k q : Nat) (r : Option am_V) : Prop :=
  (r = none ∧ decode (am_bs k) q = .ok (.return_, 1) ∧ am_n k 2 = 0) ∨ (∃ x, r = some (.inl x) ∧ decode (am_bs k) q = .ok (.ireturn, 1) ∧ (am_n k 2 = 1 ∨ (am_n k 2 = 4 ∧ (x = 0 ∨ x = 1)))) ∨
  (∃ x, r = some (.inr (.inl x)) ∧ decode (am_bs k) q = .ok (.lreturn, 1) ∧ am_n k 2 = 2) ∨ (∃ x, r = some (.inr (.inr x)) ∧ decode (am_bs k) q = .ok (.areturn, 1) ∧ am_n k 2 = 3)
theorem am_ret_ok {k q : Nat} {i : am_I} {st : List am_V} {r : Option am_V} (hc : am_chk k q i = true) (ho : i.1 = 29) (hr : am_ret (am_n k 2) i.2.2.2.1 st = some r) : st = r.toList ∧ am_RA k q r := by
  obtain ⟨o, lo, a, b, cc, z, sw⟩ := i
  simp only at ho
  subst ho
  simp only [am_chk] at hc
  simp only at hr
  unfold am_ret at hr
  split at hr
  · cases hr
    simp only [Bool.and_eq_true] at hc
    exact ⟨rfl, Or.inl ⟨rfl, am_D_ok hc.1, am_beq hc.2⟩⟩
  · simp only [Bool.and_eq_true] at hc
    split at hr
    next h4 =>
      split at hr
      next hx =>
        cases hr
        exact ⟨rfl, Or.inr (Or.inl ⟨_, rfl, am_D_ok hc.1, Or.inr ⟨am_beq h4, hx⟩⟩)⟩
      next => cases hr
    next h4 =>
      cases hr
      refine ⟨rfl, Or.inr (Or.inl ⟨_, rfl, am_D_ok hc.1, ?_⟩)⟩
      rcases Bool.or_eq_true_iff.mp hc.2 with h1 | h1
      · exact Or.inl (am_beq h1)
      · rw [h4] at h1; cases h1
  · cases hr
    simp only [Bool.and_eq_true] at hc
    exact ⟨rfl, Or.inr (Or.inr (Or.inl ⟨_, rfl, am_D_ok hc.1, am_beq hc.2⟩))⟩
  · cases hr
    simp only [Bool.and_eq_true] at hc
    exact ⟨rfl, Or.inr (Or.inr (Or.inr ⟨_, rfl, am_D_ok hc.1, am_beq hc.2⟩))⟩
  · cases hr
theorem am_take_ok : ∀ {n : Nat} {acc st as t : List am_V}, am_take n acc st = some (as, t) → ∃ ys, st = ys ++ t ∧ as = ys.reverse ++ acc ∧ ys.length = n
  | 0, acc, st, as, t, h => by
    simp only [am_take, Option.some.injEq, Prod.mk.injEq] at h
    exact ⟨[], by rw [h.2]; rfl, by rw [h.1]; rfl, rfl⟩
  | n + 1, acc, [], as, t, h => by simp [am_take] at h
  | n + 1, acc, v :: st, as, t, h => by
    obtain ⟨ys, h1, h2, h3⟩ := am_take_ok (n := n) (acc := v :: acc) (st := st) h
    exact ⟨v :: ys, by rw [h1]; rfl, by rw [h2]; simp, by simp [h3]⟩
theorem am_call_ok {b : Nat} {st t : List am_V} {h : am_H} {ls0 : am_L} (hc : am_call b st h = some (ls0, t)) : ∃ as : List am_V, st = as.reverse ++ t ∧ as.length = am_n b 1 ∧ am_wt t ≤ 8 ∧ am_rcv b as h = true ∧ (am_n b 4 = 0 → am_no2 as = true) ∧ am_wt as ≤ am_n b 0 ∧ ls0 = am_pad (am_n b 0) (am_ent as) := by
  unfold am_call at hc
  split at hc
  next as r he =>
    split at hc
    next hb =>
      cases hc
      obtain ⟨ys, h1, h2, h3⟩ := am_take_ok he
      rw [List.append_nil] at h2
      simp only [Bool.and_eq_true] at hb
      refine ⟨as, by rw [h1, h2, List.reverse_reverse], by rw [h2, List.length_reverse]; exact h3, Nat.le_of_ble_eq_true hb.1.1.1, hb.1.1.2, fun e => ?_, Nat.le_of_ble_eq_true hb.2, rfl⟩
      rcases Bool.or_eq_true_iff.mp hb.1.2 with h4 | h4
      · have := am_beq h4; omega
      · exact h4
    next => cases hc
  next => cases hc
theorem am_no2_ok : ∀ {as : List am_V}, am_no2 as = true → ∀ v ∈ as, am_two v = false
  | [], _, v, hv => by cases hv
  | w :: t, h, v, hv => by
    simp only [am_no2, Bool.and_eq_true] at h
    rcases List.mem_cons.mp hv with rfl | hv
    · cases hw : am_two v with
      | true => rw [hw] at h; simp at h
      | false => rfl
    · exact am_no2_ok h.2 v hv
theorem am_ent_in {v : am_V} : ∀ {as : List am_V}, some v ∈ am_ent as → v ∈ as
  | [], h => by simp [am_ent] at h
  | w :: t, h => by
    unfold am_ent at h
    split at h
    · rcases List.mem_cons.mp h with h1 | h1
      · rw [Option.some.inj h1]; exact List.mem_cons_self
      · rcases List.mem_cons.mp h1 with h2 | h2
        · cases h2
        · exact List.mem_cons_of_mem _ (am_ent_in h2)
    · rcases List.mem_cons.mp h with h1 | h1
      · rw [Option.some.inj h1]; exact List.mem_cons_self
      · exact List.mem_cons_of_mem _ (am_ent_in h1)
theorem am_pad_in {v : am_V} : ∀ {n : Nat} {ls : am_L}, some v ∈ am_pad n ls → some v ∈ ls
  | 0, ls, h => by simp [am_pad] at h
  | n + 1, [], h => by
    rcases List.mem_cons.mp (show some v ∈ none :: am_pad n [] from h) with h1 | h1
    · cases h1
    · exact am_pad_in h1
  | n + 1, o :: t, h => by
    rcases List.mem_cons.mp (show some v ∈ o :: am_pad n t from h) with h1 | h1
    · rw [h1]; exact List.mem_cons_self
    · exact List.mem_cons_of_mem _ (am_pad_in h1)
theorem am_pad_ll {ph : Nat → Nat} {x : Nat × Value} : ∀ {n : Nat} {ls : am_L} {j : Nat}, x ∈ am_ll ph j (am_pad n ls) → x ∈ am_ll ph j ls
  | 0, ls, j, h => by simp [am_pad, am_ll] at h
  | n + 1, [], j, h => by
    have h1 : x ∈ am_ll ph (j + 1) (am_pad n []) := h
    have h2 := am_pad_ll h1
    simp [am_ll] at h2
  | n + 1, none :: t, j, h => am_pad_ll (n := n) (ls := t) (j := j + 1) h
  | n + 1, some v :: t, j, h => by
    rcases List.mem_cons.mp (show x ∈ (j, am_rv ph v) :: am_ll ph (j + 1) (am_pad n t) from h) with h1 | h1
    · rw [h1]; exact List.mem_cons_self
    · exact List.mem_cons_of_mem _ (am_pad_ll h1)
theorem am_ent_ll {ph : Nat → Nat} {x : Nat × Value} : ∀ {as : List am_V} {j : Nat}, x ∈ am_ll ph j (am_ent as) → x ∈ lv_args j (as.map (am_rv ph))
  | [], j, h => by simp [am_ent, am_ll] at h
  | v :: t, j, h => by
    unfold am_ent at h
    simp only [List.map_cons, lv_args]
    split at h
    next hv =>
      rw [if_pos (am_rv_two.mp hv)]
      rcases List.mem_cons.mp (show x ∈ (j, am_rv ph v) :: am_ll ph (j + 1 + 1) (am_ent t) from h) with h1 | h1
      · rw [h1]; exact List.mem_cons_self
      · exact List.mem_cons_of_mem _ (am_ent_ll h1)
    next hv =>
      rw [if_neg (by rw [am_cat1 hv]; omega)]
      rcases List.mem_cons.mp (show x ∈ (j, am_rv ph v) :: am_ll ph (j + 1) (am_ent t) from h) with h1 | h1
      · rw [h1]; exact List.mem_cons_self
      · exact List.mem_cons_of_mem _ (am_ent_ll h1)
theorem am_sl_wt {ph : Nat → Nat} : ∀ (as : List am_V), (lg_sl (as.map (am_rv ph))).length = am_wt as
  | [] => rfl
  | v :: t => by
    have ih := am_sl_wt (ph := ph) t
    unfold lg_sl at ih ⊢
    simp only [List.map_cons, List.flatMap_cons, List.length_append, ih, am_wt]
    rcases v with z | z | a <;> rfl
/-- what a method's check says -/
theorem am_H_ok {k : Nat} (hk : k < am_mN) (h0 : 0 < k) : Jvm.Cond.code (am_y k) (am_bs k) (am_n k 0) (am_ft k) ∈ am_TG ∧ Jvm.Cond.initialized (am_y k).cls ∈ am_TG ∧
    ((am_n k 3 = 0 ∧ Jvm.Cond.static (am_y k) ∈ am_TG) ∨ (am_n k 3 = 1 ∧ Jvm.Cond.instanceMethod (am_y k) ∈ am_TG ∧ Jvm.Cond.selects (am_y k).cls (am_y k) (am_y k) ∈ am_TG ∧ (am_y k).cls = am_R (am_n k 10) ∧ am_n k 10 < 12 ∧ 0 < am_n k 1) ∨ (am_n k 3 = 2 ∧ Jvm.Cond.instanceMethod (am_y k) ∈ am_TG ∧ (am_y k).name = "<init>" ∧ am_n k 2 = 0 ∧ 0 < am_n k 1)) ∧
    ((am_n k 2 = 0 ∧ am_ft k = none) ∨ (am_n k 2 = 1 ∧ am_ft k = some .int) ∨ (am_n k 2 = 2 ∧ am_ft k = some .long) ∨ (am_n k 2 = 3 ∧ am_ft k = some (.object "java/lang/String")) ∨ (am_n k 2 = 4 ∧ am_ft k = some .boolean)) ∧
    ((am_y k).cls ≠ "java/lang/invoke/MethodHandle" ∧ (am_y k).cls ≠ "java/lang/invoke/VarHandle") ∧ (parseMethodDescriptor (am_y k).desc).map (fun d => d.parameters.length) = some (match am_n k 3 with | 0 => am_n k 1 | _ => am_n k 1 - 1) ∧ plainName (am_y k).cls = true ∧ am_n k 0 ≤ 20 := by
  have h := am_ck k hk
  simp only [am_chkM, Bool.and_eq_true] at h
  have h := h.1
  have hb : Nat.beq k 0 = false := by
    cases hb : Nat.beq k 0 with
    | true => have := am_beq hb; omega
    | false => rfl
  unfold am_chkH at h
  rw [hb] at h
  have h : am_chkH1 k = true := h
  · unfold am_chkH1 at h
    simp only [Bool.and_eq_true, decide_eq_true_eq] at h
    obtain ⟨⟨⟨⟨⟨⟨⟨⟨h1, h2⟩, h3⟩, h4⟩, h5⟩, h6⟩, h7⟩, h8⟩, h9⟩ := h
    refine ⟨am_okW_in h1, am_okW_in h2, ?_, ?_, h5, h6, h7, Nat.le_of_ble_eq_true h8⟩
    · split at h3
      next e => exact Or.inl ⟨e, am_okW_in h3⟩
      next e =>
        simp only [Bool.and_eq_true, decide_eq_true_eq] at h3
        have h9 : Nat.blt 0 (am_n k 1) = true := by rw [e] at h9; exact h9
        exact Or.inr (Or.inl ⟨e, am_okW_in h3.1.1.1, am_okW_in h3.1.1.2, h3.1.2, am_blt h3.2, am_blt h9⟩)
      next e1 e2 =>
        simp only [Bool.and_eq_true, decide_eq_true_eq] at h3
        have e := am_beq h3.1.2
        have h9 : Nat.blt 0 (am_n k 1) = true := by rw [e] at h9; exact h9
        exact Or.inr (Or.inr ⟨e, am_okW_in h3.1.1.1, h3.1.1.2, am_beq h3.2, am_blt h9⟩)
    · split at h4
      next e => exact Or.inl ⟨e, of_decide_eq_true h4⟩
      next e => exact Or.inr (Or.inl ⟨e, of_decide_eq_true h4⟩)
      next e => exact Or.inr (Or.inr (Or.inl ⟨e, of_decide_eq_true h4⟩))
      next e => exact Or.inr (Or.inr (Or.inr (Or.inl ⟨e, of_decide_eq_true h4⟩)))
      next e => exact Or.inr (Or.inr (Or.inr (Or.inr ⟨e, of_decide_eq_true h4⟩)))
      next => cases h4
theorem am_chk_all {k : Nat} (hk : k < am_mN) (q : Nat) : am_chk k q (am_code k q) = true := by
  by_cases hq : q < am_sz k
  · have h := am_ck k hk
    simp only [am_chkM, Bool.and_eq_true] at h
    exact List.all_eq_true.mp h.2 q (List.mem_range.mpr hq)
  · have e : Nat.blt q (am_sz k) = false := by
      cases hb : Nat.blt q (am_sz k) with
      | true => exact absurd (am_blt hb) hq
      | false => rfl
    unfold am_code
    rw [e]
    rfl
section AMC
variable {p : Program} {l : Launch} {e : Env} {R : Room} {s : State} {m : MethodId} {args : Array Value} {below : List Frame} {meth : Method} {c : Code} {G : am_G} {k k0 s0 : Nat} {Q : State → Prop} {q q' : Nat} {ls ls' : am_L} {st st' : List am_V} {h h' : am_H} {lo a b cc : Nat} {z : Int} {sw : List (Int × Nat)}
/-- behind a call, whatever it answers -/
theorem am_callK {H H0 : Heap} {locs : List Loc} {cells slots mc ms : Nat} {lsR : Array Slot} {st0 rest : List Value} {rv : Option Value} {B : State → Prop} {A : Nat → Prop}
    (hr : va_Run p l e R s m args below meth c H locs cells slots mc ms (F0 m q lsR st0) rest (fun st oc t => (oc = .returned rv ∧ B t) ∧ va_F A st t) A) (hS : va_S A H0 H locs)
    (kk : ∀ (t : State) (H1 : Heap) (locs1 : List Loc), t.heap = H1 → s.vm.Alike t.vm → B t → va_S A H0 H1 locs1 → W p l e R s m args below meth c H1 locs1 (cells + mc) (slots + ms) Q (F0 m (q + 3) lsR (rv.toList ++ rest))) : W p l e R s m args below meth c H locs cells slots Q (F0 m q lsR st0) := by
  intro T hT X
  obtain ⟨v, st₀, t, T', L, h0, X', hL, e1, e2, ⟨⟨hv, hb⟩, hz, hk⟩, st⟩ := hr T hT X
  cases hv
  rw [h0] at hz hk
  obtain ⟨t2, a1, b1⟩ := kk t T'.heap (locs ++ L) e1.symm (by rw [← e2]; exact X'.warmed.alike) hb
    ⟨Nat.le_trans hS.1 (by rw [e1]; exact hz), fun q h1 h2 => by rw [e1, hk q (Nat.lt_of_lt_of_le h1 hS.1) h2]; exact hS.2.1 q h1 h2, fun q hq => by
      rcases List.mem_append.mp hq with h | h
      · exact hS.2.2 q h
      · exact hL q h⟩ T' rfl X'
  exact ⟨t2, st t2 a1, b1⟩
end AMC
def am_mrm (h h1 : am_H) (d : Nat) : Room := { frames := d + 5, cells := h1.1.length - h.1.length, slots := am_sl h1.1 - am_sl h.1, locals := 64 * (d + 5) }
def am_mws (b : Nat) : List Jvm.Cond := Jvm.Cond.code (am_y b) (am_bs b) (am_n b 0) (am_ft b) :: am_TG
def am_mPc (SX : am_G → State → Prop) (G : am_G) (as : List am_V) (h : am_H) : Array Value → State → Prop := va_Pc (as.map (am_rv G.2.2.2.2)) (fun U => am_Rp G h U U.heap ∧ am_WK G U ∧ SX G U)
def am_mQc (G : am_G) (r : Option am_V) (h1 : am_H) : Array Value → State → Outcome → State → Prop := fun _ st oc t => (oc = .returned (r.map (am_rv G.2.2.2.2)) ∧ am_Rp G h1 t t.heap ∧ (∀ a j, am_okv (.inl (h1.2.1 a j))) ∧ ∀ v, r = some v → am_okv v) ∧ va_F (am_A G) st t
theorem am_Rp.moved {G : am_G} {h : am_H} {u U : State} {H : Heap} (hvm : u.vm.Alike U.vm) (hR : am_Rp G h u H) : am_Rp G h U H := ⟨hR.1, hR.2.1, hR.2.2.1, hR.2.2.2.1, hR.2.2.2.2.1, hR.2.2.2.2.2.moved hvm⟩
