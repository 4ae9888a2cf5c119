
theorem am_has1 {ph : Nat → Nat} {v : am_V} {cc i nL : Nat} {ls : am_L} {lsR : Array Slot} (hc : am_two v = false) (hlg : cc = 0 → ∀ w, some w ∈ ls → am_two w = false)
    (h : lv_has lsR nL ((i, am_rv ph v) :: (am_ll ph 0 ls).filter (fun q => !(q.1 == i) && !(q.1 + 1 == i && q.2.category == 2)))) : lv_has lsR nL (am_ll ph 0 (am_sto cc v i ls)) := by
  refine ⟨h.1, h.2.1, fun q hq => h.2.2 q ?_⟩
  cases cc with
  | zero =>
    rcases am_set_ll (show q ∈ am_ll ph 0 (am_set v i ls) from hq) with h1 | ⟨h1, h2⟩
    · rw [h1, Nat.zero_add]; exact List.mem_cons_self
    · obtain ⟨-, w, hw, hw2⟩ := am_ll_ge h1
      have h3 : q.2.category ≠ 2 := by
        rw [hw2]
        intro e
        have e2 := am_rv_two.mpr e
        rw [hlg rfl w hw] at e2
        cases e2
      refine List.mem_cons_of_mem _ (List.mem_filter.mpr ⟨h1, ?_⟩)
      have h4 : ¬ q.1 = i := by omega
      simp [h4, h3]
  | succ n =>
    rcases am_setK_ll (show q ∈ am_ll ph 0 (am_setK v i ls) from hq) with h1 | ⟨h1, h2, h3, -⟩
    · rw [h1, Nat.zero_add]; exact List.mem_cons_self
    · refine List.mem_cons_of_mem _ (List.mem_filter.mpr ⟨h1, ?_⟩)
      have h4 : ¬ q.1 = i := by omega
      by_cases h5 : q.1 + 1 = i
      · have h6 := h3 (by omega)
        simp [h4, h5, h6]
      · simp [h4, h5]
theorem am_has2 {ph : Nat → Nat} {v : am_V} {cc i nL : Nat} {ls : am_L} {lsR : Array Slot} (hv : am_two v = true) (hc : cc ≠ 0)
    (h : lv_has lsR nL ((i, am_rv ph v) :: (am_ll ph 0 ls).filter (fun q => !(q.1 == i) && (!(q.1 == i + 1) && !(q.1 + 1 == i && q.2.category == 2))))) : lv_has lsR nL (am_ll ph 0 (am_sto cc v i ls)) := by
  refine ⟨h.1, h.2.1, fun q hq => h.2.2 q ?_⟩
  cases cc with
  | zero => exact absurd rfl hc
  | succ n =>
    rcases am_setK_ll (show q ∈ am_ll ph 0 (am_setK v i ls) from hq) with h1 | ⟨h1, h2, h3, h4⟩
    · rw [h1, Nat.zero_add]; exact List.mem_cons_self
    · refine List.mem_cons_of_mem _ (List.mem_filter.mpr ⟨h1, ?_⟩)
      have h5 : ¬ q.1 = i := by omega
      have h6 : ¬ q.1 = i + 1 := by have := h4 hv; omega
      by_cases h7 : q.1 + 1 = i
      · have h8 := h3 (by omega)
        simp [h5, h6, h7, h8]
      · simp [h5, h6, h7]
theorem am_sto_in {v w : am_V} {cc i : Nat} {ls : am_L} (h : some w ∈ am_sto cc v i ls) : w = v ∨ some w ∈ ls := by
  cases cc with
  | zero => exact am_set_in h
  | succ n => exact am_setK_in h
/-- a field's value -/
def am_fv (ph : Nat → Nat) (r : Bool) (z : Int) (n : Nat) : Value := match r, n with
  | false, _ => .int (Int32.ofInt z)
  | true, 0 => .null
  | true, a + 1 => .ref (ph a)
def am_cell (G : am_G) (h : am_H) (i : Nat) : va_E := match (am_shp h i).1 with
  | 0 => .inl (G.2.2.1, (am_shp h i).2, .inl (fun j => Int32.ofInt (h.2.1 i j)))
  | c + 1 => .inr (c, (List.range (am_shp h i).2).map (fun j => am_fv G.2.2.2.2 (am_isr c j) (h.2.1 i j) (h.2.2 i j)))
/-- the new addresses -/
def am_A (G : am_G) : Nat → Prop := fun q => G.2.2.2.1 ≤ q
def am_okG (G : am_G) : Prop := G.2.2.2.2 0 < G.2.2.2.1 ∧ ∀ a, a + 1 < 900000 → G.2.2.2.2 (a + 1) = G.2.2.2.1 + a
/-- the heap: its size, its cells, the script -/
def am_Rp (G : am_G) (h : am_H) (U : State) (H : Heap) : Prop :=
  H.size + 1 = G.2.2.2.1 + h.1.length ∧ 0 < h.1.length ∧ h.1.length ≤ 800000 ∧ (∀ a, a + 1 < h.1.length → va_at (G.1, G.2.1) am_cl (G.2.2.2.1 + a, am_cell G h (a + 1)) H) ∧
  (am_shp h 0).1 = 0 ∧ va_X (G.2.2.2.2 0) (am_shp h 0).2 (fun j => Int32.ofInt (h.2.1 0 j)) U H
/-- what the tables say, in every state of the run -/
def am_WK (G : am_G) (U : State) : Prop := va_K (G.1, G.2.1) am_cl [(G.2.2.1, .int)] U ∧ ∀ a i y h, Jvm.Cond.methodLinkNest a i y h ∈ lw_tbl → va_Nw (.methodLinkNest a i y h) U
theorem am_WK.moved {G : am_G} {s U : State} (hW : s.WarmedH U.vm) (h : am_WK G s) : am_WK G U := ⟨va_K.moved hW.alike h.1, fun a i y n hm => va_Nw.warmM hW (h.2 a i y n hm)⟩
theorem am_WK.call {G : am_G} {U : State} {g : JFrame} {mk : MethodId} {a : Array Value} (h : am_WK G U) : am_WK G (U.calling g mk a) := ⟨va_K.moved (u := U) (U := U.calling g mk a) (Vm.Alike.refl U.vm) h.1, fun a i y n hm => va_Nw.same rfl rfl (h.2 a i y n hm)⟩
def am_sl : List (Nat × Nat) → Nat
  | [] => 0
  | q :: t => q.2 + am_sl t
theorem am_sl_app (t u : List (Nat × Nat)) : am_sl (t ++ u) = am_sl t + am_sl u := by
  induction t with
  | nil => simp [am_sl]
  | cons q t ih => simp only [List.cons_append, am_sl, ih]; omega
/-- the frame and the heap -/
def am_Iv (G : am_G) (k : Nat) (ls : am_L) (st : List am_V) (h : am_H) (lsR : Array Slot) (U : State) (H : Heap) : Prop :=
  lv_has lsR (am_n k 0) (am_ll G.2.2.2.2 0 ls) ∧ (∀ v ∈ st, am_okv v) ∧ (∀ v, some v ∈ ls → am_okv v) ∧ (am_n k 4 = 0 → ∀ v, some v ∈ ls → am_two v = false) ∧ (∀ a j, am_okv (.inl (h.2.1 a j))) ∧ am_Rp G h U H
def am_Cx (p : Program) (l : Launch) (e : Env) (R : Room) (s : State) (m : MethodId) (args : Array Value) (below : List Frame) (meth : Method) (c : Code) (G : am_G) (k : Nat) : Prop := p.tables.exec = Jvm.exec ∧ c.code = am_bs k ∧ c.maxLocals = am_n k 0 ∧ s.vm.findClass (am_y k).cls = some m.cls ∧ (∀ w ∈ am_TG, w.before args s = true) ∧ (am_n k 3 = 2 → meth.name = "<init>") ∧ am_WK G s ∧ am_okG G
/-- from the small machine's state the machine comes to Q -/
def am_Go (p : Program) (l : Launch) (e : Env) (R : Room) (s : State) (m : MethodId) (args : Array Value) (below : List Frame) (meth : Method) (c : Code) (G : am_G) (k k0 s0 : Nat) (Q : State → Prop) (q : Nat) (ls : am_L) (st : List am_V) (h : am_H) : Prop :=
  ∀ (lsR : Array Slot) (H : Heap) (locs : List Loc), am_Iv G k ls st h lsR s H → va_S (am_A G) s.heap H locs → W p l e R s m args below meth c H locs (h.1.length - k0) (am_sl h.1 - s0) Q (F0 m q lsR (st.map (am_rv G.2.2.2.2)))
theorem am_Iv.st {G : am_G} {k : Nat} {ls : am_L} {st st' : List am_V} {h : am_H} {lsR : Array Slot} {U : State} {H : Heap} (hI : am_Iv G k ls st h lsR U H) (hs : ∀ v ∈ st', am_okv v) : am_Iv G k ls st' h lsR U H := ⟨hI.1, hs, hI.2.2⟩
theorem am_Iv.cons {G : am_G} {k : Nat} {ls : am_L} {st st' : List am_V} {v : am_V} {h : am_H} {lsR : Array Slot} {U : State} {H : Heap} (hI : am_Iv G k ls st h lsR U H) (hs : ∀ v ∈ st', v ∈ st) (hv : am_okv v) : am_Iv G k ls (v :: st') h lsR U H := hI.st fun w hw => by
  rcases List.mem_cons.mp hw with rfl | hw
  · exact hv
  · exact hI.2.1 _ (hs _ hw)
theorem am_Iv.less {G : am_G} {k : Nat} {ls : am_L} {st st' : List am_V} {h : am_H} {lsR : Array Slot} {U : State} {H : Heap} (hI : am_Iv G k ls st h lsR U H) (hs : ∀ v ∈ st', v ∈ st) : am_Iv G k ls st' h lsR U H := hI.st fun w hw => hI.2.1 _ (hs _ hw)
theorem am_Iv.sto {G : am_G} {k cc a : Nat} {ls : am_L} {st st' : List am_V} {v : am_V} {h : am_H} {lsR lsR' : Array Slot} {U : State} {H : Heap} (hI : am_Iv G k ls st h lsR U H) (hs : ∀ v ∈ st', v ∈ st) (hv : am_okv v) (h0 : am_n k 4 = 0 → am_two v = false)
    (hl : lv_has lsR' (am_n k 0) (am_ll G.2.2.2.2 0 (am_sto cc v a ls))) : am_Iv G k (am_sto cc v a ls) st' h lsR' U H := by
  refine ⟨hl, fun w hw => hI.2.1 _ (hs w hw), fun w hw => ?_, fun e w hw => ?_, hI.2.2.2.2⟩
  · rcases am_sto_in hw with rfl | hw
    · exact hv
    · exact hI.2.2.1 w hw
  · rcases am_sto_in hw with rfl | hw
    · exact h0 e
    · exact hI.2.2.2.1 e w hw
theorem am_D_ok {k q : Nat} {i : Instr} {l : Nat} (h : am_D k q i l = true) : decode (am_bs k) q = .ok (i, l) := of_decide_eq_true h
theorem am_beq {a b : Nat} (h : Nat.beq a b = true) : a = b := Nat.eq_of_beq_eq_true h
theorem am_blt {a b : Nat} (h : Nat.blt a b = true) : a < b := Nat.le_of_ble_eq_true h
theorem am_tg_ok {q a : Nat} {z : Int} (h : am_tg q z a = true) : (q : Int) + z = (a : Int) := of_decide_eq_true h
theorem am_fin {a : Nat} (h : a < 4) : ((Fin.ofNat 4 a : Fin 4) : Nat) = a := Nat.mod_eq_of_lt h
theorem am_st_ok {k a cc : Nat} (h : am_st k a cc = true) : a < am_n k 0 ∧ (cc = 0 → am_n k 4 = 0) := by
  simp only [am_st, Bool.and_eq_true] at h
  refine ⟨am_blt h.1, fun e => ?_⟩
  subst e
  exact am_beq h.2
