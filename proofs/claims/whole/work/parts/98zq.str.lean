/-! STRINGS: what is known of the six constants, that it moves, and the JDK's own methods walked -/
def am_sln : List Nat := [4, 4, 9, 5, 3, 0]
def am_sby : List (List Int32) := am_txt.map fun t => t.map Int32.ofInt
def am_SX (G : am_G) (s : State) : Prop :=
  (∀ b, b < 6 → vk_R "KissesOwed$Letters" (am_str.getD b ("", 0, 0)).2.1 (am_str.getD b ("", 0, 0)).1 (G.2.2.2.2 (1000000 + b)) s) ∧
  (∃ adV : Nat → Nat, vk_S 6 am_sln am_sby (fun b => G.2.2.2.2 (1000000 + b)) adV (am_A G) s s.heap) ∧
  va_Z "java/lang/String" "COMPACT_STRINGS" "Z" (.int 1) (am_A G) s s.heap ∧ va_Zq "jdk/internal/util/Preconditions" "SIOOBE_FORMATTER" "Ljava/util/function/BiFunction;" (am_A G) s s.heap
/-- a predicate that moves with the run -/
def am_Mv (G : am_G) (B : State → Prop) : Prop := ∀ s U : State, s.WarmedH U.vm → (∀ a : Nat, a < s.heap.size → ¬ am_A G a → U.heap[a]? = s.heap[a]?) → B s → B U
theorem am_SX_mv (G : am_G) : am_Mv G (am_SX G) := by
  intro s U hW hH h
  obtain ⟨h1, ⟨adV, h2⟩, h3, h4⟩ := h
  exact ⟨fun b hb => (h1 b hb).warm hW, ⟨adV, (vk_S.moved hW.alike h2).kept hH⟩, (va_Z.moved hW.alike h3).kept hH, (va_Zq.moved hW.alike h4).kept hH⟩
/-- a method of the JDK's: from B, at these arguments, it answers rv and changes nothing old -/
abbrev am_JM (l : Launch) (G : am_G) (y : Jvm.MethodName) (bytes : ByteArray) (maxL : Nat) (ret : Option FieldType) (fr lo : Nat) (as : List Value) (B : State → Prop) (rv : Option Value) : Prop :=
  Met l y (Jvm.Cond.code y bytes maxL ret :: am_TG) { frames := fr, cells := 0, slots := 0, locals := lo } (va_Pc as B) (fun _ st oc t => oc = .returned rv ∧ t.heap = st.heap) 0 0 (fun _ => False)
def am_JR (bytes : ByteArray) (ret : Option FieldType) (rv : Option Value) (pc : Nat) : Prop :=
  (rv = none ∧ ret = none ∧ decode bytes pc = .ok (.return_, 1)) ∨ (∃ v ty, rv = some (.int v) ∧ ret = some ty ∧ narrow ty (.int v) = .int v ∧ decode bytes pc = .ok (.ireturn, 1))
theorem am_JMof {l : Launch} {G : am_G} {y : Jvm.MethodName} {bytes : ByteArray} {maxL : Nat} {ret : Option FieldType} {fr lo : Nat} {as : List Value} {B : State → Prop} {rv : Option Value} (hy : plainName y.cls = true) (hwt : (lg_sl as).length ≤ maxL)
    (body : ∀ (p : Program) (e : Env) (s : State) (m : MethodId) (args : Array Value) (below : List Frame) (meth : Method) (c : Code) (lsR : Array Slot) (Q : State → Prop), p.tables.exec = Jvm.exec → c.code = bytes → c.maxLocals = maxL → s.vm.findClass y.cls = some m.cls → (∀ w ∈ am_TG, w.before args s = true) → B s → lv_has lsR maxL (lv_args 0 as) →
      (∀ (pc : Nat) (ls : Array Slot), am_JR bytes ret rv pc → W p l e { frames := fr, cells := 0, slots := 0, locals := lo } s m args below meth c s.heap [] 0 0 Q (F0 m pc ls rv.toList)) →
      W p l e { frames := fr, cells := 0, slots := 0, locals := lo } s m args below meth c s.heap [] 0 0 Q (F0 m 0 lsR [])) : am_JM l G y bytes maxL ret fr lo as B rv := by
  refine Met.ofW (cc := bytes) (maxL := maxL) (ret := ret) hy rfl ?_
  intro p e s m args below meth c s₁ X hml hv
  obtain ⟨rfl, hB⟩ := hv
  have hts := atoms_spec (ws := Jvm.Cond.code y bytes maxL ret :: am_TG) X.pre
  have hr := X.returns
  have hlocks := X.notSynchronized
  rw [lg_entry_eq]
  have hl := lv_entry as (n := maxL) hwt
  refine body p e s m as.toArray below meth c _ _ X.exec X.bytes hml (findClass_of_methodNamed X.named) (fun w hw => hts w (List.mem_cons_of_mem _ hw)) hB hl ?_
  intro pc ls hR
  have post : ∀ t : State, t.heap = s.heap → s.WarmedH t.vm → (fun (_ : Array Value) (st : State) (oc : Outcome) (t : State) => oc = .returned rv ∧ t.heap = st.heap) as.toArray s (.returned rv) t := fun t ht _ => ⟨rfl, ht⟩
  have free : ∀ q ∈ ([] : List Loc), (fun _ : Addr => False) q.base := fun q hq => by cases hq
  rcases hR with ⟨rfl, rfl, hd⟩ | ⟨v, ty, rfl, rfl, hn, hd⟩
  · exact W.vret X.exec X.bytes hr post free hd hlocks
  · exact W.zret (v := v) X.exec X.bytes hr hn post free hd hlocks
section AMJ
variable {p : Program} {l : Launch} {e : Env} {R : Room} {s : State} {m : MethodId} {args : Array Value} {below : List Frame} {meth : Method} {c : Code} {G : am_G} {Q : State → Prop} {H : Heap} {locs : List Loc} {cells slots q nL idx maxL fr lo : Nat} {cc bytes : ByteArray} {own : String} {lsR : Array Slot} {y : Jvm.MethodName} {ret : Option FieldType} {b : Nat} {As rest : List Value} {B : State → Prop} {rv : Option Value}
theorem am_callN {st0 : List Value} (hr : va_Run p l e R s m args below meth c H locs cells slots 0 0 (F0 m q lsR st0) rest (fun st oc t => oc = .returned rv ∧ t.heap = st.heap) (fun _ => False)) (kk : W p l e R s m args below meth c H locs cells slots Q (F0 m (q + 3) lsR (rv.toList ++ rest))) : W p l e R s m args below meth c H locs cells slots Q (F0 m q lsR st0) := by
  intro T hT X
  obtain ⟨v, st₀, t, T', L, h0, X', hL, e1, e2, ⟨hv, hb⟩, st⟩ := hr T hT X
  cases hv
  have hL0 : L = [] := by
    cases L with
    | nil => rfl
    | cons x t => exact absurd (hL x List.mem_cons_self) id
  subst hL0
  rw [List.append_nil] at X'
  obtain ⟨t2, a1, b1⟩ := kk T' (by rw [e1, hb, h0]) X'
  exact ⟨t2, st t2 a1, b1⟩
theorem am_JFB (as : List Value) (hBm : am_Mv G B) : FrameBlind (va_Pc as B) := fun a U g mk hp => ⟨hp.1, hBm U (U.calling g mk a) (State.WarmedH.refl U) (fun _ _ _ => rfl) hp.2⟩
theorem am_JV (S : CallFix p m c cc nL s args am_TG own) (hM : am_JM l G y bytes maxL ret fr lo (.ref b :: As) B rv) (hBm : am_Mv G B) (hB : B s) (hS : va_S (am_A G) s.heap H locs) (hrec : ∃ cell : Cell, H[b]? = some cell ∧ cell.vm.isStatics = false ∧ s.vm.findClass y.cls = some cell.cls)
    (w1 : Jvm.Cond.code y bytes maxL ret ∈ am_TG) (w2 : Jvm.Cond.methodLink own idx y ∈ am_TG) (w3 : Jvm.Cond.instanceMethod y ∈ am_TG) (w4 : Jvm.Cond.selects y.cls y y ∈ am_TG) (w5 : Jvm.Cond.initialized y.cls ∈ am_TG)
    (hd : y.cls ≠ "java/lang/invoke/MethodHandle" ∧ y.cls ≠ "java/lang/invoke/VarHandle" ∧ (parseMethodDescriptor y.desc).map (fun d => d.parameters.length) = some As.length) (hR : fr + 1 ≤ R.frames ∧ 8 + (maxL + 11) + lo ≤ R.locals) (hsz : lsR.size = nL) (hwt : (rest.map fun v => v.category).sum ≤ 8) (hcl : cells ≤ R.cells ∧ slots ≤ R.slots) (hdg : decode cc q = .ok (.invokevirtual idx, 3))
    (kk : W p l e R s m args below meth c H locs cells slots Q (F0 m (q + 3) lsR (rv.toList ++ rest))) :
    W p l e R s m args below meth c H locs cells slots Q (F0 m q lsR (As.reverse ++ .ref b :: rest)) := by
  refine am_callN (va_runV (As := As) (C := y.cls) S hM (cwV As.length S.2.2.2.2 (am_goodIn (fun w hw => ?_)) rfl rfl rfl ⟨rfl, hd⟩ hR) ⟨am_JFB _ hBm, hrec, fun U hU hW => ⟨rfl, hBm s U hW (fun a h1 h2 => by rw [hU]; exact hS.2.1 a h1 h2) hB⟩⟩ rfl rfl hsz rfl (lv_room hwt) hdg hcl) kk
  unfold wsV at hw
  rcases List.mem_append.mp hw with hw | hw
  · simp only [List.mem_cons, List.not_mem_nil, or_false] at hw
    rcases hw with rfl | rfl | rfl | rfl
    · exact w2
    · exact w3
    · exact w4
    · exact w5
  · rcases List.mem_cons.mp hw with rfl | hw
    · exact w1
    · exact hw
theorem am_JS (S : CallFix p m c cc nL s args am_TG own) (hM : am_JM l G y bytes maxL ret fr lo As B rv) (hBm : am_Mv G B) (hB : B s) (hS : va_S (am_A G) s.heap H locs)
    (w1 : Jvm.Cond.code y bytes maxL ret ∈ am_TG) (w2 : Jvm.Cond.methodLink own idx y ∈ am_TG) (w3 : Jvm.Cond.static y ∈ am_TG) (w5 : Jvm.Cond.initialized y.cls ∈ am_TG)
    (hd : y.cls ≠ "java/lang/invoke/MethodHandle" ∧ y.cls ≠ "java/lang/invoke/VarHandle" ∧ (parseMethodDescriptor y.desc).map (fun d => d.parameters.length) = some As.length) (hR : fr + 1 ≤ R.frames ∧ 8 + (maxL + 11) + lo ≤ R.locals) (hsz : lsR.size = nL) (hwt : (rest.map fun v => v.category).sum ≤ 8) (hcl : cells ≤ R.cells ∧ slots ≤ R.slots) (hdg : decode cc q = .ok (.invokestatic idx, 3))
    (kk : W p l e R s m args below meth c H locs cells slots Q (F0 m (q + 3) lsR (rv.toList ++ rest))) :
    W p l e R s m args below meth c H locs cells slots Q (F0 m q lsR (As.reverse ++ rest)) := by
  have hts := S.2.2.2.2
  have hcb : CallB R s args own idx y bytes maxL ret (Jvm.Cond.code y bytes maxL ret :: am_TG) { frames := fr, cells := 0, slots := 0, locals := lo } 0 0 As.length := callB_of As.length hts (am_goodIn (fun w hw => by
    rcases List.mem_cons.mp hw with rfl | hw
    · exact w1
    · exact hw)) rfl rfl rfl (hts _ w5) (hts _ w2) hd hR
  exact am_callN (va_runS (As := As) S hM ⟨hcb, hts _ w3⟩ ⟨am_JFB _ hBm, fun U hU hW => ⟨rfl, hBm s U hW (fun a h1 h2 => by rw [hU]; exact hS.2.1 a h1 h2) hB⟩⟩ rfl rfl hsz rfl (lv_room hwt) hdg hcl) kk
end AMJ
theorem am_J_coder {l : Launch} {G : am_G} {i : Nat} (hi : i < 6) : am_JM l G (⟨"java/lang/String", "coder", "()B"⟩ : Jvm.MethodName) prog_16_method_152_code 1 (some .byte) 0 0 [(.ref (G.2.2.2.2 (1000000 + i)))] (am_SX G) (some (.int 0)) := by
  refine am_JMof (by decide +kernel) (Nat.le_of_ble_eq_true rfl) ?_
  intro p e s m args below meth c lsR Q hx hb hml hown hts hB hls K
  have hsz := hls.1
  have hS : va_S (am_A G) s.heap s.heap [] := va_S.rf
  obtain ⟨h1, ⟨adV, h2⟩, hZ, h4⟩ := hB
  obtain ⟨o1, o2, o3, o4⟩ := h2.1 i hi
  refine va_gets hx hb (index := 38) (ref := "java/lang/String") hZ hS hown (hts _ (am_okW_in (i := 2122) (by decide +kernel : am_okW 2122 (Jvm.Cond.fieldLink "java/lang/String" 38 "java/lang/String" "COMPACT_STRINGS" "Z") = true))) (fun _ h => h) (by decide +kernel) ?_
  refine lv_if_eq hx hb (off := 10) (tgt := 13) (by decide +kernel) rfl (fun h => absurd h (by decide +kernel)) (fun _ => ?_)
  refine lv_aload_n hx hb (k := 0) (i := 0) (by decide +kernel) rfl (lv_at hls 0 rfl) ?_
  refine vk_getf hx hb (ref := "java/lang/String") (index := 15) o2 hS hown (hts _ (am_okW_in (i := 8028) (by decide +kernel : am_okW 8028 (Jvm.Cond.fieldLink "java/lang/String" 15 "java/lang/String" "coder" "B") = true))) (fun _ h => h) (by decide +kernel) ?_
  refine lv_goto hx hb (off := 4) (tgt := 14) (by decide +kernel) rfl ?_
  exact K _ _ (Or.inr ⟨_, _, rfl, rfl, rfl, by decide +kernel⟩)
theorem am_J_isLatin1 {l : Launch} {G : am_G} {i : Nat} (hi : i < 6) : am_JM l G (⟨"java/lang/String", "isLatin1", "()Z"⟩ : Jvm.MethodName) prog_16_method_154_code 1 (some .boolean) 0 0 [(.ref (G.2.2.2.2 (1000000 + i)))] (am_SX G) (some (.int 1)) := by
  refine am_JMof (by decide +kernel) (Nat.le_of_ble_eq_true rfl) ?_
  intro p e s m args below meth c lsR Q hx hb hml hown hts hB hls K
  have hsz := hls.1
  have hS : va_S (am_A G) s.heap s.heap [] := va_S.rf
  obtain ⟨h1, ⟨adV, h2⟩, hZ, h4⟩ := hB
  obtain ⟨o1, o2, o3, o4⟩ := h2.1 i hi
  refine va_gets hx hb (index := 38) (ref := "java/lang/String") hZ hS hown (hts _ (am_okW_in (i := 2122) (by decide +kernel : am_okW 2122 (Jvm.Cond.fieldLink "java/lang/String" 38 "java/lang/String" "COMPACT_STRINGS" "Z") = true))) (fun _ h => h) (by decide +kernel) ?_
  refine lv_if_eq hx hb (off := 14) (tgt := 17) (by decide +kernel) rfl (fun h => absurd h (by decide +kernel)) (fun _ => ?_)
  refine lv_aload_n hx hb (k := 0) (i := 0) (by decide +kernel) rfl (lv_at hls 0 rfl) ?_
  refine vk_getf hx hb (ref := "java/lang/String") (index := 15) o2 hS hown (hts _ (am_okW_in (i := 8028) (by decide +kernel : am_okW 8028 (Jvm.Cond.fieldLink "java/lang/String" 15 "java/lang/String" "coder" "B") = true))) (fun _ h => h) (by decide +kernel) ?_
  refine lv_if_ne hx hb (off := 7) (tgt := 17) (by decide +kernel) rfl (fun h => absurd rfl h) (fun _ => ?_)
  refine lv_iconst hx hb (n := 1) (v := 1) (by decide +kernel) rfl ?_
  refine lv_goto hx hb (off := 4) (tgt := 18) (by decide +kernel) rfl ?_
  exact K _ _ (Or.inr ⟨_, _, rfl, rfl, rfl, by decide +kernel⟩)
theorem am_J_isEmpty {l : Launch} {G : am_G} {i : Nat} (hi : i < 6) : am_JM l G (⟨"java/lang/String", "isEmpty", "()Z"⟩ : Jvm.MethodName) prog_16_method_55_code 1 (some .boolean) 0 0 [(.ref (G.2.2.2.2 (1000000 + i)))] (am_SX G) (some (.int (if am_sln.getD i 0 = 0 then 1 else 0))) := by
  refine am_JMof (by decide +kernel) (Nat.le_of_ble_eq_true rfl) ?_
  intro p e s m args below meth c lsR Q hx hb hml hown hts hB hls K
  have hsz := hls.1
  have hS : va_S (am_A G) s.heap s.heap [] := va_S.rf
  obtain ⟨h1, ⟨adV, h2⟩, hZ, h4⟩ := hB
  obtain ⟨o1, o2, o3, o4⟩ := h2.1 i hi
  refine lv_aload_n hx hb (k := 0) (i := 0) (by decide +kernel) rfl (lv_at hls 0 rfl) ?_
  refine vk_getf hx hb (ref := "java/lang/String") (index := 9) o3 hS hown (hts _ (am_okW_in (i := 8027) (by decide +kernel : am_okW 8027 (Jvm.Cond.fieldLink "java/lang/String" 9 "java/lang/String" "value" "[B") = true))) (fun _ h => h) (by decide +kernel) ?_
  refine va_tlen hx hb o4 hS rfl (by decide +kernel) ?_
  have e0 : Int32.ofNat (am_sln.getD i 0) = 0 ↔ am_sln.getD i 0 = 0 := (by decide +kernel : ∀ i, i < 6 → (Int32.ofNat (am_sln.getD i 0) = 0 ↔ am_sln.getD i 0 = 0)) i hi
  by_cases h0 : am_sln.getD i 0 = 0
  · refine lv_if_ne hx hb (off := 7) (tgt := 12) (by decide +kernel) rfl (fun h => absurd (e0.mpr h0) h) (fun _ => ?_)
    rw [if_pos h0] at K
    refine lv_iconst hx hb (n := 1) (v := 1) (by decide +kernel) rfl ?_
    refine lv_goto hx hb (off := 4) (tgt := 13) (by decide +kernel) rfl ?_
    exact K _ _ (Or.inr ⟨_, _, rfl, rfl, rfl, by decide +kernel⟩)
  · refine lv_if_ne hx hb (off := 7) (tgt := 12) (by decide +kernel) rfl (fun _ => ?_) (fun h => absurd (e0.mp h) h0)
    rw [if_neg h0] at K
    refine lv_iconst hx hb (n := 0) (v := 0) (by decide +kernel) rfl ?_
    exact K _ _ (Or.inr ⟨_, _, rfl, rfl, rfl, by decide +kernel⟩)
theorem am_J_length {l : Launch} {G : am_G} {i : Nat} (hi : i < 6) : am_JM l G (⟨"java/lang/String", "length", "()I"⟩ : Jvm.MethodName) prog_16_method_54_code 1 (some .int) 1 20 [(.ref (G.2.2.2.2 (1000000 + i)))] (am_SX G) (some (.int (Int32.ofNat (am_sln.getD i 0)))) := by
  refine am_JMof (by decide +kernel) (Nat.le_of_ble_eq_true rfl) ?_
  intro p e s m args below meth c lsR Q hx hb hml hown hts hB hls K
  have hsz := hls.1
  have hS : va_S (am_A G) s.heap s.heap [] := va_S.rf
  have hB0 := hB
  obtain ⟨h1, ⟨adV, h2⟩, hZ, h4⟩ := hB0
  obtain ⟨o1, o2, o3, o4⟩ := h2.1 i hi
  refine lv_aload_n hx hb (k := 0) (i := 0) (by decide +kernel) rfl (lv_at hls 0 rfl) ?_
  refine vk_getf hx hb (ref := "java/lang/String") (index := 9) o3 hS hown (hts _ (am_okW_in (i := 8027) (by decide +kernel : am_okW 8027 (Jvm.Cond.fieldLink "java/lang/String" 9 "java/lang/String" "value" "[B") = true))) (fun _ h => h) (by decide +kernel) ?_
  refine va_tlen hx hb o4 hS rfl (by decide +kernel) ?_
  refine lv_aload_n hx hb (k := 0) (i := 0) (by decide +kernel) rfl (lv_at hls 0 rfl) ?_
  refine am_JV (q := 6) (As := []) (rest := [.int (Int32.ofNat (am_sln.getD i 0))]) (⟨hx, hb, hml, hown, hts⟩ : CallFix p m c prog_16_method_54_code 1 s args am_TG "java/lang/String") (am_J_coder hi) (am_SX_mv G) hB hS (vk_recv (adK := fun b => G.2.2.2.2 (1000000 + b)) (i := i) h2 hi hS) (am_okW_in (i := 2121) (by decide +kernel : am_okW 2121 (Jvm.Cond.code (⟨"java/lang/String", "coder", "()B"⟩ : Jvm.MethodName) prog_16_method_152_code 1 (some .byte)) = true)) (am_okW_in (i := 2118) (by decide +kernel : am_okW 2118 (Jvm.Cond.methodLink "java/lang/String" 335 (⟨"java/lang/String", "coder", "()B"⟩ : Jvm.MethodName)) = true)) (am_okW_in (i := 2119) (by decide +kernel : am_okW 2119 (Jvm.Cond.instanceMethod (⟨"java/lang/String", "coder", "()B"⟩ : Jvm.MethodName)) = true)) (am_okW_in (i := 2120) (by decide +kernel : am_okW 2120 (Jvm.Cond.selects "java/lang/String" (⟨"java/lang/String", "coder", "()B"⟩ : Jvm.MethodName) (⟨"java/lang/String", "coder", "()B"⟩ : Jvm.MethodName)) = true)) (am_okW_in (i := 1013) (by decide +kernel : am_okW 1013 (Jvm.Cond.initialized "java/lang/String") = true)) ⟨by decide +kernel, by decide +kernel, (by decide +kernel : (parseMethodDescriptor "()B").map (fun d => d.parameters.length) = some 0)⟩ (by decide +kernel) hsz (Nat.le_of_ble_eq_true rfl) ⟨Nat.le_refl _, Nat.le_refl _⟩ (by decide +kernel) ?_
  refine lv_ishr hx hb (x := (Int32.ofNat (am_sln.getD i 0))) (y := 0) (by decide +kernel) ?_
  have e0 : (Int32.ofNat (am_sln.getD i 0)) >>> ((0 : Int32) &&& 31) = (Int32.ofNat (am_sln.getD i 0)) := by simp
  rw [e0]
  exact K _ _ (Or.inr ⟨_, _, rfl, rfl, rfl, by decide +kernel⟩)
theorem am_J_pre {l : Launch} {G : am_G} {B : State → Prop} {j n : Int32} {fv : Value} (hfv : fv = .null ∨ ∃ t, fv = .ref t) (h0 : ¬ j < 0) (hn : j < n) : am_JM l G (⟨"jdk/internal/util/Preconditions", "checkIndex", "(IILjava/util/function/BiFunction;)I"⟩ : Jvm.MethodName) prog_19_method_11_code 3 (some .int) 0 0 [.int j, .int n, fv] B (some (.int j)) := by
  refine am_JMof (by decide +kernel) (by rcases hfv with rfl | ⟨t, rfl⟩ <;> exact Nat.le_of_ble_eq_true rfl) ?_
  intro p e s m args below meth c lsR Q hx hb hml hown hts hB hls K
  have hsz := hls.1
  have hS : va_S (am_A G) s.heap s.heap [] := va_S.rf
  refine lv_iload_n hx hb (k := 0) (i := 0) (by decide +kernel) rfl (lv_at hls 0 rfl) ?_
  refine lv_if_lt hx hb (off := 8) (tgt := 9) (by decide +kernel) rfl (fun h => absurd h h0) (fun _ => ?_)
  refine lv_iload_n hx hb (k := 0) (i := 0) (by decide +kernel) rfl (lv_at hls 0 rfl) ?_
  refine lv_iload_n hx hb (k := 1) (i := 1) (by decide +kernel) rfl (lv_at hls 1 rfl) ?_
  refine lv_icmp_lt hx hb (off := 10) (tgt := 16) (by decide +kernel) rfl (fun _ => ?_) (fun h => absurd hn h)
  refine lv_iload_n hx hb (k := 0) (i := 0) (by decide +kernel) rfl (lv_at hls 0 rfl) ?_
  exact K _ _ (Or.inr ⟨_, _, rfl, rfl, rfl, by decide +kernel⟩)
theorem am_J_chk {l : Launch} {G : am_G} {j n : Int32} (h0 : ¬ j < 0) (hn : j < n) : am_JM l G (⟨"java/lang/String", "checkIndex", "(II)V"⟩ : Jvm.MethodName) prog_16_method_155_code 2 none 1 22 [.int j, .int n] (am_SX G) none := by
  refine am_JMof (by decide +kernel) (Nat.le_of_ble_eq_true rfl) ?_
  intro p e s m args below meth c lsR Q hx hb hml hown hts hB hls K
  have hsz := hls.1
  have hS : va_S (am_A G) s.heap s.heap [] := va_S.rf
  have hB0 := hB
  obtain ⟨h1, h2, hZ, h4⟩ := hB0
  obtain ⟨fv, hfv, hF⟩ : ∃ fv : Value, (fv = .null ∨ ∃ t, fv = .ref t) ∧ va_Z "jdk/internal/util/Preconditions" "SIOOBE_FORMATTER" "Ljava/util/function/BiFunction;" fv (am_A G) s s.heap := by
    rcases h4 with h4 | ⟨t, h4⟩
    · exact ⟨_, Or.inl rfl, h4⟩
    · exact ⟨_, Or.inr ⟨t, rfl⟩, h4⟩
  refine lv_iload_n hx hb (k := 0) (i := 0) (by decide +kernel) rfl (lv_at hls 0 rfl) ?_
  refine lv_iload_n hx hb (k := 1) (i := 1) (by decide +kernel) rfl (lv_at hls 1 rfl) ?_
  refine va_gets hx hb (index := 1053) (ref := "jdk/internal/util/Preconditions") hF hS hown (hts _ (am_okW_in (i := 2138) (by decide +kernel : am_okW 2138 (Jvm.Cond.fieldLink "java/lang/String" 1053 "jdk/internal/util/Preconditions" "SIOOBE_FORMATTER" "Ljava/util/function/BiFunction;") = true))) (fun _ h => h) (by decide +kernel) ?_
  refine am_JS (q := 5) (As := [.int j, .int n, fv]) (rest := []) (⟨hx, hb, hml, hown, hts⟩ : CallFix p m c prog_16_method_155_code 2 s args am_TG "java/lang/String") (am_J_pre (B := am_SX G) hfv h0 hn) (am_SX_mv G) hB hS (am_okW_in (i := 2142) (by decide +kernel : am_okW 2142 (Jvm.Cond.code (⟨"jdk/internal/util/Preconditions", "checkIndex", "(IILjava/util/function/BiFunction;)I"⟩ : Jvm.MethodName) prog_19_method_11_code 3 (some .int)) = true)) (am_okW_in (i := 2140) (by decide +kernel : am_okW 2140 (Jvm.Cond.methodLink "java/lang/String" 1059 (⟨"jdk/internal/util/Preconditions", "checkIndex", "(IILjava/util/function/BiFunction;)I"⟩ : Jvm.MethodName)) = true)) (am_okW_in (i := 2141) (by decide +kernel : am_okW 2141 (Jvm.Cond.static (⟨"jdk/internal/util/Preconditions", "checkIndex", "(IILjava/util/function/BiFunction;)I"⟩ : Jvm.MethodName)) = true)) (am_okW_in (i := 1015) (by decide +kernel : am_okW 1015 (Jvm.Cond.initialized "jdk/internal/util/Preconditions") = true)) ⟨by decide +kernel, by decide +kernel, (by decide +kernel : (parseMethodDescriptor "(IILjava/util/function/BiFunction;)I").map (fun d => d.parameters.length) = some 3)⟩ (by decide +kernel) hsz (Nat.le_of_ble_eq_true rfl) ⟨Nat.le_refl _, Nat.le_refl _⟩ (by decide +kernel) ?_
  refine lv_pop hx hb (va := .int j) (by decide +kernel) rfl ?_
  exact K _ _ (Or.inl ⟨rfl, rfl, by decide +kernel⟩)
def am_SV (G : am_G) (i v : Nat) (s : State) : Prop := am_SX G s ∧ va_T .byte v (am_sln.getD i 0) (fun j => .int ((am_sby.getD i []).getD j 0)) (am_A G) s s.heap
theorem am_SV_mv (G : am_G) (i v : Nat) : am_Mv G (am_SV G i v) := fun s U hW hH h => ⟨am_SX_mv G s U hW hH h.1, (va_T.moved hW.alike h.2).kept hH⟩
def am_chz (i j : Nat) : Int32 := ((((am_sby.getD i []).getD j 0) &&& 255).toUInt32 % 65536).toInt32
theorem am_sJ : ∀ i, i < 6 → ∀ j, j < am_sln.getD i 0 → ¬ Int32.ofNat j < 0 ∧ Int32.ofNat j < Int32.ofNat (am_sln.getD i 0) ∧ (Int32.ofNat j).toNatClampNeg = j ∧ am_chz i j = (am_sby.getD i []).getD j 0 ∧ narrow .char (.int (am_chz i j)) = .int (am_chz i j) := by decide +kernel
theorem am_J_lat {l : Launch} {G : am_G} {i v j : Nat} (hi : i < 6) (hj : j < am_sln.getD i 0) : am_JM l G (⟨"java/lang/StringLatin1", "charAt", "([BI)C"⟩ : Jvm.MethodName) prog_17_method_2_code 2 (some .char) 2 43 [.ref v, .int (Int32.ofNat j)] (am_SV G i v) (some (.int (am_chz i j))) := by
  refine am_JMof (by decide +kernel) (Nat.le_of_ble_eq_true rfl) ?_
  intro p e s m args below meth c lsR Q hx hb hml hown hts hB hls K
  have hsz := hls.1
  have hS : va_S (am_A G) s.heap s.heap [] := va_S.rf
  have hB0 := hB
  obtain ⟨hX, hT⟩ := hB0
  obtain ⟨e1, e2, e3, e4, e5⟩ := am_sJ i hi j hj
  refine lv_iload_n hx hb (k := 1) (i := 1) (by decide +kernel) rfl (lv_at hls 1 rfl) ?_
  refine lv_aload_n hx hb (k := 0) (i := 0) (by decide +kernel) rfl (lv_at hls 0 rfl) ?_
  refine va_tlen hx hb hT hS rfl (by decide +kernel) ?_
  refine am_JS (q := 3) (As := [.int (Int32.ofNat j), .int (Int32.ofNat (am_sln.getD i 0))]) (rest := []) (⟨hx, hb, hml, hown, hts⟩ : CallFix p m c prog_17_method_2_code 2 s args am_TG "java/lang/StringLatin1") (am_J_chk e1 e2) (am_SX_mv G) hX hS (am_okW_in (i := 2137) (by decide +kernel : am_okW 2137 (Jvm.Cond.code (⟨"java/lang/String", "checkIndex", "(II)V"⟩ : Jvm.MethodName) prog_16_method_155_code 2 none) = true)) (am_okW_in (i := 2135) (by decide +kernel : am_okW 2135 (Jvm.Cond.methodLink "java/lang/StringLatin1" 9 (⟨"java/lang/String", "checkIndex", "(II)V"⟩ : Jvm.MethodName)) = true)) (am_okW_in (i := 2136) (by decide +kernel : am_okW 2136 (Jvm.Cond.static (⟨"java/lang/String", "checkIndex", "(II)V"⟩ : Jvm.MethodName)) = true)) (am_okW_in (i := 1013) (by decide +kernel : am_okW 1013 (Jvm.Cond.initialized "java/lang/String") = true)) ⟨by decide +kernel, by decide +kernel, (by decide +kernel : (parseMethodDescriptor "(II)V").map (fun d => d.parameters.length) = some 2)⟩ (by decide +kernel) hsz (Nat.le_of_ble_eq_true rfl) ⟨Nat.le_refl _, Nat.le_refl _⟩ (by decide +kernel) ?_
  refine lv_aload_n hx hb (k := 0) (i := 0) (by decide +kernel) rfl (lv_at hls 0 rfl) ?_
  refine lv_iload_n hx hb (k := 1) (i := 1) (by decide +kernel) rfl (lv_at hls 1 rfl) ?_
  refine va_tb hx hb hT hS (i := Int32.ofNat j) (by rw [vp_in, e3]; exact fun h => h.elim e1 (fun h => absurd hj (Nat.not_lt.mpr h))) rfl (by decide +kernel) ?_
  rw [e3]
  refine lv_sipush hx hb (n := 255) (v := 255) (by decide +kernel) (by decide +kernel) ?_
  refine lv_iand hx hb (by decide +kernel) ?_
  refine lv_i2c hx hb (by decide +kernel) (v := am_chz i j) rfl ?_
  exact K _ _ (Or.inr ⟨_, _, rfl, rfl, e5, by decide +kernel⟩)
theorem am_J_charAt {l : Launch} {G : am_G} {i j : Nat} (hi : i < 6) (hj : j < am_sln.getD i 0) : am_JM l G (⟨"java/lang/String", "charAt", "(I)C"⟩ : Jvm.MethodName) prog_16_method_56_code 2 (some .char) 3 64 [.ref (G.2.2.2.2 (1000000 + i)), .int (Int32.ofNat j)] (am_SX G) (some (.int (am_chz i j))) := by
  refine am_JMof (by decide +kernel) (Nat.le_of_ble_eq_true rfl) ?_
  intro p e s m args below meth c lsR Q hx hb hml hown hts hB hls K
  have hsz := hls.1
  have hS : va_S (am_A G) s.heap s.heap [] := va_S.rf
  have hB0 := hB
  obtain ⟨h1, ⟨adV, h2⟩, hZ, h4⟩ := hB0
  obtain ⟨o1, o2, o3, o4⟩ := h2.1 i hi
  obtain ⟨e1, e2, e3, e4, e5⟩ := am_sJ i hi j hj
  refine lv_aload_n hx hb (k := 0) (i := 0) (by decide +kernel) rfl (lv_at hls 0 rfl) ?_
  refine am_JV (q := 1) (As := []) (rest := []) (⟨hx, hb, hml, hown, hts⟩ : CallFix p m c prog_16_method_56_code 2 s args am_TG "java/lang/String") (am_J_isLatin1 hi) (am_SX_mv G) hB hS (vk_recv (adK := fun b => G.2.2.2.2 (1000000 + b)) (i := i) h2 hi hS) (am_okW_in (i := 2131) (by decide +kernel : am_okW 2131 (Jvm.Cond.code (⟨"java/lang/String", "isLatin1", "()Z"⟩ : Jvm.MethodName) prog_16_method_154_code 1 (some .boolean)) = true)) (am_okW_in (i := 2128) (by decide +kernel : am_okW 2128 (Jvm.Cond.methodLink "java/lang/String" 492 (⟨"java/lang/String", "isLatin1", "()Z"⟩ : Jvm.MethodName)) = true)) (am_okW_in (i := 2129) (by decide +kernel : am_okW 2129 (Jvm.Cond.instanceMethod (⟨"java/lang/String", "isLatin1", "()Z"⟩ : Jvm.MethodName)) = true)) (am_okW_in (i := 2130) (by decide +kernel : am_okW 2130 (Jvm.Cond.selects "java/lang/String" (⟨"java/lang/String", "isLatin1", "()Z"⟩ : Jvm.MethodName) (⟨"java/lang/String", "isLatin1", "()Z"⟩ : Jvm.MethodName)) = true)) (am_okW_in (i := 1013) (by decide +kernel : am_okW 1013 (Jvm.Cond.initialized "java/lang/String") = true)) ⟨by decide +kernel, by decide +kernel, (by decide +kernel : (parseMethodDescriptor "()Z").map (fun d => d.parameters.length) = some 0)⟩ (by decide +kernel) hsz (Nat.le_of_ble_eq_true rfl) ⟨Nat.le_refl _, Nat.le_refl _⟩ (by decide +kernel) ?_
  refine lv_if_eq hx hb (off := 12) (tgt := 16) (by decide +kernel) rfl (fun h => absurd h (by decide +kernel)) (fun _ => ?_)
  refine lv_aload_n hx hb (k := 0) (i := 0) (by decide +kernel) rfl (lv_at hls 0 rfl) ?_
  refine vk_getf hx hb (ref := "java/lang/String") (index := 9) o3 hS hown (hts _ (am_okW_in (i := 8027) (by decide +kernel : am_okW 8027 (Jvm.Cond.fieldLink "java/lang/String" 9 "java/lang/String" "value" "[B") = true))) (fun _ h => h) (by decide +kernel) ?_
  refine lv_iload_n hx hb (k := 1) (i := 1) (by decide +kernel) rfl (lv_at hls 1 rfl) ?_
  refine am_JS (q := 12) (As := [.ref (adV i), .int (Int32.ofNat j)]) (rest := []) (⟨hx, hb, hml, hown, hts⟩ : CallFix p m c prog_16_method_56_code 2 s args am_TG "java/lang/String") (am_J_lat (v := adV i) hi hj) (am_SV_mv G i (adV i)) ⟨hB, o4⟩ hS (am_okW_in (i := 2134) (by decide +kernel : am_okW 2134 (Jvm.Cond.code (⟨"java/lang/StringLatin1", "charAt", "([BI)C"⟩ : Jvm.MethodName) prog_17_method_2_code 2 (some .char)) = true)) (am_okW_in (i := 2132) (by decide +kernel : am_okW 2132 (Jvm.Cond.methodLink "java/lang/String" 495 (⟨"java/lang/StringLatin1", "charAt", "([BI)C"⟩ : Jvm.MethodName)) = true)) (am_okW_in (i := 2133) (by decide +kernel : am_okW 2133 (Jvm.Cond.static (⟨"java/lang/StringLatin1", "charAt", "([BI)C"⟩ : Jvm.MethodName)) = true)) (am_okW_in (i := 1014) (by decide +kernel : am_okW 1014 (Jvm.Cond.initialized "java/lang/StringLatin1") = true)) ⟨by decide +kernel, by decide +kernel, (by decide +kernel : (parseMethodDescriptor "([BI)C").map (fun d => d.parameters.length) = some 2)⟩ (by decide +kernel) hsz (Nat.le_of_ble_eq_true rfl) ⟨Nat.le_refl _, Nat.le_refl _⟩ (by decide +kernel) ?_
  exact K _ _ (Or.inr ⟨_, _, rfl, rfl, e5, by decide +kernel⟩)
