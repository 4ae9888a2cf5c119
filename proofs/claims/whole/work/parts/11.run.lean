
theorem am_lst {k q lo a b cc : Nat} {z : Int} {sw : List (Int × Nat)} (hc : am_chk k q (32, lo, a, b, cc, z, sw) = true) : am_n k 4 = 0 → False := by
  intro h0
  simp only [am_chk, Bool.and_eq_true] at hc
  have h1 := am_beq hc.1.2
  omega
/-- one step -/
theorem am_simS {SX : am_G → State → Prop} (hSO : am_SOK SX) {l : Launch} {p : Program} {e : Env} {R : Room} {s : State} {m : MethodId} {args : Array Value} {below : List Frame} {meth : Method} {c : Code} {G : am_G} {Q : State → Prop} {d k k0 s0 q q' : Nat} {ls ls' : am_L} {st st' : List am_V} {h h' hz : am_H} {i : am_I}
    (hc : am_chk k q i = true) (hs : am_step i q ls st h = some (q', ls', st', h')) (C : am_Cx p l e R s m args below meth c G k) (hX : SX G s) (hk0 : k0 ≤ h.1.length) (hs0 : s0 ≤ am_sl h.1) (hm1 : h'.1.length ≤ hz.1.length) (hm2 : am_sl h'.1 ≤ am_sl hz.1) (hRc : hz.1.length - k0 ≤ R.cells) (hRs : am_sl hz.1 - s0 ≤ R.slots) (hF : d + 5 ≤ R.frames) (hL : 64 * (d + 5) ≤ R.locals)
    (K : am_Go p l e R s m args below meth c G k k0 s0 Q q' ls' st' h') : am_Go p l e R s m args below meth c G k k0 s0 Q q ls st h := by
  have hm3 := am_step_mono hs
  obtain ⟨o, lo, a, b, cc, z, sw⟩ := i
  simp only [am_step] at hs
  split at hs
  · exact am_s1 C hc hs K
  · exact am_s2 C hc hs K
  · exact am_s3 C hc hs K
  · exact am_s4 C hc hs K
  · exact am_s5 C hc hs K
  · exact am_s6 C hc hs K
  · exact am_sbb am_add (fun x y => x + y) (fun _ _ => rfl) (fun w => lv_iadd C.1 C.2.1 (am_D_ok hc) w) hs K
  · exact am_sbb am_sub (fun x y => x - y) (fun _ _ => rfl) (fun w => lv_isub C.1 C.2.1 (am_D_ok hc) w) hs K
  · exact am_sbb am_mul (fun x y => x * y) (fun _ _ => rfl) (fun w => lv_imul C.1 C.2.1 (am_D_ok hc) w) hs K
  · exact am_sbb am_and (fun x y => x &&& y) (fun _ _ => rfl) (fun w => lv_iand C.1 C.2.1 (am_D_ok hc) w) hs K
  · exact am_sbb am_or (fun x y => x ||| y) (fun _ _ => rfl) (fun w => lv_ior C.1 C.2.1 (am_D_ok hc) w) hs K
  · exact am_sbb am_xor (fun x y => x ^^^ y) (fun _ _ => rfl) (fun w => lv_ixor C.1 C.2.1 (am_D_ok hc) w) hs K
  · exact am_sbb am_shl (fun x y => x <<< (y &&& 31)) (fun _ _ => rfl) (fun w => lv_ishl C.1 C.2.1 (am_D_ok hc) w) hs K
  · exact am_sbb am_shr (fun x y => x >>> (y &&& 31)) (fun _ _ => rfl) (fun w => lv_ishr C.1 C.2.1 (am_D_ok hc) w) hs K
  · exact am_sbb am_ush (fun x y => (x.toUInt32 >>> (y.toUInt32 &&& Int32.toUInt32 31)).toInt32) (fun _ _ => rfl) (fun w => lv_iushr C.1 C.2.1 (am_D_ok hc) rfl w) hs K
  · exact am_s16 C hc hs K
  · exact am_sbd am_div (fun x y => x / y) (fun _ _ => rfl) (fun hy w => lv_idiv C.1 C.2.1 (am_D_ok hc) hy w) hs K
  · exact am_sbd am_rem (fun x y => x - x / y * y) (fun _ _ => rfl) (fun hy w => lv_irem C.1 C.2.1 (am_D_ok hc) hy w) hs K
  · cases hs; exact am_s21 C hc K
  · exact am_s22 C hc hs K
  · exact am_s23 C hc hs K
  · exact am_s24 C hc hs K
  · exact am_s25 C hc hs K
  · exact am_s26 C hc hs K
  · exact am_s27 C hc hs K hk0 hs0 (by omega) (by omega)
  · exact am_s28 C hc hs K hk0 hs0 (by omega) (by omega)
  · cases hs; exact am_s30 C hc K
  · exact am_s31 C hc hs K
  · exact am_s32 C hc hs K (am_lst hc)
  · exact am_sbl am_ladd (fun x y => x + y) (fun _ _ => rfl) (fun w => lv_ladd C.1 C.2.1 (am_D_ok hc) w) hs K
  · exact am_sbl am_lsub (fun x y => x - y) (fun _ _ => rfl) (fun w => lv_lsub C.1 C.2.1 (am_D_ok hc) w) hs K
  · exact am_sbl am_lmul (fun x y => x * y) (fun _ _ => rfl) (fun w => lv_lmul C.1 C.2.1 (am_D_ok hc) w) hs K
  · exact am_sble am_ldiv (fun x y => x / y) (fun _ _ => rfl) (fun hy w => lv_ldiv C.1 C.2.1 (am_D_ok hc) hy w) hs K
  · exact am_sble am_lrem (fun x y => x - x / y * y) (fun _ _ => rfl) (fun hy w => lv_lrem C.1 C.2.1 (am_D_ok hc) hy w) hs K
  · exact am_s38 C hc hs K
  · exact am_s39 C hc hs K
  · exact am_s40 C hc hs K
  · exact am_s41 C hc hs K
  · exact am_s42 C hc hs K
  · exact am_s43 C hc hs K
  · exact am_s44 C hc hs K
  · exact am_s45 C hc hs K
  · exact am_s46 C hc hs K
  · exact (am_sS hSO C hX (by omega) (by omega) (by omega) (by omega)).1 hc hs K
  · exact am_s49 C hc hs K (by omega) (by omega)
  · exact (am_sS hSO C hX (by omega) (by omega) (by omega) (by omega)).2.1 hc hs K
  · exact (am_sS hSO C hX (by omega) (by omega) (by omega) (by omega)).2.2.1 hc hs K
  · exact (am_sS hSO C hX (by omega) (by omega) (by omega) (by omega)).2.2.2 hc hs K
  · exact am_s58 C hc hs K
  · exact am_sj1 _ (fun x => x = 0) (fun x hx => (am_eq32 hx am_z32).trans decide_eq_true_iff.symm) (fun va vb => lv_if_eq C.1 C.2.1 (am_D_ok (Bool.and_eq_true_iff.mp hc).1) (am_tg_ok (Bool.and_eq_true_iff.mp hc).2) va (vb)) hs K
  · exact am_sj1 _ (fun x => ¬ x = 0) (fun x hx => (not_congr (am_eq32 hx am_z32)).trans decide_eq_true_iff.symm) (fun va vb => lv_if_ne C.1 C.2.1 (am_D_ok (Bool.and_eq_true_iff.mp hc).1) (am_tg_ok (Bool.and_eq_true_iff.mp hc).2) va (fun w => vb (fun w2 => w2 w))) hs K
  · exact am_sj1 _ (fun x => x < 0) (fun x hx => (am_lt32 hx am_z32).trans decide_eq_true_iff.symm) (fun va vb => lv_if_lt C.1 C.2.1 (am_D_ok (Bool.and_eq_true_iff.mp hc).1) (am_tg_ok (Bool.and_eq_true_iff.mp hc).2) va (vb)) hs K
  · exact am_sj1 _ (fun x => 0 ≤ x) (fun x hx => (am_le32 am_z32 hx).trans decide_eq_true_iff.symm) (fun va vb => lv_if_ge C.1 C.2.1 (am_D_ok (Bool.and_eq_true_iff.mp hc).1) (am_tg_ok (Bool.and_eq_true_iff.mp hc).2) va (vb)) hs K
  · exact am_sj1 _ (fun x => 0 < x) (fun x hx => (am_lt32 am_z32 hx).trans decide_eq_true_iff.symm) (fun va vb => lv_if_gt C.1 C.2.1 (am_D_ok (Bool.and_eq_true_iff.mp hc).1) (am_tg_ok (Bool.and_eq_true_iff.mp hc).2) va (vb)) hs K
  · exact am_sj1 _ (fun x => x ≤ 0) (fun x hx => (am_le32 hx am_z32).trans decide_eq_true_iff.symm) (fun va vb => lv_if_le C.1 C.2.1 (am_D_ok (Bool.and_eq_true_iff.mp hc).1) (am_tg_ok (Bool.and_eq_true_iff.mp hc).2) va (vb)) hs K
  · exact am_sj2 _ (fun x y => x = y) (fun x y hx hy => (am_eq32 hx hy).trans decide_eq_true_iff.symm) (fun va vb => lv_icmp_eq C.1 C.2.1 (am_D_ok (Bool.and_eq_true_iff.mp hc).1) (am_tg_ok (Bool.and_eq_true_iff.mp hc).2) va (vb)) hs K
  · exact am_sj2 _ (fun x y => ¬ x = y) (fun x y hx hy => (not_congr (am_eq32 hx hy)).trans decide_eq_true_iff.symm) (fun va vb => lv_icmp_ne C.1 C.2.1 (am_D_ok (Bool.and_eq_true_iff.mp hc).1) (am_tg_ok (Bool.and_eq_true_iff.mp hc).2) va (fun w => vb (fun w2 => w2 w))) hs K
  · exact am_sj2 _ (fun x y => x < y) (fun x y hx hy => (am_lt32 hx hy).trans decide_eq_true_iff.symm) (fun va vb => lv_icmp_lt C.1 C.2.1 (am_D_ok (Bool.and_eq_true_iff.mp hc).1) (am_tg_ok (Bool.and_eq_true_iff.mp hc).2) va (vb)) hs K
  · exact am_sj2 _ (fun x y => y ≤ x) (fun x y hx hy => (am_le32 hy hx).trans decide_eq_true_iff.symm) (fun va vb => lv_icmp_ge C.1 C.2.1 (am_D_ok (Bool.and_eq_true_iff.mp hc).1) (am_tg_ok (Bool.and_eq_true_iff.mp hc).2) va (vb)) hs K
  · exact am_sj2 _ (fun x y => y < x) (fun x y hx hy => (am_lt32 hy hx).trans decide_eq_true_iff.symm) (fun va vb => lv_icmp_gt C.1 C.2.1 (am_D_ok (Bool.and_eq_true_iff.mp hc).1) (am_tg_ok (Bool.and_eq_true_iff.mp hc).2) va (vb)) hs K
  · exact am_sj2 _ (fun x y => x ≤ y) (fun x y hx hy => (am_le32 hx hy).trans decide_eq_true_iff.symm) (fun va vb => lv_icmp_le C.1 C.2.1 (am_D_ok (Bool.and_eq_true_iff.mp hc).1) (am_tg_ok (Bool.and_eq_true_iff.mp hc).2) va (vb)) hs K
  · exact am_s72 C hc hs K
  · exact am_s73 C hc hs K
  · exact am_s74 C hc hs K
  · exact am_s76 C hc hs K (by omega) (by omega) (by omega) (by omega)
  · exact am_s77 C hc hs K (by omega) (by omega) (by omega) (by omega)
  · exact am_s78 C hc hs K (by omega) (by omega) (by omega) (by omega)
  · cases hs
/-- which method a call calls, and how -/
theorem am_inv_ok {k q : Nat} {i : am_I} (hc : am_chk k q i = true) (h1 : 50 ≤ i.1) (h2 : i.1 ≤ 54) : 0 < i.2.2.2.1 ∧ i.2.2.2.1 < am_mN ∧ ∃ a,
    ((decode (am_bs k) q = .ok (.invokevirtual a, 3) ∧ Jvm.Cond.methodLink (am_y k).cls a (am_y i.2.2.2.1) ∈ am_TG ∧ am_n i.2.2.2.1 3 = 1) ∨
     (decode (am_bs k) q = .ok (.invokespecial a, 3) ∧ Jvm.Cond.methodLink (am_y k).cls a (am_y i.2.2.2.1) ∈ am_TG ∧ am_n i.2.2.2.1 3 = 2) ∨
     (decode (am_bs k) q = .ok (.invokestatic a, 3) ∧ Jvm.Cond.methodLink (am_y k).cls a (am_y i.2.2.2.1) ∈ am_TG ∧ am_n i.2.2.2.1 3 = 0) ∨
     (decode (am_bs k) q = .ok (.invokespecial a, 3) ∧ Jvm.Cond.methodLinkNest (am_y k).cls a (am_y i.2.2.2.1) "KissesOwed" ∈ lw_tbl ∧ am_n i.2.2.2.1 3 = 2) ∨
     (decode (am_bs k) q = .ok (.invokestatic a, 3) ∧ Jvm.Cond.methodLinkNest (am_y k).cls a (am_y i.2.2.2.1) "KissesOwed" ∈ lw_tbl ∧ am_n i.2.2.2.1 3 = 0)) := by
  obtain ⟨o, lo, a, b, cc, z, sw⟩ := i
  simp only at h1 h2 ⊢
  rcases (show o = 50 ∨ o = 51 ∨ o = 52 ∨ o = 53 ∨ o = 54 by omega) with rfl | rfl | rfl | rfl | rfl
  · simp only [am_chk, Bool.and_eq_true] at hc
    exact ⟨am_blt hc.1.2, am_blt hc.2, a, Or.inl ⟨am_D_ok hc.1.1.1.1, am_okW_in hc.1.1.1.2, am_beq hc.1.1.2⟩⟩
  · simp only [am_chk, Bool.and_eq_true] at hc
    exact ⟨am_blt hc.1.2, am_blt hc.2, a, Or.inr (Or.inl ⟨am_D_ok hc.1.1.1.1, am_okW_in hc.1.1.1.2, am_beq hc.1.1.2⟩)⟩
  · simp only [am_chk, Bool.and_eq_true] at hc
    exact ⟨am_blt hc.1.2, am_blt hc.2, a, Or.inr (Or.inr (Or.inl ⟨am_D_ok hc.1.1.1.1, am_okW_in hc.1.1.1.2, am_beq hc.1.1.2⟩))⟩
  · simp only [am_chk, Bool.and_eq_true] at hc
    exact ⟨am_blt hc.1.2, am_blt hc.2, a, Or.inr (Or.inr (Or.inr (Or.inl ⟨am_D_ok hc.1.1.1.1, am_wd_in hc.1.1.1.2, am_beq hc.1.1.2⟩)))⟩
  · simp only [am_chk, Bool.and_eq_true] at hc
    exact ⟨am_blt hc.1.2, am_blt hc.2, a, Or.inr (Or.inr (Or.inr (Or.inr ⟨am_D_ok hc.1.1.1.1, am_wd_in hc.1.1.1.2, am_beq hc.1.1.2⟩)))⟩
/-- the machine follows the small machine to its end -/
def am_Sim (SX : am_G → State → Prop) (l : Launch) (n : Nat) : Prop := ∀ {d k q : Nat} {ls : am_L} {st : List am_V} {h : am_H} {r : Option am_V} {h' : am_H}, am_run n d k q ls st h = some (r, h') → k < am_mN → ∀ {p : Program} {e : Env} {R : Room} {s : State} {m : MethodId} {args : Array Value} {below : List Frame} {meth : Method} {c : Code} {G : am_G} {Q : State → Prop} {k0 s0 : Nat}, am_Cx p l e R s m args below meth c G k → SX G s → k0 ≤ h.1.length → s0 ≤ am_sl h.1 → h'.1.length - k0 ≤ R.cells → am_sl h'.1 - s0 ≤ R.slots → d + 5 ≤ R.frames → 64 * (d + 5) ≤ R.locals →
    (∀ (q2 : Nat) (lsR : Array Slot) (H : Heap) (locs : List Loc), am_RA k q2 r → am_Rp G h' s H → (∀ a j, am_okv (.inl (h'.2.1 a j))) → (∀ v, r = some v → am_okv v) → va_S (am_A G) s.heap H locs → W p l e R s m args below meth c H locs (h'.1.length - k0) (am_sl h'.1 - s0) Q (F0 m q2 lsR (r.toList.map (am_rv G.2.2.2.2)))) → am_Go p l e R s m args below meth c G k k0 s0 Q q ls st h
theorem am_FB {SX : am_G → State → Prop} (hSO : am_SOK SX) {G : am_G} {as : List am_V} {h : am_H} : FrameBlind (am_mPc SX G as h) := by
  intro a U g mk hp
  obtain ⟨h1, h2, h3, h4⟩ := hp
  exact ⟨h1, am_Rp.moved (u := U) (U := U.calling g mk a) (Vm.Alike.refl U.vm) h2, h3.call, hSO.1 G U (U.calling g mk a) (State.WarmedH.refl U) (fun _ _ _ => rfl) h4⟩
/-- a method's contract out of its run -/
theorem am_met {SX : am_G → State → Prop} {l : Launch} {n d b : Nat} (IH : am_Sim SX l n) {as : List am_V} {h h1 : am_H} {r : Option am_V} {G : am_G} (hG : am_okG G) (hb0 : 0 < b) (hbk : b < am_mN) (he : am_run n d b 0 (am_pad (am_n b 0) (am_ent as)) [] h = some (r, h1)) (hok : ∀ v ∈ as, am_okv v) (hno : am_n b 4 = 0 → am_no2 as = true) (hwt : am_wt as ≤ am_n b 0) (hh : ∀ a j, am_okv (.inl (h.2.1 a j))) :
    Met l (am_y b) (am_mws b) (am_mrm h h1 d) (am_mPc SX G as h) (am_mQc G r h1) (h1.1.length - h.1.length) (am_sl h1.1 - am_sl h.1) (am_A G) := by
  obtain ⟨c1, c2, c3, c4, c5, c6, c7, c8⟩ := am_H_ok hbk hb0
  refine Met.ofW (cc := am_bs b) (maxL := am_n b 0) (ret := am_ft b) c7 rfl ?_
  intro p e s m args below meth c s₁ B hml hv
  obtain ⟨rfl, hR, hW, hX⟩ := hv
  have hts := atoms_spec (ws := am_mws b) B.pre
  have hr := B.returns
  have hlocks := B.notSynchronized
  have C : am_Cx p l e (headSpec (am_mws b) (am_mrm h h1 d)).room s m (as.map (am_rv G.2.2.2.2)).toArray below meth c G b := ⟨B.exec, B.bytes, hml, findClass_of_methodNamed B.named, fun w hw => hts w (List.mem_cons_of_mem _ hw), fun e2 => by
    rw [(name_of_methodNamed B.named B.method).1]
    rcases c3 with ⟨e3, -⟩ | ⟨e3, -⟩ | ⟨-, -, e3, -⟩
    · omega
    · omega
    · exact e3, hW, hG⟩
  rw [lg_entry_eq]
  have hmono := am_run_mono he
  have hl := lv_entry (as.map (am_rv G.2.2.2.2)) (n := am_n b 0) (by rw [am_sl_wt]; exact hwt)
  have hin2 : ∀ v, some v ∈ am_pad (am_n b 0) (am_ent as) → v ∈ as := fun v hv => am_ent_in (am_pad_in hv)
  have K := IH he hbk (G := G) (k0 := h.1.length) (s0 := am_sl h.1) (Q := MQ below (am_mQc G r h1) (as.map (am_rv G.2.2.2.2)).toArray s (h1.1.length - h.1.length) (am_sl h1.1 - am_sl h.1) (am_A G)) C hX (Nat.le_refl _) (Nat.le_refl _) (Nat.le_refl _) (Nat.le_refl _) (Nat.le_refl _) (Nat.le_refl _) ?_
  · have K2 := K _ s.heap [] ⟨⟨hl.1, hl.2.1, fun x hx => hl.2.2 x (am_ent_ll (am_pad_ll hx))⟩, fun v hv => (by cases hv), fun v hv => hok v (hin2 v hv), fun e2 v hv => am_no2_ok (hno e2) v (hin2 v hv), hh, hR⟩ va_S.rf
    rw [Nat.sub_self, Nat.sub_self] at K2
    exact K2
  · intro q2 lsR H locs hRA hR1 hh1 hok1 hS
    have post : ∀ t : State, t.heap = H → s.WarmedH t.vm → am_mQc G r h1 (as.map (am_rv G.2.2.2.2)).toArray s (.returned (r.map (am_rv G.2.2.2.2))) t := fun t ht hW1 => ⟨⟨rfl, by rw [ht]; exact am_Rp.moved hW1.alike hR1, hh1, hok1⟩, hS.F ht⟩
    rcases hRA with ⟨rfl, hd, hk⟩ | ⟨y, rfl, hd, hk⟩ | ⟨y, rfl, hd, hk⟩ | ⟨y, rfl, hd, hk⟩
    · have hft : am_ft b = none := by
        rcases c4 with ⟨e1, e2⟩ | ⟨e1, e2⟩ | ⟨e1, e2⟩ | ⟨e1, e2⟩ | ⟨e1, e2⟩ <;> first | exact e2 | omega
      exact W.vret B.exec B.bytes (hr.trans hft) post hS.2.2 hd hlocks
    · rcases hk with hk | ⟨hk, hy⟩
      · have hft : am_ft b = some .int := by
          rcases c4 with ⟨e1, e2⟩ | ⟨e1, e2⟩ | ⟨e1, e2⟩ | ⟨e1, e2⟩ | ⟨e1, e2⟩ <;> first | exact e2 | omega
        exact W.iret (v := Int32.ofInt y) B.exec B.bytes (hr.trans hft) post hS.2.2 hd hlocks
      · have hft : am_ft b = some .boolean := by
          rcases c4 with ⟨e1, e2⟩ | ⟨e1, e2⟩ | ⟨e1, e2⟩ | ⟨e1, e2⟩ | ⟨e1, e2⟩ <;> first | exact e2 | omega
        exact W.zret (v := Int32.ofInt y) B.exec B.bytes (hr.trans hft) (by rcases hy with rfl | rfl <;> rfl) post hS.2.2 hd hlocks
    · have hft : am_ft b = some .long := by
        rcases c4 with ⟨e1, e2⟩ | ⟨e1, e2⟩ | ⟨e1, e2⟩ | ⟨e1, e2⟩ | ⟨e1, e2⟩ <;> first | exact e2 | omega
      exact W.lret (v := Int64.ofInt y) B.exec B.bytes (hr.trans hft) post hS.2.2 hd hlocks
    · have hft : am_ft b = some (.object "java/lang/String") := by
        rcases c4 with ⟨e1, e2⟩ | ⟨e1, e2⟩ | ⟨e1, e2⟩ | ⟨e1, e2⟩ | ⟨e1, e2⟩ <;> first | exact e2 | omega
      exact W.aret (v := .ref (G.2.2.2.2 y)) B.exec B.bytes (hr.trans hft) (Or.inl ⟨_, rfl⟩) (Or.inr ⟨_, rfl⟩) post hS.2.2 hd hlocks
theorem am_mws_in {b : Nat} (c1 : Jvm.Cond.code (am_y b) (am_bs b) (am_n b 0) (am_ft b) ∈ am_TG) : ∀ w ∈ am_mws b, w ∈ am_TG := by
  intro w hw
  rcases List.mem_cons.mp hw with rfl | hw
  · exact c1
  · exact hw
set_option maxHeartbeats 4000000 in
theorem am_sim {SX : am_G → State → Prop} (hSO : am_SOK SX) (l : Launch) : ∀ n, am_Sim SX l n := by
  intro n
  induction n with
  | zero =>
    intro d k q ls st h r h' hr
    simp [am_run] at hr
  | succ n IH =>
    intro d k q ls st h r h' hr hk p e R s m args below meth c G Q k0 s0 C hX hk0 hs0 hRc hRs hF hL Kr
    have hc := am_chk_all hk q
    unfold am_run at hr
    split at hr
    next ho =>
      split at hr
      next r' he =>
        cases hr
        obtain ⟨e1, e2⟩ := am_ret_ok hc (am_beq ho) he
        subst e1
        intro lsR H locs hI hS
        exact Kr q lsR H locs e2 hI.2.2.2.2.2 hI.2.2.2.2.1 (fun v e => hI.2.1 v (by rw [e]; exact List.mem_cons_self)) hS
      next => cases hr
    next ho =>
      split at hr
      next hcall =>
        simp only [Bool.and_eq_true] at hcall
        obtain ⟨hb0, hbk, a, hinv⟩ := am_inv_ok hc (Nat.le_of_ble_eq_true hcall.1) (Nat.le_of_ble_eq_true hcall.2)
        generalize (am_code k q).2.2.2.1 = b at hr hb0 hbk hinv
        split at hr
        next d' ls0 t hca =>
          split at hr
          next r1 h1 he =>
            obtain ⟨as, e1, e2, e3, e4, e5, e6, e7⟩ := am_call_ok hca
            subst e1; subst e7
            obtain ⟨c1, c2, c3, c4, c5, c6, c7, c8⟩ := am_H_ok hbk hb0
            have hG := C.2.2.2.2.2.2.2
            have m1 := am_run_mono he
            have m2 := am_run_mono hr
            have K := IH hr hk C hX (Nat.le_trans hk0 m1.1) (Nat.le_trans hs0 m1.2) hRc hRs hF hL Kr
            intro lsR H locs hI hS
            have hM := am_met (SX := SX) (l := l) IH hG hb0 hbk he (fun v hv => hI.2.1 v (List.mem_append_left _ (List.mem_reverse.mpr hv))) e5 e6 hI.2.2.2.2.1
            have hRm : (am_mrm h h1 d').frames + 1 ≤ R.frames ∧ 8 + (am_n b 0 + 11) + (am_mrm h h1 d').locals ≤ R.locals := by
              show d' + 5 + 1 ≤ _ ∧ 8 + (am_n b 0 + 11) + 64 * (d' + 5) ≤ _
              omega
            have hf : h.1.length - k0 + (h1.1.length - h.1.length) ≤ R.cells ∧ am_sl h.1 - s0 + (am_sl h1.1 - am_sl h.1) ≤ R.slots := by omega
            have hPU : ∀ U : State, U.heap = H → s.WarmedH U.vm → am_mPc SX G as h (as.map (am_rv G.2.2.2.2)).toArray U := fun U hU hW1 => ⟨rfl, by rw [hU]; exact am_Rp.moved hW1.alike hI.2.2.2.2.2, C.2.2.2.2.2.2.1.moved hW1, hSO.1 G s U hW1 (fun a ha1 ha2 => by rw [hU]; exact hS.2.1 a ha1 ha2) hX⟩
            have hCF : CallFix p m c (am_bs k) (am_n k 0) s args am_TG (am_y k).cls := ⟨C.1, C.2.1, C.2.2.1, C.2.2.2.1, C.2.2.2.2.1⟩
            have hts := C.2.2.2.2.1
            have hgood : GoodIn am_TG (am_mws b) := am_goodIn (am_mws_in c1)
            have fin : va_Run p l e R s m args below meth c H locs (h.1.length - k0) (am_sl h.1 - s0) (h1.1.length - h.1.length) (am_sl h1.1 - am_sl h.1) (F0 m q lsR ((as.reverse ++ t).map (am_rv G.2.2.2.2))) (t.map (am_rv G.2.2.2.2)) (am_mQc G r1 h1 (as.map (am_rv G.2.2.2.2)).toArray) (am_A G) → W p l e R s m args below meth c H locs (h.1.length - k0) (am_sl h.1 - s0) Q (F0 m q lsR ((as.reverse ++ t).map (am_rv G.2.2.2.2))) := by
              intro hrun
              refine am_callK hrun hS fun t1 H1 locs1 ht hvm hB hS1 => ?_
              obtain ⟨hB1, hB2, hB3⟩ := hB
              rw [ht] at hB1
              have K2 := K lsR H1 locs1 ⟨hI.1, fun v hv => by
                rcases List.mem_append.mp hv with hv | hv
                · exact hB3 v (by cases r1 with
                    | none => cases hv
                    | some w => rw [List.mem_singleton.mp hv])
                · exact hI.2.1 v (List.mem_append_right _ hv), hI.2.2.1, hI.2.2.2.1, hB2, am_Rp.moved hvm.symm hB1⟩ hS1
              have ec : h.1.length - k0 + (h1.1.length - h.1.length) = h1.1.length - k0 := by omega
              have es : am_sl h.1 - s0 + (am_sl h1.1 - am_sl h.1) = am_sl h1.1 - s0 := by omega
              rw [ec, es]
              have ev : (r1.toList ++ t).map (am_rv G.2.2.2.2) = (r1.map (am_rv G.2.2.2.2)).toList ++ t.map (am_rv G.2.2.2.2) := by cases r1 <;> rfl
              rw [ev] at K2
              exact K2
            refine fin ?_
            have hsz : (F0 m q lsR ((as.reverse ++ t).map (am_rv G.2.2.2.2))).locals.size = am_n k 0 := hI.1.1
            have hwt : 2 * (F0 m q lsR ((as.reverse ++ t).map (am_rv G.2.2.2.2))).monitorRoom + ((t.map (am_rv G.2.2.2.2)).map fun v => v.category).sum ≤ 8 := lv_room (by rw [am_wt_ok]; exact e3)
            rcases hinv with ⟨hd, hl, hkd⟩ | ⟨hd, hl, hkd⟩ | ⟨hd, hl, hkd⟩ | ⟨hd, hl, hkd⟩ | ⟨hd, hl, hkd⟩
            · -- a virtual call
              obtain ⟨x1, x2, x3, x4, x5⟩ : Jvm.Cond.instanceMethod (am_y b) ∈ am_TG ∧ Jvm.Cond.selects (am_y b).cls (am_y b) (am_y b) ∈ am_TG ∧ (am_y b).cls = am_R (am_n b 10) ∧ am_n b 10 < 12 ∧ 0 < am_n b 1 := by
                rcases c3 with ⟨e8, -⟩ | ⟨-, e8⟩ | ⟨e8, -⟩
                · omega
                · exact e8
                · omega
              rw [hkd] at c6
              unfold am_rcv at e4
              rw [hkd] at e4
              cases as with
              | nil => cases e4
              | cons v as =>
                rcases v with z1 | z1 | n1
                · cases e4
                · cases e4
                · have e4 : (Nat.beq (am_shp h n1).1 (am_n b 10 + 1) && Nat.ble 1 n1) = true := e4
                  simp only [Bool.and_eq_true] at e4
                  have e8 := am_beq e4.1
                  obtain ⟨n1, rfl⟩ : ∃ w, n1 = w + 1 := ⟨n1 - 1, by have := Nat.le_of_ble_eq_true e4.2; omega⟩
                  obtain ⟨g1, g2, g3⟩ := am_cellR hG hI.2.2.2.2.2 (a := n1) (by rw [e8]; omega)
                  rw [am_cell_obj e8] at g3
                  have hrec := va_recv (q0 := 0) C.2.2.2.2.2.2.1.1 (va_P1 g3) (am_cl_at x4) rfl
                  rw [← x3] at hrec
                  refine va_runV (As := as.map (am_rv G.2.2.2.2)) (C := (am_y b).cls) hCF hM (cwV (am_n b 1 - 1) hts (am_goodIn (fun w hw => ?_)) rfl rfl rfl ⟨rfl, c5.1, c5.2, c6⟩ hRm) ⟨am_FB hSO, hrec, hPU⟩ rfl (by simp only [List.length_map]; simp only [List.length_cons] at e2; omega) hsz ?_ hwt hd hf
                  · unfold wsV at hw
                    rcases List.mem_append.mp hw with hw | hw
                    · simp only [List.mem_cons, List.not_mem_nil, or_false] at hw
                      rcases hw with rfl | rfl | rfl | rfl
                      · exact hl
                      · exact x1
                      · exact x2
                      · exact c2
                    · exact am_mws_in c1 w hw
                  · simp [am_rv]
            · obtain ⟨x1, x2, x3, x5⟩ : Jvm.Cond.instanceMethod (am_y b) ∈ am_TG ∧ (am_y b).name = "<init>" ∧ am_n b 2 = 0 ∧ 0 < am_n b 1 := by
                rcases c3 with ⟨e8, -⟩ | ⟨e8, -⟩ | ⟨-, e8⟩
                · omega
                · omega
                · exact e8
              have hft : am_ft b = none := by
                rcases c4 with ⟨e1, e2⟩ | ⟨e1, e2⟩ | ⟨e1, e2⟩ | ⟨e1, e2⟩ | ⟨e1, e2⟩ <;> first | exact e2 | omega
              rw [hkd] at c6
              unfold am_rcv at e4
              rw [hkd] at e4
              cases as with
              | nil => cases e4
              | cons v as =>
                rcases v with z1 | z1 | n1
                · cases e4
                · cases e4
                · refine va_runI (b := G.2.2.2.2 n1) (As := as.map (am_rv G.2.2.2.2)) hCF hM (cwI (am_n b 1 - 1) hts hgood (by unfold am_mws; rw [hft]) rfl rfl (hts _ c2) (hts _ hl) (hts _ x1) x2 ⟨c5.1, c5.2, c6⟩ hRm) ⟨am_FB hSO, hPU⟩ rfl (by simp only [List.length_map]; simp only [List.length_cons] at e2; omega) hsz ?_ hwt hd hf
                  simp [am_rv]
            · obtain ⟨x1⟩ : Jvm.Cond.static (am_y b) ∈ am_TG ∧ True := by
                rcases c3 with ⟨-, e8⟩ | ⟨e8, -⟩ | ⟨e8, -⟩
                · exact ⟨e8, trivial⟩
                · omega
                · omega
              rw [hkd] at c6
              have hcb : CallB R s args (am_y k).cls a (am_y b) (am_bs b) (am_n b 0) (am_ft b) (am_mws b) (am_mrm h h1 d') (h1.1.length - h.1.length) (am_sl h1.1 - am_sl h.1) (am_n b 1) := callB_of (am_n b 1) hts hgood rfl rfl rfl (hts _ c2) (hts _ hl) ⟨c5.1, c5.2, c6⟩ hRm
              refine va_runS (As := as.map (am_rv G.2.2.2.2)) hCF hM ⟨hcb, hts _ x1⟩ ⟨am_FB hSO, hPU⟩ rfl (by rw [List.length_map]; exact e2) hsz ?_ hwt hd hf
              simp
            · obtain ⟨x1, x2, x3, x5⟩ : Jvm.Cond.instanceMethod (am_y b) ∈ am_TG ∧ (am_y b).name = "<init>" ∧ am_n b 2 = 0 ∧ 0 < am_n b 1 := by
                rcases c3 with ⟨e8, -⟩ | ⟨e8, -⟩ | ⟨-, e8⟩
                · omega
                · omega
                · exact e8
              have hft : am_ft b = none := by
                rcases c4 with ⟨e1, e2⟩ | ⟨e1, e2⟩ | ⟨e1, e2⟩ | ⟨e1, e2⟩ | ⟨e1, e2⟩ <;> first | exact e2 | omega
              rw [hkd] at c6
              unfold am_rcv at e4
              rw [hkd] at e4
              cases as with
              | nil => cases e4
              | cons v as =>
                rcases v with z1 | z1 | n1
                · cases e4
                · cases e4
                · refine va_runIN (b := G.2.2.2.2 n1) (As := as.map (am_rv G.2.2.2.2)) hCF hM ⟨va_cnB (am_n b 1 - 1) hts hgood (by unfold am_mws; rw [hft]) rfl rfl (C.2.2.2.2.2.2.1.2 _ _ _ _ hl) (hts _ c2) ⟨c5.1, c5.2, c6⟩ hRm, x2, hts _ x1⟩ ⟨am_FB hSO, hPU⟩ rfl (by simp only [List.length_map]; simp only [List.length_cons] at e2; omega) hsz ?_ hwt hd hf
                  simp [am_rv]
            · obtain ⟨x1⟩ : Jvm.Cond.static (am_y b) ∈ am_TG ∧ True := by
                rcases c3 with ⟨-, e8⟩ | ⟨e8, -⟩ | ⟨e8, -⟩
                · exact ⟨e8, trivial⟩
                · omega
                · omega
              rw [hkd] at c6
              refine va_runSN (As := as.map (am_rv G.2.2.2.2)) hCF hM ⟨va_cnB (am_n b 1) hts hgood rfl rfl rfl (C.2.2.2.2.2.2.1.2 _ _ _ _ hl) (hts _ c2) ⟨c5.1, c5.2, c6⟩ hRm, hts _ x1, trivial⟩ ⟨am_FB hSO, hPU⟩ rfl (by rw [List.length_map]; exact e2) hsz ?_ hwt hd hf
              simp
          next => cases hr
        next => cases hr
      next hcall =>
        split at hr
        next q' ls' st' h2 hs =>
          have m1 := am_step_mono hs
          have m2 := am_run_mono hr
          exact am_simS hSO (d := d) (hz := h') hc hs C hX hk0 hs0 m2.1 m2.2 hRc hRs hF hL (IH hr hk C hX (Nat.le_trans hk0 m1.1) (Nat.le_trans hs0 m1.2) hRc hRs hF hL Kr)
        next => cases hr
