
section AMS
variable {p : Program} {l : Launch} {e : Env} {R : Room} {s : State} {m : MethodId} {args : Array Value} {below : List Frame} {meth : Method} {c : Code} {G : am_G} {k k0 s0 : Nat} {Q : State → Prop} {q q' : Nat} {ls ls' : am_L} {st st' : List am_V} {h h' : am_H} {lo a b cc : Nat} {z : Int} {sw : List (Int × Nat)}
theorem am_at {lsR : Array Slot} {H : Heap} {v : am_V} {i : Nat} (hI : am_Iv G k ls st h lsR s H) (hg : am_get ls i = some v) : lsR[i]? = some (.val (am_rv G.2.2.2.2 v)) := by
  have h1 := hI.1.2.2 _ (am_get_mem (ph := G.2.2.2.2) (j := 0) hg)
  simpa using h1
theorem am_s1 (C : am_Cx p l e R s m args below meth c G k) (hc : am_chk k q (1, lo, a, b, cc, z, sw) = true) (hs : am_b1 lo z q ls st h = some (q', ls', st', h')) (K : am_Go p l e R s m args below meth c G k k0 s0 Q q' ls' st' h') : am_Go p l e R s m args below meth c G k k0 s0 Q q ls st h := by
  intro lsR H locs hI hS
  obtain ⟨hx, hb, hml, hown, hts, -, -, -⟩ := C
  cases hs
  simp only [am_chk, Bool.and_eq_true, decide_eq_true_eq] at hc
  obtain ⟨hz, hc⟩ := hc
  have K2 := K lsR H locs (hI.cons (fun _ h => h) hz) hS
  split at hc
  · simp only [Bool.and_eq_true] at hc
    obtain ⟨hd, hl⟩ := hc
    have e1 := am_beq hl; subst e1
    exact lv_iconst hx hb (am_D_ok hd) rfl K2
  · simp only [Bool.and_eq_true, decide_eq_true_eq] at hc
    obtain ⟨⟨hd, hl⟩, hv⟩ := hc
    have e1 := am_beq hl; subst e1
    exact lv_bipush hx hb (am_D_ok hd) hv K2
  · simp only [Bool.and_eq_true, decide_eq_true_eq] at hc
    obtain ⟨⟨hd, hl⟩, hv⟩ := hc
    have e1 := am_beq hl; subst e1
    exact lv_sipush hx hb (am_D_ok hd) hv K2
  · simp only [Bool.and_eq_true] at hc
    obtain ⟨⟨hd, hl⟩, hv⟩ := hc
    have e1 := am_beq hl; subst e1
    exact lv_ldc hx hb hown (hts _ (am_okW_in hv)) (am_D_ok hd) K2
  · simp only [Bool.and_eq_true] at hc
    obtain ⟨⟨hd, hl⟩, hv⟩ := hc
    have e1 := am_beq hl; subst e1
    exact lv_ldcw hx hb hown (hts _ (am_okW_in hv)) (am_D_ok hd) K2

theorem am_s2 (C : am_Cx p l e R s m args below meth c G k) (hc : am_chk k q (2, lo, a, b, cc, z, sw) = true) (hs : am_b2 lo a q ls st h = some (q', ls', st', h')) (K : am_Go p l e R s m args below meth c G k k0 s0 Q q' ls' st' h') : am_Go p l e R s m args below meth c G k k0 s0 Q q ls st h := by
  intro lsR H locs hI hS
  obtain ⟨hx, hb, hml, hown, hts, -, -, -⟩ := C
  unfold am_b2 at hs
  split at hs
  next y hg =>
    cases hs
    have hy : am_okv (.inl y) := hI.2.2.1 _ (am_get_in hg)
    have K2 := K lsR H locs (hI.cons (fun _ h => h) hy) hS
    simp only [am_chk] at hc
    split at hc
    · simp only [Bool.and_eq_true] at hc
      exact lv_iload_n hx hb (am_D_ok hc.1) (am_fin (am_blt hc.2)) (am_at hI hg) K2
    · simp only [Bool.and_eq_true] at hc
      have e1 := am_beq hc.2; subst e1
      exact lv_iload hx hb (am_D_ok hc.1) (am_at hI hg) K2
  next => cases hs

theorem am_s4 (C : am_Cx p l e R s m args below meth c G k) (hc : am_chk k q (4, lo, a, b, cc, z, sw) = true) (hs : am_b4 lo a q ls st h = some (q', ls', st', h')) (K : am_Go p l e R s m args below meth c G k k0 s0 Q q' ls' st' h') : am_Go p l e R s m args below meth c G k k0 s0 Q q ls st h := by
  intro lsR H locs hI hS
  obtain ⟨hx, hb, hml, hown, hts, -, -, -⟩ := C
  unfold am_b4 at hs
  split at hs
  next y hg =>
    cases hs
    have hy : am_okv (.inr (.inr y)) := hI.2.2.1 _ (am_get_in hg)
    have K2 := K lsR H locs (hI.cons (fun _ h => h) hy) hS
    simp only [am_chk] at hc
    split at hc
    · simp only [Bool.and_eq_true] at hc
      exact lv_aload_n hx hb (am_D_ok hc.1) (am_fin (am_blt hc.2)) (am_at hI hg) K2
    · simp only [Bool.and_eq_true] at hc
      have e1 := am_beq hc.2; subst e1
      exact lv_aload hx hb (am_D_ok hc.1) (am_at hI hg) K2
  next => cases hs

theorem am_s31 (C : am_Cx p l e R s m args below meth c G k) (hc : am_chk k q (31, lo, a, b, cc, z, sw) = true) (hs : am_b31 lo a q ls st h = some (q', ls', st', h')) (K : am_Go p l e R s m args below meth c G k k0 s0 Q q' ls' st' h') : am_Go p l e R s m args below meth c G k k0 s0 Q q ls st h := by
  intro lsR H locs hI hS
  obtain ⟨hx, hb, hml, hown, hts, -, -, -⟩ := C
  unfold am_b31 at hs
  split at hs
  next y hg =>
    cases hs
    have hy : am_okv (.inr (.inl y)) := hI.2.2.1 _ (am_get_in hg)
    have K2 := K lsR H locs (hI.cons (fun _ h => h) hy) hS
    simp only [am_chk] at hc
    split at hc
    · simp only [Bool.and_eq_true] at hc
      exact lv_lload_n hx hb (am_D_ok hc.1) (am_fin (am_blt hc.2)) (am_at hI hg) K2
    · simp only [Bool.and_eq_true] at hc
      have e1 := am_beq hc.2; subst e1
      exact lv_lload hx hb (am_D_ok hc.1) (am_at hI hg) K2
  next => cases hs

theorem am_s3 (C : am_Cx p l e R s m args below meth c G k) (hc : am_chk k q (3, lo, a, b, cc, z, sw) = true) (hs : am_b3 lo a cc q ls st h = some (q', ls', st', h')) (K : am_Go p l e R s m args below meth c G k k0 s0 Q q' ls' st' h') : am_Go p l e R s m args below meth c G k k0 s0 Q q ls st h := by
  intro lsR H locs hI hS
  obtain ⟨hx, hb, hml, hown, hts, -, -, -⟩ := C
  unfold am_b3 at hs
  split at hs
  next y t =>
    cases hs
    have hy : am_okv (.inl y) := hI.2.1 _ List.mem_cons_self
    simp only [am_chk, Bool.and_eq_true] at hc
    obtain ⟨h0, hc⟩ := hc
    obtain ⟨ha, hlg⟩ := am_st_ok h0
    have K2 : ∀ lsR' : Array Slot, lv_has lsR' (am_n k 0) ((a, am_rv G.2.2.2.2 (.inl y)) :: (am_ll G.2.2.2.2 0 ls).filter (fun q => !(q.1 == a) && !(q.1 + 1 == a && q.2.category == 2))) → W p l e R s m args below meth c H locs (h.1.length - k0) (am_sl h.1 - s0) Q (F0 m (q + lo) lsR' _) := fun lsR' hl' => K lsR' H locs (hI.sto (fun _ h => List.mem_cons_of_mem _ h) hy (fun _ => rfl) (am_has1 (v := .inl y) rfl (fun e => hI.2.2.2.1 (hlg e)) hl')) hS
    split at hc
    · simp only [Bool.and_eq_true] at hc
      exact lv_istore_n hx hb (am_D_ok hc.1) (am_fin (am_blt hc.2)) hI.1 ha rfl K2
    · simp only [Bool.and_eq_true] at hc
      have e1 := am_beq hc.2; subst e1
      exact lv_istore hx hb (am_D_ok hc.1) hI.1 ha rfl K2
  next => cases hs

theorem am_s5 (C : am_Cx p l e R s m args below meth c G k) (hc : am_chk k q (5, lo, a, b, cc, z, sw) = true) (hs : am_b5 lo a cc q ls st h = some (q', ls', st', h')) (K : am_Go p l e R s m args below meth c G k k0 s0 Q q' ls' st' h') : am_Go p l e R s m args below meth c G k k0 s0 Q q ls st h := by
  intro lsR H locs hI hS
  obtain ⟨hx, hb, hml, hown, hts, -, -, -⟩ := C
  unfold am_b5 at hs
  split at hs
  next y t =>
    cases hs
    have hy : am_okv (.inr (.inr y)) := hI.2.1 _ List.mem_cons_self
    simp only [am_chk, Bool.and_eq_true] at hc
    obtain ⟨h0, hc⟩ := hc
    obtain ⟨ha, hlg⟩ := am_st_ok h0
    have K2 : ∀ lsR' : Array Slot, lv_has lsR' (am_n k 0) ((a, am_rv G.2.2.2.2 (.inr (.inr y))) :: (am_ll G.2.2.2.2 0 ls).filter (fun q => !(q.1 == a) && !(q.1 + 1 == a && q.2.category == 2))) → W p l e R s m args below meth c H locs (h.1.length - k0) (am_sl h.1 - s0) Q (F0 m (q + lo) lsR' _) := fun lsR' hl' => K lsR' H locs (hI.sto (fun _ h => List.mem_cons_of_mem _ h) hy (fun _ => rfl) (am_has1 (v := .inr (.inr y)) rfl (fun e => hI.2.2.2.1 (hlg e)) hl')) hS
    split at hc
    · simp only [Bool.and_eq_true] at hc
      exact lv_astore_n hx hb (am_D_ok hc.1) (am_fin (am_blt hc.2)) hI.1 ha rfl K2
    · simp only [Bool.and_eq_true] at hc
      have e1 := am_beq hc.2; subst e1
      exact lv_astore hx hb (am_D_ok hc.1) hI.1 ha rfl K2
  next => cases hs

theorem am_s32 (C : am_Cx p l e R s m args below meth c G k) (hc : am_chk k q (32, lo, a, b, cc, z, sw) = true) (hs : am_b32 lo a cc q ls st h = some (q', ls', st', h')) (K : am_Go p l e R s m args below meth c G k k0 s0 Q q' ls' st' h') (hlg : am_n k 4 = 0 → False) : am_Go p l e R s m args below meth c G k k0 s0 Q q ls st h := by
  intro lsR H locs hI hS
  obtain ⟨hx, hb, hml, hown, hts, -, -, -⟩ := C
  unfold am_b32 at hs
  split at hs
  next y t =>
    cases hs
    have hy : am_okv (.inr (.inl y)) := hI.2.1 _ List.mem_cons_self
    simp only [am_chk, Bool.and_eq_true] at hc
    obtain ⟨⟨⟨h0, h1⟩, -⟩, hc⟩ := hc
    have hcc : cc ≠ 0 := by rw [am_beq h1]; omega
    have K2 : ∀ lsR' : Array Slot, lv_has lsR' (am_n k 0) ((a, am_rv G.2.2.2.2 (.inr (.inl y))) :: (am_ll G.2.2.2.2 0 ls).filter (fun q => !(q.1 == a) && (!(q.1 == a + 1) && !(q.1 + 1 == a && q.2.category == 2)))) → W p l e R s m args below meth c H locs (h.1.length - k0) (am_sl h.1 - s0) Q (F0 m (q + lo) lsR' _) := fun lsR' hl' => K lsR' H locs (hI.sto (fun _ h => List.mem_cons_of_mem _ h) hy (fun e => (hlg e).elim) (am_has2 (v := .inr (.inl y)) rfl hcc hl')) hS
    split at hc
    · simp only [Bool.and_eq_true] at hc
      exact lv_lstore_n hx hb (am_D_ok hc.1) (am_fin (am_blt hc.2)) hI.1 (am_blt h0) rfl K2
    · simp only [Bool.and_eq_true] at hc
      have e1 := am_beq hc.2; subst e1
      exact lv_lstore hx hb (am_D_ok hc.1) hI.1 (am_blt h0) rfl K2
  next => cases hs
theorem am_s6 (C : am_Cx p l e R s m args below meth c G k) (hc : am_chk k q (6, lo, a, b, cc, z, sw) = true) (hs : am_b6 a cc z q ls st h = some (q', ls', st', h')) (K : am_Go p l e R s m args below meth c G k k0 s0 Q q' ls' st' h') : am_Go p l e R s m args below meth c G k k0 s0 Q q ls st h := by
  intro lsR H locs hI hS
  obtain ⟨hx, hb, hml, hown, hts, -, -, -⟩ := C
  unfold am_b6 at hs
  split at hs
  next y hg =>
    cases hs
    simp only [am_chk, Bool.and_eq_true] at hc
    obtain ⟨h0, hc⟩ := hc
    obtain ⟨ha, hlg⟩ := am_st_ok h0
    have hv : Int32.ofInt y + Int32.ofInt z = Int32.ofInt (am_add y z) := by rw [am_add, Int32.ofInt_toInt]
    have hm := am_get_mem (ph := G.2.2.2.2) (j := 0) hg
    rw [Nat.zero_add] at hm
    obtain ⟨n, hn⟩ := List.getElem?_of_mem hm
    refine lv_iinc hx hb (am_D_ok hc) hI.1 hn hv ha rfl fun lsR' hl' => K lsR' H locs (hI.sto (fun _ h => h) (am_ok32 _) (fun _ => rfl) (am_has1 (v := .inl (am_add y z)) rfl (fun e => hI.2.2.2.1 (hlg e)) hl')) hS
  next => cases hs
theorem am_sbb (f : Int → Int → Int) (F : Int32 → Int32 → Int32) (hf : ∀ x y, f x y = (F (Int32.ofInt x) (Int32.ofInt y)).toInt)
    (row : ∀ {H : Heap} {locs : List Loc} {cells slots : Nat} {lsR : Array Slot} {rest : List Value} {x y : Int32}, W p l e R s m args below meth c H locs cells slots Q (F0 m (q + 1) lsR (.int (F x y) :: rest)) → W p l e R s m args below meth c H locs cells slots Q (F0 m q lsR (.int y :: .int x :: rest)))
    (hs : am_bb f q ls st h = some (q', ls', st', h')) (K : am_Go p l e R s m args below meth c G k k0 s0 Q q' ls' st' h') : am_Go p l e R s m args below meth c G k k0 s0 Q q ls st h := by
  intro lsR H locs hI hS
  unfold am_bb at hs
  split at hs
  next y x t =>
    cases hs
    refine row ?_
    have K2 := K lsR H locs (hI.cons (fun _ h => List.mem_cons_of_mem _ (List.mem_cons_of_mem _ h)) (by rw [hf]; exact am_ok32 _)) hS
    rw [hf] at K2
    simp only [List.map_cons, am_rv, Int32.ofInt_toInt] at K2
    exact K2
  next => cases hs
theorem am_sbd (f : Int → Int → Int) (F : Int32 → Int32 → Int32) (hf : ∀ x y, f x y = (F (Int32.ofInt x) (Int32.ofInt y)).toInt)
    (row : ∀ {H : Heap} {locs : List Loc} {cells slots : Nat} {lsR : Array Slot} {rest : List Value} {x y : Int32}, ¬ y = 0 → W p l e R s m args below meth c H locs cells slots Q (F0 m (q + 1) lsR (.int (F x y) :: rest)) → W p l e R s m args below meth c H locs cells slots Q (F0 m q lsR (.int y :: .int x :: rest)))
    (hs : am_bd f q ls st h = some (q', ls', st', h')) (K : am_Go p l e R s m args below meth c G k k0 s0 Q q' ls' st' h') : am_Go p l e R s m args below meth c G k k0 s0 Q q ls st h := by
  intro lsR H locs hI hS
  unfold am_bd at hs
  split at hs
  next y x t =>
    split at hs
    next => cases hs
    next hy =>
      cases hs
      have hy2 : am_okv (.inl y) := hI.2.1 _ List.mem_cons_self
      refine row (fun e => hy ((am_eq32 hy2 am_z32).mp e)) ?_
      have K2 := K lsR H locs (hI.cons (fun _ h => List.mem_cons_of_mem _ (List.mem_cons_of_mem _ h)) (by rw [hf]; exact am_ok32 _)) hS
      rw [hf] at K2
      simp only [List.map_cons, am_rv, Int32.ofInt_toInt] at K2
      exact K2
  next => cases hs
theorem am_sbl (f : Int → Int → Int) (F : Int64 → Int64 → Int64) (hf : ∀ x y, f x y = (F (Int64.ofInt x) (Int64.ofInt y)).toInt)
    (row : ∀ {H : Heap} {locs : List Loc} {cells slots : Nat} {lsR : Array Slot} {rest : List Value} {x y : Int64}, W p l e R s m args below meth c H locs cells slots Q (F0 m (q + 1) lsR (.long (F x y) :: rest)) → W p l e R s m args below meth c H locs cells slots Q (F0 m q lsR (.long y :: .long x :: rest)))
    (hs : am_bl f q ls st h = some (q', ls', st', h')) (K : am_Go p l e R s m args below meth c G k k0 s0 Q q' ls' st' h') : am_Go p l e R s m args below meth c G k k0 s0 Q q ls st h := by
  intro lsR H locs hI hS
  unfold am_bl at hs
  split at hs
  next y x t =>
    cases hs
    refine row ?_
    have K2 := K lsR H locs (hI.cons (fun _ h => List.mem_cons_of_mem _ (List.mem_cons_of_mem _ h)) (by rw [hf]; exact am_ok64 _)) hS
    rw [hf] at K2
    simp only [List.map_cons, am_rv, Int64.ofInt_toInt] at K2
    exact K2
  next => cases hs
theorem am_sble (f : Int → Int → Int) (F : Int64 → Int64 → Int64) (hf : ∀ x y, f x y = (F (Int64.ofInt x) (Int64.ofInt y)).toInt)
    (row : ∀ {H : Heap} {locs : List Loc} {cells slots : Nat} {lsR : Array Slot} {rest : List Value} {x y : Int64}, ¬ y = 0 → W p l e R s m args below meth c H locs cells slots Q (F0 m (q + 1) lsR (.long (F x y) :: rest)) → W p l e R s m args below meth c H locs cells slots Q (F0 m q lsR (.long y :: .long x :: rest)))
    (hs : am_ble f q ls st h = some (q', ls', st', h')) (K : am_Go p l e R s m args below meth c G k k0 s0 Q q' ls' st' h') : am_Go p l e R s m args below meth c G k k0 s0 Q q ls st h := by
  intro lsR H locs hI hS
  unfold am_ble at hs
  split at hs
  next y x t =>
    split at hs
    next => cases hs
    next hy =>
      cases hs
      have hy2 : am_okv (.inr (.inl y)) := hI.2.1 _ List.mem_cons_self
      refine row (fun e => hy ?_) ?_
      · have e2 := am_to64 hy2
        rw [e] at e2
        rw [← e2]; rfl
      · have K2 := K lsR H locs (hI.cons (fun _ h => List.mem_cons_of_mem _ (List.mem_cons_of_mem _ h)) (by rw [hf]; exact am_ok64 _)) hS
        rw [hf] at K2
        simp only [List.map_cons, am_rv, Int64.ofInt_toInt] at K2
        exact K2
  next => cases hs
theorem am_s16 (C : am_Cx p l e R s m args below meth c G k) (hc : am_chk k q (16, lo, a, b, cc, z, sw) = true) (hs : am_b16 q ls st h = some (q', ls', st', h')) (K : am_Go p l e R s m args below meth c G k k0 s0 Q q' ls' st' h') : am_Go p l e R s m args below meth c G k k0 s0 Q q ls st h := by
  intro lsR H locs hI hS
  obtain ⟨hx, hb, hml, hown, hts, -, -, -⟩ := C
  unfold am_b16 at hs
  split at hs
  next x t =>
    cases hs
    refine lv_ineg hx hb (am_D_ok hc) ?_
    have K2 := K lsR H locs (hI.cons (fun _ h => List.mem_cons_of_mem _ h) (am_ok32 _)) hS
    simp only [List.map_cons, am_rv, am_neg, Int32.ofInt_toInt] at K2
    exact K2
  next => cases hs
theorem am_sj1 (f : Int → Bool) (P : Int32 → Prop) (hf : ∀ x, am_okv (.inl x) → (P (Int32.ofInt x) ↔ f x = true))
    (row : ∀ {H : Heap} {locs : List Loc} {cells slots : Nat} {lsR : Array Slot} {rest : List Value} {x : Int32}, (P x → W p l e R s m args below meth c H locs cells slots Q (F0 m a lsR rest)) → (¬ P x → W p l e R s m args below meth c H locs cells slots Q (F0 m (q + 3) lsR rest)) → W p l e R s m args below meth c H locs cells slots Q (F0 m q lsR (.int x :: rest)))
    (hs : am_j1 f a q ls st h = some (q', ls', st', h')) (K : am_Go p l e R s m args below meth c G k k0 s0 Q q' ls' st' h') : am_Go p l e R s m args below meth c G k k0 s0 Q q ls st h := by
  intro lsR H locs hI hS
  unfold am_j1 at hs
  split at hs
  next x t =>
    cases hs
    have hx2 := hf x (hI.2.1 _ List.mem_cons_self)
    have K2 := K lsR H locs (hI.less (fun _ h => List.mem_cons_of_mem _ h)) hS
    refine row (fun e => ?_) (fun e => ?_)
    · rw [hx2.mp e] at K2
      exact K2
    · rw [Bool.eq_false_iff.mpr (fun w => e (hx2.mpr w))] at K2
      exact K2
  next => cases hs
theorem am_sj2 (f : Int → Int → Bool) (P : Int32 → Int32 → Prop) (hf : ∀ x y, am_okv (.inl x) → am_okv (.inl y) → (P (Int32.ofInt x) (Int32.ofInt y) ↔ f x y = true))
    (row : ∀ {H : Heap} {locs : List Loc} {cells slots : Nat} {lsR : Array Slot} {rest : List Value} {x y : Int32}, (P x y → W p l e R s m args below meth c H locs cells slots Q (F0 m a lsR rest)) → (¬ P x y → W p l e R s m args below meth c H locs cells slots Q (F0 m (q + 3) lsR rest)) → W p l e R s m args below meth c H locs cells slots Q (F0 m q lsR (.int y :: .int x :: rest)))
    (hs : am_j2 f a q ls st h = some (q', ls', st', h')) (K : am_Go p l e R s m args below meth c G k k0 s0 Q q' ls' st' h') : am_Go p l e R s m args below meth c G k k0 s0 Q q ls st h := by
  intro lsR H locs hI hS
  unfold am_j2 at hs
  split at hs
  next y x t =>
    cases hs
    have hx2 := hf x y (hI.2.1 _ (List.mem_cons_of_mem _ List.mem_cons_self)) (hI.2.1 _ List.mem_cons_self)
    have K2 := K lsR H locs (hI.less (fun _ h => List.mem_cons_of_mem _ (List.mem_cons_of_mem _ h))) hS
    refine row (fun e => ?_) (fun e => ?_)
    · rw [hx2.mp e] at K2
      exact K2
    · rw [Bool.eq_false_iff.mpr (fun w => e (hx2.mpr w))] at K2
      exact K2
  next => cases hs
theorem am_lcmp_ok {x y : Int} : am_okv (.inl (am_lcmp x y)) := by
  unfold am_lcmp
  by_cases h1 : y < x
  · rw [if_pos h1]; exact ⟨by omega, by omega⟩
  · rw [if_neg h1]
    by_cases h2 : x = y
    · rw [if_pos h2]; exact ⟨by omega, by omega⟩
    · rw [if_neg h2]; exact ⟨by omega, by omega⟩
theorem am_s38 (C : am_Cx p l e R s m args below meth c G k) (hc : am_chk k q (38, lo, a, b, cc, z, sw) = true) (hs : am_b38 q ls st h = some (q', ls', st', h')) (K : am_Go p l e R s m args below meth c G k k0 s0 Q q' ls' st' h') : am_Go p l e R s m args below meth c G k k0 s0 Q q ls st h := by
  intro lsR H locs hI hS
  obtain ⟨hx, hb, hml, hown, hts, -, -, -⟩ := C
  unfold am_b38 at hs
  split at hs
  next y x t =>
    cases hs
    have hy := am_to64 (hI.2.1 _ List.mem_cons_self)
    have hx3 := am_to64 (hI.2.1 _ (List.mem_cons_of_mem _ List.mem_cons_self))
    have hv : lg_cmp (Int64.ofInt x) (Int64.ofInt y) = Int32.ofInt (am_lcmp x y) := by
      unfold lg_cmp am_lcmp
      simp only [gt_iff_lt, Int64.lt_iff_toInt_lt, ← Int64.toInt_inj, hy, hx3]
      by_cases h1 : y < x
      · rw [if_pos h1, if_pos h1]; rfl
      · rw [if_neg h1, if_neg h1]
        by_cases h2 : x = y
        · rw [if_pos h2, if_pos h2]; rfl
        · rw [if_neg h2, if_neg h2]; rfl
    refine W.lcmp hx hb (am_D_ok hc) ?_
    have K2 := K lsR H locs (hI.cons (fun _ h => List.mem_cons_of_mem _ (List.mem_cons_of_mem _ h)) (v := .inl (am_lcmp x y)) am_lcmp_ok) hS
    rw [hv]
    exact K2
  next => cases hs
theorem am_s39 (C : am_Cx p l e R s m args below meth c G k) (hc : am_chk k q (39, lo, a, b, cc, z, sw) = true) (hs : am_b39 q ls st h = some (q', ls', st', h')) (K : am_Go p l e R s m args below meth c G k k0 s0 Q q' ls' st' h') : am_Go p l e R s m args below meth c G k k0 s0 Q q ls st h := by
  intro lsR H locs hI hS
  obtain ⟨hx, hb, hml, hown, hts, -, -, -⟩ := C
  unfold am_b39 at hs
  split at hs
  next x t =>
    cases hs
    have hx3 : am_okv (.inl x) := hI.2.1 _ List.mem_cons_self
    have hv : (Int32.ofInt x).toInt64 = Int64.ofInt x := by
      apply Int64.toInt_inj.mp
      rw [Int32.toInt_toInt64, am_to32 hx3, Int64.toInt_ofInt_of_le (by have := hx3.1; omega) (by have := hx3.2; omega)]
    refine lv_i2l hx hb (am_D_ok hc) hv ?_
    exact K lsR H locs (hI.cons (fun _ h => List.mem_cons_of_mem _ h) ⟨by have := hx3.1; omega, by have := hx3.2; omega⟩) hS
  next => cases hs
theorem am_cat1 {ph : Nat → Nat} {v : am_V} (h : am_two v = false) : (am_rv ph v).category = 1 := by
  rcases v with z | z | a <;> simp_all [am_two, am_rv, Value.category]
theorem am_s40 (C : am_Cx p l e R s m args below meth c G k) (hc : am_chk k q (40, lo, a, b, cc, z, sw) = true) (hs : am_b40 q ls st h = some (q', ls', st', h')) (K : am_Go p l e R s m args below meth c G k k0 s0 Q q' ls' st' h') : am_Go p l e R s m args below meth c G k k0 s0 Q q ls st h := by
  intro lsR H locs hI hS
  obtain ⟨hx, hb, hml, hown, hts, -, -, -⟩ := C
  unfold am_b40 at hs
  split at hs
  next v t =>
    split at hs
    next hv =>
      cases hs
      exact lv_dup hx hb (am_D_ok hc) (am_cat1 hv) (K lsR H locs (hI.cons (fun _ h => h) (hI.2.1 _ List.mem_cons_self)) hS)
    next => cases hs
  next => cases hs
theorem am_s41 (C : am_Cx p l e R s m args below meth c G k) (hc : am_chk k q (41, lo, a, b, cc, z, sw) = true) (hs : am_b41 q ls st h = some (q', ls', st', h')) (K : am_Go p l e R s m args below meth c G k k0 s0 Q q' ls' st' h') : am_Go p l e R s m args below meth c G k k0 s0 Q q ls st h := by
  intro lsR H locs hI hS
  obtain ⟨hx, hb, hml, hown, hts, -, -, -⟩ := C
  unfold am_b41 at hs
  split at hs
  next v w t =>
    split at hs
    next hv =>
      cases hs
      simp only [Bool.or_eq_false_iff] at hv
      exact lv_dup2_11 hx hb (am_D_ok hc) (am_cat1 hv.1) (am_cat1 hv.2) (K lsR H locs (hI.st (fun u hu => by
        simp only [List.mem_cons] at hu
        rcases hu with rfl | rfl | hu
        · exact hI.2.1 _ List.mem_cons_self
        · exact hI.2.1 _ (List.mem_cons_of_mem _ List.mem_cons_self)
        · exact hI.2.1 _ (by simpa using hu))) hS)
    next => cases hs
  next => cases hs
theorem am_s42 (C : am_Cx p l e R s m args below meth c G k) (hc : am_chk k q (42, lo, a, b, cc, z, sw) = true) (hs : am_b42 q ls st h = some (q', ls', st', h')) (K : am_Go p l e R s m args below meth c G k k0 s0 Q q' ls' st' h') : am_Go p l e R s m args below meth c G k k0 s0 Q q ls st h := by
  intro lsR H locs hI hS
  obtain ⟨hx, hb, hml, hown, hts, -, -, -⟩ := C
  unfold am_b42 at hs
  split at hs
  next v t =>
    split at hs
    next hv =>
      cases hs
      exact lv_pop hx hb (am_D_ok hc) (am_cat1 hv) (K lsR H locs (hI.less (fun _ h => List.mem_cons_of_mem _ h)) hS)
    next => cases hs
  next => cases hs
theorem am_s43 (C : am_Cx p l e R s m args below meth c G k) (hc : am_chk k q (43, lo, a, b, cc, z, sw) = true) (hs : am_b43 (q + 3) q ls st h = some (q', ls', st', h')) (K : am_Go p l e R s m args below meth c G k k0 s0 Q q' ls' st' h') : am_Go p l e R s m args below meth c G k k0 s0 Q q ls st h := by
  intro lsR H locs hI hS
  obtain ⟨hx, hb, hml, hown, hts, -, -, -⟩ := C
  unfold am_b43 at hs
  split at hs
  next v t =>
    cases hs
    exact lv_ifnull hx hb (am_D_ok hc) (K lsR H locs (hI.less (fun _ h => List.mem_cons_of_mem _ h)) hS)
  next => cases hs
theorem am_s44 (C : am_Cx p l e R s m args below meth c G k) (hc : am_chk k q (44, lo, a, b, cc, z, sw) = true) (hs : am_b43 a q ls st h = some (q', ls', st', h')) (K : am_Go p l e R s m args below meth c G k k0 s0 Q q' ls' st' h') : am_Go p l e R s m args below meth c G k k0 s0 Q q ls st h := by
  intro lsR H locs hI hS
  obtain ⟨hx, hb, hml, hown, hts, -, -, -⟩ := C
  unfold am_b43 at hs
  simp only [am_chk, Bool.and_eq_true] at hc
  split at hs
  next v t =>
    cases hs
    exact lv_ifnonnull hx hb (am_D_ok hc.1) (am_tg_ok hc.2) (K lsR H locs (hI.less (fun _ h => List.mem_cons_of_mem _ h)) hS)
  next => cases hs
theorem am_s21 (C : am_Cx p l e R s m args below meth c G k) (hc : am_chk k q (21, lo, a, b, cc, z, sw) = true) (K : am_Go p l e R s m args below meth c G k k0 s0 Q a ls st h) : am_Go p l e R s m args below meth c G k k0 s0 Q q ls st h := by
  intro lsR H locs hI hS
  obtain ⟨hx, hb, hml, hown, hts, -, -, -⟩ := C
  simp only [am_chk, Bool.and_eq_true] at hc
  exact lv_goto hx hb (am_D_ok hc.1) (am_tg_ok hc.2) (K lsR H locs hI hS)
theorem am_s30 (C : am_Cx p l e R s m args below meth c G k) (hc : am_chk k q (30, lo, a, b, cc, z, sw) = true) (K : am_Go p l e R s m args below meth c G k k0 s0 Q (q + lo) ls (.inr (.inl z) :: st) h) : am_Go p l e R s m args below meth c G k k0 s0 Q q ls st h := by
  intro lsR H locs hI hS
  obtain ⟨hx, hb, hml, hown, hts, -, -, -⟩ := C
  simp only [am_chk] at hc
  split at hc
  · simp only [Bool.and_eq_true, decide_eq_true_eq] at hc
    obtain ⟨⟨hd, hl⟩, hv⟩ := hc
    have e1 := am_beq hl; subst e1
    have K2 := K lsR H locs (hI.cons (fun _ h => h) (by rcases hv with rfl | rfl <;> exact ⟨by omega, by omega⟩)) hS
    refine lv_lconst hx hb (am_D_ok hd) (v := Int64.ofInt z) ?_ K2
    rcases hv with rfl | rfl <;> rfl
  · simp only [Bool.and_eq_true, decide_eq_true_eq] at hc
    obtain ⟨⟨⟨hd, hl⟩, hw⟩, hv⟩ := hc
    have e1 := am_beq hl; subst e1
    have K2 := K lsR H locs (hI.cons (fun _ h => h) hv) hS
    exact lv_ldc2 hx hb hown (hts _ (am_okW_in hw)) (am_D_ok hd) K2
theorem am_lsw_ok {d : Nat} {z : Int} (hd : (q : Int) + z = (d : Int)) : ∀ (sw : List (Int × Nat)) (x : Int), (q : Int) + Op.lookupswitch.offset (sw.map (fun p => (p.1, (p.2 : Int) - (q : Int)))) z x = (am_lsw d sw x : Int)
  | [], x => hd
  | r :: sw, x => by
    simp only [List.map_cons, Op.lookupswitch.offset_cons, am_lsw]
    by_cases hx : x = r.1
    · rw [if_pos hx, if_pos (by first | exact hx.symm | exact hx)]
      omega
    · rw [if_neg hx, if_neg (by first | exact fun e => hx e.symm | exact hx)]
      exact am_lsw_ok hd sw x
theorem am_inc_ok : ∀ (sw : List (Int × Nat)), am_inc sw = true → (((sw.map (fun p => (p.1, (p.2 : Int) - (q : Int)))).zip ((sw.map (fun p => (p.1, (p.2 : Int) - (q : Int)))).drop 1)).all (fun (a, next) => decide (a.1 < next.1))) = true
  | [], _ => rfl
  | [r], _ => rfl
  | r :: p :: t, h => by
    simp only [am_inc, Bool.and_eq_true, decide_eq_true_eq] at h
    have ih := am_inc_ok (p :: t) (by simp only [am_inc, Bool.and_eq_true]; exact h.2)
    simp only [List.map_cons, List.drop_succ_cons, List.drop_zero, List.zip_cons_cons, List.all_cons, Bool.and_eq_true, decide_eq_true_eq] at ih ⊢
    exact ⟨h.1, ih⟩
theorem am_s45 (C : am_Cx p l e R s m args below meth c G k) (hc : am_chk k q (45, lo, a, b, cc, z, sw) = true) (hs : am_b45 a sw ls st h = some (q', ls', st', h')) (K : am_Go p l e R s m args below meth c G k k0 s0 Q q' ls' st' h') : am_Go p l e R s m args below meth c G k k0 s0 Q q ls st h := by
  intro lsR H locs hI hS
  obtain ⟨hx, hb, hml, hown, hts, -, -, -⟩ := C
  simp only [am_chk, Bool.and_eq_true] at hc
  unfold am_b45 at hs
  split at hs
  next x t =>
    cases hs
    have hx3 := am_to32 (hI.2.1 _ List.mem_cons_self)
    refine lv_lookup hx hb (am_D_ok hc.1.1) ?_ rfl ?_ (K lsR H locs (hI.less (fun _ h => List.mem_cons_of_mem _ h)) hS)
    · simpa using am_inc_ok sw hc.2
    · rw [hx3]
      exact am_lsw_ok (am_tg_ok hc.1.2) sw x
  next => cases hs
theorem am_tsw_out {d : Nat} : ∀ (sw : List (Int × Nat)) (i x : Int), (x < i ∨ i + sw.length ≤ x) → am_tsw d sw i x = d
  | [], i, x, _ => rfl
  | r :: sw, i, x, h => by
    simp only [List.length_cons] at h
    simp only [am_tsw]
    rw [if_neg (by omega)]
    exact am_tsw_out sw (i + 1) x (by omega)
theorem am_tsw_in {d : Nat} : ∀ (sw : List (Int × Nat)) (i x : Int) (n : Nat), x = i + n → n < sw.length → ∃ r, sw[n]? = some r ∧ am_tsw d sw i x = r.2
  | [], i, x, n, _, h => by simp at h
  | r :: sw, i, x, n, hx, hn => by
    simp only [am_tsw]
    cases n with
    | zero => exact ⟨r, rfl, by rw [if_pos (by omega)]⟩
    | succ n =>
      rw [if_neg (by omega)]
      obtain ⟨r', h1, h2⟩ := am_tsw_in sw (i + 1) x n (by omega) (by simpa using hn)
      exact ⟨r', by simpa using h1, h2⟩
theorem am_s46 (C : am_Cx p l e R s m args below meth c G k) (hc : am_chk k q (46, lo, a, b, cc, z, sw) = true) (hs : am_b46 a z sw ls st h = some (q', ls', st', h')) (K : am_Go p l e R s m args below meth c G k k0 s0 Q q' ls' st' h') : am_Go p l e R s m args below meth c G k k0 s0 Q q ls st h := by
  intro lsR H locs hI hS
  obtain ⟨hx, hb, hml, hown, hts, -, -, -⟩ := C
  simp only [am_chk, Bool.and_eq_true] at hc
  obtain ⟨⟨hd, hn⟩, hall⟩ := hc
  have hn := am_beq hn
  unfold am_b46 at hs
  split at hs
  next x t =>
    cases hs
    have hx3 := am_to32 (hI.2.1 _ List.mem_cons_self)
    have K2 := K lsR H locs (hI.less (fun _ h => List.mem_cons_of_mem _ h)) hS
    by_cases hr : x < z ∨ z + (sw.length : Int) ≤ x
    · rw [am_tsw_out sw z x hr] at K2
      exact lv_tableOut hx hb (am_D_ok hd) (by rw [hx3]; omega) (by omega) K2
    · obtain ⟨r, h1, h2⟩ := am_tsw_in (d := a) sw z x (x - z).toNat (by omega) (by omega)
      rw [h2] at K2
      refine lv_tableIn (off := r.1) hx hb (am_D_ok hd) (by rw [hx3]; omega) (by rw [hx3]; omega) ?_ (am_tg_ok (List.all_eq_true.mp hall r (List.mem_of_getElem? h1))) K2
      rw [hx3]
      simp [h1]
  next => cases hs
end AMS
