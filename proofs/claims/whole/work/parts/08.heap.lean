
theorem am_chkC_ok {c : Nat} (hc : c < 12) : am_chkC c = true := List.all_eq_true.mp am_ckC c (List.mem_range.mpr hc)
theorem am_lay_in {c : Nat} (hc : c < 12) : ∀ w ∈ u_ws (am_R c) (am_T c) (am_N c), w ∈ am_TG := by
  intro w hw
  obtain ⟨k, hk, rfl⟩ := List.mem_map.mp hw
  have h := am_chkC_ok hc
  simp only [am_chkC, Bool.and_eq_true] at h
  have h2 := List.all_eq_true.mp h.1.1 k hk
  simp only [Bool.and_eq_true] at h2
  exact am_okW_in h2.1.1.1
def am_ty (c k : Nat) : FieldType := (parseFieldDescriptor (am_T c k).2.2.1).getD .int
theorem am_ty_ok {c : Nat} (hc : c < 12) : ∀ k, k < am_N c → parseFieldDescriptor (am_T c k).2.2.1 = some (am_ty c k) := by
  intro k hk
  have h := am_chkC_ok hc
  simp only [am_chkC, Bool.and_eq_true] at h
  have h2 := List.all_eq_true.mp h.1.1 k (List.mem_range.mpr hk)
  simp only [Bool.and_eq_true] at h2
  obtain ⟨ty, hty⟩ := Option.isSome_iff_exists.mp h2.1.1.2
  rw [am_ty, hty]; rfl
theorem am_nm_ok {c : Nat} (hc : c < 12) : ∀ a, a < am_N c → ∀ b, b < am_N c → a ≠ b → (am_T c a).2.1 ≠ (am_T c b).2.1 := by
  intro a ha b hb hab
  have h := am_chkC_ok hc
  simp only [am_chkC, Bool.and_eq_true] at h
  have h2 := List.all_eq_true.mp h.1.1 a (List.mem_range.mpr ha)
  simp only [Bool.and_eq_true] at h2
  have h3 := List.all_eq_true.mp h2.2 b (List.mem_range.mpr hb)
  rcases Bool.or_eq_true_iff.mp h3 with h4 | h4
  · exact absurd (am_beq h4) hab
  · exact of_decide_eq_true h4
theorem am_tyR {c k : Nat} (hc : c < 12) (hk : k < am_N c) (hr : am_isr c k = true) : (∃ n, am_ty c k = .object n) ∨ ∃ t, am_ty c k = .array t := by
  have h := am_chkC_ok hc
  simp only [am_chkC, Bool.and_eq_true] at h
  have h2 := List.all_eq_true.mp h.1.1 k (List.mem_range.mpr hk)
  simp only [Bool.and_eq_true] at h2
  have h3 := h2.1.2
  have h4 := am_ty_ok hc k hk
  rw [h4] at h3
  split at h3
  next ty heq => exact Or.inl ⟨_, Option.some.inj heq⟩
  next ty heq => exact Or.inr ⟨_, Option.some.inj heq⟩
  next heq => rw [hr] at h3; cases h3
  next heq => rw [hr] at h3; cases h3
  next => cases h3
theorem am_tyI {c k : Nat} (hc : c < 12) (hk : k < am_N c) (hr : am_isr c k = false) : am_ty c k = .int ∨ am_ty c k = .boolean := by
  have h := am_chkC_ok hc
  simp only [am_chkC, Bool.and_eq_true] at h
  have h2 := List.all_eq_true.mp h.1.1 k (List.mem_range.mpr hk)
  simp only [Bool.and_eq_true] at h2
  have h3 := h2.1.2
  have h4 := am_ty_ok hc k hk
  rw [h4] at h3
  split at h3
  next ty heq => rw [hr] at h3; cases h3
  next ty heq => rw [hr] at h3; cases h3
  next heq => exact Or.inl (Option.some.inj heq)
  next heq => exact Or.inr (Option.some.inj heq)
  next => cases h3
def am_flds (G : am_G) (h : am_H) (n c : Nat) : List Value := (List.range (am_shp h n).2).map (fun j => am_fv G.2.2.2.2 (am_isr c j) (h.2.1 n j) (h.2.2 n j))
theorem am_flds_at {G : am_G} {h : am_H} {n c b : Nat} (hb : b < (am_shp h n).2) : (am_flds G h n c)[b]? = some (am_fv G.2.2.2.2 (am_isr c b) (h.2.1 n b) (h.2.2 n b)) := by
  simp [am_flds, hb]
theorem am_flds_V {G : am_G} {h : am_H} {n c j : Nat} : vp_V (am_flds G h n c) j = if j < (am_shp h n).2 then am_fv G.2.2.2.2 (am_isr c j) (h.2.1 n j) (h.2.2 n j) else .null := by
  unfold vp_V
  rw [List.getD_eq_getElem?_getD]
  by_cases hj : j < (am_shp h n).2
  · rw [am_flds_at hj, if_pos hj]; rfl
  · rw [if_neg hj]
    have : (am_flds G h n c)[j]? = none := by simp [am_flds]; omega
    rw [this]; rfl
theorem am_cell_obj {G : am_G} {h : am_H} {n c : Nat} (hk : (am_shp h n).1 = c + 1) : am_cell G h n = .inr (c, am_flds G h n c) := by
  unfold am_cell
  rw [hk]
  rfl
theorem am_cell_arr {G : am_G} {h : am_H} {n : Nat} (hk : (am_shp h n).1 = 0) : am_cell G h n = .inl (G.2.2.1, (am_shp h n).2, .inl (fun j => Int32.ofInt (h.2.1 n j))) := by
  unfold am_cell
  rw [hk]
theorem am_shp_lt {h : am_H} {n : Nat} (hk : (am_shp h n).1 < 100) : n < h.1.length := by
  by_cases hn : n < h.1.length
  · exact hn
  · unfold am_shp at hk
    rw [List.getD_eq_getElem?_getD, List.getElem?_eq_none (by omega)] at hk
    simp at hk
theorem va_P1 {D : va_G} {cl : List vw_C} {x : Nat × va_E} {H : Heap} (h : va_at D cl x H) : va_P D cl [x] H := by
  intro k q hk
  cases k with
  | zero => cases hk; exact h
  | succ k => simp at hk
/-- a cell that is not the script -/
theorem am_cellR {G : am_G} {h : am_H} {U : State} {H : Heap} {a : Nat} (hG : am_okG G) (hR : am_Rp G h U H) (hk : (am_shp h (a + 1)).1 < 100) : a + 1 < h.1.length ∧ G.2.2.2.2 (a + 1) = G.2.2.2.1 + a ∧ va_at (G.1, G.2.1) am_cl (G.2.2.2.2 (a + 1), am_cell G h (a + 1)) H := by
  have h1 := am_shp_lt hk
  have h2 := hG.2 a (by have := hR.2.2.1; omega)
  exact ⟨h1, h2, by rw [h2]; exact hR.2.2.2.1 a h1⟩
theorem am_obj_ok {h : am_H} {n c b : Nat} (ho : am_obj h n c b = true) : (am_shp h n).1 = c + 1 ∧ b < (am_shp h n).2 := by
  simp only [am_obj, Bool.and_eq_true] at ho
  exact ⟨am_beq ho.1, am_blt ho.2⟩
theorem am_fl_ok {k a b c : Nat} {z : Int} (h : am_fl k a b c z = true) : Jvm.Cond.fieldLink (am_y k).cls a (am_T c b).1 (am_T c b).2.1 (am_T c b).2.2.1 ∈ am_TG ∧ b < am_N c ∧ c < 12 := by
  simp only [am_fl, Bool.and_eq_true] at h
  exact ⟨am_okW_in h.1.1, am_blt h.1.2, am_blt h.2⟩
theorem am_nz {G : am_G} {h : am_H} {U : State} {H : Heap} {n c : Nat} (hR : am_Rp G h U H) (hk : (am_shp h n).1 = c + 1) : ∃ a, n = a + 1 := by
  cases n with
  | zero => rw [hR.2.2.2.2.1] at hk; cases hk
  | succ a => exact ⟨a, rfl⟩
section AMH
variable {p : Program} {l : Launch} {e : Env} {R : Room} {s : State} {m : MethodId} {args : Array Value} {below : List Frame} {meth : Method} {c : Code} {G : am_G} {k k0 s0 : Nat} {Q : State → Prop} {q q' : Nat} {ls ls' : am_L} {st st' : List am_V} {h h' : am_H} {lo a b cc : Nat} {z : Int} {sw : List (Int × Nat)}
theorem am_s22 (C : am_Cx p l e R s m args below meth c G k) (hc : am_chk k q (22, lo, a, b, cc, z, sw) = true) (hs : am_b22 b cc q ls st h = some (q', ls', st', h')) (K : am_Go p l e R s m args below meth c G k k0 s0 Q q' ls' st' h') : am_Go p l e R s m args below meth c G k k0 s0 Q q ls st h := by
  intro lsR H locs hI hS
  obtain ⟨hx, hb, hml, hown, hts, hin, hW, hG⟩ := C
  simp only [am_chk, Bool.and_eq_true, Bool.not_eq_true'] at hc
  obtain ⟨⟨hd, hf⟩, hr⟩ := hc
  obtain ⟨hf1, hf2, hf3⟩ := am_fl_ok hf
  unfold am_b22 at hs
  split at hs
  next n t =>
    split at hs
    next ho =>
      cases hs
      obtain ⟨ho1, ho2⟩ := am_obj_ok ho
      obtain ⟨n, rfl⟩ := am_nz hI.2.2.2.2.2 ho1
      obtain ⟨h1, h2, h3⟩ := am_cellR hG hI.2.2.2.2.2 (a := n) (by rw [ho1]; omega)
      rw [am_cell_obj ho1] at h3
      have K2 := K lsR H locs (hI.cons (fun _ h => List.mem_cons_of_mem _ h) (hI.2.2.2.2.1 (n + 1) b)) hS
      refine va_get (D := (G.1, G.2.1)) (ci := cc) (C := am_R cc) (T := am_T cc) (N := am_N cc) hx hb hts (am_lay_in hf3) hown hW.1 (va_P1 h3) 0 rfl (am_cl_at hf3) b hf2 (hts _ hf1) (fun _ h => h) (am_flds_at ho2) (am_D_ok hd) ?_
      rw [hr]
      exact K2
    next => cases hs
  next => cases hs
theorem am_s58 (C : am_Cx p l e R s m args below meth c G k) (hc : am_chk k q (58, lo, a, b, cc, z, sw) = true) (hs : am_b58 b cc q ls st h = some (q', ls', st', h')) (K : am_Go p l e R s m args below meth c G k k0 s0 Q q' ls' st' h') : am_Go p l e R s m args below meth c G k k0 s0 Q q ls st h := by
  intro lsR H locs hI hS
  obtain ⟨hx, hb, hml, hown, hts, hin, hW, hG⟩ := C
  simp only [am_chk, Bool.and_eq_true] at hc
  obtain ⟨⟨hd, hf⟩, hr⟩ := hc
  obtain ⟨hf1, hf2, hf3⟩ := am_fl_ok hf
  unfold am_b58 at hs
  split at hs
  next n t =>
    split at hs
    next r ho hq =>
      cases hs
      obtain ⟨ho1, ho2⟩ := am_obj_ok ho
      obtain ⟨n, rfl⟩ := am_nz hI.2.2.2.2.2 ho1
      obtain ⟨h1, h2, h3⟩ := am_cellR hG hI.2.2.2.2.2 (a := n) (by rw [ho1]; omega)
      rw [am_cell_obj ho1] at h3
      have K2 := K lsR H locs (hI.cons (fun _ h => List.mem_cons_of_mem _ h) trivial) hS
      refine va_get (D := (G.1, G.2.1)) (ci := cc) (C := am_R cc) (T := am_T cc) (N := am_N cc) hx hb hts (am_lay_in hf3) hown hW.1 (va_P1 h3) 0 rfl (am_cl_at hf3) b hf2 (hts _ hf1) (fun _ h => h) (am_flds_at ho2) (am_D_ok hd) ?_
      rw [hr, hq]
      exact K2
    next => cases hs
  next => cases hs
/-- the heap with one cell changed -/
theorem am_Rp.put {h h' : am_H} {H H1 : Heap} {n : Nat} (hG : am_okG G) (hR : am_Rp G h s H) (h1 : h'.1 = h.1) (hn : n + 1 < h.1.length) (ho : ∀ a j, a ≠ n + 1 → h'.2.1 a j = h.2.1 a j ∧ h'.2.2 a j = h.2.2 a j)
    (hz : H1.size = H.size) (oq : ∀ q, q ≠ G.2.2.2.2 (n + 1) → H1[q]? = H[q]?) (hc : va_at (G.1, G.2.1) am_cl (G.2.2.2.2 (n + 1), am_cell G h' (n + 1)) H1) : am_Rp G h' s H1 := by
  obtain ⟨r1, r2, r3, r4, r5, r6⟩ := hR
  have hsh : ∀ a, am_shp h' a = am_shp h a := fun a => by unfold am_shp; rw [h1]
  have hp := hG.2 n (by omega)
  refine ⟨by rw [hz, h1]; exact r1, by rw [h1]; exact r2, by rw [h1]; exact r3, fun a ha => ?_, by rw [hsh]; exact r5, ?_⟩
  · rw [h1] at ha
    by_cases han : a = n
    · subst han
      rw [← hp]; exact hc
    · have e : am_cell G h' (a + 1) = am_cell G h (a + 1) := by
        unfold am_cell
        rw [hsh]
        have e1 : ∀ j, h'.2.1 (a + 1) j = h.2.1 (a + 1) j := fun j => (ho (a + 1) j (by omega)).1
        have e2 : ∀ j, h'.2.2 (a + 1) j = h.2.2 (a + 1) j := fun j => (ho (a + 1) j (by omega)).2
        simp only [e1, e2]
      rw [e]
      exact (r4 a ha).kept (oq _ (by rw [hp]; show G.2.2.2.1 + a ≠ _; omega))
  · have e1 : ∀ j, h'.2.1 0 j = h.2.1 0 j := fun j => (ho 0 j (by omega)).1
    simp only [e1, hsh]
    exact r6.kept (oq _ (by rw [hp]; have := hG.1; omega))
theorem am_putW (C : am_Cx p l e R s m args below meth c G k) {n : Nat} {v : Value} {lsR : Array Slot} {H : Heap} {locs : List Loc} {cells slots : Nat} {rest : List Value} (hR : am_Rp G h s H) (hd : decode (am_bs k) q = .ok (.putfield a, 3)) (hf1 : Jvm.Cond.fieldLink (am_y k).cls a (am_T cc b).1 (am_T cc b).2.1 (am_T cc b).2.2.1 ∈ am_TG) (hf2 : b < am_N cc) (hf3 : cc < 12) (ho1 : (am_shp h (n + 1)).1 = cc + 1) (ho2 : b < (am_shp h (n + 1)).2)
    (hfin : (am_T cc b).2.2.2 = false ∨ ((am_T cc b).2.2.2 = true ∧ meth.name = "<init>" ∧ (am_T cc b).1 = (am_y k).cls)) (hn : narrow (am_ty cc b) v = v) (hfit : fits (am_ty cc b) v = true)
    (kk : ∀ (H1 : Heap) (j : Nat), t_OB (G.2.2.2.2 (n + 1)) (G.1 cc) (am_N cc) (G.2.1 cc) H1 (updV (vp_V (am_flds G h (n + 1) cc)) b v) → H1.size = H.size → (∀ q, q ≠ G.2.2.2.2 (n + 1) → H1[q]? = H[q]?) → W p l e R s m args below meth c H1 (locs ++ [⟨G.2.2.2.2 (n + 1), j⟩]) cells slots Q (F0 m (q + 3) lsR rest)) :
    W p l e R s m args below meth c H locs cells slots Q (F0 m q lsR (v :: .ref (G.2.2.2.2 (n + 1)) :: rest)) := by
  obtain ⟨hx, hb, hml, hown, hts, hin, hW, hG⟩ := C
  obtain ⟨h1, h2, h3⟩ := am_cellR hG hR (a := n) (by rw [ho1]; omega)
  rw [am_cell_obj ho1] at h3
  have hc := am_cl_at hf3
  have hap := va_apart (own := (am_y k).cls) (D := (G.1, G.2.1)) hts (am_lay_in hf3) (am_ty cc) (am_ty_ok hf3) (am_nm_ok hf3) hW.1 hc
  obtain ⟨r, g1, cell, q1, q2, q3, q4⟩ := h3
  have hr : r = (am_R cc, am_T cc, am_N cc) := Option.some.inj (g1.symm.trans hc)
  subst hr
  obtain ⟨hSl, hfc, kC, hkC, hkind⟩ := hW.1.1 cc _ hc
  obtain ⟨cf, kf, fi, f, hi, hsl⟩ := hSl b hf2
  have hlay := hts _ (am_lay_in hf3 _ (u_in_lay hf2))
  have hst := (u_facts hfc hkC (u_lays hts (am_lay_in hf3) hf2) hi).1
  have hd2 := am_ty_ok hf3 b hf2
  rcases hfin with hfin | ⟨hfin, hin2, hdecl⟩
  · unfold u_lay at hlay
    rw [if_neg (by rw [hfin]; decide)] at hlay
    have h6 := u_store hfc hkC hkind hlay hi hd2 hn hfit
    refine W.putK hx hb (f := f) ⟨hown, hts _ hf1, ⟨_, _, _, hi⟩, hst⟩ (by rw [q2]; exact h6) q1 q3 (by rw [hsl]; exact k2_hasslot (q4 b hf2)) rfl rfl hd fun H' e1 e2 e3 => ?_
    rw [hsl] at e1
    exact kk H' _ ⟨_, e1, q2, q3, t_set q4 hap hf2 v⟩ e2 e3
  · unfold u_lay at hlay
    rw [if_pos hfin] at hlay
    have hcf : m.cls = cf := by
      obtain ⟨_, _, c', _, _, _, -, -, hf', -, -, -, hown2, -⟩ := Cond.laysFinal_spec hlay
      have e1 : c' = cf := by have := hi.symm.trans hf'; simp at this; exact this.1.symm
      rw [hdecl] at hown2
      rw [← e1]; exact Option.some.inj (hown.symm.trans hown2)
    have h6 := u_fits hfc hkC hkind (Or.inr hlay) hi hd2 hn hfit
    refine W.putFinK hx hb hown (hts _ hf1) hi hst hcf hin2 (by rw [q2]; exact h6) q1 q3 (by rw [hsl]; exact k2_hasslot (q4 b hf2)) rfl rfl hd fun H' e1 e2 e3 => ?_
    rw [hsl] at e1
    exact kk H' _ ⟨_, e1, q2, q3, t_set q4 hap hf2 v⟩ e2 e3
theorem am_up_ok {f : Nat → Nat → Int} (hf : ∀ a j, am_okv (.inl (f a j))) {i j : Nat} {v : Int} (hv : am_okv (.inl v)) : ∀ a b, am_okv (.inl (am_up f i j v a b)) := by
  intro a b
  unfold am_up
  split
  · split
    · exact hv
    · exact hf a b
  · exact hf a b
theorem am_S1 {H H1 : Heap} {locs : List Loc} {n j : Nat} (hG : am_okG G) (hn : n + 1 < 900000) (hS : va_S (am_A G) s.heap H locs) (hz : H1.size = H.size) (oq : ∀ q, q ≠ G.2.2.2.2 (n + 1) → H1[q]? = H[q]?) : va_S (am_A G) s.heap H1 (locs ++ [⟨G.2.2.2.2 (n + 1), j⟩]) :=
  hS.put hz oq (by rw [hG.2 n hn]; exact Nat.le_add_right _ _)
/-- an int field is written -/
theorem am_putI (C : am_Cx p l e R s m args below meth c G k) {n : Nat} {x : Int} {t : List am_V} {lsR : Array Slot} {H : Heap} {locs : List Loc} (hI : am_Iv G k ls (.inl x :: .inr (.inr (n + 1)) :: t) h lsR s H) (hS : va_S (am_A G) s.heap H locs) (hd : decode (am_bs k) q = .ok (.putfield a, 3)) (hf : am_fl k a b cc z = true) (hr : am_isr cc b = false) (ho : am_obj h (n + 1) cc b = true) (hfin : (am_T cc b).2.2.2 = false) (hn : narrow (am_ty cc b) (.int (Int32.ofInt x)) = .int (Int32.ofInt x)) (hfit : fits (am_ty cc b) (.int (Int32.ofInt x)) = true)
    (K : am_Go p l e R s m args below meth c G k k0 s0 Q (q + 3) ls t (h.1, am_up h.2.1 (n + 1) b x, h.2.2)) : W p l e R s m args below meth c H locs (h.1.length - k0) (am_sl h.1 - s0) Q (F0 m q lsR ((.inl x :: .inr (.inr (n + 1)) :: t).map (am_rv G.2.2.2.2))) := by
  have hG := C.2.2.2.2.2.2.2
  obtain ⟨hf1, hf2, hf3⟩ := am_fl_ok hf
  obtain ⟨ho1, ho2⟩ := am_obj_ok ho
  obtain ⟨h1, h2, h3⟩ := am_cellR hG hI.2.2.2.2.2 (a := n) (by rw [ho1]; omega)
  have hlen := hI.2.2.2.2.2.2.2.1
  refine am_putW C hI.2.2.2.2.2 hd hf1 hf2 hf3 ho1 ho2 (Or.inl hfin) hn hfit fun H1 j e1 e2 e3 => ?_
  refine K lsR H1 _ ⟨hI.1, fun v hv => hI.2.1 v (List.mem_cons_of_mem _ (List.mem_cons_of_mem _ hv)), hI.2.2.1, hI.2.2.2.1, am_up_ok hI.2.2.2.2.1 (hI.2.1 _ List.mem_cons_self), am_Rp.put hG hI.2.2.2.2.2 rfl h1 (fun a j ha => ⟨by show am_up _ _ _ _ a j = _; unfold am_up; rw [if_neg ha], rfl⟩) e2 e3 ?_⟩ (am_S1 hG (by omega) hS e2 e3)
  have hc2 : (am_shp (h.1, am_up h.2.1 (n + 1) b x, h.2.2) (n + 1)).1 = cc + 1 := ho1
  rw [am_cell_obj hc2]
  refine ⟨_, am_cl_at hf3, e1.to fun j hj => ?_⟩
  have e4 : am_shp (h.1, am_up h.2.1 (n + 1) b x, h.2.2) (n + 1) = am_shp h (n + 1) := rfl
  rw [am_flds_V, e4]
  unfold updV
  by_cases hjb : j = b
  · subst hjb
    rw [if_pos rfl, if_pos ho2, hr]
    show _ = Value.int (Int32.ofInt (am_up h.2.1 (n + 1) j x (n + 1) j))
    unfold am_up
    rw [if_pos rfl, if_pos rfl]
    rfl
  · rw [if_neg hjb, am_flds_V]
    have e5 : am_up h.2.1 (n + 1) b x (n + 1) j = h.2.1 (n + 1) j := by unfold am_up; rw [if_pos rfl, if_neg hjb]
    show _ = if _ then am_fv _ _ (am_up h.2.1 (n + 1) b x (n + 1) j) _ else _
    rw [e5]
theorem am_s23 (C : am_Cx p l e R s m args below meth c G k) (hc : am_chk k q (23, lo, a, b, cc, z, sw) = true) (hs : am_b23 b cc q ls st h = some (q', ls', st', h')) (K : am_Go p l e R s m args below meth c G k k0 s0 Q q' ls' st' h') : am_Go p l e R s m args below meth c G k k0 s0 Q q ls st h := by
  intro lsR H locs hI hS
  simp only [am_chk, Bool.and_eq_true, Bool.not_eq_true', decide_eq_true_eq] at hc
  obtain ⟨⟨⟨hd, hf⟩, hr⟩, hT⟩ := hc
  obtain ⟨hf1, hf2, hf3⟩ := am_fl_ok hf
  unfold am_b23 at hs
  split at hs
  next x n t =>
    split at hs
    next ho =>
      cases hs
      obtain ⟨n, rfl⟩ := am_nz hI.2.2.2.2.2 (am_obj_ok ho).1
      have hty : am_ty cc b = .int := by
        unfold am_ty
        rw [show (am_T cc b).2.2 = ("I", false) from hT]
        decide +kernel
      exact am_putI C hI hS (am_D_ok hd) hf hr ho (by rw [show (am_T cc b).2.2 = ("I", false) from hT]) (by rw [hty]; rfl) (by rw [hty]; rfl) K
    next => cases hs
  next => cases hs
theorem am_s74 (C : am_Cx p l e R s m args below meth c G k) (hc : am_chk k q (74, lo, a, b, cc, z, sw) = true) (hs : am_b74 b cc q ls st h = some (q', ls', st', h')) (K : am_Go p l e R s m args below meth c G k k0 s0 Q q' ls' st' h') : am_Go p l e R s m args below meth c G k k0 s0 Q q ls st h := by
  intro lsR H locs hI hS
  simp only [am_chk, Bool.and_eq_true, Bool.not_eq_true', decide_eq_true_eq] at hc
  obtain ⟨⟨⟨hd, hf⟩, hr⟩, hT⟩ := hc
  obtain ⟨hf1, hf2, hf3⟩ := am_fl_ok hf
  unfold am_b74 at hs
  split at hs
  next x n t =>
    split at hs
    next ho =>
      split at hs
      next hx =>
        cases hs
        obtain ⟨n, rfl⟩ := am_nz hI.2.2.2.2.2 (am_obj_ok ho).1
        have hty : am_ty cc b = .boolean := by
          unfold am_ty
          rw [show (am_T cc b).2.2 = ("Z", false) from hT]
          decide +kernel
        exact am_putI C hI hS (am_D_ok hd) hf hr ho (by rw [show (am_T cc b).2.2 = ("Z", false) from hT]) (by rw [hty]; rcases hx with rfl | rfl <;> rfl) (by rw [hty]; rcases hx with rfl | rfl <;> rfl) K
      next => cases hs
    next => cases hs
  next => cases hs
theorem am_putR (C : am_Cx p l e R s m args below meth c G k) {n v : Nat} {t : List am_V} {lsR : Array Slot} {H : Heap} {locs : List Loc} (hI : am_Iv G k ls (.inr (.inr v) :: .inr (.inr (n + 1)) :: t) h lsR s H) (hS : va_S (am_A G) s.heap H locs) (hd : decode (am_bs k) q = .ok (.putfield a, 3)) (hf : am_fl k a b cc z = true) (hr : am_isr cc b = true) (ho : am_obj h (n + 1) cc b = true) (hfin : (am_T cc b).2.2.2 = false ∨ ((am_T cc b).2.2.2 = true ∧ meth.name = "<init>" ∧ (am_T cc b).1 = (am_y k).cls))
    (K : am_Go p l e R s m args below meth c G k k0 s0 Q (q + 3) ls t (h.1, h.2.1, am_upr h.2.2 (n + 1) b (v + 1))) : W p l e R s m args below meth c H locs (h.1.length - k0) (am_sl h.1 - s0) Q (F0 m q lsR ((.inr (.inr v) :: .inr (.inr (n + 1)) :: t).map (am_rv G.2.2.2.2))) := by
  have hG := C.2.2.2.2.2.2.2
  obtain ⟨hf1, hf2, hf3⟩ := am_fl_ok hf
  obtain ⟨ho1, ho2⟩ := am_obj_ok ho
  obtain ⟨h1, h2, h3⟩ := am_cellR hG hI.2.2.2.2.2 (a := n) (by rw [ho1]; omega)
  have hlen := hI.2.2.2.2.2.2.2.1
  have hty := am_tyR hf3 hf2 hr
  refine am_putW C hI.2.2.2.2.2 hd hf1 hf2 hf3 ho1 ho2 hfin (by rcases hty with ⟨x, e⟩ | ⟨x, e⟩ <;> rw [e] <;> rfl) (by rcases hty with ⟨x, e⟩ | ⟨x, e⟩ <;> rw [e] <;> rfl) fun H1 j e1 e2 e3 => ?_
  refine K lsR H1 _ ⟨hI.1, fun v hv => hI.2.1 v (List.mem_cons_of_mem _ (List.mem_cons_of_mem _ hv)), hI.2.2.1, hI.2.2.2.1, hI.2.2.2.2.1, am_Rp.put hG hI.2.2.2.2.2 rfl h1 (fun a j ha => ⟨rfl, by show am_upr _ _ _ _ a j = _; unfold am_upr; rw [if_neg ha]⟩) e2 e3 ?_⟩ (am_S1 hG (by omega) hS e2 e3)
  have hc2 : (am_shp (h.1, h.2.1, am_upr h.2.2 (n + 1) b (v + 1)) (n + 1)).1 = cc + 1 := ho1
  rw [am_cell_obj hc2]
  refine ⟨_, am_cl_at hf3, e1.to fun j hj => ?_⟩
  have e4 : am_shp (h.1, h.2.1, am_upr h.2.2 (n + 1) b (v + 1)) (n + 1) = am_shp h (n + 1) := rfl
  rw [am_flds_V, e4]
  unfold updV
  by_cases hjb : j = b
  · subst hjb
    rw [if_pos rfl, if_pos ho2, hr]
    have e5 : am_upr h.2.2 (n + 1) j (v + 1) (n + 1) j = v + 1 := by unfold am_upr; rw [if_pos rfl, if_pos rfl]
    show _ = am_fv _ _ _ (am_upr h.2.2 (n + 1) j (v + 1) (n + 1) j)
    rw [e5]
    rfl
  · rw [if_neg hjb, am_flds_V]
    have e5 : am_upr h.2.2 (n + 1) b (v + 1) (n + 1) j = h.2.2 (n + 1) j := by unfold am_upr; rw [if_pos rfl, if_neg hjb]
    show _ = if _ then am_fv _ _ _ (am_upr h.2.2 (n + 1) b (v + 1) (n + 1) j) else _
    rw [e5]
theorem am_s72 (C : am_Cx p l e R s m args below meth c G k) (hc : am_chk k q (72, lo, a, b, cc, z, sw) = true) (hs : am_b72 b cc q ls st h = some (q', ls', st', h')) (K : am_Go p l e R s m args below meth c G k k0 s0 Q q' ls' st' h') : am_Go p l e R s m args below meth c G k k0 s0 Q q ls st h := by
  intro lsR H locs hI hS
  simp only [am_chk, Bool.and_eq_true, decide_eq_true_eq] at hc
  obtain ⟨⟨⟨hd, hf⟩, hr⟩, hT⟩ := hc
  unfold am_b72 at hs
  split at hs
  next x n t =>
    split at hs
    next ho =>
      cases hs
      obtain ⟨n, rfl⟩ := am_nz hI.2.2.2.2.2 (am_obj_ok ho).1
      exact am_putR C hI hS (am_D_ok hd) hf hr ho (Or.inl hT) K
    next => cases hs
  next => cases hs
theorem am_s73 (C : am_Cx p l e R s m args below meth c G k) (hc : am_chk k q (73, lo, a, b, cc, z, sw) = true) (hs : am_b72 b cc q ls st h = some (q', ls', st', h')) (K : am_Go p l e R s m args below meth c G k k0 s0 Q q' ls' st' h') : am_Go p l e R s m args below meth c G k k0 s0 Q q ls st h := by
  intro lsR H locs hI hS
  simp only [am_chk, Bool.and_eq_true, decide_eq_true_eq] at hc
  obtain ⟨⟨⟨⟨⟨hd, hf⟩, hr⟩, hT⟩, h3⟩, hD⟩ := hc
  unfold am_b72 at hs
  split at hs
  next x n t =>
    split at hs
    next ho =>
      cases hs
      obtain ⟨n, rfl⟩ := am_nz hI.2.2.2.2.2 (am_obj_ok ho).1
      exact am_putR C hI hS (am_D_ok hd) hf hr ho (Or.inr ⟨hT, C.2.2.2.2.2.1 (am_beq h3), hD⟩) K
    next => cases hs
  next => cases hs
theorem am_vin {j : Int} {n : Nat} (hj : am_okv (.inl j)) (h0 : 0 ≤ j) (h1 : j < (n : Int)) : vp_in (Int32.ofInt j) n ∧ (Int32.ofInt j).toNatClampNeg = j.toNat := by
  have e := am_to32 hj
  have e2 : (Int32.ofInt j).toNatClampNeg = j.toNat := by unfold Int32.toNatClampNeg; rw [e]
  refine ⟨fun hh => ?_, e2⟩
  rcases hh with hh | hh
  · rw [Int32.lt_iff_toInt_lt, e, Int32.toInt_zero] at hh
    omega
  · rw [e2] at hh
    omega
theorem am_s24 (C : am_Cx p l e R s m args below meth c G k) (hc : am_chk k q (24, lo, a, b, cc, z, sw) = true) (hs : am_b24 q ls st h = some (q', ls', st', h')) (K : am_Go p l e R s m args below meth c G k k0 s0 Q q' ls' st' h') : am_Go p l e R s m args below meth c G k k0 s0 Q q ls st h := by
  intro lsR H locs hI hS
  obtain ⟨hx, hb, hml, hown, hts, hin, hW, hG⟩ := C
  unfold am_b24 at hs
  split at hs
  next j n t =>
    split at hs
    next ho =>
      split at hs
      next hj =>
        cases hs
        have ho1 := am_beq ho
        obtain ⟨e1, e2⟩ := am_vin (hI.2.1 _ List.mem_cons_self) hj.1 hj.2
        have K2 := K lsR H locs (hI.cons (fun _ h => List.mem_cons_of_mem _ (List.mem_cons_of_mem _ h)) (hI.2.2.2.2.1 n j.toNat)) hS
        cases n with
        | zero =>
          obtain ⟨scr, g1, g2, g3, g4, g5⟩ := hI.2.2.2.2.2.2.2.2.2.2
          have hlt : (Int32.ofInt j).toNatClampNeg < (am_shp h 0).2 := Nat.not_le.mp fun w => e1 (Or.inr w)
          refine W.iald (v := .int (Int32.ofInt (h.2.1 0 (Int32.ofInt j).toNatClampNeg))) hx hb g1 g2 g3 (by rw [g4]; exact e1) (g5 _ hlt) rfl rfl (am_D_ok hc) ?_
          rw [e2]
          exact K2
        | succ n =>
          obtain ⟨h1, h2, h3⟩ := am_cellR hG hI.2.2.2.2.2 (a := n) (by rw [ho1]; omega)
          rw [am_cell_arr ho1] at h3
          refine va_iald (D := (G.1, G.2.1)) hx hb hW.1 (va_P1 h3) 0 0 rfl rfl e1 (am_D_ok hc) ?_
          rw [e2]
          exact K2
      next => cases hs
    next => cases hs
  next => cases hs
theorem am_s26 (C : am_Cx p l e R s m args below meth c G k) (hc : am_chk k q (26, lo, a, b, cc, z, sw) = true) (hs : am_b26 q ls st h = some (q', ls', st', h')) (K : am_Go p l e R s m args below meth c G k k0 s0 Q q' ls' st' h') : am_Go p l e R s m args below meth c G k k0 s0 Q q ls st h := by
  intro lsR H locs hI hS
  obtain ⟨hx, hb, hml, hown, hts, hin, hW, hG⟩ := C
  unfold am_b26 at hs
  split at hs
  next n t =>
    split at hs
    next ho =>
      cases hs
      simp only [Bool.and_eq_true] at ho
      have ho1 := am_beq ho.1
      have ho2 := am_blt ho.2
      have K2 := K lsR H locs (hI.cons (v := .inl ((am_shp h n).2 : Int)) (fun _ h => List.mem_cons_of_mem _ h) ⟨by omega, by omega⟩) hS
      have e3 : Int32.ofNat (am_shp h n).2 = Int32.ofInt ((am_shp h n).2 : Int) := rfl
      cases n with
      | zero =>
        obtain ⟨scr, g1, g2, g3, g4, g5⟩ := hI.2.2.2.2.2.2.2.2.2.2
        exact W.alen (n := Int32.ofNat (am_shp h 0).2) hx hb g1 g2 (by rw [g4] <;> rfl) rfl rfl (am_D_ok hc) K2
      | succ n =>
        obtain ⟨h1, h2, h3⟩ := am_cellR hG hI.2.2.2.2.2 (a := n) (by rw [ho1]; omega)
        rw [am_cell_arr ho1] at h3
        exact va_alen (D := (G.1, G.2.1)) hx hb hW.1 (va_P1 h3) 0 0 rfl rfl e3 (am_D_ok hc) K2
    next => cases hs
  next => cases hs
theorem am_s25 (C : am_Cx p l e R s m args below meth c G k) (hc : am_chk k q (25, lo, a, b, cc, z, sw) = true) (hs : am_b25 q ls st h = some (q', ls', st', h')) (K : am_Go p l e R s m args below meth c G k k0 s0 Q q' ls' st' h') : am_Go p l e R s m args below meth c G k k0 s0 Q q ls st h := by
  intro lsR H locs hI hS
  obtain ⟨hx, hb, hml, hown, hts, hin, hW, hG⟩ := C
  unfold am_b25 at hs
  split at hs
  next x j n t =>
    split at hs
    next ho =>
      split at hs
      next hj =>
        cases hs
        have ho1 := am_beq ho
        obtain ⟨e1, e2⟩ := am_vin (hI.2.1 _ (List.mem_cons_of_mem _ List.mem_cons_self)) hj.1 hj.2
        obtain ⟨h1, h2, h3⟩ := am_cellR hG hI.2.2.2.2.2 (a := n) (by rw [ho1]; omega)
        rw [am_cell_arr ho1] at h3
        have hlen := hI.2.2.2.2.2.2.2.1
        refine W.iast hx hb h3 ((hW.1.2 0 _ rfl).1 (am_shp h (n + 1)).2 (fun j => .int (Int32.ofInt (h.2.1 (n + 1) j)))) (fun w => by cases w) (by show ¬ (_ ∨ (arrV _ _ _).slots.size ≤ _); rw [arrV_size]; exact e1) rfl rfl (am_D_ok hc) fun H1 f1 f2 f3 => ?_
        refine K lsR H1 _ ⟨hI.1, fun v hv => hI.2.1 v (List.mem_cons_of_mem _ (List.mem_cons_of_mem _ (List.mem_cons_of_mem _ hv))), hI.2.2.1, hI.2.2.2.1, am_up_ok hI.2.2.2.2.1 (hI.2.1 _ List.mem_cons_self), am_Rp.put hG hI.2.2.2.2.2 rfl h1 (fun a j ha => ⟨by show am_up _ _ _ _ a j = _; unfold am_up; rw [if_neg ha], rfl⟩) f2 f3 ?_⟩ (am_S1 hG (by omega) hS f2 f3)
        have hc2 : (am_shp (h.1, am_up h.2.1 (n + 1) j.toNat x, h.2.2) (n + 1)).1 = 0 := ho1
        rw [am_cell_arr hc2]
        show H1[_]? = some (vp_cell _ _)
        rw [f1, e2]
        rw [vp_cell_i, vp_cell_i, arrV_store]
        congr 2
        funext w
        show updV _ _ _ w = Value.int (Int32.ofInt (am_up h.2.1 (n + 1) j.toNat x (n + 1) w))
        unfold updV am_up
        rw [if_pos rfl]
        by_cases hw : w = j.toNat
        · rw [if_pos hw, if_pos hw]
        · rw [if_neg hw, if_neg hw]
      next => cases hs
    next => cases hs
  next => cases hs
theorem am_shp_app {t : List (Nat × Nat)} {x : Nat × Nat} {f f' : Nat → Nat → Int} {g g' : Nat → Nat → Nat} {n : Nat} : am_shp (t ++ [x], f', g') n = if n < t.length then am_shp (t, f, g) n else if n = t.length then x else (1000, 0) := by
  unfold am_shp
  simp only [List.getD_eq_getElem?_getD]
  by_cases h1 : n < t.length
  · rw [if_pos h1, List.getElem?_append_left h1]
  · rw [if_neg h1, List.getElem?_append_right (by omega)]
    by_cases h2 : n = t.length
    · rw [if_pos h2, h2, Nat.sub_self]; rfl
    · rw [if_neg h2, List.getElem?_eq_none (by simp; omega)]; rfl
/-- a cell more -/
theorem am_Rp.push {x : Nat × Nat} {H H1 : Heap} (hG : am_okG G) (hR : am_Rp G h s H) (hl : h.1.length < 800000) (hz : H1.size = H.size + 1) (oq : ∀ q, q < H.size → H1[q]? = H[q]?)
    (hc : va_at (G.1, G.2.1) am_cl (H.size, am_cell G (h.1 ++ [x], am_zi h.2.1 h.1.length, am_zr h.2.2 h.1.length) h.1.length) H1) : am_Rp G (h.1 ++ [x], am_zi h.2.1 h.1.length, am_zr h.2.2 h.1.length) s H1 := by
  obtain ⟨r1, r2, r3, r4, r5, r6⟩ := hR
  have hsh : ∀ a, a < h.1.length → am_shp (h.1 ++ [x], am_zi h.2.1 h.1.length, am_zr h.2.2 h.1.length) a = am_shp h a := fun a ha => by
    rw [am_shp_app (f := h.2.1) (g := h.2.2), if_pos ha]
  refine ⟨by rw [hz, List.length_append]; show _ = _ + (h.1.length + 1); omega, by rw [List.length_append]; exact Nat.lt_add_right _ r2, by rw [List.length_append]; show h.1.length + 1 ≤ _; omega, fun a ha => ?_, by rw [hsh 0 r2]; exact r5, ?_⟩
  · rw [List.length_append] at ha
    have ha : a + 1 < h.1.length + 1 := ha
    by_cases han : a + 1 = h.1.length
    · rw [han]
      have e : G.2.2.2.1 + a = H.size := by omega
      rw [e]
      exact hc
    · have e : am_cell G (h.1 ++ [x], am_zi h.2.1 h.1.length, am_zr h.2.2 h.1.length) (a + 1) = am_cell G h (a + 1) := by
        unfold am_cell
        rw [hsh (a + 1) (by omega)]
        have e1 : ∀ j, am_zi h.2.1 h.1.length (a + 1) j = h.2.1 (a + 1) j := fun j => by unfold am_zi; rw [if_neg han]
        have e2 : ∀ j, am_zr h.2.2 h.1.length (a + 1) j = h.2.2 (a + 1) j := fun j => by unfold am_zr; rw [if_neg han]
        simp only [e1, e2]
      rw [e]
      exact (r4 a (by omega)).kept (oq _ (by show G.2.2.2.1 + a < _; omega))
  · rw [hsh 0 r2]
    have e1 : ∀ j, am_zi h.2.1 h.1.length 0 j = h.2.1 0 j := fun j => by unfold am_zi; rw [if_neg (by omega)]
    simp only [e1]
    exact r6.kept (oq _ (by have := hG.1; omega))
theorem am_zi_ok {f : Nat → Nat → Int} (hf : ∀ a j, am_okv (.inl (f a j))) {i : Nat} : ∀ a b, am_okv (.inl (am_zi f i a b)) := by
  intro a b
  unfold am_zi
  split
  · exact am_z32
  · exact hf a b
theorem am_S2 {H H1 : Heap} {locs : List Loc} (hS : va_S (am_A G) s.heap H locs) (hz : H1.size = H.size + 1) (oq : ∀ q, q < H.size → H1[q]? = H[q]?) : va_S (am_A G) s.heap H1 locs :=
  ⟨by have := hS.1; omega, fun x h1 h2 => (oq x (Nat.lt_of_lt_of_le h1 hS.1)).trans (hS.2.1 x h1 h2), hS.2.2⟩
theorem am_s27 (C : am_Cx p l e R s m args below meth c G k) (hc : am_chk k q (27, lo, a, b, cc, z, sw) = true) (hs : am_b27 q ls st h = some (q', ls', st', h')) (K : am_Go p l e R s m args below meth c G k k0 s0 Q q' ls' st' h') (hk0 : k0 ≤ h.1.length) (hs0 : s0 ≤ am_sl h.1) (hRc : h'.1.length - k0 ≤ R.cells) (hRs : am_sl h'.1 - s0 ≤ R.slots) : am_Go p l e R s m args below meth c G k k0 s0 Q q ls st h := by
  intro lsR H locs hI hS
  obtain ⟨hx, hb, hml, hown, hts, hin, hW, hG⟩ := C
  unfold am_b27 at hs
  split at hs
  next x t =>
    split at hs
    next hj =>
      cases hs
      have e := am_to32 (hI.2.1 _ List.mem_cons_self)
      have e2 : (Int32.ofInt x).toNatClampNeg = x.toNat := by unfold Int32.toNatClampNeg; rw [e]
      have hR := hI.2.2.2.2.2
      have hcl : (h.1 ++ [(0, x.toNat)]).length - k0 = (h.1.length - k0) + 1 := by rw [List.length_append]; show h.1.length + 1 - k0 = _; omega
      have hsl : am_sl (h.1 ++ [(0, x.toNat)]) - s0 = (am_sl h.1 - s0) + x.toNat := by rw [am_sl_app]; show am_sl h.1 + (x.toNat + 0) - s0 = _; omega
      have hRc : (h.1 ++ [(0, x.toNat)]).length - k0 ≤ R.cells := hRc
      have hRs : am_sl (h.1 ++ [(0, x.toNat)]) - s0 ≤ R.slots := hRs
      have hph : G.2.2.2.2 h.1.length = H.size := by
        obtain ⟨w, hw⟩ : ∃ w, h.1.length = w + 1 := ⟨h.1.length - 1, by omega⟩
        rw [hw, hG.2 w (by omega)]
        have := hR.1
        omega
      refine va_newaK hx hb (hts _ (am_okW_in am_w_arr)) rfl (am_D_ok hc) rfl (by rw [Int32.lt_iff_toInt_lt, e, Int32.toInt_zero]; omega) e2 (by show x.toNat * 4 ≤ _; omega) (by omega) (by omega) rfl fun H1 cA f1 f2 f3 f4 f5 => ?_
      have hcA : cA = G.2.2.1 := by
        have g1 := (hW.1.2 0 _ rfl).2
        exact Option.some.inj (f5.symm.trans g1)
      subst hcA
      have K2 := K lsR H1 locs ⟨hI.1, fun v hv => by
          rcases List.mem_cons.mp hv with rfl | hv
          · trivial
          · exact hI.2.1 v (List.mem_cons_of_mem _ hv), hI.2.2.1, hI.2.2.2.1, am_zi_ok hI.2.2.2.2.1, am_Rp.push hG hR hj.2.2.2 f2 f3 ?_⟩ (am_S2 hS f2 f3)
      · rw [hcl, hsl] at K2
        simp only [List.map_cons, am_rv, hph] at K2
        exact K2
      · have hk : (am_shp (h.1 ++ [(0, x.toNat)], am_zi h.2.1 h.1.length, am_zr h.2.2 h.1.length) h.1.length) = (0, x.toNat) := by
          rw [am_shp_app (f := h.2.1) (g := h.2.2), if_neg (Nat.lt_irrefl _), if_pos rfl]
        rw [am_cell_arr (by rw [hk]), hk]
        show H1[H.size]? = some (vp_cell _ _)
        rw [f1, vp_cell_i]
        congr 2
        funext w
        show _ = Value.int (Int32.ofInt (am_zi h.2.1 h.1.length h.1.length w))
        unfold am_zi
        rw [if_pos rfl]
        rfl
    next => cases hs
  next => cases hs
theorem am_s28 (C : am_Cx p l e R s m args below meth c G k) (hc : am_chk k q (28, lo, a, b, cc, z, sw) = true) (hs : am_b28 cc q ls st h = some (q', ls', st', h')) (K : am_Go p l e R s m args below meth c G k k0 s0 Q q' ls' st' h') (hk0 : k0 ≤ h.1.length) (hs0 : s0 ≤ am_sl h.1) (hRc : h'.1.length - k0 ≤ R.cells) (hRs : am_sl h'.1 - s0 ≤ R.slots) : am_Go p l e R s m args below meth c G k k0 s0 Q q ls st h := by
  intro lsR H locs hI hS
  obtain ⟨hx, hb, hml, hown, hts, hin, hW, hG⟩ := C
  simp only [am_chk, Bool.and_eq_true] at hc
  obtain ⟨⟨hd, hw⟩, hcc⟩ := hc
  have hcc := am_blt hcc
  have hC := am_chkC_ok hcc
  simp only [am_chkC, Bool.and_eq_true] at hC
  unfold am_b28 at hs
  split at hs
  next hj =>
    cases hs
    have hR := hI.2.2.2.2.2
    have hcl : (h.1 ++ [(cc + 1, am_N cc)]).length - k0 = (h.1.length - k0) + 1 := by rw [List.length_append]; show h.1.length + 1 - k0 = _; omega
    have hsl : am_sl (h.1 ++ [(cc + 1, am_N cc)]) - s0 = (am_sl h.1 - s0) + am_N cc := by rw [am_sl_app]; show am_sl h.1 + (am_N cc + 0) - s0 = _; omega
    have hRc : (h.1 ++ [(cc + 1, am_N cc)]).length - k0 ≤ R.cells := hRc
    have hRs : am_sl (h.1 ++ [(cc + 1, am_N cc)]) - s0 ≤ R.slots := hRs
    have hph : G.2.2.2.2 h.1.length = H.size := by
      obtain ⟨w, hw⟩ : ∃ w, h.1.length = w + 1 := ⟨h.1.length - 1, by omega⟩
      rw [hw, hG.2 w (by omega)]
      have := hR.1
      omega
    have hKn := hW.1.1 cc _ (am_cl_at hcc)
    refine W.newcK hx hb hown (hts _ (am_okW_in hw)) (hts _ (am_okW_in hC.1.2)) (hts _ (am_okW_in hC.2)) rfl (am_D_ok hd) (by omega) (by omega) hKn.2.1 rfl fun H1 kC f0 f1 f2 f3 => ?_
    have K2 := K lsR H1 locs ⟨hI.1, fun v hv => by
        rcases List.mem_cons.mp hv with rfl | hv
        · trivial
        · exact hI.2.1 v hv, hI.2.2.1, hI.2.2.2.1, am_zi_ok hI.2.2.2.2.1, am_Rp.push hG hR hj.2 f2 f3 ?_⟩ (am_S2 hS f2 f3)
    · rw [hcl, hsl] at K2
      simp only [List.map_cons, am_rv, hph] at K2
      exact K2
    · have hk : (am_shp (h.1 ++ [(cc + 1, am_N cc)], am_zi h.2.1 h.1.length, am_zr h.2.2 h.1.length) h.1.length) = (cc + 1, am_N cc) := by
        rw [am_shp_app (f := h.2.1) (g := h.2.2), if_neg (Nat.lt_irrefl _), if_pos rfl]
      rw [am_cell_obj (by rw [hk])]
      refine ⟨_, am_cl_at hcc, (u_born (am_ty cc) hts (am_lay_in hcc) hKn f0 f1 (am_ty_ok hcc)).to fun j hj => ?_⟩
      rw [am_flds_V, hk, if_pos hj]
      have e1 : am_zi h.2.1 h.1.length h.1.length j = 0 := by unfold am_zi; rw [if_pos rfl]
      have e2 : am_zr h.2.2 h.1.length h.1.length j = 0 := by unfold am_zr; rw [if_pos rfl]
      show _ = am_fv _ _ (am_zi h.2.1 h.1.length h.1.length j) (am_zr h.2.2 h.1.length h.1.length j)
      rw [e1, e2]
      cases hr : am_isr cc j with
      | true => rcases am_tyR hcc hj hr with ⟨x, e⟩ | ⟨x, e⟩ <;> rw [e] <;> rfl
      | false => rcases am_tyI hcc hj hr with e | e <;> rw [e] <;> rfl
  next => cases hs
end AMH
