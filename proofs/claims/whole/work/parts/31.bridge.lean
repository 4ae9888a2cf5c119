/-! FROM THE SMALL MACHINE'S RUN TO THE CLAIM -/
/-- what is left to prove of the small machine: on every script the law ends with 1 -/
def am_h0 (L : Nat) (f : Nat → Int) : am_H := ([(0, L)], fun a j => if a = 0 then f j else 0, fun _ _ => 0)
def am_Pure : Prop := ∀ (L : Nat) (f : Nat → Int), L ≤ 3072 → (∀ j, am_okv (Sum.inl (f j))) → am_Wp 1000 0 0 [some (Sum.inr (Sum.inr 0)), none, none, none] [] (am_h0 L f) (fun r h' => r = some (Sum.inl 1) ∧ h'.1.length ≤ 1000 ∧ am_sl h'.1 ≤ 100000)
/-- what is left to prove of String constants: at the law's entry there are their addresses -/
def am_SX0 (SX : am_G → State → Prop) : Prop := ∀ {p : Program} {s : State} {m : MethodId} {meth : Method} {c : Code} {b L : Nat} {xs : Nat → Int32}, lw_At p s m meth c b L xs → ∃ ad : Nat → Nat, ∀ G : am_G, G.2.2.2.1 = s.heap.size → (∀ i, i < 6 → G.2.2.2.2 (1000000 + i) = ad i) → SX G s
theorem am_bridge {SX : am_G → State → Prop} (hSO : am_SOK SX) (hS0 : am_SX0 SX) (hP : am_Pure) {p : Program} {e : Env} {s : State} {m : MethodId} {below : List Frame} {meth : Method} {c : Code} (l : Launch) {b L : Nat} {xs : Nat → Int32} (hL : L ≤ 3072) (C0 : lw_At p s m meth c b L xs) : W p l e room_1 s m #[Value.ref b] below meth c s.heap [] 0 0 (lw_Z below #[Value.ref b] s) (entryFrame m ([Value.ref b] : List Value).toArray 4) := by
  obtain ⟨ad, hSX⟩ := hS0 C0
  obtain ⟨hx, hb, hr, hml, hown, hts, hX, hbl, hlocks, hgv⟩ := C0
  have htG : ∀ w ∈ am_TG, w.before #[Value.ref b] s = true := fun w hw => hts w (List.mem_filter.mp hw).1
  have hcl : ∀ ci : Nat, ∃ q : ClassId × (Nat → Nat), ci < 12 → u_Kn s (am_R ci) (am_T ci) (am_N ci) q.1 q.2 := by
    intro ci
    by_cases h : ci < 12
    · have hC := am_chkC_ok h
      simp only [am_chkC, Bool.and_eq_true] at hC
      obtain ⟨cC, iS, hk⟩ := u_known (C := am_R ci) (T := am_T ci) (N := am_N ci) (n := am_N ci) htG (am_lay_in h) (htG _ (am_okW_in hC.1.2))
      exact ⟨(cC, iS), fun _ => hk⟩
    · exact ⟨(0, fun _ => 0), fun w => absurd w h⟩
  obtain ⟨cf, hcf⟩ := Classical.axiomOfChoice hcl
  obtain ⟨cA, kA, comp, g1, g2, g3⟩ := Cond.arrayClass_spec (htG _ (am_okW_in am_w_arr))
  have hph : ∃ ph : Nat → Nat, ph 0 = b ∧ (∀ a, a + 1 < 900000 → ph (a + 1) = s.heap.size + a) ∧ ∀ i, i < 6 → ph (1000000 + i) = ad i := by
    refine ⟨fun a => if a = 0 then b else if a < 900000 then s.heap.size + (a - 1) else ad (a - 1000000), by simp, fun a ha => ?_, fun i hi => ?_⟩
    · show (if a + 1 = 0 then b else if a + 1 < 900000 then s.heap.size + (a + 1 - 1) else _) = _
      rw [if_neg (by omega), if_pos ha]
      rfl
    · show (if 1000000 + i = 0 then b else if 1000000 + i < 900000 then _ else ad (1000000 + i - 1000000)) = _
      rw [if_neg (by omega), if_neg (by omega), Nat.add_sub_cancel_left]
  obtain ⟨ph, p1, p2, p3⟩ := hph
  obtain ⟨n, r, h', hrun, hr1, hc1, hs1⟩ := hP L (fun j => (xs j).toInt) hL (fun j => am_ok32 _)
  let G : am_G := (fun ci => (cf ci).1, fun ci => (cf ci).2, cA, s.heap.size, ph)
  have hG : am_okG G := ⟨by show ph 0 < s.heap.size; rw [p1]; exact hbl, p2⟩
  have hW : am_WK G s := by
    refine ⟨⟨fun ci q hq => ?_, fun k q hk => ?_⟩, fun a i y hh hm => va_Nw.of rfl (hts _ hm)⟩
    · have hlen : ci < am_cl.length := (List.getElem?_eq_some_iff.mp hq).1
      have hc12 : ci < 12 := hlen
      rw [am_cl_at hc12] at hq
      cases hq
      exact hcf ci hc12
    · cases k with
      | zero =>
        cases hk
        exact ⟨fun n z => ⟨fun k h => (by cases h), kA, g2, comp, g3⟩, g1⟩
      | succ k => simp at hk
  have C : am_Cx p l e room_1 s m #[Value.ref b] below meth c G 0 := ⟨hx, hb.trans am_law_ok.2.1.symm, hml, hown, htG, fun e2 => (by exact absurd e2 (by decide +kernel)), hW, hG⟩
  have K := am_sim hSO l n hrun (by decide +kernel) (G := G) (Q := lw_Z below #[Value.ref b] s) (k0 := 1) (s0 := L) C (hSX G rfl p3) (Nat.le_refl _) (Nat.le_refl _) (by show h'.1.length - 1 ≤ 600000; omega) (by show am_sl h'.1 - L ≤ 7302250; omega) (by show 1000 + 5 ≤ 2048; omega) (by show 64 * (1000 + 5) ≤ 84000; omega) ?_
  · rw [lg_entry_eq]
    have hl := lv_entry ([Value.ref b]) (n := 4) (Nat.le_of_ble_eq_true rfl)
    have K2 := K _ s.heap [] ⟨⟨hl.1, hl.2.1, fun x hx => hl.2.2 x ?_⟩, fun v hv => (by cases hv), fun v hv => ?_, fun _ v hv => ?_, fun a j => ?_, ?_⟩ va_S.rf
    · have e1 : ([(0, L)] : List (Nat × Nat)).length - 1 = 0 := rfl
      have e2 : am_sl [(0, L)] - L = 0 := by show L + 0 - L = 0; omega
      have K3 : W p l e room_1 s m #[Value.ref b] below meth c s.heap [] (([(0, L)] : List (Nat × Nat)).length - 1) (am_sl [(0, L)] - L) (lw_Z below #[Value.ref b] s) (F0 m 0 _ []) := K2
      rw [e1, e2] at K3
      exact K3
    · have e1 : x ∈ [(0, Value.ref (ph 0))] := hx
      rw [p1] at e1
      exact e1
    · simp only [List.mem_cons, Option.some.injEq, List.not_mem_nil, or_false, reduceCtorEq] at hv
      rw [hv]
      trivial
    · simp only [List.mem_cons, Option.some.injEq, List.not_mem_nil, or_false, reduceCtorEq] at hv
      rw [hv]
      rfl
    · show am_okv (Sum.inl (if a = 0 then (xs j).toInt else 0))
      by_cases ha : a = 0
      · rw [if_pos ha]; exact am_ok32 _
      · rw [if_neg ha]; exact am_z32
    · refine ⟨rfl, Nat.one_pos, by show 1 ≤ 800000; omega, fun a ha => absurd ha (by show ¬ a + 1 < 1; omega), rfl, ?_⟩
      show va_X (ph 0) L (fun j => Int32.ofInt (if (0 : Nat) = 0 then (xs j).toInt else 0)) s s.heap
      rw [p1]
      have e3 : (fun j => Int32.ofInt (if (0 : Nat) = 0 then (xs j).toInt else 0)) = xs := by funext j; simp
      rw [e3]
      exact hX
  · intro q2 lsR H locs hRA hR1 hh1 hok1 hS
    rw [hr1] at hRA ⊢
    have hd : decode code q2 = .ok (.ireturn, 1) := by
      rcases hRA with ⟨h1, -⟩ | ⟨y, -, hd, -⟩ | ⟨y, h1, -⟩ | ⟨y, h1, -⟩
      · cases h1
      · exact hd
      · cases h1
      · cases h1
    refine va_forget (fun q hq => hS.2.2 q hq) ?_
    refine W.widen (k := 600000) (n := 7302250) (by omega) (by omega) ?_
    exact lw_ret hx hb hr hlocks hd
