/-! SOONEST, of the class -/
theorem an_sc_ext {T : Nat → Nat × Nat × Int} {o1 o2 : Nat → Nat} {n : Nat} (h : ∀ j, j < n → o1 j = o2 j) : an_sc T o1 n = an_sc T o2 n := by
  unfold an_sc
  exact am_for_ext (fun k s hk => by rw [h k hk])
theorem v_gr_lub {f : Nat → Int} {n : Nat} {B : Int} (h0 : 0 ≤ B) (hf : ∀ j, j < n → f j ≤ B) : v_gr f n ≤ B := by
  induction n with
  | zero => exact h0
  | succ n ih =>
    have h1 := ih (fun j hj => hf j (by omega))
    have h2 := hf n (by omega)
    rw [v_gr_s]
    unfold am_max
    split <;> omega
theorem v_gr_0 {f : Nat → Int} {n : Nat} : 0 ≤ v_gr f n := by
  induction n with
  | zero => exact Int.le_refl 0
  | succ n ih =>
    rw [v_gr_s]
    unfold am_max
    split <;> omega
def an_di (h0 : Nat → Nat → Int) (s : an_T) (i K U : Nat) (st : Int × Nat) (g : Nat → Nat → Int) : Prop :=
  am_keep h0 g ∧ an_tc g s ∧ (∀ p, p < 7 → g 55 p = (an_sc s.2 (an_od s.1 K) i).1 p) ∧ (∀ p, p < 7 → g 56 p = an_aU s U p) ∧ (∀ j, j < i → g 57 j = (an_od s.1 K j : Int)) ∧ g 51 8 = st.1 ∧ st.1 ≤ 1000000 ∧ (st.1 < 1000000 → ∀ j, j < s.1 → g 58 j = (an_od s.1 st.2 j : Int))
theorem an_di_fwd {h0 : Nat → Nat → Int} {s : an_T} {i K U t : Nat} {st : Int × Nat} {g : Nat → Nat → Int} (h7 : s.1 ≤ 7) (hok : an_tok 7 s) (hi : i < s.1) (ht : t < s.1) (hx : Nat.testBit U t = false) (hU : an_cu U s.1 = s.1 - i) (hb : an_bk s.1 i K U) (hd : an_di h0 s i K U st g) : an_di h0 s (i + 1) (K + an_cu U t * an_fac (s.1 - 1 - i)) (U ||| 2 ^ t) st (am_up (am_up (am_up (am_up (am_up g 55 (s.2 t).1 (an_dn s.2 t (an_sc s.2 (an_od s.1 K) i).1)) 55 (s.2 t).2.1 (an_dn s.2 t (an_sc s.2 (an_od s.1 K) i).1)) 56 (s.2 t).1 (an_aU s U (s.2 t).1 - (s.2 t).2.2)) 56 (s.2 t).2.1 (an_aU s U (s.2 t).2.1 - (s.2 t).2.2)) 57 i (t : Int)) := by
  obtain ⟨d1, d2, d3, d4, d5, d6, d7, d8⟩ := hd
  obtain ⟨b1, b2, b3⟩ := an_bk_s h7 hi hU hb ht hx
  have h1 := hok t ht
  refine ⟨am_keep_up rfl (am_keep_up rfl (am_keep_up rfl (am_keep_up rfl (am_keep_up rfl d1)))), d2, fun p hp => ?_, fun p hp => ?_, fun j hj => ?_, d6, d7, d8⟩
  · rw [an_sc_s, b2, an_sc_ext b3]
    show am_up (am_up g 55 (s.2 t).1 (an_dn s.2 t (an_sc s.2 (an_od s.1 K) i).1)) 55 (s.2 t).2.1 (an_dn s.2 t (an_sc s.2 (an_od s.1 K) i).1) 55 p = an_fs s.2 t (an_sc s.2 (an_od s.1 K) i).1 p
    unfold an_fs am_sx
    by_cases q1 : p = (s.2 t).2.1
    · rw [q1, am_up_y, if_pos rfl]
    · rw [am_up_n q1, if_neg q1]
      by_cases q2 : p = (s.2 t).1
      · rw [q2, am_up_y, if_pos rfl]
      · rw [am_up_n q2, if_neg q2]
        exact d3 p hp
  · show am_up (am_up (am_up (am_up g 55 _ _) 55 _ _) 56 (s.2 t).1 (an_aU s U (s.2 t).1 - (s.2 t).2.2)) 56 (s.2 t).2.1 (an_aU s U (s.2 t).2.1 - (s.2 t).2.2) 56 p = _
    rw [an_aU_or ht hx]
    by_cases q1 : p = (s.2 t).2.1
    · rw [q1, am_up_y, if_pos (Or.inr rfl)]
    · rw [am_up_n q1]
      by_cases q2 : p = (s.2 t).1
      · rw [q2, am_up_y, if_pos (Or.inl rfl)]
      · rw [am_up_n q2, if_neg (fun w => by rcases w with w | w <;> omega), Int.sub_zero]
        exact d4 p hp
  · show am_up (am_up (am_up (am_up (am_up g 55 _ _) 55 _ _) 56 _ _) 56 _ _) 57 i (t : Int) 57 j = _
    by_cases q : j = i
    · rw [q, am_up_y, b2]
    · rw [am_up_n q, b3 j (by omega)]
      exact d5 j (by omega)
theorem an_di_bwd {h0 : Nat → Nat → Int} {s : an_T} {i K U t : Nat} {st : Int × Nat} {g : Nat → Nat → Int} (h7 : s.1 ≤ 7) (hok : an_tok 7 s) (hi : i < s.1) (ht : t < s.1) (hx : Nat.testBit U t = false) (hU : an_cu U s.1 = s.1 - i) (hb : an_bk s.1 i K U) (hd : an_di h0 s (i + 1) (K + an_cu U t * an_fac (s.1 - 1 - i)) (U ||| 2 ^ t) st g) : an_di h0 s i K U st (am_up (am_up (am_up (am_up g 55 (s.2 t).1 ((an_sc s.2 (an_od s.1 K) i).1 (s.2 t).1)) 55 (s.2 t).2.1 ((an_sc s.2 (an_od s.1 K) i).1 (s.2 t).2.1)) 56 (s.2 t).1 (an_aU s (U ||| 2 ^ t) (s.2 t).1 + (s.2 t).2.2)) 56 (s.2 t).2.1 (an_aU s (U ||| 2 ^ t) (s.2 t).2.1 + (s.2 t).2.2)) := by
  obtain ⟨d1, d2, d3, d4, d5, d6, d7, d8⟩ := hd
  obtain ⟨b1, b2, b3⟩ := an_bk_s h7 hi hU hb ht hx
  have h1 := hok t ht
  refine ⟨am_keep_up rfl (am_keep_up rfl (am_keep_up rfl (am_keep_up rfl d1))), d2, fun p hp => ?_, fun p hp => ?_, fun j hj => ?_, d6, d7, d8⟩
  · have h2 := d3 p hp
    rw [an_sc_s, b2, an_sc_ext b3] at h2
    have h3 : g 55 p = an_fs s.2 t (an_sc s.2 (an_od s.1 K) i).1 p := h2
    show am_up (am_up g 55 (s.2 t).1 ((an_sc s.2 (an_od s.1 K) i).1 (s.2 t).1)) 55 (s.2 t).2.1 ((an_sc s.2 (an_od s.1 K) i).1 (s.2 t).2.1) 55 p = _
    by_cases q1 : p = (s.2 t).2.1
    · rw [q1, am_up_y]
    · rw [am_up_n q1]
      by_cases q2 : p = (s.2 t).1
      · rw [q2, am_up_y]
      · rw [am_up_n q2, h3]
        exact (an_fs_up (T := s.2) (t := t) (p := p) (F := (an_sc s.2 (an_od s.1 K) i).1) (by omega)).2 (fun w => by rcases w with w | w <;> omega)
  · have h2 := d4 p hp
    show am_up (am_up (am_up (am_up g 55 _ _) 55 _ _) 56 (s.2 t).1 (an_aU s (U ||| 2 ^ t) (s.2 t).1 + (s.2 t).2.2)) 56 (s.2 t).2.1 (an_aU s (U ||| 2 ^ t) (s.2 t).2.1 + (s.2 t).2.2) 56 p = _
    by_cases q1 : p = (s.2 t).2.1
    · rw [q1, am_up_y, an_aU_or ht hx, if_pos (Or.inr rfl)]; omega
    · rw [am_up_n q1]
      by_cases q2 : p = (s.2 t).1
      · rw [q2, am_up_y, an_aU_or ht hx, if_pos (Or.inl rfl)]; omega
      · rw [am_up_n q2]
        rw [an_aU_or ht hx, if_neg (fun w => by rcases w with w | w <;> omega), Int.sub_zero] at h2
        exact h2
  · have h2 := d5 j (by omega)
    rw [b3 j hj] at h2
    exact h2
theorem sp_Square_notSoonerThan {d L kp : Nat} {h : Nat → Nat → Int} {Q : Option am_V → am_H → Prop} {F A : Nat → Int} (hd : 1 ≤ d) (hF : ∀ p, p < 7 → h 55 p = F p ∧ 0 ≤ F p ∧ F p ≤ 100000) (hA : ∀ p, p < 7 → h 56 p = A p ∧ 0 ≤ A p ∧ A p ≤ 100000) : am_Wp d 100 0 [some (Sum.inr (Sum.inr 51)), none, none] [] (am_SH L, h, am_RR kp) Q = Q (some (Sum.inl (v_gr (fun p => F p + A p) 7))) (am_SH L, h, am_RR kp) := by
  rw [bq_Square_notSoonerThan_0]
  refine am_up_eq (n := 7) (fun p => am_Wp d 100 4 [some (Sum.inr (Sum.inr 51)), some (Sum.inl (v_gr (fun p => F p + A p) p)), some (Sum.inl ((p : Int)))] [] (am_SH L, h, am_RR kp) Q) _ (fun p hp => ?_) ?_
  · show am_Wp d 100 4 [some (Sum.inr (Sum.inr 51)), some (Sum.inl (v_gr (fun p => F p + A p) p)), some (Sum.inl ((p : Int)))] [] (am_SH L, h, am_RR kp) Q = am_Wp d 100 4 [some (Sum.inr (Sum.inr 51)), some (Sum.inl (v_gr (fun p => F p + A p) (p + 1))), some (Sum.inl (((p + 1 : Nat) : Int)))] [] (am_SH L, h, am_RR kp) Q
    have h1 := hF p hp
    have h2 := hA p hp
    refine (bq_Square_notSoonerThan_4 (by omega)).trans ?_
    rw [if_neg (by omega), sp_at_55, am_lk_nat (by omega), h1.1]
    simp only [Option.toList_some, Option.toList_none, List.cons_append, List.nil_append]
    rw [bq_Square_notSoonerThan_19 (by omega), sp_at_56, am_lk_nat (by omega), h2.1]
    simp only [Option.toList_some, Option.toList_none, List.cons_append, List.nil_append]
    rw [bq_Square_notSoonerThan_27, am_incn (by omega), am_add_ok (by omega) (by omega), v_gr_s]
  · show am_Wp d 100 4 [some (Sum.inr (Sum.inr 51)), some (Sum.inl (v_gr (fun p => F p + A p) 7)), some (Sum.inl (((7 : Nat) : Int)))] [] (am_SH L, h, am_RR kp) Q = _
    refine (bq_Square_notSoonerThan_4 (by omega)).trans ?_
    rw [if_pos (by omega)]
theorem sp_Square_tellTwo {d L kp : Nat} {h : Nat → Nat → Int} {Q : Option am_V → am_H → Prop} {s : an_T} {t : Nat} {x y z : Int} (hd : 2 ≤ d) (ht : an_tc h s) (hok : an_tok 7 s) (h21 : s.1 ≤ 21) (hlt : t < s.1) (hA : ∀ p, p < 7 → 0 ≤ h 56 p ∧ h 56 p ≤ 100000) (hz : -1000 ≤ z ∧ z ≤ 1000) : am_Wp d 101 0 [some (Sum.inr (Sum.inr 51)), some (Sum.inl (t : Int)), some (Sum.inl x), some (Sum.inl y), some (Sum.inl z)] [] (am_SH L, h, am_RR kp) Q = Q none (am_SH L, (am_up (am_up (am_up (am_up h 55 (s.2 t).1 x) 55 (s.2 t).2.1 y) 56 (s.2 t).1 (h 56 (s.2 t).1 + z)) 56 (s.2 t).2.1 (h 56 (s.2 t).2.1 + z)), am_RR kp) := by
  have h1 := ht.2 t hlt
  have h2 := hok t hlt
  have b1 := hA (s.2 t).1 (by omega)
  have b2 := hA (s.2 t).2.1 (by omega)
  rw [bq_Square_tellTwo_0 (by omega), sp_at_52, am_lk_nat (by omega), h1.1]
  simp only [Option.toList_some, Option.toList_none, List.cons_append, List.nil_append]
  rw [bq_Square_tellTwo_12 (by omega), sp_put_55, am_put_nat (by omega)]
  simp only [Option.toList_some, Option.toList_none, List.cons_append, List.nil_append]
  have f1 : am_up h 55 (s.2 t).1 x 53 t = ((s.2 t).2.1 : Int) := h1.2.1
  rw [bq_Square_tellTwo_16 (by omega), sp_at_53, am_lk_nat (by omega), f1]
  simp only [Option.toList_some, Option.toList_none, List.cons_append, List.nil_append]
  rw [bq_Square_tellTwo_28 (by omega), sp_put_55, am_put_nat (by omega)]
  simp only [Option.toList_some, Option.toList_none, List.cons_append, List.nil_append]
  have f2 : am_up (am_up h 55 (s.2 t).1 x) 55 (s.2 t).2.1 y 52 t = ((s.2 t).1 : Int) := h1.1
  rw [bq_Square_tellTwo_32 (by omega), sp_at_52, am_lk_nat (by omega), f2]
  simp only [Option.toList_some, Option.toList_none, List.cons_append, List.nil_append]
  have f3 : am_up (am_up h 55 (s.2 t).1 x) 55 (s.2 t).2.1 y 56 (s.2 t).1 = h 56 (s.2 t).1 := rfl
  rw [bq_Square_tellTwo_44 (by omega), sp_increase_56 (by omega), am_put_nat (by omega), am_lk_nat (by omega), f3, am_add_ok (by omega) (by omega)]
  simp only [Option.toList_some, Option.toList_none, List.cons_append, List.nil_append]
  have f4 : am_up (am_up (am_up h 55 (s.2 t).1 x) 55 (s.2 t).2.1 y) 56 (s.2 t).1 (h 56 (s.2 t).1 + z) 53 t = ((s.2 t).2.1 : Int) := h1.2.1
  rw [bq_Square_tellTwo_49 (by omega), sp_at_53, am_lk_nat (by omega), f4]
  simp only [Option.toList_some, Option.toList_none, List.cons_append, List.nil_append]
  have f5 : am_up (am_up (am_up h 55 (s.2 t).1 x) 55 (s.2 t).2.1 y) 56 (s.2 t).1 (h 56 (s.2 t).1 + z) 56 (s.2 t).2.1 = h 56 (s.2 t).2.1 := by
    rw [am_up_n (by omega)]
    rfl
  rw [bq_Square_tellTwo_61 (by omega), sp_increase_56 (by omega), am_put_nat (by omega), am_lk_nat (by omega), f5, am_add_ok (by omega) (by omega)]
  simp only [Option.toList_some, Option.toList_none, List.cons_append, List.nil_append]
  rw [bq_Square_tellTwo_66]
theorem lp_Square_tryRest {L kp : Nat} {h0 : Nat → Nat → Int} {s : an_T} (h7 : s.1 ≤ 7) (hok : an_tok 7 s) : ∀ (r i d K U : Nat) (st : Int × Nat) (g : Nat → Nat → Int) (Q : Option am_V → am_H → Prop), i + r = s.1 → r + 5 ≤ d → U < 2 ^ 7 → an_bk s.1 i K U → an_cu U s.1 = s.1 - i → K + an_fac (s.1 - i) ≤ an_fac s.1 → an_di h0 s i K U st g → (∀ g', an_di h0 s i K U (an_fl (an_oe s) K (an_fac (s.1 - i)) st) g' → Q none (am_SH L, g', am_RR kp)) → am_Wp d 99 0 [some (Sum.inr (Sum.inr 51)), some (Sum.inl ((i : Int))), some (Sum.inl ((U : Int))), none, none, none, none, none, none] [] (am_SH L, g, am_RR kp) Q := by
  intro r
  induction r with
  | zero =>
    intro i d K U st g Q hir hdp hU7 hb hU hKf hd hq
    have him : i = s.1 := by omega
    subst him
    have hd0 := hd
    obtain ⟨d1, d2, d3, d4, d5, d6, d7, d8⟩ := hd
    have hf1 : an_fac (s.1 - s.1) = 1 := by rw [Nat.sub_self]; rfl
    have hKk : K < an_fac s.1 := by omega
    have hod : ∀ j, j < s.1 → an_od s.1 K j < s.1 := fun j hj => (an_od_in h7 hKk hj).1
    have hle := an_sc_le (T := s.2) (ord := an_od s.1 K) (n := s.1) (m := 7) hok hod s.1 (Nat.le_refl _)
    have hA0 : ∀ p, an_aU s U p = 0 := fun p => an_aU_f (by omega)
    have hgr : v_gr (fun p => (an_sc s.2 (an_od s.1 K) s.1).1 p + an_aU s U p) 7 = an_oe s K := by
      have h1 : v_gr (fun p => (an_sc s.2 (an_od s.1 K) s.1).1 p + an_aU s U p) 7 ≤ (an_sc s.2 (an_od s.1 K) s.1).2 := v_gr_lub hle.2.1 (fun p _ => by
        show (an_sc s.2 (an_od s.1 K) s.1).1 p + an_aU s U p ≤ _
        rw [hA0, Int.add_zero]
        exact an_sc_up (m := 7) hok hod s.1 (Nat.le_refl _) p)
      have h2 : (an_sc s.2 (an_od s.1 K) s.1).2 ≤ v_gr (fun p => (an_sc s.2 (an_od s.1 K) s.1).1 p + an_aU s U p) 7 := by
        rcases an_sc_at (m := 7) hok hod s.1 (Nat.le_refl _) with h3 | ⟨p, h3, h4⟩
        · rw [h3]; exact v_gr_0
        · have h5 := v_gr_up (f := fun p => (an_sc s.2 (an_od s.1 K) s.1).1 p + an_aU s U p) h3
          have h6 : (an_sc s.2 (an_od s.1 K) s.1).1 p + an_aU s U p ≤ v_gr (fun p => (an_sc s.2 (an_od s.1 K) s.1).1 p + an_aU s U p) 7 := h5
          rw [hA0, Int.add_zero, h4] at h6
          exact h6
      exact Int.le_antisymm h1 h2
    rw [bq_Square_tryRest_0 (by omega), sp_Square_notSoonerThan (F := (an_sc s.2 (an_od s.1 K) s.1).1) (A := an_aU s U) (by omega) (fun p hp => ⟨d3 p hp, by have := hle.1 p; omega⟩) (fun p hp => ⟨d4 p hp, by rw [hA0]; omega⟩), hgr]
    simp only [Option.toList_some, Option.toList_none, List.cons_append, List.nil_append]
    rw [bq_Square_tryRest_4 (by omega), d6]
    rw [hf1, an_fl_s, an_fl_0] at hq
    unfold an_up at hq
    rw [Nat.add_zero] at hq
    by_cases q1 : st.1 ≤ an_oe s K
    · rw [if_neg (show ¬ an_oe s K < st.1 by omega)] at hq
      rw [if_pos q1, bq_Square_tryRest_19]
      exact hq g hd0
    · rw [if_pos (show an_oe s K < st.1 by omega)] at hq
      have t0 : g 51 0 = (s.1 : Int) := d2.1
      rw [if_neg q1, if_pos (by omega), t0, if_neg (by omega), sp_copy_57_58]
      simp only [Option.toList_some, Option.toList_none, List.cons_append, List.nil_append]
      rw [bq_Square_tryRest_44]
      refine hq _ ⟨am_keep_cpy (fun _ => rfl) (am_keep_up rfl d1), d2, d3, d4, d5, rfl, ?_, fun _ j hj => ?_⟩
      · show an_oe s K ≤ 1000000; omega
      · show (if j < 7 then g 57 j else _) = _
        rw [if_pos (by omega)]
        exact d5 j hj
  | succ r ih =>
    intro i d K U st g Q hir hdp hU7 hb hU hKf hd hq
    have hd0 := hd
    obtain ⟨d1, d2, d3, d4, d5, d6, d7, d8⟩ := hd
    have hf := an_fac_pos (n := s.1 - i)
    have hf2 := an_fac_pos (n := s.1 - 1 - i)
    have hfs := an_fac_s (m := s.1) (i := i) (by omega)
    have hKk : K < an_fac s.1 := by omega
    have hod : ∀ j, j < s.1 → an_od s.1 K j < s.1 := fun j hj => (an_od_in h7 hKk hj).1
    have hle := an_sc_le (T := s.2) (ord := an_od s.1 K) (n := s.1) (m := 7) hok hod i (by omega)
    have hAl := fun p => an_aU_le hok h7 U p
    have hlb : ∀ q, q < an_fac (s.1 - i) → v_gr (fun p => (an_sc s.2 (an_od s.1 K) i).1 p + an_aU s U p) 7 ≤ an_oe s (K + q) := fun q hq2 => by
      have hk2 : K + q < an_fac s.1 := by omega
      have h1 := hb q hq2
      have hod2 : ∀ j, j < s.1 → an_od s.1 (K + q) j < s.1 := fun j hj => (an_od_in h7 hk2 hj).1
      have h0e := an_sc_le (T := s.2) (ord := an_od s.1 (K + q)) (n := s.1) (m := 7) hok hod2 s.1 (Nat.le_refl _)
      refine v_gr_lub h0e.2.1 (fun p _ => ?_)
      have h2 := an_lb (T := s.2) (m := 7) hok h7 hk2 p (s.1 - i) i (by omega)
      rw [h1.1, an_sc_ext h1.2] at h2
      exact h2
    have t0 : g 51 0 = (s.1 : Int) := d2.1
    rw [bq_Square_tryRest_0 (by omega), sp_Square_notSoonerThan (F := (an_sc s.2 (an_od s.1 K) i).1) (A := an_aU s U) (by omega) (fun p hp => ⟨d3 p hp, by have := hle.1 p; omega⟩) (fun p hp => ⟨d4 p hp, by have := hAl p; omega⟩)]
    simp only [Option.toList_some, Option.toList_none, List.cons_append, List.nil_append]
    rw [bq_Square_tryRest_4 (by omega), d6]
    by_cases q1 : st.1 ≤ v_gr (fun p => (an_sc s.2 (an_od s.1 K) i).1 p + an_aU s U p) 7
    · rw [if_pos q1, bq_Square_tryRest_19]
      have hid := an_fl_id (e := (an_oe s)) (K := K) (N := an_fac (s.1 - i)) (s := st) (fun q hq2 => by have := hlb q hq2; omega)
      rw [hid] at hq
      exact hq g hd0
    · rw [if_neg q1, if_pos (by omega), t0, if_pos (by omega)]
      have key := am_im_fr (J := (Nat → Nat → Int) × Option am_V × Option am_V × Option am_V × Option am_V) (a := 0) (n := s.1) (fun t j => an_di h0 s i K U (an_fl (an_oe s) K (an_cu U t * an_fac (s.1 - 1 - i)) st) j.1) (fun t j => am_Wp d 99 48 [some (Sum.inr (Sum.inr 51)), some (Sum.inl ((i : Int))), some (Sum.inl ((U : Int))), some (Sum.inl (v_gr (fun p => (an_sc s.2 (an_od s.1 K) i).1 p + an_aU s U p) 7)), some (Sum.inl ((t : Int))), j.2.1, j.2.2.1, j.2.2.2.1, j.2.2.2.2] [] (am_SH L, j.1, am_RR kp) Q) (by omega) (fun t j _ ht hj iht => ?_) (fun j hj => ?_)
      · refine key (g, none, none, none, none) ?_
        show an_di h0 s i K U (an_fl (an_oe s) K (an_cu U 0 * an_fac (s.1 - 1 - i)) st) g
        rw [show an_cu U 0 = 0 from rfl, Nat.zero_mul, an_fl_0]
        exact hd0
      · obtain ⟨f, j5, j6, j7, j8⟩ := j
        have hj2 : an_di h0 s i K U (an_fl (an_oe s) K (an_cu U t * an_fac (s.1 - 1 - i)) st) f := hj
        clear hj
        have hj0 := hj2
        obtain ⟨c1, c2, c3, c4, c5, c6, c7, c8⟩ := hj2
        have f0 : f 51 0 = (s.1 : Int) := c2.1
        show am_Wp d 99 48 [some (Sum.inr (Sum.inr 51)), some (Sum.inl ((i : Int))), some (Sum.inl ((U : Int))), some (Sum.inl (v_gr (fun p => (an_sc s.2 (an_od s.1 K) i).1 p + an_aU s U p) 7)), some (Sum.inl ((t : Int))), j5, j6, j7, j8] [] (am_SH L, f, am_RR kp) Q
        rw [bq_Square_tryRest_48 (by omega), f0, if_neg (by omega), sp_has, am_has_tb (by omega) (by omega)]
        simp only [Option.toList_some, Option.toList_none, List.cons_append, List.nil_append]
        rw [bq_Square_tryRest_63 (by omega)]
        cases hx : Nat.testBit U t with
        | true =>
          rw [if_neg am_b0, bq_Square_tryRest_183, am_incn (by omega)]
          refine iht (f, j5, j6, j7, j8) ?_
          show an_di h0 s i K U (an_fl (an_oe s) K (an_cu U (t + 1) * an_fac (s.1 - 1 - i)) st) f
          rw [an_cu_s, hx]
          exact hj0
        | false =>
          have h1 := c2.2 t ht
          have h2 := hok t ht
          have hFa := hle.1 (s.2 t).1
          have hFb := hle.1 (s.2 t).2.1
          have hF2 : ∀ p, p < 7 → 0 ≤ f 55 p ∧ f 55 p ≤ 100000 := fun p hp => by rw [c3 p hp]; have := hle.1 p; omega
          have edn : an_dn s.2 t (f 55) = an_dn s.2 t (an_sc s.2 (an_od s.1 K) i).1 := by
            unfold an_dn
            rw [c3 _ (by omega), c3 _ (by omega)]
          rw [if_pos am_bif, sp_at_52, am_lk_nat (by omega), h1.1]
          simp only [Option.toList_some, Option.toList_none, List.cons_append, List.nil_append]
          rw [bq_Square_tryRest_78 (by omega), sp_at_53, am_lk_nat (by omega), h1.2.1]
          simp only [Option.toList_some, Option.toList_none, List.cons_append, List.nil_append]
          rw [bq_Square_tryRest_89 (by omega), sp_at_55, am_lk_nat (by omega), c3 _ (by omega)]
          simp only [Option.toList_some, Option.toList_none, List.cons_append, List.nil_append]
          rw [bq_Square_tryRest_100 (by omega), sp_at_55, am_lk_nat (by omega), c3 _ (by omega)]
          simp only [Option.toList_some, Option.toList_none, List.cons_append, List.nil_append]
          rw [bq_Square_tryRest_111 (by omega), sp_Square_doneAt (by omega) c2 hok (by omega) ht hF2, edn]
          simp only [Option.toList_some, Option.toList_none, List.cons_append, List.nil_append]
          rw [bq_Square_tryRest_122 (by omega), sp_Square_doneAt (by omega) c2 hok (by omega) ht hF2, edn]
          simp only [Option.toList_some, Option.toList_none, List.cons_append, List.nil_append]
          rw [bq_Square_tryRest_128 (by omega), sp_at_54, am_lk_nat (by omega), h1.2.2]
          simp only [Option.toList_some, Option.toList_none, List.cons_append, List.nil_append]
          rw [bq_Square_tryRest_137 (by omega), am_neg_ok (by omega) (by omega), sp_Square_tellTwo (by omega) c2 hok (by omega) ht (fun p hp => by rw [c4 p hp]; have := hAl p; omega) (by omega), c4 _ (by omega), c4 _ (by omega), ← Int.sub_eq_add_neg, ← Int.sub_eq_add_neg]
          simp only [Option.toList_some, Option.toList_none, List.cons_append, List.nil_append]
          rw [bq_Square_tryRest_141 (by omega), sp_put_57, am_put_nat (by omega)]
          simp only [Option.toList_some, Option.toList_none, List.cons_append, List.nil_append]
          have hp2 : 2 ^ t < 2 ^ 7 := Nat.pow_lt_pow_right (by omega) (by omega)
          have hor : U ||| 2 ^ t < 2 ^ 7 := Nat.or_lt_two_pow hU7 hp2
          have hfwd := an_di_fwd h7 hok (by omega) ht hx hU hb hj0
          obtain ⟨bb1, bb2, bb3⟩ := an_bk_s h7 (by omega) hU hb ht hx
          have hcu := an_cu_or ht hx
          have hclt := an_cu_lt ht hx
          have hKK : K + an_cu U t * an_fac (s.1 - 1 - i) + an_fac (s.1 - (i + 1)) ≤ an_fac s.1 := by
            rw [show s.1 - (i + 1) = s.1 - 1 - i by omega]
            have h3 : (an_cu U t + 1) * an_fac (s.1 - 1 - i) ≤ (s.1 - i) * an_fac (s.1 - 1 - i) := Nat.mul_le_mul_right _ (by omega)
            rw [Nat.add_mul, Nat.one_mul, Nat.mul_comm (s.1 - i), ← hfs] at h3
            omega
          rw [bq_Square_tryRest_151 (by omega), am_incn (by omega), am_shl1 (by omega), am_or_ok (by omega) (by omega)]
          refine ih (i + 1) (d - 1) _ (U ||| 2 ^ t) _ _ _ (by omega) (by omega) hor bb1 (by omega) hKK hfwd (fun g3 hg3 => ?_)
          simp only [Option.toList_some, Option.toList_none, List.cons_append, List.nil_append]
          have hg0 := hg3
          obtain ⟨e1, e2, e3, e4, e5, e6, e7, e8⟩ := hg3
          have h3 := e2.2 t ht
          rw [bq_Square_tryRest_164 (by omega), sp_at_54, am_lk_nat (by omega), h3.2.2]
          simp only [Option.toList_some, Option.toList_none, List.cons_append, List.nil_append]
          have hAl2 := fun p => an_aU_le hok h7 (U ||| 2 ^ t) p
          rw [bq_Square_tryRest_180 (by omega), sp_Square_tellTwo (by omega) e2 hok (by omega) ht (fun p hp => by rw [e4 p hp]; have := hAl2 p; omega) (by omega), e4 _ (by omega), e4 _ (by omega)]
          simp only [Option.toList_some, Option.toList_none, List.cons_append, List.nil_append]
          rw [bq_Square_tryRest_183, am_incn (by omega)]
          refine iht (_, _, _, _, _) ?_
          have hbw := an_di_bwd h7 hok (by omega) ht hx hU hb hg0
          have efl : an_fl (an_oe s) (K + an_cu U t * an_fac (s.1 - 1 - i)) (an_fac (s.1 - (i + 1))) (an_fl (an_oe s) K (an_cu U t * an_fac (s.1 - 1 - i)) st) = an_fl (an_oe s) K (an_cu U (t + 1) * an_fac (s.1 - 1 - i)) st := by
            rw [show s.1 - (i + 1) = s.1 - 1 - i by omega, ← an_fl_a, an_cu_s, hx]
            show an_fl (an_oe s) K (an_cu U t * an_fac (s.1 - 1 - i) + an_fac (s.1 - 1 - i)) st = an_fl (an_oe s) K ((an_cu U t + 1) * an_fac (s.1 - 1 - i)) st
            rw [Nat.add_mul, Nat.one_mul]
          rw [efl] at hbw
          exact hbw
      · have hj2 : an_di h0 s i K U (an_fl (an_oe s) K (an_cu U s.1 * an_fac (s.1 - 1 - i)) st) j.1 := hj
        have f0 : j.1 51 0 = (s.1 : Int) := hj2.2.1.1
        refine (show _ = _ from bq_Square_tryRest_48 (by omega)).mpr ?_
        rw [f0, if_pos (by omega)]
        refine hq j.1 ?_
        rw [hfs, Nat.mul_comm, ← hU]
        exact hj2
def v_sn (V : am_Vw) : Int × Nat := an_fl (an_oe (v_twos V)) 0 (an_fac (v_twos V).1) (1000000, 0)
def a_square (V : am_Vw) (w : Int) : am_V × Nat := if w = 0 then (Sum.inl (v_ris V), 0) else if w = 1 then (if 7 < (v_twos V).1 then (Sum.inl (-3), 3) else (Sum.inl (v_sn V).1, 0)) else (Sum.inl (-2), 2)
def a_soonest (V : am_Vw) (i : Int) : am_V × Nat := if i < 0 then (Sum.inl (-4), 4) else if 7 < (v_twos V).1 then (Sum.inl (-3), 3) else if ((v_twos V).1 : Int) ≤ i then (Sum.inl (-9), 0) else (Sum.inl ((10 * ((v_twos V).2 (an_od (v_twos V).1 (v_sn V).2 i.toNat)).1 + ((v_twos V).2 (an_od (v_twos V).1 (v_sn V).2 i.toNat)).2.1 : Nat) : Int), 0)
theorem sp_Square_findSoonest {d L kp : Nat} {h : Nat → Nat → Int} {Q : Option am_V → am_H → Prop} {s : an_T} (hd : 20 ≤ d) (ht : an_tw h s) (hok : an_tok 7 s) (h7 : s.1 ≤ 7) (hq : ∀ g, am_keep h g → an_tc g s → g 51 8 = (an_fl (an_oe s) 0 (an_fac s.1) (1000000, 0)).1 → ((an_fl (an_oe s) 0 (an_fac s.1) (1000000, 0)).1 < 1000000 → ∀ j, j < s.1 → g 58 j = (an_od s.1 (an_fl (an_oe s) 0 (an_fac s.1) (1000000, 0)).2 j : Int)) → Q none (am_SH L, g, am_RR kp)) : am_Wp d 98 0 [some (Sum.inr (Sum.inr 51))] [] (am_SH L, h, am_RR kp) Q := by
  rw [bq_Square_findSoonest_0 (by omega), sp_fill_55]
  simp only [Option.toList_some, Option.toList_none, List.cons_append, List.nil_append]
  have hc0 : ∀ m, an_cu 0 m = m := by
    intro m
    induction m with
    | zero => rfl
    | succ m ih => rw [an_cu_s, ih, Nat.zero_testBit]; rfl
  rw [bq_Square_findSoonest_8 (by omega)]
  refine lp_Square_tryRest (h0 := h) h7 hok s.1 0 (d - 1) 0 0 (1000000, 0) _ _ (by omega) (by omega) (by decide) an_bk_0 (hc0 _) (by rw [Nat.sub_zero]; omega) ⟨?_, ht.1, fun p hp => ?_, fun p hp => ?_, fun j hj => absurd hj (Nat.not_lt_zero j), rfl, Int.le_refl _, fun w => absurd w (Int.lt_irrefl _)⟩ (fun g hg => ?_)
  · exact am_keep_up rfl (am_keep_fill (fun _ => rfl) am_keep_r)
  · show (if p < 7 then (0 : Int) else h 55 p) = 0
    rw [if_pos hp]
  · rw [an_aU_0]
    exact ht.2 p hp
  · simp only [Option.toList_some, Option.toList_none, List.cons_append, List.nil_append]
    rw [bq_Square_findSoonest_20]
    obtain ⟨e1, e2, e3, e4, e5, e6, e7, e8⟩ := hg
    rw [Nat.sub_zero] at e6 e8
    exact hq g e1 e2 e6 e8