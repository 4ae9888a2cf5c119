/-! THE LAW'S LOOP -/
theorem am_ifP {c : Prop} [Decidable c] {A B : Prop} (h1 : c → A) (h2 : B) : (if c then A else B) := by
  by_cases q : c
  · rw [if_pos q]; exact h1 q
  · rw [if_neg q]; exact h2
theorem am_lcmp0 {x : Int} : am_lcmp x x = 0 := by
  unfold am_lcmp
  rw [if_neg (by omega), if_pos rfl]
theorem law_feed {d L kp n : Nat} {h : Nat → Nat → Int} {Q : Option am_V → am_H → Prop} (hd : 31 ≤ d) (hL : L < 100000) (hn : n + 6 ≤ L) (hi : am_INV (c_S h) (m_S h)) (ih : ∀ g kp, am_INV (c_S g) (m_S g) → g 0 = h 0 → am_Wp d 0 18 [some (Sum.inr (Sum.inr 0)), some (Sum.inr (Sum.inr 1)), some (Sum.inr (Sum.inr 70)), some (Sum.inl ((n + 6 : Nat) : Int))] [] (am_SH L, g, am_RR kp) Q) : am_Wp d 0 256 [some (Sum.inr (Sum.inr 0)), some (Sum.inr (Sum.inr 1)), some (Sum.inr (Sum.inr 70)), some (Sum.inl (n : Int))] [] (am_SH L, h, am_RR kp) Q := by
  have a1 : am_add (n : Int) 1 = ((n + 1 : Nat) : Int) := by rw [am_add_ok (by omega) (by omega)]; omega
  obtain ⟨r, c, m, ⟨x, rfl⟩, s1, s2, s3⟩ := p_feed (d := d - 1) (v := h 0 (n + 1)) (by omega) h hi
  rw [bq_Law_law_256 (by omega), a1, am_gd (by omega) (by omega), Int.toNat_natCast]
  refine s1 L kp _ (fun g kq g0 gc gm => ?_)
  simp only [Option.toList_some, Option.toList_none, List.cons_append, List.nil_append]
  rw [bq_Law_law_265 (by omega), a1, am_gd (by omega) (by omega), Int.toNat_natCast, g0]
  refine s2 g gc gm L kq _ (fun g2 kq2 k0 k1 k2 => ?_)
  simp only [Option.toList_some, Option.toList_none, List.cons_append, List.nil_append]
  rw [bq_Law_law_274, if_pos rfl, bq_Law_law_1454, show am_add (n : Int) 6 = ((n + 6 : Nat) : Int) by rw [am_add_ok (by omega) (by omega)]; omega]
  exact ih g2 kq2 (by rw [k1, k2, gc]; exact s3) (k0.trans g0)
theorem law_street {d L kp n : Nat} {h : Nat → Nat → Int} {Q : Option am_V → am_H → Prop} (hd : 31 ≤ d) (hL : L < 100000) (hn : n + 6 ≤ L) (hi : am_INV (c_S h) (m_S h)) (ih : ∀ g kp, am_INV (c_S g) (m_S g) → g 0 = h 0 → am_Wp d 0 18 [some (Sum.inr (Sum.inr 0)), some (Sum.inr (Sum.inr 1)), some (Sum.inr (Sum.inr 70)), some (Sum.inl ((n + 6 : Nat) : Int))] [] (am_SH L, g, am_RR kp) Q) : am_Wp d 0 279 [some (Sum.inr (Sum.inr 0)), some (Sum.inr (Sum.inr 1)), some (Sum.inr (Sum.inr 70)), some (Sum.inl (n : Int))] [] (am_SH L, h, am_RR kp) Q := by
  obtain ⟨r, c, m, ⟨x, rfl⟩, s1, s2, s3⟩ := p_street (d := d - 1) (by omega) h hi
  rw [bq_Law_law_279 (by omega)]
  refine s1 L kp _ (fun g kq g0 gc gm => ?_)
  simp only [Option.toList_some, Option.toList_none, List.cons_append, List.nil_append]
  rw [bq_Law_law_283 (by omega)]
  refine s2 g gc gm L kq _ (fun g2 kq2 k0 k1 k2 => ?_)
  simp only [Option.toList_some, Option.toList_none, List.cons_append, List.nil_append]
  rw [bq_Law_law_287, if_pos rfl, bq_Law_law_1454, show am_add (n : Int) 6 = ((n + 6 : Nat) : Int) by rw [am_add_ok (by omega) (by omega)]; omega]
  exact ih g2 kq2 (by rw [k1, k2, gc]; exact s3) (k0.trans g0)
theorem law_person {d L kp n : Nat} {h : Nat → Nat → Int} {Q : Option am_V → am_H → Prop} (hd : 31 ≤ d) (hL : L < 100000) (hn : n + 6 ≤ L) (hi : am_INV (c_S h) (m_S h)) (ih : ∀ g kp, am_INV (c_S g) (m_S g) → g 0 = h 0 → am_Wp d 0 18 [some (Sum.inr (Sum.inr 0)), some (Sum.inr (Sum.inr 1)), some (Sum.inr (Sum.inr 70)), some (Sum.inl ((n + 6 : Nat) : Int))] [] (am_SH L, g, am_RR kp) Q) : am_Wp d 0 292 [some (Sum.inr (Sum.inr 0)), some (Sum.inr (Sum.inr 1)), some (Sum.inr (Sum.inr 70)), some (Sum.inl (n : Int))] [] (am_SH L, h, am_RR kp) Q := by
  have a1 : am_add (n : Int) 1 = ((n + 1 : Nat) : Int) := by rw [am_add_ok (by omega) (by omega)]; omega
  have a2 : am_add (n : Int) 2 = ((n + 2 : Nat) : Int) := by rw [am_add_ok (by omega) (by omega)]; omega
  obtain ⟨r, c, m, ⟨x, rfl⟩, s1, s2, s3⟩ := p_person (d := d - 1) (i := h 0 (n + 1)) (w := h 0 (n + 2)) (by omega) h hi
  rw [bq_Law_law_292 (by omega), a1, a2, am_gd (by omega) (by omega), am_gd (by omega) (by omega), Int.toNat_natCast, Int.toNat_natCast]
  refine s1 L kp _ (fun g kq g0 gc gm => ?_)
  simp only [Option.toList_some, Option.toList_none, List.cons_append, List.nil_append]
  rw [bq_Law_law_306 (by omega), a1, a2, am_gd (by omega) (by omega), am_gd (by omega) (by omega), Int.toNat_natCast, Int.toNat_natCast, g0]
  refine s2 g gc gm L kq _ (fun g2 kq2 k0 k1 k2 => ?_)
  simp only [Option.toList_some, Option.toList_none, List.cons_append, List.nil_append]
  rw [bq_Law_law_320, if_pos rfl, bq_Law_law_1454, show am_add (n : Int) 6 = ((n + 6 : Nat) : Int) by rw [am_add_ok (by omega) (by omega)]; omega]
  exact ih g2 kq2 (by rw [k1, k2, gc]; exact s3) (k0.trans g0)
theorem law_paper {d L kp n : Nat} {h : Nat → Nat → Int} {Q : Option am_V → am_H → Prop} (hd : 31 ≤ d) (hL : L < 100000) (hn : n + 6 ≤ L) (hi : am_INV (c_S h) (m_S h)) (ih : ∀ g kp, am_INV (c_S g) (m_S g) → g 0 = h 0 → am_Wp d 0 18 [some (Sum.inr (Sum.inr 0)), some (Sum.inr (Sum.inr 1)), some (Sum.inr (Sum.inr 70)), some (Sum.inl ((n + 6 : Nat) : Int))] [] (am_SH L, g, am_RR kp) Q) : am_Wp d 0 325 [some (Sum.inr (Sum.inr 0)), some (Sum.inr (Sum.inr 1)), some (Sum.inr (Sum.inr 70)), some (Sum.inl (n : Int))] [] (am_SH L, h, am_RR kp) Q := by
  have a1 : am_add (n : Int) 1 = ((n + 1 : Nat) : Int) := by rw [am_add_ok (by omega) (by omega)]; omega
  have a2 : am_add (n : Int) 2 = ((n + 2 : Nat) : Int) := by rw [am_add_ok (by omega) (by omega)]; omega
  obtain ⟨r, c, m, ⟨x, rfl⟩, s1, s2, s3⟩ := p_paper (d := d - 1) (i := h 0 (n + 1)) (w := h 0 (n + 2)) (by omega) h hi
  rw [bq_Law_law_325 (by omega), a1, a2, am_gd (by omega) (by omega), am_gd (by omega) (by omega), Int.toNat_natCast, Int.toNat_natCast]
  refine s1 L kp _ (fun g kq g0 gc gm => ?_)
  simp only [Option.toList_some, Option.toList_none, List.cons_append, List.nil_append]
  rw [bq_Law_law_339 (by omega), a1, a2, am_gd (by omega) (by omega), am_gd (by omega) (by omega), Int.toNat_natCast, Int.toNat_natCast, g0]
  refine s2 g gc gm L kq _ (fun g2 kq2 k0 k1 k2 => ?_)
  simp only [Option.toList_some, Option.toList_none, List.cons_append, List.nil_append]
  rw [bq_Law_law_353, if_pos rfl, bq_Law_law_1454, show am_add (n : Int) 6 = ((n + 6 : Nat) : Int) by rw [am_add_ok (by omega) (by omega)]; omega]
  exact ih g2 kq2 (by rw [k1, k2, gc]; exact s3) (k0.trans g0)
theorem law_unwilling {d L kp n : Nat} {h : Nat → Nat → Int} {Q : Option am_V → am_H → Prop} (hd : 31 ≤ d) (hL : L < 100000) (hn : n + 6 ≤ L) (hi : am_INV (c_S h) (m_S h)) (ih : ∀ g kp, am_INV (c_S g) (m_S g) → g 0 = h 0 → am_Wp d 0 18 [some (Sum.inr (Sum.inr 0)), some (Sum.inr (Sum.inr 1)), some (Sum.inr (Sum.inr 70)), some (Sum.inl ((n + 6 : Nat) : Int))] [] (am_SH L, g, am_RR kp) Q) : am_Wp d 0 358 [some (Sum.inr (Sum.inr 0)), some (Sum.inr (Sum.inr 1)), some (Sum.inr (Sum.inr 70)), some (Sum.inl (n : Int))] [] (am_SH L, h, am_RR kp) Q := by
  have a1 : am_add (n : Int) 1 = ((n + 1 : Nat) : Int) := by rw [am_add_ok (by omega) (by omega)]; omega
  have a2 : am_add (n : Int) 2 = ((n + 2 : Nat) : Int) := by rw [am_add_ok (by omega) (by omega)]; omega
  obtain ⟨r, c, m, ⟨x, rfl⟩, s1, s2, s3⟩ := p_unwilling (d := d - 1) (i := h 0 (n + 1)) (j := h 0 (n + 2)) (by omega) h hi
  rw [bq_Law_law_358 (by omega), a1, a2, am_gd (by omega) (by omega), am_gd (by omega) (by omega), Int.toNat_natCast, Int.toNat_natCast]
  refine s1 L kp _ (fun g kq g0 gc gm => ?_)
  simp only [Option.toList_some, Option.toList_none, List.cons_append, List.nil_append]
  rw [bq_Law_law_372 (by omega), a1, a2, am_gd (by omega) (by omega), am_gd (by omega) (by omega), Int.toNat_natCast, Int.toNat_natCast, g0]
  refine s2 g gc gm L kq _ (fun g2 kq2 k0 k1 k2 => ?_)
  simp only [Option.toList_some, Option.toList_none, List.cons_append, List.nil_append]
  rw [bq_Law_law_386, if_pos rfl, bq_Law_law_1454, show am_add (n : Int) 6 = ((n + 6 : Nat) : Int) by rw [am_add_ok (by omega) (by omega)]; omega]
  exact ih g2 kq2 (by rw [k1, k2, gc]; exact s3) (k0.trans g0)
theorem law_owe {d L kp n : Nat} {h : Nat → Nat → Int} {Q : Option am_V → am_H → Prop} (hd : 31 ≤ d) (hL : L < 100000) (hn : n + 6 ≤ L) (hi : am_INV (c_S h) (m_S h)) (ih : ∀ g kp, am_INV (c_S g) (m_S g) → g 0 = h 0 → am_Wp d 0 18 [some (Sum.inr (Sum.inr 0)), some (Sum.inr (Sum.inr 1)), some (Sum.inr (Sum.inr 70)), some (Sum.inl ((n + 6 : Nat) : Int))] [] (am_SH L, g, am_RR kp) Q) : am_Wp d 0 391 [some (Sum.inr (Sum.inr 0)), some (Sum.inr (Sum.inr 1)), some (Sum.inr (Sum.inr 70)), some (Sum.inl (n : Int))] [] (am_SH L, h, am_RR kp) Q := by
  have a1 : am_add (n : Int) 1 = ((n + 1 : Nat) : Int) := by rw [am_add_ok (by omega) (by omega)]; omega
  have a2 : am_add (n : Int) 2 = ((n + 2 : Nat) : Int) := by rw [am_add_ok (by omega) (by omega)]; omega
  have a3 : am_add (n : Int) 3 = ((n + 3 : Nat) : Int) := by rw [am_add_ok (by omega) (by omega)]; omega
  have a4 : am_add (n : Int) 4 = ((n + 4 : Nat) : Int) := by rw [am_add_ok (by omega) (by omega)]; omega
  have a5 : am_add (n : Int) 5 = ((n + 5 : Nat) : Int) := by rw [am_add_ok (by omega) (by omega)]; omega
  obtain ⟨r, c, m, ⟨x, rfl⟩, s1, s2, s3⟩ := p_owe (d := d - 1) (o := h 0 (n + 1)) (n := h 0 (n + 2)) (q := h 0 (n + 3)) (e := h 0 (n + 4)) (g := h 0 (n + 5)) (by omega) h hi
  rw [bq_Law_law_391 (by omega), a1, a2, a3, a4, a5, am_gd (by omega) (by omega), am_gd (by omega) (by omega), am_gd (by omega) (by omega), am_gd (by omega) (by omega), am_gd (by omega) (by omega), Int.toNat_natCast, Int.toNat_natCast, Int.toNat_natCast, Int.toNat_natCast, Int.toNat_natCast]
  refine s1 L kp _ (fun g kq g0 gc gm => ?_)
  simp only [Option.toList_some, Option.toList_none, List.cons_append, List.nil_append]
  rw [bq_Law_law_420 (by omega), a1, a2, a3, a4, a5, am_gd (by omega) (by omega), am_gd (by omega) (by omega), am_gd (by omega) (by omega), am_gd (by omega) (by omega), am_gd (by omega) (by omega), Int.toNat_natCast, Int.toNat_natCast, Int.toNat_natCast, Int.toNat_natCast, Int.toNat_natCast, g0]
  refine s2 g gc gm L kq _ (fun g2 kq2 k0 k1 k2 => ?_)
  simp only [Option.toList_some, Option.toList_none, List.cons_append, List.nil_append]
  rw [bq_Law_law_449, if_pos rfl, bq_Law_law_1454, show am_add (n : Int) 6 = ((n + 6 : Nat) : Int) by rw [am_add_ok (by omega) (by omega)]; omega]
  exact ih g2 kq2 (by rw [k1, k2, gc]; exact s3) (k0.trans g0)
theorem law_over {d L kp n : Nat} {h : Nat → Nat → Int} {Q : Option am_V → am_H → Prop} (hd : 31 ≤ d) (hL : L < 100000) (hn : n + 6 ≤ L) (hi : am_INV (c_S h) (m_S h)) (ih : ∀ g kp, am_INV (c_S g) (m_S g) → g 0 = h 0 → am_Wp d 0 18 [some (Sum.inr (Sum.inr 0)), some (Sum.inr (Sum.inr 1)), some (Sum.inr (Sum.inr 70)), some (Sum.inl ((n + 6 : Nat) : Int))] [] (am_SH L, g, am_RR kp) Q) : am_Wp d 0 454 [some (Sum.inr (Sum.inr 0)), some (Sum.inr (Sum.inr 1)), some (Sum.inr (Sum.inr 70)), some (Sum.inl (n : Int))] [] (am_SH L, h, am_RR kp) Q := by
  have a1 : am_add (n : Int) 1 = ((n + 1 : Nat) : Int) := by rw [am_add_ok (by omega) (by omega)]; omega
  have a2 : am_add (n : Int) 2 = ((n + 2 : Nat) : Int) := by rw [am_add_ok (by omega) (by omega)]; omega
  obtain ⟨r, c, m, ⟨x, rfl⟩, s1, s2, s3⟩ := p_over (d := d - 1) (i := h 0 (n + 1)) (t := h 0 (n + 2)) (by omega) h hi
  rw [bq_Law_law_454 (by omega), a1, a2, am_gd (by omega) (by omega), am_gd (by omega) (by omega), Int.toNat_natCast, Int.toNat_natCast]
  refine s1 L kp _ (fun g kq g0 gc gm => ?_)
  simp only [Option.toList_some, Option.toList_none, List.cons_append, List.nil_append]
  rw [bq_Law_law_468 (by omega), a1, a2, am_gd (by omega) (by omega), am_gd (by omega) (by omega), Int.toNat_natCast, Int.toNat_natCast, g0]
  refine s2 g gc gm L kq _ (fun g2 kq2 k0 k1 k2 => ?_)
  simp only [Option.toList_some, Option.toList_none, List.cons_append, List.nil_append]
  rw [bq_Law_law_482, if_pos rfl, bq_Law_law_1454, show am_add (n : Int) 6 = ((n + 6 : Nat) : Int) by rw [am_add_ok (by omega) (by omega)]; omega]
  exact ih g2 kq2 (by rw [k1, k2, gc]; exact s3) (k0.trans g0)
theorem law_go {d L kp n : Nat} {h : Nat → Nat → Int} {Q : Option am_V → am_H → Prop} (hd : 31 ≤ d) (hL : L < 100000) (hn : n + 6 ≤ L) (hi : am_INV (c_S h) (m_S h)) (ih : ∀ g kp, am_INV (c_S g) (m_S g) → g 0 = h 0 → am_Wp d 0 18 [some (Sum.inr (Sum.inr 0)), some (Sum.inr (Sum.inr 1)), some (Sum.inr (Sum.inr 70)), some (Sum.inl ((n + 6 : Nat) : Int))] [] (am_SH L, g, am_RR kp) Q) : am_Wp d 0 487 [some (Sum.inr (Sum.inr 0)), some (Sum.inr (Sum.inr 1)), some (Sum.inr (Sum.inr 70)), some (Sum.inl (n : Int))] [] (am_SH L, h, am_RR kp) Q := by
  obtain ⟨r, c, m, ⟨x, rfl⟩, s1, s2, s3⟩ := p_go (d := d - 1) (by omega) h hi
  rw [bq_Law_law_487 (by omega)]
  refine s1 L kp _ (fun g kq g0 gc gm => ?_)
  simp only [Option.toList_some, Option.toList_none, List.cons_append, List.nil_append]
  rw [bq_Law_law_491 (by omega)]
  refine s2 g gc gm L kq _ (fun g2 kq2 k0 k1 k2 => ?_)
  simp only [Option.toList_some, Option.toList_none, List.cons_append, List.nil_append]
  rw [bq_Law_law_495, if_pos rfl, bq_Law_law_1454, show am_add (n : Int) 6 = ((n + 6 : Nat) : Int) by rw [am_add_ok (by omega) (by omega)]; omega]
  exact ih g2 kq2 (by rw [k1, k2, gc]; exact s3) (k0.trans g0)
theorem law_back {d L kp n : Nat} {h : Nat → Nat → Int} {Q : Option am_V → am_H → Prop} (hd : 31 ≤ d) (hL : L < 100000) (hn : n + 6 ≤ L) (hi : am_INV (c_S h) (m_S h)) (ih : ∀ g kp, am_INV (c_S g) (m_S g) → g 0 = h 0 → am_Wp d 0 18 [some (Sum.inr (Sum.inr 0)), some (Sum.inr (Sum.inr 1)), some (Sum.inr (Sum.inr 70)), some (Sum.inl ((n + 6 : Nat) : Int))] [] (am_SH L, g, am_RR kp) Q) : am_Wp d 0 500 [some (Sum.inr (Sum.inr 0)), some (Sum.inr (Sum.inr 1)), some (Sum.inr (Sum.inr 70)), some (Sum.inl (n : Int))] [] (am_SH L, h, am_RR kp) Q := by
  obtain ⟨r, c, m, ⟨x, rfl⟩, s1, s2, s3⟩ := p_back (d := d - 1) (by omega) h hi
  rw [bq_Law_law_500 (by omega)]
  refine s1 L kp _ (fun g kq g0 gc gm => ?_)
  simp only [Option.toList_some, Option.toList_none, List.cons_append, List.nil_append]
  rw [bq_Law_law_504 (by omega)]
  refine s2 g gc gm L kq _ (fun g2 kq2 k0 k1 k2 => ?_)
  simp only [Option.toList_some, Option.toList_none, List.cons_append, List.nil_append]
  rw [bq_Law_law_508, if_pos rfl, bq_Law_law_1454, show am_add (n : Int) 6 = ((n + 6 : Nat) : Int) by rw [am_add_ok (by omega) (by omega)]; omega]
  exact ih g2 kq2 (by rw [k1, k2, gc]; exact s3) (k0.trans g0)
theorem law_owes {d L kp n : Nat} {h : Nat → Nat → Int} {Q : Option am_V → am_H → Prop} (hd : 31 ≤ d) (hL : L < 100000) (hn : n + 6 ≤ L) (hi : am_INV (c_S h) (m_S h)) (ih : ∀ g kp, am_INV (c_S g) (m_S g) → g 0 = h 0 → am_Wp d 0 18 [some (Sum.inr (Sum.inr 0)), some (Sum.inr (Sum.inr 1)), some (Sum.inr (Sum.inr 70)), some (Sum.inl ((n + 6 : Nat) : Int))] [] (am_SH L, g, am_RR kp) Q) : am_Wp d 0 513 [some (Sum.inr (Sum.inr 0)), some (Sum.inr (Sum.inr 1)), some (Sum.inr (Sum.inr 70)), some (Sum.inl (n : Int))] [] (am_SH L, h, am_RR kp) Q := by
  have a1 : am_add (n : Int) 1 = ((n + 1 : Nat) : Int) := by rw [am_add_ok (by omega) (by omega)]; omega
  have a2 : am_add (n : Int) 2 = ((n + 2 : Nat) : Int) := by rw [am_add_ok (by omega) (by omega)]; omega
  obtain ⟨r, c, m, ⟨x, rfl⟩, s1, s2, s3⟩ := p_owes (d := d - 1) (i := h 0 (n + 1)) (e := h 0 (n + 2)) (by omega) h hi
  rw [bq_Law_law_513 (by omega), a1, a2, am_gd (by omega) (by omega), am_gd (by omega) (by omega), Int.toNat_natCast, Int.toNat_natCast]
  refine s1 L kp _ (fun g kq g0 gc gm => ?_)
  simp only [Option.toList_some, Option.toList_none, List.cons_append, List.nil_append]
  rw [bq_Law_law_527 (by omega), a1, a2, am_gd (by omega) (by omega), am_gd (by omega) (by omega), Int.toNat_natCast, Int.toNat_natCast, g0]
  refine s2 g gc gm L kq _ (fun g2 kq2 k0 k1 k2 => ?_)
  simp only [Option.toList_some, Option.toList_none, List.cons_append, List.nil_append]
  rw [bq_Law_law_541, if_pos rfl, bq_Law_law_1454, show am_add (n : Int) 6 = ((n + 6 : Nat) : Int) by rw [am_add_ok (by omega) (by omega)]; omega]
  exact ih g2 kq2 (by rw [k1, k2, gc]; exact s3) (k0.trans g0)
theorem law_net {d L kp n : Nat} {h : Nat → Nat → Int} {Q : Option am_V → am_H → Prop} (hd : 31 ≤ d) (hL : L < 100000) (hn : n + 6 ≤ L) (hi : am_INV (c_S h) (m_S h)) (ih : ∀ g kp, am_INV (c_S g) (m_S g) → g 0 = h 0 → am_Wp d 0 18 [some (Sum.inr (Sum.inr 0)), some (Sum.inr (Sum.inr 1)), some (Sum.inr (Sum.inr 70)), some (Sum.inl ((n + 6 : Nat) : Int))] [] (am_SH L, g, am_RR kp) Q) : am_Wp d 0 546 [some (Sum.inr (Sum.inr 0)), some (Sum.inr (Sum.inr 1)), some (Sum.inr (Sum.inr 70)), some (Sum.inl (n : Int))] [] (am_SH L, h, am_RR kp) Q := by
  have a1 : am_add (n : Int) 1 = ((n + 1 : Nat) : Int) := by rw [am_add_ok (by omega) (by omega)]; omega
  obtain ⟨r, c, m, ⟨x, rfl⟩, s1, s2, s3⟩ := p_net (d := d - 1) (i := h 0 (n + 1)) (by omega) h hi
  rw [bq_Law_law_546 (by omega), a1, am_gd (by omega) (by omega), Int.toNat_natCast]
  refine s1 L kp _ (fun g kq g0 gc gm => ?_)
  simp only [Option.toList_some, Option.toList_none, List.cons_append, List.nil_append]
  rw [bq_Law_law_555 (by omega), a1, am_gd (by omega) (by omega), Int.toNat_natCast, g0]
  refine s2 g gc gm L kq _ (fun g2 kq2 k0 k1 k2 => ?_)
  simp only [Option.toList_some, Option.toList_none, List.cons_append, List.nil_append]
  rw [bq_Law_law_564, if_pos rfl, bq_Law_law_1454, show am_add (n : Int) 6 = ((n + 6 : Nat) : Int) by rw [am_add_ok (by omega) (by omega)]; omega]
  exact ih g2 kq2 (by rw [k1, k2, gc]; exact s3) (k0.trans g0)
theorem law_payments {d L kp n : Nat} {h : Nat → Nat → Int} {Q : Option am_V → am_H → Prop} (hd : 31 ≤ d) (hL : L < 100000) (hn : n + 6 ≤ L) (hi : am_INV (c_S h) (m_S h)) (ih : ∀ g kp, am_INV (c_S g) (m_S g) → g 0 = h 0 → am_Wp d 0 18 [some (Sum.inr (Sum.inr 0)), some (Sum.inr (Sum.inr 1)), some (Sum.inr (Sum.inr 70)), some (Sum.inl ((n + 6 : Nat) : Int))] [] (am_SH L, g, am_RR kp) Q) : am_Wp d 0 569 [some (Sum.inr (Sum.inr 0)), some (Sum.inr (Sum.inr 1)), some (Sum.inr (Sum.inr 70)), some (Sum.inl (n : Int))] [] (am_SH L, h, am_RR kp) Q := by
  obtain ⟨r, c, m, ⟨x, rfl⟩, s1, s2, s3⟩ := p_payments (d := d - 1) (by omega) h hi
  rw [bq_Law_law_569 (by omega)]
  refine s1 L kp _ (fun g kq g0 gc gm => ?_)
  simp only [Option.toList_some, Option.toList_none, List.cons_append, List.nil_append]
  rw [bq_Law_law_573 (by omega)]
  refine s2 g gc gm L kq _ (fun g2 kq2 k0 k1 k2 => ?_)
  simp only [Option.toList_some, Option.toList_none, List.cons_append, List.nil_append]
  rw [bq_Law_law_577, if_pos rfl, bq_Law_law_1454, show am_add (n : Int) 6 = ((n + 6 : Nat) : Int) by rw [am_add_ok (by omega) (by omega)]; omega]
  exact ih g2 kq2 (by rw [k1, k2, gc]; exact s3) (k0.trans g0)
theorem law_through {d L kp n : Nat} {h : Nat → Nat → Int} {Q : Option am_V → am_H → Prop} (hd : 31 ≤ d) (hL : L < 100000) (hn : n + 6 ≤ L) (hi : am_INV (c_S h) (m_S h)) (ih : ∀ g kp, am_INV (c_S g) (m_S g) → g 0 = h 0 → am_Wp d 0 18 [some (Sum.inr (Sum.inr 0)), some (Sum.inr (Sum.inr 1)), some (Sum.inr (Sum.inr 70)), some (Sum.inl ((n + 6 : Nat) : Int))] [] (am_SH L, g, am_RR kp) Q) : am_Wp d 0 582 [some (Sum.inr (Sum.inr 0)), some (Sum.inr (Sum.inr 1)), some (Sum.inr (Sum.inr 70)), some (Sum.inl (n : Int))] [] (am_SH L, h, am_RR kp) Q := by
  have a1 : am_add (n : Int) 1 = ((n + 1 : Nat) : Int) := by rw [am_add_ok (by omega) (by omega)]; omega
  obtain ⟨r, c, m, ⟨x, rfl⟩, s1, s2, s3⟩ := p_through (d := d - 1) (i := h 0 (n + 1)) (by omega) h hi
  rw [bq_Law_law_582 (by omega), a1, am_gd (by omega) (by omega), Int.toNat_natCast]
  refine s1 L kp _ (fun g kq g0 gc gm => ?_)
  simp only [Option.toList_some, Option.toList_none, List.cons_append, List.nil_append]
  rw [bq_Law_law_591 (by omega), a1, am_gd (by omega) (by omega), Int.toNat_natCast, g0]
  refine s2 g gc gm L kq _ (fun g2 kq2 k0 k1 k2 => ?_)
  simp only [Option.toList_some, Option.toList_none, List.cons_append, List.nil_append]
  rw [bq_Law_law_600, if_pos rfl, bq_Law_law_1454, show am_add (n : Int) 6 = ((n + 6 : Nat) : Int) by rw [am_add_ok (by omega) (by omega)]; omega]
  exact ih g2 kq2 (by rw [k1, k2, gc]; exact s3) (k0.trans g0)
theorem law_nobodyWill {d L kp n : Nat} {h : Nat → Nat → Int} {Q : Option am_V → am_H → Prop} (hd : 31 ≤ d) (hL : L < 100000) (hn : n + 6 ≤ L) (hi : am_INV (c_S h) (m_S h)) (ih : ∀ g kp, am_INV (c_S g) (m_S g) → g 0 = h 0 → am_Wp d 0 18 [some (Sum.inr (Sum.inr 0)), some (Sum.inr (Sum.inr 1)), some (Sum.inr (Sum.inr 70)), some (Sum.inl ((n + 6 : Nat) : Int))] [] (am_SH L, g, am_RR kp) Q) : am_Wp d 0 605 [some (Sum.inr (Sum.inr 0)), some (Sum.inr (Sum.inr 1)), some (Sum.inr (Sum.inr 70)), some (Sum.inl (n : Int))] [] (am_SH L, h, am_RR kp) Q := by
  obtain ⟨r, c, m, ⟨x, rfl⟩, s1, s2, s3⟩ := p_nobodyWill (d := d - 1) (by omega) h hi
  rw [bq_Law_law_605 (by omega)]
  refine s1 L kp _ (fun g kq g0 gc gm => ?_)
  simp only [Option.toList_some, Option.toList_none, List.cons_append, List.nil_append]
  rw [bq_Law_law_609 (by omega)]
  refine s2 g gc gm L kq _ (fun g2 kq2 k0 k1 k2 => ?_)
  simp only [Option.toList_some, Option.toList_none, List.cons_append, List.nil_append]
  rw [bq_Law_law_613, if_pos rfl, bq_Law_law_1454, show am_add (n : Int) 6 = ((n + 6 : Nat) : Int) by rw [am_add_ok (by omega) (by omega)]; omega]
  exact ih g2 kq2 (by rw [k1, k2, gc]; exact s3) (k0.trans g0)
theorem law_square {d L kp n : Nat} {h : Nat → Nat → Int} {Q : Option am_V → am_H → Prop} (hd : 31 ≤ d) (hL : L < 100000) (hn : n + 6 ≤ L) (hi : am_INV (c_S h) (m_S h)) (ih : ∀ g kp, am_INV (c_S g) (m_S g) → g 0 = h 0 → am_Wp d 0 18 [some (Sum.inr (Sum.inr 0)), some (Sum.inr (Sum.inr 1)), some (Sum.inr (Sum.inr 70)), some (Sum.inl ((n + 6 : Nat) : Int))] [] (am_SH L, g, am_RR kp) Q) : am_Wp d 0 618 [some (Sum.inr (Sum.inr 0)), some (Sum.inr (Sum.inr 1)), some (Sum.inr (Sum.inr 70)), some (Sum.inl (n : Int))] [] (am_SH L, h, am_RR kp) Q := by
  have a1 : am_add (n : Int) 1 = ((n + 1 : Nat) : Int) := by rw [am_add_ok (by omega) (by omega)]; omega
  obtain ⟨r, c, m, ⟨x, rfl⟩, s1, s2, s3⟩ := p_square (d := d - 1) (i := h 0 (n + 1)) (by omega) h hi
  rw [bq_Law_law_618 (by omega), a1, am_gd (by omega) (by omega), Int.toNat_natCast]
  refine s1 L kp _ (fun g kq g0 gc gm => ?_)
  simp only [Option.toList_some, Option.toList_none, List.cons_append, List.nil_append]
  rw [bq_Law_law_627 (by omega), a1, am_gd (by omega) (by omega), Int.toNat_natCast, g0]
  refine s2 g gc gm L kq _ (fun g2 kq2 k0 k1 k2 => ?_)
  simp only [Option.toList_some, Option.toList_none, List.cons_append, List.nil_append]
  rw [bq_Law_law_636, if_pos rfl, bq_Law_law_1454, show am_add (n : Int) 6 = ((n + 6 : Nat) : Int) by rw [am_add_ok (by omega) (by omega)]; omega]
  exact ih g2 kq2 (by rw [k1, k2, gc]; exact s3) (k0.trans g0)
theorem law_soonest {d L kp n : Nat} {h : Nat → Nat → Int} {Q : Option am_V → am_H → Prop} (hd : 31 ≤ d) (hL : L < 100000) (hn : n + 6 ≤ L) (hi : am_INV (c_S h) (m_S h)) (ih : ∀ g kp, am_INV (c_S g) (m_S g) → g 0 = h 0 → am_Wp d 0 18 [some (Sum.inr (Sum.inr 0)), some (Sum.inr (Sum.inr 1)), some (Sum.inr (Sum.inr 70)), some (Sum.inl ((n + 6 : Nat) : Int))] [] (am_SH L, g, am_RR kp) Q) : am_Wp d 0 641 [some (Sum.inr (Sum.inr 0)), some (Sum.inr (Sum.inr 1)), some (Sum.inr (Sum.inr 70)), some (Sum.inl (n : Int))] [] (am_SH L, h, am_RR kp) Q := by
  have a1 : am_add (n : Int) 1 = ((n + 1 : Nat) : Int) := by rw [am_add_ok (by omega) (by omega)]; omega
  obtain ⟨r, c, m, ⟨x, rfl⟩, s1, s2, s3⟩ := p_soonest (d := d - 1) (i := h 0 (n + 1)) (by omega) h hi
  rw [bq_Law_law_641 (by omega), a1, am_gd (by omega) (by omega), Int.toNat_natCast]
  refine s1 L kp _ (fun g kq g0 gc gm => ?_)
  simp only [Option.toList_some, Option.toList_none, List.cons_append, List.nil_append]
  rw [bq_Law_law_650 (by omega), a1, am_gd (by omega) (by omega), Int.toNat_natCast, g0]
  refine s2 g gc gm L kq _ (fun g2 kq2 k0 k1 k2 => ?_)
  simp only [Option.toList_some, Option.toList_none, List.cons_append, List.nil_append]
  rw [bq_Law_law_659, if_pos rfl, bq_Law_law_1454, show am_add (n : Int) 6 = ((n + 6 : Nat) : Int) by rw [am_add_ok (by omega) (by omega)]; omega]
  exact ih g2 kq2 (by rw [k1, k2, gc]; exact s3) (k0.trans g0)
theorem law_busiest {d L kp n : Nat} {h : Nat → Nat → Int} {Q : Option am_V → am_H → Prop} (hd : 31 ≤ d) (hL : L < 100000) (hn : n + 6 ≤ L) (hi : am_INV (c_S h) (m_S h)) (ih : ∀ g kp, am_INV (c_S g) (m_S g) → g 0 = h 0 → am_Wp d 0 18 [some (Sum.inr (Sum.inr 0)), some (Sum.inr (Sum.inr 1)), some (Sum.inr (Sum.inr 70)), some (Sum.inl ((n + 6 : Nat) : Int))] [] (am_SH L, g, am_RR kp) Q) : am_Wp d 0 664 [some (Sum.inr (Sum.inr 0)), some (Sum.inr (Sum.inr 1)), some (Sum.inr (Sum.inr 70)), some (Sum.inl (n : Int))] [] (am_SH L, h, am_RR kp) Q := by
  obtain ⟨r, c, m, ⟨x, rfl⟩, s1, s2, s3⟩ := p_busiest (d := d - 1) (by omega) h hi
  rw [bq_Law_law_664 (by omega)]
  refine s1 L kp _ (fun g kq g0 gc gm => ?_)
  simp only [Option.toList_some, Option.toList_none, List.cons_append, List.nil_append]
  rw [bq_Law_law_668 (by omega)]
  refine s2 g gc gm L kq _ (fun g2 kq2 k0 k1 k2 => ?_)
  simp only [Option.toList_some, Option.toList_none, List.cons_append, List.nil_append]
  rw [bq_Law_law_672, if_pos rfl, bq_Law_law_1454, show am_add (n : Int) 6 = ((n + 6 : Nat) : Int) by rw [am_add_ok (by omega) (by omega)]; omega]
  exact ih g2 kq2 (by rw [k1, k2, gc]; exact s3) (k0.trans g0)
theorem law_gain {d L kp n : Nat} {h : Nat → Nat → Int} {Q : Option am_V → am_H → Prop} (hd : 31 ≤ d) (hL : L < 100000) (hn : n + 6 ≤ L) (hi : am_INV (c_S h) (m_S h)) (ih : ∀ g kp, am_INV (c_S g) (m_S g) → g 0 = h 0 → am_Wp d 0 18 [some (Sum.inr (Sum.inr 0)), some (Sum.inr (Sum.inr 1)), some (Sum.inr (Sum.inr 70)), some (Sum.inl ((n + 6 : Nat) : Int))] [] (am_SH L, g, am_RR kp) Q) : am_Wp d 0 677 [some (Sum.inr (Sum.inr 0)), some (Sum.inr (Sum.inr 1)), some (Sum.inr (Sum.inr 70)), some (Sum.inl (n : Int))] [] (am_SH L, h, am_RR kp) Q := by
  have a1 : am_add (n : Int) 1 = ((n + 1 : Nat) : Int) := by rw [am_add_ok (by omega) (by omega)]; omega
  have a2 : am_add (n : Int) 2 = ((n + 2 : Nat) : Int) := by rw [am_add_ok (by omega) (by omega)]; omega
  obtain ⟨r, c, m, ⟨x, rfl⟩, s1, s2, s3⟩ := p_gain (d := d - 1) (i := h 0 (n + 1)) (e := h 0 (n + 2)) (by omega) h hi
  rw [bq_Law_law_677 (by omega), a1, a2, am_gd (by omega) (by omega), am_gd (by omega) (by omega), Int.toNat_natCast, Int.toNat_natCast]
  refine s1 L kp _ (fun g kq g0 gc gm => ?_)
  simp only [Option.toList_some, Option.toList_none, List.cons_append, List.nil_append]
  rw [bq_Law_law_691 (by omega), a1, a2, am_gd (by omega) (by omega), am_gd (by omega) (by omega), Int.toNat_natCast, Int.toNat_natCast, g0]
  refine s2 g gc gm L kq _ (fun g2 kq2 k0 k1 k2 => ?_)
  simp only [Option.toList_some, Option.toList_none, List.cons_append, List.nil_append]
  rw [bq_Law_law_705, if_pos rfl, bq_Law_law_1454, show am_add (n : Int) 6 = ((n + 6 : Nat) : Int) by rw [am_add_ok (by omega) (by omega)]; omega]
  exact ih g2 kq2 (by rw [k1, k2, gc]; exact s3) (k0.trans g0)
theorem law_bestBuy {d L kp n : Nat} {h : Nat → Nat → Int} {Q : Option am_V → am_H → Prop} (hd : 31 ≤ d) (hL : L < 100000) (hn : n + 6 ≤ L) (hi : am_INV (c_S h) (m_S h)) (ih : ∀ g kp, am_INV (c_S g) (m_S g) → g 0 = h 0 → am_Wp d 0 18 [some (Sum.inr (Sum.inr 0)), some (Sum.inr (Sum.inr 1)), some (Sum.inr (Sum.inr 70)), some (Sum.inl ((n + 6 : Nat) : Int))] [] (am_SH L, g, am_RR kp) Q) : am_Wp d 0 710 [some (Sum.inr (Sum.inr 0)), some (Sum.inr (Sum.inr 1)), some (Sum.inr (Sum.inr 70)), some (Sum.inl (n : Int))] [] (am_SH L, h, am_RR kp) Q := by
  have a1 : am_add (n : Int) 1 = ((n + 1 : Nat) : Int) := by rw [am_add_ok (by omega) (by omega)]; omega
  obtain ⟨r, c, m, ⟨x, rfl⟩, s1, s2, s3⟩ := p_bestBuy (d := d - 1) (i := h 0 (n + 1)) (by omega) h hi
  rw [bq_Law_law_710 (by omega), a1, am_gd (by omega) (by omega), Int.toNat_natCast]
  refine s1 L kp _ (fun g kq g0 gc gm => ?_)
  simp only [Option.toList_some, Option.toList_none, List.cons_append, List.nil_append]
  rw [bq_Law_law_719 (by omega), a1, am_gd (by omega) (by omega), Int.toNat_natCast, g0]
  refine s2 g gc gm L kq _ (fun g2 kq2 k0 k1 k2 => ?_)
  simp only [Option.toList_some, Option.toList_none, List.cons_append, List.nil_append]
  rw [bq_Law_law_728, if_pos rfl, bq_Law_law_1454, show am_add (n : Int) 6 = ((n + 6 : Nat) : Int) by rw [am_add_ok (by omega) (by omega)]; omega]
  exact ih g2 kq2 (by rw [k1, k2, gc]; exact s3) (k0.trans g0)
theorem law_swings {d L kp n : Nat} {h : Nat → Nat → Int} {Q : Option am_V → am_H → Prop} (hd : 31 ≤ d) (hL : L < 100000) (hn : n + 6 ≤ L) (hi : am_INV (c_S h) (m_S h)) (ih : ∀ g kp, am_INV (c_S g) (m_S g) → g 0 = h 0 → am_Wp d 0 18 [some (Sum.inr (Sum.inr 0)), some (Sum.inr (Sum.inr 1)), some (Sum.inr (Sum.inr 70)), some (Sum.inl ((n + 6 : Nat) : Int))] [] (am_SH L, g, am_RR kp) Q) : am_Wp d 0 733 [some (Sum.inr (Sum.inr 0)), some (Sum.inr (Sum.inr 1)), some (Sum.inr (Sum.inr 70)), some (Sum.inl (n : Int))] [] (am_SH L, h, am_RR kp) Q := by
  have a1 : am_add (n : Int) 1 = ((n + 1 : Nat) : Int) := by rw [am_add_ok (by omega) (by omega)]; omega
  have a2 : am_add (n : Int) 2 = ((n + 2 : Nat) : Int) := by rw [am_add_ok (by omega) (by omega)]; omega
  obtain ⟨r, c, m, ⟨x, rfl⟩, s1, s2, s3⟩ := p_swings (d := d - 1) (i := h 0 (n + 1)) (e := h 0 (n + 2)) (by omega) h hi
  rw [bq_Law_law_733 (by omega), a1, a2, am_gd (by omega) (by omega), am_gd (by omega) (by omega), Int.toNat_natCast, Int.toNat_natCast]
  refine s1 L kp _ (fun g kq g0 gc gm => ?_)
  simp only [Option.toList_some, Option.toList_none, List.cons_append, List.nil_append]
  rw [bq_Law_law_747 (by omega), a1, a2, am_gd (by omega) (by omega), am_gd (by omega) (by omega), Int.toNat_natCast, Int.toNat_natCast, g0]
  refine s2 g gc gm L kq _ (fun g2 kq2 k0 k1 k2 => ?_)
  simp only [Option.toList_some, Option.toList_none, List.cons_append, List.nil_append]
  rw [bq_Law_law_761, if_pos rfl, bq_Law_law_1454, show am_add (n : Int) 6 = ((n + 6 : Nat) : Int) by rw [am_add_ok (by omega) (by omega)]; omega]
  exact ih g2 kq2 (by rw [k1, k2, gc]; exact s3) (k0.trans g0)
theorem law_boss {d L kp n : Nat} {h : Nat → Nat → Int} {Q : Option am_V → am_H → Prop} (hd : 31 ≤ d) (hL : L < 100000) (hn : n + 6 ≤ L) (hi : am_INV (c_S h) (m_S h)) (ih : ∀ g kp, am_INV (c_S g) (m_S g) → g 0 = h 0 → am_Wp d 0 18 [some (Sum.inr (Sum.inr 0)), some (Sum.inr (Sum.inr 1)), some (Sum.inr (Sum.inr 70)), some (Sum.inl ((n + 6 : Nat) : Int))] [] (am_SH L, g, am_RR kp) Q) : am_Wp d 0 766 [some (Sum.inr (Sum.inr 0)), some (Sum.inr (Sum.inr 1)), some (Sum.inr (Sum.inr 70)), some (Sum.inl (n : Int))] [] (am_SH L, h, am_RR kp) Q := by
  have a1 : am_add (n : Int) 1 = ((n + 1 : Nat) : Int) := by rw [am_add_ok (by omega) (by omega)]; omega
  obtain ⟨r, c, m, ⟨x, rfl⟩, s1, s2, s3⟩ := p_boss (d := d - 1) (i := h 0 (n + 1)) (by omega) h hi
  rw [bq_Law_law_766 (by omega), a1, am_gd (by omega) (by omega), Int.toNat_natCast]
  refine s1 L kp _ (fun g kq g0 gc gm => ?_)
  simp only [Option.toList_some, Option.toList_none, List.cons_append, List.nil_append]
  rw [bq_Law_law_775 (by omega), a1, am_gd (by omega) (by omega), Int.toNat_natCast, g0]
  refine s2 g gc gm L kq _ (fun g2 kq2 k0 k1 k2 => ?_)
  simp only [Option.toList_some, Option.toList_none, List.cons_append, List.nil_append]
  rw [bq_Law_law_784, if_pos rfl, bq_Law_law_1454, show am_add (n : Int) 6 = ((n + 6 : Nat) : Int) by rw [am_add_ok (by omega) (by omega)]; omega]
  exact ih g2 kq2 (by rw [k1, k2, gc]; exact s3) (k0.trans g0)
theorem law_corner {d L kp n : Nat} {h : Nat → Nat → Int} {Q : Option am_V → am_H → Prop} (hd : 31 ≤ d) (hL : L < 100000) (hn : n + 6 ≤ L) (hi : am_INV (c_S h) (m_S h)) (ih : ∀ g kp, am_INV (c_S g) (m_S g) → g 0 = h 0 → am_Wp d 0 18 [some (Sum.inr (Sum.inr 0)), some (Sum.inr (Sum.inr 1)), some (Sum.inr (Sum.inr 70)), some (Sum.inl ((n + 6 : Nat) : Int))] [] (am_SH L, g, am_RR kp) Q) : am_Wp d 0 789 [some (Sum.inr (Sum.inr 0)), some (Sum.inr (Sum.inr 1)), some (Sum.inr (Sum.inr 70)), some (Sum.inl (n : Int))] [] (am_SH L, h, am_RR kp) Q := by
  obtain ⟨r, c, m, ⟨x, rfl⟩, s1, s2, s3⟩ := p_corner (d := d - 1) (by omega) h hi
  rw [bq_Law_law_789 (by omega)]
  refine s1 L kp _ (fun g kq g0 gc gm => ?_)
  simp only [Option.toList_some, Option.toList_none, List.cons_append, List.nil_append]
  rw [bq_Law_law_793 (by omega)]
  refine s2 g gc gm L kq _ (fun g2 kq2 k0 k1 k2 => ?_)
  simp only [Option.toList_some, Option.toList_none, List.cons_append, List.nil_append]
  rw [bq_Law_law_797, if_pos rfl, bq_Law_law_1454, show am_add (n : Int) 6 = ((n + 6 : Nat) : Int) by rw [am_add_ok (by omega) (by omega)]; omega]
  exact ih g2 kq2 (by rw [k1, k2, gc]; exact s3) (k0.trans g0)
theorem law_looks {d L kp n : Nat} {h : Nat → Nat → Int} {Q : Option am_V → am_H → Prop} (hd : 31 ≤ d) (hL : L < 100000) (hn : n + 6 ≤ L) (hi : am_INV (c_S h) (m_S h)) (ih : ∀ g kp, am_INV (c_S g) (m_S g) → g 0 = h 0 → am_Wp d 0 18 [some (Sum.inr (Sum.inr 0)), some (Sum.inr (Sum.inr 1)), some (Sum.inr (Sum.inr 70)), some (Sum.inl ((n + 6 : Nat) : Int))] [] (am_SH L, g, am_RR kp) Q) : am_Wp d 0 802 [some (Sum.inr (Sum.inr 0)), some (Sum.inr (Sum.inr 1)), some (Sum.inr (Sum.inr 70)), some (Sum.inl (n : Int))] [] (am_SH L, h, am_RR kp) Q := by
  have a1 : am_add (n : Int) 1 = ((n + 1 : Nat) : Int) := by rw [am_add_ok (by omega) (by omega)]; omega
  obtain ⟨r, c, m, ⟨x, rfl⟩, s1, s2, s3⟩ := p_looks (d := d - 1) (i := h 0 (n + 1)) (by omega) h hi
  rw [bq_Law_law_802 (by omega), a1, am_gd (by omega) (by omega), Int.toNat_natCast]
  refine s1 L kp _ (fun g kq g0 gc gm => ?_)
  simp only [Option.toList_some, Option.toList_none, List.cons_append, List.nil_append]
  rw [bq_Law_law_811 (by omega), a1, am_gd (by omega) (by omega), Int.toNat_natCast, g0]
  refine s2 g gc gm L kq _ (fun g2 kq2 k0 k1 k2 => ?_)
  simp only [Option.toList_some, Option.toList_none, List.cons_append, List.nil_append]
  rw [bq_Law_law_820, if_pos rfl, bq_Law_law_1454, show am_add (n : Int) 6 = ((n + 6 : Nat) : Int) by rw [am_add_ok (by omega) (by omega)]; omega]
  exact ih g2 kq2 (by rw [k1, k2, gc]; exact s3) (k0.trans g0)
theorem law_chain {d L kp n : Nat} {h : Nat → Nat → Int} {Q : Option am_V → am_H → Prop} (hd : 31 ≤ d) (hL : L < 100000) (hn : n + 6 ≤ L) (hi : am_INV (c_S h) (m_S h)) (ih : ∀ g kp, am_INV (c_S g) (m_S g) → g 0 = h 0 → am_Wp d 0 18 [some (Sum.inr (Sum.inr 0)), some (Sum.inr (Sum.inr 1)), some (Sum.inr (Sum.inr 70)), some (Sum.inl ((n + 6 : Nat) : Int))] [] (am_SH L, g, am_RR kp) Q) : am_Wp d 0 825 [some (Sum.inr (Sum.inr 0)), some (Sum.inr (Sum.inr 1)), some (Sum.inr (Sum.inr 70)), some (Sum.inl (n : Int))] [] (am_SH L, h, am_RR kp) Q := by
  have a1 : am_add (n : Int) 1 = ((n + 1 : Nat) : Int) := by rw [am_add_ok (by omega) (by omega)]; omega
  have a2 : am_add (n : Int) 2 = ((n + 2 : Nat) : Int) := by rw [am_add_ok (by omega) (by omega)]; omega
  obtain ⟨r, c, m, ⟨x, rfl⟩, s1, s2, s3⟩ := p_chain (d := d - 1) (i := h 0 (n + 1)) (e := h 0 (n + 2)) (by omega) h hi
  rw [bq_Law_law_825 (by omega), a1, a2, am_gd (by omega) (by omega), am_gd (by omega) (by omega), Int.toNat_natCast, Int.toNat_natCast]
  refine s1 L kp _ (fun g kq g0 gc gm => ?_)
  simp only [Option.toList_some, Option.toList_none, List.cons_append, List.nil_append]
  rw [bq_Law_law_839 (by omega), a1, a2, am_gd (by omega) (by omega), am_gd (by omega) (by omega), Int.toNat_natCast, Int.toNat_natCast, g0]
  refine s2 g gc gm L kq _ (fun g2 kq2 k0 k1 k2 => ?_)
  simp only [Option.toList_some, Option.toList_none, List.cons_append, List.nil_append]
  rw [bq_Law_law_853, if_pos rfl, bq_Law_law_1454, show am_add (n : Int) 6 = ((n + 6 : Nat) : Int) by rw [am_add_ok (by omega) (by omega)]; omega]
  exact ih g2 kq2 (by rw [k1, k2, gc]; exact s3) (k0.trans g0)
theorem law_inIt {d L kp n : Nat} {h : Nat → Nat → Int} {Q : Option am_V → am_H → Prop} (hd : 31 ≤ d) (hL : L < 100000) (hn : n + 6 ≤ L) (hi : am_INV (c_S h) (m_S h)) (ih : ∀ g kp, am_INV (c_S g) (m_S g) → g 0 = h 0 → am_Wp d 0 18 [some (Sum.inr (Sum.inr 0)), some (Sum.inr (Sum.inr 1)), some (Sum.inr (Sum.inr 70)), some (Sum.inl ((n + 6 : Nat) : Int))] [] (am_SH L, g, am_RR kp) Q) : am_Wp d 0 858 [some (Sum.inr (Sum.inr 0)), some (Sum.inr (Sum.inr 1)), some (Sum.inr (Sum.inr 70)), some (Sum.inl (n : Int))] [] (am_SH L, h, am_RR kp) Q := by
  obtain ⟨r, c, m, ⟨x, rfl⟩, s1, s2, s3⟩ := p_inIt (d := d - 1) (by omega) h hi
  rw [bq_Law_law_858 (by omega)]
  refine s1 L kp _ (fun g kq g0 gc gm => ?_)
  simp only [Option.toList_some, Option.toList_none, List.cons_append, List.nil_append]
  rw [bq_Law_law_862 (by omega)]
  refine s2 g gc gm L kq _ (fun g2 kq2 k0 k1 k2 => ?_)
  simp only [Option.toList_some, Option.toList_none, List.cons_append, List.nil_append]
  rw [bq_Law_law_866, if_pos rfl, bq_Law_law_1454, show am_add (n : Int) 6 = ((n + 6 : Nat) : Int) by rw [am_add_ok (by omega) (by omega)]; omega]
  exact ih g2 kq2 (by rw [k1, k2, gc]; exact s3) (k0.trans g0)
theorem law_comesIn {d L kp n : Nat} {h : Nat → Nat → Int} {Q : Option am_V → am_H → Prop} (hd : 31 ≤ d) (hL : L < 100000) (hn : n + 6 ≤ L) (hi : am_INV (c_S h) (m_S h)) (ih : ∀ g kp, am_INV (c_S g) (m_S g) → g 0 = h 0 → am_Wp d 0 18 [some (Sum.inr (Sum.inr 0)), some (Sum.inr (Sum.inr 1)), some (Sum.inr (Sum.inr 70)), some (Sum.inl ((n + 6 : Nat) : Int))] [] (am_SH L, g, am_RR kp) Q) : am_Wp d 0 871 [some (Sum.inr (Sum.inr 0)), some (Sum.inr (Sum.inr 1)), some (Sum.inr (Sum.inr 70)), some (Sum.inl (n : Int))] [] (am_SH L, h, am_RR kp) Q := by
  have a1 : am_add (n : Int) 1 = ((n + 1 : Nat) : Int) := by rw [am_add_ok (by omega) (by omega)]; omega
  obtain ⟨r, c, m, ⟨x, rfl⟩, s1, s2, s3⟩ := p_comesIn (d := d - 1) (i := h 0 (n + 1)) (by omega) h hi
  rw [bq_Law_law_871 (by omega), a1, am_gd (by omega) (by omega), Int.toNat_natCast]
  refine s1 L kp _ (fun g kq g0 gc gm => ?_)
  simp only [Option.toList_some, Option.toList_none, List.cons_append, List.nil_append]
  rw [bq_Law_law_880 (by omega), a1, am_gd (by omega) (by omega), Int.toNat_natCast, g0]
  refine s2 g gc gm L kq _ (fun g2 kq2 k0 k1 k2 => ?_)
  simp only [Option.toList_some, Option.toList_none, List.cons_append, List.nil_append]
  rw [bq_Law_law_889, if_pos rfl, bq_Law_law_1454, show am_add (n : Int) 6 = ((n + 6 : Nat) : Int) by rw [am_add_ok (by omega) (by omega)]; omega]
  exact ih g2 kq2 (by rw [k1, k2, gc]; exact s3) (k0.trans g0)
theorem law_fits {d L kp n : Nat} {h : Nat → Nat → Int} {Q : Option am_V → am_H → Prop} (hd : 31 ≤ d) (hL : L < 100000) (hn : n + 6 ≤ L) (hi : am_INV (c_S h) (m_S h)) (ih : ∀ g kp, am_INV (c_S g) (m_S g) → g 0 = h 0 → am_Wp d 0 18 [some (Sum.inr (Sum.inr 0)), some (Sum.inr (Sum.inr 1)), some (Sum.inr (Sum.inr 70)), some (Sum.inl ((n + 6 : Nat) : Int))] [] (am_SH L, g, am_RR kp) Q) : am_Wp d 0 894 [some (Sum.inr (Sum.inr 0)), some (Sum.inr (Sum.inr 1)), some (Sum.inr (Sum.inr 70)), some (Sum.inl (n : Int))] [] (am_SH L, h, am_RR kp) Q := by
  obtain ⟨r, c, m, ⟨x, rfl⟩, s1, s2, s3⟩ := p_fits (d := d - 1) (by omega) h hi
  rw [bq_Law_law_894 (by omega)]
  refine s1 L kp _ (fun g kq g0 gc gm => ?_)
  simp only [Option.toList_some, Option.toList_none, List.cons_append, List.nil_append]
  rw [bq_Law_law_898 (by omega)]
  refine s2 g gc gm L kq _ (fun g2 kq2 k0 k1 k2 => ?_)
  simp only [Option.toList_some, Option.toList_none, List.cons_append, List.nil_append]
  rw [bq_Law_law_902, if_pos rfl, bq_Law_law_1454, show am_add (n : Int) 6 = ((n + 6 : Nat) : Int) by rw [am_add_ok (by omega) (by omega)]; omega]
  exact ih g2 kq2 (by rw [k1, k2, gc]; exact s3) (k0.trans g0)
theorem law_deaths {d L kp n : Nat} {h : Nat → Nat → Int} {Q : Option am_V → am_H → Prop} (hd : 31 ≤ d) (hL : L < 100000) (hn : n + 6 ≤ L) (hi : am_INV (c_S h) (m_S h)) (ih : ∀ g kp, am_INV (c_S g) (m_S g) → g 0 = h 0 → am_Wp d 0 18 [some (Sum.inr (Sum.inr 0)), some (Sum.inr (Sum.inr 1)), some (Sum.inr (Sum.inr 70)), some (Sum.inl ((n + 6 : Nat) : Int))] [] (am_SH L, g, am_RR kp) Q) : am_Wp d 0 907 [some (Sum.inr (Sum.inr 0)), some (Sum.inr (Sum.inr 1)), some (Sum.inr (Sum.inr 70)), some (Sum.inl (n : Int))] [] (am_SH L, h, am_RR kp) Q := by
  have a1 : am_add (n : Int) 1 = ((n + 1 : Nat) : Int) := by rw [am_add_ok (by omega) (by omega)]; omega
  have a2 : am_add (n : Int) 2 = ((n + 2 : Nat) : Int) := by rw [am_add_ok (by omega) (by omega)]; omega
  have a3 : am_add (n : Int) 3 = ((n + 3 : Nat) : Int) := by rw [am_add_ok (by omega) (by omega)]; omega
  obtain ⟨r, c, m, ⟨x, rfl⟩, s1, s2, s3⟩ := p_deaths (d := d - 1) (i := h 0 (n + 1)) (t := h 0 (n + 2)) (u := h 0 (n + 3)) (by omega) h hi
  rw [bq_Law_law_907 (by omega), a1, a2, a3, am_gd (by omega) (by omega), am_gd (by omega) (by omega), am_gd (by omega) (by omega), Int.toNat_natCast, Int.toNat_natCast, Int.toNat_natCast]
  refine s1 L kp _ (fun g kq g0 gc gm => ?_)
  simp only [Option.toList_some, Option.toList_none, List.cons_append, List.nil_append]
  rw [bq_Law_law_926 (by omega), a1, a2, a3, am_gd (by omega) (by omega), am_gd (by omega) (by omega), am_gd (by omega) (by omega), Int.toNat_natCast, Int.toNat_natCast, Int.toNat_natCast, g0]
  refine s2 g gc gm L kq _ (fun g2 kq2 k0 k1 k2 => ?_)
  simp only [Option.toList_some, Option.toList_none, List.cons_append, List.nil_append]
  rw [bq_Law_law_945, if_pos am_lcmp0, bq_Law_law_1454, show am_add (n : Int) 6 = ((n + 6 : Nat) : Int) by rw [am_add_ok (by omega) (by omega)]; omega]
  exact ih g2 kq2 (by rw [k1, k2, gc]; exact s3) (k0.trans g0)
theorem law_hold {d L kp n : Nat} {h : Nat → Nat → Int} {Q : Option am_V → am_H → Prop} (hd : 31 ≤ d) (hL : L < 100000) (hn : n + 6 ≤ L) (hi : am_INV (c_S h) (m_S h)) (ih : ∀ g kp, am_INV (c_S g) (m_S g) → g 0 = h 0 → am_Wp d 0 18 [some (Sum.inr (Sum.inr 0)), some (Sum.inr (Sum.inr 1)), some (Sum.inr (Sum.inr 70)), some (Sum.inl ((n + 6 : Nat) : Int))] [] (am_SH L, g, am_RR kp) Q) : am_Wp d 0 951 [some (Sum.inr (Sum.inr 0)), some (Sum.inr (Sum.inr 1)), some (Sum.inr (Sum.inr 70)), some (Sum.inl (n : Int))] [] (am_SH L, h, am_RR kp) Q := by
  have a1 : am_add (n : Int) 1 = ((n + 1 : Nat) : Int) := by rw [am_add_ok (by omega) (by omega)]; omega
  have a2 : am_add (n : Int) 2 = ((n + 2 : Nat) : Int) := by rw [am_add_ok (by omega) (by omega)]; omega
  obtain ⟨r, c, m, ⟨x, rfl⟩, s1, s2, s3⟩ := p_hold (d := d - 1) (i := h 0 (n + 1)) (k := h 0 (n + 2)) (by omega) h hi
  rw [bq_Law_law_951 (by omega), a1, a2, am_gd (by omega) (by omega), am_gd (by omega) (by omega), Int.toNat_natCast, Int.toNat_natCast]
  refine s1 L kp _ (fun g kq g0 gc gm => ?_)
  simp only [Option.toList_some, Option.toList_none, List.cons_append, List.nil_append]
  rw [bq_Law_law_965 (by omega), a1, a2, am_gd (by omega) (by omega), am_gd (by omega) (by omega), Int.toNat_natCast, Int.toNat_natCast, g0]
  refine s2 g gc gm L kq _ (fun g2 kq2 k0 k1 k2 => ?_)
  simp only [Option.toList_some, Option.toList_none, List.cons_append, List.nil_append]
  rw [bq_Law_law_979, if_pos rfl, bq_Law_law_1454, show am_add (n : Int) 6 = ((n + 6 : Nat) : Int) by rw [am_add_ok (by omega) (by omega)]; omega]
  exact ih g2 kq2 (by rw [k1, k2, gc]; exact s3) (k0.trans g0)
theorem law_ring {d L kp n : Nat} {h : Nat → Nat → Int} {Q : Option am_V → am_H → Prop} (hd : 31 ≤ d) (hL : L < 100000) (hn : n + 6 ≤ L) (hi : am_INV (c_S h) (m_S h)) (ih : ∀ g kp, am_INV (c_S g) (m_S g) → g 0 = h 0 → am_Wp d 0 18 [some (Sum.inr (Sum.inr 0)), some (Sum.inr (Sum.inr 1)), some (Sum.inr (Sum.inr 70)), some (Sum.inl ((n + 6 : Nat) : Int))] [] (am_SH L, g, am_RR kp) Q) : am_Wp d 0 984 [some (Sum.inr (Sum.inr 0)), some (Sum.inr (Sum.inr 1)), some (Sum.inr (Sum.inr 70)), some (Sum.inl (n : Int))] [] (am_SH L, h, am_RR kp) Q := by
  have a1 : am_add (n : Int) 1 = ((n + 1 : Nat) : Int) := by rw [am_add_ok (by omega) (by omega)]; omega
  obtain ⟨r, c, m, ⟨x, rfl⟩, s1, s2, s3⟩ := p_ring (d := d - 1) (i := h 0 (n + 1)) (by omega) h hi
  rw [bq_Law_law_984 (by omega), a1, am_gd (by omega) (by omega), Int.toNat_natCast]
  refine s1 L kp _ (fun g kq g0 gc gm => ?_)
  simp only [Option.toList_some, Option.toList_none, List.cons_append, List.nil_append]
  rw [bq_Law_law_993 (by omega), a1, am_gd (by omega) (by omega), Int.toNat_natCast, g0]
  refine s2 g gc gm L kq _ (fun g2 kq2 k0 k1 k2 => ?_)
  simp only [Option.toList_some, Option.toList_none, List.cons_append, List.nil_append]
  rw [bq_Law_law_1002, if_pos rfl, bq_Law_law_1454, show am_add (n : Int) 6 = ((n + 6 : Nat) : Int) by rw [am_add_ok (by omega) (by omega)]; omega]
  exact ih g2 kq2 (by rw [k1, k2, gc]; exact s3) (k0.trans g0)
theorem law_round {d L kp n : Nat} {h : Nat → Nat → Int} {Q : Option am_V → am_H → Prop} (hd : 31 ≤ d) (hL : L < 100000) (hn : n + 6 ≤ L) (hi : am_INV (c_S h) (m_S h)) (ih : ∀ g kp, am_INV (c_S g) (m_S g) → g 0 = h 0 → am_Wp d 0 18 [some (Sum.inr (Sum.inr 0)), some (Sum.inr (Sum.inr 1)), some (Sum.inr (Sum.inr 70)), some (Sum.inl ((n + 6 : Nat) : Int))] [] (am_SH L, g, am_RR kp) Q) : am_Wp d 0 1007 [some (Sum.inr (Sum.inr 0)), some (Sum.inr (Sum.inr 1)), some (Sum.inr (Sum.inr 70)), some (Sum.inl (n : Int))] [] (am_SH L, h, am_RR kp) Q := by
  obtain ⟨r, c, m, ⟨x, rfl⟩, s1, s2, s3⟩ := p_round (d := d - 1) (by omega) h hi
  rw [bq_Law_law_1007 (by omega)]
  refine s1 L kp _ (fun g kq g0 gc gm => ?_)
  simp only [Option.toList_some, Option.toList_none, List.cons_append, List.nil_append]
  rw [bq_Law_law_1011 (by omega)]
  refine s2 g gc gm L kq _ (fun g2 kq2 k0 k1 k2 => ?_)
  simp only [Option.toList_some, Option.toList_none, List.cons_append, List.nil_append]
  rw [bq_Law_law_1015, if_pos rfl, bq_Law_law_1454, show am_add (n : Int) 6 = ((n + 6 : Nat) : Int) by rw [am_add_ok (by omega) (by omega)]; omega]
  exact ih g2 kq2 (by rw [k1, k2, gc]; exact s3) (k0.trans g0)
theorem law_stands {d L kp n : Nat} {h : Nat → Nat → Int} {Q : Option am_V → am_H → Prop} (hd : 31 ≤ d) (hL : L < 100000) (hn : n + 6 ≤ L) (hi : am_INV (c_S h) (m_S h)) (ih : ∀ g kp, am_INV (c_S g) (m_S g) → g 0 = h 0 → am_Wp d 0 18 [some (Sum.inr (Sum.inr 0)), some (Sum.inr (Sum.inr 1)), some (Sum.inr (Sum.inr 70)), some (Sum.inl ((n + 6 : Nat) : Int))] [] (am_SH L, g, am_RR kp) Q) : am_Wp d 0 1020 [some (Sum.inr (Sum.inr 0)), some (Sum.inr (Sum.inr 1)), some (Sum.inr (Sum.inr 70)), some (Sum.inl (n : Int))] [] (am_SH L, h, am_RR kp) Q := by
  obtain ⟨r, c, m, ⟨x, rfl⟩, s1, s2, s3⟩ := p_stands (d := d - 1) (by omega) h hi
  rw [bq_Law_law_1020 (by omega)]
  refine s1 L kp _ (fun g kq g0 gc gm => ?_)
  simp only [Option.toList_some, Option.toList_none, List.cons_append, List.nil_append]
  rw [bq_Law_law_1024 (by omega)]
  refine s2 g gc gm L kq _ (fun g2 kq2 k0 k1 k2 => ?_)
  simp only [Option.toList_some, Option.toList_none, List.cons_append, List.nil_append]
  rw [bq_Law_law_1028, if_pos rfl, bq_Law_law_1454, show am_add (n : Int) 6 = ((n + 6 : Nat) : Int) by rw [am_add_ok (by omega) (by omega)]; omega]
  exact ih g2 kq2 (by rw [k1, k2, gc]; exact s3) (k0.trans g0)
theorem law_rich {d L kp n : Nat} {h : Nat → Nat → Int} {Q : Option am_V → am_H → Prop} (hd : 31 ≤ d) (hL : L < 100000) (hn : n + 6 ≤ L) (hi : am_INV (c_S h) (m_S h)) (ih : ∀ g kp, am_INV (c_S g) (m_S g) → g 0 = h 0 → am_Wp d 0 18 [some (Sum.inr (Sum.inr 0)), some (Sum.inr (Sum.inr 1)), some (Sum.inr (Sum.inr 70)), some (Sum.inl ((n + 6 : Nat) : Int))] [] (am_SH L, g, am_RR kp) Q) : am_Wp d 0 1033 [some (Sum.inr (Sum.inr 0)), some (Sum.inr (Sum.inr 1)), some (Sum.inr (Sum.inr 70)), some (Sum.inl (n : Int))] [] (am_SH L, h, am_RR kp) Q := by
  have a1 : am_add (n : Int) 1 = ((n + 1 : Nat) : Int) := by rw [am_add_ok (by omega) (by omega)]; omega
  have a2 : am_add (n : Int) 2 = ((n + 2 : Nat) : Int) := by rw [am_add_ok (by omega) (by omega)]; omega
  obtain ⟨r, c, m, ⟨x, rfl⟩, s1, s2, s3⟩ := p_rich (d := d - 1) (i := h 0 (n + 1)) (e := h 0 (n + 2)) (by omega) h hi
  rw [bq_Law_law_1033 (by omega), a1, a2, am_gd (by omega) (by omega), am_gd (by omega) (by omega), Int.toNat_natCast, Int.toNat_natCast]
  refine s1 L kp _ (fun g kq g0 gc gm => ?_)
  simp only [Option.toList_some, Option.toList_none, List.cons_append, List.nil_append]
  rw [bq_Law_law_1047 (by omega), a1, a2, am_gd (by omega) (by omega), am_gd (by omega) (by omega), Int.toNat_natCast, Int.toNat_natCast, g0]
  refine s2 g gc gm L kq _ (fun g2 kq2 k0 k1 k2 => ?_)
  simp only [Option.toList_some, Option.toList_none, List.cons_append, List.nil_append]
  rw [bq_Law_law_1061, if_pos rfl, bq_Law_law_1454, show am_add (n : Int) 6 = ((n + 6 : Nat) : Int) by rw [am_add_ok (by omega) (by omega)]; omega]
  exact ih g2 kq2 (by rw [k1, k2, gc]; exact s3) (k0.trans g0)
theorem law_last {d L kp n : Nat} {h : Nat → Nat → Int} {Q : Option am_V → am_H → Prop} (hd : 31 ≤ d) (hL : L < 100000) (hn : n + 6 ≤ L) (hi : am_INV (c_S h) (m_S h)) (ih : ∀ g kp, am_INV (c_S g) (m_S g) → g 0 = h 0 → am_Wp d 0 18 [some (Sum.inr (Sum.inr 0)), some (Sum.inr (Sum.inr 1)), some (Sum.inr (Sum.inr 70)), some (Sum.inl ((n + 6 : Nat) : Int))] [] (am_SH L, g, am_RR kp) Q) : am_Wp d 0 1066 [some (Sum.inr (Sum.inr 0)), some (Sum.inr (Sum.inr 1)), some (Sum.inr (Sum.inr 70)), some (Sum.inl (n : Int))] [] (am_SH L, h, am_RR kp) Q := by
  obtain ⟨r, c, m, ⟨x, rfl⟩, s1, s2, s3⟩ := p_last (d := d - 1) (by omega) h hi
  rw [bq_Law_law_1066 (by omega)]
  refine s1 L kp _ (fun g kq g0 gc gm => ?_)
  simp only [Option.toList_some, Option.toList_none, List.cons_append, List.nil_append]
  rw [bq_Law_law_1070 (by omega)]
  refine s2 g gc gm L kq _ (fun g2 kq2 k0 k1 k2 => ?_)
  simp only [Option.toList_some, Option.toList_none, List.cons_append, List.nil_append]
  rw [bq_Law_law_1074, if_pos rfl, bq_Law_law_1454, show am_add (n : Int) 6 = ((n + 6 : Nat) : Int) by rw [am_add_ok (by omega) (by omega)]; omega]
  exact ih g2 kq2 (by rw [k1, k2, gc]; exact s3) (k0.trans g0)
theorem law_paidBy {d L kp n : Nat} {h : Nat → Nat → Int} {Q : Option am_V → am_H → Prop} (hd : 31 ≤ d) (hL : L < 100000) (hn : n + 6 ≤ L) (hi : am_INV (c_S h) (m_S h)) (ih : ∀ g kp, am_INV (c_S g) (m_S g) → g 0 = h 0 → am_Wp d 0 18 [some (Sum.inr (Sum.inr 0)), some (Sum.inr (Sum.inr 1)), some (Sum.inr (Sum.inr 70)), some (Sum.inl ((n + 6 : Nat) : Int))] [] (am_SH L, g, am_RR kp) Q) : am_Wp d 0 1079 [some (Sum.inr (Sum.inr 0)), some (Sum.inr (Sum.inr 1)), some (Sum.inr (Sum.inr 70)), some (Sum.inl (n : Int))] [] (am_SH L, h, am_RR kp) Q := by
  have a1 : am_add (n : Int) 1 = ((n + 1 : Nat) : Int) := by rw [am_add_ok (by omega) (by omega)]; omega
  obtain ⟨r, c, m, ⟨x, rfl⟩, s1, s2, s3⟩ := p_paidBy (d := d - 1) (i := h 0 (n + 1)) (by omega) h hi
  rw [bq_Law_law_1079 (by omega), a1, am_gd (by omega) (by omega), Int.toNat_natCast]
  refine s1 L kp _ (fun g kq g0 gc gm => ?_)
  simp only [Option.toList_some, Option.toList_none, List.cons_append, List.nil_append]
  rw [bq_Law_law_1088 (by omega), a1, am_gd (by omega) (by omega), Int.toNat_natCast, g0]
  refine s2 g gc gm L kq _ (fun g2 kq2 k0 k1 k2 => ?_)
  simp only [Option.toList_some, Option.toList_none, List.cons_append, List.nil_append]
  rw [bq_Law_law_1097, if_pos rfl, bq_Law_law_1454, show am_add (n : Int) 6 = ((n + 6 : Nat) : Int) by rw [am_add_ok (by omega) (by omega)]; omega]
  exact ih g2 kq2 (by rw [k1, k2, gc]; exact s3) (k0.trans g0)
theorem law_trade {d L kp n : Nat} {h : Nat → Nat → Int} {Q : Option am_V → am_H → Prop} (hd : 31 ≤ d) (hL : L < 100000) (hn : n + 6 ≤ L) (hi : am_INV (c_S h) (m_S h)) (ih : ∀ g kp, am_INV (c_S g) (m_S g) → g 0 = h 0 → am_Wp d 0 18 [some (Sum.inr (Sum.inr 0)), some (Sum.inr (Sum.inr 1)), some (Sum.inr (Sum.inr 70)), some (Sum.inl ((n + 6 : Nat) : Int))] [] (am_SH L, g, am_RR kp) Q) : am_Wp d 0 1102 [some (Sum.inr (Sum.inr 0)), some (Sum.inr (Sum.inr 1)), some (Sum.inr (Sum.inr 70)), some (Sum.inl (n : Int))] [] (am_SH L, h, am_RR kp) Q := by
  have a1 : am_add (n : Int) 1 = ((n + 1 : Nat) : Int) := by rw [am_add_ok (by omega) (by omega)]; omega
  have a2 : am_add (n : Int) 2 = ((n + 2 : Nat) : Int) := by rw [am_add_ok (by omega) (by omega)]; omega
  obtain ⟨r, c, m, ⟨x, rfl⟩, s1, s2, s3⟩ := p_trade (d := d - 1) (i := h 0 (n + 1)) (e := h 0 (n + 2)) (by omega) h hi
  rw [bq_Law_law_1102 (by omega), a1, a2, am_gd (by omega) (by omega), am_gd (by omega) (by omega), Int.toNat_natCast, Int.toNat_natCast]
  refine s1 L kp _ (fun g kq g0 gc gm => ?_)
  simp only [Option.toList_some, Option.toList_none, List.cons_append, List.nil_append]
  rw [bq_Law_law_1116 (by omega), a1, a2, am_gd (by omega) (by omega), am_gd (by omega) (by omega), Int.toNat_natCast, Int.toNat_natCast, g0]
  refine s2 g gc gm L kq _ (fun g2 kq2 k0 k1 k2 => ?_)
  simp only [Option.toList_some, Option.toList_none, List.cons_append, List.nil_append]
  rw [bq_Law_law_1130, if_pos rfl, bq_Law_law_1454, show am_add (n : Int) 6 = ((n + 6 : Nat) : Int) by rw [am_add_ok (by omega) (by omega)]; omega]
  exact ih g2 kq2 (by rw [k1, k2, gc]; exact s3) (k0.trans g0)
theorem law_heirs {d L kp n : Nat} {h : Nat → Nat → Int} {Q : Option am_V → am_H → Prop} (hd : 31 ≤ d) (hL : L < 100000) (hn : n + 6 ≤ L) (hi : am_INV (c_S h) (m_S h)) (ih : ∀ g kp, am_INV (c_S g) (m_S g) → g 0 = h 0 → am_Wp d 0 18 [some (Sum.inr (Sum.inr 0)), some (Sum.inr (Sum.inr 1)), some (Sum.inr (Sum.inr 70)), some (Sum.inl ((n + 6 : Nat) : Int))] [] (am_SH L, g, am_RR kp) Q) : am_Wp d 0 1135 [some (Sum.inr (Sum.inr 0)), some (Sum.inr (Sum.inr 1)), some (Sum.inr (Sum.inr 70)), some (Sum.inl (n : Int))] [] (am_SH L, h, am_RR kp) Q := by
  have a1 : am_add (n : Int) 1 = ((n + 1 : Nat) : Int) := by rw [am_add_ok (by omega) (by omega)]; omega
  obtain ⟨r, c, m, ⟨x, rfl⟩, s1, s2, s3⟩ := p_heirs (d := d - 1) (i := h 0 (n + 1)) (by omega) h hi
  rw [bq_Law_law_1135 (by omega), a1, am_gd (by omega) (by omega), Int.toNat_natCast]
  refine s1 L kp _ (fun g kq g0 gc gm => ?_)
  simp only [Option.toList_some, Option.toList_none, List.cons_append, List.nil_append]
  rw [bq_Law_law_1144 (by omega), a1, am_gd (by omega) (by omega), Int.toNat_natCast, g0]
  refine s2 g gc gm L kq _ (fun g2 kq2 k0 k1 k2 => ?_)
  simp only [Option.toList_some, Option.toList_none, List.cons_append, List.nil_append]
  rw [bq_Law_law_1153, if_pos rfl, bq_Law_law_1454, show am_add (n : Int) 6 = ((n + 6 : Nat) : Int) by rw [am_add_ok (by omega) (by omega)]; omega]
  exact ih g2 kq2 (by rw [k1, k2, gc]; exact s3) (k0.trans g0)
theorem law_stuck {d L kp n : Nat} {h : Nat → Nat → Int} {Q : Option am_V → am_H → Prop} (hd : 31 ≤ d) (hL : L < 100000) (hn : n + 6 ≤ L) (hi : am_INV (c_S h) (m_S h)) (ih : ∀ g kp, am_INV (c_S g) (m_S g) → g 0 = h 0 → am_Wp d 0 18 [some (Sum.inr (Sum.inr 0)), some (Sum.inr (Sum.inr 1)), some (Sum.inr (Sum.inr 70)), some (Sum.inl ((n + 6 : Nat) : Int))] [] (am_SH L, g, am_RR kp) Q) : am_Wp d 0 1158 [some (Sum.inr (Sum.inr 0)), some (Sum.inr (Sum.inr 1)), some (Sum.inr (Sum.inr 70)), some (Sum.inl (n : Int))] [] (am_SH L, h, am_RR kp) Q := by
  obtain ⟨r, c, m, ⟨x, rfl⟩, s1, s2, s3⟩ := p_stuck (d := d - 1) (by omega) h hi
  rw [bq_Law_law_1158 (by omega)]
  refine s1 L kp _ (fun g kq g0 gc gm => ?_)
  simp only [Option.toList_some, Option.toList_none, List.cons_append, List.nil_append]
  rw [bq_Law_law_1162 (by omega)]
  refine s2 g gc gm L kq _ (fun g2 kq2 k0 k1 k2 => ?_)
  simp only [Option.toList_some, Option.toList_none, List.cons_append, List.nil_append]
  rw [bq_Law_law_1166, if_pos rfl, bq_Law_law_1454, show am_add (n : Int) 6 = ((n + 6 : Nat) : Int) by rw [am_add_ok (by omega) (by omega)]; omega]
  exact ih g2 kq2 (by rw [k1, k2, gc]; exact s3) (k0.trans g0)
theorem law_cancels {d L kp n : Nat} {h : Nat → Nat → Int} {Q : Option am_V → am_H → Prop} (hd : 31 ≤ d) (hL : L < 100000) (hn : n + 6 ≤ L) (hi : am_INV (c_S h) (m_S h)) (ih : ∀ g kp, am_INV (c_S g) (m_S g) → g 0 = h 0 → am_Wp d 0 18 [some (Sum.inr (Sum.inr 0)), some (Sum.inr (Sum.inr 1)), some (Sum.inr (Sum.inr 70)), some (Sum.inl ((n + 6 : Nat) : Int))] [] (am_SH L, g, am_RR kp) Q) : am_Wp d 0 1171 [some (Sum.inr (Sum.inr 0)), some (Sum.inr (Sum.inr 1)), some (Sum.inr (Sum.inr 70)), some (Sum.inl (n : Int))] [] (am_SH L, h, am_RR kp) Q := by
  obtain ⟨r, c, m, ⟨x, rfl⟩, s1, s2, s3⟩ := p_cancels (d := d - 1) (by omega) h hi
  rw [bq_Law_law_1171 (by omega)]
  refine s1 L kp _ (fun g kq g0 gc gm => ?_)
  simp only [Option.toList_some, Option.toList_none, List.cons_append, List.nil_append]
  rw [bq_Law_law_1175 (by omega)]
  refine s2 g gc gm L kq _ (fun g2 kq2 k0 k1 k2 => ?_)
  simp only [Option.toList_some, Option.toList_none, List.cons_append, List.nil_append]
  rw [bq_Law_law_1179, if_pos rfl, bq_Law_law_1454, show am_add (n : Int) 6 = ((n + 6 : Nat) : Int) by rw [am_add_ok (by omega) (by omega)]; omega]
  exact ih g2 kq2 (by rw [k1, k2, gc]; exact s3) (k0.trans g0)
theorem law_bestOver {d L kp n : Nat} {h : Nat → Nat → Int} {Q : Option am_V → am_H → Prop} (hd : 31 ≤ d) (hL : L < 100000) (hn : n + 6 ≤ L) (hi : am_INV (c_S h) (m_S h)) (ih : ∀ g kp, am_INV (c_S g) (m_S g) → g 0 = h 0 → am_Wp d 0 18 [some (Sum.inr (Sum.inr 0)), some (Sum.inr (Sum.inr 1)), some (Sum.inr (Sum.inr 70)), some (Sum.inl ((n + 6 : Nat) : Int))] [] (am_SH L, g, am_RR kp) Q) : am_Wp d 0 1184 [some (Sum.inr (Sum.inr 0)), some (Sum.inr (Sum.inr 1)), some (Sum.inr (Sum.inr 70)), some (Sum.inl (n : Int))] [] (am_SH L, h, am_RR kp) Q := by
  obtain ⟨r, c, m, ⟨x, rfl⟩, s1, s2, s3⟩ := p_bestOver (d := d - 1) (by omega) h hi
  rw [bq_Law_law_1184 (by omega)]
  refine s1 L kp _ (fun g kq g0 gc gm => ?_)
  simp only [Option.toList_some, Option.toList_none, List.cons_append, List.nil_append]
  rw [bq_Law_law_1188 (by omega)]
  refine s2 g gc gm L kq _ (fun g2 kq2 k0 k1 k2 => ?_)
  simp only [Option.toList_some, Option.toList_none, List.cons_append, List.nil_append]
  rw [bq_Law_law_1192, if_pos rfl, bq_Law_law_1454, show am_add (n : Int) 6 = ((n + 6 : Nat) : Int) by rw [am_add_ok (by omega) (by omega)]; omega]
  exact ih g2 kq2 (by rw [k1, k2, gc]; exact s3) (k0.trans g0)
theorem law_relieved {d L kp n : Nat} {h : Nat → Nat → Int} {Q : Option am_V → am_H → Prop} (hd : 31 ≤ d) (hL : L < 100000) (hn : n + 6 ≤ L) (hi : am_INV (c_S h) (m_S h)) (ih : ∀ g kp, am_INV (c_S g) (m_S g) → g 0 = h 0 → am_Wp d 0 18 [some (Sum.inr (Sum.inr 0)), some (Sum.inr (Sum.inr 1)), some (Sum.inr (Sum.inr 70)), some (Sum.inl ((n + 6 : Nat) : Int))] [] (am_SH L, g, am_RR kp) Q) : am_Wp d 0 1197 [some (Sum.inr (Sum.inr 0)), some (Sum.inr (Sum.inr 1)), some (Sum.inr (Sum.inr 70)), some (Sum.inl (n : Int))] [] (am_SH L, h, am_RR kp) Q := by
  have a1 : am_add (n : Int) 1 = ((n + 1 : Nat) : Int) := by rw [am_add_ok (by omega) (by omega)]; omega
  have a2 : am_add (n : Int) 2 = ((n + 2 : Nat) : Int) := by rw [am_add_ok (by omega) (by omega)]; omega
  obtain ⟨r, c, m, ⟨x, rfl⟩, s1, s2, s3⟩ := p_relieved (d := d - 1) (i := h 0 (n + 1)) (w := h 0 (n + 2)) (by omega) h hi
  rw [bq_Law_law_1197 (by omega), a1, a2, am_gd (by omega) (by omega), am_gd (by omega) (by omega), Int.toNat_natCast, Int.toNat_natCast]
  refine s1 L kp _ (fun g kq g0 gc gm => ?_)
  simp only [Option.toList_some, Option.toList_none, List.cons_append, List.nil_append]
  rw [bq_Law_law_1211 (by omega), a1, a2, am_gd (by omega) (by omega), am_gd (by omega) (by omega), Int.toNat_natCast, Int.toNat_natCast, g0]
  refine s2 g gc gm L kq _ (fun g2 kq2 k0 k1 k2 => ?_)
  simp only [Option.toList_some, Option.toList_none, List.cons_append, List.nil_append]
  rw [bq_Law_law_1225, if_pos rfl, bq_Law_law_1454, show am_add (n : Int) 6 = ((n + 6 : Nat) : Int) by rw [am_add_ok (by omega) (by omega)]; omega]
  exact ih g2 kq2 (by rw [k1, k2, gc]; exact s3) (k0.trans g0)
theorem law_power {d L kp n : Nat} {h : Nat → Nat → Int} {Q : Option am_V → am_H → Prop} (hd : 31 ≤ d) (hL : L < 100000) (hn : n + 6 ≤ L) (hi : am_INV (c_S h) (m_S h)) (ih : ∀ g kp, am_INV (c_S g) (m_S g) → g 0 = h 0 → am_Wp d 0 18 [some (Sum.inr (Sum.inr 0)), some (Sum.inr (Sum.inr 1)), some (Sum.inr (Sum.inr 70)), some (Sum.inl ((n + 6 : Nat) : Int))] [] (am_SH L, g, am_RR kp) Q) : am_Wp d 0 1230 [some (Sum.inr (Sum.inr 0)), some (Sum.inr (Sum.inr 1)), some (Sum.inr (Sum.inr 70)), some (Sum.inl (n : Int))] [] (am_SH L, h, am_RR kp) Q := by
  have a1 : am_add (n : Int) 1 = ((n + 1 : Nat) : Int) := by rw [am_add_ok (by omega) (by omega)]; omega
  have a2 : am_add (n : Int) 2 = ((n + 2 : Nat) : Int) := by rw [am_add_ok (by omega) (by omega)]; omega
  have a3 : am_add (n : Int) 3 = ((n + 3 : Nat) : Int) := by rw [am_add_ok (by omega) (by omega)]; omega
  obtain ⟨r, c, m, ⟨x, rfl⟩, s1, s2, s3⟩ := p_power (d := d - 1) (i := h 0 (n + 1)) (e := h 0 (n + 2)) (t := h 0 (n + 3)) (by omega) h hi
  rw [bq_Law_law_1230 (by omega), a1, a2, a3, am_gd (by omega) (by omega), am_gd (by omega) (by omega), am_gd (by omega) (by omega), Int.toNat_natCast, Int.toNat_natCast, Int.toNat_natCast]
  refine s1 L kp _ (fun g kq g0 gc gm => ?_)
  simp only [Option.toList_some, Option.toList_none, List.cons_append, List.nil_append]
  rw [bq_Law_law_1249 (by omega), a1, a2, a3, am_gd (by omega) (by omega), am_gd (by omega) (by omega), am_gd (by omega) (by omega), Int.toNat_natCast, Int.toNat_natCast, Int.toNat_natCast, g0]
  refine s2 g gc gm L kq _ (fun g2 kq2 k0 k1 k2 => ?_)
  simp only [Option.toList_some, Option.toList_none, List.cons_append, List.nil_append]
  rw [bq_Law_law_1268, if_pos am_lcmp0, bq_Law_law_1454, show am_add (n : Int) 6 = ((n + 6 : Nat) : Int) by rw [am_add_ok (by omega) (by omega)]; omega]
  exact ih g2 kq2 (by rw [k1, k2, gc]; exact s3) (k0.trans g0)
theorem law_atOnce {d L kp n : Nat} {h : Nat → Nat → Int} {Q : Option am_V → am_H → Prop} (hd : 31 ≤ d) (hL : L < 100000) (hn : n + 6 ≤ L) (hi : am_INV (c_S h) (m_S h)) (ih : ∀ g kp, am_INV (c_S g) (m_S g) → g 0 = h 0 → am_Wp d 0 18 [some (Sum.inr (Sum.inr 0)), some (Sum.inr (Sum.inr 1)), some (Sum.inr (Sum.inr 70)), some (Sum.inl ((n + 6 : Nat) : Int))] [] (am_SH L, g, am_RR kp) Q) : am_Wp d 0 1274 [some (Sum.inr (Sum.inr 0)), some (Sum.inr (Sum.inr 1)), some (Sum.inr (Sum.inr 70)), some (Sum.inl (n : Int))] [] (am_SH L, h, am_RR kp) Q := by
  obtain ⟨r, c, m, ⟨x, rfl⟩, s1, s2, s3⟩ := p_atOnce (d := d - 1) (by omega) h hi
  rw [bq_Law_law_1274 (by omega)]
  refine s1 L kp _ (fun g kq g0 gc gm => ?_)
  simp only [Option.toList_some, Option.toList_none, List.cons_append, List.nil_append]
  rw [bq_Law_law_1278 (by omega)]
  refine s2 g gc gm L kq _ (fun g2 kq2 k0 k1 k2 => ?_)
  simp only [Option.toList_some, Option.toList_none, List.cons_append, List.nil_append]
  rw [bq_Law_law_1282, if_pos rfl, bq_Law_law_1454, show am_add (n : Int) 6 = ((n + 6 : Nat) : Int) by rw [am_add_ok (by omega) (by omega)]; omega]
  exact ih g2 kq2 (by rw [k1, k2, gc]; exact s3) (k0.trans g0)
theorem law_rounds {d L kp n : Nat} {h : Nat → Nat → Int} {Q : Option am_V → am_H → Prop} (hd : 31 ≤ d) (hL : L < 100000) (hn : n + 6 ≤ L) (hi : am_INV (c_S h) (m_S h)) (ih : ∀ g kp, am_INV (c_S g) (m_S g) → g 0 = h 0 → am_Wp d 0 18 [some (Sum.inr (Sum.inr 0)), some (Sum.inr (Sum.inr 1)), some (Sum.inr (Sum.inr 70)), some (Sum.inl ((n + 6 : Nat) : Int))] [] (am_SH L, g, am_RR kp) Q) : am_Wp d 0 1287 [some (Sum.inr (Sum.inr 0)), some (Sum.inr (Sum.inr 1)), some (Sum.inr (Sum.inr 70)), some (Sum.inl (n : Int))] [] (am_SH L, h, am_RR kp) Q := by
  obtain ⟨r, c, m, ⟨x, rfl⟩, s1, s2, s3⟩ := p_rounds (d := d - 1) (by omega) h hi
  rw [bq_Law_law_1287 (by omega)]
  refine s1 L kp _ (fun g kq g0 gc gm => ?_)
  simp only [Option.toList_some, Option.toList_none, List.cons_append, List.nil_append]
  rw [bq_Law_law_1291 (by omega)]
  refine s2 g gc gm L kq _ (fun g2 kq2 k0 k1 k2 => ?_)
  simp only [Option.toList_some, Option.toList_none, List.cons_append, List.nil_append]
  rw [bq_Law_law_1295, if_pos rfl, bq_Law_law_1454, show am_add (n : Int) 6 = ((n + 6 : Nat) : Int) by rw [am_add_ok (by omega) (by omega)]; omega]
  exact ih g2 kq2 (by rw [k1, k2, gc]; exact s3) (k0.trans g0)
theorem law_heaviest {d L kp n : Nat} {h : Nat → Nat → Int} {Q : Option am_V → am_H → Prop} (hd : 31 ≤ d) (hL : L < 100000) (hn : n + 6 ≤ L) (hi : am_INV (c_S h) (m_S h)) (ih : ∀ g kp, am_INV (c_S g) (m_S g) → g 0 = h 0 → am_Wp d 0 18 [some (Sum.inr (Sum.inr 0)), some (Sum.inr (Sum.inr 1)), some (Sum.inr (Sum.inr 70)), some (Sum.inl ((n + 6 : Nat) : Int))] [] (am_SH L, g, am_RR kp) Q) : am_Wp d 0 1300 [some (Sum.inr (Sum.inr 0)), some (Sum.inr (Sum.inr 1)), some (Sum.inr (Sum.inr 70)), some (Sum.inl (n : Int))] [] (am_SH L, h, am_RR kp) Q := by
  have a1 : am_add (n : Int) 1 = ((n + 1 : Nat) : Int) := by rw [am_add_ok (by omega) (by omega)]; omega
  obtain ⟨r, c, m, ⟨x, rfl⟩, s1, s2, s3⟩ := p_heaviest (d := d - 1) (w := h 0 (n + 1)) (by omega) h hi
  rw [bq_Law_law_1300 (by omega), a1, am_gd (by omega) (by omega), Int.toNat_natCast]
  refine s1 L kp _ (fun g kq g0 gc gm => ?_)
  simp only [Option.toList_some, Option.toList_none, List.cons_append, List.nil_append]
  rw [bq_Law_law_1309 (by omega), a1, am_gd (by omega) (by omega), Int.toNat_natCast, g0]
  refine s2 g gc gm L kq _ (fun g2 kq2 k0 k1 k2 => ?_)
  simp only [Option.toList_some, Option.toList_none, List.cons_append, List.nil_append]
  rw [bq_Law_law_1318, if_pos rfl, bq_Law_law_1454, show am_add (n : Int) 6 = ((n + 6 : Nat) : Int) by rw [am_add_ok (by omega) (by omega)]; omega]
  exact ih g2 kq2 (by rw [k1, k2, gc]; exact s3) (k0.trans g0)
theorem law_row {d L kp n : Nat} {h : Nat → Nat → Int} {Q : Option am_V → am_H → Prop} (hd : 31 ≤ d) (hL : L < 100000) (hn : n + 6 ≤ L) (hi : am_INV (c_S h) (m_S h)) (ih : ∀ g kp, am_INV (c_S g) (m_S g) → g 0 = h 0 → am_Wp d 0 18 [some (Sum.inr (Sum.inr 0)), some (Sum.inr (Sum.inr 1)), some (Sum.inr (Sum.inr 70)), some (Sum.inl ((n + 6 : Nat) : Int))] [] (am_SH L, g, am_RR kp) Q) : am_Wp d 0 1323 [some (Sum.inr (Sum.inr 0)), some (Sum.inr (Sum.inr 1)), some (Sum.inr (Sum.inr 70)), some (Sum.inl (n : Int))] [] (am_SH L, h, am_RR kp) Q := by
  have a1 : am_add (n : Int) 1 = ((n + 1 : Nat) : Int) := by rw [am_add_ok (by omega) (by omega)]; omega
  obtain ⟨r, c, m, ⟨x, rfl⟩, s1, s2, s3⟩ := p_row (d := d - 1) (v := h 0 (n + 1)) (by omega) h hi
  rw [bq_Law_law_1323 (by omega), a1, am_gd (by omega) (by omega), Int.toNat_natCast]
  refine s1 L kp _ (fun g kq g0 gc gm => ?_)
  simp only [Option.toList_some, Option.toList_none, List.cons_append, List.nil_append]
  rw [bq_Law_law_1332 (by omega), a1, am_gd (by omega) (by omega), Int.toNat_natCast, g0]
  refine s2 g gc gm L kq _ (fun g2 kq2 k0 k1 k2 => ?_)
  simp only [Option.toList_some, Option.toList_none, List.cons_append, List.nil_append]
  rw [bq_Law_law_1341, if_pos rfl, bq_Law_law_1454, show am_add (n : Int) 6 = ((n + 6 : Nat) : Int) by rw [am_add_ok (by omega) (by omega)]; omega]
  exact ih g2 kq2 (by rw [k1, k2, gc]; exact s3) (k0.trans g0)
theorem law_judge {d L kp n : Nat} {h : Nat → Nat → Int} {Q : Option am_V → am_H → Prop} (hd : 31 ≤ d) (hL : L < 100000) (hn : n + 6 ≤ L) (hi : am_INV (c_S h) (m_S h)) (ih : ∀ g kp, am_INV (c_S g) (m_S g) → g 0 = h 0 → am_Wp d 0 18 [some (Sum.inr (Sum.inr 0)), some (Sum.inr (Sum.inr 1)), some (Sum.inr (Sum.inr 70)), some (Sum.inl ((n + 6 : Nat) : Int))] [] (am_SH L, g, am_RR kp) Q) : am_Wp d 0 1346 [some (Sum.inr (Sum.inr 0)), some (Sum.inr (Sum.inr 1)), some (Sum.inr (Sum.inr 70)), some (Sum.inl (n : Int))] [] (am_SH L, h, am_RR kp) Q := by
  obtain ⟨r, c, m, ⟨x, rfl⟩, s1, s2, s3⟩ := p_judge (d := d - 1) (by omega) h hi
  rw [bq_Law_law_1346 (by omega)]
  refine s1 L kp _ (fun g kq g0 gc gm => ?_)
  simp only [Option.toList_some, Option.toList_none, List.cons_append, List.nil_append]
  rw [bq_Law_law_1350 (by omega)]
  refine s2 g gc gm L kq _ (fun g2 kq2 k0 k1 k2 => ?_)
  simp only [Option.toList_some, Option.toList_none, List.cons_append, List.nil_append]
  rw [bq_Law_law_1354, if_pos rfl, bq_Law_law_1454, show am_add (n : Int) 6 = ((n + 6 : Nat) : Int) by rw [am_add_ok (by omega) (by omega)]; omega]
  exact ih g2 kq2 (by rw [k1, k2, gc]; exact s3) (k0.trans g0)
theorem law_clear {d L kp n : Nat} {h : Nat → Nat → Int} {Q : Option am_V → am_H → Prop} (hd : 31 ≤ d) (hL : L < 100000) (hn : n + 6 ≤ L) (hi : am_INV (c_S h) (m_S h)) (ih : ∀ g kp, am_INV (c_S g) (m_S g) → g 0 = h 0 → am_Wp d 0 18 [some (Sum.inr (Sum.inr 0)), some (Sum.inr (Sum.inr 1)), some (Sum.inr (Sum.inr 70)), some (Sum.inl ((n + 6 : Nat) : Int))] [] (am_SH L, g, am_RR kp) Q) : am_Wp d 0 1359 [some (Sum.inr (Sum.inr 0)), some (Sum.inr (Sum.inr 1)), some (Sum.inr (Sum.inr 70)), some (Sum.inl (n : Int))] [] (am_SH L, h, am_RR kp) Q := by
  obtain ⟨r, c, m, ⟨x, rfl⟩, s1, s2, s3⟩ := p_clear (d := d - 1) h hi
  rw [bq_Law_law_1359 (by omega)]
  refine s1 L kp _ (fun g kq g0 gc gm => ?_)
  simp only [Option.toList_some, Option.toList_none, List.cons_append, List.nil_append]
  rw [bq_Law_law_1363 (by omega)]
  refine s2 g gc gm L kq _ (fun g2 kq2 k0 k1 k2 => ?_)
  simp only [Option.toList_some, Option.toList_none, List.cons_append, List.nil_append]
  rw [bq_Law_law_1367, if_pos rfl, bq_Law_law_1454, show am_add (n : Int) 6 = ((n + 6 : Nat) : Int) by rw [am_add_ok (by omega) (by omega)]; omega]
  exact ih g2 kq2 (by rw [k1, k2, gc]; exact s3) (k0.trans g0)
theorem law_lots {d L kp n : Nat} {h : Nat → Nat → Int} {Q : Option am_V → am_H → Prop} (hd : 31 ≤ d) (hL : L < 100000) (hn : n + 6 ≤ L) (hi : am_INV (c_S h) (m_S h)) (ih : ∀ g kp, am_INV (c_S g) (m_S g) → g 0 = h 0 → am_Wp d 0 18 [some (Sum.inr (Sum.inr 0)), some (Sum.inr (Sum.inr 1)), some (Sum.inr (Sum.inr 70)), some (Sum.inl ((n + 6 : Nat) : Int))] [] (am_SH L, g, am_RR kp) Q) : am_Wp d 0 1372 [some (Sum.inr (Sum.inr 0)), some (Sum.inr (Sum.inr 1)), some (Sum.inr (Sum.inr 70)), some (Sum.inl (n : Int))] [] (am_SH L, h, am_RR kp) Q := by
  have a1 : am_add (n : Int) 1 = ((n + 1 : Nat) : Int) := by rw [am_add_ok (by omega) (by omega)]; omega
  have a2 : am_add (n : Int) 2 = ((n + 2 : Nat) : Int) := by rw [am_add_ok (by omega) (by omega)]; omega
  obtain ⟨r, c, m, ⟨x, rfl⟩, s1, s2, s3⟩ := p_lots (d := d - 1) (i := h 0 (n + 1)) (e := h 0 (n + 2)) (by omega) h hi
  rw [bq_Law_law_1372 (by omega), a1, a2, am_gd (by omega) (by omega), am_gd (by omega) (by omega), Int.toNat_natCast, Int.toNat_natCast]
  refine s1 L kp _ (fun g kq g0 gc gm => ?_)
  simp only [Option.toList_some, Option.toList_none, List.cons_append, List.nil_append]
  rw [bq_Law_law_1386 (by omega), a1, a2, am_gd (by omega) (by omega), am_gd (by omega) (by omega), Int.toNat_natCast, Int.toNat_natCast, g0]
  refine s2 g gc gm L kq _ (fun g2 kq2 k0 k1 k2 => ?_)
  simp only [Option.toList_some, Option.toList_none, List.cons_append, List.nil_append]
  rw [bq_Law_law_1400, if_pos rfl, bq_Law_law_1454, show am_add (n : Int) 6 = ((n + 6 : Nat) : Int) by rw [am_add_ok (by omega) (by omega)]; omega]
  exact ih g2 kq2 (by rw [k1, k2, gc]; exact s3) (k0.trans g0)
theorem law_image {d L kp n : Nat} {h : Nat → Nat → Int} {Q : Option am_V → am_H → Prop} (hd : 31 ≤ d) (hL : L < 100000) (hn : n + 6 ≤ L) (hi : am_INV (c_S h) (m_S h)) (ih : ∀ g kp, am_INV (c_S g) (m_S g) → g 0 = h 0 → am_Wp d 0 18 [some (Sum.inr (Sum.inr 0)), some (Sum.inr (Sum.inr 1)), some (Sum.inr (Sum.inr 70)), some (Sum.inl ((n + 6 : Nat) : Int))] [] (am_SH L, g, am_RR kp) Q) : am_Wp d 0 1405 [some (Sum.inr (Sum.inr 0)), some (Sum.inr (Sum.inr 1)), some (Sum.inr (Sum.inr 70)), some (Sum.inl (n : Int))] [] (am_SH L, h, am_RR kp) Q := by
  obtain ⟨r, c, m, ⟨x, rfl⟩, s1, s2, s3⟩ := p_image (d := d - 1) (by omega) h hi
  rw [bq_Law_law_1405 (by omega)]
  refine s1 L kp _ (fun g kq g0 gc gm => ?_)
  simp only [Option.toList_some, Option.toList_none, List.cons_append, List.nil_append]
  rw [bq_Law_law_1409 (by omega)]
  refine s2 g gc gm L kq _ (fun g2 kq2 k0 k1 k2 => ?_)
  simp only [Option.toList_some, Option.toList_none, List.cons_append, List.nil_append]
  rw [bq_Law_law_1413, if_pos rfl, bq_Law_law_1454, show am_add (n : Int) 6 = ((n + 6 : Nat) : Int) by rw [am_add_ok (by omega) (by omega)]; omega]
  exact ih g2 kq2 (by rw [k1, k2, gc]; exact s3) (k0.trans g0)
theorem law_restore {d L kp n : Nat} {h : Nat → Nat → Int} {Q : Option am_V → am_H → Prop} (hd : 31 ≤ d) (hL : L < 100000) (hn : n + 6 ≤ L) (hi : am_INV (c_S h) (m_S h)) (ih : ∀ g kp, am_INV (c_S g) (m_S g) → g 0 = h 0 → am_Wp d 0 18 [some (Sum.inr (Sum.inr 0)), some (Sum.inr (Sum.inr 1)), some (Sum.inr (Sum.inr 70)), some (Sum.inl ((n + 6 : Nat) : Int))] [] (am_SH L, g, am_RR kp) Q) : am_Wp d 0 1418 [some (Sum.inr (Sum.inr 0)), some (Sum.inr (Sum.inr 1)), some (Sum.inr (Sum.inr 70)), some (Sum.inl (n : Int))] [] (am_SH L, h, am_RR kp) Q := by
  obtain ⟨r, c, m, ⟨x, rfl⟩, s1, s2, s3⟩ := p_restore (d := d - 1) (by omega) h hi
  rw [bq_Law_law_1418 (by omega)]
  refine s1 L kp _ (fun g kq g0 gc gm => ?_)
  simp only [Option.toList_some, Option.toList_none, List.cons_append, List.nil_append]
  rw [bq_Law_law_1422 (by omega)]
  refine s2 g gc gm L kq _ (fun g2 kq2 k0 k1 k2 => ?_)
  simp only [Option.toList_some, Option.toList_none, List.cons_append, List.nil_append]
  rw [bq_Law_law_1426, if_pos rfl, bq_Law_law_1454, show am_add (n : Int) 6 = ((n + 6 : Nat) : Int) by rw [am_add_ok (by omega) (by omega)]; omega]
  exact ih g2 kq2 (by rw [k1, k2, gc]; exact s3) (k0.trans g0)
theorem law_count {d L kp n : Nat} {h : Nat → Nat → Int} {Q : Option am_V → am_H → Prop} (hd : 31 ≤ d) (hL : L < 100000) (hn : n + 6 ≤ L) (hi : am_INV (c_S h) (m_S h)) (ih : ∀ g kp, am_INV (c_S g) (m_S g) → g 0 = h 0 → am_Wp d 0 18 [some (Sum.inr (Sum.inr 0)), some (Sum.inr (Sum.inr 1)), some (Sum.inr (Sum.inr 70)), some (Sum.inl ((n + 6 : Nat) : Int))] [] (am_SH L, g, am_RR kp) Q) : am_Wp d 0 1431 [some (Sum.inr (Sum.inr 0)), some (Sum.inr (Sum.inr 1)), some (Sum.inr (Sum.inr 70)), some (Sum.inl (n : Int))] [] (am_SH L, h, am_RR kp) Q := by
  have a1 : am_add (n : Int) 1 = ((n + 1 : Nat) : Int) := by rw [am_add_ok (by omega) (by omega)]; omega
  obtain ⟨r, c, m, ⟨x, rfl⟩, s1, s2, s3⟩ := p_count (d := d - 1) (w := h 0 (n + 1)) (by omega) h hi
  rw [bq_Law_law_1431 (by omega), a1, am_gd (by omega) (by omega), Int.toNat_natCast]
  refine s1 L kp _ (fun g kq g0 gc gm => ?_)
  simp only [Option.toList_some, Option.toList_none, List.cons_append, List.nil_append]
  rw [bq_Law_law_1440 (by omega), a1, am_gd (by omega) (by omega), Int.toNat_natCast, g0]
  refine s2 g gc gm L kq _ (fun g2 kq2 k0 k1 k2 => ?_)
  simp only [Option.toList_some, Option.toList_none, List.cons_append, List.nil_append]
  rw [bq_Law_law_1449, if_pos rfl, bq_Law_law_1454, show am_add (n : Int) 6 = ((n + 6 : Nat) : Int) by rw [am_add_ok (by omega) (by omega)]; omega]
  exact ih g2 kq2 (by rw [k1, k2, gc]; exact s3) (k0.trans g0)
theorem law_step {d L kp n : Nat} {h : Nat → Nat → Int} {Q : Option am_V → am_H → Prop} (hd : 31 ≤ d) (hL : L < 100000) (hn : n + 6 ≤ L) (hi : am_INV (c_S h) (m_S h)) (ih : ∀ g kp, am_INV (c_S g) (m_S g) → g 0 = h 0 → am_Wp d 0 18 [some (Sum.inr (Sum.inr 0)), some (Sum.inr (Sum.inr 1)), some (Sum.inr (Sum.inr 70)), some (Sum.inl ((n + 6 : Nat) : Int))] [] (am_SH L, g, am_RR kp) Q) : am_Wp d 0 18 [some (Sum.inr (Sum.inr 0)), some (Sum.inr (Sum.inr 1)), some (Sum.inr (Sum.inr 70)), some (Sum.inl (n : Int))] [] (am_SH L, h, am_RR kp) Q := by
  have fin : am_Wp d 0 1454 [some (Sum.inr (Sum.inr 0)), some (Sum.inr (Sum.inr 1)), some (Sum.inr (Sum.inr 70)), some (Sum.inl (n : Int))] [] (am_SH L, h, am_RR kp) Q := by
    rw [bq_Law_law_1454, show am_add (n : Int) 6 = ((n + 6 : Nat) : Int) by rw [am_add_ok (by omega) (by omega)]; omega]
    exact ih h kp hi rfl
  rw [bq_Law_law_18 (show Nat.blt L 200000 = true by rw [Nat.blt_eq]; omega), if_neg (by rw [am_sub_ok (by omega) (by omega)]; omega), am_gd (by omega) (by omega)]
  exact am_ifP (fun _ => law_feed hd hL hn hi ih) (am_ifP (fun _ => law_street hd hL hn hi ih) (am_ifP (fun _ => law_person hd hL hn hi ih) (am_ifP (fun _ => law_paper hd hL hn hi ih) (am_ifP (fun _ => law_unwilling hd hL hn hi ih) (am_ifP (fun _ => law_owe hd hL hn hi ih) (am_ifP (fun _ => law_over hd hL hn hi ih) (am_ifP (fun _ => law_go hd hL hn hi ih) (am_ifP (fun _ => law_back hd hL hn hi ih) (am_ifP (fun _ => law_owes hd hL hn hi ih) (am_ifP (fun _ => law_net hd hL hn hi ih) (am_ifP (fun _ => law_payments hd hL hn hi ih) (am_ifP (fun _ => law_through hd hL hn hi ih) (am_ifP (fun _ => law_nobodyWill hd hL hn hi ih) (am_ifP (fun _ => law_square hd hL hn hi ih) (am_ifP (fun _ => law_soonest hd hL hn hi ih) (am_ifP (fun _ => law_busiest hd hL hn hi ih) (am_ifP (fun _ => law_gain hd hL hn hi ih) (am_ifP (fun _ => law_bestBuy hd hL hn hi ih) (am_ifP (fun _ => law_swings hd hL hn hi ih) (am_ifP (fun _ => law_boss hd hL hn hi ih) (am_ifP (fun _ => law_corner hd hL hn hi ih) (am_ifP (fun _ => law_looks hd hL hn hi ih) (am_ifP (fun _ => law_chain hd hL hn hi ih) (am_ifP (fun _ => law_inIt hd hL hn hi ih) (am_ifP (fun _ => law_comesIn hd hL hn hi ih) (am_ifP (fun _ => law_fits hd hL hn hi ih) (am_ifP (fun _ => law_deaths hd hL hn hi ih) (am_ifP (fun _ => law_hold hd hL hn hi ih) (am_ifP (fun _ => law_ring hd hL hn hi ih) (am_ifP (fun _ => law_round hd hL hn hi ih) (am_ifP (fun _ => law_stands hd hL hn hi ih) (am_ifP (fun _ => law_rich hd hL hn hi ih) (am_ifP (fun _ => law_last hd hL hn hi ih) (am_ifP (fun _ => law_paidBy hd hL hn hi ih) (am_ifP (fun _ => law_trade hd hL hn hi ih) (am_ifP (fun _ => law_heirs hd hL hn hi ih) (am_ifP (fun _ => law_stuck hd hL hn hi ih) (am_ifP (fun _ => law_cancels hd hL hn hi ih) (am_ifP (fun _ => law_bestOver hd hL hn hi ih) (am_ifP (fun _ => law_relieved hd hL hn hi ih) (am_ifP (fun _ => law_power hd hL hn hi ih) (am_ifP (fun _ => law_atOnce hd hL hn hi ih) (am_ifP (fun _ => law_rounds hd hL hn hi ih) (am_ifP (fun _ => law_heaviest hd hL hn hi ih) (am_ifP (fun _ => law_row hd hL hn hi ih) (am_ifP (fun _ => law_judge hd hL hn hi ih) (am_ifP (fun _ => law_clear hd hL hn hi ih) (am_ifP (fun _ => law_lots hd hL hn hi ih) (am_ifP (fun _ => law_image hd hL hn hi ih) (am_ifP (fun _ => law_restore hd hL hn hi ih) (am_ifP (fun _ => law_count hd hL hn hi ih) (fin))))))))))))))))))))))))))))))))))))))))))))))))))))
theorem law_all {d L : Nat} {Q : Option am_V → am_H → Prop} (hd : 31 ≤ d) (hL : L < 100000) (hq : ∀ g kp, Q (some (Sum.inl 1)) (am_SH L, g, am_RR kp)) : ∀ k n kp h, L ≤ n + 6 * k → n ≤ L → am_INV (c_S h) (m_S h) → am_Wp d 0 18 [some (Sum.inr (Sum.inr 0)), some (Sum.inr (Sum.inr 1)), some (Sum.inr (Sum.inr 70)), some (Sum.inl (n : Int))] [] (am_SH L, h, am_RR kp) Q := by
  intro k
  induction k with
  | zero =>
    intro n kp h h1 h2 hi
    rw [bq_Law_law_18 (show Nat.blt L 200000 = true by rw [Nat.blt_eq]; omega), if_pos (by rw [am_sub_ok (by omega) (by omega)]; omega)]
    exact hq h kp
  | succ k ih =>
    intro n kp h h1 h2 hi
    by_cases q : n + 6 ≤ L
    · exact law_step hd hL q hi (fun g kp2 hg _ => ih (n + 6) kp2 g (by omega) (by omega) hg)
    · rw [bq_Law_law_18 (show Nat.blt L 200000 = true by rw [Nat.blt_eq]; omega), if_pos (by rw [am_sub_ok (by omega) (by omega)]; omega)]
      exact hq h kp