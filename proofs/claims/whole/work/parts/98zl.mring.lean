/-! THE REFERENCE SEEKS THE RING -/
theorem sp_M_isNewOn {d L kp : Nat} {h : Nat → Nat → Int} {Q : Option am_V → am_H → Prop} {i : Nat} (hi : i < 7) (hq1 : (∀ j, j < i → ¬ h 100 j = h 100 i) → Q (some (Sum.inl 1)) (am_SH L, h, am_RR kp)) (hq2 : (∃ j, j < i ∧ h 100 j = h 100 i) → Q (some (Sum.inl 0)) (am_SH L, h, am_RR kp)) : am_Wp d 268 0 [some (Sum.inr (Sum.inr 70)), some (Sum.inl (i : Int)), none, none] [] (am_SH L, h, am_RR kp) Q := by
  rw [bq_M_isNewOn_0]
  refine am_im_fr (J := Int) (a := 0) (n := i) (fun k x => (x = 1 ∧ ∀ j, j < k → ¬ h 100 j = h 100 i) ∨ (x = 0 ∧ ∃ j, j < k ∧ h 100 j = h 100 i)) (fun k x => am_Wp d 268 4 [some (Sum.inr (Sum.inr 70)), some (Sum.inl ((i : Int))), some (Sum.inl (x)), some (Sum.inl ((k : Int)))] [] (am_SH L, h, am_RR kp) Q) (by omega) (fun k x h1 h2 hx ih => ?_) (fun x hx => ?_) 1 (Or.inl ⟨rfl, fun j hj => absurd hj (by omega)⟩)
  · rw [bq_M_isNewOn_4, if_neg (by omega)]
    rcases hx with ⟨e, hx⟩ | ⟨e, j, hj, hx⟩
    · rw [if_neg (by omega), am_gd (by omega) (by omega), am_gd (by omega) (by omega), Int.toNat_natCast, Int.toNat_natCast]
      by_cases q : h 100 k = h 100 i
      · rw [if_pos q, bq_M_isNewOn_32, bq_M_isNewOn_33, am_incn (by omega)]
        exact ih 0 (Or.inr ⟨rfl, k, by omega, q⟩)
      · rw [if_neg q, bq_M_isNewOn_33, am_incn (by omega)]
        refine ih 1 (Or.inl ⟨rfl, fun j hj => ?_⟩)
        by_cases q2 : j = k
        · rw [q2]; exact q
        · exact hx j (by omega)
    · rw [if_pos e, bq_M_isNewOn_32, bq_M_isNewOn_33, am_incn (by omega)]
      exact ih 0 (Or.inr ⟨rfl, j, by omega, hx⟩)
  · rw [bq_M_isNewOn_4, if_pos (by omega)]
    rcases hx with ⟨e, hx⟩ | ⟨e, hx⟩
    · rw [e, am_11]; exact hq1 hx
    · rw [e, am_01]; exact hq2 hx
def r_fm (h g : Nat → Nat → Int) : Prop := ∀ c j, ¬ c = 100 → g c j = h c j
theorem r_fm_u {h g : Nat → Nat → Int} {i : Nat} {v : Int} (hf : r_fm h g) : r_fm h (am_up g 100 i v) := fun c j hc => (am_upo hc).trans (hf c j hc)
theorem r_fm_mv {h g : Nat → Nat → Int} (hf : r_fm h g) : am_mv g = am_mv h := by
  have e : ∀ c, ¬ c = 100 → g c = h c := fun c hc => funext fun j => hf c j hc
  exact am_mv_mk (hf 70 0 (by omega)) (hf 70 6 (by omega)) (hf 70 5 (by omega)) (e 71 (by omega)) (e 72 (by omega)) (e 73 (by omega)) (e 74 (by omega)) (e 75 (by omega)) (e 76 (by omega)) (e 77 (by omega)) (e 78 (by omega)) (e 79 (by omega)) (e 80 (by omega))
def r_pre (E : Nat → Nat → Prop) (P i : Nat) (t : Nat → Nat) : Prop := (∀ j, j < i → t j < P) ∧ (∀ j, j + 1 < i → E (t j) (t (j + 1))) ∧ (∀ a b, a < b → b < i → ¬ t a = t b)
theorem r_pre_s {E : Nat → Nat → Prop} {P i u : Nat} {t : Nat → Nat} (hp : r_pre E P i t) (hi : 1 ≤ i) (hu : u < P) (he : E (t (i - 1)) u) (hne : ∀ j, j < i → ¬ t j = u) : r_pre E P (i + 1) (fun j => if j = i then u else t j) := by
  obtain ⟨p1, p2, p3⟩ := hp
  refine ⟨fun j hj => ?_, fun j hj => ?_, fun a b hab hb => ?_⟩
  · show (if j = i then u else t j) < P
    by_cases q : j = i
    · rw [if_pos q]; exact hu
    · rw [if_neg q]; exact p1 j (by omega)
  · show E (if j = i then u else t j) (if j + 1 = i then u else t (j + 1))
    rw [if_neg (by omega)]
    by_cases q : j + 1 = i
    · rw [if_pos q, show j = i - 1 by omega]; exact he
    · rw [if_neg q]; exact p2 j (by omega)
  · show ¬ (if a = i then u else t a) = (if b = i then u else t b)
    rw [if_neg (by omega)]
    by_cases q : b = i
    · rw [if_pos q]; exact hne a (by omega)
    · rw [if_neg q]; exact p3 a b hab (by omega)
theorem r_pre_full {E : Nat → Nat → Prop} {P n : Nat} {t : Nat → Nat} (hn : 2 ≤ n) (hp : r_pre E P n t) (he : E (t (n - 1)) (t 0)) : r_Full E n t := ⟨hn, fun i hi => hp.2.1 i hi, he, fun i j hij hj => hp.2.2 i j hij hj⟩
theorem r_full_pre {E : Nat → Nat → Prop} {P n i : Nat} {f : Nat → Nat} (hlt : ∀ a b, E a b → a < P ∧ b < P) (hf : r_Full E n f) (hi : i ≤ n) : r_pre E P i f := by
  refine ⟨fun j hj => ?_, fun j hj => hf.2.1 j (by omega), fun a b hab hb => hf.2.2.2 a b hab (by omega)⟩
  by_cases q : j + 1 < n
  · exact (hlt _ _ (hf.2.1 j q)).1
  · have := (hlt _ _ hf.2.2.1).1
    rw [show j = n - 1 by omega]; exact this
/-- one turn of the trail -/
theorem lp_M_cl {d L kp n P i u : Nat} {h g : Nat → Nat → Int} {t : Nat → Nat} {Q : Option am_V → am_H → Prop} (hd : 3 ≤ d) (hv : v_ok (am_mv h)) (hP : h 70 0 = (P : Int)) (hn : n ≤ 7) (hi : 1 ≤ i) (hin : i < n) (hu : u ≤ P) (hf : r_fm h g) (ht : ∀ j, j < i → g 100 j = (t j : Int)) (hgi : g 100 i = (u : Int) - 1) (hp : r_pre (r_E (am_mv h)) P i t) (h1 : u = P → ∀ g', r_fm h g' → (∀ j, j < i → g' 100 j = (t j : Int)) → am_Wp d 267 9 [some (Sum.inr (Sum.inr 70)), some (Sum.inl ((n : Int))), some (Sum.inl (((i - 1 : Nat) : Int)))] [] (am_SH L, g', am_RR kp) Q) (h2 : u < P → ∀ g', r_fm h g' → (∀ j, j < i → g' 100 j = (t j : Int)) → g' 100 i = (u : Int) → ((∃ j, j < i ∧ t j = u) ∨ ¬ r_E (am_mv h) (t (i - 1)) u) → am_Wp d 267 9 [some (Sum.inr (Sum.inr 70)), some (Sum.inl ((n : Int))), some (Sum.inl ((i : Int)))] [] (am_SH L, g', am_RR kp) Q) (h3 : u < P → (∀ j, j < i → ¬ t j = u) → r_E (am_mv h) (t (i - 1)) u → i + 1 = n → ∀ g', r_fm h g' → (∀ j, j < i → g' 100 j = (t j : Int)) → g' 100 i = (u : Int) → (r_E (am_mv h) u (t 0) → Q (some (Sum.inl 1)) (am_SH L, g', am_RR kp)) ∧ (¬ r_E (am_mv h) u (t 0) → am_Wp d 267 9 [some (Sum.inr (Sum.inr 70)), some (Sum.inl ((n : Int))), some (Sum.inl ((i : Int)))] [] (am_SH L, g', am_RR kp) Q)) (h4 : u < P → (∀ j, j < i → ¬ t j = u) → r_E (am_mv h) (t (i - 1)) u → i + 1 < n → ∀ g', r_fm h g' → (∀ j, j < i → g' 100 j = (t j : Int)) → g' 100 i = (u : Int) → g' 100 (i + 1) = -1 → am_Wp d 267 9 [some (Sum.inr (Sum.inr 70)), some (Sum.inl ((n : Int))), some (Sum.inl (((i + 1 : Nat) : Int)))] [] (am_SH L, g', am_RR kp) Q) : am_Wp d 267 9 [some (Sum.inr (Sum.inr 70)), some (Sum.inl ((n : Int))), some (Sum.inl ((i : Int)))] [] (am_SH L, g, am_RR kp) Q := by
  have hP7 := (mv_P hv).2
  obtain ⟨p1, p2, p3⟩ := hp
  have e700 : g 70 0 = (P : Int) := (hf 70 0 (by omega)).trans hP
  have eu : am_add (g 100 i) 1 = (u : Int) := by rw [hgi, am_add_ok (by omega) (by omega)]; omega
  have et : ∀ j, j < i → am_up g 100 i (u : Int) 100 j = (t j : Int) := fun j hj => (am_upj (by omega)).trans (ht j hj)
  have ei : am_up g 100 i (u : Int) 100 i = (u : Int) := am_upe
  have e70 : am_up g 100 i (u : Int) 70 0 = (P : Int) := e700
  have hfu : r_fm h (am_up g 100 i (u : Int)) := r_fm_u hf
  have emv : am_mv (am_up g 100 i (u : Int)) = (am_mv h) := r_fm_mv hfu
  rw [bq_M_closes_9 (by omega), if_neg (by omega), am_gd (by omega) (by omega), am_gd (by omega) (by omega), am_gd (by omega) (by omega), Int.toNat_natCast, eu, ei, e70]
  by_cases q : u = P
  · rw [if_pos (by omega), am_add_ok (by omega) (by omega), show (i : Int) + -1 = ((i - 1 : Nat) : Int) by omega]
    exact h1 q _ hfu et
  · rw [if_neg (by omega)]
    have huP : u < P := by omega
    refine sp_M_isNewOn (i := i) (by omega) (fun hnew => ?_) (fun ⟨j, hj, hnew⟩ => ?_)
    · have hne : ∀ j, j < i → ¬ t j = u := fun j hj w => by
        refine hnew j hj ?_
        rw [et j hj, ei, w]
      have hi1 : ((i - 1 : Nat) : Int) = am_sub (i : Int) 1 := by rw [am_sub_ok (by omega) (by omega)]; omega
      simp only [Option.toList_some, Option.toList_none, List.cons_append, List.nil_append]
      rw [bq_M_closes_47 (by omega), if_neg (by omega), ← hi1, am_gd (by omega) (by omega), am_gd (by omega) (by omega), Int.toNat_natCast, Int.toNat_natCast, et (i - 1) (by omega), ei, sp_M_owesOf (by rw [emv]; exact hv), emv]
      simp only [Option.toList_some, Option.toList_none, List.cons_append, List.nil_append]
      rw [bq_M_closes_68 (by omega)]
      by_cases q2 : v_owes (am_mv h) (t (i - 1) : Int) (u : Int) ≤ 0
      · rw [if_pos q2]
        exact h2 huP _ hfu et ei (Or.inr (by unfold r_E; omega))
      · rw [if_neg q2, am_incn (by omega)]
        have hE : r_E (am_mv h) (t (i - 1)) u := by unfold r_E; omega
        by_cases q3 : i + 1 = n
        · rw [if_pos (by omega), am_gd (by omega) (by omega)]
          refine ⟨by omega, ?_⟩
          rw [Int.toNat_natCast, show (0 : Int).toNat = 0 from rfl, ei, et 0 (by omega), sp_M_owesOf (by rw [emv]; exact hv), emv]
          simp only [Option.toList_some, Option.toList_none, List.cons_append, List.nil_append]
          obtain ⟨k1, k2⟩ := h3 huP hne hE q3 _ hfu et ei
          rw [bq_M_closes_94]
          by_cases q4 : v_owes (am_mv h) (u : Int) (t 0 : Int) ≤ 0
          · rw [if_pos q4]; exact k2 (by unfold r_E; omega)
          · rw [if_neg q4]; exact k1 (by unfold r_E; omega)
        · rw [if_neg (by omega), am_gd (by omega) (by omega), Int.toNat_natCast]
          exact h4 huP hne hE (by omega) _ (r_fm_u hfu) (fun j hj => (am_upj (by omega)).trans (et j hj)) ((am_upj (by omega)).trans ei) am_upe
    · simp only [Option.toList_some, Option.toList_none, List.cons_append, List.nil_append]
      rw [bq_M_closes_47 (by omega), if_pos rfl]
      rw [et j hj, ei] at hnew
      exact h2 huP _ hfu et ei (Or.inl ⟨j, hj, by omega⟩)
/-- nothing to be found from here: back -/
theorem lp_M_clB {d L kp n P : Nat} {h : Nat → Nat → Int} {Q : Option am_V → am_H → Prop} (hd : 3 ≤ d) (hv : v_ok (am_mv h)) (hP : h 70 0 = (P : Int)) (hn : n ≤ 7) (hn2 : 2 ≤ n) : ∀ k i, i + k = n → 1 ≤ i → 1 ≤ k → ∀ q u g t, u + q = P → r_fm h g → (∀ j, j < i → g 100 j = (t j : Int)) → g 100 i = (u : Int) - 1 → r_pre (r_E (am_mv h)) P i t → (∀ f, r_Full (r_E (am_mv h)) n f → (∀ j, j < i → f j = t j) → u ≤ f i → False) → (∀ g', r_fm h g' → (∀ j, j < i → g' 100 j = (t j : Int)) → am_Wp d 267 9 [some (Sum.inr (Sum.inr 70)), some (Sum.inl ((n : Int))), some (Sum.inl (((i - 1 : Nat) : Int)))] [] (am_SH L, g', am_RR kp) Q) → am_Wp d 267 9 [some (Sum.inr (Sum.inr 70)), some (Sum.inl ((n : Int))), some (Sum.inl ((i : Int)))] [] (am_SH L, g, am_RR kp) Q := by
  intro k
  induction k with
  | zero => intro i _ _ hk; omega
  | succ k ihk =>
    intro i hik hi _ q
    induction q with
    | zero =>
      intro u g t hu hf ht hgi hp hno hback
      exact lp_M_cl hd hv hP hn hi (by omega) (by omega) hf ht hgi hp (fun _ g' a b => hback g' a b) (fun w => by omega) (fun w => by omega) (fun w => by omega)
    | succ q ihq =>
      intro u g t hu hf ht hgi hp hno hback
      have again : ∀ g', r_fm h g' → (∀ j, j < i → g' 100 j = (t j : Int)) → g' 100 i = (u : Int) → am_Wp d 267 9 [some (Sum.inr (Sum.inr 70)), some (Sum.inl ((n : Int))), some (Sum.inl ((i : Int)))] [] (am_SH L, g', am_RR kp) Q := fun g' a b c => ihq (u + 1) g' t (by omega) a b (by omega) hp (fun f hf2 hag hle => hno f hf2 hag (by omega)) hback
      refine lp_M_cl hd hv hP hn hi (by omega) (by omega) hf ht hgi hp (fun w => by omega) (fun _ g' a b c _ => again g' a b c) (fun huP hne hE hin1 g' a b c => ⟨fun hclose => ?_, fun _ => again g' a b c⟩) (fun huP hne hE hin1 g' a b c c1 => ?_)
      · exfalso
        have hp2 := r_pre_s hp hi huP hE hne
        rw [hin1] at hp2
        refine hno _ (r_pre_full hn2 hp2 ?_) (fun j hj => if_neg (by omega)) ?_
        · show r_E (am_mv h) (if n - 1 = i then u else t (n - 1)) (if 0 = i then u else t 0)
          rw [if_pos (by omega), if_neg (by omega)]
          exact hclose
        · show u ≤ (if i = i then u else t i)
          rw [if_pos rfl]; exact Nat.le_refl u
      · have hp2 := r_pre_s hp hi huP hE hne
        refine ihk (i + 1) (by omega) (by omega) (by omega) P 0 g' (fun j => if j = i then u else t j) (by omega) a (fun j hj => ?_) (by rw [c1]; rfl) hp2 (fun f hf2 hag _ => ?_) (fun g2 a2 b2 => ?_)
        · show g' 100 j = ((if j = i then u else t j : Nat) : Int)
          by_cases q2 : j = i
          · rw [if_pos q2, q2]; exact c
          · rw [if_neg q2]; exact b j (by omega)
        · refine hno f hf2 (fun j hj => ?_) ?_
          · have := hag j (by omega)
            rw [this]; exact if_neg (by omega)
          · have h9 : f i = (if i = i then u else t i) := hag i (by omega)
            rw [if_pos rfl] at h9
            omega
        · rw [show i + 1 - 1 = i by omega]
          refine again g2 a2 (fun j hj => ?_) ?_
          · have h9 : g2 100 j = ((if j = i then u else t j : Nat) : Int) := b2 j (by omega)
            rw [if_neg (by omega)] at h9; exact h9
          · have h9 : g2 100 i = ((if i = i then u else t i : Nat) : Int) := b2 i (by omega)
            rw [if_pos rfl] at h9; exact h9
/-- the first ring is found -/
theorem lp_M_clA {d L kp n P : Nat} {h : Nat → Nat → Int} {c : Nat → Nat} {Q : Option am_V → am_H → Prop} (hd : 3 ≤ d) (hv : v_ok (am_mv h)) (hP : h 70 0 = (P : Int)) (hn : n ≤ 7) (hlt : ∀ a b, r_E (am_mv h) a b → a < P ∧ b < P) (hc : r_Full (r_E (am_mv h)) n c) (hl : ∀ f k, r_Full (r_E (am_mv h)) n f → 0 < k → k < n → (∀ j, j < k → f j = c j) → c k ≤ f k) (hq : ∀ g', r_fm h g' → (∀ j, j < n → g' 100 j = (c j : Int)) → Q (some (Sum.inl 1)) (am_SH L, g', am_RR kp)) : ∀ k i, i + k = n → 1 ≤ i → 1 ≤ k → ∀ q u g, u + q = c i → r_fm h g → (∀ j, j < i → g 100 j = (c j : Int)) → g 100 i = (u : Int) - 1 → am_Wp d 267 9 [some (Sum.inr (Sum.inr 70)), some (Sum.inl ((n : Int))), some (Sum.inl ((i : Int)))] [] (am_SH L, g, am_RR kp) Q := by
  intro k
  induction k with
  | zero => intro i _ _ hk; omega
  | succ k ihk =>
    intro i hik hi _ q
    have hpre : r_pre (r_E (am_mv h)) P i c := r_full_pre hlt hc (by omega)
    have hci : c i < P := (r_full_pre hlt hc (Nat.le_refl n)).1 i (by omega)
    induction q with
    | zero =>
      intro u g hu hf ht hgi
      have hu2 : u = c i := by omega
      subst hu2
      have hEi : r_E (am_mv h) (c (i - 1)) (c i) := by
        have := hc.2.1 (i - 1) (by omega)
        rw [show i - 1 + 1 = i by omega] at this
        exact this
      refine lp_M_cl hd hv hP hn hi (by omega) (by omega) hf ht hgi hpre (fun w => by omega) (fun _ g' a b e w => ?_) (fun huP hne hE hin1 g' a b e => ⟨fun _ => ?_, fun w => ?_⟩) (fun huP hne hE hin1 g' a b e c1 => ?_)
      · exfalso
        rcases w with ⟨j, hj, w⟩ | w
        · exact hc.2.2.2 j i hj (by omega) w
        · exact w hEi
      · refine hq g' a (fun j hj => ?_)
        by_cases q2 : j = i
        · rw [q2]; exact e
        · exact b j (by omega)
      · exfalso
        refine w ?_
        have := hc.2.2.1
        rw [show n - 1 = i by omega] at this
        exact this
      · refine ihk (i + 1) (by omega) (by omega) (by omega) (c (i + 1)) 0 g' (by omega) a (fun j hj => ?_) (by rw [c1]; rfl)
        by_cases q2 : j = i
        · rw [q2]; exact e
        · exact b j (by omega)
    | succ q ihq =>
      intro u g hu hf ht hgi
      have again : ∀ g', r_fm h g' → (∀ j, j < i → g' 100 j = (c j : Int)) → g' 100 i = (u : Int) → am_Wp d 267 9 [some (Sum.inr (Sum.inr 70)), some (Sum.inl ((n : Int))), some (Sum.inl ((i : Int)))] [] (am_SH L, g', am_RR kp) Q := fun g' a b e => ihq (u + 1) g' (by omega) a b (by omega)
      have hnof : ∀ f, r_Full (r_E (am_mv h)) n f → (∀ j, j < i → f j = c j) → f i = u → False := fun f hf2 hag he => by
        have := hl f i hf2 (by omega) (by omega) hag
        omega
      refine lp_M_cl hd hv hP hn hi (by omega) (by omega) hf ht hgi hpre (fun w => by omega) (fun _ g' a b e _ => again g' a b e) (fun huP hne hE hin1 g' a b e => ⟨fun hclose => ?_, fun _ => again g' a b e⟩) (fun huP hne hE hin1 g' a b e c1 => ?_)
      · exfalso
        have hp2 := r_pre_s hpre hi huP hE hne
        rw [hin1] at hp2
        refine hnof _ (r_pre_full hc.1 hp2 ?_) (fun j hj => if_neg (by omega)) (if_pos rfl)
        show r_E (am_mv h) (if n - 1 = i then u else c (n - 1)) (if 0 = i then u else c 0)
        rw [if_pos (by omega), if_neg (by omega)]
        exact hclose
      · have hp2 := r_pre_s hpre hi huP hE hne
        refine lp_M_clB hd hv hP hn hc.1 k (i + 1) (by omega) (by omega) (by omega) P 0 g' (fun j => if j = i then u else c j) (by omega) a (fun j hj => ?_) (by rw [c1]; rfl) hp2 (fun f hf2 hag _ => ?_) (fun g2 a2 b2 => ?_)
        · show g' 100 j = ((if j = i then u else c j : Nat) : Int)
          by_cases q2 : j = i
          · rw [if_pos q2, q2]; exact e
          · rw [if_neg q2]; exact b j (by omega)
        · refine hnof f hf2 (fun j hj => ?_) ?_
          · have := hag j (by omega)
            rw [this]; exact if_neg (by omega)
          · have h9 : f i = (if i = i then u else c i) := hag i (by omega)
            rw [if_pos rfl] at h9; exact h9
        · rw [show i + 1 - 1 = i by omega]
          refine again g2 a2 (fun j hj => ?_) ?_
          · have h9 : g2 100 j = ((if j = i then u else c j : Nat) : Int) := b2 j (by omega)
            rw [if_neg (by omega)] at h9; exact h9
          · have h9 : g2 100 i = ((if i = i then u else c i : Nat) : Int) := b2 i (by omega)
            rw [if_pos rfl] at h9; exact h9
theorem sp_M_closes0 {d L kp : Nat} {h : Nat → Nat → Int} {Q : Option am_V → am_H → Prop} {n P p : Nat} (hd : 3 ≤ d) (hv : v_ok (am_mv h)) (hP : h 70 0 = (P : Int)) (hn : n ≤ 7) (hn2 : 2 ≤ n) (hp : p < P) (h0 : h 100 0 = (p : Int)) (hno : ∀ f, r_Full (r_E (am_mv h)) n f → ¬ f 0 = p) (hq : ∀ g, r_fm h g → Q (some (Sum.inl 0)) (am_SH L, g, am_RR kp)) : am_Wp d 267 0 [some (Sum.inr (Sum.inr 70)), some (Sum.inl (n : Int)), none] [] (am_SH L, h, am_RR kp) Q := by
  rw [bq_M_closes_0]
  refine ⟨by omega, ?_⟩
  rw [show (1 : Int).toNat = 1 from rfl]
  refine lp_M_clB (i := 1) (k := n - 1) hd hv hP hn hn2 (by omega) (by omega) (by omega) P 0 (am_up h 100 1 (-1)) (fun _ => p) (by omega) (r_fm_u (fun _ _ _ => rfl)) (fun j hj => ?_) am_upe ⟨fun _ _ => hp, fun j hj => by omega, fun a b hab hb => by omega⟩ (fun f hf hag _ => hno f hf (hag 0 (by omega))) (fun g hg hg0 => ?_)
  · rw [show j = 0 by omega]; exact h0
  · rw [show 1 - 1 = 0 from rfl, bq_M_closes_9 (by omega), if_pos (by omega)]
    exact hq g hg
theorem sp_M_closes1 {d L kp : Nat} {h : Nat → Nat → Int} {Q : Option am_V → am_H → Prop} {n P : Nat} {c : Nat → Nat} (hd : 3 ≤ d) (hv : v_ok (am_mv h)) (hP : h 70 0 = (P : Int)) (hn : n ≤ 7) (hlt : ∀ a b, r_E (am_mv h) a b → a < P ∧ b < P) (hc : r_Full (r_E (am_mv h)) n c) (hl : ∀ f k, r_Full (r_E (am_mv h)) n f → 0 < k → k < n → (∀ j, j < k → f j = c j) → c k ≤ f k) (h0 : h 100 0 = (c 0 : Int)) (hq : ∀ g', r_fm h g' → (∀ j, j < n → g' 100 j = (c j : Int)) → Q (some (Sum.inl 1)) (am_SH L, g', am_RR kp)) : am_Wp d 267 0 [some (Sum.inr (Sum.inr 70)), some (Sum.inl (n : Int)), none] [] (am_SH L, h, am_RR kp) Q := by
  have h2 := hc.1
  rw [bq_M_closes_0]
  refine ⟨by omega, ?_⟩
  rw [show (1 : Int).toNat = 1 from rfl]
  refine lp_M_clA (i := 1) (k := n - 1) hd hv hP hn hlt hc hl hq (by omega) (by omega) (by omega) (c 1) 0 (am_up h 100 1 (-1)) (by omega) (r_fm_u (fun _ _ _ => rfl)) (fun j hj => ?_) am_upe
  rw [show j = 0 by omega]; exact h0