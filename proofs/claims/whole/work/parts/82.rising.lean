/-! THE SQUARE by rising twos; the busiest -/
def an_dn (T : Nat → Nat × Nat × Int) (t : Nat) (F : Nat → Int) : Int := am_max (F (T t).1) (F (T t).2.1) + (T t).2.2
def an_fs (T : Nat → Nat × Nat × Int) (t : Nat) (F : Nat → Int) : Nat → Int := am_sx (am_sx F (T t).1 (an_dn T t F)) (T t).2.1 (an_dn T t F)
def an_sc (T : Nat → Nat × Nat × Int) (ord : Nat → Nat) (n : Nat) : (Nat → Int) × Int := am_for (fun i s => (an_fs T (ord i) s.1, am_max s.2 (an_dn T (ord i) s.1))) n (fun _ => 0, 0)
theorem an_sc_s {T : Nat → Nat × Nat × Int} {ord : Nat → Nat} {n : Nat} : an_sc T ord (n + 1) = (an_fs T (ord n) (an_sc T ord n).1, am_max (an_sc T ord n).2 (an_dn T (ord n) (an_sc T ord n).1)) := by
  unfold an_sc
  exact am_for_s
theorem an_max_le {x y B : Int} (h1 : 0 ≤ x ∧ x ≤ B) (h2 : 0 ≤ y ∧ y ≤ B) : 0 ≤ am_max x y ∧ am_max x y ≤ B := by
  unfold am_max; split <;> omega
theorem an_dn_le {T : Nat → Nat × Nat × Int} {t : Nat} {F : Nat → Int} {B : Int} (hF : ∀ p, 0 ≤ F p ∧ F p ≤ B) (hx : 2 ≤ (T t).2.2 ∧ (T t).2.2 ≤ 640) : 0 ≤ an_dn T t F ∧ an_dn T t F ≤ B + 640 := by
  have h1 := an_max_le (hF (T t).1) (hF (T t).2.1)
  unfold an_dn
  omega
theorem an_fs_le {T : Nat → Nat × Nat × Int} {t : Nat} {F : Nat → Int} {B : Int} (hF : ∀ p, 0 ≤ F p ∧ F p ≤ B) (hx : 2 ≤ (T t).2.2 ∧ (T t).2.2 ≤ 640) : ∀ p, 0 ≤ an_fs T t F p ∧ an_fs T t F p ≤ B + 640 := by
  intro p
  have h1 := an_dn_le hF hx
  have h2 := hF p
  unfold an_fs am_sx
  (repeat' split) <;> omega
theorem an_sc_le {T : Nat → Nat × Nat × Int} {ord : Nat → Nat} {m n : Nat} (hT : an_tok m (n, T)) (ho : ∀ i, i < n → ord i < n) : ∀ i, i ≤ n → (∀ p, 0 ≤ (an_sc T ord i).1 p ∧ (an_sc T ord i).1 p ≤ (i : Int) * 640) ∧ 0 ≤ (an_sc T ord i).2 ∧ (an_sc T ord i).2 ≤ (i : Int) * 640 := by
  intro i
  induction i with
  | zero => exact fun _ => ⟨fun p => ⟨(by decide : (0 : Int) ≤ 0), (by decide : (0 : Int) ≤ ((0 : Nat) : Int) * 640)⟩, (by decide : (0 : Int) ≤ 0), (by decide : (0 : Int) ≤ ((0 : Nat) : Int) * 640)⟩
  | succ i ih =>
    intro hi
    have h1 := ih (by omega)
    have h2 := hT (ord i) (ho i (by omega))
    have h3 := an_fs_le (t := ord i) h1.1 (show 2 ≤ (T (ord i)).2.2 ∧ (T (ord i)).2.2 ≤ 640 from ⟨h2.2.2.1, h2.2.2.2⟩)
    have h4 := an_dn_le (t := ord i) h1.1 (show 2 ≤ (T (ord i)).2.2 ∧ (T (ord i)).2.2 ≤ 640 from ⟨h2.2.2.1, h2.2.2.2⟩)
    rw [an_sc_s]
    refine ⟨fun p => ?_, ?_⟩
    · have := h3 p
      show 0 ≤ an_fs T (ord i) (an_sc T ord i).1 p ∧ an_fs T (ord i) (an_sc T ord i).1 p ≤ _
      omega
    · show 0 ≤ am_max (an_sc T ord i).2 (an_dn T (ord i) (an_sc T ord i).1) ∧ am_max (an_sc T ord i).2 (an_dn T (ord i) (an_sc T ord i).1) ≤ _
      have := an_max_le (x := (an_sc T ord i).2) (y := an_dn T (ord i) (an_sc T ord i).1) (B := (i : Int) * 640 + 640) (by omega) (by omega)
      omega
def v_bsy (s : an_T) (n : Nat) : Int × Int := am_for (fun p r => if r.2 < an_ah s p then ((p : Int), an_ah s p) else r) n (-9, 0)
theorem v_bsy_s {s : an_T} {n : Nat} : v_bsy s (n + 1) = if (v_bsy s n).2 < an_ah s n then ((n : Int), an_ah s n) else v_bsy s n := by
  unfold v_bsy
  exact am_for_s
theorem v_bsy_0 {s : an_T} {n : Nat} : 0 ≤ (v_bsy s n).2 := by
  induction n with
  | zero => exact (by decide : (0 : Int) ≤ 0)
  | succ n ih =>
    rw [v_bsy_s]
    by_cases q : (v_bsy s n).2 < an_ah s n
    · rw [if_pos q]; show 0 ≤ an_ah s n; omega
    · rw [if_neg q]; exact ih
theorem v_bsy_tr {s : an_T} {n m : Nat} (hnm : n ≤ m) (h0 : ∀ p, n ≤ p → an_ah s p = 0) : v_bsy s m = v_bsy s n := by
  induction m with
  | zero => rw [show n = 0 by omega]
  | succ m ih =>
    by_cases q : n = m + 1
    · rw [q]
    · have := v_bsy_0 (s := s) (n := m)
      rw [v_bsy_s, h0 m (by omega), if_neg (by omega), ih (by omega)]
theorem an_ah_0 {n p : Nat} {s : an_T} (hs : an_tok n s) (hp : n ≤ p) : an_ah s p = 0 := by
  unfold an_ah
  refine (am_sumb_eq (f := fun _ => 0) (fun i hi => if_neg (fun w => ?_))).trans am_sumb_0
  have h1 := hs i hi
  omega
def v_twos (V : am_Vw) : an_T := v_tw V (vP V).toNat
def a_busiest (V : am_Vw) : am_V × Nat := (Sum.inl (v_bsy (v_twos V) (vP V).toNat).1, 0)
def v_ris (V : am_Vw) : Int := (an_sc (v_twos V).2 (fun i => i) (v_twos V).1).2
theorem sp_Square_doneAt {d L kp : Nat} {h : Nat → Nat → Int} {Q : Option am_V → am_H → Prop} {s : an_T} {t : Nat} (hd : 1 ≤ d) (ht : an_tc h s) (hok : an_tok 7 s) (h21 : s.1 ≤ 21) (hlt : t < s.1) (hF : ∀ p, p < 7 → 0 ≤ h 55 p ∧ h 55 p ≤ 100000) : am_Wp d 96 0 [some (Sum.inr (Sum.inr 51)), some (Sum.inl (t : Int))] [] (am_SH L, h, am_RR kp) Q = Q (some (Sum.inl (an_dn s.2 t (h 55)))) (am_SH L, h, am_RR kp) := by
  have h1 := ht.2 t hlt
  have h2 := hok t hlt
  have b1 := hF (s.2 t).1 (by omega)
  have b2 := hF (s.2 t).2.1 (by omega)
  have b3 := an_max_le b1 b2
  rw [bq_Square_doneAt_0 (by omega), sp_at_52, am_lk_nat (by omega), h1.1]
  simp only [Option.toList_some, Option.toList_none, List.cons_append, List.nil_append]
  rw [bq_Square_doneAt_12 (by omega), sp_at_55, am_lk_nat (by omega)]
  simp only [Option.toList_some, Option.toList_none, List.cons_append, List.nil_append]
  rw [bq_Square_doneAt_15 (by omega), sp_at_53, am_lk_nat (by omega), h1.2.1]
  simp only [Option.toList_some, Option.toList_none, List.cons_append, List.nil_append]
  rw [bq_Square_doneAt_27 (by omega), sp_at_55, am_lk_nat (by omega)]
  simp only [Option.toList_some, Option.toList_none, List.cons_append, List.nil_append]
  rw [bq_Square_doneAt_30 (by omega), sp_at_54, am_lk_nat (by omega), h1.2.2]
  simp only [Option.toList_some, Option.toList_none, List.cons_append, List.nil_append]
  rw [bq_Square_doneAt_41, am_add_ok (by omega) (by omega)]
  rfl
theorem sp_Square_byRisingTwos {d L kp : Nat} {h : Nat → Nat → Int} {Q : Option am_V → am_H → Prop} {s : an_T} (hd : 2 ≤ d) (ht : an_tc h s) (hok : an_tok 7 s) (h21 : s.1 ≤ 21) (hq : ∀ g, am_keep h g → Q (some (Sum.inl (an_sc s.2 (fun i => i) s.1).2)) (am_SH L, g, am_RR kp)) : am_Wp d 95 0 [some (Sum.inr (Sum.inr 51)), none, none, none] [] (am_SH L, h, am_RR kp) Q := by
  rw [bq_Square_byRisingTwos_0 (by omega), sp_fill_55]
  simp only [Option.toList_some, Option.toList_none, List.cons_append, List.nil_append]
  rw [bq_Square_byRisingTwos_8]
  have e0 : am_fill h 55 7 0 = (an_arr h 55 7 (an_sc s.2 (fun i => i) 0).1) := rfl
  rw [e0]
  refine (am_dn_fr (J := Option am_V) (a := 0) (n := s.1) (fun t j => am_Wp d 95 12 [some (Sum.inr (Sum.inr 51)), some (Sum.inl ((an_sc s.2 (fun i => i) t).2)), some (Sum.inl ((t : Int))), j] [] (am_SH L, (an_arr h 55 7 (an_sc s.2 (fun i => i) t).1), am_RR kp) Q) (Q (some (Sum.inl (an_sc s.2 (fun i => i) s.1).2)) (am_SH L, (an_arr h 55 7 (an_sc s.2 (fun i => i) s.1).1), am_RR kp)) (by omega) (fun t _ hlt ih j => ?_) (fun j => ?_) none).mpr (hq _ (am_keep_arr (fun _ => rfl) am_keep_r))
  · have hle := an_sc_le (T := s.2) (ord := fun i => i) (n := s.1) (m := 7) hok (fun i hi => hi) t (by omega)
    have h1 := ht.2 t hlt
    have h2 := hok t hlt
    have htg : an_tc (an_arr h 55 7 (an_sc s.2 (fun i => i) t).1) s := ht
    have e51 : (an_arr h 55 7 (an_sc s.2 (fun i => i) t).1) 51 0 = (s.1 : Int) := ht.1
    have hF : ∀ p, p < 7 → (an_arr h 55 7 (an_sc s.2 (fun i => i) t).1) 55 p = (an_sc s.2 (fun i => i) t).1 p := fun p hp => an_arr_i hp
    have hF2 : ∀ p, p < 7 → 0 ≤ (an_arr h 55 7 (an_sc s.2 (fun i => i) t).1) 55 p ∧ (an_arr h 55 7 (an_sc s.2 (fun i => i) t).1) 55 p ≤ 100000 := fun p hp => by
      rw [hF p hp]
      have := hle.1 p
      omega
    have edn : an_dn s.2 t ((an_arr h 55 7 (an_sc s.2 (fun i => i) t).1) 55) = an_dn s.2 t (an_sc s.2 (fun i => i) t).1 := by
      unfold an_dn
      rw [hF _ (by omega), hF _ (by omega)]
    have es := an_sc_s (T := s.2) (ord := fun i => i) (n := t)
    have i2 := ih (some (Sum.inl (an_dn s.2 t (an_sc s.2 (fun i => i) t).1)))
    rw [es] at i2
    refine (bq_Square_byRisingTwos_12 (by omega)).trans ?_
    rw [e51, if_neg (by omega), sp_Square_doneAt (by omega) htg hok h21 hlt hF2, edn]
    simp only [Option.toList_some, Option.toList_none, List.cons_append, List.nil_append]
    rw [bq_Square_byRisingTwos_25 (by omega), sp_at_52, am_lk_nat (by omega), show (an_arr h 55 7 (an_sc s.2 (fun i => i) t).1) 52 t = ((s.2 t).1 : Int) from h1.1]
    simp only [Option.toList_some, Option.toList_none, List.cons_append, List.nil_append]
    rw [bq_Square_byRisingTwos_38 (by omega), sp_put_55, am_put_nat (by omega), an_arr_u (by omega)]
    simp only [Option.toList_some, Option.toList_none, List.cons_append, List.nil_append]
    rw [bq_Square_byRisingTwos_42 (by omega), sp_at_53, am_lk_nat (by omega), show (an_arr h 55 7 (am_sx (an_sc s.2 (fun i => i) t).1 (s.2 t).1 (an_dn s.2 t (an_sc s.2 (fun i => i) t).1))) 53 t = ((s.2 t).2.1 : Int) from h1.2.1]
    simp only [Option.toList_some, Option.toList_none, List.cons_append, List.nil_append]
    rw [bq_Square_byRisingTwos_54 (by omega), sp_put_55, am_put_nat (by omega), an_arr_u (by omega)]
    simp only [Option.toList_some, Option.toList_none, List.cons_append, List.nil_append]
    rw [bq_Square_byRisingTwos_58, am_incn (by omega)]
    exact i2
  · have e51 : (an_arr h 55 7 (an_sc s.2 (fun i => i) s.1).1) 51 0 = (s.1 : Int) := ht.1
    refine (bq_Square_byRisingTwos_12 (by omega)).trans ?_
    rw [e51, if_pos (by omega)]
theorem sp_Square_longestIn {d L kp : Nat} {h : Nat → Nat → Int} {Q : Option am_V → am_H → Prop} {s : an_T} (hd : 1 ≤ d) (ht : ∀ p, p < 7 → h 56 p = an_ah s p) : am_Wp d 106 0 [some (Sum.inr (Sum.inr 51)), none, none, none] [] (am_SH L, h, am_RR kp) Q = Q (some (Sum.inl ((v_bsy s 7).1))) (am_SH L, h, am_RR kp) := by
  rw [bq_Square_longestIn_0]
  refine am_up_eq (n := 7) (fun p => am_Wp d 106 7 [some (Sum.inr (Sum.inr 51)), some (Sum.inl ((v_bsy s p).1)), some (Sum.inl ((v_bsy s p).2)), some (Sum.inl ((p : Int)))] [] (am_SH L, h, am_RR kp) Q) _ (fun p hp => ?_) ?_
  · show am_Wp d 106 7 [some (Sum.inr (Sum.inr 51)), some (Sum.inl ((v_bsy s p).1)), some (Sum.inl ((v_bsy s p).2)), some (Sum.inl ((p : Int)))] [] (am_SH L, h, am_RR kp) Q = am_Wp d 106 7 [some (Sum.inr (Sum.inr 51)), some (Sum.inl ((v_bsy s (p + 1)).1)), some (Sum.inl ((v_bsy s (p + 1)).2)), some (Sum.inl (((p + 1 : Nat) : Int)))] [] (am_SH L, h, am_RR kp) Q
    refine (bq_Square_longestIn_7 (by omega)).trans ?_
    rw [if_neg (by omega), sp_at_56, am_lk_nat (by omega), ht p hp]
    simp only [Option.toList_some, Option.toList_none, List.cons_append, List.nil_append]
    rw [bq_Square_longestIn_21 (by omega), sp_at_56, am_lk_nat (by omega), ht p hp]
    simp only [Option.toList_some, Option.toList_none, List.cons_append, List.nil_append]
    simp only [bq_Square_longestIn_33, bq_Square_longestIn_36]
    rw [am_incn (by omega), v_bsy_s]
    by_cases q : (v_bsy s p).2 < an_ah s p
    · rw [if_pos q, if_neg (by omega)]
    · rw [if_neg q, if_pos (by omega)]
  · show am_Wp d 106 7 [some (Sum.inr (Sum.inr 51)), some (Sum.inl ((v_bsy s 7).1)), some (Sum.inl ((v_bsy s 7).2)), some (Sum.inl (((7 : Nat) : Int)))] [] (am_SH L, h, am_RR kp) Q = _
    refine (bq_Square_longestIn_7 (by omega)).trans ?_
    rw [if_pos (by omega)]
theorem v_twos_ok {V : am_Vw} (hv : v_ok V) : an_tok (vP V).toNat (v_twos V) ∧ an_tok 7 (v_twos V) ∧ (v_twos V).1 ≤ 21 := by
  have hP := v_ok_P hv
  have h1 := v_tw_in hv (n := (vP V).toNat) (Nat.le_refl _)
  have h2 := an_B_le (vP V).toNat (by omega)
  have h3 : an_tok 7 (v_tw V (vP V).toNat) := fun i hi => by have := h1.1 i hi; omega
  exact ⟨h1.1, h3, Nat.le_trans h1.2 h2⟩
theorem v_bsy_7 {V : am_Vw} (hv : v_ok V) : v_bsy (v_twos V) 7 = v_bsy (v_twos V) (vP V).toNat := by
  have hP := v_ok_P hv
  exact v_bsy_tr (by omega) (fun p hp => an_ah_0 (v_twos_ok hv).1 hp)
theorem c_busiest {d L kp : Nat} {h : Nat → Nat → Int} (hd : 5 ≤ d) (hv : v_ok (am_wv h 2)) : am_An L 41 (a_busiest (am_wv h 2)) h (fun Q => am_Wp d 105 0 [some (Sum.inr (Sum.inr 1))] [] (am_SH L, h, am_RR kp) Q) := by
  have hQ := wv_Q hv
  have hP := wv_P hv
  have hD := wv_D hv
  intro Q hq
  show am_Wp d 105 0 [some (Sum.inr (Sum.inr 1))] [] (am_SH L, h, am_RR kp) Q
  rw [bq_KO_busiest_0 (by omega)]
  refine sp_KO_gatherSquare (by omega) hv (fun g k1 k2 k3 => ?_)
  simp only [Option.toList_some, Option.toList_none, List.cons_append, List.nil_append]
  rw [bq_KO_busiest_4 (by omega), sp_Square_longestIn (by omega) k3.2]
  simp only [Option.toList_some, Option.toList_none, List.cons_append, List.nil_append]
  rw [bq_KO_busiest_11]
  have h3 := hq g kp k1
  unfold a_busiest at h3
  rw [← v_bsy_7 hv] at h3
  exact h3