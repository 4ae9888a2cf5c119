/-! PAYMENTS of the class, whole -/
theorem v_ssL_le {N : Nat → Int} {P s : Nat} (h7 : P ≤ 7) (hN : ∀ p, p < P → -10000 ≤ N p ∧ N p ≤ 10000) (hs : s < 2 ^ an_cu (an_z N P) P) : -70000 ≤ v_ss (an_L N P) s 7 ∧ v_ss (an_L N P) s 7 ≤ 70000 := by
  have h1 := am_sumb_le (n := 7) (g := fun j => bif Nat.testBit s j then an_L N P j else 0) (A := -10000) (B := 10000) (fun j hj => by
    show -10000 ≤ (bif Nat.testBit s j then an_L N P j else 0) ∧ (bif Nat.testBit s j then an_L N P j else 0) ≤ 10000
    cases h2 : Nat.testBit s j with
    | false => exact ⟨(by decide : (-10000 : Int) ≤ 0), (by decide : (0 : Int) ≤ 10000)⟩
    | true =>
      have h3 := Nat.ge_two_pow_of_testBit h2
      have h4 : j < an_cu (an_z N P) P := (Nat.pow_lt_pow_iff_right (by omega : 1 < 2)).1 (by omega)
      exact hN _ (an_inz h7 h4).1)
  unfold v_ss
  omega
theorem v_ss_0 {f : Nat → Int} : v_ss f 0 7 = 0 := by
  unfold v_ss
  exact (am_sumb_eq (f := fun _ => 0) (fun j _ => by rw [Nat.zero_testBit]; rfl)).trans am_sumb_0
theorem an_ns_so {N : Nat → Int} {P : Nat} : an_ns N P (an_so N P) = am_sumb P N := by
  unfold an_ns
  refine am_sumb_eq (fun p hp => ?_)
  rw [an_so_tb, decide_eq_true hp, Bool.true_and]
  by_cases q : N p = 0
  · rw [decide_eq_true q]; exact q.symm
  · rw [decide_eq_false q]; rfl
theorem an_shl2 {t : Nat} (ht : t < 7) : am_shl 2 (t : Int) = ((2 ^ (t + 1) : Nat) : Int) := by
  have h1 : 2 ^ t ≤ 2 ^ 7 := Nat.pow_le_pow_right (by omega) (by omega)
  have := am_shl_ok (a := 2) (k := t) (by omega) (by omega)
  rw [show ((2 : Nat) : Int) = 2 from rfl] at this
  rw [this, Nat.pow_succ, Nat.mul_comm]
theorem lp_FP_1 {d L kp : Nat} {h : Nat → Nat → Int} {Q : Option am_V → am_H → Prop} {N : Nat → Int} {P : Nat} (hd : 2 ≤ d) (hP7 : P ≤ 7) (h42 : h 42 2 = (P : Int)) (h44 : ∀ p, p < P → h 44 p = N p) (hN : ∀ p, p < P → -10000 ≤ N p ∧ N p ≤ 10000) : am_Wp d 79 4 [some (Sum.inr (Sum.inr 47)), some (Sum.inr (Sum.inr 42)), some (Sum.inl (0)), some (Sum.inl (0)), none, none] [] (am_SH L, h, am_RR kp) Q = am_Wp d 79 4 [some (Sum.inr (Sum.inr 47)), some (Sum.inr (Sum.inr 42)), some (Sum.inl (((an_cu (an_z N P) P) : Int))), some (Sum.inl ((P : Int))), none, none] [] (am_SH L, (an_arr h 48 (an_cu (an_z N P) P) (an_L N P)), am_RR kp) Q := by
  have h1 := am_up_eq (n := P) (fun i => am_Wp d 79 4 [some (Sum.inr (Sum.inr 47)), some (Sum.inr (Sum.inr 42)), some (Sum.inl (((an_cu (an_z N P) i) : Int))), some (Sum.inl ((i : Int))), none, none] [] (am_SH L, (an_arr h 48 (an_cu (an_z N P) i) (an_L N P)), am_RR kp) Q) (am_Wp d 79 4 [some (Sum.inr (Sum.inr 47)), some (Sum.inr (Sum.inr 42)), some (Sum.inl (((an_cu (an_z N P) P) : Int))), some (Sum.inl ((P : Int))), none, none] [] (am_SH L, (an_arr h 48 (an_cu (an_z N P) P) (an_L N P)), am_RR kp) Q) (fun i hi => ?_) rfl
  · have e0 : (an_arr h 48 (an_cu (an_z N P) 0) (an_L N P)) = h := an_arr_0
    rw [e0] at h1
    exact h1
  · have hcl := an_cu_le (U := an_z N P) (n := i)
    have es := an_cu_s (U := an_z N P) (n := i)
    rw [an_z_tb hi] at es
    have f42 : (an_arr h 48 (an_cu (an_z N P) i) (an_L N P)) 42 2 = (P : Int) := h42
    have f44 : am_lk ((an_arr h 48 (an_cu (an_z N P) i) (an_L N P)) 44) 7 (i : Int) = N i := by rw [am_lk_nat (by omega)]; exact h44 i hi
    refine (bq_Settlement_fewestPayments_4 (by omega)).trans ?_
    rw [sp_Ledger_people, f42]
    simp only [Option.toList_some, Option.toList_none, List.cons_append, List.nil_append]
    rw [bq_Settlement_fewestPayments_9 (by omega), if_neg (by omega), sp_Ledger_netOf (by omega), f44]
    simp only [Option.toList_some, Option.toList_none, List.cons_append, List.nil_append]
    rw [bq_Settlement_fewestPayments_17 (by omega)]
    by_cases q : N i = 0
    · rw [decide_eq_true q] at es
      have es2 : an_cu (an_z N P) (i + 1) = an_cu (an_z N P) i := es
      rw [if_pos q, bq_Settlement_fewestPayments_36, am_incn (by omega), es2]
    · rw [decide_eq_false q] at es
      have es2 : an_cu (an_z N P) (i + 1) = an_cu (an_z N P) i + 1 := es
      have eg := an_arr_g (h := h) (A := 48) (n := an_cu (an_z N P) i) (c := an_L N P)
      have eL : an_L N P (an_cu (an_z N P) i) = N i := by
        unfold an_L
        rw [an_nuz hi hP7 q]
      rw [eL] at eg
      rw [if_neg q, sp_Ledger_netOf (by omega), f44]
      simp only [Option.toList_some, Option.toList_none, List.cons_append, List.nil_append]
      rw [bq_Settlement_fewestPayments_30 (by omega), sp_put_48, am_put_nat (by omega), eg]
      simp only [Option.toList_some, Option.toList_none, List.cons_append, List.nil_append]
      rw [bq_Settlement_fewestPayments_33, bq_Settlement_fewestPayments_36, am_incn (by omega), am_incn (by omega), es2]
theorem lp_FP_2 {d L kp : Nat} {h : Nat → Nat → Int} {Q : Option am_V → am_H → Prop} {N : Nat → Int} {P t : Nat} {j1 : Option am_V} (hd : 2 ≤ d) (hP7 : P ≤ 7) (hN : ∀ p, p < P → -10000 ≤ N p ∧ N p ≤ 10000) (ht : t < (an_cu (an_z N P) P)) (K : ∀ j : (Nat → Nat → Int) × Option am_V, an_gp N P h j.1 (2 ^ (t + 1)) → ∀ j4 : Option am_V, am_Wp d 79 62 [some (Sum.inr (Sum.inr 47)), j1, some (Sum.inl (((an_cu (an_z N P) P) : Int))), some (Sum.inl (((t + 1 : Nat) : Int))), j4, j.2] [] (am_SH L, j.1, am_RR kp) Q) : ∀ j : (Nat → Nat → Int) × Option am_V, an_gp N P h j.1 (2 ^ t) → am_Wp d 79 72 [some (Sum.inr (Sum.inr 47)), j1, some (Sum.inl (((an_cu (an_z N P) P) : Int))), some (Sum.inl ((t : Int))), some (Sum.inl (((2 ^ t : Nat) : Int))), j.2] [] (am_SH L, j.1, am_RR kp) Q := by
  have hcl := an_cu_le (U := an_z N P) (n := P)
  have hp2 : 2 ^ (t + 1) ≤ 2 ^ 7 := Nat.pow_le_pow_right (by omega) (by omega)
  have hpn : 2 ^ (t + 1) ≤ 2 ^ (an_cu (an_z N P) P) := Nat.pow_le_pow_right (by omega) (by omega)
  have hps : 2 ^ (t + 1) = 2 ^ t + 2 ^ t := by rw [Nat.pow_succ]; omega
  have hpp := Nat.two_pow_pos t
  refine am_im_fr (J := (Nat → Nat → Int) × Option am_V) (a := 2 ^ t) (n := 2 ^ (t + 1)) (fun s j => an_gp N P h j.1 s) (fun s j => am_Wp d 79 72 [some (Sum.inr (Sum.inr 47)), j1, some (Sum.inl (((an_cu (an_z N P) P) : Int))), some (Sum.inl ((t : Int))), some (Sum.inl ((s : Int))), j.2] [] (am_SH L, j.1, am_RR kp) Q) (by omega) (fun s j hs1 hs2 hj ih => ?_) (fun j hj => ?_)
  · obtain ⟨g, j5⟩ := j
    obtain ⟨k1, k2, k3, k4⟩ := hj
    dsimp only at k1 k2 k3 k4
    have htop := an_top hs1 hs2
    have hsb : an_sb (2 ^ t) s := fun i hi => by
      rw [Nat.testBit_two_pow, decide_eq_true_eq] at hi
      rw [← hi]; exact htop
    have hxor : am_xor (s : Int) ((2 ^ t : Nat) : Int) = ((an_dif s (2 ^ t) : Nat) : Int) := by
      rw [am_xor_ok (by omega) (by omega), an_dif_xor hsb]
    have hlt := an_dif_lt hsb (by omega)
    have h1 := k3 _ hlt
    have hsn : s < 2 ^ (an_cu (an_z N P) P) := by omega
    have b1 := v_ssL_le hP7 hN (s := an_dif s (2 ^ t)) (by omega)
    have b2 := v_ssL_le hP7 hN hsn
    have esum : v_ss (an_L N P) (an_dif s (2 ^ t)) 7 + an_L N P t = v_ss (an_L N P) s 7 := by
      rw [v_ss_dif hsb, v_ss_one (by omega)]; omega
    show am_Wp d 79 72 [some (Sum.inr (Sum.inr 47)), j1, some (Sum.inl (((an_cu (an_z N P) P) : Int))), some (Sum.inl ((t : Int))), some (Sum.inl ((s : Int))), j5] [] (am_SH L, g, am_RR kp) Q
    rw [bq_Settlement_fewestPayments_72 (by omega), an_shl2 (by omega), if_neg (by omega), am_shl1 (by omega), hxor, sp_at_49, am_lk_nat (by omega), h1]
    simp only [Option.toList_some, Option.toList_none, List.cons_append, List.nil_append]
    rw [bq_Settlement_fewestPayments_93 (by omega), sp_at_48, am_lk_nat (by omega), k2 t ht]
    simp only [Option.toList_some, Option.toList_none, List.cons_append, List.nil_append]
    rw [bq_Settlement_fewestPayments_101 (by omega), am_add_ok (by omega) (by omega), esum, sp_put_49, am_put_nat (by omega)]
    simp only [Option.toList_some, Option.toList_none, List.cons_append, List.nil_append]
    rw [bq_Settlement_fewestPayments_115 (by omega)]
    have r137 : ∀ v : Int, 0 ≤ v ∧ v ≤ (s : Int) → (an_okc N P s → an_mx (an_okc N P) s v) → am_Wp d 79 137 [some (Sum.inr (Sum.inr 47)), j1, some (Sum.inl (((an_cu (an_z N P) P) : Int))), some (Sum.inl ((t : Int))), some (Sum.inl ((s : Int))), some (Sum.inl (v_ss (an_L N P) s 7))] [Sum.inl v, Sum.inl (s : Int), Sum.inr (Sum.inr 50)] (am_SH L, (am_up g 49 s (v_ss (an_L N P) s 7)), am_RR kp) Q := fun v hv hm => by
      rw [bq_Settlement_fewestPayments_137 (by omega), sp_put_50, am_put_nat (by omega)]
      simp only [Option.toList_some, Option.toList_none, List.cons_append, List.nil_append]
      rw [bq_Settlement_fewestPayments_140, am_incn (by omega)]
      refine ih (am_up (am_up g 49 s (v_ss (an_L N P) s 7)) 50 s v, _) ⟨fun a j h1 h2 h3 => ?_, k2, fun x hx => ?_, fun x hx => ?_⟩
      · show am_up (am_up g 49 s _) 50 s v a j = h a j
        unfold am_up
        rw [if_neg h3, if_neg h2]
        exact k1 a j h1 h2 h3
      · show am_up g 49 s (v_ss (an_L N P) s 7) 49 x = _
        by_cases q : x = s
        · rw [q, am_up_y]
        · rw [am_up_n q]; exact k3 x (by omega)
      · show 0 ≤ am_up (am_up g 49 s _) 50 s v 50 x ∧ am_up (am_up g 49 s _) 50 s v 50 x ≤ (x : Int) ∧ (an_okc N P x → an_mx (an_okc N P) x (am_up (am_up g 49 s _) 50 s v 50 x))
        by_cases q : x = s
        · rw [q, am_up_y]; exact ⟨hv.1, hv.2, hm⟩
        · rw [am_up_n q]; exact k4 x (by omega)
    by_cases q : v_ss (an_L N P) s 7 = 0
    · rw [if_pos q]
      refine sp_Settlement_mostGroups (N := N) (P := P) (by omega) (fun x hx => ?_) (fun x hx => ?_) (by omega) hs1 hs2 (by omega) (fun m hm => ?_)
      · show am_up g 49 s (v_ss (an_L N P) s 7) 49 x = _
        by_cases q2 : x = s
        · rw [q2, am_up_y]
        · rw [am_up_n q2]; exact k3 x (by omega)
      · have := k4 x hx
        exact ⟨this.1, this.2.1⟩
      · simp only [Option.toList_some, Option.toList_none, List.cons_append, List.nil_append]
        rw [bq_Settlement_fewestPayments_133]
        obtain ⟨m1, m2, m3⟩ := hm
        refine r137 m m1 (fun hok => an_mx_t (G := fun x => g 50 x) htop hok (fun x x1 x2 x3 => ?_) ?_ (fun x x1 x2 x3 => ?_))
        · have hx0 : ¬ x = 0 := fun w => by rw [w, Nat.zero_testBit] at x2; cases x2
          have hl2 := an_dif_lt x1 hx0
          have h3 := k4 _ hl2
          refine ⟨h3.2.2 ?_, h3.1⟩
          show v_ss (an_L N P) (an_dif s x) 7 = 0
          rw [v_ss_dif x1, q, show v_ss (an_L N P) x 7 = 0 from x3]; rfl
        · rcases m2 with m2 | ⟨y, y1, y2, y3, y4⟩
          · exact Or.inl m2
          · exact Or.inr ⟨y, y2, an_top y1.1 (by omega), y3, y4⟩
        · have hge := Nat.ge_two_pow_of_testBit x2
          have hle := an_sb_le x1
          exact m3 x hge (by omega) x1 x3
    · rw [if_neg q]
      exact r137 0 (by omega) (fun hok => absurd hok q)
  · obtain ⟨g, j5⟩ := j
    show am_Wp d 79 72 [some (Sum.inr (Sum.inr 47)), j1, some (Sum.inl (((an_cu (an_z N P) P) : Int))), some (Sum.inl ((t : Int))), some (Sum.inl (((2 ^ (t + 1) : Nat) : Int))), j5] [] (am_SH L, g, am_RR kp) Q
    rw [bq_Settlement_fewestPayments_72 (by omega), an_shl2 (by omega), if_pos (Int.le_refl _), am_incn (by omega)]
    exact K (g, j5) hj _
theorem sp_Settlement_fewestPayments {d L kp : Nat} {h : Nat → Nat → Int} {Q : Option am_V → am_H → Prop} {N : Nat → Int} {P : Nat} (hd : 2 ≤ d) (hP7 : P ≤ 7) (h42 : h 42 2 = (P : Int)) (h44 : ∀ p, p < P → h 44 p = N p) (hN : ∀ p, p < P → -10000 ≤ N p ∧ N p ≤ 10000) (hsum : am_sumb P N = 0) (hq : ∀ g, (∀ a j, ¬ a = 48 → ¬ a = 49 → ¬ a = 50 → g a j = h a j) → Q (some (Sum.inl (v_pay N P))) (am_SH L, g, am_RR kp)) : am_Wp d 79 0 [some (Sum.inr (Sum.inr 47)), some (Sum.inr (Sum.inr 42)), none, none, none, none] [] (am_SH L, h, am_RR kp) Q := by
  have hcl := an_cu_le (U := an_z N P) (n := P)
  have hpp := Nat.two_pow_pos (an_cu (an_z N P) P)
  have hp7 : 2 ^ (an_cu (an_z N P) P) ≤ 2 ^ 7 := Nat.pow_le_pow_right (by omega) (by omega)
  have f42 : (an_arr h 48 (an_cu (an_z N P) P) (an_L N P)) 42 2 = (P : Int) := h42
  rw [bq_Settlement_fewestPayments_0, lp_FP_1 hd hP7 h42 h44 hN, bq_Settlement_fewestPayments_4 (by omega), sp_Ledger_people, f42]
  simp only [Option.toList_some, Option.toList_none, List.cons_append, List.nil_append]
  have p0 : ∀ (f : Nat → Nat → Int) (a : Nat), am_put f a 128 0 0 = am_up f a 0 0 := fun f a => if_pos (by omega)
  rw [bq_Settlement_fewestPayments_9 (by omega), if_pos (by omega), sp_put_49, p0]
  simp only [Option.toList_some, Option.toList_none, List.cons_append, List.nil_append]
  rw [bq_Settlement_fewestPayments_51 (by omega), sp_put_50, p0]
  simp only [Option.toList_some, Option.toList_none, List.cons_append, List.nil_append]
  rw [bq_Settlement_fewestPayments_60]
  have key := am_im_fr (J := (Nat → Nat → Int) × Option am_V × Option am_V) (a := 0) (n := (an_cu (an_z N P) P)) (fun t j => an_gp N P h j.1 (2 ^ t)) (fun t j => am_Wp d 79 62 [some (Sum.inr (Sum.inr 47)), some (Sum.inr (Sum.inr 42)), some (Sum.inl (((an_cu (an_z N P) P) : Int))), some (Sum.inl ((t : Int))), j.2.1, j.2.2] [] (am_SH L, j.1, am_RR kp) Q) (by omega) (fun t j _ ht hj ih => ?_) (fun j hj => ?_)
  · refine key (am_up (am_up (an_arr h 48 (an_cu (an_z N P) P) (an_L N P)) 49 0 0) 50 0 0, none, none) ⟨fun a j h1 h2 h3 => ?_, fun j hj => ?_, fun s hs => ?_, fun s hs => ?_⟩
    · show am_up (am_up (an_arr h 48 (an_cu (an_z N P) P) (an_L N P)) 49 0 0) 50 0 0 a j = h a j
      unfold am_up an_arr
      rw [if_neg h3, if_neg h2, if_neg h1]
    · show an_arr h 48 (an_cu (an_z N P) P) (an_L N P) 48 j = _
      exact an_arr_i hj
    · have hs0 : s = 0 := by have : (2 : Nat) ^ 0 = 1 := rfl; omega
      rw [hs0, v_ss_0]; rfl
    · have hs0 : s = 0 := by have : (2 : Nat) ^ 0 = 1 := rfl; omega
      rw [hs0]
      exact ⟨Int.le_refl 0, Int.le_refl 0, fun _ => an_mx_0⟩
  · obtain ⟨g, j4, j5⟩ := j
    show am_Wp d 79 62 [some (Sum.inr (Sum.inr 47)), some (Sum.inr (Sum.inr 42)), some (Sum.inl (((an_cu (an_z N P) P) : Int))), some (Sum.inl ((t : Int))), j4, j5] [] (am_SH L, g, am_RR kp) Q
    rw [bq_Settlement_fewestPayments_62 (by omega), if_neg (by omega), am_shl1 (by omega)]
    exact lp_FP_2 hd hP7 hN ht (fun j hj j4 => ih (j.1, j4, j.2) hj) (g, j5) hj
  · obtain ⟨g, j4, j5⟩ := j
    obtain ⟨k1, k2, k3, k4⟩ := hj
    dsimp only at k1 k2 k3 k4
    have hlt : 2 ^ (an_cu (an_z N P) P) - 1 < 2 ^ (an_cu (an_z N P) P) := by omega
    have hok : an_okc N P (2 ^ (an_cu (an_z N P) P) - 1) := by
      show v_ss (an_L N P) (2 ^ (an_cu (an_z N P) P) - 1) 7 = 0
      rw [an_ph_sum hP7 hlt, an_ph_all hP7, an_ns_so, hsum]
    have h4 := k4 _ hlt
    have h5 := an_mx_ph hP7 hlt (h4.2.2 hok)
    rw [an_ph_all hP7] at h5
    have h6 := an_mxv_eq h5
    have es : am_sub ((2 ^ (an_cu (an_z N P) P) : Nat) : Int) 1 = ((2 ^ (an_cu (an_z N P) P) - 1 : Nat) : Int) := by rw [am_sub_ok (by omega) (by omega)]; omega
    show am_Wp d 79 62 [some (Sum.inr (Sum.inr 47)), some (Sum.inr (Sum.inr 42)), some (Sum.inl (((an_cu (an_z N P) P) : Int))), some (Sum.inl (((an_cu (an_z N P) P) : Int))), j4, j5] [] (am_SH L, g, am_RR kp) Q
    rw [bq_Settlement_fewestPayments_62 (by omega), if_pos (Int.le_refl _), am_shl1 (by omega), es, sp_at_50, am_lk_nat (by omega)]
    simp only [Option.toList_some, Option.toList_none, List.cons_append, List.nil_append]
    rw [bq_Settlement_fewestPayments_165, am_sub_ok (by omega) (by omega), h6, ← an_so_pc hP7]
    exact hq g k1
noncomputable def a_payments (V : am_Vw) : am_V × Nat := (Sum.inl (v_pay (fun p => v_net V (p : Int)) (vP V).toNat), 0)
theorem v_net_sum {V : am_Vw} : am_sumb (vP V).toNat (fun p => v_net V (p : Int)) = 0 := by
  unfold v_net
  rw [am_sumb_eq (f := fun p => am_sumb (vP V).toNat (fun o => v_owes V (o : Int) (p : Int)) - am_sumb (vP V).toNat (fun o => v_owes V (p : Int) (o : Int))) (fun p _ => am_sumb_sub), am_sumb_sub, am_sumb_swap]
  omega
theorem c_payments {d L kp : Nat} {h : Nat → Nat → Int} (hd : 4 ≤ d) (hv : v_ok (am_wv h 2)) : am_An L 41 (a_payments (am_wv h 2)) h (fun Q => am_Wp d 78 0 [some (Sum.inr (Sum.inr 1))] [] (am_SH L, h, am_RR kp) Q) := by
  have hQ := wv_Q hv
  have hP := wv_P hv
  have hD := wv_D hv
  intro Q hq
  show am_Wp d 78 0 [some (Sum.inr (Sum.inr 1))] [] (am_SH L, h, am_RR kp) Q
  rw [bq_KO_payments_0 (by omega)]
  refine sp_Ledger_readI (by omega) hv (fun g hk hw hl => ?_)
  simp only [Option.toList_some, Option.toList_none, List.cons_append, List.nil_append]
  have hp : g 2 0 = h 2 0 := congrArg vP hw
  rw [bq_KO_payments_11 (by omega)]
  refine sp_Settlement_fewestPayments (N := fun p => v_net (am_wv h 2) (p : Int)) (P := (h 2 0).toNat) (by omega) (by omega) (by rw [hl.1, hp]; omega) (fun p hp2 => ?_) (fun p _ => ?_) (v_net_sum (V := am_wv h 2)) (fun g2 k2 => ?_)
  · rw [hl.2.2 p (by omega), hw]
  · have := v_net_le hv (i := (p : Int)) (by omega)
    show -10000 ≤ v_net (am_wv h 2) (p : Int) ∧ v_net (am_wv h 2) (p : Int) ≤ 10000
    omega
  · simp only [Option.toList_some, Option.toList_none, List.cons_append, List.nil_append]
    rw [bq_KO_payments_22]
    refine hq g2 kp (am_keep_t hk (fun a j hr => k2 a j (fun w => ?_) (fun w => ?_) (fun w => ?_)))
    · rw [w] at hr; cases hr
    · rw [w] at hr; cases hr
    · rw [w] at hr; cases hr