/-! RELIEVED of the class: fewest, least -/
def an_np (c : Nat → Prop) (f : Nat → Int) (need : Int) (y : Nat) : Prop := (∀ j, Nat.testBit y j = true → c j) ∧ need ≤ an_su f y
theorem an_np_lt {V : am_Vw} (hv : v_ok V) {i : Int} {y : Nat} (h : ∀ j, Nat.testBit y j = true → v_dc V i j) : y < 2 ^ (vQ V).toNat ∧ y < 2 ^ 16 := by
  have h1 : y < 2 ^ (vQ V).toNat := Nat.lt_pow_two_of_testBit _ (fun r hr => by
    cases hb : Nat.testBit y r with
    | false => rfl
    | true =>
      have := (v_open_lt hv (h r hb).1).1
      omega)
  have hQ := (v_ok_Q hv).2
  exact ⟨h1, Nat.lt_of_lt_of_le h1 (Nat.pow_le_pow_right (by omega) (by omega))⟩
/-- the least of the fewest -/
def an_ls (P : Nat → Prop) (x : Nat) : Prop := P x ∧ (∀ y, P y → am_pc x ≤ am_pc y) ∧ ∀ y, P y → am_pc y = am_pc x → x ≤ y
theorem an_ls_bs {P : Nat → Prop} {x : Nat} (hx : x < 2 ^ 16) (h : an_ls P x) : an_bsv P (fun y => 16 - am_pc y) = (16 - am_pc x, (x : Int)) := by
  refine an_bsv_eq (Or.inr ⟨x, rfl, hx, h.1, rfl, fun y _ hp => ?_⟩)
  have h1 := h.2.1 y hp
  refine ⟨by dsimp only; omega, fun w => ?_⟩
  by_cases q : am_pc y = am_pc x
  · have := h.2.2 y hp q; omega
  · dsimp only; omega
theorem an_bs_ex {P : Nat → Prop} {f : Nat → Int} (h0 : ∀ y, 0 ≤ f y) : ∀ n, ∃ b m, an_bs P f n b m := by
  intro n
  induction n with
  | zero => exact ⟨-1, 0, an_bs_0⟩
  | succ n ih =>
    obtain ⟨b, m, hb⟩ := ih
    rcases Classical.em (P n) with q | q
    · exact ⟨_, _, an_bs_s hb q (h0 n)⟩
    · exact ⟨b, m, an_bs_skip (by omega) (fun y h1 h2 => by rw [show y = n by omega]; exact q) hb⟩
theorem an_ls_ex {P : Nat → Prop} (hl : ∀ y, P y → y < 2 ^ 16) (hex : ∃ y, P y) : ∃ x, an_ls P x := by
  obtain ⟨b, m, hb⟩ := an_bs_ex (P := P) (f := fun y => 16 - am_pc y) (fun y => by have := (an_pc_le (x := y)).2; omega) (2 ^ 16)
  rcases hb with ⟨h1, h2, h3⟩ | ⟨x, h1, h2, h3, h4, h5⟩
  · obtain ⟨y, hy⟩ := hex
    exact absurd hy (h3 y (hl y hy))
  · refine ⟨x, h3, fun y hy => ?_, fun y hy he => ?_⟩
    · have := (h5 y (hl y hy) hy).1
      dsimp only at this; omega
    · by_cases q : x ≤ y
      · exact q
      · have := (h5 y (hl y hy) hy).2 (by omega)
        dsimp only at this; omega
theorem v_rp_ex {V : am_Vw} (hv : v_ok V) {i : Int} (hi : 0 ≤ i) : ∃ y, v_rp V i y := by
  have hQ := v_ok_Q hv
  refine ⟨am_bits (vQ V).toNat (v_db V i), fun j hj => ?_, ?_⟩
  · rw [am_bits_tb, Bool.and_eq_true] at hj
    exact v_db_i.1 hj.2
  · rw [← v_net_nets hv hi]
    have e1 : an_su (vN V) (am_bits (vQ V).toNat (v_db V i)) = am_sumb (vQ V).toNat (fun p => if v_db V i p = true then vN V p else 0) := by
      unfold an_su
      rw [am_sumb_tr (n := (vQ V).toNat) (m := 16) (by omega) (fun j h1 h2 => by
        show (bif Nat.testBit (am_bits (vQ V).toNat (v_db V i)) j then vN V j else 0) = 0
        rw [am_bits_tb, decide_eq_false (by omega)]; rfl)]
      exact am_sumb_eq (fun j hj => by
        show (bif Nat.testBit (am_bits (vQ V).toNat (v_db V i)) j then vN V j else 0) = if v_db V i j = true then vN V j else 0
        rw [am_bits_tb, decide_eq_true hj, Bool.true_and]
        cases v_db V i j with
        | true => rfl
        | false => rfl)
    unfold v_nets
    rw [e1, ← am_sumb_add]
    have h2 := am_sumb_mono (n := (vQ V).toNat) (f := fun _ => 0) (g := fun p => (if vT V p = 0 then (if vH V p = (i.toNat : Int) then vN V p else 0) - (if vO V p = (i.toNat : Int) then vN V p else 0) else 0) + (if v_db V i p = true then vN V p else 0)) (fun p hp => by
      have h3 := (v_ok_p hv p (by omega)).2.2.1
      have eo : v_open V (p : Int) = true ↔ vT V p = 0 := by
        unfold v_open v_isQ
        rw [am_lk_nat (by omega), Bool.and_eq_true, decide_eq_true_eq, decide_eq_true_eq]
        exact ⟨fun w => w.2, fun w => ⟨⟨by omega, by omega⟩, w⟩⟩
      have ed : v_db V i p = true ↔ (vT V p = 0 ∧ vO V p = i) := by
        rw [v_db_i]
        unfold v_dc
        rw [eo]
      show 0 ≤ (if vT V p = 0 then (if vH V p = (i.toNat : Int) then vN V p else 0) - (if vO V p = (i.toNat : Int) then vN V p else 0) else 0) + (if v_db V i p = true then vN V p else 0)
      by_cases q1 : vT V p = 0
      · rw [if_pos q1]
        by_cases q2 : vO V p = i
        · rw [if_pos (show vO V p = (i.toNat : Int) by omega), if_pos (ed.2 ⟨q1, q2⟩)]
          split <;> omega
        · rw [if_neg (show ¬ vO V p = (i.toNat : Int) by omega), if_neg (fun w => q2 (ed.1 w).2)]
          split <;> omega
      · rw [if_neg q1, if_neg (fun w => q1 (ed.1 w).1)]
        omega)
    rw [am_sumb_0] at h2
    exact h2
theorem sp_KO_fewestDebts {d L kp : Nat} {h : Nat → Nat → Int} {Q : Option am_V → am_H → Prop} {i need : Int} (hd : 6 ≤ d) (hv : v_ok (am_wv h 2)) (hex : ∃ y, (an_np (v_dc (am_wv h 2) i) (vN (am_wv h 2)) need) y) (hq : ∀ m : Nat, m ≤ 16 → (∃ y, (an_np (v_dc (am_wv h 2) i) (vN (am_wv h 2)) need) y ∧ am_pc y = (m : Int)) → (∀ y, (an_np (v_dc (am_wv h 2) i) (vN (am_wv h 2)) need) y → (m : Int) ≤ am_pc y) → Q (some (Sum.inl (m : Int))) (am_SH L, h, am_RR kp)) : am_Wp d 161 0 [some (Sum.inr (Sum.inr 2)), some (Sum.inl i), some (Sum.inl need), none] [] (am_SH L, h, am_RR kp) Q := by
  have hQ := v_ok_Q hv
  have e21 : h 2 1 = (((vQ (am_wv h 2)).toNat : Nat) : Int) := by
    have e1 : vQ (am_wv h 2) = h 2 1 := rfl
    omega
  rw [bq_KO_fewestDebts_0]
  refine am_im_fr (J := Unit) (a := 0) (n := 16) (fun m _ => ∀ y, (an_np (v_dc (am_wv h 2) i) (vN (am_wv h 2)) need) y → (m : Int) ≤ am_pc y) (fun m _ => am_Wp d 161 2 [some (Sum.inr (Sum.inr 2)), some (Sum.inl (i)), some (Sum.inl (need)), some (Sum.inl ((m : Int)))] [] (am_SH L, h, am_RR kp) Q) (by omega) (fun m _ _ hm hj ih => ?_) (fun _ hj => ?_) () (fun y _ => (an_pc_le (x := y)).1)
  · rw [bq_KO_fewestDebts_2 (by omega), if_neg (by omega), sp_World_papers_2, e21]
    simp only [Option.toList_some, Option.toList_none, List.cons_append, List.nil_append]
    rw [bq_KO_fewestDebts_14 (by omega)]
    refine sp_KO_largestDebts (by omega) hv (by omega) (fun v hlg => ?_)
    simp only [Option.toList_some, Option.toList_none, List.cons_append, List.nil_append]
    rw [bq_KO_fewestDebts_18]
    by_cases q : need ≤ v
    · rw [if_pos q, bq_KO_fewestDebts_28]
      obtain ⟨y, y1, y2, y3, y4⟩ := hlg.1
      have hP : (an_np (v_dc (am_wv h 2) i) (vN (am_wv h 2)) need) y := ⟨y2, by omega⟩
      have := hj y hP
      exact hq m (by omega) ⟨y, hP, by omega⟩ hj
    · rw [if_neg q, am_incn (by omega)]
      refine ih () (fun y hy => ?_)
      by_cases q2 : am_pc y ≤ (m : Int)
      · have := hlg.2 y (an_np_lt hv hy.1).1 hy.1 q2
        have := hy.2
        omega
      · omega
  · rw [bq_KO_fewestDebts_2 (by omega), if_pos (by omega), bq_KO_fewestDebts_28]
    obtain ⟨y, hy⟩ := hex
    have h1 := hj y hy
    have h2 := (an_pc_le (x := y)).2
    exact hq 16 (by omega) ⟨y, hy, by omega⟩ hj
theorem an_mod_s {x p : Nat} : x % 2 ^ (p + 1) = x % 2 ^ p + (if Nat.testBit x p = true then 2 ^ p else 0) := by
  rw [Nat.pow_succ, Nat.mod_mul, Nat.testBit_eq_decide_div_mod_eq]
  by_cases q : x / 2 ^ p % 2 = 1
  · rw [decide_eq_true q, if_pos rfl, q, Nat.mul_one]
  · rw [decide_eq_false q, if_neg Bool.noConfusion, show x / 2 ^ p % 2 = 0 by omega, Nat.mul_zero]
theorem an_hi_m {x e : Nat} : (x - x % 2 ^ e) % 2 ^ e = 0 := by
  have h1 := Nat.div_add_mod x (2 ^ e)
  rw [show x - x % 2 ^ e = 2 ^ e * (x / 2 ^ e) by omega, Nat.mul_mod_right]
theorem sp_KO_leastDebts {d L kp : Nat} {h : Nat → Nat → Int} {Q : Option am_V → am_H → Prop} {i need : Int} {x : Nat} (hd : 6 ≤ d) (hv : v_ok (am_wv h 2)) (hn : 0 ≤ need ∧ need ≤ 1000) (hx : an_ls (an_np (v_dc (am_wv h 2) i) (vN (am_wv h 2)) need) x) (hq : Q (some (Sum.inl (x : Int))) (am_SH L, h, am_RR kp)) : am_Wp d 164 0 [some (Sum.inr (Sum.inr 2)), some (Sum.inl i), some (Sum.inl need), some (Sum.inl (am_pc x)), none, none, none, none] [] (am_SH L, h, am_RR kp) Q := by
  have hQ := v_ok_Q hv
  have e21 : h 2 1 = (((vQ (am_wv h 2)).toNat : Nat) : Int) := by
    have e1 : vQ (am_wv h 2) = h 2 1 := rfl
    omega
  have hfc : ∀ r, (v_dc (am_wv h 2) i) r → 0 ≤ vN (am_wv h 2) r ∧ vN (am_wv h 2) r ≤ 40 := fun r hr => (v_ok_p hv r (v_open_lt hv hr.1).2).2.2.1
  have hxl := an_np_lt hv hx.1.1
  have hpQ : 2 ^ (vQ (am_wv h 2)).toNat ≤ 2 ^ 16 := Nat.pow_le_pow_right (by omega) (by omega)
  have sus : ∀ n, 0 ≤ an_su (vN (am_wv h 2)) (x % 2 ^ n) ∧ an_su (vN (am_wv h 2)) (x % 2 ^ n) ≤ 640 := fun n => an_su_le (fun r hr => by
    rw [Nat.testBit_mod_two_pow, Bool.and_eq_true] at hr
    exact hfc r (hx.1.1 r hr.2))
  have susx : 0 ≤ an_su (vN (am_wv h 2)) x ∧ an_su (vN (am_wv h 2)) x ≤ 640 := an_su_le (fun r hr => hfc r (hx.1.1 r hr))
  have key : ∀ n, n ≤ (vQ (am_wv h 2)).toNat → am_Wp d 164 17 [some (Sum.inr (Sum.inr 2)), some (Sum.inl (i)), some (Sum.inl (need)), some (Sum.inl ((am_pc x))), some (Sum.inl (((x - x % 2 ^ n : Nat) : Int))), some (Sum.inl ((need - (an_su (vN (am_wv h 2)) x - an_su (vN (am_wv h 2)) (x % 2 ^ n))))), some (Sum.inl ((am_pc (x % 2 ^ n)))), some (Sum.inl (((n : Int) - 1)))] [] (am_SH L, h, am_RR kp) Q := by
    intro n
    induction n with
    | zero =>
      intro _
      have e0 : x % 2 ^ 0 = 0 := by rw [Nat.pow_zero]; omega
      rw [bq_KO_leastDebts_17 (by omega), if_pos (by omega), e0, Nat.sub_zero]
      exact hq
    | succ n ih =>
      intro hnq
      have ih2 := ih (by omega)
      have hpc := an_pc_le (x := x % 2 ^ (n + 1))
      have hpn := Nat.two_pow_pos n
      have hp1 := an_pp (show n < n + 1 by omega)
      have eN : ((n + 1 : Nat) : Int) - 1 = (n : Int) := by omega
      have em := an_mod_s (x := x) (p := n)
      have es := an_su_mod (f := (vN (am_wv h 2))) (x := x) (p := n) (by omega)
      have ep := an_su_mod (f := fun _ => 1) (x := x) (p := n) (by omega)
      rw [← an_pc_su, ← an_pc_su] at ep
      have hs1 := sus (n + 1)
      have hle := Nat.mod_le x (2 ^ (n + 1))
      have hle2 := Nat.mod_le x (2 ^ n)
      have hml := Nat.mod_lt x hpn
      have r69 : am_Wp d 164 69 [some (Sum.inr (Sum.inr 2)), some (Sum.inl (i)), some (Sum.inl (need)), some (Sum.inl ((am_pc x))), some (Sum.inl (((x - x % 2 ^ n : Nat) : Int))), some (Sum.inl ((need - (an_su (vN (am_wv h 2)) x - an_su (vN (am_wv h 2)) (x % 2 ^ n))))), some (Sum.inl ((am_pc (x % 2 ^ n)))), some (Sum.inl ((n : Int)))] [] (am_SH L, h, am_RR kp) Q := by
        rw [bq_KO_leastDebts_69, am_add_ok (by omega) (by omega)]
        exact ih2
      rw [bq_KO_leastDebts_17 (by omega), eN, if_neg (by omega), sp_KO_isDebtOf (by omega) (by omega)]
      simp only [Option.toList_some, Option.toList_none, List.cons_append, List.nil_append]
      rw [bq_KO_leastDebts_29 (by omega)]
      cases hb : Nat.testBit x n with
      | false =>
        rw [hb, if_neg Bool.noConfusion] at em es ep
        rw [em, Nat.add_zero]
        cases hdb : v_db (am_wv h 2) i n with
        | false => rw [if_pos am_bif]; exact r69
        | true =>
          obtain ⟨k, hk⟩ := Int.eq_ofNat_of_zero_le (an_pc_le (x := x % 2 ^ n)).1
          have hk2 : am_pc (x % 2 ^ n) = (k : Int) := hk
          rw [if_neg am_b0, hk2]
          refine sp_KO_largestDebts (by omega) hv (by omega) (fun v hlg => ?_)
          simp only [Option.toList_some, Option.toList_none, List.cons_append, List.nil_append]
          have h5 := hlg.2 (x % 2 ^ n) hml (fun r hr => by
            rw [Nat.testBit_mod_two_pow, Bool.and_eq_true] at hr
            exact hx.1.1 r hr.2) (by omega)
          have h6 := hx.1.2
          rw [bq_KO_leastDebts_41 (by omega), if_pos (by omega), ← hk2]
          exact r69
      | true =>
        have hdb := v_db_i.2 (hx.1.1 n hb)
        rw [hb, if_pos rfl] at em es ep
        obtain ⟨k, hk⟩ := Int.eq_ofNat_of_zero_le hpc.1
        have hk2 : am_pc (x % 2 ^ (n + 1)) = (k : Int) := hk
        have eB : (x - x % 2 ^ (n + 1)) ||| 2 ^ n = x - x % 2 ^ n := by rw [an_addo an_hi_m (show n < n + 1 by omega)]; omega
        have hBm : (x - x % 2 ^ (n + 1)) % 2 ^ (n + 1) = 0 := an_hi_m
        have ecs := an_su_cat (f := (vN (am_wv h 2))) hBm (show x % 2 ^ (n + 1) < 2 ^ (n + 1) from Nat.mod_lt x (Nat.two_pow_pos _))
        have ecp := an_su_cat (f := fun _ => 1) hBm (show x % 2 ^ (n + 1) < 2 ^ (n + 1) from Nat.mod_lt x (Nat.two_pow_pos _))
        rw [← an_pc_su, ← an_pc_su, ← an_pc_su] at ecp
        rw [show x - x % 2 ^ (n + 1) + x % 2 ^ (n + 1) = x by omega] at ecs ecp
        rw [hdb, if_neg am_b0, hk2]
        refine sp_KO_largestDebts (by omega) hv (by omega) (fun v hlg => ?_)
        simp only [Option.toList_some, Option.toList_none, List.cons_append, List.nil_append]
        rw [bq_KO_leastDebts_41 (by omega)]
        by_cases q : need - (an_su (vN (am_wv h 2)) x - an_su (vN (am_wv h 2)) (x % 2 ^ (n + 1))) ≤ v
        · exfalso
          obtain ⟨y, y1, y2, y3, y4⟩ := hlg.1
          have c1 := an_su_cat (f := (vN (am_wv h 2))) hBm (show y < 2 ^ (n + 1) by omega)
          have c2 := an_su_cat (f := fun _ => 1) hBm (show y < 2 ^ (n + 1) by omega)
          rw [← an_pc_su, ← an_pc_su, ← an_pc_su] at c2
          have hz : (an_np (v_dc (am_wv h 2) i) (vN (am_wv h 2)) need) (x - x % 2 ^ (n + 1) + y) := by
            refine ⟨fun r hr => ?_, by omega⟩
            obtain ⟨z, z1, z2, z3⟩ := an_rg hBm (show x - x % 2 ^ (n + 1) ≤ x - x % 2 ^ (n + 1) + y by omega) (by omega)
            rw [z3 r, show z = y by omega] at hr
            by_cases q1 : r < n + 1
            · rw [if_pos q1] at hr; exact y2 r hr
            · rw [if_neg q1] at hr
              obtain ⟨z5, z6, z7, z8⟩ := an_rg hBm (show x - x % 2 ^ (n + 1) ≤ x by omega) (by have := Nat.mod_lt x (Nat.two_pow_pos (n + 1)); omega)
              have := z8 r
              rw [if_neg q1, hr] at this
              exact hx.1.1 r this
          have m1 := hx.2.1 _ hz
          have m2 := hx.2.2 _ hz (by omega)
          omega
        · have e9 : h 9 n = vN (am_wv h 2) n := rfl
          have hfn := hfc n (hx.1.1 n hb)
          have hsn := sus n
          have hmn := an_pc_le (x := x % 2 ^ n)
          rw [if_neg q, sp_World_quartersOf_2 (by omega), am_lk_nat (by omega), e9, am_shl1 (by omega), am_or_ok (by omega) (by omega), eB]
          simp only [Option.toList_some, Option.toList_none, List.cons_append, List.nil_append]
          have h6 := hx.1.2
          rw [bq_KO_leastDebts_63, am_sub_ok (by omega) (by omega), am_add_ok (by omega) (by omega)]
          rw [show need - (an_su (vN (am_wv h 2)) x - an_su (vN (am_wv h 2)) (x % 2 ^ (n + 1))) - vN (am_wv h 2) n = need - (an_su (vN (am_wv h 2)) x - an_su (vN (am_wv h 2)) (x % 2 ^ n)) by omega, show (k : Int) + -1 = am_pc (x % 2 ^ n) by omega]
          exact r69
  have k2 := key (vQ (am_wv h 2)).toNat (Nat.le_refl _)
  rw [Nat.mod_eq_of_lt hxl.1, Nat.sub_self] at k2
  rw [bq_KO_leastDebts_0 (by omega), sp_World_papers_2, e21]
  simp only [Option.toList_some, Option.toList_none, List.cons_append, List.nil_append]
  rw [bq_KO_leastDebts_13, am_sub_ok (by omega) (by omega)]
  rw [show need - (an_su (vN (am_wv h 2)) x - an_su (vN (am_wv h 2)) x) = need by omega] at k2
  exact k2
theorem c_relieved {d L kp : Nat} {h : Nat → Nat → Int} {i w : Int} (hd : 30 ≤ d) (hv : v_ok (am_wv h 2)) : am_An L 41 (a_relieved (am_wv h 2) i w) h (fun Q => am_Wp d 160 0 [some (Sum.inr (Sum.inr 1)), some (Sum.inl i), some (Sum.inl w), none, none] [] (am_SH L, h, am_RR kp) Q) := by
  have hQ := wv_Q hv
  have hP := wv_P hv
  have hD := wv_D hv
  intro Q hq
  show am_Wp d 160 0 [some (Sum.inr (Sum.inr 1)), some (Sum.inl i), some (Sum.inl w), none, none] [] (am_SH L, h, am_RR kp) Q
  have h3 := fun g2 (m : am_keep h g2) => hq g2 kp m
  unfold a_relieved at h3
  rw [bq_KO_relieved_0 (by omega), sp_World_isPerson_2]
  simp only [Option.toList_some, Option.toList_none, List.cons_append, List.nil_append]
  rw [bq_KO_relieved_8 (by omega)]
  cases hi : v_isP (am_wv h 2) i with
  | false =>
    rw [if_pos hi] at h3
    rw [if_pos am_bif, sp_KO_refuse (by omega) (by omega) (by omega)]
    simp only [Option.toList_some, Option.toList_none, List.cons_append, List.nil_append]
    rw [bq_KO_relieved_16]
    exact h3 h am_keep_r
  | true =>
    rw [if_neg (by rw [hi]; exact Bool.noConfusion)] at h3
    rw [if_neg am_b0]
    have hi2 : 0 ≤ i ∧ i < h 2 0 := of_decide_eq_true hi
    have r33 : (w = 0 ∨ w = 1) → am_Wp d 160 33 [some (Sum.inr (Sum.inr 1)), some (Sum.inl (i)), some (Sum.inl (w)), none, none] [] (am_SH L, h, am_RR kp) Q := fun hw => by
      rw [if_pos hw] at h3
      rw [bq_KO_relieved_33 (by omega)]
      refine sp_Ledger_readI (by omega) hv (fun g k1 hwg hl => ?_)
      simp only [Option.toList_some, Option.toList_none, List.cons_append, List.nil_append]
      have hvg : v_ok (am_wv g 2) := by rw [hwg]; exact hv
      rw [bq_KO_relieved_44 (by omega), sp_Ledger_netOf (by omega), am_led_net hl (by omega) (by omega)]
      simp only [Option.toList_some, Option.toList_none, List.cons_append, List.nil_append]
      have hnl := v_net_le hvg hi2.1
      rw [bq_KO_relieved_53 (by omega), am_neg_ok (by omega) (by omega)]
      have hneed : am_max 0 (-v_net (am_wv g 2) i) = (if v_net (am_wv g 2) i < 0 then -v_net (am_wv g 2) i else 0) := by
        unfold am_max
        by_cases q : v_net (am_wv g 2) i < 0
        · rw [if_pos (by omega), if_pos q]
        · rw [if_neg (by omega), if_neg q]
      have hfc : ∀ r, v_dc (am_wv g 2) i r → 0 ≤ vN (am_wv g 2) r ∧ vN (am_wv g 2) r ≤ 40 := fun r hr => (v_ok_p hvg r (v_open_lt hvg hr.1).2).2.2.1
      have hn2 : 0 ≤ am_max 0 (-v_net (am_wv g 2) i) ∧ am_max 0 (-v_net (am_wv g 2) i) ≤ 1000 := by rw [hneed]; split <;> omega
      have eP : v_rp (am_wv g 2) i = an_np (v_dc (am_wv g 2) i) (vN (am_wv g 2)) (am_max 0 (-v_net (am_wv g 2) i)) := funext (fun y => propext (by
        unfold v_rp an_np
        constructor
        · rintro ⟨w1, w2⟩
          refine ⟨w1, ?_⟩
          have := an_su_le (f := vN (am_wv g 2)) (fun r hr => hfc r (w1 r hr))
          rw [hneed]; split <;> omega
        · rintro ⟨w1, w2⟩
          refine ⟨w1, ?_⟩
          rw [hneed] at w2
          by_cases q : v_net (am_wv g 2) i < 0
          · rw [if_pos q] at w2; omega
          · rw [if_neg q] at w2; omega))
      have hex := v_rp_ex hvg hi2.1
      rw [← hwg] at h3
      rw [eP] at hex h3
      generalize am_max 0 (-v_net (am_wv g 2) i) = need at hex h3 hn2 ⊢
      obtain ⟨x, hx⟩ := an_ls_ex (fun y hy => (an_np_lt hvg hy.1).2) hex
      rw [an_ls_bs (an_np_lt hvg hx.1.1).2 hx] at h3
      dsimp only at h3
      refine sp_KO_fewestDebts (by omega) hvg hex (fun m hm hm2 hm3 => ?_)
      simp only [Option.toList_some, Option.toList_none, List.cons_append, List.nil_append]
      have em : (m : Int) = am_pc x := by
        have a1 := hm3 x hx.1
        obtain ⟨y, y1, y2⟩ := hm2
        have a2 := hx.2.1 y y1
        omega
      rw [bq_KO_relieved_67 (by omega)]
      have h4 := h3 g k1
      by_cases q : w = 0
      · rw [if_pos q] at h4
        rw [if_pos q, bq_KO_relieved_89, em]
        rw [show 16 - (16 - am_pc x) = am_pc x by omega] at h4
        exact h4
      · rw [if_neg q] at h4
        rw [if_neg q, em]
        refine sp_KO_leastDebts (by omega) hvg hn2 hx ?_
        simp only [Option.toList_some, Option.toList_none, List.cons_append, List.nil_append]
        rw [bq_KO_relieved_89]
        exact h4
    by_cases q1 : w = 0
    · rw [if_pos q1]; exact r33 (Or.inl q1)
    · rw [if_neg q1]
      by_cases q2 : w = 1
      · rw [if_pos q2]; exact r33 (Or.inr q2)
      · rw [if_neg (by omega)] at h3
        rw [if_neg q2, sp_KO_refuse (by omega) (by omega) (by omega)]
        simp only [Option.toList_some, Option.toList_none, List.cons_append, List.nil_append]
        rw [bq_KO_relieved_32]
        exact h3 h am_keep_r