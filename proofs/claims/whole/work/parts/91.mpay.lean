/-! PAYMENTS of the reference -/
theorem an_ns_le {N : Nat → Int} {P x n : Nat} (h7 : P ≤ 7) (hn : n ≤ P) (hN : ∀ p, p < P → -10000 ≤ N p ∧ N p ≤ 10000) : -70000 ≤ an_ns N n x ∧ an_ns N n x ≤ 70000 := by
  have h1 := am_sumb_le (n := n) (g := fun j => bif Nat.testBit x j then N j else 0) (A := -10000) (B := 10000) (fun j hj => by
    show -10000 ≤ (bif Nat.testBit x j then N j else 0) ∧ (bif Nat.testBit x j then N j else 0) ≤ 10000
    cases Nat.testBit x j with
    | false => exact ⟨(by decide : (-10000 : Int) ≤ 0), (by decide : (0 : Int) ≤ 10000)⟩
    | true => exact hN j (by omega))
  unfold an_ns
  omega
theorem an_ns_s {N : Nat → Int} {n x : Nat} : an_ns N (n + 1) x = an_ns N n x + (bif Nat.testBit x n then N n else 0) := rfl
def an_mp (N : Nat → Int) (P : Nat) (h g : Nat → Nat → Int) (s0 : Nat) : Prop := (∀ a j, ¬ a = 90 → ¬ a = 91 → g a j = h a j) ∧ (∀ p, p < P → g 91 p = N p) ∧ (∀ s, s < s0 → an_mx (an_okp N P) s (g 90 s) ∧ -1 ≤ g 90 s ∧ g 90 s ≤ (s : Int))
theorem sp_M_netOfSet {d L kp : Nat} {h : Nat → Nat → Int} {Q : Option am_V → am_H → Prop} {N : Nat → Int} {P x : Nat} (hd : 1 ≤ d) (hP7 : P ≤ 7) (h70 : h 70 0 = (P : Int)) (hN : ∀ p, p < P → -10000 ≤ N p ∧ N p ≤ 10000) (h91 : ∀ p, p < P → h 91 p = N p) (hx : x < 2 ^ 7) : am_Wp d 229 0 [some (Sum.inr (Sum.inr 70)), some (Sum.inl (x : Int)), none, none] [] (am_SH L, h, am_RR kp) Q = Q (some (Sum.inl (an_ns N P x))) (am_SH L, h, am_RR kp) := by
  rw [bq_M_netOfSet_0]
  refine am_up_eq (n := P) (fun p => am_Wp d 229 4 [some (Sum.inr (Sum.inr 70)), some (Sum.inl ((x : Int))), some (Sum.inl (an_ns N p x)), some (Sum.inl ((p : Int)))] [] (am_SH L, h, am_RR kp) Q) _ (fun p hp => ?_) ?_
  · show am_Wp d 229 4 [some (Sum.inr (Sum.inr 70)), some (Sum.inl ((x : Int))), some (Sum.inl (an_ns N p x)), some (Sum.inl ((p : Int)))] [] (am_SH L, h, am_RR kp) Q = am_Wp d 229 4 [some (Sum.inr (Sum.inr 70)), some (Sum.inl ((x : Int))), some (Sum.inl (an_ns N (p + 1) x)), some (Sum.inl (((p + 1 : Nat) : Int)))] [] (am_SH L, h, am_RR kp) Q
    have b1 := an_ns_le (x := x) (n := p) hP7 (by omega) hN
    have b2 := hN p hp
    refine (bq_M_netOfSet_4 (by omega)).trans ?_
    rw [h70, if_neg (by omega), sp_M_hasBit (by omega) (by omega) (by omega) (by omega), am_has_tb (by omega) (by omega)]
    simp only [Option.toList_some, Option.toList_none, List.cons_append, List.nil_append]
    rw [bq_M_netOfSet_18, an_ns_s]
    cases Nat.testBit x p with
    | false => rw [if_pos am_bif, bq_M_netOfSet_31, am_incn (by omega), am_add_ok (by omega) (by omega), cond_false]
    | true => rw [if_neg am_b0, am_gd (by omega) (by omega), Int.toNat_natCast, h91 p hp, bq_M_netOfSet_31, am_incn (by omega), am_add_ok (by omega) (by omega), cond_true]
  · show am_Wp d 229 4 [some (Sum.inr (Sum.inr 70)), some (Sum.inl ((x : Int))), some (Sum.inl (an_ns N P x)), some (Sum.inl ((P : Int)))] [] (am_SH L, h, am_RR kp) Q = _
    refine (bq_M_netOfSet_4 (by omega)).trans ?_
    rw [h70, if_pos (by omega)]
theorem lp_M_payments_i {d L kp : Nat} {h g : Nat → Nat → Int} {Q : Option am_V → am_H → Prop} {N : Nat → Int} {P S : Nat} (hd : 2 ≤ d) (hP7 : P ≤ 7) (h70 : h 70 0 = (P : Int)) (hN : ∀ p, p < P → -10000 ≤ N p ∧ N p ≤ 10000) (hg : an_mp N P h g S) (hS : S < 2 ^ P) (hS0 : 0 < S) (K : ∀ v : Int, an_mx (an_okp N P) S v → -1 ≤ v ∧ v ≤ (S : Int) → ∀ j3 j4 j5 j6 : Option am_V, am_Wp d 228 62 [some (Sum.inr (Sum.inr 70)), some (Sum.inl (((an_so N P : Nat) : Int))), some (Sum.inl (((S + 1 : Nat) : Int))), j3, j4, j5, j6] [] (am_SH L, (am_up g 90 S v), am_RR kp) Q) : ∀ j : Int × Option am_V × Option am_V, ((-1 ≤ j.1 ∧ j.1 ≤ (S : Int)) ∧ (j.1 = -1 ∨ ∃ y, S < y ∧ an_sb y S ∧ an_okp N P y ∧ 0 ≤ g 90 (an_dif S y) ∧ j.1 = g 90 (an_dif S y) + 1) ∧ (∀ y, S < y → an_sb y S → an_okp N P y → 0 ≤ g 90 (an_dif S y) → g 90 (an_dif S y) + 1 ≤ j.1)) → am_Wp d 228 77 [some (Sum.inr (Sum.inr 70)), some (Sum.inl (((an_so N P : Nat) : Int))), some (Sum.inl ((S : Int))), some (Sum.inl (j.1)), some (Sum.inl ((S : Int))), j.2.1, j.2.2] [] (am_SH L, g, am_RR kp) Q := by
  have hp7 : 2 ^ P ≤ 2 ^ 7 := Nat.pow_le_pow_right (by omega) hP7
  have lso : an_so N P < 2 ^ P := am_bits_lt
  obtain ⟨k1, k2, k3⟩ := hg
  have g70 : g 70 0 = (P : Int) := by rw [k1 70 0 (by omega) (by omega)]; exact h70
  refine an_sm_loop (J := Int × Option am_V × Option am_V) (m := S) (fun b j => (-1 ≤ j.1 ∧ j.1 ≤ (S : Int)) ∧ (j.1 = -1 ∨ ∃ y, b < y ∧ an_sb y S ∧ an_okp N P y ∧ 0 ≤ g 90 (an_dif S y) ∧ j.1 = g 90 (an_dif S y) + 1) ∧ (∀ y, b < y → an_sb y S → an_okp N P y → 0 ≤ g 90 (an_dif S y) → g 90 (an_dif S y) + 1 ≤ j.1)) (fun b j => am_Wp d 228 77 [some (Sum.inr (Sum.inr 70)), some (Sum.inl (((an_so N P : Nat) : Int))), some (Sum.inl ((S : Int))), some (Sum.inl (j.1)), some (Sum.inl ((b : Int))), j.2.1, j.2.2] [] (am_SH L, g, am_RR kp) Q) (fun b j hb hbs hj ih => ?_) (fun j hj => ?_)
  · obtain ⟨m, j5, j6⟩ := j
    obtain ⟨m1, m2, m3⟩ := hj
    dsimp only at m1 m2 m3
    have hle := an_sb_le hbs
    have hlt := an_dif_lt hbs (by omega)
    have h3 := k3 _ hlt
    have hnx := fun c (hc : an_sb c S) (h1 : (b - 1) &&& S < c) => show c = b ∨ b < c from by
      by_cases q : c < b
      · have := an_sm_up b b S c (Nat.le_refl b) hb hbs hc q
        omega
      · omega
    have hlt2 := an_sm_lt (m := S) hb
    have enx : am_and (am_sub (b : Int) 1) (S : Int) = (((b - 1) &&& S : Nat) : Int) := by
      rw [am_sub_ok (by omega) (by omega), show (b : Int) - 1 = ((b - 1 : Nat) : Int) by omega, am_and_ok (by omega) (by omega)]
    show am_Wp d 228 77 [some (Sum.inr (Sum.inr 70)), some (Sum.inl (((an_so N P : Nat) : Int))), some (Sum.inl ((S : Int))), some (Sum.inl (m)), some (Sum.inl ((b : Int))), j5, j6] [] (am_SH L, g, am_RR kp) Q
    rw [bq_M_payments_77 (by omega), if_neg (by omega), an_dif_ok (by omega) (by omega), am_gd (by omega) (by omega), Int.toNat_natCast]
    have keep : ¬ (an_okp N P b ∧ 0 ≤ g 90 (an_dif S b) ∧ m < g 90 (an_dif S b) + 1) → ∀ j5 j6 : Option am_V, am_Wp d 228 146 [some (Sum.inr (Sum.inr 70)), some (Sum.inl (((an_so N P : Nat) : Int))), some (Sum.inl ((S : Int))), some (Sum.inl (m)), some (Sum.inl ((b : Int))), j5, j6] [Sum.inl m] (am_SH L, g, am_RR kp) Q := fun hn j5 j6 => by
      rw [bq_M_payments_146, enx]
      refine ih (m, j5, j6) ⟨m1, ?_, fun y y1 y2 y3 y4 => ?_⟩
      · rcases m2 with m2 | ⟨y, y1, y2⟩
        · exact Or.inl m2
        · exact Or.inr ⟨y, by omega, y2⟩
      · rcases hnx y y2 y1 with q | q
        · rw [q] at y3 y4 ⊢
          refine Classical.byContradiction (fun w => hn ⟨y3, y4, ?_⟩)
          show m < g 90 (an_dif S b) + 1
          have w2 : ¬ g 90 (an_dif S b) + 1 ≤ m := w
          omega
        · exact m3 y q y2 y3 y4
    have r123 : ∀ c : Bool, (c = true ↔ an_okp N P b ∧ 0 ≤ g 90 (an_dif S b)) → am_Wp d 228 123 [some (Sum.inr (Sum.inr 70)), some (Sum.inl (((an_so N P : Nat) : Int))), some (Sum.inl ((S : Int))), some (Sum.inl (m)), some (Sum.inl ((b : Int))), some (Sum.inl (g 90 (an_dif S b))), j6] [Sum.inl (am_bi c)] (am_SH L, g, am_RR kp) Q := fun c hc => by
      rw [bq_M_payments_123]
      cases c with
      | false =>
        rw [if_pos am_bif, bq_M_payments_145]
        exact keep (fun w => by have := hc.2 ⟨w.1, w.2.1⟩; cases this) _ _
      | true =>
        have hc2 := hc.1 rfl
        rw [if_neg am_b0, am_add_ok (by omega) (by omega)]
        by_cases q : g 90 (an_dif S b) + 1 ≤ m
        · rw [if_pos q, bq_M_payments_145]
          exact keep (fun w => by omega) _ _
        · rw [if_neg q, bq_M_payments_146, enx]
          refine ih (g 90 (an_dif S b) + 1, _, _) ⟨⟨by show -1 ≤ g 90 (an_dif S b) + 1; omega, by show g 90 (an_dif S b) + 1 ≤ (S : Int); omega⟩, Or.inr ⟨b, hlt2, hbs, hc2.1, hc2.2, rfl⟩, fun y y1 y2 y3 y4 => ?_⟩
          show g 90 (an_dif S y) + 1 ≤ g 90 (an_dif S b) + 1
          rcases hnx y y2 y1 with q2 | q2
          · rw [q2]; exact Int.le_refl _
          · have := m3 y q2 y2 y3 y4
            omega
    have r122 : ¬ (an_okp N P b ∧ 0 ≤ g 90 (an_dif S b)) → am_Wp d 228 122 [some (Sum.inr (Sum.inr 70)), some (Sum.inl (((an_so N P : Nat) : Int))), some (Sum.inl ((S : Int))), some (Sum.inl (m)), some (Sum.inl ((b : Int))), some (Sum.inl (g 90 (an_dif S b))), j6] [] (am_SH L, g, am_RR kp) Q := fun hn => by
      rw [bq_M_payments_122]
      exact r123 false ⟨fun w => (by cases w), fun w => absurd w hn⟩
    by_cases q1 : g 90 (an_dif S b) < 0
    · rw [if_pos q1]
      exact r122 (fun w => by omega)
    · rw [if_neg q1, sp_M_netOfSet (by omega) hP7 g70 hN k2 (by omega)]
      simp only [Option.toList_some, Option.toList_none, List.cons_append, List.nil_append]
      rw [bq_M_payments_106, an_dif_ok (by omega) (by omega)]
      by_cases q2 : an_ns N P b = 0
      · rw [if_pos q2]
        by_cases q3 : an_dif b (an_so N P) = 0
        · rw [if_pos (by omega)]
          exact r123 true ⟨fun _ => ⟨⟨q2, an_sb_0.1 q3⟩, by omega⟩, fun _ => rfl⟩
        · rw [if_neg (by omega)]
          exact r122 (fun w => q3 (an_sb_0.2 w.1.2))
      · rw [if_neg q2]
        exact r122 (fun w => q2 w.1.1)
  · obtain ⟨m, j5, j6⟩ := j
    obtain ⟨m1, m2, m3⟩ := hj
    dsimp only at m1 m2 m3
    show am_Wp d 228 77 [some (Sum.inr (Sum.inr 70)), some (Sum.inl (((an_so N P : Nat) : Int))), some (Sum.inl ((S : Int))), some (Sum.inl (m)), some (Sum.inl (0)), j5, j6] [] (am_SH L, g, am_RR kp) Q
    rw [bq_M_payments_77 (by omega), if_pos (by omega), am_gd (by omega) (by omega), am_incn (by omega), Int.toNat_natCast]
    refine K m (an_mx_s (G := fun x => g 90 x) (by omega) (fun x x1 x2 => (k3 _ (an_dif_lt x1 x2)).1) ?_ (fun x x1 x2 x3 x4 => m3 x (by omega) x1 x3 x4)) m1 _ _ _ _
    rcases m2 with m2 | ⟨y, y1, y2, y3, y4, y5⟩
    · exact Or.inl m2
    · exact Or.inr ⟨y, y2, by omega, y3, y4, y5⟩
theorem sp_M_payments {d L kp : Nat} {h : Nat → Nat → Int} {Q : Option am_V → am_H → Prop} (hd : 2 ≤ d) (hv : v_ok (am_mv h)) (hq : ∀ g, (∀ a j, ¬ a = 90 → ¬ a = 91 → ¬ (a = 70 ∧ j = 13) → g a j = h a j) → Q (some (Sum.inl (v_pay (fun p : Nat => v_net (am_mv h) (p : Int)) (h 70 0).toNat))) (am_SH L, g, am_RR kp)) : am_Wp d 228 0 [some (Sum.inr (Sum.inr 70)), none, none, none, none, none, none] [] (am_SH L, h, am_RR kp) Q := by
  have hQ := mv_Q hv
  have hP := mv_P hv
  have hD := mv_D hv
  have hp7 : 2 ^ (h 70 0).toNat ≤ 2 ^ 7 := Nat.pow_le_pow_right (by omega) (by omega)
  have hpp := Nat.two_pow_pos (h 70 0).toNat
  have hN : ∀ p, p < (h 70 0).toNat → -10000 ≤ (fun p : Nat => v_net (am_mv h) (p : Int)) p ∧ (fun p : Nat => v_net (am_mv h) (p : Int)) p ≤ 10000 := fun p _ => by
    have := v_net_le hv (i := (p : Int)) (by omega)
    show -10000 ≤ v_net (am_mv h) (p : Int) ∧ v_net (am_mv h) (p : Int) ≤ 10000
    omega
  have hNe0 : ∀ p : Nat, (fun p : Nat => v_net (am_mv h) (p : Int)) p = v_net (am_mv h) (p : Int) := fun _ => rfl
  generalize (fun p : Nat => v_net (am_mv h) (p : Int)) = N at hq hN hNe0
  have hNe : ∀ p : Nat, N p = v_net (am_mv h) (p : Int) := hNe0
  rw [bq_M_payments_0]
  have hv1 : v_ok (am_mv (am_up h 70 13 0)) := hv
  have hc : ∀ g' : Nat → Nat → Int, (∀ a j, ¬ a = 90 → ¬ a = 91 → g' a j = am_up h 70 13 0 a j) → (∀ a j, ¬ a = 90 → ¬ a = 91 → ¬ (a = 70 ∧ j = 13) → g' a j = h a j) := fun g' hg a j h1 h2 h3 => by
    rw [hg a j h1 h2]
    unfold am_up
    by_cases q : a = 70
    · rw [if_pos q, if_neg (fun w => h3 ⟨q, w⟩)]
    · rw [if_neg q]
  have e70 : am_up h 70 13 0 70 0 = (((h 70 0).toNat : Nat) : Int) := by
    show h 70 0 = _
    omega
  generalize hB : am_up h 70 13 0 = B at hv1 hc e70
  have emv : am_mv B = am_mv h := by rw [← hB]; rfl
  clear hB
  have h1 := am_up_eq (n := (h 70 0).toNat) (fun p => am_Wp d 228 9 [some (Sum.inr (Sum.inr 70)), some (Sum.inl (((am_bits p (fun p => !decide (N p = 0)) : Nat) : Int))), some (Sum.inl ((p : Int))), none, none, none, none] [] (am_SH L, (an_arr B 91 p N), am_RR kp) Q) (am_Wp d 228 9 [some (Sum.inr (Sum.inr 70)), some (Sum.inl (((an_so N (h 70 0).toNat : Nat) : Int))), some (Sum.inl ((((h 70 0).toNat : Nat) : Int))), none, none, none, none] [] (am_SH L, (an_arr B 91 (h 70 0).toNat N), am_RR kp) Q) (fun p hp => ?_) rfl
  · have e0 : an_arr B 91 0 N = B := an_arr_0
    rw [e0] at h1
    refine h1.mpr ?_
    have lso : an_so N (h 70 0).toNat < 2 ^ (h 70 0).toNat := am_bits_lt
    have f70 : (an_arr B 91 (h 70 0).toNat N) 70 0 = (((h 70 0).toNat : Nat) : Int) := e70
    refine (show _ = _ from bq_M_payments_9 (by omega)).mpr ?_
    rw [f70, if_pos (Int.le_refl _)]
    refine ⟨⟨by omega, by omega⟩, ?_⟩
    have hsh : am_shl 1 (h 70 0) = ((2 ^ (h 70 0).toNat : Nat) : Int) := am_shl1i (by omega) (by omega)
    have key := am_im_fr (J := (Nat → Nat → Int) × Option am_V × Option am_V × Option am_V × Option am_V) (a := 1) (n := 2 ^ (h 70 0).toNat) (fun S j => an_mp N (h 70 0).toNat B j.1 S) (fun S j => am_Wp d 228 62 [some (Sum.inr (Sum.inr 70)), some (Sum.inl (((an_so N (h 70 0).toNat : Nat) : Int))), some (Sum.inl ((S : Int))), j.2.1, j.2.2.1, j.2.2.2.1, j.2.2.2.2] [] (am_SH L, j.1, am_RR kp) Q) (by omega) (fun S j hS1 hS2 hj ih => ?_) (fun j hj => ?_)
    · refine key (am_up (an_arr B 91 (h 70 0).toNat N) 90 0 0, none, none, none, none) ⟨fun a j h1 h2 => ?_, fun p hp => ?_, fun s hs => ?_⟩
      · show am_up (an_arr B 91 (h 70 0).toNat N) 90 0 0 a j = B a j
        unfold am_up an_arr
        rw [if_neg h1, if_neg h2]
      · show an_arr B 91 (h 70 0).toNat N 91 p = _
        exact an_arr_i hp
      · rw [show s = 0 by omega]
        exact ⟨an_mx_0, (by decide : (-1 : Int) ≤ 0), Int.le_refl 0⟩
    · obtain ⟨g, j3, j4, j5, j6⟩ := j
      have hj2 : an_mp N (h 70 0).toNat B g S := hj
      have g70 : g 70 0 = (((h 70 0).toNat : Nat) : Int) := by rw [hj2.1 70 0 (by omega) (by omega)]; exact e70
      have hsg : am_shl 1 (g 70 0) = ((2 ^ (h 70 0).toNat : Nat) : Int) := by rw [g70, am_shl1 (by omega)]
      show am_Wp d 228 62 [some (Sum.inr (Sum.inr 70)), some (Sum.inl (((an_so N (h 70 0).toNat : Nat) : Int))), some (Sum.inl ((S : Int))), j3, j4, j5, j6] [] (am_SH L, g, am_RR kp) Q
      rw [bq_M_payments_62 (by omega), hsg, if_neg (by omega)]
      refine lp_M_payments_i (h := B) hd (by omega) e70 hN hj2 hS2 (by omega) (fun v hv2 hv3 j3 j4 j5 j6 => ih (am_up g 90 S v, j3, j4, j5, j6) ⟨fun a j h1 h2 => ?_, hj2.2.1, fun s hs => ?_⟩) (-1, j5, j6) ⟨⟨Int.le_refl _, by show (-1 : Int) ≤ (S : Int); omega⟩, Or.inl rfl, fun y y1 y2 => absurd (an_sb_le y2) (by omega)⟩
      · show am_up g 90 S v a j = B a j
        unfold am_up
        rw [if_neg h1]
        exact hj2.1 a j h1 h2
      · show an_mx (an_okp N (h 70 0).toNat) s (am_up g 90 S v 90 s) ∧ -1 ≤ am_up g 90 S v 90 s ∧ am_up g 90 S v 90 s ≤ (s : Int)
        by_cases q : s = S
        · rw [q, am_up_y]; exact ⟨hv2, hv3⟩
        · rw [am_up_n q]; exact hj2.2.2 s (by omega)
    · obtain ⟨g, j3, j4, j5, j6⟩ := j
      have hj2 : an_mp N (h 70 0).toNat B g (2 ^ (h 70 0).toNat) := hj
      have g70 : g 70 0 = (((h 70 0).toNat : Nat) : Int) := by rw [hj2.1 70 0 (by omega) (by omega)]; exact e70
      have hsg : am_shl 1 (g 70 0) = ((2 ^ (h 70 0).toNat : Nat) : Int) := by rw [g70, am_shl1 (by omega)]
      have h3 := hj2.2.2 (an_so N (h 70 0).toNat) lso
      have h4 := an_mxv_eq h3.1
      have p1 := an_pc_le (x := an_so N (h 70 0).toNat)
      show am_Wp d 228 62 [some (Sum.inr (Sum.inr 70)), some (Sum.inl (((an_so N (h 70 0).toNat : Nat) : Int))), some (Sum.inl (((2 ^ (h 70 0).toNat : Nat) : Int))), j3, j4, j5, j6] [] (am_SH L, g, am_RR kp) Q
      rw [bq_M_payments_62 (by omega), hsg, if_pos (Int.le_refl _), sp_M_onesOf (by omega)]
      simp only [Option.toList_some, Option.toList_none, List.cons_append, List.nil_append]
      rw [bq_M_payments_175, am_gd (by omega) (by omega), Int.toNat_natCast, am_sub_ok (by omega) (by omega), h4]
      exact hq g (hc g (fun a j h1 h2 => hj2.1 a j h1 h2))
  · have hvp : v_ok (am_mv (an_arr B 91 p N)) := hv1
    have f70 : (an_arr B 91 p N) 70 0 = (((h 70 0).toNat : Nat) : Int) := e70
    have ei := am_bits_i (b := p) (c := fun p => !decide (N p = 0)) (by omega)
    have lb := am_bits_lt (n := p) (c := fun p => !decide (N p = 0))
    have hp2 : 2 ^ p ≤ 2 ^ 7 := Nat.pow_le_pow_right (by omega) (by omega)
    have eg := an_arr_g (h := B) (A := 91) (n := p) (c := N)
    refine (bq_M_payments_9 (by omega)).trans ?_
    rw [f70, if_neg (by omega), sp_M_netOf (by omega) hvp]
    simp only [Option.toList_some, Option.toList_none, List.cons_append, List.nil_append]
    have en' : v_net (am_mv (an_arr B 91 p N)) (p : Int) = N p := by
      rw [hNe]
      show v_net (am_mv B) (p : Int) = v_net (am_mv h) (p : Int)
      rw [emv]
    rw [bq_M_payments_27, am_gd (by omega) (by omega), am_gd (by omega) (by omega), en', Int.toNat_natCast, eg]
    have e91 : (an_arr B 91 (p + 1) N) 91 p = N p := an_arr_i (by omega)
    rw [e91]
    simp only [bq_M_payments_45]
    rw [am_incn (by omega)]
    by_cases q : N p = 0
    · have e0 : (!decide (N p = 0)) = false := by rw [decide_eq_true q]; rfl
      rw [e0, if_neg (by simp)] at ei
      rw [if_pos q, am_or_0 ⟨by omega, by omega⟩, ei]
    · have e0 : (!decide (N p = 0)) = true := by rw [decide_eq_false q]; rfl
      rw [e0, if_pos rfl] at ei
      rw [if_neg q, ei]
theorem m_payments {d L kp : Nat} {h : Nat → Nat → Int} (hd : 2 ≤ d) (hv : v_ok (am_mv h)) : am_An L 81 (a_payments (am_mv h)) h (fun Q => am_Wp d 228 0 [some (Sum.inr (Sum.inr 70)), none, none, none, none, none, none] [] (am_SH L, h, am_RR kp) Q) := by
  intro Q hq
  refine sp_M_payments hd hv (fun g hg => hq g kp (fun a j hr => hg a j (fun w => ?_) (fun w => ?_) (fun w => ?_)))
  · rw [w] at hr; cases hr
  · rw [w] at hr; cases hr
  · rw [w.1, w.2] at hr; cases hr