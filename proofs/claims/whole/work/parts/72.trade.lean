/-! THE CALL trade -/
theorem am_for_s {α : Type} {f : Nat → α → α} {n : Nat} {a : α} : am_for f (n + 1) a = f n (am_for f n a) := rfl
def v_chg (V : am_Vw) (p f t : Int) : Bool := decide (am_lk (vH V) 16 p = f) && !decide (am_lk (vO V) 16 p = t) && v_take V p t
def v_tcan (V : am_Vw) (a b : Int) (j k : Nat) : Bool := v_chg V (j : Int) a b && v_chg V (k : Int) b a
def an_abs (x : Int) : Int := if 0 ≤ x then x else -x
theorem an_abs_ok {x : Int} (h1 : -2147483647 ≤ x) (h2 : x ≤ 2147483647) : am_abs x = an_abs x := by
  unfold am_abs an_abs
  by_cases q : 0 ≤ x
  · rw [if_pos q, if_pos q]
  · rw [if_neg q, if_neg q, am_sub_ok (by omega) (by omega), Int.zero_sub]
def v_tap (V : am_Vw) (a b : Int) (j k : Nat) : Int := an_abs (v_purse V a - v_purse V b - 2 * v_worth V (j : Int) + 2 * v_worth V (k : Int))
def v_tr1 (V : am_Vw) (a b : Int) (j n : Nat) (s : Int × Int) : Int × Int := am_for (fun k s => if v_tcan V a b j k = true ∧ v_tap V a b j k < s.2 then (100 * (j : Int) + (k : Int), v_tap V a b j k) else s) n s
def v_tr2 (V : am_Vw) (a b : Int) (n : Nat) : Int × Int := am_for (fun j s => v_tr1 V a b j (vQ V).toNat s) n (-9, an_abs (v_purse V a - v_purse V b))
theorem v_tr1_s {V : am_Vw} {a b : Int} {j k : Nat} {s : Int × Int} : v_tr1 V a b j (k + 1) s = if v_tcan V a b j k = true ∧ v_tap V a b j k < (v_tr1 V a b j k s).2 then (100 * (j : Int) + (k : Int), v_tap V a b j k) else v_tr1 V a b j k s := by
  unfold v_tr1
  exact am_for_s
def a_trade (V : am_Vw) (a b : Int) : am_V × Nat := if v_two V a b = false then (Sum.inl (-1), 1) else (Sum.inl (v_tr2 V a b (vQ V).toNat).1, 0)
theorem sp_KO_canChange {d L kp : Nat} {h : Nat → Nat → Int} {Q : Option am_V → am_H → Prop} {i e x : Int} (hd : 3 ≤ d) : am_Wp d 154 0 [some (Sum.inr (Sum.inr 2)), some (Sum.inl i), some (Sum.inl e), some (Sum.inl x)] [] (am_SH L, h, am_RR kp) Q = Q (some (Sum.inl (am_bi (v_chg (am_wv h 2) i e x)))) (am_SH L, h, am_RR kp) := by
  simp (disch := omega) only [bq_KO_canChange_0, bq_KO_canChange_5, bq_KO_canChange_31, bq_KO_canChange_14, bq_KO_canChange_32, bq_KO_canChange_24, sp_World_holderOf_2, sp_World_debtorOf_2, sp_World_canTake_2, Option.toList_some, Option.toList_none, List.cons_append, List.nil_append, am_bi0, am_bi1, am_bft, true_and, reduceCtorEq, or_false, false_or, or_true, true_or]
  unfold v_chg
  (repeat' split) <;> simp_all [am_bi] <;> omega

theorem lp_KO_trade_i {d L kp : Nat} {h : Nat → Nat → Int} {Q : Option am_V → am_H → Prop} {a b : Int} {j : Nat} {s : Int × Int} (x : Option am_V) {E : Prop} (hd : 4 ≤ d) (hv : v_ok (am_wv h 2)) (hj : (j : Int) < h 2 1) (hE : ∀ x : Option am_V, am_Wp d 153 46 [some (Sum.inr (Sum.inr 1)), some (Sum.inl (a)), some (Sum.inl (b)), some (Sum.inl ((v_purse (am_wv h 2) a - v_purse (am_wv h 2) b))), some (Sum.inl ((v_tr1 (am_wv h 2) a b j (h 2 1).toNat s).2)), some (Sum.inl ((v_tr1 (am_wv h 2) a b j (h 2 1).toNat s).1)), some (Sum.inl (((j + 1 : Nat) : Int))), some (Sum.inl ((((h 2 1).toNat : Nat) : Int))), x] [] (am_SH L, h, am_RR kp) Q = E) : am_Wp d 153 61 [some (Sum.inr (Sum.inr 1)), some (Sum.inl (a)), some (Sum.inl (b)), some (Sum.inl ((v_purse (am_wv h 2) a - v_purse (am_wv h 2) b))), some (Sum.inl ((s).2)), some (Sum.inl ((s).1)), some (Sum.inl ((j : Int))), some (Sum.inl (0)), x] [] (am_SH L, h, am_RR kp) Q = E := by
  have hQ := wv_Q hv
  have hP := wv_P hv
  have hD := wv_D hv
  refine am_dn_fr (J := Option am_V) (a := 0) (n := (h 2 1).toNat) (fun k x => am_Wp d 153 61 [some (Sum.inr (Sum.inr 1)), some (Sum.inl (a)), some (Sum.inl (b)), some (Sum.inl ((v_purse (am_wv h 2) a - v_purse (am_wv h 2) b))), some (Sum.inl ((v_tr1 (am_wv h 2) a b j k s).2)), some (Sum.inl ((v_tr1 (am_wv h 2) a b j k s).1)), some (Sum.inl ((j : Int))), some (Sum.inl ((k : Int))), x] [] (am_SH L, h, am_RR kp) Q) E (by omega) (fun k _ hk ih x => ?_) (fun x => ?_) x
  · have ih2 := fun x => ih x
    rw [v_tr1_s] at ih2
    have b1 := v_purse_le hv a
    have b2 := v_purse_le hv b
    have b3 := wv_w hv j (by omega)
    have b4 := wv_w hv k (by omega)
    have b5 := (wv_p hv j (by omega)).2.2.1
    have b6 := (wv_p hv k (by omega)).2.2.1
    have et : am_abs (am_add (am_sub (v_purse (am_wv h 2) a - v_purse (am_wv h 2) b) (am_mul 2 (v_worth (am_wv h 2) (j : Int)))) (am_mul 2 (v_worth (am_wv h 2) (k : Int)))) = v_tap (am_wv h 2) a b j k := by
      rw [am_mul_ok (by omega) (by omega), am_mul_ok (by omega) (by omega), am_sub_ok (by omega) (by omega), am_add_ok (by omega) (by omega), an_abs_ok (by omega) (by omega)]
      rfl
    have e100 : am_add (am_mul 100 (j : Int)) (k : Int) = 100 * (j : Int) + (k : Int) := by rw [am_mul_ok (by omega) (by omega), am_add_ok (by omega) (by omega)]
    refine (bq_KO_trade_61 (by omega)).trans ?_
    simp (disch := first | exact hv | omega) only [bq_KO_trade_0, bq_KO_trade_6, bq_KO_trade_23, bq_KO_trade_14, bq_KO_trade_31, bq_KO_trade_55, bq_KO_trade_70, bq_KO_trade_84, bq_KO_trade_155, bq_KO_trade_98, bq_KO_trade_115, bq_KO_trade_127, sp_KO_areTwo, sp_KO_refuse, sp_World_purseOf_2, sp_World_papers_2, sp_KO_canChange, sp_World_worthOf_2, Option.toList_some, Option.toList_none, List.cons_append, List.nil_append, am_bi0, am_bi1, am_bft, true_and, reduceCtorEq, or_false, false_or, or_true, true_or, am_gd, am_incn, am_lk_nat, Int.toNat_natCast, ↓reduceIte, Int.reduceEq, et, e100]
    rw [if_neg (by omega)]
    unfold v_tcan at ih2
    revert ih2
    cases v_chg (am_wv h 2) (j : Int) a b <;> cases v_chg (am_wv h 2) (k : Int) b a
    · intro ih2
      simp only [Bool.and_self, reduceCtorEq, false_and, ↓reduceIte] at ih2 ⊢
      exact ih2 x
    · intro ih2
      simp only [Bool.false_and, reduceCtorEq, false_and, ↓reduceIte] at ih2 ⊢
      exact ih2 x
    · intro ih2
      simp only [Bool.and_false, reduceCtorEq, false_and, ↓reduceIte] at ih2 ⊢
      exact ih2 x
    · intro ih2
      simp only [Bool.and_self, true_and, reduceCtorEq, ↓reduceIte] at ih2 ⊢
      by_cases q : v_tap (am_wv h 2) a b j k < (v_tr1 (am_wv h 2) a b j k s).2
      · rw [if_pos q] at ih2
        rw [if_neg (by omega)]
        exact ih2 _
      · rw [if_neg q] at ih2
        rw [if_pos (by omega)]
        exact ih2 _
  · refine (bq_KO_trade_61 (by omega)).trans ?_
    simp (disch := first | exact hv | omega) only [bq_KO_trade_0, bq_KO_trade_6, bq_KO_trade_23, bq_KO_trade_14, bq_KO_trade_31, bq_KO_trade_55, bq_KO_trade_70, bq_KO_trade_84, bq_KO_trade_155, bq_KO_trade_98, bq_KO_trade_115, bq_KO_trade_127, sp_KO_areTwo, sp_KO_refuse, sp_World_purseOf_2, sp_World_papers_2, sp_KO_canChange, sp_World_worthOf_2, Option.toList_some, Option.toList_none, List.cons_append, List.nil_append, am_bi0, am_bi1, am_bft, true_and, reduceCtorEq, or_false, false_or, or_true, true_or, am_gd, am_incn, am_lk_nat, Int.toNat_natCast, ↓reduceIte, Int.reduceEq]
    rw [if_pos (by omega)]
    exact hE x
theorem lp_KO_trade {d L kp : Nat} {h : Nat → Nat → Int} {Q : Option am_V → am_H → Prop} {a b : Int} (x : Option am_V × Option am_V) (hd : 4 ≤ d) (hv : v_ok (am_wv h 2)) : am_Wp d 153 46 [some (Sum.inr (Sum.inr 1)), some (Sum.inl (a)), some (Sum.inl (b)), some (Sum.inl ((v_purse (am_wv h 2) a - v_purse (am_wv h 2) b))), some (Sum.inl ((v_tr2 (am_wv h 2) a b 0).2)), some (Sum.inl ((v_tr2 (am_wv h 2) a b 0).1)), some (Sum.inl (0)), x.1, x.2] [] (am_SH L, h, am_RR kp) Q = Q (some (Sum.inl ((v_tr2 (am_wv h 2) a b (h 2 1).toNat).1))) (am_SH L, h, am_RR kp) := by
  have hQ := wv_Q hv
  have hP := wv_P hv
  have hD := wv_D hv
  refine am_dn_fr (J := Option am_V × Option am_V) (a := 0) (n := (h 2 1).toNat) (fun j x => am_Wp d 153 46 [some (Sum.inr (Sum.inr 1)), some (Sum.inl (a)), some (Sum.inl (b)), some (Sum.inl ((v_purse (am_wv h 2) a - v_purse (am_wv h 2) b))), some (Sum.inl ((v_tr2 (am_wv h 2) a b j).2)), some (Sum.inl ((v_tr2 (am_wv h 2) a b j).1)), some (Sum.inl ((j : Int))), x.1, x.2] [] (am_SH L, h, am_RR kp) Q) (Q (some (Sum.inl ((v_tr2 (am_wv h 2) a b (h 2 1).toNat).1))) (am_SH L, h, am_RR kp)) (by omega) (fun j _ hj ih x => ?_) (fun x => ?_) x
  · refine (bq_KO_trade_46 (by omega)).trans ?_
    simp (disch := first | exact hv | omega) only [bq_KO_trade_0, bq_KO_trade_6, bq_KO_trade_23, bq_KO_trade_14, bq_KO_trade_31, bq_KO_trade_55, bq_KO_trade_70, bq_KO_trade_84, bq_KO_trade_155, bq_KO_trade_98, bq_KO_trade_115, bq_KO_trade_127, sp_KO_areTwo, sp_KO_refuse, sp_World_purseOf_2, sp_World_papers_2, sp_KO_canChange, sp_World_worthOf_2, Option.toList_some, Option.toList_none, List.cons_append, List.nil_append, am_bi0, am_bi1, am_bft, true_and, reduceCtorEq, or_false, false_or, or_true, true_or, am_gd, am_incn, am_lk_nat, Int.toNat_natCast, ↓reduceIte, Int.reduceEq]
    rw [if_neg (by omega)]
    exact lp_KO_trade_i (s := v_tr2 (am_wv h 2) a b j) _ hd hv (by omega) (fun y => ih (some (Sum.inl (((h 2 1).toNat : Nat) : Int)), y))
  · refine (bq_KO_trade_46 (by omega)).trans ?_
    simp (disch := first | exact hv | omega) only [bq_KO_trade_0, bq_KO_trade_6, bq_KO_trade_23, bq_KO_trade_14, bq_KO_trade_31, bq_KO_trade_55, bq_KO_trade_70, bq_KO_trade_84, bq_KO_trade_155, bq_KO_trade_98, bq_KO_trade_115, bq_KO_trade_127, sp_KO_areTwo, sp_KO_refuse, sp_World_purseOf_2, sp_World_papers_2, sp_KO_canChange, sp_World_worthOf_2, Option.toList_some, Option.toList_none, List.cons_append, List.nil_append, am_bi0, am_bi1, am_bft, true_and, reduceCtorEq, or_false, false_or, or_true, true_or, am_gd, am_incn, am_lk_nat, Int.toNat_natCast, ↓reduceIte, Int.reduceEq]
    rw [if_pos (by omega)]
theorem c_trade {d L kp : Nat} {h : Nat → Nat → Int} {i e : Int} (hd : 4 ≤ d) (hv : v_ok (am_wv h 2)) : am_An L 41 (a_trade (am_wv h 2) i e) h (fun Q => am_Wp d 153 0 [some (Sum.inr (Sum.inr 1)), some (Sum.inl i), some (Sum.inl e), none, none, none, none, none, none] [] (am_SH L, h, am_RR kp) Q) := by
  have hQ := wv_Q hv
  have hP := wv_P hv
  have hD := wv_D hv
  intro Q hq
  show am_Wp d 153 0 [some (Sum.inr (Sum.inr 1)), some (Sum.inl i), some (Sum.inl e), none, none, none, none, none, none] [] (am_SH L, h, am_RR kp) Q
  have h3 := hq h kp am_keep_r
  unfold a_trade at h3
  rw [bq_KO_trade_0 (by omega), sp_KO_areTwo (by omega)]
  simp only [Option.toList_some, Option.toList_none, List.cons_append, List.nil_append]
  rw [bq_KO_trade_6 (by omega)]
  cases hi : v_two (am_wv h 2) i e with
  | false =>
    rw [if_pos hi] at h3
    rw [if_pos am_bif, sp_KO_refuse (by omega) (by omega) (by omega)]
    simp only [Option.toList_some, Option.toList_none, List.cons_append, List.nil_append]
    rw [bq_KO_trade_14]
    exact h3
  | true =>
    rw [hi, if_neg (by simp)] at h3
    have b1 := v_purse_le hv i
    have b2 := v_purse_le hv e
    rw [if_neg am_b0, sp_World_purseOf_2 (by omega) hv]
    simp only [Option.toList_some, Option.toList_none, List.cons_append, List.nil_append]
    rw [bq_KO_trade_23 (by omega), sp_World_purseOf_2 (by omega) hv]
    simp only [Option.toList_some, Option.toList_none, List.cons_append, List.nil_append]
    rw [bq_KO_trade_31, am_sub_ok (by omega) (by omega), an_abs_ok (by omega) (by omega)]
    exact (lp_KO_trade (none, none) hd hv).mpr h3
theorem lp_M_trade_i {d L kp : Nat} {h : Nat → Nat → Int} {Q : Option am_V → am_H → Prop} {a b : Int} {j : Nat} {s : Int × Int} (x : Option am_V × Option am_V × Option am_V × Option am_V) {E : Prop} (hd : 3 ≤ d) (hv : v_ok (am_mv h)) (h0a : 0 ≤ a) (h1a : a < h 70 0) (h0b : 0 ≤ b) (h1b : b < h 70 0) (hj : (j : Int) < h 70 6) (hE : ∀ x : Option am_V × Option am_V × Option am_V × Option am_V, am_Wp d 274 49 [some (Sum.inr (Sum.inr 70)), some (Sum.inl (a)), some (Sum.inl (b)), some (Sum.inl (v_purse (am_mv h) a)), some (Sum.inl (v_purse (am_mv h) b)), some (Sum.inl ((v_tr1 (am_mv h) a b j (h 70 6).toNat s).2)), some (Sum.inl ((v_tr1 (am_mv h) a b j (h 70 6).toNat s).1)), some (Sum.inl (((j + 1 : Nat) : Int))), some (Sum.inl ((((h 70 6).toNat : Nat) : Int))), x.1, x.2.1, x.2.2.1, x.2.2.2] [] (am_SH L, h, am_RR kp) Q = E) : am_Wp d 274 61 [some (Sum.inr (Sum.inr 70)), some (Sum.inl (a)), some (Sum.inl (b)), some (Sum.inl (v_purse (am_mv h) a)), some (Sum.inl (v_purse (am_mv h) b)), some (Sum.inl ((s).2)), some (Sum.inl ((s).1)), some (Sum.inl ((j : Int))), some (Sum.inl (0)), x.1, x.2.1, x.2.2.1, x.2.2.2] [] (am_SH L, h, am_RR kp) Q = E := by
  have hQ := mv_Q hv
  have hP := mv_P hv
  have hD := mv_D hv
  refine am_dn_fr (J := Option am_V × Option am_V × Option am_V × Option am_V) (a := 0) (n := (h 70 6).toNat) (fun k x => am_Wp d 274 61 [some (Sum.inr (Sum.inr 70)), some (Sum.inl (a)), some (Sum.inl (b)), some (Sum.inl (v_purse (am_mv h) a)), some (Sum.inl (v_purse (am_mv h) b)), some (Sum.inl ((v_tr1 (am_mv h) a b j k s).2)), some (Sum.inl ((v_tr1 (am_mv h) a b j k s).1)), some (Sum.inl ((j : Int))), some (Sum.inl ((k : Int))), x.1, x.2.1, x.2.2.1, x.2.2.2] [] (am_SH L, h, am_RR kp) Q) E (by omega) (fun k _ hk ih x => ?_) (fun x => ?_) x
  · have ih2 := fun x => ih x
    rw [v_tr1_s] at ih2
    clear ih
    have b1 := v_purse_le hv a
    have b2 := v_purse_le hv b
    have b3 := mv_w hv j (by omega)
    have b4 := mv_w hv k (by omega)
    have b5 := (mv_p hv j (by omega)).2.2.1
    have b6 := (mv_p hv k (by omega)).2.2.1
    have et : am_add (am_sub (am_add (v_purse (am_mv h) a) (am_sub (v_worth (am_mv h) (k : Int)) (v_worth (am_mv h) (j : Int)))) (v_purse (am_mv h) b)) (am_sub (v_worth (am_mv h) (k : Int)) (v_worth (am_mv h) (j : Int))) = v_purse (am_mv h) a - v_purse (am_mv h) b - 2 * v_worth (am_mv h) (j : Int) + 2 * v_worth (am_mv h) (k : Int) := by
      rw [am_sub_ok (x := v_worth (am_mv h) (k : Int)) (by omega) (by omega), am_add_ok (x := v_purse (am_mv h) a) (by omega) (by omega), am_sub_ok (by omega) (by omega), am_add_ok (by omega) (by omega)]
      omega
    have ea : am_abs (v_purse (am_mv h) a - v_purse (am_mv h) b - 2 * v_worth (am_mv h) (j : Int) + 2 * v_worth (am_mv h) (k : Int)) = v_tap (am_mv h) a b j k := an_abs_ok (by omega) (by omega)
    have e100 : am_add (am_mul 100 (j : Int)) (k : Int) = 100 * (j : Int) + (k : Int) := by rw [am_mul_ok (by omega) (by omega), am_add_ok (by omega) (by omega)]
    have ih3 : ∀ x1 x2 x3 x4 : Option am_V, am_Wp d 274 61 [some (Sum.inr (Sum.inr 70)), some (Sum.inl (a)), some (Sum.inl (b)), some (Sum.inl (v_purse (am_mv h) a)), some (Sum.inl (v_purse (am_mv h) b)), some (Sum.inl ((if v_tcan (am_mv h) a b j k = true ∧ v_tap (am_mv h) a b j k < (v_tr1 (am_mv h) a b j k s).2 then (100 * (j : Int) + (k : Int), v_tap (am_mv h) a b j k) else v_tr1 (am_mv h) a b j k s).2)), some (Sum.inl ((if v_tcan (am_mv h) a b j k = true ∧ v_tap (am_mv h) a b j k < (v_tr1 (am_mv h) a b j k s).2 then (100 * (j : Int) + (k : Int), v_tap (am_mv h) a b j k) else v_tr1 (am_mv h) a b j k s).1)), some (Sum.inl ((j : Int))), some (Sum.inl (((k + 1 : Nat) : Int))), (x1, x2, x3, x4).1, (x1, x2, x3, x4).2.1, (x1, x2, x3, x4).2.2.1, (x1, x2, x3, x4).2.2.2] [] (am_SH L, h, am_RR kp) Q = E := fun x1 x2 x3 x4 => ih2 (x1, x2, x3, x4)
    have r151 : ∀ (x1 x2 x3 x4 : Option am_V) (c : Bool), c = v_tcan (am_mv h) a b j k → am_Wp d 274 151 [some (Sum.inr (Sum.inr 70)), some (Sum.inl (a)), some (Sum.inl (b)), some (Sum.inl (v_purse (am_mv h) a)), some (Sum.inl (v_purse (am_mv h) b)), some (Sum.inl ((v_tr1 (am_mv h) a b j k s).2)), some (Sum.inl ((v_tr1 (am_mv h) a b j k s).1)), some (Sum.inl ((j : Int))), some (Sum.inl ((k : Int))), x1, x2, x3, x4] [Sum.inl (am_bi c)] (am_SH L, h, am_RR kp) Q = E := fun x1 x2 x3 x4 c hc => by
      rw [bq_M_trade_151 (by omega), sp_M_worthOf (by omega) hv (by omega) (by omega)]
      simp only [Option.toList_some, Option.toList_none, List.cons_append, List.nil_append]
      rw [bq_M_trade_159 (by omega), sp_M_worthOf (by omega) hv (by omega) (by omega)]
      simp only [Option.toList_some, Option.toList_none, List.cons_append, List.nil_append]
      rw [bq_M_trade_165 (by omega), et, sp_M_plainly (by omega) (by omega), ea]
      simp only [Option.toList_some, Option.toList_none, List.cons_append, List.nil_append]
      simp only [bq_M_trade_181, bq_M_trade_206, bq_M_trade_208, bq_M_trade_227, bq_M_trade_229]
      rw [am_incn (by omega), e100]
      rw [← hc] at ih3
      cases c with
      | false =>
        rw [if_pos am_bif, if_pos am_bif]
        simp only [reduceCtorEq, false_and, ↓reduceIte] at ih3
        exact ih3 _ _ _ _
      | true =>
        rw [if_neg am_b0, if_neg am_b0, if_neg am_b0]
        by_cases q : v_tap (am_mv h) a b j k < (v_tr1 (am_mv h) a b j k s).2
        · simp only [q, and_self, ↓reduceIte] at ih3
          rw [if_neg (by omega), if_neg (by omega)]
          exact ih3 _ _ _ _
        · simp only [q, and_false, ↓reduceIte] at ih3
          rw [if_pos (by omega), if_pos (by omega)]
          exact ih3 _ _ _ _
    have r150 : ∀ (x1 x2 x3 x4 : Option am_V), v_tcan (am_mv h) a b j k = false → am_Wp d 274 150 [some (Sum.inr (Sum.inr 70)), some (Sum.inl (a)), some (Sum.inl (b)), some (Sum.inl (v_purse (am_mv h) a)), some (Sum.inl (v_purse (am_mv h) b)), some (Sum.inl ((v_tr1 (am_mv h) a b j k s).2)), some (Sum.inl ((v_tr1 (am_mv h) a b j k s).1)), some (Sum.inl ((j : Int))), some (Sum.inl ((k : Int))), x1, x2, x3, x4] [] (am_SH L, h, am_RR kp) Q = E := fun x1 x2 x3 x4 hc => by
      rw [bq_M_trade_150]
      exact r151 x1 x2 x3 x4 false hc.symm
    have et : v_tcan (am_mv h) a b j k = ((decide (h 76 j = a) && !decide (h 75 j = b) && v_take (am_mv h) (j : Int) b) && (decide (h 76 k = b) && !decide (h 75 k = a) && v_take (am_mv h) (k : Int) a)) := by
      unfold v_tcan v_chg
      rw [am_lk_nat (by omega), am_lk_nat (by omega), am_lk_nat (by omega), am_lk_nat (by omega)]
    refine (bq_M_trade_61).trans ?_
    rw [if_neg (by omega), am_gd (by omega) (by omega), am_gd (by omega) (by omega), Int.toNat_natCast, Int.toNat_natCast]
    simp only [bq_M_trade_96]
    have r97 : v_tcan (am_mv h) a b j k = false → am_Wp d 274 97 [some (Sum.inr (Sum.inr 70)), some (Sum.inl (a)), some (Sum.inl (b)), some (Sum.inl (v_purse (am_mv h) a)), some (Sum.inl (v_purse (am_mv h) b)), some (Sum.inl ((v_tr1 (am_mv h) a b j k s).2)), some (Sum.inl ((v_tr1 (am_mv h) a b j k s).1)), some (Sum.inl ((j : Int))), some (Sum.inl ((k : Int))), x.1, x.2.1, x.2.2.1, x.2.2.2] [Sum.inl 0] (am_SH L, h, am_RR kp) Q = E := fun hc => by
      rw [bq_M_trade_97 (by omega), if_pos rfl]
      exact r150 _ _ _ _ hc
    by_cases q1 : h 76 j = a
    · by_cases q2 : h 76 k = b
      · rw [if_pos q1, if_pos q2, bq_M_trade_97 (by omega), if_neg (by omega), sp_M_canGo (by omega) hv (by omega) (by omega) h0b h1b]
        simp only [Option.toList_some, Option.toList_none, List.cons_append, List.nil_append]
        rw [bq_M_trade_111 (by omega)]
        cases q3 : v_take (am_mv h) (j : Int) b with
        | false =>
          rw [if_pos am_bif]
          exact r150 _ _ _ _ (by rw [et, q3]; simp)
        | true =>
          rw [if_neg am_b0, sp_M_canGo (by omega) hv (by omega) (by omega) h0a h1a]
          simp only [Option.toList_some, Option.toList_none, List.cons_append, List.nil_append]
          rw [bq_M_trade_121]
          cases q4 : v_take (am_mv h) (k : Int) a with
          | false =>
            rw [if_pos am_bif]
            exact r150 _ _ _ _ (by rw [et, q4]; simp)
          | true =>
            rw [if_neg am_b0, am_gd (by omega) (by omega), am_gd (by omega) (by omega), Int.toNat_natCast, Int.toNat_natCast]
            by_cases q5 : h 75 j = b
            · rw [if_pos q5]
              exact r150 _ _ _ _ (by rw [et, decide_eq_true q5]; simp)
            · by_cases q6 : h 75 k = a
              · rw [if_neg q5, if_pos q6]
                exact r150 _ _ _ _ (by rw [et, decide_eq_true q6]; simp)
              · rw [if_neg q5, if_neg q6]
                exact r151 _ _ _ _ true (by rw [et, decide_eq_true q1, decide_eq_true q2, decide_eq_false q5, decide_eq_false q6, q3, q4]; rfl)
      · rw [if_pos q1, if_neg q2]
        exact r97 (by rw [et, decide_eq_false q2]; simp)
    · rw [if_neg q1]
      exact r97 (by rw [et, decide_eq_false q1]; simp)
  · refine (bq_M_trade_61).trans ?_
    rw [if_pos (by omega), am_incn (by omega)]
    exact hE x
theorem lp_M_trade {d L kp : Nat} {h : Nat → Nat → Int} {Q : Option am_V → am_H → Prop} {a b : Int} (x : Option am_V × Option am_V × Option am_V × Option am_V × Option am_V) (hd : 3 ≤ d) (hv : v_ok (am_mv h)) (h0a : 0 ≤ a) (h1a : a < h 70 0) (h0b : 0 ≤ b) (h1b : b < h 70 0) : am_Wp d 274 49 [some (Sum.inr (Sum.inr 70)), some (Sum.inl (a)), some (Sum.inl (b)), some (Sum.inl (v_purse (am_mv h) a)), some (Sum.inl (v_purse (am_mv h) b)), some (Sum.inl ((v_tr2 (am_mv h) a b 0).2)), some (Sum.inl ((v_tr2 (am_mv h) a b 0).1)), some (Sum.inl (0)), x.1, x.2.1, x.2.2.1, x.2.2.2.1, x.2.2.2.2] [] (am_SH L, h, am_RR kp) Q = Q (some (Sum.inl ((v_tr2 (am_mv h) a b (h 70 6).toNat).1))) (am_SH L, h, am_RR kp) := by
  have hQ := mv_Q hv
  have hP := mv_P hv
  have hD := mv_D hv
  refine am_dn_fr (J := Option am_V × Option am_V × Option am_V × Option am_V × Option am_V) (a := 0) (n := (h 70 6).toNat) (fun j x => am_Wp d 274 49 [some (Sum.inr (Sum.inr 70)), some (Sum.inl (a)), some (Sum.inl (b)), some (Sum.inl (v_purse (am_mv h) a)), some (Sum.inl (v_purse (am_mv h) b)), some (Sum.inl ((v_tr2 (am_mv h) a b j).2)), some (Sum.inl ((v_tr2 (am_mv h) a b j).1)), some (Sum.inl ((j : Int))), x.1, x.2.1, x.2.2.1, x.2.2.2.1, x.2.2.2.2] [] (am_SH L, h, am_RR kp) Q) (Q (some (Sum.inl ((v_tr2 (am_mv h) a b (h 70 6).toNat).1))) (am_SH L, h, am_RR kp)) (by omega) (fun j _ hj ih x => ?_) (fun x => ?_) x
  · refine (bq_M_trade_49).trans ?_
    rw [if_neg (by omega)]
    exact lp_M_trade_i (s := v_tr2 (am_mv h) a b j) _ hd hv h0a h1a h0b h1b (by omega) (fun y => ih (some (Sum.inl (((h 70 6).toNat : Nat) : Int)), y))
  · refine (bq_M_trade_49).trans ?_
    rw [if_pos (by omega)]
theorem m_trade {d L kp : Nat} {h : Nat → Nat → Int} {i e : Int} (hd : 3 ≤ d) (hv : v_ok (am_mv h)) : am_An L 81 (a_trade (am_mv h) i e) h (fun Q => am_Wp d 274 0 [some (Sum.inr (Sum.inr 70)), some (Sum.inl i), some (Sum.inl e), none, none, none, none, none, none, none, none, none, none] [] (am_SH L, h, am_RR kp) Q) := by
  have hQ := mv_Q hv
  have hP := mv_P hv
  have hD := mv_D hv
  intro Q hq
  have hq2 : ∀ g' kq, am_keep (am_up h 70 13 0) g' → Q (some (a_trade (am_mv h) i e).1) (am_SH L, am_bump 81 (a_trade (am_mv h) i e).2 g', am_RR kq) := fun g' kq hk => hq g' kq (am_keep_t (am_keep_up rfl am_keep_r) hk)
  clear hq
  have hv2 : v_ok (am_mv (am_up h 70 13 0)) := hv
  try rw [show am_mv h = am_mv (am_up h 70 13 0) from rfl] at hq2
  show am_Wp d 274 0 [some (Sum.inr (Sum.inr 70)), some (Sum.inl i), some (Sum.inl e), none, none, none, none, none, none, none, none, none, none] [] (am_SH L, h, am_RR kp) Q
  refine (show _ = _ from bq_M_trade_0 (by omega)).mpr ?_
  clear hv hQ hP hD
  generalize am_up h 70 13 0 = g at hq2 hv2 ⊢
  have hv := hv2
  have hQ := mv_Q hv2
  have hP := mv_P hv
  have hD := mv_D hv
  have h3 := hq2 g kp am_keep_r
  unfold a_trade at h3
  rw [sp_M_areTwo (by omega) hv]
  simp only [Option.toList_some, Option.toList_none, List.cons_append, List.nil_append]
  rw [bq_M_trade_11 (by omega)]
  cases hi : v_two (am_mv g) i e with
  | false =>
    rw [if_pos hi] at h3
    rw [if_pos am_bif, sp_M_refuse (by omega) (by omega)]
    simp only [Option.toList_some, Option.toList_none, List.cons_append, List.nil_append]
    rw [bq_M_trade_19]
    exact h3
  | true =>
    have hi2 := v_two_iff.1 hi
    dsimp only [vP, vQ, vD, vK, vF, vS, vU, vO, vH, vN, vE, vG, vT, am_mv, am_wv] at hi2
    rw [hi, if_neg (by simp)] at h3
    have b1 := v_purse_le hv i
    have b2 := v_purse_le hv e
    rw [if_neg am_b0, sp_M_purseOf (by omega) hv]
    simp only [Option.toList_some, Option.toList_none, List.cons_append, List.nil_append]
    rw [bq_M_trade_25 (by omega), sp_M_purseOf (by omega) hv]
    simp only [Option.toList_some, Option.toList_none, List.cons_append, List.nil_append]
    rw [bq_M_trade_31 (by omega), am_sub_ok (by omega) (by omega), sp_M_plainly (by omega) (by omega), an_abs_ok (by omega) (by omega)]
    simp only [Option.toList_some, Option.toList_none, List.cons_append, List.nil_append]
    rw [bq_M_trade_40]
    exact (lp_M_trade (none, none, none, none, none) hd hv hi2.1.1 hi2.1.2 hi2.2.1.1 hi2.2.1.2).mpr h3