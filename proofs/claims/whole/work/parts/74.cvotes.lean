/-! SWINGS, POWER, CORNER of the class -/
theorem am_sumb_tr {n m : Nat} {g : Nat → Int} (hnm : n ≤ m) (hg : ∀ j, n ≤ j → j < m → g j = 0) : am_sumb m g = am_sumb n g := by
  induction m with
  | zero => rw [show n = 0 by omega]
  | succ m ih =>
    by_cases q : n = m + 1
    · rw [q]
    · rw [am_sumb_s, ih (by omega) (fun j h1 h2 => hg j h1 (by omega)), hg m (by omega) (by omega), Int.add_zero]
theorem an_dif_0 {x y : Nat} : an_dif x y = 0 ↔ ∀ i, Nat.testBit x i = true → Nat.testBit y i = true := by
  constructor
  · intro h i hi
    have h1 := congrArg (fun z => Nat.testBit z i) h
    simp only [an_dif_tb, hi, Bool.true_and, Nat.zero_testBit] at h1
    cases h2 : Nat.testBit y i with
    | true => rfl
    | false => rw [h2] at h1; cases h1
  · intro h
    apply Nat.eq_of_testBit_eq
    intro i
    rw [an_dif_tb, Nat.zero_testBit]
    cases h1 : Nat.testBit x i with
    | false => rfl
    | true => rw [h i h1]; rfl
theorem an_dif_sub {x y : Nat} (h : an_dif x y = 0) : x ≤ y := by
  have h1 := an_dif_0.1 h
  have h2 : x = x &&& y := by
    apply Nat.eq_of_testBit_eq
    intro i
    rw [Nat.testBit_and]
    cases h3 : Nat.testBit x i with
    | false => rfl
    | true => rw [h1 i h3]; rfl
  rw [h2]
  exact Nat.and_le_right
def v_vot (V : am_Vw) (e : Int) (o : Nat) : Nat := am_bits (vP V).toNat (fun p => !decide (p = o) && decide (0 < v_owes V e (p : Int)))
theorem v_vot_tb {V : am_Vw} {e : Int} {o i : Nat} : Nat.testBit (v_vot V e o) i = (decide (i < (vP V).toNat) && (!decide (i = o) && decide (0 < v_owes V e (i : Int)))) := am_bits_tb
theorem v_vh_tb {V : am_Vw} (hv : v_ok V) {e : Int} {i : Nat} : Nat.testBit (v_vh V e (vQ V).toNat) i = decide (0 < v_owes V e (i : Int)) := by
  have hQ := v_ok_Q hv
  have h0 := (v_owes_le hv e (i : Int)).1
  cases h1 : Nat.testBit (v_vh V e (vQ V).toNat) i with
  | true =>
    obtain ⟨p, hp, h2⟩ := am_orb_tb.1 h1
    have h3 := v_ok_p hv p (by omega)
    have h4 := v_ok_q hv p (by omega)
    refine (decide_eq_true ?_).symm
    by_cases q : vT V p = 0 ∧ vO V p = e
    · rw [if_pos q, Nat.testBit_two_pow, decide_eq_true_eq] at h2
      have h5 := am_sumb_mono (n := (vQ V).toNat) (f := fun k => if k = p then 1 else 0) (g := fun p => if vT V p = 0 ∧ vO V p = e ∧ vH V p = (i : Int) then vN V p else 0) (fun k hk => by
        have h6 := v_ok_p hv k (by omega)
        show (if k = p then (1 : Int) else 0) ≤ (if vT V k = 0 ∧ vO V k = e ∧ vH V k = (i : Int) then vN V k else 0)
        by_cases q2 : k = p
        · rw [if_pos q2, q2, if_pos ⟨q.1, q.2, by omega⟩]; exact h4.2.2
        · rw [if_neg q2]
          split <;> omega)
      rw [am_sumb_one hp] at h5
      unfold v_owes
      omega
    · rw [if_neg q, Nat.zero_testBit] at h2; cases h2
  | false =>
    refine (decide_eq_false (fun w => ?_)).symm
    have h2 : v_owes V e (i : Int) = 0 := by
      unfold v_owes
      refine (am_sumb_eq (f := fun _ => 0) (fun p hp => if_neg (fun q => ?_))).trans am_sumb_0
      have h3 := v_ok_p hv p (by omega)
      have h4 : Nat.testBit (v_vh V e (vQ V).toNat) i = true := am_orb_tb.2 ⟨p, hp, by rw [if_pos ⟨q.1, q.2.1⟩, Nat.testBit_two_pow, decide_eq_true_eq]; have := q.2.2; omega⟩
      rw [h4] at h1; cases h1
    omega
def v_vs (V : am_Vw) (e : Int) (x n : Nat) : Int := am_sumb n (fun j => bif Nat.testBit x j then v_owes V e (j : Int) else 0)
theorem v_vs_s {V : am_Vw} {e : Int} {x n : Nat} : v_vs V e x (n + 1) = v_vs V e x n + (bif Nat.testBit x n then v_owes V e (n : Int) else 0) := rfl
theorem v_vs_le {V : am_Vw} (hv : v_ok V) {e : Int} {x n : Nat} (hn : n ≤ 7) : 0 ≤ v_vs V e x n ∧ v_vs V e x n ≤ 4480 := v_ss_le (f := fun j => v_owes V e (j : Int)) hn (fun j _ => v_owes_le hv e (j : Int))
def v_tn (V : am_Vw) (e : Int) (o x : Nat) : Bool := decide (an_dif x (v_vot V e o) = 0) && decide (2 * v_vs V e x (vP V).toNat ≤ v_all V e) && decide (v_all V e < 2 * (v_vs V e x (vP V).toNat + v_owes V e (o : Int)))
theorem v_ss_vs {V : am_Vw} (hv : v_ok V) {e : Int} {x : Nat} {f : Nat → Int} (hf : ∀ j, j < 7 → f j = v_owes V e (j : Int)) : v_ss f x 7 = v_vs V e x (vP V).toNat := by
  have hP := v_ok_P hv
  unfold v_ss
  rw [am_sumb_eq (f := fun j => bif Nat.testBit x j then v_owes V e (j : Int) else 0) (fun j hj => by rw [hf j hj])]
  refine am_sumb_tr (by omega) (fun j h1 h2 => ?_)
  rw [v_owes_hi hv (by omega)]
  cases Nat.testBit x j <;> rfl
theorem v_ss_or {f : Nat → Int} {x o : Nat} (ho : o < 7) (hx : Nat.testBit x o = false) : v_ss f (x ||| 2 ^ o) 7 = v_ss f x 7 + f o := by
  have h1 := am_sumb_one (n := 7) (i := o) (x := f o) ho
  unfold v_ss
  rw [← h1, ← am_sumb_add]
  refine am_sumb_eq (fun j _ => ?_)
  rw [Nat.testBit_or, Nat.testBit_two_pow]
  by_cases q : o = j
  · rw [decide_eq_true q, if_pos q.symm, ← q, hx, Bool.or_true]
    show _ = 0 + _
    rw [Int.zero_add]; rfl
  · rw [decide_eq_false q, if_neg (fun w => q w.symm), Bool.or_false, Int.add_zero]
theorem v_tn_big {V : am_Vw} {e : Int} {o x : Nat} (hx : 2 ^ (vP V).toNat ≤ x) : v_tn V e o x = false := by
  unfold v_tn
  have h1 : ¬ an_dif x (v_vot V e o) = 0 := fun w => by
    have h2 := an_dif_sub w
    have h3 : v_vot V e o < 2 ^ (vP V).toNat := am_bits_lt
    omega
  rw [decide_eq_false h1]; rfl
def am_vo (h : Nat → Nat → Int) (e : Int) : Prop := (∀ j, j < 7 → h 62 j = v_owes (am_wv h 2) e (j : Int)) ∧ h 61 1 = ((v_vh (am_wv h 2) e (h 2 1).toNat : Nat) : Int) ∧ h 61 2 = am_pc (v_vh (am_wv h 2) e (h 2 1).toNat) ∧ h 61 3 = v_all (am_wv h 2) e
theorem sp_Votes_gatherI {d L kp : Nat} {h : Nat → Nat → Int} {Q : Option am_V → am_H → Prop} {e : Int} (hd : 2 ≤ d) (hv : v_ok (am_wv h 2)) (hq : ∀ g, am_keep h g → am_wv g 2 = am_wv h 2 → am_vo g e → Q none (am_SH L, g, am_RR kp)) : am_Wp d 111 0 [some (Sum.inr (Sum.inr 61)), some (Sum.inr (Sum.inr 2)), some (Sum.inl e), none] [] (am_SH L, h, am_RR kp) Q := by
  rw [sp_Votes_gather hd hv]
  refine hq _ (am_keep_vot am_keep_r) rfl ⟨fun j hj => ?_, rfl, rfl, v_va_all hv e⟩
  have h1 : (if j < 7 then v_vt (am_wv h 2) e (h 2 1).toNat j else h 62 j) = v_owes (am_wv h 2) e (j : Int) := by
    rw [if_pos hj]
    exact v_vt_owes
  exact h1
theorem sp_Votes_turns {d L kp : Nat} {h : Nat → Nat → Int} {Q : Option am_V → am_H → Prop} {e : Int} {x o : Nat} (hd : 2 ≤ d) (hv : v_ok (am_wv h 2)) (hg : am_vo h e) (hx : x < 128) (ho : (o : Int) < h 2 0) : am_Wp d 114 0 [some (Sum.inr (Sum.inr 61)), some (Sum.inl (x : Int)), some (Sum.inl (o : Int)), none] [] (am_SH L, h, am_RR kp) Q = Q (some (Sum.inl (am_bi (v_tn (am_wv h 2) e o x)))) (am_SH L, h, am_RR kp) := by
  have hQ := wv_Q hv
  have hP := wv_P hv
  have hD := wv_D hv
  obtain ⟨g1, g2, g3, g4⟩ := hg
  have lv : v_vh (am_wv h 2) e (h 2 1).toNat < 2 ^ 7 := v_vh_lt hv (by omega) e
  have hb : ∀ j, j < 7 → 0 ≤ h 62 j ∧ h 62 j ≤ 640 := fun j hj => by rw [g1 j hj]; exact v_owes_le hv e (j : Int)
  have hvs := v_ss_vs hv (x := x) g1
  have hp : 2 ^ o < 2 ^ 7 := Nat.pow_lt_pow_right (by omega) (by omega)
  have f54 : ∀ (j0 j1 j2 j3 : Option am_V), am_Wp d 114 53 [j0, j1, j2, j3] [] (am_SH L, h, am_RR kp) Q = Q (some (Sum.inl (am_bi (false)))) (am_SH L, h, am_RR kp) := fun j0 j1 j2 j3 => by
    rw [bq_Votes_turns_53, bq_Votes_turns_54]
    simp only [am_bi, true_or, true_and]
  rw [bq_Votes_turns_0 (by omega), g2, an_dif_ok (by omega) (by omega)]
  have key : v_tn (am_wv h 2) e o x = ((decide (an_dif x (v_vh (am_wv h 2) e (h 2 1).toNat) = 0) && !Nat.testBit x o) && (decide (h 61 3 < 2 * v_ss (h 62) (x ||| 2 ^ o) 7) && !decide (h 61 3 < 2 * v_ss (h 62) x 7))) := by
    have e1 : decide (an_dif x (v_vot (am_wv h 2) e o) = 0) = (decide (an_dif x (v_vh (am_wv h 2) e (h 2 1).toNat) = 0) && !Nat.testBit x o) := by
      rw [Bool.eq_iff_iff, Bool.and_eq_true, decide_eq_true_eq, decide_eq_true_eq, an_dif_0, an_dif_0]
      constructor
      · intro w
        refine ⟨fun i hi => ?_, ?_⟩
        · have h1 := w i hi
          rw [v_vot_tb, Bool.and_eq_true, Bool.and_eq_true] at h1
          rw [show (h 2 1).toNat = (vQ (am_wv h 2)).toNat from rfl, v_vh_tb hv]
          exact h1.2.2
        · cases h2 : Nat.testBit x o with
          | false => rfl
          | true =>
            have h1 := w o h2
            rw [v_vot_tb, decide_eq_true (show o = o from rfl)] at h1
            simp at h1
      · rintro ⟨w1, w2⟩ i hi
        have h1 := w1 i hi
        rw [show (h 2 1).toNat = (vQ (am_wv h 2)).toNat from rfl, v_vh_tb hv, decide_eq_true_eq] at h1
        have h3 : i < (vP (am_wv h 2)).toNat := by
          by_cases q : vP (am_wv h 2) ≤ (i : Int)
          · rw [v_owes_hi hv q] at h1; omega
          · omega
        rw [v_vot_tb, decide_eq_true h3, decide_eq_true h1]
        by_cases q : i = o
        · rw [q] at hi; rw [hi] at w2; cases w2
        · rw [decide_eq_false q]; rfl
    unfold v_tn
    rw [e1, g4]
    cases hxo : Nat.testBit x o with
    | true => simp
    | false =>
      rw [v_ss_or (by omega) hxo, hvs, g1 o (by omega)]
      have e2 : decide (2 * v_vs (am_wv h 2) e x (vP (am_wv h 2)).toNat ≤ v_all (am_wv h 2) e) = !decide (v_all (am_wv h 2) e < 2 * v_vs (am_wv h 2) e x (vP (am_wv h 2)).toNat) := by
        by_cases q : v_all (am_wv h 2) e < 2 * v_vs (am_wv h 2) e x (vP (am_wv h 2)).toNat
        · rw [decide_eq_true q, decide_eq_false (by omega)]; rfl
        · rw [decide_eq_false q, decide_eq_true (by omega)]; rfl
      rw [e2, Bool.and_assoc, Bool.and_comm (!decide _) (decide _)]
  rw [key]
  by_cases q1 : an_dif x (v_vh (am_wv h 2) e (h 2 1).toNat) = 0
  · rw [if_pos (by omega), sp_has, am_has_tb (by omega) (by omega), decide_eq_true q1]
    simp only [Option.toList_some, Option.toList_none, List.cons_append, List.nil_append]
    rw [bq_Votes_turns_16, bq_Votes_turns_23]
    cases hxo : Nat.testBit x o with
    | true =>
      rw [if_neg am_b0, bq_Votes_turns_24 (by omega), if_pos rfl, f54]; rfl
    | false =>
      rw [if_pos am_bif, bq_Votes_turns_24 (by omega), if_neg (by omega), am_shl1 (by omega), am_or_ok (by omega) (by omega)]
      have lo : x ||| 2 ^ o < 2 ^ 7 := Nat.or_lt_two_pow (by omega) (by omega)
      rw [sp_Votes_decide (by omega) (by omega) hb]
      simp only [Option.toList_some, Option.toList_none, List.cons_append, List.nil_append]
      rw [bq_Votes_turns_38 (by omega)]
      cases decide (h 61 3 < 2 * v_ss (h 62) (x ||| 2 ^ o) 7) with
      | false => rw [if_pos am_bif, f54]; rfl
      | true =>
        rw [if_neg am_b0, sp_Votes_decide (by omega) (by omega) hb]
        simp only [Option.toList_some, Option.toList_none, List.cons_append, List.nil_append]
        rw [bq_Votes_turns_46]
        cases decide (h 61 3 < 2 * v_ss (h 62) x 7) with
        | false =>
          rw [if_pos am_bif, bq_Votes_turns_54]
          simp only [or_true, true_and]; rfl
        | true => rw [if_neg am_b0, f54]; rfl
  · rw [if_neg (by omega), decide_eq_false q1, bq_Votes_turns_23, bq_Votes_turns_24 (by omega), if_pos rfl, f54]; rfl
def v_sw (V : am_Vw) (e : Int) (o n : Nat) : Int := am_sumb n (fun x => bif v_tn V e o x then 1 else 0)
theorem v_sw_s {V : am_Vw} {e : Int} {o n : Nat} : v_sw V e o (n + 1) = v_sw V e o n + (bif v_tn V e o n then 1 else 0) := rfl
theorem v_sw_le {V : am_Vw} {e : Int} {o n : Nat} : 0 ≤ v_sw V e o n ∧ v_sw V e o n ≤ (n : Int) := by
  have h1 := am_sumb_le (n := n) (g := fun x => bif v_tn V e o x then 1 else 0) (A := 0) (B := 1) (fun k _ => by
    show 0 ≤ (bif v_tn V e o k then (1 : Int) else 0) ∧ (bif v_tn V e o k then (1 : Int) else 0) ≤ 1
    cases v_tn V e o k <;> exact ⟨by decide, by decide⟩)
  unfold v_sw
  omega
theorem v_sw_128 {V : am_Vw} (hv : v_ok V) {e : Int} {o : Nat} : v_sw V e o 128 = v_sw V e o (2 ^ (vP V).toNat) := by
  have hP := v_ok_P hv
  have h1 : 2 ^ (vP V).toNat ≤ 2 ^ 7 := Nat.pow_le_pow_right (by omega) (by omega)
  exact am_sumb_tr h1 (fun j h2 _ => by rw [v_tn_big h2]; rfl)
def a_swings (V : am_Vw) (a b : Int) : am_V × Nat := if (v_isP V a && v_isP V b) = false then (Sum.inl (-1), 1) else (Sum.inl (v_sw V a b.toNat (2 ^ (vP V).toNat)), 0)
theorem sp_Votes_setsDecidedBy {d L kp : Nat} {h : Nat → Nat → Int} {Q : Option am_V → am_H → Prop} {e : Int} {o : Nat} (hd : 3 ≤ d) (hv : v_ok (am_wv h 2)) (hg : am_vo h e) (ho : (o : Int) < h 2 0) : am_Wp d 113 0 [some (Sum.inr (Sum.inr 61)), some (Sum.inl (o : Int)), none, none] [] (am_SH L, h, am_RR kp) Q = Q (some (Sum.inl (v_sw (am_wv h 2) e o (2 ^ (h 2 0).toNat)))) (am_SH L, h, am_RR kp) := by
  rw [bq_Votes_setsDecidedBy_0]
  refine am_up_eq (n := 128) (fun k => am_Wp d 113 4 [some (Sum.inr (Sum.inr 61)), some (Sum.inl ((o : Int))), some (Sum.inl (v_sw (am_wv h 2) e o k)), some (Sum.inl ((k : Int)))] [] (am_SH L, h, am_RR kp) Q) _ (fun k hk => ?_) ?_
  · show am_Wp d 113 4 [some (Sum.inr (Sum.inr 61)), some (Sum.inl ((o : Int))), some (Sum.inl (v_sw (am_wv h 2) e o k)), some (Sum.inl ((k : Int)))] [] (am_SH L, h, am_RR kp) Q = am_Wp d 113 4 [some (Sum.inr (Sum.inr 61)), some (Sum.inl ((o : Int))), some (Sum.inl (v_sw (am_wv h 2) e o (k + 1))), some (Sum.inl (((k + 1 : Nat) : Int)))] [] (am_SH L, h, am_RR kp) Q
    have b1 := v_sw_le (V := am_wv h 2) (e := e) (o := o) (n := k)
    refine (bq_Votes_setsDecidedBy_4 (by omega)).trans ?_
    rw [if_neg (by omega), sp_Votes_turns (by omega) hv hg hk ho]
    simp only [Option.toList_some, Option.toList_none, List.cons_append, List.nil_append]
    rw [bq_Votes_setsDecidedBy_17, v_sw_s]
    simp only [bq_Votes_setsDecidedBy_23]
    rw [am_incn (by omega)]
    cases v_tn (am_wv h 2) e o k with
    | false => rw [if_pos am_bif, cond_false, Int.add_zero]
    | true => rw [if_neg am_b0, am_add_ok (by omega) (by omega)]; rfl
  · show am_Wp d 113 4 [some (Sum.inr (Sum.inr 61)), some (Sum.inl ((o : Int))), some (Sum.inl (v_sw (am_wv h 2) e o 128)), some (Sum.inl (((128 : Nat) : Int)))] [] (am_SH L, h, am_RR kp) Q = _
    refine (bq_Votes_setsDecidedBy_4 (by omega)).trans ?_
    rw [if_pos (by omega), v_sw_128 hv]
theorem c_swings {d L kp : Nat} {h : Nat → Nat → Int} {i e : Int} (hd : 4 ≤ d) (hv : v_ok (am_wv h 2)) : am_An L 41 (a_swings (am_wv h 2) i e) h (fun Q => am_Wp d 110 0 [some (Sum.inr (Sum.inr 1)), some (Sum.inl i), some (Sum.inl e)] [] (am_SH L, h, am_RR kp) Q) := by
  have hQ := wv_Q hv
  have hP := wv_P hv
  have hD := wv_D hv
  intro Q hq
  show am_Wp d 110 0 [some (Sum.inr (Sum.inr 1)), some (Sum.inl i), some (Sum.inl e)] [] (am_SH L, h, am_RR kp) Q
  have er : (v_isP (am_wv h 2) i && v_isP (am_wv h 2) e) = false → am_Wp d 110 22 [some (Sum.inr (Sum.inr 1)), some (Sum.inl (i)), some (Sum.inl (e))] [] (am_SH L, h, am_RR kp) Q := fun w => by
    have h3 := hq h kp am_keep_r
    unfold a_swings at h3
    rw [if_pos w] at h3
    rw [bq_KO_swings_22 (by omega), sp_KO_refuse (by omega) (by omega) (by omega)]
    simp only [Option.toList_some, Option.toList_none, List.cons_append, List.nil_append]
    rw [bq_KO_swings_27]
    exact h3
  rw [bq_KO_swings_0 (by omega), sp_World_isPerson_2]
  simp only [Option.toList_some, Option.toList_none, List.cons_append, List.nil_append]
  rw [bq_KO_swings_8 (by omega)]
  cases hi : v_isP (am_wv h 2) i with
  | false =>
    rw [if_pos am_bif]
    exact er (by rw [hi]; rfl)
  | true =>
    rw [if_neg am_b0, sp_World_isPerson_2]
    simp only [Option.toList_some, Option.toList_none, List.cons_append, List.nil_append]
    rw [bq_KO_swings_19 (by omega)]
    cases he : v_isP (am_wv h 2) e with
    | false =>
      rw [if_pos am_bif]
      exact er (by rw [hi, he]; rfl)
    | true =>
      clear er
      have hie : ¬ (v_isP (am_wv h 2) i && v_isP (am_wv h 2) e) = false := by rw [hi, he]; simp
      have hi2 := v_isP_iff.1 hi
      have he2 := v_isP_iff.1 he
      dsimp only [vP, vQ, vD, vK, vF, vS, vU, vO, vH, vN, vE, vG, vT, am_mv, am_wv] at hi2 he2
      obtain ⟨o, rfl⟩ := Int.eq_ofNat_of_zero_le he2.1
      rw [if_neg am_b0]
      refine sp_Votes_gatherI (by omega) hv (fun g hk hw hg => ?_)
      have hv2 : v_ok (am_wv g 2) := by rw [hw]; exact hv
      have ep : g 2 0 = h 2 0 := congrArg vP hw
      have h3 := hq g kp hk
      unfold a_swings at h3
      rw [if_neg hie, ← hw, Int.toNat_natCast] at h3
      simp only [Option.toList_some, Option.toList_none, List.cons_append, List.nil_append]
      rw [bq_KO_swings_40 (by omega), sp_Votes_setsDecidedBy (by omega) hv2 hg (by omega)]
      simp only [Option.toList_some, Option.toList_none, List.cons_append, List.nil_append]
      rw [bq_KO_swings_48]
      exact h3
def v_crf (V : am_Vw) (d : Nat) (s : Int × Int × Int) : Int × Int × Int := if 0 < v_all V (d : Int) ∧ (s.1 < 0 ∨ s.2.1 * v_all V (d : Int) < v_gr (fun j => v_owes V (d : Int) (j : Int)) (vP V).toNat * s.2.2) then ((d : Int), v_gr (fun j => v_owes V (d : Int) (j : Int)) (vP V).toNat, v_all V (d : Int)) else s
def v_cr (V : am_Vw) (n : Nat) : Int × Int × Int := am_for (fun d s => v_crf V d s) n (-9, 0, 1)
theorem v_cr_s {V : am_Vw} {n : Nat} : v_cr V (n + 1) = v_crf V n (v_cr V n) := by
  unfold v_cr
  exact am_for_s
def a_corner (V : am_Vw) : am_V × Nat := (Sum.inl (v_cr V (vP V).toNat).1, 0)
theorem v_gr_le {f : Nat → Int} {n : Nat} (hf : ∀ j, j < n → 0 ≤ f j ∧ f j ≤ 640) : 0 ≤ v_gr f n ∧ v_gr f n ≤ 640 := by
  induction n with
  | zero => exact ⟨(by decide : (0 : Int) ≤ 0), (by decide : (0 : Int) ≤ 640)⟩
  | succ n ih =>
    have h1 := ih (fun j hj => hf j (by omega))
    have h2 := hf n (by omega)
    rw [v_gr_s]
    unfold am_max
    split <;> omega
theorem v_gr_up {f : Nat → Int} {n j : Nat} (hj : j < n) : f j ≤ v_gr f n := by
  induction n with
  | zero => omega
  | succ n ih =>
    rw [v_gr_s]
    unfold am_max
    by_cases q : j = n
    · rw [q]; split <;> omega
    · have := ih (by omega); split <;> omega
theorem v_gr_tr {f : Nat → Int} {n m : Nat} (hnm : n ≤ m) (h0 : 0 ≤ v_gr f n) (hf : ∀ j, n ≤ j → j < m → f j = 0) : v_gr f m = v_gr f n := by
  induction m with
  | zero => rw [show n = 0 by omega]
  | succ m ih =>
    by_cases q : n = m + 1
    · rw [q]
    · rw [v_gr_s, ih (by omega) (fun j h1 h2 => hf j h1 (by omega)), hf m (by omega) (by omega)]
      unfold am_max
      rw [if_neg (by omega)]
theorem v_gr_e {f g : Nat → Int} {n : Nat} (hf : ∀ j, j < n → f j = g j) : v_gr f n = v_gr g n := by
  induction n with
  | zero => rfl
  | succ n ih => rw [v_gr_s, v_gr_s, ih (fun j hj => hf j (by omega)), hf n (by omega)]
theorem v_gr_pos {V : am_Vw} (hv : v_ok V) {e : Int} : 0 < v_gr (fun j => v_owes V e (j : Int)) (vP V).toNat ↔ 0 < v_all V e := by
  have hP := v_ok_P hv
  constructor
  · intro h
    refine Classical.byContradiction (fun hn => ?_)
    have h1 : ∀ j, j < (vP V).toNat → v_owes V e (j : Int) = 0 := fun j hj => by
      have h2 := am_sumb_mono (n := (vP V).toNat) (f := fun k => if k = j then v_owes V e (j : Int) else 0) (g := fun k => v_owes V e (k : Int)) (fun k hk => by
        show (if k = j then v_owes V e (j : Int) else 0) ≤ v_owes V e (k : Int)
        by_cases q : k = j
        · rw [if_pos q, q]; exact Int.le_refl _
        · rw [if_neg q]; exact (v_owes_le hv e (k : Int)).1)
      rw [am_sumb_one hj] at h2
      have h3 := (v_owes_le hv e (j : Int)).1
      have h4 : v_all V e = am_sumb (vP V).toNat (fun k => v_owes V e (k : Int)) := rfl
      omega
    have h5 := v_gr_tr (f := fun j => v_owes V e (j : Int)) (n := 0) (m := (vP V).toNat) (by omega) (show (0 : Int) ≤ 0 by decide) (fun j _ hj => h1 j hj)
    rw [h5] at h
    exact absurd h (show ¬ (0 : Int) < 0 by decide)
  · intro h
    refine Classical.byContradiction (fun hn => ?_)
    have h1 : v_all V e = 0 := by
      show am_sumb (vP V).toNat (fun k => v_owes V e (k : Int)) = 0
      refine (am_sumb_eq (f := fun _ => 0) (fun k hk => ?_)).trans am_sumb_0
      have h2 := v_gr_up (f := fun j => v_owes V e (j : Int)) hk
      have h3 := (v_owes_le hv e (k : Int)).1
      have h4 : v_owes V e (k : Int) ≤ v_gr (fun j => v_owes V e (j : Int)) (vP V).toNat := h2
      show v_owes V e (k : Int) = 0
      omega
    omega
/-- a debtor is told, or none: -9, 0, 1 -/
theorem v_cr_inv {V : am_Vw} (hv : v_ok V) {n : Nat} : ((v_cr V n).1 < 0 → (v_cr V n).2 = (0, 1)) ∧ (0 ≤ (v_cr V n).2.1 ∧ (v_cr V n).2.1 ≤ 640) ∧ (1 ≤ (v_cr V n).2.2 ∧ (v_cr V n).2.2 ≤ 640) := by
  induction n with
  | zero => exact ⟨fun _ => rfl, ⟨(by decide : (0 : Int) ≤ 0), (by decide : (0 : Int) ≤ 640)⟩, ⟨(by decide : (1 : Int) ≤ 1), (by decide : (1 : Int) ≤ 640)⟩⟩
  | succ n ih =>
    rw [v_cr_s]
    unfold v_crf
    by_cases q : 0 < v_all V (n : Int) ∧ ((v_cr V n).1 < 0 ∨ (v_cr V n).2.1 * v_all V (n : Int) < v_gr (fun j => v_owes V (n : Int) (j : Int)) (vP V).toNat * (v_cr V n).2.2)
    · rw [if_pos q]
      have h1 := v_gr_le (f := fun j => v_owes V (n : Int) (j : Int)) (n := (vP V).toNat) (fun j _ => v_owes_le hv (n : Int) (j : Int))
      have h2 := v_all_le hv (n : Int)
      exact ⟨fun w => by have w2 : (n : Int) < 0 := w; omega, h1, by show 1 ≤ v_all V (n : Int); omega, h2.2⟩
    · rw [if_neg q]; exact ih
theorem lp_KO_corner {d L kp : Nat} {h0 : Nat → Nat → Int} {V : am_Vw} {Q : Option am_V → am_H → Prop} (hd : 3 ≤ d) (hv : v_ok V) (hq : ∀ g, am_keep h0 g → Q (some (Sum.inl (v_cr V (vP V).toNat).1)) (am_SH L, g, am_RR kp)) (j : (Nat → Nat → Int) × Option am_V) (hj : am_keep h0 j.1 ∧ am_wv j.1 2 = V) : am_Wp d 118 10 [some (Sum.inr (Sum.inr 1)), some (Sum.inl ((v_cr V 0).1)), some (Sum.inl ((v_cr V 0).2.1)), some (Sum.inl ((v_cr V 0).2.2)), some (Sum.inl (0)), j.2] [] (am_SH L, j.1, am_RR kp) Q := by
  have hP := v_ok_P hv
  refine am_im_fr (J := (Nat → Nat → Int) × Option am_V) (a := 0) (n := (vP V).toNat) (fun _ j => am_keep h0 j.1 ∧ am_wv j.1 2 = V) (fun a j => am_Wp d 118 10 [some (Sum.inr (Sum.inr 1)), some (Sum.inl ((v_cr V a).1)), some (Sum.inl ((v_cr V a).2.1)), some (Sum.inl ((v_cr V a).2.2)), some (Sum.inl ((a : Int))), j.2] [] (am_SH L, j.1, am_RR kp) Q) (by omega) (fun a j _ ha hj ih => ?_) (fun j hj => ?_) j hj
  · obtain ⟨g, j2⟩ := j
    obtain ⟨h1, h2⟩ := hj
    have hp : g 2 0 = vP V := congrArg vP h2
    have hvg : v_ok (am_wv g 2) := by rw [h2]; exact hv
    show am_Wp d 118 10 [some (Sum.inr (Sum.inr 1)), some (Sum.inl ((v_cr V a).1)), some (Sum.inl ((v_cr V a).2.1)), some (Sum.inl ((v_cr V a).2.2)), some (Sum.inl ((a : Int))), j2] [] (am_SH L, g, am_RR kp) Q
    rw [bq_KO_corner_10 (by omega), sp_World_people_2]
    simp only [Option.toList_some, Option.toList_none, List.cons_append, List.nil_append]
    rw [bq_KO_corner_19 (by omega), hp, if_neg (by omega)]
    refine sp_Votes_gatherI (by omega) hvg (fun g2 k1 k2 k3 => ?_)
    obtain ⟨w1, w2, w3, w4⟩ := k3
    rw [k2, h2] at w1 w4
    simp only [Option.toList_some, Option.toList_none, List.cons_append, List.nil_append]
    rw [bq_KO_corner_35 (by omega), sp_Votes_greatest (by omega)]
    simp only [Option.toList_some, Option.toList_none, List.cons_append, List.nil_append]
    rw [bq_KO_corner_42 (by omega), sp_Votes_all]
    simp only [Option.toList_some, Option.toList_none, List.cons_append, List.nil_append]
    have eg : v_gr (g2 62) 7 = v_gr (fun j => v_owes V (a : Int) (j : Int)) (vP V).toNat := by
      rw [v_gr_e w1]
      exact v_gr_tr (by omega) (v_gr_le (fun j _ => v_owes_le hv (a : Int) (j : Int))).1 (fun j q1 q2 => v_owes_hi hv (by omega))
    rw [bq_KO_corner_56 (by omega), eg, w4, sp_Votes_all]
    simp only [Option.toList_some, Option.toList_none, List.cons_append, List.nil_append]
    rw [bq_KO_corner_73, w4]
    simp only [bq_KO_corner_74]
    rw [am_incn (by omega)]
    have hs := v_cr_s (V := V) (n := a)
    unfold v_crf at hs
    have i1 := v_cr_inv hv (n := a)
    have i2 := v_all_le hv (a : Int)
    have i3 := v_gr_le (f := fun j => v_owes V (a : Int) (j : Int)) (n := (vP V).toNat) (fun j _ => v_owes_le hv (a : Int) (j : Int))
    have i4 := v_gr_pos hv (e := (a : Int))
    have m1 := am_mul_ok (x := v_gr (fun j => v_owes V (a : Int) (j : Int)) (vP V).toNat) (y := (v_cr V a).2.2) (by have := Int.mul_nonneg i3.1 (show 0 ≤ (v_cr V a).2.2 by omega); omega) (by have := Int.mul_le_mul i3.2 i1.2.2.2 (by omega) (by omega); omega)
    have m2 := am_mul_ok (x := (v_cr V a).2.1) (y := v_all V (a : Int)) (by have := Int.mul_nonneg i1.2.1.1 i2.1; omega) (by have := Int.mul_le_mul i1.2.1.2 i2.2 (by omega) (by omega); omega)
    rw [m1, m2]
    have hiff : (0 < v_all V (a : Int) ∧ ((v_cr V a).1 < 0 ∨ (v_cr V a).2.1 * v_all V (a : Int) < v_gr (fun j => v_owes V (a : Int) (j : Int)) (vP V).toNat * (v_cr V a).2.2)) ↔ (v_cr V a).2.1 * v_all V (a : Int) < v_gr (fun j => v_owes V (a : Int) (j : Int)) (vP V).toNat * (v_cr V a).2.2 := by
      constructor
      · rintro ⟨c1, c2 | c2⟩
        · rw [i1.1 c2]
          show (0 : Int) * _ < _ * 1
          have := i4.2 c1
          omega
        · exact c2
      · intro c
        refine ⟨?_, Or.inr c⟩
        by_cases q : 0 < v_all V (a : Int)
        · exact q
        · have e0 : v_all V (a : Int) = 0 := by omega
          have e1 : ¬ 0 < v_gr (fun j => v_owes V (a : Int) (j : Int)) (vP V).toNat := fun w => q (i4.1 w)
          have e2 : v_gr (fun j => v_owes V (a : Int) (j : Int)) (vP V).toNat = 0 := by omega
          rw [e0, e2] at c
          omega
    by_cases q1 : (v_cr V a).2.1 * v_all V (a : Int) < v_gr (fun j => v_owes V (a : Int) (j : Int)) (vP V).toNat * (v_cr V a).2.2
    · rw [if_pos (hiff.2 q1)] at hs
      rw [if_neg (by omega)]
      have h9 := ih (g2, some (Sum.inl (v_gr (fun j => v_owes V (a : Int) (j : Int)) (vP V).toNat))) ⟨am_keep_t h1 k1, k2.trans h2⟩
      rw [hs] at h9
      exact h9
    · rw [if_neg (fun w => q1 (hiff.1 w))] at hs
      rw [if_pos (by omega)]
      have h9 := ih (g2, some (Sum.inl (v_gr (fun j => v_owes V (a : Int) (j : Int)) (vP V).toNat))) ⟨am_keep_t h1 k1, k2.trans h2⟩
      rw [hs] at h9
      exact h9
  · obtain ⟨g, j2⟩ := j
    obtain ⟨h1, h2⟩ := hj
    have hp : g 2 0 = vP V := congrArg vP h2
    show am_Wp d 118 10 [some (Sum.inr (Sum.inr 1)), some (Sum.inl ((v_cr V (vP V).toNat).1)), some (Sum.inl ((v_cr V (vP V).toNat).2.1)), some (Sum.inl ((v_cr V (vP V).toNat).2.2)), some (Sum.inl ((((vP V).toNat : Nat) : Int))), j2] [] (am_SH L, g, am_RR kp) Q
    rw [bq_KO_corner_10 (by omega), sp_World_people_2]
    simp only [Option.toList_some, Option.toList_none, List.cons_append, List.nil_append]
    rw [bq_KO_corner_19 (by omega), hp, if_pos (by omega)]
    exact hq g h1
theorem c_corner {d L kp : Nat} {h : Nat → Nat → Int} (hd : 3 ≤ d) (hv : v_ok (am_wv h 2)) : am_An L 41 (a_corner (am_wv h 2)) h (fun Q => am_Wp d 118 0 [some (Sum.inr (Sum.inr 1)), none, none, none, none, none] [] (am_SH L, h, am_RR kp) Q) := by
  have hQ := wv_Q hv
  have hP := wv_P hv
  have hD := wv_D hv
  intro Q hq
  show am_Wp d 118 0 [some (Sum.inr (Sum.inr 1)), none, none, none, none, none] [] (am_SH L, h, am_RR kp) Q
  rw [bq_KO_corner_0]
  exact lp_KO_corner (h0 := h) hd hv (fun g hk => hq g kp hk) (h, none) ⟨am_keep_r, rfl⟩