/-! THE CLASS'S STREET -/
def c_fr (h g : Nat → Nat → Int) : Prop := ∀ c j, ¬ (29 ≤ c ∧ c ≤ 39) → g c j = h c j
theorem sp_Letters_comes {d L kp : Nat} {h : Nat → Nat → Int} {Q : Option am_V → am_H → Prop} {n s : Nat} (hd : 8 ≤ d) (h96 : n ≤ 96) (hf : u_fit (h 28) n s) (h8 : ∀ j, 0 ≤ h 28 j ∧ h 28 j ≤ 255) (hv : v_ok (am_wv h 29)) (hq1 : ∀ g U, u_do (h 28) s (am_wv h 29) = some U → am_wv g 29 = U → c_fr h g → Q (some (Sum.inl 1)) (am_SH L, g, am_RR kp)) (hq2 : u_do (h 28) s (am_wv h 29) = none → Q (some (Sum.inl 0)) (am_SH L, h, am_RR kp)) : am_Wp d 25 0 [some (Sum.inr (Sum.inr 27)), some (Sum.inl (s : Int))] [] (am_SH L, h, am_RR kp) Q := by
  have hlt := u_fit_lt hf
  have hl3 := u_l_3 hf.1
  have hQ := wd_Q hv
  have hP := wd_P hv
  have a1 : am_add (s : Int) 1 = ((s + 1 : Nat) : Int) := am_incn (by omega)
  have a2 : am_add (s : Int) 2 = ((s + 2 : Nat) : Int) := by rw [am_add_ok (by omega) (by omega)]; omega
  have a3 : am_add (s : Int) 3 = ((s + 3 : Nat) : Int) := by rw [am_add_ok (by omega) (by omega)]; omega
  have a5 : am_add (s : Int) 5 = ((s + 5 : Nat) : Int) := by rw [am_add_ok (by omega) (by omega)]; omega
  have a7 : am_add (s : Int) 7 = ((s + 7 : Nat) : Int) := by rw [am_add_ok (by omega) (by omega)]; omega
  rw [bq_Letters_comes_0 (by omega), sp_at_28, am_lk_nat (by omega)]
  simp only [Option.toList_some, Option.toList_none, List.cons_append, List.nil_append]
  rw [bq_Letters_comes_8]
  unfold u_do at hq1 hq2
  rcases u_x_cases (h 28 s) with ⟨e, hx⟩ | ⟨e, hx⟩ | ⟨e, hx⟩ | ⟨e, hx⟩ | ⟨e, hx⟩ | ⟨-, hx⟩
  · rw [if_pos e] at hq1 hq2
    have hl := u_l_of (m := 3) hx rfl
    have d1 := u_dig hf (i := 1) (by omega) (by rw [u_t_of hx]; rfl)
    obtain ⟨a, ha⟩ := Int.eq_ofNat_of_zero_le d1.2.1
    rw [ha] at hq1 hq2
    rw [if_pos e, bq_Letters_comes_183 (by omega), a1, sp_Letters_digit (by omega) (by omega) (h8 _), ha]
    simp only [Option.toList_some, Option.toList_none, List.cons_append, List.nil_append]
    rw [bq_Letters_comes_194 (by omega)]
    refine sp_World_passDays_29 (by omega) hv (by omega) (fun w => ?_) (fun w => ?_)
    · simp only [Option.toList_some, Option.toList_none, List.cons_append, List.nil_append]
      rw [bq_Letters_comes_197, am_11]
      refine hq1 _ _ (if_pos w) ?_ (fun c j hc => am_crun_o hc)
      rw [am_crun_w, Int.toNat_natCast]
    · simp only [Option.toList_some, Option.toList_none, List.cons_append, List.nil_append]
      rw [bq_Letters_comes_197, am_01]
      exact hq2 (if_neg w)
  · rw [if_neg (by omega), if_pos e] at hq1 hq2
    have hl := u_l_of (m := 5) hx rfl
    rw [if_neg (by omega), if_pos e, bq_Letters_comes_161 (by omega), a1, sp_Letters_twoDigits (by omega) (by omega) h8]
    simp only [Option.toList_some, Option.toList_none, List.cons_append, List.nil_append]
    rw [bq_Letters_comes_172 (by omega), a3, sp_Letters_digit (by omega) (by omega) (h8 _)]
    simp only [Option.toList_some, Option.toList_none, List.cons_append, List.nil_append]
    rw [bq_Letters_comes_179 (by omega)]
    refine sp_World_makeOver_29 (by omega) hv (fun p ep hp16 ht => ?_) (fun ht => ?_)
    · simp only [Option.toList_some, Option.toList_none, List.cons_append, List.nil_append]
      rw [bq_Letters_comes_182, am_11]
      refine hq1 _ _ (if_pos ht) ?_ (fun c j hc => by rw [am_upo (by omega), am_upo (by omega)])
      rw [ep, Int.toNat_natCast]; rfl
    · simp only [Option.toList_some, Option.toList_none, List.cons_append, List.nil_append]
      rw [bq_Letters_comes_182, am_01]
      exact hq2 (if_neg (by rw [ht]; decide))
  · rw [if_neg (by omega), if_neg (by omega), if_pos e] at hq1 hq2
    have hl := u_l_of (m := 9) hx rfl
    rw [if_neg (by omega), if_neg (by omega), if_pos e, bq_Letters_comes_104 (by omega), a1, sp_Letters_digit (by omega) (by omega) (h8 _)]
    simp only [Option.toList_some, Option.toList_none, List.cons_append, List.nil_append]
    rw [bq_Letters_comes_115 (by omega), a2, sp_Letters_digit (by omega) (by omega) (h8 _)]
    simp only [Option.toList_some, Option.toList_none, List.cons_append, List.nil_append]
    rw [bq_Letters_comes_122 (by omega), a3, sp_Letters_twoDigits (by omega) (by omega) h8]
    simp only [Option.toList_some, Option.toList_none, List.cons_append, List.nil_append]
    rw [bq_Letters_comes_129 (by omega), a5, sp_Letters_twoDigits (by omega) (by omega) h8]
    simp only [Option.toList_some, Option.toList_none, List.cons_append, List.nil_append]
    rw [bq_Letters_comes_136 (by omega), a7, sp_at_28, am_lk_nat (by omega)]
    simp only [Option.toList_some, Option.toList_none, List.cons_append, List.nil_append]
    have r157 : am_Wp d 25 157 [some (Sum.inr (Sum.inr 27)), some (Sum.inl (s : Int))] [Sum.inl (if h 28 (s + 7) = 120 then 1 else 0), Sum.inl (u_dd (h 28) s 5), Sum.inl (u_dd (h 28) s 3), Sum.inl (u_d (h 28) s 2), Sum.inl (u_d (h 28) s 1), Sum.inr (Sum.inr 29)] (am_SH L, h, am_RR kp) Q := by
      rw [bq_Letters_comes_157 (by omega)]
      refine sp_World_addPaper_29 (by omega) hv (fun k hk c1 => ?_) (fun c1 => ?_)
      · simp only [Option.toList_some, Option.toList_none, List.cons_append, List.nil_append]
        rw [bq_Letters_comes_160, am_11]
        refine hq1 _ _ (if_pos c1) ?_ (fun c j hc => by rw [am_upo (by omega), am_upo (by omega), am_upo (by omega), am_upo (by omega), am_upo (by omega), am_upo (by omega), am_upo (by omega)])
        have hk16 : k < 16 := by have : h 29 1 < 16 := c1.2.1; omega
        have e2 : vQ (am_wv h 29) = (k : Int) := hk
        unfold v_pap
        rw [e2, Int.toNat_natCast, am_incn (by omega)]
        rfl
      · simp only [Option.toList_some, Option.toList_none, List.cons_append, List.nil_append]
        rw [bq_Letters_comes_160, am_01]
        exact hq2 (if_neg c1)
    rw [bq_Letters_comes_147]
    by_cases q : h 28 (s + 7) = 120
    · rw [if_pos q] at r157
      rw [if_pos q]; exact r157
    · rw [if_neg q] at r157
      rw [if_neg q]; exact r157
  · rw [if_neg (by omega), if_neg (by omega), if_neg (by omega), if_pos e] at hq1 hq2
    have hl := u_l_of (m := 4) hx rfl
    rw [if_neg (by omega), if_neg (by omega), if_neg (by omega), if_pos e, bq_Letters_comes_60 (by omega), a1, sp_Letters_digit (by omega) (by omega) (h8 _)]
    simp only [Option.toList_some, Option.toList_none, List.cons_append, List.nil_append]
    rw [bq_Letters_comes_71 (by omega), a2, sp_Letters_digit (by omega) (by omega) (h8 _)]
    simp only [Option.toList_some, Option.toList_none, List.cons_append, List.nil_append]
    rw [bq_Letters_comes_78 (by omega)]
    refine sp_World_addPerson_29 (by omega) hv (fun k hk c1 => ?_) (fun c1 => ?_)
    · simp only [Option.toList_some, Option.toList_none, List.cons_append, List.nil_append]
      rw [bq_Letters_comes_81, am_11]
      refine hq1 _ _ (if_pos c1) ?_ (fun c j hc => by rw [am_upo (by omega), am_upo (by omega), am_upo (by omega), am_upo (by omega), am_upo (by omega)])
      have hk7 : k < 7 := by have : h 29 0 < 7 := c1.2.2; omega
      have e2 : vP (am_wv h 29) = (k : Int) := hk
      unfold v_per
      rw [e2, Int.toNat_natCast, am_incn (by omega)]
      rfl
    · simp only [Option.toList_some, Option.toList_none, List.cons_append, List.nil_append]
      rw [bq_Letters_comes_81, am_01]
      exact hq2 (if_neg c1)
  · rw [if_neg (by omega), if_neg (by omega), if_neg (by omega), if_neg (by omega), if_pos e] at hq1 hq2
    have hl := u_l_of (m := 4) hx rfl
    rw [if_neg (by omega), if_neg (by omega), if_neg (by omega), if_neg (by omega), if_pos e, bq_Letters_comes_82 (by omega), a1, sp_Letters_digit (by omega) (by omega) (h8 _)]
    simp only [Option.toList_some, Option.toList_none, List.cons_append, List.nil_append]
    rw [bq_Letters_comes_93 (by omega), a2, sp_Letters_digit (by omega) (by omega) (h8 _)]
    simp only [Option.toList_some, Option.toList_none, List.cons_append, List.nil_append]
    rw [bq_Letters_comes_100 (by omega)]
    refine sp_World_flip_29 (by omega) hv (fun a c ea ec ht => ?_) (fun ht => ?_)
    · simp only [Option.toList_some, Option.toList_none, List.cons_append, List.nil_append]
      rw [bq_Letters_comes_103, am_11]
      refine hq1 _ _ (if_pos ht) ?_ (fun c j hc => am_upo (by omega))
      rw [ea, ec, Int.toNat_natCast, Int.toNat_natCast]; rfl
    · simp only [Option.toList_some, Option.toList_none, List.cons_append, List.nil_append]
      rw [bq_Letters_comes_103, am_01]
      exact hq2 (if_neg (by rw [ht]; decide))
  · have h1 := hf.1
    rw [u_l_of (m := 0) hx rfl] at h1
    omega
theorem c_fr_c {h g : Nat → Nat → Int} (hf : c_fr h g) {c : Nat} (hc : ¬ (29 ≤ c ∧ c ≤ 39)) : g c = h c := funext fun j => hf c j hc
/-- the statements come in the draft -/
theorem lp_Letters_tell {d L kp : Nat} {h : Nat → Nat → Int} {Q : Option am_V → am_H → Prop} {n K : Nat} {U0 : am_Vw} (hd : 10 ≤ d) (h96 : n ≤ 96) (hg : u_Good (h 28) n K) (h8 : ∀ j, 0 ≤ h 28 j ∧ h 28 j ≤ 255) (hw : am_wv h 29 = U0) (hv : v_ok U0) (hz : v_z U0) (m : Nat) (hm : m ≤ K) {Um : am_Vw} (hU : u_V (h 28) U0 m = some Um) (hE : ∀ g, am_wv g 29 = Um → c_fr h g → am_Wp d 19 43 [some (Sum.inr (Sum.inr 27)), some (Sum.inr (Sum.inr 2)), some (Sum.inl ((-1))), some (Sum.inl ((n : Int))), some (Sum.inl ((m : Int))), some (Sum.inl ((u_S (h 28) m : Int))), some (Sum.inl ((m : Int)))] [] (am_SH L, g, am_RR kp) Q) : am_Wp d 19 43 [some (Sum.inr (Sum.inr 27)), some (Sum.inr (Sum.inr 2)), some (Sum.inl ((-1))), some (Sum.inl ((n : Int))), some (Sum.inl (0)), some (Sum.inl (0)), some (Sum.inl (0))] [] (am_SH L, h, am_RR kp) Q := by
  have hmo := u_S_mono hg.2.1
  have key := am_im_fr (J := Nat → Nat → Int) (a := 0) (n := m) (fun k g => u_V (h 28) U0 k = some (am_wv g 29) ∧ c_fr h g) (fun k g => am_Wp d 19 43 [some (Sum.inr (Sum.inr 27)), some (Sum.inr (Sum.inr 2)), some (Sum.inl ((-1))), some (Sum.inl ((n : Int))), some (Sum.inl ((k : Int))), some (Sum.inl ((u_S (h 28) k : Int))), some (Sum.inl ((k : Int)))] [] (am_SH L, g, am_RR kp) Q) (by omega) (fun k g h1 h2 hi ih => ?_) (fun g hi => hE g (by have := hi.1.symm.trans hU; injection this) hi.2) h ⟨by rw [hw]; rfl, fun c j hc => rfl⟩
  · exact key
  · obtain ⟨i1, i2⟩ := hi
    obtain ⟨v1, v2⟩ := u_V_ok (n := n) (K := K) hg.2.1 hv hz k _ (by omega) i1
    obtain ⟨o1, o2, o3⟩ := hmo k (by omega)
    have o4 := o2 (by omega)
    have hfit := hg.2.1 k (by omega)
    have e28 : g 28 = h 28 := c_fr_c i2 (by omega)
    have hlt := u_fit_lt hfit
    obtain ⟨W, hW⟩ := u_V_lt (V := U0) (k := k + 1) (m - (k + 1)) (by rw [show k + 1 + (m - (k + 1)) = m by omega]; exact hU)
    rw [u_V_s i1] at hW
    rw [bq_Letters_tell_43 (by omega), if_neg (by omega), if_neg (by omega)]
    refine sp_Letters_comes (n := n) (by omega) h96 (by rw [e28]; exact hfit) (by rw [e28]; exact h8) v1 (fun g2 U hu hw2 hf2 => ?_) (fun hu => ?_)
    · rw [e28] at hu
      have e28b : g2 28 = h 28 := (c_fr_c hf2 (by omega)).trans e28
      have ih2 := ih g2 ⟨by rw [u_V_s i1, hu, hw2], fun c j hc => (hf2 c j hc).trans (i2 c j hc)⟩
      simp only [Option.toList_some, Option.toList_none, List.cons_append, List.nil_append]
      rw [bq_Letters_tell_62 (by omega), if_neg (by omega), sp_at_28, e28b, am_lk_nat (by omega)]
      simp only [Option.toList_some, Option.toList_none, List.cons_append, List.nil_append]
      rw [bq_Letters_tell_86 (by omega), am_incn (by omega)]
      rcases u_x_cases (h 28 (u_S (h 28) k)) with ⟨e, hx⟩ | ⟨e, hx⟩ | ⟨e, hx⟩ | ⟨e, hx⟩ | ⟨e, hx⟩ | ⟨-, hx⟩
      · have hl := u_l_of (m := 3) hx rfl
        rw [u_S_s, hl] at ih2
        rw [sp_Letters_formOf_4 e]
        simp only [Option.toList_some, Option.toList_none, List.cons_append, List.nil_append]
        rw [bq_Letters_tell_89_4, am_incn (by omega), am_add_ok (by omega) (by omega)]
        exact ih2
      · have hl := u_l_of (m := 5) hx rfl
        rw [u_S_s, hl] at ih2
        rw [sp_Letters_formOf_3 e]
        simp only [Option.toList_some, Option.toList_none, List.cons_append, List.nil_append]
        rw [bq_Letters_tell_89_3, am_incn (by omega), am_add_ok (by omega) (by omega)]
        exact ih2
      · have hl := u_l_of (m := 9) hx rfl
        rw [u_S_s, hl] at ih2
        rw [sp_Letters_formOf_2 e]
        simp only [Option.toList_some, Option.toList_none, List.cons_append, List.nil_append]
        rw [bq_Letters_tell_89_2, am_incn (by omega), am_add_ok (by omega) (by omega)]
        exact ih2
      · have hl := u_l_of (m := 4) hx rfl
        rw [u_S_s, hl] at ih2
        rw [sp_Letters_formOf_0 e]
        simp only [Option.toList_some, Option.toList_none, List.cons_append, List.nil_append]
        rw [bq_Letters_tell_89, am_incn (by omega), am_add_ok (by omega) (by omega)]
        exact ih2
      · have hl := u_l_of (m := 4) hx rfl
        rw [u_S_s, hl] at ih2
        rw [sp_Letters_formOf_1 e]
        simp only [Option.toList_some, Option.toList_none, List.cons_append, List.nil_append]
        rw [bq_Letters_tell_89_1, am_incn (by omega), am_add_ok (by omega) (by omega)]
        exact ih2
      · have h1 := hfit.1
        rw [u_l_of (m := 0) hx rfl] at h1
        omega
    · rw [e28] at hu
      rw [hu] at hW; cases hW
theorem c_S_fr {h g : Nat → Nat → Int} (hf : c_fr h g) : c_S g = (am_wv h 2, (am_wv h 13, am_wv g 29), h 1 2, h 25, h 26, h 24 2, h 24 3, h 28, h 27 1, h 40, h 1 6, h 41) ∧ m_S g = m_S h ∧ g 0 = h 0 := by
  have e : ∀ c, ¬ (29 ≤ c ∧ c ≤ 39) → g c = h c := fun c hc => c_fr_c hf hc
  have ew : am_wv g 2 = am_wv h 2 := by
    show (_, _, _, _, _, _, _, _, _, _, _) = _
    rw [e 2 (by omega), e 3 (by omega), e 4 (by omega), e 5 (by omega), e 6 (by omega), e 7 (by omega), e 8 (by omega), e 9 (by omega), e 10 (by omega), e 11 (by omega), e 12 (by omega)]
  have ei : am_wv g 13 = am_wv h 13 := by
    show (_, _, _, _, _, _, _, _, _, _, _) = _
    rw [e 13 (by omega), e 14 (by omega), e 15 (by omega), e 16 (by omega), e 17 (by omega), e 18 (by omega), e 19 (by omega), e 20 (by omega), e 21 (by omega), e 22 (by omega), e 23 (by omega)]
  refine ⟨?_, ?_, e 0 (by omega)⟩
  · show (am_wv g 2, (am_wv g 13, am_wv g 29), g 1 2, g 25, g 26, g 24 2, g 24 3, g 28, g 27 1, g 40, g 1 6, g 41) = _
    rw [ew, ei, e 1 (by omega), e 25 (by omega), e 26 (by omega), e 24 (by omega), e 28 (by omega), e 27 (by omega), e 40 (by omega), e 41 (by omega)]
  · refine m_S_mk (am_mv_mk ?_ ?_ ?_ ?_ ?_ ?_ ?_ ?_ ?_ ?_ ?_ ?_ ?_) ?_ ?_ ?_ ?_ ?_ ?_ ?_ ?_ ?_
    all_goals (first | exact e _ (by omega) | exact hf _ _ (by omega))
abbrev c_Ss (h : Nat → Nat → Int) (W D : am_Vw) (ps : Int) : am_CS := (W, (am_wv h 13, D), h 1 2, h 25, h 26, h 24 2, ps, h 28, 0, h 40, h 1 6, h 41)
theorem c_streetBad {d : Nat} {h : Nat → Nat → Int} {n k i : Nat} (hd : 30 ≤ d) (hn : h 27 1 = (n : Int)) (h96 : n ≤ 96) (hb : u_Bad (h 28) n k i) : am_SC h (Sum.inl (-1000 - ((u_S (h 28) k + i : Nat) : Int))) (c_Ss h (am_wv h 2) (am_wv h 29) (h 24 3)) (fun L kp Q => am_Wp d 18 0 [some (Sum.inr (Sum.inr 1)), none] [] (am_SH L, h, am_RR kp) Q) := by
  intro L kp Q hq
  show am_Wp d 18 0 [some (Sum.inr (Sum.inr 1)), none] [] (am_SH L, h, am_RR kp) Q
  have hle : u_S (h 28) k ≤ 96 ∧ i ≤ 9 := by
    obtain ⟨h1, h2, h3⟩ := hb
    have hm := u_S_mono h1 k (by omega)
    refine ⟨?_, ?_⟩
    · rcases h2 with h2 | h2
      · subst h2; show 0 ≤ 96; omega
      · omega
    · rcases h3 with ⟨-, h4⟩ | ⟨h4, -⟩
      · omega
      · have := u_l_3 (show 0 < u_l (h 28 (u_S (h 28) k)) by omega); omega
  rw [bq_KO_street_0 (by omega), bq_Letters_tell_0 (by omega), sp_Letters_fuBad (by omega) hn h96 hb]
  simp only [Option.toList_some, Option.toList_none, List.cons_append, List.nil_append]
  rw [bq_Letters_tell_4 (by omega), if_neg (by omega), am_sub_ok (by omega) (by omega)]
  simp only [Option.toList_some, Option.toList_none, List.cons_append, List.nil_append]
  rw [bq_KO_street_11 (by omega), if_pos (by omega), bq_KO_street_23]
  exact hq _ kp rfl rfl rfl
theorem c_streetGood {d : Nat} {h : Nat → Nat → Int} {n K : Nat} (hd : 30 ≤ d) (hn : h 27 1 = (n : Int)) (h96 : n ≤ 96) (hg : u_Good (h 28) n K) (h8 : ∀ j, 0 ≤ h 28 j ∧ h 28 j ≤ 255) (hv : v_ok (am_wv h 2)) (hz : v_z (am_wv h 2)) (hz9 : v_z (am_wv h 29)) {L kp : Nat} {Q : Option am_V → am_H → Prop} (m : Nat) (hm : m ≤ K) {Um : am_Vw} (hU : u_V (h 28) (am_wv h 2) m = some Um) (hE : ∀ g d, 20 ≤ d → am_wv g 29 = Um → c_fr (am_up h 27 1 0) g → am_Wp d 19 43 [some (Sum.inr (Sum.inr 27)), some (Sum.inr (Sum.inr 2)), some (Sum.inl (-1)), some (Sum.inl (n : Int)), some (Sum.inl (m : Int)), some (Sum.inl (u_S (h 28) m : Int)), some (Sum.inl (m : Int))] [] (am_SH L, g, am_RR kp) (fun r h1 => am_Wp (d + 1) 18 11 [some (Sum.inr (Sum.inr 1)), none] (r.toList ++ []) h1 Q)) : am_Wp d 18 0 [some (Sum.inr (Sum.inr 1)), none] [] (am_SH L, h, am_RR kp) Q := by
  obtain ⟨d, rfl⟩ : ∃ e, d = e + 1 := ⟨d - 1, by omega⟩
  have hm3 := (u_S_mono hg.2.1 K (by omega)).1
  rw [bq_KO_street_0 (by omega), show d + 1 - 1 = d by omega, bq_Letters_tell_0 (by omega), sp_Letters_fuGood (by omega) hn h96 hg]
  simp only [Option.toList_some, Option.toList_none, List.cons_append, List.nil_append]
  rw [bq_Letters_tell_4 (by omega), if_pos rfl, sp_World_copyFrom_29_2 (h := am_up h 27 1 0) (by omega), hn]
  simp only [Option.toList_some, Option.toList_none, List.cons_append, List.nil_append]
  rw [bq_Letters_tell_34]
  have e28 : am_cw_29_2 (am_up h 27 1 0) 28 = h 28 := funext fun j => am_cw_29_2_o (by omega)
  have ew : am_wv (am_cw_29_2 (am_up h 27 1 0)) 29 = am_wv h 2 := am_cw_29_2_w (h := am_up h 27 1 0) hz hz9
  refine lp_Letters_tell (h := am_cw_29_2 (am_up h 27 1 0)) (K := K) (by omega) h96 (by rw [e28]; exact hg) (by rw [e28]; exact h8) ew hv hz m hm (by rw [e28]; exact hU) (fun g hw hf => ?_)
  rw [e28]
  have hf2 : c_fr (am_up h 27 1 0) g := fun c j hc => (hf c j hc).trans (am_cw_29_2_o hc)
  have h3 := hE g d (by omega) hw hf2
  exact h3
theorem c_streetFail {d : Nat} {h : Nat → Nat → Int} {n K k : Nat} {U : am_Vw} (hd : 30 ≤ d) (hn : h 27 1 = (n : Int)) (h96 : n ≤ 96) (hg : u_Good (h 28) n K) (h8 : ∀ j, 0 ≤ h 28 j ∧ h 28 j ≤ 255) (hv : v_ok (am_wv h 2)) (hz : v_z (am_wv h 2)) (hz9 : v_z (am_wv h 29)) (hk : k < K) (hU : u_V (h 28) (am_wv h 2) k = some U) (hN : u_do (h 28) (u_S (h 28) k) U = none) : am_SC h (Sum.inl (-2000 - (u_S (h 28) k : Int))) (c_Ss h (am_wv h 2) U (h 24 3)) (fun L kp Q => am_Wp d 18 0 [some (Sum.inr (Sum.inr 1)), none] [] (am_SH L, h, am_RR kp) Q) := by
  intro L kp Q hq
  refine c_streetGood hd hn h96 hg h8 hv hz hz9 k (by omega) hU (fun g d hd2 hw hf => ?_)
  have hm := u_S_mono hg.2.1 k (by omega)
  have hlt := hm.2.1 hk
  have e28 : g 28 = h 28 := c_fr_c hf (by omega)
  have hv2 := (u_V_ok (n := n) (K := K) hg.2.1 hv hz k U (by omega) hU).1
  rw [bq_Letters_tell_43 (by omega), if_neg (by omega), if_neg (by omega)]
  refine sp_Letters_comes (n := n) (by omega) h96 (by rw [e28]; exact hg.2.1 k hk) (by rw [e28]; exact h8) (by rw [hw]; exact hv2) (fun g2 W hu hw2 hf2 => ?_) (fun hu => ?_)
  · rw [e28, hw, hN] at hu; cases hu
  · simp only [Option.toList_some, Option.toList_none, List.cons_append, List.nil_append]
    rw [bq_Letters_tell_62 (by omega), if_pos rfl, am_sub_ok (by omega) (by omega)]
    simp only [Option.toList_some, Option.toList_none, List.cons_append, List.nil_append]
    rw [bq_KO_street_11 (by omega), if_pos (by omega), bq_KO_street_23]
    obtain ⟨s1, s2, s3⟩ := c_S_fr hf
    refine hq g kp s3 ?_ s2
    rw [s1, hw]; rfl
theorem c_streetDone {d : Nat} {h : Nat → Nat → Int} {n K : Nat} {U : am_Vw} (hd : 30 ≤ d) (hn : h 27 1 = (n : Int)) (h96 : n ≤ 96) (hg : u_Good (h 28) n K) (h8 : ∀ j, 0 ≤ h 28 j ∧ h 28 j ≤ 255) (hv : v_ok (am_wv h 2)) (hz : v_z (am_wv h 2)) (hz9 : v_z (am_wv h 29)) (hU : u_V (h 28) (am_wv h 2) K = some U) : am_SC h (Sum.inl (K : Int)) (c_Ss h U U 0) (fun L kp Q => am_Wp d 18 0 [some (Sum.inr (Sum.inr 1)), none] [] (am_SH L, h, am_RR kp) Q) := by
  intro L kp Q hq
  refine c_streetGood hd hn h96 hg h8 hv hz hz9 K (by omega) hU (fun g d hd2 hw hf => ?_)
  have hm := u_S_mono hg.2.1 K (by omega)
  have hSK := hg.2.2
  have hz2 := (u_V_ok (n := n) (K := K) hg.2.1 hv hz K U (by omega) hU).2
  have ew2 : am_wv g 2 = am_wv h 2 := congrArg (fun c : am_CS => c.1) (c_S_fr hf).1
  rw [bq_Letters_tell_43 (by omega), if_neg (by omega), if_pos (by omega), bq_Letters_tell_101 (by omega), sp_World_copyFrom_2_29 (by omega)]
  simp only [Option.toList_some, Option.toList_none, List.cons_append, List.nil_append]
  rw [bq_Letters_tell_109]
  simp only [Option.toList_some, Option.toList_none, List.cons_append, List.nil_append]
  rw [bq_KO_street_11 (by omega), if_neg (by omega), sp_Past_forget]
  simp only [Option.toList_some, Option.toList_none, List.cons_append, List.nil_append]
  rw [bq_KO_street_23]
  obtain ⟨s1, s2, s3⟩ := c_S_fr hf
  have hc := congrArg (fun c : am_CS => c.2) s1
  have ew : am_wv (am_cw_2_29 g) 2 = am_wv g 29 := am_cw_2_29_w (by rw [hw]; exact hz2) (by rw [ew2]; exact hz)
  have eo : ∀ c j, ¬ (2 ≤ c ∧ c ≤ 12) → am_cw_2_29 g c j = g c j := fun c j hc => am_cw_2_29_o hc
  have eo2 : ∀ c, ¬ (2 ≤ c ∧ c ≤ 12) → am_cw_2_29 g c = g c := fun c hc => funext fun j => eo c j hc
  refine hq _ kp ((eo2 0 (by omega)).trans s3) ?_ (Eq.trans ?_ s2)
  · show (am_wv (am_cw_2_29 g) 2, (am_wv (am_cw_2_29 g) 13, am_wv (am_cw_2_29 g) 29), am_cw_2_29 g 1 2, am_cw_2_29 g 25, am_cw_2_29 g 26, am_cw_2_29 g 24 2, 0, am_cw_2_29 g 28, am_cw_2_29 g 27 1, am_cw_2_29 g 40, am_cw_2_29 g 1 6, am_cw_2_29 g 41) = _
    rw [ew, show am_wv (am_cw_2_29 g) 13 = am_wv g 13 from rfl, show am_wv (am_cw_2_29 g) 29 = am_wv g 29 from rfl, eo2 1 (by omega), eo2 25 (by omega), eo2 26 (by omega), eo2 24 (by omega), eo2 28 (by omega), eo2 27 (by omega), eo2 40 (by omega), eo2 41 (by omega), hw]
    have t1 : am_wv g 13 = am_wv h 13 := congrArg (fun c : am_CS => c.2.1.1) s1
    rw [t1, hf 1 2 (by omega), c_fr_c hf (c := 25) (by omega), c_fr_c hf (c := 26) (by omega), hf 24 2 (by omega), c_fr_c hf (c := 28) (by omega), hf 27 1 (by omega), c_fr_c hf (c := 40) (by omega), hf 1 6 (by omega), c_fr_c hf (c := 41) (by omega)]
    rfl
  · rfl