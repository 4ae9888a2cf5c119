/-! SPECS of the class's World -/
theorem sp_World_isPerson_2 {d L kp : Nat} {h : Nat → Nat → Int} {Q : Option am_V → am_H → Prop} {i : Int} : am_Wp d 29 0 [some (Sum.inr (Sum.inr 2)), some (Sum.inl i)] [] (am_SH L, h, am_RR kp) Q = Q (some (Sum.inl (am_bi (v_isP (am_wv h 2) i)))) (am_SH L, h, am_RR kp) := by
  simp (disch := omega) only [bq_World_isPerson_0, bq_World_isPerson_16, bq_World_isPerson_17, Option.toList_some, Option.toList_none, List.cons_append, List.nil_append, am_bi0, am_bi1, am_bft, true_and, reduceCtorEq, or_false, false_or, or_true, true_or]
  exact am_in0 (Q := fun b => Q (some (Sum.inl (am_bi b))) (am_SH L, h, am_RR kp)) (by simp [am_bi]) rfl

theorem sp_World_isPaper_2 {d L kp : Nat} {h : Nat → Nat → Int} {Q : Option am_V → am_H → Prop} {i : Int} : am_Wp d 35 0 [some (Sum.inr (Sum.inr 2)), some (Sum.inl i)] [] (am_SH L, h, am_RR kp) Q = Q (some (Sum.inl (am_bi (v_isQ (am_wv h 2) i)))) (am_SH L, h, am_RR kp) := by
  simp (disch := omega) only [bq_World_isPaper_0, bq_World_isPaper_16, bq_World_isPaper_17, Option.toList_some, Option.toList_none, List.cons_append, List.nil_append, am_bi0, am_bi1, am_bft, true_and, reduceCtorEq, or_false, false_or, or_true, true_or]
  exact am_in0 (Q := fun b => Q (some (Sum.inl (am_bi b))) (am_SH L, h, am_RR kp)) (by simp [am_bi]) rfl

theorem sp_World_kindOf_2 {d L kp : Nat} {h : Nat → Nat → Int} {Q : Option am_V → am_H → Prop} {i : Int} (hd : 1 ≤ d) : am_Wp d 45 0 [some (Sum.inr (Sum.inr 2)), some (Sum.inl i)] [] (am_SH L, h, am_RR kp) Q = Q (some (Sum.inl (am_lk (h 3) 7 i))) (am_SH L, h, am_RR kp) := by
  simp (disch := omega) only [bq_World_kindOf_0, bq_World_kindOf_8, sp_at_3, Option.toList_some, Option.toList_none, List.cons_append, List.nil_append, am_bi0, am_bi1, am_bft, true_and, reduceCtorEq, or_false, false_or, or_true, true_or]
  

theorem sp_World_figureOf_2 {d L kp : Nat} {h : Nat → Nat → Int} {Q : Option am_V → am_H → Prop} {i : Int} (hd : 1 ≤ d) : am_Wp d 46 0 [some (Sum.inr (Sum.inr 2)), some (Sum.inl i)] [] (am_SH L, h, am_RR kp) Q = Q (some (Sum.inl (am_lk (h 4) 7 i))) (am_SH L, h, am_RR kp) := by
  simp (disch := omega) only [bq_World_figureOf_0, bq_World_figureOf_8, sp_at_4, Option.toList_some, Option.toList_none, List.cons_append, List.nil_append, am_bi0, am_bi1, am_bft, true_and, reduceCtorEq, or_false, false_or, or_true, true_or]
  

theorem sp_World_kissedOf_2 {d L kp : Nat} {h : Nat → Nat → Int} {Q : Option am_V → am_H → Prop} {i : Int} (hd : 1 ≤ d) : am_Wp d 47 0 [some (Sum.inr (Sum.inr 2)), some (Sum.inl i)] [] (am_SH L, h, am_RR kp) Q = Q (some (Sum.inl (am_lk (h 5) 7 i))) (am_SH L, h, am_RR kp) := by
  simp (disch := omega) only [bq_World_kissedOf_0, bq_World_kissedOf_8, sp_at_5, Option.toList_some, Option.toList_none, List.cons_append, List.nil_append, am_bi0, am_bi1, am_bft, true_and, reduceCtorEq, or_false, false_or, or_true, true_or]
  

theorem sp_World_unwillingOf_2 {d L kp : Nat} {h : Nat → Nat → Int} {Q : Option am_V → am_H → Prop} {i : Int} (hd : 1 ≤ d) : am_Wp d 50 0 [some (Sum.inr (Sum.inr 2)), some (Sum.inl i)] [] (am_SH L, h, am_RR kp) Q = Q (some (Sum.inl (am_lk (h 6) 7 i))) (am_SH L, h, am_RR kp) := by
  simp (disch := omega) only [bq_World_unwillingOf_0, bq_World_unwillingOf_8, sp_at_6, Option.toList_some, Option.toList_none, List.cons_append, List.nil_append, am_bi0, am_bi1, am_bft, true_and, reduceCtorEq, or_false, false_or, or_true, true_or]
  

theorem sp_World_debtorOf_2 {d L kp : Nat} {h : Nat → Nat → Int} {Q : Option am_V → am_H → Prop} {i : Int} (hd : 1 ≤ d) : am_Wp d 52 0 [some (Sum.inr (Sum.inr 2)), some (Sum.inl i)] [] (am_SH L, h, am_RR kp) Q = Q (some (Sum.inl (am_lk (h 7) 16 i))) (am_SH L, h, am_RR kp) := by
  simp (disch := omega) only [bq_World_debtorOf_0, bq_World_debtorOf_8, sp_at_7, Option.toList_some, Option.toList_none, List.cons_append, List.nil_append, am_bi0, am_bi1, am_bft, true_and, reduceCtorEq, or_false, false_or, or_true, true_or]
  

theorem sp_World_holderOf_2 {d L kp : Nat} {h : Nat → Nat → Int} {Q : Option am_V → am_H → Prop} {i : Int} (hd : 1 ≤ d) : am_Wp d 53 0 [some (Sum.inr (Sum.inr 2)), some (Sum.inl i)] [] (am_SH L, h, am_RR kp) Q = Q (some (Sum.inl (am_lk (h 8) 16 i))) (am_SH L, h, am_RR kp) := by
  simp (disch := omega) only [bq_World_holderOf_0, bq_World_holderOf_8, sp_at_8, Option.toList_some, Option.toList_none, List.cons_append, List.nil_append, am_bi0, am_bi1, am_bft, true_and, reduceCtorEq, or_false, false_or, or_true, true_or]
  

theorem sp_World_quartersOf_2 {d L kp : Nat} {h : Nat → Nat → Int} {Q : Option am_V → am_H → Prop} {i : Int} (hd : 1 ≤ d) : am_Wp d 54 0 [some (Sum.inr (Sum.inr 2)), some (Sum.inl i)] [] (am_SH L, h, am_RR kp) Q = Q (some (Sum.inl (am_lk (h 9) 16 i))) (am_SH L, h, am_RR kp) := by
  simp (disch := omega) only [bq_World_quartersOf_0, bq_World_quartersOf_8, sp_at_9, Option.toList_some, Option.toList_none, List.cons_append, List.nil_append, am_bi0, am_bi1, am_bft, true_and, reduceCtorEq, or_false, false_or, or_true, true_or]
  

theorem sp_World_dueOf_2 {d L kp : Nat} {h : Nat → Nat → Int} {Q : Option am_V → am_H → Prop} {i : Int} (hd : 1 ≤ d) : am_Wp d 55 0 [some (Sum.inr (Sum.inr 2)), some (Sum.inl i)] [] (am_SH L, h, am_RR kp) Q = Q (some (Sum.inl (am_lk (h 10) 16 i))) (am_SH L, h, am_RR kp) := by
  simp (disch := omega) only [bq_World_dueOf_0, bq_World_dueOf_8, sp_at_10, Option.toList_some, Option.toList_none, List.cons_append, List.nil_append, am_bi0, am_bi1, am_bft, true_and, reduceCtorEq, or_false, false_or, or_true, true_or]
  

theorem sp_World_forgedOf_2 {d L kp : Nat} {h : Nat → Nat → Int} {Q : Option am_V → am_H → Prop} {i : Int} (hd : 1 ≤ d) : am_Wp d 56 0 [some (Sum.inr (Sum.inr 2)), some (Sum.inl i)] [] (am_SH L, h, am_RR kp) Q = Q (some (Sum.inl (am_lk (h 11) 16 i))) (am_SH L, h, am_RR kp) := by
  simp (disch := omega) only [bq_World_forgedOf_0, bq_World_forgedOf_8, sp_at_11, Option.toList_some, Option.toList_none, List.cons_append, List.nil_append, am_bi0, am_bi1, am_bft, true_and, reduceCtorEq, or_false, false_or, or_true, true_or]
  

theorem sp_World_stateOf_2 {d L kp : Nat} {h : Nat → Nat → Int} {Q : Option am_V → am_H → Prop} {i : Int} (hd : 1 ≤ d) : am_Wp d 57 0 [some (Sum.inr (Sum.inr 2)), some (Sum.inl i)] [] (am_SH L, h, am_RR kp) Q = Q (some (Sum.inl (am_lk (h 12) 16 i))) (am_SH L, h, am_RR kp) := by
  simp (disch := omega) only [bq_World_stateOf_0, bq_World_stateOf_8, sp_at_12, Option.toList_some, Option.toList_none, List.cons_append, List.nil_append, am_bi0, am_bi1, am_bft, true_and, reduceCtorEq, or_false, false_or, or_true, true_or]
  

theorem sp_World_people_2 {d L kp : Nat} {h : Nat → Nat → Int} {Q : Option am_V → am_H → Prop} : am_Wp d 73 0 [some (Sum.inr (Sum.inr 2))] [] (am_SH L, h, am_RR kp) Q = Q (some (Sum.inl (h 2 0))) (am_SH L, h, am_RR kp) := by
  simp (disch := omega) only [bq_World_people_0, Option.toList_some, Option.toList_none, List.cons_append, List.nil_append, am_bi0, am_bi1, am_bft, true_and, reduceCtorEq, or_false, false_or, or_true, true_or]
  

theorem sp_World_papers_2 {d L kp : Nat} {h : Nat → Nat → Int} {Q : Option am_V → am_H → Prop} : am_Wp d 61 0 [some (Sum.inr (Sum.inr 2))] [] (am_SH L, h, am_RR kp) Q = Q (some (Sum.inl (h 2 1))) (am_SH L, h, am_RR kp) := by
  simp (disch := omega) only [bq_World_papers_0, Option.toList_some, Option.toList_none, List.cons_append, List.nil_append, am_bi0, am_bi1, am_bft, true_and, reduceCtorEq, or_false, false_or, or_true, true_or]
  

theorem sp_World_day_2 {d L kp : Nat} {h : Nat → Nat → Int} {Q : Option am_V → am_H → Prop} : am_Wp d 65 0 [some (Sum.inr (Sum.inr 2))] [] (am_SH L, h, am_RR kp) Q = Q (some (Sum.inl (h 2 2))) (am_SH L, h, am_RR kp) := by
  simp (disch := omega) only [bq_World_day_0, Option.toList_some, Option.toList_none, List.cons_append, List.nil_append, am_bi0, am_bi1, am_bft, true_and, reduceCtorEq, or_false, false_or, or_true, true_or]
  

theorem sp_World_isOpen_2 {d L kp : Nat} {h : Nat → Nat → Int} {Q : Option am_V → am_H → Prop} {i : Int} (hd : 1 ≤ d) : am_Wp d 34 0 [some (Sum.inr (Sum.inr 2)), some (Sum.inl i)] [] (am_SH L, h, am_RR kp) Q = Q (some (Sum.inl (am_bi (v_open (am_wv h 2) i)))) (am_SH L, h, am_RR kp) := by
  simp (disch := omega) only [bq_World_isOpen_0, bq_World_isOpen_5, bq_World_isOpen_23, bq_World_isOpen_16, bq_World_isOpen_24, sp_World_isPaper_2, sp_at_12, Option.toList_some, Option.toList_none, List.cons_append, List.nil_append, am_bi0, am_bi1, am_bft, true_and, reduceCtorEq, or_false, false_or, or_true, true_or]
  unfold v_open
  (repeat' split) <;> simp_all [am_bi] <;> omega

theorem sp_World_shuns_2 {d L kp : Nat} {h : Nat → Nat → Int} {Q : Option am_V → am_H → Prop} {i j : Int} (hd : 1 ≤ d) : am_Wp d 36 0 [some (Sum.inr (Sum.inr 2)), some (Sum.inl i), some (Sum.inl j)] [] (am_SH L, h, am_RR kp) Q = Q (some (Sum.inl (am_bi (v_shuns (am_wv h 2) i j)))) (am_SH L, h, am_RR kp) := by
  simp (disch := omega) only [bq_World_shuns_0, bq_World_shuns_8, bq_World_shuns_12, sp_at_6, sp_has, Option.toList_some, Option.toList_none, List.cons_append, List.nil_append, am_bi0, am_bi1, am_bft, true_and, reduceCtorEq, or_false, false_or, or_true, true_or]
  rfl

theorem sp_World_friendly_2 {d L kp : Nat} {h : Nat → Nat → Int} {Q : Option am_V → am_H → Prop} {i j : Int} (hd : 1 ≤ d) : am_Wp d 41 0 [some (Sum.inr (Sum.inr 2)), some (Sum.inl i), some (Sum.inl j)] [] (am_SH L, h, am_RR kp) Q = Q (some (Sum.inl (am_bi (v_friend (am_wv h 2) i j)))) (am_SH L, h, am_RR kp) := by
  simp (disch := omega) only [bq_World_friendly_0, bq_World_friendly_8, bq_World_friendly_12, bq_World_friendly_34, bq_World_friendly_23, bq_World_friendly_35, bq_World_friendly_27, sp_at_6, sp_has, Option.toList_some, Option.toList_none, List.cons_append, List.nil_append, am_bi0, am_bi1, am_bft, true_and, reduceCtorEq, or_false, false_or, or_true, true_or]
  unfold v_friend v_shuns
  (repeat' split) <;> simp_all [am_bi] <;> omega

theorem sp_World_wouldBePaid_2 {d L kp : Nat} {h : Nat → Nat → Int} {Q : Option am_V → am_H → Prop} {i : Int} (hd : 2 ≤ d) : am_Wp d 40 0 [some (Sum.inr (Sum.inr 2)), some (Sum.inl i)] [] (am_SH L, h, am_RR kp) Q = Q (some (Sum.inl (am_bi (v_paid (am_wv h 2) i)))) (am_SH L, h, am_RR kp) := by
  simp (disch := omega) only [bq_World_wouldBePaid_0, bq_World_wouldBePaid_8, bq_World_wouldBePaid_38, bq_World_wouldBePaid_20, bq_World_wouldBePaid_39, bq_World_wouldBePaid_28, bq_World_wouldBePaid_31, sp_at_11, sp_at_7, sp_at_8, sp_World_friendly_2, Option.toList_some, Option.toList_none, List.cons_append, List.nil_append, am_bi0, am_bi1, am_bft, true_and, reduceCtorEq, or_false, false_or, or_true, true_or]
  unfold v_paid
  (repeat' split) <;> simp_all [am_bi] <;> omega

theorem sp_World_canTake_2 {d L kp : Nat} {h : Nat → Nat → Int} {Q : Option am_V → am_H → Prop} {i j : Int} (hd : 2 ≤ d) : am_Wp d 33 0 [some (Sum.inr (Sum.inr 2)), some (Sum.inl i), some (Sum.inl j)] [] (am_SH L, h, am_RR kp) Q = Q (some (Sum.inl (am_bi (v_take (am_wv h 2) i j)))) (am_SH L, h, am_RR kp) := by
  simp (disch := omega) only [bq_World_canTake_0, bq_World_canTake_5, bq_World_canTake_48, bq_World_canTake_13, bq_World_canTake_49, bq_World_canTake_24, bq_World_canTake_38, bq_World_canTake_41, sp_World_isOpen_2, sp_World_isPerson_2, sp_at_8, sp_at_7, sp_World_shuns_2, Option.toList_some, Option.toList_none, List.cons_append, List.nil_append, am_bi0, am_bi1, am_bft, true_and, reduceCtorEq, or_false, false_or, or_true, true_or]
  unfold v_take
  (repeat' split) <;> simp_all [am_bi] <;> omega

theorem sp_World_worthOf_2 {d L kp : Nat} {h : Nat → Nat → Int} {Q : Option am_V → am_H → Prop} {i : Int} (hd : 2 ≤ d) : am_Wp d 49 0 [some (Sum.inr (Sum.inr 2)), some (Sum.inl i), none, none, none, none] [] (am_SH L, h, am_RR kp) Q = Q (some (Sum.inl (v_worth (am_wv h 2) i))) (am_SH L, h, am_RR kp) := by
  simp (disch := omega) only [bq_World_worthOf_0, bq_World_worthOf_5, bq_World_worthOf_18, bq_World_worthOf_31, bq_World_worthOf_62, bq_World_worthOf_73, bq_World_worthOf_108, bq_World_worthOf_110, bq_World_worthOf_115, bq_World_worthOf_132, bq_World_worthOf_139, bq_World_worthOf_160, bq_World_worthOf_127, bq_World_worthOf_147, bq_World_worthOf_159, sp_World_isOpen_2, sp_at_9, sp_at_10, sp_at_7, sp_at_3, sp_at_4, sp_at_11, Option.toList_some, Option.toList_none, List.cons_append, List.nil_append, am_bi0, am_bi1, am_bft, true_and, reduceCtorEq, or_false, false_or, or_true, true_or]
  unfold v_worth v_later
  (repeat' split) <;> first | rfl | (simp_all; done) | omega

theorem sp_World_isPerson_29 {d L kp : Nat} {h : Nat → Nat → Int} {Q : Option am_V → am_H → Prop} {i : Int} : am_Wp d 29 0 [some (Sum.inr (Sum.inr 29)), some (Sum.inl i)] [] (am_SH L, h, am_RR kp) Q = Q (some (Sum.inl (am_bi (v_isP (am_wv h 29) i)))) (am_SH L, h, am_RR kp) := by
  simp (disch := omega) only [bq_World_isPerson_v2_0, bq_World_isPerson_v2_16, bq_World_isPerson_v2_17, Option.toList_some, Option.toList_none, List.cons_append, List.nil_append, am_bi0, am_bi1, am_bft, true_and, reduceCtorEq, or_false, false_or, or_true, true_or]
  exact am_in0 (Q := fun b => Q (some (Sum.inl (am_bi b))) (am_SH L, h, am_RR kp)) (by simp [am_bi]) rfl

theorem sp_World_isPaper_29 {d L kp : Nat} {h : Nat → Nat → Int} {Q : Option am_V → am_H → Prop} {i : Int} : am_Wp d 35 0 [some (Sum.inr (Sum.inr 29)), some (Sum.inl i)] [] (am_SH L, h, am_RR kp) Q = Q (some (Sum.inl (am_bi (v_isQ (am_wv h 29) i)))) (am_SH L, h, am_RR kp) := by
  simp (disch := omega) only [bq_World_isPaper_v2_0, bq_World_isPaper_v2_16, bq_World_isPaper_v2_17, Option.toList_some, Option.toList_none, List.cons_append, List.nil_append, am_bi0, am_bi1, am_bft, true_and, reduceCtorEq, or_false, false_or, or_true, true_or]
  exact am_in0 (Q := fun b => Q (some (Sum.inl (am_bi b))) (am_SH L, h, am_RR kp)) (by simp [am_bi]) rfl

theorem sp_World_isOpen_29 {d L kp : Nat} {h : Nat → Nat → Int} {Q : Option am_V → am_H → Prop} {i : Int} (hd : 1 ≤ d) : am_Wp d 34 0 [some (Sum.inr (Sum.inr 29)), some (Sum.inl i)] [] (am_SH L, h, am_RR kp) Q = Q (some (Sum.inl (am_bi (v_open (am_wv h 29) i)))) (am_SH L, h, am_RR kp) := by
  simp (disch := omega) only [bq_World_isOpen_v2_0, bq_World_isOpen_v2_5, bq_World_isOpen_v2_23, bq_World_isOpen_v2_16, bq_World_isOpen_v2_24, sp_World_isPaper_29, sp_at_39, Option.toList_some, Option.toList_none, List.cons_append, List.nil_append, am_bi0, am_bi1, am_bft, true_and, reduceCtorEq, or_false, false_or, or_true, true_or]
  unfold v_open
  (repeat' split) <;> simp_all [am_bi] <;> omega

theorem sp_World_shuns_29 {d L kp : Nat} {h : Nat → Nat → Int} {Q : Option am_V → am_H → Prop} {i j : Int} (hd : 1 ≤ d) : am_Wp d 36 0 [some (Sum.inr (Sum.inr 29)), some (Sum.inl i), some (Sum.inl j)] [] (am_SH L, h, am_RR kp) Q = Q (some (Sum.inl (am_bi (v_shuns (am_wv h 29) i j)))) (am_SH L, h, am_RR kp) := by
  simp (disch := omega) only [bq_World_shuns_v2_0, bq_World_shuns_v2_8, bq_World_shuns_v2_12, sp_at_33, sp_has, Option.toList_some, Option.toList_none, List.cons_append, List.nil_append, am_bi0, am_bi1, am_bft, true_and, reduceCtorEq, or_false, false_or, or_true, true_or]
  rfl

theorem sp_World_friendly_29 {d L kp : Nat} {h : Nat → Nat → Int} {Q : Option am_V → am_H → Prop} {i j : Int} (hd : 1 ≤ d) : am_Wp d 41 0 [some (Sum.inr (Sum.inr 29)), some (Sum.inl i), some (Sum.inl j)] [] (am_SH L, h, am_RR kp) Q = Q (some (Sum.inl (am_bi (v_friend (am_wv h 29) i j)))) (am_SH L, h, am_RR kp) := by
  simp (disch := omega) only [bq_World_friendly_v2_0, bq_World_friendly_v2_8, bq_World_friendly_v2_12, bq_World_friendly_v2_34, bq_World_friendly_v2_23, bq_World_friendly_v2_35, bq_World_friendly_v2_27, sp_at_33, sp_has, Option.toList_some, Option.toList_none, List.cons_append, List.nil_append, am_bi0, am_bi1, am_bft, true_and, reduceCtorEq, or_false, false_or, or_true, true_or]
  unfold v_friend v_shuns
  (repeat' split) <;> simp_all [am_bi] <;> omega

theorem sp_World_wouldBePaid_29 {d L kp : Nat} {h : Nat → Nat → Int} {Q : Option am_V → am_H → Prop} {i : Int} (hd : 2 ≤ d) : am_Wp d 40 0 [some (Sum.inr (Sum.inr 29)), some (Sum.inl i)] [] (am_SH L, h, am_RR kp) Q = Q (some (Sum.inl (am_bi (v_paid (am_wv h 29) i)))) (am_SH L, h, am_RR kp) := by
  simp (disch := omega) only [bq_World_wouldBePaid_v2_0, bq_World_wouldBePaid_v2_8, bq_World_wouldBePaid_v2_38, bq_World_wouldBePaid_v2_20, bq_World_wouldBePaid_v2_39, bq_World_wouldBePaid_v2_28, bq_World_wouldBePaid_v2_31, sp_at_38, sp_at_34, sp_at_35, sp_World_friendly_29, Option.toList_some, Option.toList_none, List.cons_append, List.nil_append, am_bi0, am_bi1, am_bft, true_and, reduceCtorEq, or_false, false_or, or_true, true_or]
  unfold v_paid
  (repeat' split) <;> simp_all [am_bi] <;> omega

theorem sp_World_canTake_29 {d L kp : Nat} {h : Nat → Nat → Int} {Q : Option am_V → am_H → Prop} {i j : Int} (hd : 2 ≤ d) : am_Wp d 33 0 [some (Sum.inr (Sum.inr 29)), some (Sum.inl i), some (Sum.inl j)] [] (am_SH L, h, am_RR kp) Q = Q (some (Sum.inl (am_bi (v_take (am_wv h 29) i j)))) (am_SH L, h, am_RR kp) := by
  simp (disch := omega) only [bq_World_canTake_v2_0, bq_World_canTake_v2_5, bq_World_canTake_v2_48, bq_World_canTake_v2_13, bq_World_canTake_v2_49, bq_World_canTake_v2_24, bq_World_canTake_v2_38, bq_World_canTake_v2_41, sp_World_isOpen_29, sp_World_isPerson_29, sp_at_35, sp_at_34, sp_World_shuns_29, Option.toList_some, Option.toList_none, List.cons_append, List.nil_append, am_bi0, am_bi1, am_bft, true_and, reduceCtorEq, or_false, false_or, or_true, true_or]
  unfold v_take
  (repeat' split) <;> simp_all [am_bi] <;> omega
