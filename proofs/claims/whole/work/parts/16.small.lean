/-! SPECS of the class's array helpers, an array each -/
theorem sp_at_40 {d L kp : Nat} {h : Nat → Nat → Int} {Q : Option am_V → am_H → Prop} {i : Int} : am_Wp d 14 0 [some (Sum.inr (Sum.inr 40)), some (Sum.inl i)] [] (am_SH L, h, am_RR kp) Q = Q (some (Sum.inl (am_lk (h 40) 12 i))) (am_SH L, h, am_RR kp) := by
  rw [bq_KO_at_0]
  unfold am_lk
  by_cases h1 : i < 0
  · rw [if_pos h1, if_neg (by omega), bq_KO_at_14]
  · rw [if_neg h1]
    by_cases h2 : i < 12
    · rw [if_pos h2, if_pos (by omega)]
      exact propext ⟨fun w => w.2, fun w => ⟨⟨by omega, h2⟩, w⟩⟩
    · rw [if_neg h2, if_neg (by omega), bq_KO_at_14]
theorem sp_at_41 {d L kp : Nat} {h : Nat → Nat → Int} {Q : Option am_V → am_H → Prop} {i : Int} : am_Wp d 14 0 [some (Sum.inr (Sum.inr 41)), some (Sum.inl i)] [] (am_SH L, h, am_RR kp) Q = Q (some (Sum.inl (am_lk (h 41) 7 i))) (am_SH L, h, am_RR kp) := by
  rw [bq_KO_at_v2_0]
  unfold am_lk
  by_cases h1 : i < 0
  · rw [if_pos h1, if_neg (by omega), bq_KO_at_v2_14]
  · rw [if_neg h1]
    by_cases h2 : i < 7
    · rw [if_pos h2, if_pos (by omega)]
      exact propext ⟨fun w => w.2, fun w => ⟨⟨by omega, h2⟩, w⟩⟩
    · rw [if_neg h2, if_neg (by omega), bq_KO_at_v2_14]
theorem sp_at_28 {d L kp : Nat} {h : Nat → Nat → Int} {Q : Option am_V → am_H → Prop} {i : Int} : am_Wp d 14 0 [some (Sum.inr (Sum.inr 28)), some (Sum.inl i)] [] (am_SH L, h, am_RR kp) Q = Q (some (Sum.inl (am_lk (h 28) 96 i))) (am_SH L, h, am_RR kp) := by
  rw [bq_KO_at_v3_0]
  unfold am_lk
  by_cases h1 : i < 0
  · rw [if_pos h1, if_neg (by omega), bq_KO_at_v3_14]
  · rw [if_neg h1]
    by_cases h2 : i < 96
    · rw [if_pos h2, if_pos (by omega)]
      exact propext ⟨fun w => w.2, fun w => ⟨⟨by omega, h2⟩, w⟩⟩
    · rw [if_neg h2, if_neg (by omega), bq_KO_at_v3_14]
theorem sp_at_3 {d L kp : Nat} {h : Nat → Nat → Int} {Q : Option am_V → am_H → Prop} {i : Int} : am_Wp d 14 0 [some (Sum.inr (Sum.inr 3)), some (Sum.inl i)] [] (am_SH L, h, am_RR kp) Q = Q (some (Sum.inl (am_lk (h 3) 7 i))) (am_SH L, h, am_RR kp) := by
  rw [bq_KO_at_v4_0]
  unfold am_lk
  by_cases h1 : i < 0
  · rw [if_pos h1, if_neg (by omega), bq_KO_at_v4_14]
  · rw [if_neg h1]
    by_cases h2 : i < 7
    · rw [if_pos h2, if_pos (by omega)]
      exact propext ⟨fun w => w.2, fun w => ⟨⟨by omega, h2⟩, w⟩⟩
    · rw [if_neg h2, if_neg (by omega), bq_KO_at_v4_14]
theorem sp_at_4 {d L kp : Nat} {h : Nat → Nat → Int} {Q : Option am_V → am_H → Prop} {i : Int} : am_Wp d 14 0 [some (Sum.inr (Sum.inr 4)), some (Sum.inl i)] [] (am_SH L, h, am_RR kp) Q = Q (some (Sum.inl (am_lk (h 4) 7 i))) (am_SH L, h, am_RR kp) := by
  rw [bq_KO_at_v5_0]
  unfold am_lk
  by_cases h1 : i < 0
  · rw [if_pos h1, if_neg (by omega), bq_KO_at_v5_14]
  · rw [if_neg h1]
    by_cases h2 : i < 7
    · rw [if_pos h2, if_pos (by omega)]
      exact propext ⟨fun w => w.2, fun w => ⟨⟨by omega, h2⟩, w⟩⟩
    · rw [if_neg h2, if_neg (by omega), bq_KO_at_v5_14]
theorem sp_at_5 {d L kp : Nat} {h : Nat → Nat → Int} {Q : Option am_V → am_H → Prop} {i : Int} : am_Wp d 14 0 [some (Sum.inr (Sum.inr 5)), some (Sum.inl i)] [] (am_SH L, h, am_RR kp) Q = Q (some (Sum.inl (am_lk (h 5) 7 i))) (am_SH L, h, am_RR kp) := by
  rw [bq_KO_at_v6_0]
  unfold am_lk
  by_cases h1 : i < 0
  · rw [if_pos h1, if_neg (by omega), bq_KO_at_v6_14]
  · rw [if_neg h1]
    by_cases h2 : i < 7
    · rw [if_pos h2, if_pos (by omega)]
      exact propext ⟨fun w => w.2, fun w => ⟨⟨by omega, h2⟩, w⟩⟩
    · rw [if_neg h2, if_neg (by omega), bq_KO_at_v6_14]
theorem sp_at_8 {d L kp : Nat} {h : Nat → Nat → Int} {Q : Option am_V → am_H → Prop} {i : Int} : am_Wp d 14 0 [some (Sum.inr (Sum.inr 8)), some (Sum.inl i)] [] (am_SH L, h, am_RR kp) Q = Q (some (Sum.inl (am_lk (h 8) 16 i))) (am_SH L, h, am_RR kp) := by
  rw [bq_KO_at_v7_0]
  unfold am_lk
  by_cases h1 : i < 0
  · rw [if_pos h1, if_neg (by omega), bq_KO_at_v7_14]
  · rw [if_neg h1]
    by_cases h2 : i < 16
    · rw [if_pos h2, if_pos (by omega)]
      exact propext ⟨fun w => w.2, fun w => ⟨⟨by omega, h2⟩, w⟩⟩
    · rw [if_neg h2, if_neg (by omega), bq_KO_at_v7_14]
theorem sp_at_6 {d L kp : Nat} {h : Nat → Nat → Int} {Q : Option am_V → am_H → Prop} {i : Int} : am_Wp d 14 0 [some (Sum.inr (Sum.inr 6)), some (Sum.inl i)] [] (am_SH L, h, am_RR kp) Q = Q (some (Sum.inl (am_lk (h 6) 7 i))) (am_SH L, h, am_RR kp) := by
  rw [bq_KO_at_v8_0]
  unfold am_lk
  by_cases h1 : i < 0
  · rw [if_pos h1, if_neg (by omega), bq_KO_at_v8_14]
  · rw [if_neg h1]
    by_cases h2 : i < 7
    · rw [if_pos h2, if_pos (by omega)]
      exact propext ⟨fun w => w.2, fun w => ⟨⟨by omega, h2⟩, w⟩⟩
    · rw [if_neg h2, if_neg (by omega), bq_KO_at_v8_14]
theorem sp_at_7 {d L kp : Nat} {h : Nat → Nat → Int} {Q : Option am_V → am_H → Prop} {i : Int} : am_Wp d 14 0 [some (Sum.inr (Sum.inr 7)), some (Sum.inl i)] [] (am_SH L, h, am_RR kp) Q = Q (some (Sum.inl (am_lk (h 7) 16 i))) (am_SH L, h, am_RR kp) := by
  rw [bq_KO_at_v9_0]
  unfold am_lk
  by_cases h1 : i < 0
  · rw [if_pos h1, if_neg (by omega), bq_KO_at_v9_14]
  · rw [if_neg h1]
    by_cases h2 : i < 16
    · rw [if_pos h2, if_pos (by omega)]
      exact propext ⟨fun w => w.2, fun w => ⟨⟨by omega, h2⟩, w⟩⟩
    · rw [if_neg h2, if_neg (by omega), bq_KO_at_v9_14]
theorem sp_at_9 {d L kp : Nat} {h : Nat → Nat → Int} {Q : Option am_V → am_H → Prop} {i : Int} : am_Wp d 14 0 [some (Sum.inr (Sum.inr 9)), some (Sum.inl i)] [] (am_SH L, h, am_RR kp) Q = Q (some (Sum.inl (am_lk (h 9) 16 i))) (am_SH L, h, am_RR kp) := by
  rw [bq_KO_at_v10_0]
  unfold am_lk
  by_cases h1 : i < 0
  · rw [if_pos h1, if_neg (by omega), bq_KO_at_v10_14]
  · rw [if_neg h1]
    by_cases h2 : i < 16
    · rw [if_pos h2, if_pos (by omega)]
      exact propext ⟨fun w => w.2, fun w => ⟨⟨by omega, h2⟩, w⟩⟩
    · rw [if_neg h2, if_neg (by omega), bq_KO_at_v10_14]
theorem sp_at_10 {d L kp : Nat} {h : Nat → Nat → Int} {Q : Option am_V → am_H → Prop} {i : Int} : am_Wp d 14 0 [some (Sum.inr (Sum.inr 10)), some (Sum.inl i)] [] (am_SH L, h, am_RR kp) Q = Q (some (Sum.inl (am_lk (h 10) 16 i))) (am_SH L, h, am_RR kp) := by
  rw [bq_KO_at_v11_0]
  unfold am_lk
  by_cases h1 : i < 0
  · rw [if_pos h1, if_neg (by omega), bq_KO_at_v11_14]
  · rw [if_neg h1]
    by_cases h2 : i < 16
    · rw [if_pos h2, if_pos (by omega)]
      exact propext ⟨fun w => w.2, fun w => ⟨⟨by omega, h2⟩, w⟩⟩
    · rw [if_neg h2, if_neg (by omega), bq_KO_at_v11_14]
theorem sp_at_11 {d L kp : Nat} {h : Nat → Nat → Int} {Q : Option am_V → am_H → Prop} {i : Int} : am_Wp d 14 0 [some (Sum.inr (Sum.inr 11)), some (Sum.inl i)] [] (am_SH L, h, am_RR kp) Q = Q (some (Sum.inl (am_lk (h 11) 16 i))) (am_SH L, h, am_RR kp) := by
  rw [bq_KO_at_v12_0]
  unfold am_lk
  by_cases h1 : i < 0
  · rw [if_pos h1, if_neg (by omega), bq_KO_at_v12_14]
  · rw [if_neg h1]
    by_cases h2 : i < 16
    · rw [if_pos h2, if_pos (by omega)]
      exact propext ⟨fun w => w.2, fun w => ⟨⟨by omega, h2⟩, w⟩⟩
    · rw [if_neg h2, if_neg (by omega), bq_KO_at_v12_14]
theorem sp_at_12 {d L kp : Nat} {h : Nat → Nat → Int} {Q : Option am_V → am_H → Prop} {i : Int} : am_Wp d 14 0 [some (Sum.inr (Sum.inr 12)), some (Sum.inl i)] [] (am_SH L, h, am_RR kp) Q = Q (some (Sum.inl (am_lk (h 12) 16 i))) (am_SH L, h, am_RR kp) := by
  rw [bq_KO_at_v13_0]
  unfold am_lk
  by_cases h1 : i < 0
  · rw [if_pos h1, if_neg (by omega), bq_KO_at_v13_14]
  · rw [if_neg h1]
    by_cases h2 : i < 16
    · rw [if_pos h2, if_pos (by omega)]
      exact propext ⟨fun w => w.2, fun w => ⟨⟨by omega, h2⟩, w⟩⟩
    · rw [if_neg h2, if_neg (by omega), bq_KO_at_v13_14]
theorem sp_at_25 {d L kp : Nat} {h : Nat → Nat → Int} {Q : Option am_V → am_H → Prop} {i : Int} : am_Wp d 14 0 [some (Sum.inr (Sum.inr 25)), some (Sum.inl i)] [] (am_SH L, h, am_RR kp) Q = Q (some (Sum.inl (am_lk (h 25) 8 i))) (am_SH L, h, am_RR kp) := by
  rw [bq_KO_at_v14_0]
  unfold am_lk
  by_cases h1 : i < 0
  · rw [if_pos h1, if_neg (by omega), bq_KO_at_v14_14]
  · rw [if_neg h1]
    by_cases h2 : i < 8
    · rw [if_pos h2, if_pos (by omega)]
      exact propext ⟨fun w => w.2, fun w => ⟨⟨by omega, h2⟩, w⟩⟩
    · rw [if_neg h2, if_neg (by omega), bq_KO_at_v14_14]
theorem sp_at_26 {d L kp : Nat} {h : Nat → Nat → Int} {Q : Option am_V → am_H → Prop} {i : Int} : am_Wp d 14 0 [some (Sum.inr (Sum.inr 26)), some (Sum.inl i)] [] (am_SH L, h, am_RR kp) Q = Q (some (Sum.inl (am_lk (h 26) 8 i))) (am_SH L, h, am_RR kp) := by
  rw [bq_KO_at_v15_0]
  unfold am_lk
  by_cases h1 : i < 0
  · rw [if_pos h1, if_neg (by omega), bq_KO_at_v15_14]
  · rw [if_neg h1]
    by_cases h2 : i < 8
    · rw [if_pos h2, if_pos (by omega)]
      exact propext ⟨fun w => w.2, fun w => ⟨⟨by omega, h2⟩, w⟩⟩
    · rw [if_neg h2, if_neg (by omega), bq_KO_at_v15_14]
theorem sp_at_43 {d L kp : Nat} {h : Nat → Nat → Int} {Q : Option am_V → am_H → Prop} {i : Int} : am_Wp d 14 0 [some (Sum.inr (Sum.inr 43)), some (Sum.inl i)] [] (am_SH L, h, am_RR kp) Q = Q (some (Sum.inl (am_lk (h 43) 49 i))) (am_SH L, h, am_RR kp) := by
  rw [bq_KO_at_v16_0]
  unfold am_lk
  by_cases h1 : i < 0
  · rw [if_pos h1, if_neg (by omega), bq_KO_at_v16_14]
  · rw [if_neg h1]
    by_cases h2 : i < 49
    · rw [if_pos h2, if_pos (by omega)]
      exact propext ⟨fun w => w.2, fun w => ⟨⟨by omega, h2⟩, w⟩⟩
    · rw [if_neg h2, if_neg (by omega), bq_KO_at_v16_14]
theorem sp_at_44 {d L kp : Nat} {h : Nat → Nat → Int} {Q : Option am_V → am_H → Prop} {i : Int} : am_Wp d 14 0 [some (Sum.inr (Sum.inr 44)), some (Sum.inl i)] [] (am_SH L, h, am_RR kp) Q = Q (some (Sum.inl (am_lk (h 44) 7 i))) (am_SH L, h, am_RR kp) := by
  rw [bq_KO_at_v17_0]
  unfold am_lk
  by_cases h1 : i < 0
  · rw [if_pos h1, if_neg (by omega), bq_KO_at_v17_14]
  · rw [if_neg h1]
    by_cases h2 : i < 7
    · rw [if_pos h2, if_pos (by omega)]
      exact propext ⟨fun w => w.2, fun w => ⟨⟨by omega, h2⟩, w⟩⟩
    · rw [if_neg h2, if_neg (by omega), bq_KO_at_v17_14]
theorem sp_at_50 {d L kp : Nat} {h : Nat → Nat → Int} {Q : Option am_V → am_H → Prop} {i : Int} : am_Wp d 14 0 [some (Sum.inr (Sum.inr 50)), some (Sum.inl i)] [] (am_SH L, h, am_RR kp) Q = Q (some (Sum.inl (am_lk (h 50) 128 i))) (am_SH L, h, am_RR kp) := by
  rw [bq_KO_at_v18_0]
  unfold am_lk
  by_cases h1 : i < 0
  · rw [if_pos h1, if_neg (by omega), bq_KO_at_v18_14]
  · rw [if_neg h1]
    by_cases h2 : i < 128
    · rw [if_pos h2, if_pos (by omega)]
      exact propext ⟨fun w => w.2, fun w => ⟨⟨by omega, h2⟩, w⟩⟩
    · rw [if_neg h2, if_neg (by omega), bq_KO_at_v18_14]
theorem sp_at_49 {d L kp : Nat} {h : Nat → Nat → Int} {Q : Option am_V → am_H → Prop} {i : Int} : am_Wp d 14 0 [some (Sum.inr (Sum.inr 49)), some (Sum.inl i)] [] (am_SH L, h, am_RR kp) Q = Q (some (Sum.inl (am_lk (h 49) 128 i))) (am_SH L, h, am_RR kp) := by
  rw [bq_KO_at_v19_0]
  unfold am_lk
  by_cases h1 : i < 0
  · rw [if_pos h1, if_neg (by omega), bq_KO_at_v19_14]
  · rw [if_neg h1]
    by_cases h2 : i < 128
    · rw [if_pos h2, if_pos (by omega)]
      exact propext ⟨fun w => w.2, fun w => ⟨⟨by omega, h2⟩, w⟩⟩
    · rw [if_neg h2, if_neg (by omega), bq_KO_at_v19_14]
theorem sp_at_48 {d L kp : Nat} {h : Nat → Nat → Int} {Q : Option am_V → am_H → Prop} {i : Int} : am_Wp d 14 0 [some (Sum.inr (Sum.inr 48)), some (Sum.inl i)] [] (am_SH L, h, am_RR kp) Q = Q (some (Sum.inl (am_lk (h 48) 7 i))) (am_SH L, h, am_RR kp) := by
  rw [bq_KO_at_v20_0]
  unfold am_lk
  by_cases h1 : i < 0
  · rw [if_pos h1, if_neg (by omega), bq_KO_at_v20_14]
  · rw [if_neg h1]
    by_cases h2 : i < 7
    · rw [if_pos h2, if_pos (by omega)]
      exact propext ⟨fun w => w.2, fun w => ⟨⟨by omega, h2⟩, w⟩⟩
    · rw [if_neg h2, if_neg (by omega), bq_KO_at_v20_14]
theorem sp_at_52 {d L kp : Nat} {h : Nat → Nat → Int} {Q : Option am_V → am_H → Prop} {i : Int} : am_Wp d 14 0 [some (Sum.inr (Sum.inr 52)), some (Sum.inl i)] [] (am_SH L, h, am_RR kp) Q = Q (some (Sum.inl (am_lk (h 52) 21 i))) (am_SH L, h, am_RR kp) := by
  rw [bq_KO_at_v21_0]
  unfold am_lk
  by_cases h1 : i < 0
  · rw [if_pos h1, if_neg (by omega), bq_KO_at_v21_14]
  · rw [if_neg h1]
    by_cases h2 : i < 21
    · rw [if_pos h2, if_pos (by omega)]
      exact propext ⟨fun w => w.2, fun w => ⟨⟨by omega, h2⟩, w⟩⟩
    · rw [if_neg h2, if_neg (by omega), bq_KO_at_v21_14]
theorem sp_at_53 {d L kp : Nat} {h : Nat → Nat → Int} {Q : Option am_V → am_H → Prop} {i : Int} : am_Wp d 14 0 [some (Sum.inr (Sum.inr 53)), some (Sum.inl i)] [] (am_SH L, h, am_RR kp) Q = Q (some (Sum.inl (am_lk (h 53) 21 i))) (am_SH L, h, am_RR kp) := by
  rw [bq_KO_at_v22_0]
  unfold am_lk
  by_cases h1 : i < 0
  · rw [if_pos h1, if_neg (by omega), bq_KO_at_v22_14]
  · rw [if_neg h1]
    by_cases h2 : i < 21
    · rw [if_pos h2, if_pos (by omega)]
      exact propext ⟨fun w => w.2, fun w => ⟨⟨by omega, h2⟩, w⟩⟩
    · rw [if_neg h2, if_neg (by omega), bq_KO_at_v22_14]
theorem sp_at_58 {d L kp : Nat} {h : Nat → Nat → Int} {Q : Option am_V → am_H → Prop} {i : Int} : am_Wp d 14 0 [some (Sum.inr (Sum.inr 58)), some (Sum.inl i)] [] (am_SH L, h, am_RR kp) Q = Q (some (Sum.inl (am_lk (h 58) 7 i))) (am_SH L, h, am_RR kp) := by
  rw [bq_KO_at_v23_0]
  unfold am_lk
  by_cases h1 : i < 0
  · rw [if_pos h1, if_neg (by omega), bq_KO_at_v23_14]
  · rw [if_neg h1]
    by_cases h2 : i < 7
    · rw [if_pos h2, if_pos (by omega)]
      exact propext ⟨fun w => w.2, fun w => ⟨⟨by omega, h2⟩, w⟩⟩
    · rw [if_neg h2, if_neg (by omega), bq_KO_at_v23_14]
theorem sp_at_56 {d L kp : Nat} {h : Nat → Nat → Int} {Q : Option am_V → am_H → Prop} {i : Int} : am_Wp d 14 0 [some (Sum.inr (Sum.inr 56)), some (Sum.inl i)] [] (am_SH L, h, am_RR kp) Q = Q (some (Sum.inl (am_lk (h 56) 7 i))) (am_SH L, h, am_RR kp) := by
  rw [bq_KO_at_v24_0]
  unfold am_lk
  by_cases h1 : i < 0
  · rw [if_pos h1, if_neg (by omega), bq_KO_at_v24_14]
  · rw [if_neg h1]
    by_cases h2 : i < 7
    · rw [if_pos h2, if_pos (by omega)]
      exact propext ⟨fun w => w.2, fun w => ⟨⟨by omega, h2⟩, w⟩⟩
    · rw [if_neg h2, if_neg (by omega), bq_KO_at_v24_14]
theorem sp_at_62 {d L kp : Nat} {h : Nat → Nat → Int} {Q : Option am_V → am_H → Prop} {i : Int} : am_Wp d 14 0 [some (Sum.inr (Sum.inr 62)), some (Sum.inl i)] [] (am_SH L, h, am_RR kp) Q = Q (some (Sum.inl (am_lk (h 62) 7 i))) (am_SH L, h, am_RR kp) := by
  rw [bq_KO_at_v25_0]
  unfold am_lk
  by_cases h1 : i < 0
  · rw [if_pos h1, if_neg (by omega), bq_KO_at_v25_14]
  · rw [if_neg h1]
    by_cases h2 : i < 7
    · rw [if_pos h2, if_pos (by omega)]
      exact propext ⟨fun w => w.2, fun w => ⟨⟨by omega, h2⟩, w⟩⟩
    · rw [if_neg h2, if_neg (by omega), bq_KO_at_v25_14]
theorem sp_at_65 {d L kp : Nat} {h : Nat → Nat → Int} {Q : Option am_V → am_H → Prop} {i : Int} : am_Wp d 14 0 [some (Sum.inr (Sum.inr 65)), some (Sum.inl i)] [] (am_SH L, h, am_RR kp) Q = Q (some (Sum.inl (am_lk (h 65) 7 i))) (am_SH L, h, am_RR kp) := by
  rw [bq_KO_at_v26_0]
  unfold am_lk
  by_cases h1 : i < 0
  · rw [if_pos h1, if_neg (by omega), bq_KO_at_v26_14]
  · rw [if_neg h1]
    by_cases h2 : i < 7
    · rw [if_pos h2, if_pos (by omega)]
      exact propext ⟨fun w => w.2, fun w => ⟨⟨by omega, h2⟩, w⟩⟩
    · rw [if_neg h2, if_neg (by omega), bq_KO_at_v26_14]
theorem sp_at_59 {d L kp : Nat} {h : Nat → Nat → Int} {Q : Option am_V → am_H → Prop} {i : Int} : am_Wp d 14 0 [some (Sum.inr (Sum.inr 59)), some (Sum.inl i)] [] (am_SH L, h, am_RR kp) Q = Q (some (Sum.inl (am_lk (h 59) 128 i))) (am_SH L, h, am_RR kp) := by
  rw [bq_KO_at_v27_0]
  unfold am_lk
  by_cases h1 : i < 0
  · rw [if_pos h1, if_neg (by omega), bq_KO_at_v27_14]
  · rw [if_neg h1]
    by_cases h2 : i < 128
    · rw [if_pos h2, if_pos (by omega)]
      exact propext ⟨fun w => w.2, fun w => ⟨⟨by omega, h2⟩, w⟩⟩
    · rw [if_neg h2, if_neg (by omega), bq_KO_at_v27_14]
theorem sp_at_55 {d L kp : Nat} {h : Nat → Nat → Int} {Q : Option am_V → am_H → Prop} {i : Int} : am_Wp d 14 0 [some (Sum.inr (Sum.inr 55)), some (Sum.inl i)] [] (am_SH L, h, am_RR kp) Q = Q (some (Sum.inl (am_lk (h 55) 7 i))) (am_SH L, h, am_RR kp) := by
  rw [bq_KO_at_v28_0]
  unfold am_lk
  by_cases h1 : i < 0
  · rw [if_pos h1, if_neg (by omega), bq_KO_at_v28_14]
  · rw [if_neg h1]
    by_cases h2 : i < 7
    · rw [if_pos h2, if_pos (by omega)]
      exact propext ⟨fun w => w.2, fun w => ⟨⟨by omega, h2⟩, w⟩⟩
    · rw [if_neg h2, if_neg (by omega), bq_KO_at_v28_14]
theorem sp_at_54 {d L kp : Nat} {h : Nat → Nat → Int} {Q : Option am_V → am_H → Prop} {i : Int} : am_Wp d 14 0 [some (Sum.inr (Sum.inr 54)), some (Sum.inl i)] [] (am_SH L, h, am_RR kp) Q = Q (some (Sum.inl (am_lk (h 54) 21 i))) (am_SH L, h, am_RR kp) := by
  rw [bq_KO_at_v29_0]
  unfold am_lk
  by_cases h1 : i < 0
  · rw [if_pos h1, if_neg (by omega), bq_KO_at_v29_14]
  · rw [if_neg h1]
    by_cases h2 : i < 21
    · rw [if_pos h2, if_pos (by omega)]
      exact propext ⟨fun w => w.2, fun w => ⟨⟨by omega, h2⟩, w⟩⟩
    · rw [if_neg h2, if_neg (by omega), bq_KO_at_v29_14]
theorem sp_at_46 {d L kp : Nat} {h : Nat → Nat → Int} {Q : Option am_V → am_H → Prop} {i : Int} : am_Wp d 14 0 [some (Sum.inr (Sum.inr 46)), some (Sum.inl i)] [] (am_SH L, h, am_RR kp) Q = Q (some (Sum.inl (am_lk (h 46) 7 i))) (am_SH L, h, am_RR kp) := by
  rw [bq_KO_at_v30_0]
  unfold am_lk
  by_cases h1 : i < 0
  · rw [if_pos h1, if_neg (by omega), bq_KO_at_v30_14]
  · rw [if_neg h1]
    by_cases h2 : i < 7
    · rw [if_pos h2, if_pos (by omega)]
      exact propext ⟨fun w => w.2, fun w => ⟨⟨by omega, h2⟩, w⟩⟩
    · rw [if_neg h2, if_neg (by omega), bq_KO_at_v30_14]
theorem sp_at_69 {d L kp : Nat} {h : Nat → Nat → Int} {Q : Option am_V → am_H → Prop} {i : Int} : am_Wp d 14 0 [some (Sum.inr (Sum.inr 69)), some (Sum.inl i)] [] (am_SH L, h, am_RR kp) Q = Q (some (Sum.inl (am_lk (h 69) 16 i))) (am_SH L, h, am_RR kp) := by
  rw [bq_KO_at_v31_0]
  unfold am_lk
  by_cases h1 : i < 0
  · rw [if_pos h1, if_neg (by omega), bq_KO_at_v31_14]
  · rw [if_neg h1]
    by_cases h2 : i < 16
    · rw [if_pos h2, if_pos (by omega)]
      exact propext ⟨fun w => w.2, fun w => ⟨⟨by omega, h2⟩, w⟩⟩
    · rw [if_neg h2, if_neg (by omega), bq_KO_at_v31_14]
theorem sp_at_68 {d L kp : Nat} {h : Nat → Nat → Int} {Q : Option am_V → am_H → Prop} {i : Int} : am_Wp d 14 0 [some (Sum.inr (Sum.inr 68)), some (Sum.inl i)] [] (am_SH L, h, am_RR kp) Q = Q (some (Sum.inl (am_lk (h 68) 16 i))) (am_SH L, h, am_RR kp) := by
  rw [bq_KO_at_v32_0]
  unfold am_lk
  by_cases h1 : i < 0
  · rw [if_pos h1, if_neg (by omega), bq_KO_at_v32_14]
  · rw [if_neg h1]
    by_cases h2 : i < 16
    · rw [if_pos h2, if_pos (by omega)]
      exact propext ⟨fun w => w.2, fun w => ⟨⟨by omega, h2⟩, w⟩⟩
    · rw [if_neg h2, if_neg (by omega), bq_KO_at_v32_14]
theorem sp_at_67 {d L kp : Nat} {h : Nat → Nat → Int} {Q : Option am_V → am_H → Prop} {i : Int} : am_Wp d 14 0 [some (Sum.inr (Sum.inr 67)), some (Sum.inl i)] [] (am_SH L, h, am_RR kp) Q = Q (some (Sum.inl (am_lk (h 67) 16 i))) (am_SH L, h, am_RR kp) := by
  rw [bq_KO_at_v33_0]
  unfold am_lk
  by_cases h1 : i < 0
  · rw [if_pos h1, if_neg (by omega), bq_KO_at_v33_14]
  · rw [if_neg h1]
    by_cases h2 : i < 16
    · rw [if_pos h2, if_pos (by omega)]
      exact propext ⟨fun w => w.2, fun w => ⟨⟨by omega, h2⟩, w⟩⟩
    · rw [if_neg h2, if_neg (by omega), bq_KO_at_v33_14]
theorem sp_at_64 {d L kp : Nat} {h : Nat → Nat → Int} {Q : Option am_V → am_H → Prop} {i : Int} : am_Wp d 14 0 [some (Sum.inr (Sum.inr 64)), some (Sum.inl i)] [] (am_SH L, h, am_RR kp) Q = Q (some (Sum.inl (am_lk (h 64) 49 i))) (am_SH L, h, am_RR kp) := by
  rw [bq_KO_at_v34_0]
  unfold am_lk
  by_cases h1 : i < 0
  · rw [if_pos h1, if_neg (by omega), bq_KO_at_v34_14]
  · rw [if_neg h1]
    by_cases h2 : i < 49
    · rw [if_pos h2, if_pos (by omega)]
      exact propext ⟨fun w => w.2, fun w => ⟨⟨by omega, h2⟩, w⟩⟩
    · rw [if_neg h2, if_neg (by omega), bq_KO_at_v34_14]
theorem sp_at_60 {d L kp : Nat} {h : Nat → Nat → Int} {Q : Option am_V → am_H → Prop} {i : Int} : am_Wp d 14 0 [some (Sum.inr (Sum.inr 60)), some (Sum.inl i)] [] (am_SH L, h, am_RR kp) Q = Q (some (Sum.inl (am_lk (h 60) 128 i))) (am_SH L, h, am_RR kp) := by
  rw [bq_KO_at_v35_0]
  unfold am_lk
  by_cases h1 : i < 0
  · rw [if_pos h1, if_neg (by omega), bq_KO_at_v35_14]
  · rw [if_neg h1]
    by_cases h2 : i < 128
    · rw [if_pos h2, if_pos (by omega)]
      exact propext ⟨fun w => w.2, fun w => ⟨⟨by omega, h2⟩, w⟩⟩
    · rw [if_neg h2, if_neg (by omega), bq_KO_at_v35_14]
theorem sp_at_35 {d L kp : Nat} {h : Nat → Nat → Int} {Q : Option am_V → am_H → Prop} {i : Int} : am_Wp d 14 0 [some (Sum.inr (Sum.inr 35)), some (Sum.inl i)] [] (am_SH L, h, am_RR kp) Q = Q (some (Sum.inl (am_lk (h 35) 16 i))) (am_SH L, h, am_RR kp) := by
  rw [bq_KO_at_v36_0]
  unfold am_lk
  by_cases h1 : i < 0
  · rw [if_pos h1, if_neg (by omega), bq_KO_at_v36_14]
  · rw [if_neg h1]
    by_cases h2 : i < 16
    · rw [if_pos h2, if_pos (by omega)]
      exact propext ⟨fun w => w.2, fun w => ⟨⟨by omega, h2⟩, w⟩⟩
    · rw [if_neg h2, if_neg (by omega), bq_KO_at_v36_14]
theorem sp_at_36 {d L kp : Nat} {h : Nat → Nat → Int} {Q : Option am_V → am_H → Prop} {i : Int} : am_Wp d 14 0 [some (Sum.inr (Sum.inr 36)), some (Sum.inl i)] [] (am_SH L, h, am_RR kp) Q = Q (some (Sum.inl (am_lk (h 36) 16 i))) (am_SH L, h, am_RR kp) := by
  rw [bq_KO_at_v37_0]
  unfold am_lk
  by_cases h1 : i < 0
  · rw [if_pos h1, if_neg (by omega), bq_KO_at_v37_14]
  · rw [if_neg h1]
    by_cases h2 : i < 16
    · rw [if_pos h2, if_pos (by omega)]
      exact propext ⟨fun w => w.2, fun w => ⟨⟨by omega, h2⟩, w⟩⟩
    · rw [if_neg h2, if_neg (by omega), bq_KO_at_v37_14]
theorem sp_at_34 {d L kp : Nat} {h : Nat → Nat → Int} {Q : Option am_V → am_H → Prop} {i : Int} : am_Wp d 14 0 [some (Sum.inr (Sum.inr 34)), some (Sum.inl i)] [] (am_SH L, h, am_RR kp) Q = Q (some (Sum.inl (am_lk (h 34) 16 i))) (am_SH L, h, am_RR kp) := by
  rw [bq_KO_at_v38_0]
  unfold am_lk
  by_cases h1 : i < 0
  · rw [if_pos h1, if_neg (by omega), bq_KO_at_v38_14]
  · rw [if_neg h1]
    by_cases h2 : i < 16
    · rw [if_pos h2, if_pos (by omega)]
      exact propext ⟨fun w => w.2, fun w => ⟨⟨by omega, h2⟩, w⟩⟩
    · rw [if_neg h2, if_neg (by omega), bq_KO_at_v38_14]
theorem sp_at_33 {d L kp : Nat} {h : Nat → Nat → Int} {Q : Option am_V → am_H → Prop} {i : Int} : am_Wp d 14 0 [some (Sum.inr (Sum.inr 33)), some (Sum.inl i)] [] (am_SH L, h, am_RR kp) Q = Q (some (Sum.inl (am_lk (h 33) 7 i))) (am_SH L, h, am_RR kp) := by
  rw [bq_KO_at_v39_0]
  unfold am_lk
  by_cases h1 : i < 0
  · rw [if_pos h1, if_neg (by omega), bq_KO_at_v39_14]
  · rw [if_neg h1]
    by_cases h2 : i < 7
    · rw [if_pos h2, if_pos (by omega)]
      exact propext ⟨fun w => w.2, fun w => ⟨⟨by omega, h2⟩, w⟩⟩
    · rw [if_neg h2, if_neg (by omega), bq_KO_at_v39_14]
theorem sp_at_37 {d L kp : Nat} {h : Nat → Nat → Int} {Q : Option am_V → am_H → Prop} {i : Int} : am_Wp d 14 0 [some (Sum.inr (Sum.inr 37)), some (Sum.inl i)] [] (am_SH L, h, am_RR kp) Q = Q (some (Sum.inl (am_lk (h 37) 16 i))) (am_SH L, h, am_RR kp) := by
  rw [bq_KO_at_v40_0]
  unfold am_lk
  by_cases h1 : i < 0
  · rw [if_pos h1, if_neg (by omega), bq_KO_at_v40_14]
  · rw [if_neg h1]
    by_cases h2 : i < 16
    · rw [if_pos h2, if_pos (by omega)]
      exact propext ⟨fun w => w.2, fun w => ⟨⟨by omega, h2⟩, w⟩⟩
    · rw [if_neg h2, if_neg (by omega), bq_KO_at_v40_14]
theorem sp_at_38 {d L kp : Nat} {h : Nat → Nat → Int} {Q : Option am_V → am_H → Prop} {i : Int} : am_Wp d 14 0 [some (Sum.inr (Sum.inr 38)), some (Sum.inl i)] [] (am_SH L, h, am_RR kp) Q = Q (some (Sum.inl (am_lk (h 38) 16 i))) (am_SH L, h, am_RR kp) := by
  rw [bq_KO_at_v41_0]
  unfold am_lk
  by_cases h1 : i < 0
  · rw [if_pos h1, if_neg (by omega), bq_KO_at_v41_14]
  · rw [if_neg h1]
    by_cases h2 : i < 16
    · rw [if_pos h2, if_pos (by omega)]
      exact propext ⟨fun w => w.2, fun w => ⟨⟨by omega, h2⟩, w⟩⟩
    · rw [if_neg h2, if_neg (by omega), bq_KO_at_v41_14]
theorem sp_at_32 {d L kp : Nat} {h : Nat → Nat → Int} {Q : Option am_V → am_H → Prop} {i : Int} : am_Wp d 14 0 [some (Sum.inr (Sum.inr 32)), some (Sum.inl i)] [] (am_SH L, h, am_RR kp) Q = Q (some (Sum.inl (am_lk (h 32) 7 i))) (am_SH L, h, am_RR kp) := by
  rw [bq_KO_at_v42_0]
  unfold am_lk
  by_cases h1 : i < 0
  · rw [if_pos h1, if_neg (by omega), bq_KO_at_v42_14]
  · rw [if_neg h1]
    by_cases h2 : i < 7
    · rw [if_pos h2, if_pos (by omega)]
      exact propext ⟨fun w => w.2, fun w => ⟨⟨by omega, h2⟩, w⟩⟩
    · rw [if_neg h2, if_neg (by omega), bq_KO_at_v42_14]
theorem sp_at_39 {d L kp : Nat} {h : Nat → Nat → Int} {Q : Option am_V → am_H → Prop} {i : Int} : am_Wp d 14 0 [some (Sum.inr (Sum.inr 39)), some (Sum.inl i)] [] (am_SH L, h, am_RR kp) Q = Q (some (Sum.inl (am_lk (h 39) 16 i))) (am_SH L, h, am_RR kp) := by
  rw [bq_KO_at_v43_0]
  unfold am_lk
  by_cases h1 : i < 0
  · rw [if_pos h1, if_neg (by omega), bq_KO_at_v43_14]
  · rw [if_neg h1]
    by_cases h2 : i < 16
    · rw [if_pos h2, if_pos (by omega)]
      exact propext ⟨fun w => w.2, fun w => ⟨⟨by omega, h2⟩, w⟩⟩
    · rw [if_neg h2, if_neg (by omega), bq_KO_at_v43_14]
theorem sp_put_40 {d L kp : Nat} {h : Nat → Nat → Int} {Q : Option am_V → am_H → Prop} {i x : Int} : am_Wp d 15 0 [some (Sum.inr (Sum.inr 40)), some (Sum.inl i), some (Sum.inl x)] [] (am_SH L, h, am_RR kp) Q = Q none (am_SH L, am_put h 40 12 i x, am_RR kp) := by
  rw [bq_KO_put_0]
  unfold am_put
  by_cases h1 : i < 0
  · rw [if_pos h1, if_neg (by omega), bq_KO_put_14]
  · rw [if_neg h1]
    by_cases h2 : i < 12
    · rw [if_pos h2, if_pos (by omega)]
      exact propext ⟨fun w => w.2, fun w => ⟨⟨by omega, h2⟩, w⟩⟩
    · rw [if_neg h2, if_neg (by omega), bq_KO_put_14]
theorem sp_put_41 {d L kp : Nat} {h : Nat → Nat → Int} {Q : Option am_V → am_H → Prop} {i x : Int} : am_Wp d 15 0 [some (Sum.inr (Sum.inr 41)), some (Sum.inl i), some (Sum.inl x)] [] (am_SH L, h, am_RR kp) Q = Q none (am_SH L, am_put h 41 7 i x, am_RR kp) := by
  rw [bq_KO_put_v2_0]
  unfold am_put
  by_cases h1 : i < 0
  · rw [if_pos h1, if_neg (by omega), bq_KO_put_v2_14]
  · rw [if_neg h1]
    by_cases h2 : i < 7
    · rw [if_pos h2, if_pos (by omega)]
      exact propext ⟨fun w => w.2, fun w => ⟨⟨by omega, h2⟩, w⟩⟩
    · rw [if_neg h2, if_neg (by omega), bq_KO_put_v2_14]
theorem sp_put_28 {d L kp : Nat} {h : Nat → Nat → Int} {Q : Option am_V → am_H → Prop} {i x : Int} : am_Wp d 15 0 [some (Sum.inr (Sum.inr 28)), some (Sum.inl i), some (Sum.inl x)] [] (am_SH L, h, am_RR kp) Q = Q none (am_SH L, am_put h 28 96 i x, am_RR kp) := by
  rw [bq_KO_put_v3_0]
  unfold am_put
  by_cases h1 : i < 0
  · rw [if_pos h1, if_neg (by omega), bq_KO_put_v3_14]
  · rw [if_neg h1]
    by_cases h2 : i < 96
    · rw [if_pos h2, if_pos (by omega)]
      exact propext ⟨fun w => w.2, fun w => ⟨⟨by omega, h2⟩, w⟩⟩
    · rw [if_neg h2, if_neg (by omega), bq_KO_put_v3_14]
theorem sp_put_6 {d L kp : Nat} {h : Nat → Nat → Int} {Q : Option am_V → am_H → Prop} {i x : Int} : am_Wp d 15 0 [some (Sum.inr (Sum.inr 6)), some (Sum.inl i), some (Sum.inl x)] [] (am_SH L, h, am_RR kp) Q = Q none (am_SH L, am_put h 6 7 i x, am_RR kp) := by
  rw [bq_KO_put_v4_0]
  unfold am_put
  by_cases h1 : i < 0
  · rw [if_pos h1, if_neg (by omega), bq_KO_put_v4_14]
  · rw [if_neg h1]
    by_cases h2 : i < 7
    · rw [if_pos h2, if_pos (by omega)]
      exact propext ⟨fun w => w.2, fun w => ⟨⟨by omega, h2⟩, w⟩⟩
    · rw [if_neg h2, if_neg (by omega), bq_KO_put_v4_14]
theorem sp_put_7 {d L kp : Nat} {h : Nat → Nat → Int} {Q : Option am_V → am_H → Prop} {i x : Int} : am_Wp d 15 0 [some (Sum.inr (Sum.inr 7)), some (Sum.inl i), some (Sum.inl x)] [] (am_SH L, h, am_RR kp) Q = Q none (am_SH L, am_put h 7 16 i x, am_RR kp) := by
  rw [bq_KO_put_v5_0]
  unfold am_put
  by_cases h1 : i < 0
  · rw [if_pos h1, if_neg (by omega), bq_KO_put_v5_14]
  · rw [if_neg h1]
    by_cases h2 : i < 16
    · rw [if_pos h2, if_pos (by omega)]
      exact propext ⟨fun w => w.2, fun w => ⟨⟨by omega, h2⟩, w⟩⟩
    · rw [if_neg h2, if_neg (by omega), bq_KO_put_v5_14]
theorem sp_put_8 {d L kp : Nat} {h : Nat → Nat → Int} {Q : Option am_V → am_H → Prop} {i x : Int} : am_Wp d 15 0 [some (Sum.inr (Sum.inr 8)), some (Sum.inl i), some (Sum.inl x)] [] (am_SH L, h, am_RR kp) Q = Q none (am_SH L, am_put h 8 16 i x, am_RR kp) := by
  rw [bq_KO_put_v6_0]
  unfold am_put
  by_cases h1 : i < 0
  · rw [if_pos h1, if_neg (by omega), bq_KO_put_v6_14]
  · rw [if_neg h1]
    by_cases h2 : i < 16
    · rw [if_pos h2, if_pos (by omega)]
      exact propext ⟨fun w => w.2, fun w => ⟨⟨by omega, h2⟩, w⟩⟩
    · rw [if_neg h2, if_neg (by omega), bq_KO_put_v6_14]
theorem sp_put_9 {d L kp : Nat} {h : Nat → Nat → Int} {Q : Option am_V → am_H → Prop} {i x : Int} : am_Wp d 15 0 [some (Sum.inr (Sum.inr 9)), some (Sum.inl i), some (Sum.inl x)] [] (am_SH L, h, am_RR kp) Q = Q none (am_SH L, am_put h 9 16 i x, am_RR kp) := by
  rw [bq_KO_put_v7_0]
  unfold am_put
  by_cases h1 : i < 0
  · rw [if_pos h1, if_neg (by omega), bq_KO_put_v7_14]
  · rw [if_neg h1]
    by_cases h2 : i < 16
    · rw [if_pos h2, if_pos (by omega)]
      exact propext ⟨fun w => w.2, fun w => ⟨⟨by omega, h2⟩, w⟩⟩
    · rw [if_neg h2, if_neg (by omega), bq_KO_put_v7_14]
theorem sp_put_10 {d L kp : Nat} {h : Nat → Nat → Int} {Q : Option am_V → am_H → Prop} {i x : Int} : am_Wp d 15 0 [some (Sum.inr (Sum.inr 10)), some (Sum.inl i), some (Sum.inl x)] [] (am_SH L, h, am_RR kp) Q = Q none (am_SH L, am_put h 10 16 i x, am_RR kp) := by
  rw [bq_KO_put_v8_0]
  unfold am_put
  by_cases h1 : i < 0
  · rw [if_pos h1, if_neg (by omega), bq_KO_put_v8_14]
  · rw [if_neg h1]
    by_cases h2 : i < 16
    · rw [if_pos h2, if_pos (by omega)]
      exact propext ⟨fun w => w.2, fun w => ⟨⟨by omega, h2⟩, w⟩⟩
    · rw [if_neg h2, if_neg (by omega), bq_KO_put_v8_14]
theorem sp_put_11 {d L kp : Nat} {h : Nat → Nat → Int} {Q : Option am_V → am_H → Prop} {i x : Int} : am_Wp d 15 0 [some (Sum.inr (Sum.inr 11)), some (Sum.inl i), some (Sum.inl x)] [] (am_SH L, h, am_RR kp) Q = Q none (am_SH L, am_put h 11 16 i x, am_RR kp) := by
  rw [bq_KO_put_v9_0]
  unfold am_put
  by_cases h1 : i < 0
  · rw [if_pos h1, if_neg (by omega), bq_KO_put_v9_14]
  · rw [if_neg h1]
    by_cases h2 : i < 16
    · rw [if_pos h2, if_pos (by omega)]
      exact propext ⟨fun w => w.2, fun w => ⟨⟨by omega, h2⟩, w⟩⟩
    · rw [if_neg h2, if_neg (by omega), bq_KO_put_v9_14]
theorem sp_put_12 {d L kp : Nat} {h : Nat → Nat → Int} {Q : Option am_V → am_H → Prop} {i x : Int} : am_Wp d 15 0 [some (Sum.inr (Sum.inr 12)), some (Sum.inl i), some (Sum.inl x)] [] (am_SH L, h, am_RR kp) Q = Q none (am_SH L, am_put h 12 16 i x, am_RR kp) := by
  rw [bq_KO_put_v10_0]
  unfold am_put
  by_cases h1 : i < 0
  · rw [if_pos h1, if_neg (by omega), bq_KO_put_v10_14]
  · rw [if_neg h1]
    by_cases h2 : i < 16
    · rw [if_pos h2, if_pos (by omega)]
      exact propext ⟨fun w => w.2, fun w => ⟨⟨by omega, h2⟩, w⟩⟩
    · rw [if_neg h2, if_neg (by omega), bq_KO_put_v10_14]
theorem sp_put_25 {d L kp : Nat} {h : Nat → Nat → Int} {Q : Option am_V → am_H → Prop} {i x : Int} : am_Wp d 15 0 [some (Sum.inr (Sum.inr 25)), some (Sum.inl i), some (Sum.inl x)] [] (am_SH L, h, am_RR kp) Q = Q none (am_SH L, am_put h 25 8 i x, am_RR kp) := by
  rw [bq_KO_put_v11_0]
  unfold am_put
  by_cases h1 : i < 0
  · rw [if_pos h1, if_neg (by omega), bq_KO_put_v11_14]
  · rw [if_neg h1]
    by_cases h2 : i < 8
    · rw [if_pos h2, if_pos (by omega)]
      exact propext ⟨fun w => w.2, fun w => ⟨⟨by omega, h2⟩, w⟩⟩
    · rw [if_neg h2, if_neg (by omega), bq_KO_put_v11_14]
theorem sp_put_26 {d L kp : Nat} {h : Nat → Nat → Int} {Q : Option am_V → am_H → Prop} {i x : Int} : am_Wp d 15 0 [some (Sum.inr (Sum.inr 26)), some (Sum.inl i), some (Sum.inl x)] [] (am_SH L, h, am_RR kp) Q = Q none (am_SH L, am_put h 26 8 i x, am_RR kp) := by
  rw [bq_KO_put_v12_0]
  unfold am_put
  by_cases h1 : i < 0
  · rw [if_pos h1, if_neg (by omega), bq_KO_put_v12_14]
  · rw [if_neg h1]
    by_cases h2 : i < 8
    · rw [if_pos h2, if_pos (by omega)]
      exact propext ⟨fun w => w.2, fun w => ⟨⟨by omega, h2⟩, w⟩⟩
    · rw [if_neg h2, if_neg (by omega), bq_KO_put_v12_14]
theorem sp_put_49 {d L kp : Nat} {h : Nat → Nat → Int} {Q : Option am_V → am_H → Prop} {i x : Int} : am_Wp d 15 0 [some (Sum.inr (Sum.inr 49)), some (Sum.inl i), some (Sum.inl x)] [] (am_SH L, h, am_RR kp) Q = Q none (am_SH L, am_put h 49 128 i x, am_RR kp) := by
  rw [bq_KO_put_v13_0]
  unfold am_put
  by_cases h1 : i < 0
  · rw [if_pos h1, if_neg (by omega), bq_KO_put_v13_14]
  · rw [if_neg h1]
    by_cases h2 : i < 128
    · rw [if_pos h2, if_pos (by omega)]
      exact propext ⟨fun w => w.2, fun w => ⟨⟨by omega, h2⟩, w⟩⟩
    · rw [if_neg h2, if_neg (by omega), bq_KO_put_v13_14]
theorem sp_put_50 {d L kp : Nat} {h : Nat → Nat → Int} {Q : Option am_V → am_H → Prop} {i x : Int} : am_Wp d 15 0 [some (Sum.inr (Sum.inr 50)), some (Sum.inl i), some (Sum.inl x)] [] (am_SH L, h, am_RR kp) Q = Q none (am_SH L, am_put h 50 128 i x, am_RR kp) := by
  rw [bq_KO_put_v14_0]
  unfold am_put
  by_cases h1 : i < 0
  · rw [if_pos h1, if_neg (by omega), bq_KO_put_v14_14]
  · rw [if_neg h1]
    by_cases h2 : i < 128
    · rw [if_pos h2, if_pos (by omega)]
      exact propext ⟨fun w => w.2, fun w => ⟨⟨by omega, h2⟩, w⟩⟩
    · rw [if_neg h2, if_neg (by omega), bq_KO_put_v14_14]
theorem sp_put_48 {d L kp : Nat} {h : Nat → Nat → Int} {Q : Option am_V → am_H → Prop} {i x : Int} : am_Wp d 15 0 [some (Sum.inr (Sum.inr 48)), some (Sum.inl i), some (Sum.inl x)] [] (am_SH L, h, am_RR kp) Q = Q none (am_SH L, am_put h 48 7 i x, am_RR kp) := by
  rw [bq_KO_put_v15_0]
  unfold am_put
  by_cases h1 : i < 0
  · rw [if_pos h1, if_neg (by omega), bq_KO_put_v15_14]
  · rw [if_neg h1]
    by_cases h2 : i < 7
    · rw [if_pos h2, if_pos (by omega)]
      exact propext ⟨fun w => w.2, fun w => ⟨⟨by omega, h2⟩, w⟩⟩
    · rw [if_neg h2, if_neg (by omega), bq_KO_put_v15_14]
theorem sp_put_46 {d L kp : Nat} {h : Nat → Nat → Int} {Q : Option am_V → am_H → Prop} {i x : Int} : am_Wp d 15 0 [some (Sum.inr (Sum.inr 46)), some (Sum.inl i), some (Sum.inl x)] [] (am_SH L, h, am_RR kp) Q = Q none (am_SH L, am_put h 46 7 i x, am_RR kp) := by
  rw [bq_KO_put_v16_0]
  unfold am_put
  by_cases h1 : i < 0
  · rw [if_pos h1, if_neg (by omega), bq_KO_put_v16_14]
  · rw [if_neg h1]
    by_cases h2 : i < 7
    · rw [if_pos h2, if_pos (by omega)]
      exact propext ⟨fun w => w.2, fun w => ⟨⟨by omega, h2⟩, w⟩⟩
    · rw [if_neg h2, if_neg (by omega), bq_KO_put_v16_14]
theorem sp_put_55 {d L kp : Nat} {h : Nat → Nat → Int} {Q : Option am_V → am_H → Prop} {i x : Int} : am_Wp d 15 0 [some (Sum.inr (Sum.inr 55)), some (Sum.inl i), some (Sum.inl x)] [] (am_SH L, h, am_RR kp) Q = Q none (am_SH L, am_put h 55 7 i x, am_RR kp) := by
  rw [bq_KO_put_v17_0]
  unfold am_put
  by_cases h1 : i < 0
  · rw [if_pos h1, if_neg (by omega), bq_KO_put_v17_14]
  · rw [if_neg h1]
    by_cases h2 : i < 7
    · rw [if_pos h2, if_pos (by omega)]
      exact propext ⟨fun w => w.2, fun w => ⟨⟨by omega, h2⟩, w⟩⟩
    · rw [if_neg h2, if_neg (by omega), bq_KO_put_v17_14]
theorem sp_put_67 {d L kp : Nat} {h : Nat → Nat → Int} {Q : Option am_V → am_H → Prop} {i x : Int} : am_Wp d 15 0 [some (Sum.inr (Sum.inr 67)), some (Sum.inl i), some (Sum.inl x)] [] (am_SH L, h, am_RR kp) Q = Q none (am_SH L, am_put h 67 16 i x, am_RR kp) := by
  rw [bq_KO_put_v18_0]
  unfold am_put
  by_cases h1 : i < 0
  · rw [if_pos h1, if_neg (by omega), bq_KO_put_v18_14]
  · rw [if_neg h1]
    by_cases h2 : i < 16
    · rw [if_pos h2, if_pos (by omega)]
      exact propext ⟨fun w => w.2, fun w => ⟨⟨by omega, h2⟩, w⟩⟩
    · rw [if_neg h2, if_neg (by omega), bq_KO_put_v18_14]
theorem sp_put_68 {d L kp : Nat} {h : Nat → Nat → Int} {Q : Option am_V → am_H → Prop} {i x : Int} : am_Wp d 15 0 [some (Sum.inr (Sum.inr 68)), some (Sum.inl i), some (Sum.inl x)] [] (am_SH L, h, am_RR kp) Q = Q none (am_SH L, am_put h 68 16 i x, am_RR kp) := by
  rw [bq_KO_put_v19_0]
  unfold am_put
  by_cases h1 : i < 0
  · rw [if_pos h1, if_neg (by omega), bq_KO_put_v19_14]
  · rw [if_neg h1]
    by_cases h2 : i < 16
    · rw [if_pos h2, if_pos (by omega)]
      exact propext ⟨fun w => w.2, fun w => ⟨⟨by omega, h2⟩, w⟩⟩
    · rw [if_neg h2, if_neg (by omega), bq_KO_put_v19_14]
theorem sp_put_69 {d L kp : Nat} {h : Nat → Nat → Int} {Q : Option am_V → am_H → Prop} {i x : Int} : am_Wp d 15 0 [some (Sum.inr (Sum.inr 69)), some (Sum.inl i), some (Sum.inl x)] [] (am_SH L, h, am_RR kp) Q = Q none (am_SH L, am_put h 69 16 i x, am_RR kp) := by
  rw [bq_KO_put_v20_0]
  unfold am_put
  by_cases h1 : i < 0
  · rw [if_pos h1, if_neg (by omega), bq_KO_put_v20_14]
  · rw [if_neg h1]
    by_cases h2 : i < 16
    · rw [if_pos h2, if_pos (by omega)]
      exact propext ⟨fun w => w.2, fun w => ⟨⟨by omega, h2⟩, w⟩⟩
    · rw [if_neg h2, if_neg (by omega), bq_KO_put_v20_14]
theorem sp_put_65 {d L kp : Nat} {h : Nat → Nat → Int} {Q : Option am_V → am_H → Prop} {i x : Int} : am_Wp d 15 0 [some (Sum.inr (Sum.inr 65)), some (Sum.inl i), some (Sum.inl x)] [] (am_SH L, h, am_RR kp) Q = Q none (am_SH L, am_put h 65 7 i x, am_RR kp) := by
  rw [bq_KO_put_v21_0]
  unfold am_put
  by_cases h1 : i < 0
  · rw [if_pos h1, if_neg (by omega), bq_KO_put_v21_14]
  · rw [if_neg h1]
    by_cases h2 : i < 7
    · rw [if_pos h2, if_pos (by omega)]
      exact propext ⟨fun w => w.2, fun w => ⟨⟨by omega, h2⟩, w⟩⟩
    · rw [if_neg h2, if_neg (by omega), bq_KO_put_v21_14]
theorem sp_put_59 {d L kp : Nat} {h : Nat → Nat → Int} {Q : Option am_V → am_H → Prop} {i x : Int} : am_Wp d 15 0 [some (Sum.inr (Sum.inr 59)), some (Sum.inl i), some (Sum.inl x)] [] (am_SH L, h, am_RR kp) Q = Q none (am_SH L, am_put h 59 128 i x, am_RR kp) := by
  rw [bq_KO_put_v22_0]
  unfold am_put
  by_cases h1 : i < 0
  · rw [if_pos h1, if_neg (by omega), bq_KO_put_v22_14]
  · rw [if_neg h1]
    by_cases h2 : i < 128
    · rw [if_pos h2, if_pos (by omega)]
      exact propext ⟨fun w => w.2, fun w => ⟨⟨by omega, h2⟩, w⟩⟩
    · rw [if_neg h2, if_neg (by omega), bq_KO_put_v22_14]
theorem sp_put_60 {d L kp : Nat} {h : Nat → Nat → Int} {Q : Option am_V → am_H → Prop} {i x : Int} : am_Wp d 15 0 [some (Sum.inr (Sum.inr 60)), some (Sum.inl i), some (Sum.inl x)] [] (am_SH L, h, am_RR kp) Q = Q none (am_SH L, am_put h 60 128 i x, am_RR kp) := by
  rw [bq_KO_put_v23_0]
  unfold am_put
  by_cases h1 : i < 0
  · rw [if_pos h1, if_neg (by omega), bq_KO_put_v23_14]
  · rw [if_neg h1]
    by_cases h2 : i < 128
    · rw [if_pos h2, if_pos (by omega)]
      exact propext ⟨fun w => w.2, fun w => ⟨⟨by omega, h2⟩, w⟩⟩
    · rw [if_neg h2, if_neg (by omega), bq_KO_put_v23_14]
theorem sp_put_5 {d L kp : Nat} {h : Nat → Nat → Int} {Q : Option am_V → am_H → Prop} {i x : Int} : am_Wp d 15 0 [some (Sum.inr (Sum.inr 5)), some (Sum.inl i), some (Sum.inl x)] [] (am_SH L, h, am_RR kp) Q = Q none (am_SH L, am_put h 5 7 i x, am_RR kp) := by
  rw [bq_KO_put_v24_0]
  unfold am_put
  by_cases h1 : i < 0
  · rw [if_pos h1, if_neg (by omega), bq_KO_put_v24_14]
  · rw [if_neg h1]
    by_cases h2 : i < 7
    · rw [if_pos h2, if_pos (by omega)]
      exact propext ⟨fun w => w.2, fun w => ⟨⟨by omega, h2⟩, w⟩⟩
    · rw [if_neg h2, if_neg (by omega), bq_KO_put_v24_14]
theorem sp_put_43 {d L kp : Nat} {h : Nat → Nat → Int} {Q : Option am_V → am_H → Prop} {i x : Int} : am_Wp d 15 0 [some (Sum.inr (Sum.inr 43)), some (Sum.inl i), some (Sum.inl x)] [] (am_SH L, h, am_RR kp) Q = Q none (am_SH L, am_put h 43 49 i x, am_RR kp) := by
  rw [bq_KO_put_v25_0]
  unfold am_put
  by_cases h1 : i < 0
  · rw [if_pos h1, if_neg (by omega), bq_KO_put_v25_14]
  · rw [if_neg h1]
    by_cases h2 : i < 49
    · rw [if_pos h2, if_pos (by omega)]
      exact propext ⟨fun w => w.2, fun w => ⟨⟨by omega, h2⟩, w⟩⟩
    · rw [if_neg h2, if_neg (by omega), bq_KO_put_v25_14]
theorem sp_put_57 {d L kp : Nat} {h : Nat → Nat → Int} {Q : Option am_V → am_H → Prop} {i x : Int} : am_Wp d 15 0 [some (Sum.inr (Sum.inr 57)), some (Sum.inl i), some (Sum.inl x)] [] (am_SH L, h, am_RR kp) Q = Q none (am_SH L, am_put h 57 7 i x, am_RR kp) := by
  rw [bq_KO_put_v26_0]
  unfold am_put
  by_cases h1 : i < 0
  · rw [if_pos h1, if_neg (by omega), bq_KO_put_v26_14]
  · rw [if_neg h1]
    by_cases h2 : i < 7
    · rw [if_pos h2, if_pos (by omega)]
      exact propext ⟨fun w => w.2, fun w => ⟨⟨by omega, h2⟩, w⟩⟩
    · rw [if_neg h2, if_neg (by omega), bq_KO_put_v26_14]
theorem sp_put_62 {d L kp : Nat} {h : Nat → Nat → Int} {Q : Option am_V → am_H → Prop} {i x : Int} : am_Wp d 15 0 [some (Sum.inr (Sum.inr 62)), some (Sum.inl i), some (Sum.inl x)] [] (am_SH L, h, am_RR kp) Q = Q none (am_SH L, am_put h 62 7 i x, am_RR kp) := by
  rw [bq_KO_put_v27_0]
  unfold am_put
  by_cases h1 : i < 0
  · rw [if_pos h1, if_neg (by omega), bq_KO_put_v27_14]
  · rw [if_neg h1]
    by_cases h2 : i < 7
    · rw [if_pos h2, if_pos (by omega)]
      exact propext ⟨fun w => w.2, fun w => ⟨⟨by omega, h2⟩, w⟩⟩
    · rw [if_neg h2, if_neg (by omega), bq_KO_put_v27_14]
theorem sp_put_64 {d L kp : Nat} {h : Nat → Nat → Int} {Q : Option am_V → am_H → Prop} {i x : Int} : am_Wp d 15 0 [some (Sum.inr (Sum.inr 64)), some (Sum.inl i), some (Sum.inl x)] [] (am_SH L, h, am_RR kp) Q = Q none (am_SH L, am_put h 64 49 i x, am_RR kp) := by
  rw [bq_KO_put_v28_0]
  unfold am_put
  by_cases h1 : i < 0
  · rw [if_pos h1, if_neg (by omega), bq_KO_put_v28_14]
  · rw [if_neg h1]
    by_cases h2 : i < 49
    · rw [if_pos h2, if_pos (by omega)]
      exact propext ⟨fun w => w.2, fun w => ⟨⟨by omega, h2⟩, w⟩⟩
    · rw [if_neg h2, if_neg (by omega), bq_KO_put_v28_14]
theorem sp_put_44 {d L kp : Nat} {h : Nat → Nat → Int} {Q : Option am_V → am_H → Prop} {i x : Int} : am_Wp d 15 0 [some (Sum.inr (Sum.inr 44)), some (Sum.inl i), some (Sum.inl x)] [] (am_SH L, h, am_RR kp) Q = Q none (am_SH L, am_put h 44 7 i x, am_RR kp) := by
  rw [bq_KO_put_v29_0]
  unfold am_put
  by_cases h1 : i < 0
  · rw [if_pos h1, if_neg (by omega), bq_KO_put_v29_14]
  · rw [if_neg h1]
    by_cases h2 : i < 7
    · rw [if_pos h2, if_pos (by omega)]
      exact propext ⟨fun w => w.2, fun w => ⟨⟨by omega, h2⟩, w⟩⟩
    · rw [if_neg h2, if_neg (by omega), bq_KO_put_v29_14]
theorem sp_put_39 {d L kp : Nat} {h : Nat → Nat → Int} {Q : Option am_V → am_H → Prop} {i x : Int} : am_Wp d 15 0 [some (Sum.inr (Sum.inr 39)), some (Sum.inl i), some (Sum.inl x)] [] (am_SH L, h, am_RR kp) Q = Q none (am_SH L, am_put h 39 16 i x, am_RR kp) := by
  rw [bq_KO_put_v30_0]
  unfold am_put
  by_cases h1 : i < 0
  · rw [if_pos h1, if_neg (by omega), bq_KO_put_v30_14]
  · rw [if_neg h1]
    by_cases h2 : i < 16
    · rw [if_pos h2, if_pos (by omega)]
      exact propext ⟨fun w => w.2, fun w => ⟨⟨by omega, h2⟩, w⟩⟩
    · rw [if_neg h2, if_neg (by omega), bq_KO_put_v30_14]
theorem sp_put_35 {d L kp : Nat} {h : Nat → Nat → Int} {Q : Option am_V → am_H → Prop} {i x : Int} : am_Wp d 15 0 [some (Sum.inr (Sum.inr 35)), some (Sum.inl i), some (Sum.inl x)] [] (am_SH L, h, am_RR kp) Q = Q none (am_SH L, am_put h 35 16 i x, am_RR kp) := by
  rw [bq_KO_put_v31_0]
  unfold am_put
  by_cases h1 : i < 0
  · rw [if_pos h1, if_neg (by omega), bq_KO_put_v31_14]
  · rw [if_neg h1]
    by_cases h2 : i < 16
    · rw [if_pos h2, if_pos (by omega)]
      exact propext ⟨fun w => w.2, fun w => ⟨⟨by omega, h2⟩, w⟩⟩
    · rw [if_neg h2, if_neg (by omega), bq_KO_put_v31_14]
theorem sp_put_30 {d L kp : Nat} {h : Nat → Nat → Int} {Q : Option am_V → am_H → Prop} {i x : Int} : am_Wp d 15 0 [some (Sum.inr (Sum.inr 30)), some (Sum.inl i), some (Sum.inl x)] [] (am_SH L, h, am_RR kp) Q = Q none (am_SH L, am_put h 30 7 i x, am_RR kp) := by
  rw [bq_KO_put_v32_0]
  unfold am_put
  by_cases h1 : i < 0
  · rw [if_pos h1, if_neg (by omega), bq_KO_put_v32_14]
  · rw [if_neg h1]
    by_cases h2 : i < 7
    · rw [if_pos h2, if_pos (by omega)]
      exact propext ⟨fun w => w.2, fun w => ⟨⟨by omega, h2⟩, w⟩⟩
    · rw [if_neg h2, if_neg (by omega), bq_KO_put_v32_14]
theorem sp_put_31 {d L kp : Nat} {h : Nat → Nat → Int} {Q : Option am_V → am_H → Prop} {i x : Int} : am_Wp d 15 0 [some (Sum.inr (Sum.inr 31)), some (Sum.inl i), some (Sum.inl x)] [] (am_SH L, h, am_RR kp) Q = Q none (am_SH L, am_put h 31 7 i x, am_RR kp) := by
  rw [bq_KO_put_v33_0]
  unfold am_put
  by_cases h1 : i < 0
  · rw [if_pos h1, if_neg (by omega), bq_KO_put_v33_14]
  · rw [if_neg h1]
    by_cases h2 : i < 7
    · rw [if_pos h2, if_pos (by omega)]
      exact propext ⟨fun w => w.2, fun w => ⟨⟨by omega, h2⟩, w⟩⟩
    · rw [if_neg h2, if_neg (by omega), bq_KO_put_v33_14]
theorem sp_put_32 {d L kp : Nat} {h : Nat → Nat → Int} {Q : Option am_V → am_H → Prop} {i x : Int} : am_Wp d 15 0 [some (Sum.inr (Sum.inr 32)), some (Sum.inl i), some (Sum.inl x)] [] (am_SH L, h, am_RR kp) Q = Q none (am_SH L, am_put h 32 7 i x, am_RR kp) := by
  rw [bq_KO_put_v34_0]
  unfold am_put
  by_cases h1 : i < 0
  · rw [if_pos h1, if_neg (by omega), bq_KO_put_v34_14]
  · rw [if_neg h1]
    by_cases h2 : i < 7
    · rw [if_pos h2, if_pos (by omega)]
      exact propext ⟨fun w => w.2, fun w => ⟨⟨by omega, h2⟩, w⟩⟩
    · rw [if_neg h2, if_neg (by omega), bq_KO_put_v34_14]
theorem sp_put_33 {d L kp : Nat} {h : Nat → Nat → Int} {Q : Option am_V → am_H → Prop} {i x : Int} : am_Wp d 15 0 [some (Sum.inr (Sum.inr 33)), some (Sum.inl i), some (Sum.inl x)] [] (am_SH L, h, am_RR kp) Q = Q none (am_SH L, am_put h 33 7 i x, am_RR kp) := by
  rw [bq_KO_put_v35_0]
  unfold am_put
  by_cases h1 : i < 0
  · rw [if_pos h1, if_neg (by omega), bq_KO_put_v35_14]
  · rw [if_neg h1]
    by_cases h2 : i < 7
    · rw [if_pos h2, if_pos (by omega)]
      exact propext ⟨fun w => w.2, fun w => ⟨⟨by omega, h2⟩, w⟩⟩
    · rw [if_neg h2, if_neg (by omega), bq_KO_put_v35_14]
theorem sp_put_34 {d L kp : Nat} {h : Nat → Nat → Int} {Q : Option am_V → am_H → Prop} {i x : Int} : am_Wp d 15 0 [some (Sum.inr (Sum.inr 34)), some (Sum.inl i), some (Sum.inl x)] [] (am_SH L, h, am_RR kp) Q = Q none (am_SH L, am_put h 34 16 i x, am_RR kp) := by
  rw [bq_KO_put_v36_0]
  unfold am_put
  by_cases h1 : i < 0
  · rw [if_pos h1, if_neg (by omega), bq_KO_put_v36_14]
  · rw [if_neg h1]
    by_cases h2 : i < 16
    · rw [if_pos h2, if_pos (by omega)]
      exact propext ⟨fun w => w.2, fun w => ⟨⟨by omega, h2⟩, w⟩⟩
    · rw [if_neg h2, if_neg (by omega), bq_KO_put_v36_14]
theorem sp_put_36 {d L kp : Nat} {h : Nat → Nat → Int} {Q : Option am_V → am_H → Prop} {i x : Int} : am_Wp d 15 0 [some (Sum.inr (Sum.inr 36)), some (Sum.inl i), some (Sum.inl x)] [] (am_SH L, h, am_RR kp) Q = Q none (am_SH L, am_put h 36 16 i x, am_RR kp) := by
  rw [bq_KO_put_v37_0]
  unfold am_put
  by_cases h1 : i < 0
  · rw [if_pos h1, if_neg (by omega), bq_KO_put_v37_14]
  · rw [if_neg h1]
    by_cases h2 : i < 16
    · rw [if_pos h2, if_pos (by omega)]
      exact propext ⟨fun w => w.2, fun w => ⟨⟨by omega, h2⟩, w⟩⟩
    · rw [if_neg h2, if_neg (by omega), bq_KO_put_v37_14]
theorem sp_put_37 {d L kp : Nat} {h : Nat → Nat → Int} {Q : Option am_V → am_H → Prop} {i x : Int} : am_Wp d 15 0 [some (Sum.inr (Sum.inr 37)), some (Sum.inl i), some (Sum.inl x)] [] (am_SH L, h, am_RR kp) Q = Q none (am_SH L, am_put h 37 16 i x, am_RR kp) := by
  rw [bq_KO_put_v38_0]
  unfold am_put
  by_cases h1 : i < 0
  · rw [if_pos h1, if_neg (by omega), bq_KO_put_v38_14]
  · rw [if_neg h1]
    by_cases h2 : i < 16
    · rw [if_pos h2, if_pos (by omega)]
      exact propext ⟨fun w => w.2, fun w => ⟨⟨by omega, h2⟩, w⟩⟩
    · rw [if_neg h2, if_neg (by omega), bq_KO_put_v38_14]
theorem sp_put_38 {d L kp : Nat} {h : Nat → Nat → Int} {Q : Option am_V → am_H → Prop} {i x : Int} : am_Wp d 15 0 [some (Sum.inr (Sum.inr 38)), some (Sum.inl i), some (Sum.inl x)] [] (am_SH L, h, am_RR kp) Q = Q none (am_SH L, am_put h 38 16 i x, am_RR kp) := by
  rw [bq_KO_put_v39_0]
  unfold am_put
  by_cases h1 : i < 0
  · rw [if_pos h1, if_neg (by omega), bq_KO_put_v39_14]
  · rw [if_neg h1]
    by_cases h2 : i < 16
    · rw [if_pos h2, if_pos (by omega)]
      exact propext ⟨fun w => w.2, fun w => ⟨⟨by omega, h2⟩, w⟩⟩
    · rw [if_neg h2, if_neg (by omega), bq_KO_put_v39_14]
theorem sp_put_52 {d L kp : Nat} {h : Nat → Nat → Int} {Q : Option am_V → am_H → Prop} {i x : Int} : am_Wp d 15 0 [some (Sum.inr (Sum.inr 52)), some (Sum.inl i), some (Sum.inl x)] [] (am_SH L, h, am_RR kp) Q = Q none (am_SH L, am_put h 52 21 i x, am_RR kp) := by
  rw [bq_KO_put_v40_0]
  unfold am_put
  by_cases h1 : i < 0
  · rw [if_pos h1, if_neg (by omega), bq_KO_put_v40_14]
  · rw [if_neg h1]
    by_cases h2 : i < 21
    · rw [if_pos h2, if_pos (by omega)]
      exact propext ⟨fun w => w.2, fun w => ⟨⟨by omega, h2⟩, w⟩⟩
    · rw [if_neg h2, if_neg (by omega), bq_KO_put_v40_14]
theorem sp_put_53 {d L kp : Nat} {h : Nat → Nat → Int} {Q : Option am_V → am_H → Prop} {i x : Int} : am_Wp d 15 0 [some (Sum.inr (Sum.inr 53)), some (Sum.inl i), some (Sum.inl x)] [] (am_SH L, h, am_RR kp) Q = Q none (am_SH L, am_put h 53 21 i x, am_RR kp) := by
  rw [bq_KO_put_v41_0]
  unfold am_put
  by_cases h1 : i < 0
  · rw [if_pos h1, if_neg (by omega), bq_KO_put_v41_14]
  · rw [if_neg h1]
    by_cases h2 : i < 21
    · rw [if_pos h2, if_pos (by omega)]
      exact propext ⟨fun w => w.2, fun w => ⟨⟨by omega, h2⟩, w⟩⟩
    · rw [if_neg h2, if_neg (by omega), bq_KO_put_v41_14]
theorem sp_put_54 {d L kp : Nat} {h : Nat → Nat → Int} {Q : Option am_V → am_H → Prop} {i x : Int} : am_Wp d 15 0 [some (Sum.inr (Sum.inr 54)), some (Sum.inl i), some (Sum.inl x)] [] (am_SH L, h, am_RR kp) Q = Q none (am_SH L, am_put h 54 21 i x, am_RR kp) := by
  rw [bq_KO_put_v42_0]
  unfold am_put
  by_cases h1 : i < 0
  · rw [if_pos h1, if_neg (by omega), bq_KO_put_v42_14]
  · rw [if_neg h1]
    by_cases h2 : i < 21
    · rw [if_pos h2, if_pos (by omega)]
      exact propext ⟨fun w => w.2, fun w => ⟨⟨by omega, h2⟩, w⟩⟩
    · rw [if_neg h2, if_neg (by omega), bq_KO_put_v42_14]
theorem sp_put_56 {d L kp : Nat} {h : Nat → Nat → Int} {Q : Option am_V → am_H → Prop} {i x : Int} : am_Wp d 15 0 [some (Sum.inr (Sum.inr 56)), some (Sum.inl i), some (Sum.inl x)] [] (am_SH L, h, am_RR kp) Q = Q none (am_SH L, am_put h 56 7 i x, am_RR kp) := by
  rw [bq_KO_put_v43_0]
  unfold am_put
  by_cases h1 : i < 0
  · rw [if_pos h1, if_neg (by omega), bq_KO_put_v43_14]
  · rw [if_neg h1]
    by_cases h2 : i < 7
    · rw [if_pos h2, if_pos (by omega)]
      exact propext ⟨fun w => w.2, fun w => ⟨⟨by omega, h2⟩, w⟩⟩
    · rw [if_neg h2, if_neg (by omega), bq_KO_put_v43_14]
theorem sp_increase_5 {d L kp : Nat} {h : Nat → Nat → Int} {Q : Option am_V → am_H → Prop} {i x : Int} (hd : 1 ≤ d) : am_Wp d 42 0 [some (Sum.inr (Sum.inr 5)), some (Sum.inl i), some (Sum.inl x)] [] (am_SH L, h, am_RR kp) Q = Q none (am_SH L, am_put h 5 7 i (am_add (am_lk (h 5) 7 i) x), am_RR kp) := by
  rw [bq_KO_increase_0 hd, sp_at_5]
  refine (bq_KO_increase_7 hd).trans ?_
  rw [sp_put_5]
  exact bq_KO_increase_12
theorem sp_increase_43 {d L kp : Nat} {h : Nat → Nat → Int} {Q : Option am_V → am_H → Prop} {i x : Int} (hd : 1 ≤ d) : am_Wp d 42 0 [some (Sum.inr (Sum.inr 43)), some (Sum.inl i), some (Sum.inl x)] [] (am_SH L, h, am_RR kp) Q = Q none (am_SH L, am_put h 43 49 i (am_add (am_lk (h 43) 49 i) x), am_RR kp) := by
  rw [bq_KO_increase_v2_0 hd, sp_at_43]
  refine (bq_KO_increase_v2_7 hd).trans ?_
  rw [sp_put_43]
  exact bq_KO_increase_v2_12
theorem sp_increase_62 {d L kp : Nat} {h : Nat → Nat → Int} {Q : Option am_V → am_H → Prop} {i x : Int} (hd : 1 ≤ d) : am_Wp d 42 0 [some (Sum.inr (Sum.inr 62)), some (Sum.inl i), some (Sum.inl x)] [] (am_SH L, h, am_RR kp) Q = Q none (am_SH L, am_put h 62 7 i (am_add (am_lk (h 62) 7 i) x), am_RR kp) := by
  rw [bq_KO_increase_v3_0 hd, sp_at_62]
  refine (bq_KO_increase_v3_7 hd).trans ?_
  rw [sp_put_62]
  exact bq_KO_increase_v3_12
theorem sp_increase_44 {d L kp : Nat} {h : Nat → Nat → Int} {Q : Option am_V → am_H → Prop} {i x : Int} (hd : 1 ≤ d) : am_Wp d 42 0 [some (Sum.inr (Sum.inr 44)), some (Sum.inl i), some (Sum.inl x)] [] (am_SH L, h, am_RR kp) Q = Q none (am_SH L, am_put h 44 7 i (am_add (am_lk (h 44) 7 i) x), am_RR kp) := by
  rw [bq_KO_increase_v4_0 hd, sp_at_44]
  refine (bq_KO_increase_v4_7 hd).trans ?_
  rw [sp_put_44]
  exact bq_KO_increase_v4_12
theorem sp_increase_32 {d L kp : Nat} {h : Nat → Nat → Int} {Q : Option am_V → am_H → Prop} {i x : Int} (hd : 1 ≤ d) : am_Wp d 42 0 [some (Sum.inr (Sum.inr 32)), some (Sum.inl i), some (Sum.inl x)] [] (am_SH L, h, am_RR kp) Q = Q none (am_SH L, am_put h 32 7 i (am_add (am_lk (h 32) 7 i) x), am_RR kp) := by
  rw [bq_KO_increase_v5_0 hd, sp_at_32]
  refine (bq_KO_increase_v5_7 hd).trans ?_
  rw [sp_put_32]
  exact bq_KO_increase_v5_12
theorem sp_increase_56 {d L kp : Nat} {h : Nat → Nat → Int} {Q : Option am_V → am_H → Prop} {i x : Int} (hd : 1 ≤ d) : am_Wp d 42 0 [some (Sum.inr (Sum.inr 56)), some (Sum.inl i), some (Sum.inl x)] [] (am_SH L, h, am_RR kp) Q = Q none (am_SH L, am_put h 56 7 i (am_add (am_lk (h 56) 7 i) x), am_RR kp) := by
  rw [bq_KO_increase_v6_0 hd, sp_at_56]
  refine (bq_KO_increase_v6_7 hd).trans ?_
  rw [sp_put_56]
  exact bq_KO_increase_v6_12
theorem sp_has {d L kp : Nat} {h : Nat → Nat → Int} {Q : Option am_V → am_H → Prop} {x i : Int} : am_Wp d 37 0 [some (Sum.inl x), some (Sum.inl i)] [] (am_SH L, h, am_RR kp) Q = Q (some (Sum.inl (am_bi (am_has x i)))) (am_SH L, h, am_RR kp) := by
  have e0 : ∀ {ls : am_L} (a b : Option am_V), am_Wp d 37 22 [a, b] [] (am_SH L, h, am_RR kp) Q = Q (some (Sum.inl 0)) (am_SH L, h, am_RR kp) := fun a b => by rw [bq_KO_has_22, bq_KO_has_23]; simp
  rw [bq_KO_has_0]
  unfold am_has
  by_cases h1 : i < 0
  · rw [if_pos h1, bq_KO_has_22, bq_KO_has_23, decide_eq_false (by omega)]; simp [am_bi]
  · rw [if_neg h1]
    by_cases h2 : 31 ≤ i
    · rw [if_pos h2, bq_KO_has_22, bq_KO_has_23, decide_eq_false (by omega)]; simp [am_bi]
    · rw [if_neg h2]
      by_cases h3 : am_and (am_shr x i) 1 = 0
      · rw [if_pos h3, bq_KO_has_22, bq_KO_has_23, decide_eq_false (by omega)]; simp [am_bi]
      · rw [if_neg h3, bq_KO_has_23, decide_eq_true (by omega)]; simp [am_bi]
theorem sp_fill_43 {d L kp : Nat} {h : Nat → Nat → Int} {Q : Option am_V → am_H → Prop} {x : Int} : am_Wp d 72 0 [some (Sum.inr (Sum.inr 43)), some (Sum.inl x), none] [] (am_SH L, h, am_RR kp) Q = Q none (am_SH L, am_fill h 43 49 x, am_RR kp) := by
  rw [bq_KO_fill_0]
  have key := am_for_eq (n := 49) (fun j g => am_up g 43 j x) (fun j g => g = am_fill h 43 j x) (fun j g => am_Wp d 72 7 [some (Sum.inr (Sum.inr 43)), some (Sum.inl x), some (Sum.inl (j : Int))] [] (am_SH L, g, am_RR kp) Q) (fun _ => Q none (am_SH L, am_fill h 43 49 x, am_RR kp)) h (am_fill_0 _ _ _).symm (fun j g hj hg => ?_) (fun g hg => ?_)
  · exact key
  · subst hg
    refine ⟨?_, am_fill_s _ _ _ _⟩
    show am_Wp d 72 7 _ _ _ _ = _
    rw [bq_KO_fill_7, if_neg (by omega), am_add_ok (by omega) (by omega), Int.toNat_natCast]
    exact propext ⟨fun w => w.2, fun w => ⟨⟨by omega, by omega⟩, w⟩⟩
  · subst hg
    show am_Wp d 72 7 _ _ _ _ = _
    rw [bq_KO_fill_7, if_pos (by omega)]
theorem sp_fill_44 {d L kp : Nat} {h : Nat → Nat → Int} {Q : Option am_V → am_H → Prop} {x : Int} : am_Wp d 72 0 [some (Sum.inr (Sum.inr 44)), some (Sum.inl x), none] [] (am_SH L, h, am_RR kp) Q = Q none (am_SH L, am_fill h 44 7 x, am_RR kp) := by
  rw [bq_KO_fill_v2_0]
  have key := am_for_eq (n := 7) (fun j g => am_up g 44 j x) (fun j g => g = am_fill h 44 j x) (fun j g => am_Wp d 72 7 [some (Sum.inr (Sum.inr 44)), some (Sum.inl x), some (Sum.inl (j : Int))] [] (am_SH L, g, am_RR kp) Q) (fun _ => Q none (am_SH L, am_fill h 44 7 x, am_RR kp)) h (am_fill_0 _ _ _).symm (fun j g hj hg => ?_) (fun g hg => ?_)
  · exact key
  · subst hg
    refine ⟨?_, am_fill_s _ _ _ _⟩
    show am_Wp d 72 7 _ _ _ _ = _
    rw [bq_KO_fill_v2_7, if_neg (by omega), am_add_ok (by omega) (by omega), Int.toNat_natCast]
    exact propext ⟨fun w => w.2, fun w => ⟨⟨by omega, by omega⟩, w⟩⟩
  · subst hg
    show am_Wp d 72 7 _ _ _ _ = _
    rw [bq_KO_fill_v2_7, if_pos (by omega)]
theorem sp_fill_55 {d L kp : Nat} {h : Nat → Nat → Int} {Q : Option am_V → am_H → Prop} {x : Int} : am_Wp d 72 0 [some (Sum.inr (Sum.inr 55)), some (Sum.inl x), none] [] (am_SH L, h, am_RR kp) Q = Q none (am_SH L, am_fill h 55 7 x, am_RR kp) := by
  rw [bq_KO_fill_v3_0]
  have key := am_for_eq (n := 7) (fun j g => am_up g 55 j x) (fun j g => g = am_fill h 55 j x) (fun j g => am_Wp d 72 7 [some (Sum.inr (Sum.inr 55)), some (Sum.inl x), some (Sum.inl (j : Int))] [] (am_SH L, g, am_RR kp) Q) (fun _ => Q none (am_SH L, am_fill h 55 7 x, am_RR kp)) h (am_fill_0 _ _ _).symm (fun j g hj hg => ?_) (fun g hg => ?_)
  · exact key
  · subst hg
    refine ⟨?_, am_fill_s _ _ _ _⟩
    show am_Wp d 72 7 _ _ _ _ = _
    rw [bq_KO_fill_v3_7, if_neg (by omega), am_add_ok (by omega) (by omega), Int.toNat_natCast]
    exact propext ⟨fun w => w.2, fun w => ⟨⟨by omega, by omega⟩, w⟩⟩
  · subst hg
    show am_Wp d 72 7 _ _ _ _ = _
    rw [bq_KO_fill_v3_7, if_pos (by omega)]
theorem sp_fill_62 {d L kp : Nat} {h : Nat → Nat → Int} {Q : Option am_V → am_H → Prop} {x : Int} : am_Wp d 72 0 [some (Sum.inr (Sum.inr 62)), some (Sum.inl x), none] [] (am_SH L, h, am_RR kp) Q = Q none (am_SH L, am_fill h 62 7 x, am_RR kp) := by
  rw [bq_KO_fill_v4_0]
  have key := am_for_eq (n := 7) (fun j g => am_up g 62 j x) (fun j g => g = am_fill h 62 j x) (fun j g => am_Wp d 72 7 [some (Sum.inr (Sum.inr 62)), some (Sum.inl x), some (Sum.inl (j : Int))] [] (am_SH L, g, am_RR kp) Q) (fun _ => Q none (am_SH L, am_fill h 62 7 x, am_RR kp)) h (am_fill_0 _ _ _).symm (fun j g hj hg => ?_) (fun g hg => ?_)
  · exact key
  · subst hg
    refine ⟨?_, am_fill_s _ _ _ _⟩
    show am_Wp d 72 7 _ _ _ _ = _
    rw [bq_KO_fill_v4_7, if_neg (by omega), am_add_ok (by omega) (by omega), Int.toNat_natCast]
    exact propext ⟨fun w => w.2, fun w => ⟨⟨by omega, by omega⟩, w⟩⟩
  · subst hg
    show am_Wp d 72 7 _ _ _ _ = _
    rw [bq_KO_fill_v4_7, if_pos (by omega)]
theorem sp_fill_60 {d L kp : Nat} {h : Nat → Nat → Int} {Q : Option am_V → am_H → Prop} {x : Int} : am_Wp d 72 0 [some (Sum.inr (Sum.inr 60)), some (Sum.inl x), none] [] (am_SH L, h, am_RR kp) Q = Q none (am_SH L, am_fill h 60 128 x, am_RR kp) := by
  rw [bq_KO_fill_v5_0]
  have key := am_for_eq (n := 128) (fun j g => am_up g 60 j x) (fun j g => g = am_fill h 60 j x) (fun j g => am_Wp d 72 7 [some (Sum.inr (Sum.inr 60)), some (Sum.inl x), some (Sum.inl (j : Int))] [] (am_SH L, g, am_RR kp) Q) (fun _ => Q none (am_SH L, am_fill h 60 128 x, am_RR kp)) h (am_fill_0 _ _ _).symm (fun j g hj hg => ?_) (fun g hg => ?_)
  · exact key
  · subst hg
    refine ⟨?_, am_fill_s _ _ _ _⟩
    show am_Wp d 72 7 _ _ _ _ = _
    rw [bq_KO_fill_v5_7, if_neg (by omega), am_add_ok (by omega) (by omega), Int.toNat_natCast]
    exact propext ⟨fun w => w.2, fun w => ⟨⟨by omega, by omega⟩, w⟩⟩
  · subst hg
    show am_Wp d 72 7 _ _ _ _ = _
    rw [bq_KO_fill_v5_7, if_pos (by omega)]
theorem sp_fill_56 {d L kp : Nat} {h : Nat → Nat → Int} {Q : Option am_V → am_H → Prop} {x : Int} : am_Wp d 72 0 [some (Sum.inr (Sum.inr 56)), some (Sum.inl x), none] [] (am_SH L, h, am_RR kp) Q = Q none (am_SH L, am_fill h 56 7 x, am_RR kp) := by
  rw [bq_KO_fill_v6_0]
  have key := am_for_eq (n := 7) (fun j g => am_up g 56 j x) (fun j g => g = am_fill h 56 j x) (fun j g => am_Wp d 72 7 [some (Sum.inr (Sum.inr 56)), some (Sum.inl x), some (Sum.inl (j : Int))] [] (am_SH L, g, am_RR kp) Q) (fun _ => Q none (am_SH L, am_fill h 56 7 x, am_RR kp)) h (am_fill_0 _ _ _).symm (fun j g hj hg => ?_) (fun g hg => ?_)
  · exact key
  · subst hg
    refine ⟨?_, am_fill_s _ _ _ _⟩
    show am_Wp d 72 7 _ _ _ _ = _
    rw [bq_KO_fill_v6_7, if_neg (by omega), am_add_ok (by omega) (by omega), Int.toNat_natCast]
    exact propext ⟨fun w => w.2, fun w => ⟨⟨by omega, by omega⟩, w⟩⟩
  · subst hg
    show am_Wp d 72 7 _ _ _ _ = _
    rw [bq_KO_fill_v6_7, if_pos (by omega)]
theorem sp_copy_3_14 {d L kp : Nat} {h : Nat → Nat → Int} {Q : Option am_V → am_H → Prop} : am_Wp d 24 0 [some (Sum.inr (Sum.inr 3)), some (Sum.inr (Sum.inr 14)), none] [] (am_SH L, h, am_RR kp) Q = Q none (am_SH L, am_cpy h 3 14 7, am_RR kp) := by
  rw [bq_KO_copy_0]
  have key := am_for_eq (n := 7) (fun j g => am_up g 14 j (g 3 j)) (fun j g => g = am_cpy h 3 14 j) (fun j g => am_Wp d 24 11 [some (Sum.inr (Sum.inr 3)), some (Sum.inr (Sum.inr 14)), some (Sum.inl (j : Int))] [] (am_SH L, g, am_RR kp) Q) (fun _ => Q none (am_SH L, am_cpy h 3 14 7, am_RR kp)) h (am_cpy_0 _ _ _).symm (fun j g hj hg => ?_) (fun g hg => ?_)
  · exact key
  · subst hg
    refine ⟨?_, am_cpy_s _ _ _ (by omega) _⟩
    show am_Wp d 24 11 _ _ _ _ = _
    rw [bq_KO_copy_11, if_neg (by omega), if_neg (by omega), am_add_ok (by omega) (by omega), Int.toNat_natCast]
    exact propext ⟨fun w => w.2.2, fun w => ⟨⟨by omega, by omega⟩, ⟨by omega, by omega⟩, w⟩⟩
  · subst hg
    show am_Wp d 24 11 _ _ _ _ = _
    rw [bq_KO_copy_11, if_pos (by omega), bq_KO_copy_35]
theorem sp_copy_4_15 {d L kp : Nat} {h : Nat → Nat → Int} {Q : Option am_V → am_H → Prop} : am_Wp d 24 0 [some (Sum.inr (Sum.inr 4)), some (Sum.inr (Sum.inr 15)), none] [] (am_SH L, h, am_RR kp) Q = Q none (am_SH L, am_cpy h 4 15 7, am_RR kp) := by
  rw [bq_KO_copy_v2_0]
  have key := am_for_eq (n := 7) (fun j g => am_up g 15 j (g 4 j)) (fun j g => g = am_cpy h 4 15 j) (fun j g => am_Wp d 24 11 [some (Sum.inr (Sum.inr 4)), some (Sum.inr (Sum.inr 15)), some (Sum.inl (j : Int))] [] (am_SH L, g, am_RR kp) Q) (fun _ => Q none (am_SH L, am_cpy h 4 15 7, am_RR kp)) h (am_cpy_0 _ _ _).symm (fun j g hj hg => ?_) (fun g hg => ?_)
  · exact key
  · subst hg
    refine ⟨?_, am_cpy_s _ _ _ (by omega) _⟩
    show am_Wp d 24 11 _ _ _ _ = _
    rw [bq_KO_copy_v2_11, if_neg (by omega), if_neg (by omega), am_add_ok (by omega) (by omega), Int.toNat_natCast]
    exact propext ⟨fun w => w.2.2, fun w => ⟨⟨by omega, by omega⟩, ⟨by omega, by omega⟩, w⟩⟩
  · subst hg
    show am_Wp d 24 11 _ _ _ _ = _
    rw [bq_KO_copy_v2_11, if_pos (by omega), bq_KO_copy_v2_35]
theorem sp_copy_5_16 {d L kp : Nat} {h : Nat → Nat → Int} {Q : Option am_V → am_H → Prop} : am_Wp d 24 0 [some (Sum.inr (Sum.inr 5)), some (Sum.inr (Sum.inr 16)), none] [] (am_SH L, h, am_RR kp) Q = Q none (am_SH L, am_cpy h 5 16 7, am_RR kp) := by
  rw [bq_KO_copy_v3_0]
  have key := am_for_eq (n := 7) (fun j g => am_up g 16 j (g 5 j)) (fun j g => g = am_cpy h 5 16 j) (fun j g => am_Wp d 24 11 [some (Sum.inr (Sum.inr 5)), some (Sum.inr (Sum.inr 16)), some (Sum.inl (j : Int))] [] (am_SH L, g, am_RR kp) Q) (fun _ => Q none (am_SH L, am_cpy h 5 16 7, am_RR kp)) h (am_cpy_0 _ _ _).symm (fun j g hj hg => ?_) (fun g hg => ?_)
  · exact key
  · subst hg
    refine ⟨?_, am_cpy_s _ _ _ (by omega) _⟩
    show am_Wp d 24 11 _ _ _ _ = _
    rw [bq_KO_copy_v3_11, if_neg (by omega), if_neg (by omega), am_add_ok (by omega) (by omega), Int.toNat_natCast]
    exact propext ⟨fun w => w.2.2, fun w => ⟨⟨by omega, by omega⟩, ⟨by omega, by omega⟩, w⟩⟩
  · subst hg
    show am_Wp d 24 11 _ _ _ _ = _
    rw [bq_KO_copy_v3_11, if_pos (by omega), bq_KO_copy_v3_35]
theorem sp_copy_6_17 {d L kp : Nat} {h : Nat → Nat → Int} {Q : Option am_V → am_H → Prop} : am_Wp d 24 0 [some (Sum.inr (Sum.inr 6)), some (Sum.inr (Sum.inr 17)), none] [] (am_SH L, h, am_RR kp) Q = Q none (am_SH L, am_cpy h 6 17 7, am_RR kp) := by
  rw [bq_KO_copy_v4_0]
  have key := am_for_eq (n := 7) (fun j g => am_up g 17 j (g 6 j)) (fun j g => g = am_cpy h 6 17 j) (fun j g => am_Wp d 24 11 [some (Sum.inr (Sum.inr 6)), some (Sum.inr (Sum.inr 17)), some (Sum.inl (j : Int))] [] (am_SH L, g, am_RR kp) Q) (fun _ => Q none (am_SH L, am_cpy h 6 17 7, am_RR kp)) h (am_cpy_0 _ _ _).symm (fun j g hj hg => ?_) (fun g hg => ?_)
  · exact key
  · subst hg
    refine ⟨?_, am_cpy_s _ _ _ (by omega) _⟩
    show am_Wp d 24 11 _ _ _ _ = _
    rw [bq_KO_copy_v4_11, if_neg (by omega), if_neg (by omega), am_add_ok (by omega) (by omega), Int.toNat_natCast]
    exact propext ⟨fun w => w.2.2, fun w => ⟨⟨by omega, by omega⟩, ⟨by omega, by omega⟩, w⟩⟩
  · subst hg
    show am_Wp d 24 11 _ _ _ _ = _
    rw [bq_KO_copy_v4_11, if_pos (by omega), bq_KO_copy_v4_35]
theorem sp_copy_7_18 {d L kp : Nat} {h : Nat → Nat → Int} {Q : Option am_V → am_H → Prop} : am_Wp d 24 0 [some (Sum.inr (Sum.inr 7)), some (Sum.inr (Sum.inr 18)), none] [] (am_SH L, h, am_RR kp) Q = Q none (am_SH L, am_cpy h 7 18 16, am_RR kp) := by
  rw [bq_KO_copy_v5_0]
  have key := am_for_eq (n := 16) (fun j g => am_up g 18 j (g 7 j)) (fun j g => g = am_cpy h 7 18 j) (fun j g => am_Wp d 24 11 [some (Sum.inr (Sum.inr 7)), some (Sum.inr (Sum.inr 18)), some (Sum.inl (j : Int))] [] (am_SH L, g, am_RR kp) Q) (fun _ => Q none (am_SH L, am_cpy h 7 18 16, am_RR kp)) h (am_cpy_0 _ _ _).symm (fun j g hj hg => ?_) (fun g hg => ?_)
  · exact key
  · subst hg
    refine ⟨?_, am_cpy_s _ _ _ (by omega) _⟩
    show am_Wp d 24 11 _ _ _ _ = _
    rw [bq_KO_copy_v5_11, if_neg (by omega), if_neg (by omega), am_add_ok (by omega) (by omega), Int.toNat_natCast]
    exact propext ⟨fun w => w.2.2, fun w => ⟨⟨by omega, by omega⟩, ⟨by omega, by omega⟩, w⟩⟩
  · subst hg
    show am_Wp d 24 11 _ _ _ _ = _
    rw [bq_KO_copy_v5_11, if_pos (by omega), bq_KO_copy_v5_35]
theorem sp_copy_8_19 {d L kp : Nat} {h : Nat → Nat → Int} {Q : Option am_V → am_H → Prop} : am_Wp d 24 0 [some (Sum.inr (Sum.inr 8)), some (Sum.inr (Sum.inr 19)), none] [] (am_SH L, h, am_RR kp) Q = Q none (am_SH L, am_cpy h 8 19 16, am_RR kp) := by
  rw [bq_KO_copy_v6_0]
  have key := am_for_eq (n := 16) (fun j g => am_up g 19 j (g 8 j)) (fun j g => g = am_cpy h 8 19 j) (fun j g => am_Wp d 24 11 [some (Sum.inr (Sum.inr 8)), some (Sum.inr (Sum.inr 19)), some (Sum.inl (j : Int))] [] (am_SH L, g, am_RR kp) Q) (fun _ => Q none (am_SH L, am_cpy h 8 19 16, am_RR kp)) h (am_cpy_0 _ _ _).symm (fun j g hj hg => ?_) (fun g hg => ?_)
  · exact key
  · subst hg
    refine ⟨?_, am_cpy_s _ _ _ (by omega) _⟩
    show am_Wp d 24 11 _ _ _ _ = _
    rw [bq_KO_copy_v6_11, if_neg (by omega), if_neg (by omega), am_add_ok (by omega) (by omega), Int.toNat_natCast]
    exact propext ⟨fun w => w.2.2, fun w => ⟨⟨by omega, by omega⟩, ⟨by omega, by omega⟩, w⟩⟩
  · subst hg
    show am_Wp d 24 11 _ _ _ _ = _
    rw [bq_KO_copy_v6_11, if_pos (by omega), bq_KO_copy_v6_35]
theorem sp_copy_9_20 {d L kp : Nat} {h : Nat → Nat → Int} {Q : Option am_V → am_H → Prop} : am_Wp d 24 0 [some (Sum.inr (Sum.inr 9)), some (Sum.inr (Sum.inr 20)), none] [] (am_SH L, h, am_RR kp) Q = Q none (am_SH L, am_cpy h 9 20 16, am_RR kp) := by
  rw [bq_KO_copy_v7_0]
  have key := am_for_eq (n := 16) (fun j g => am_up g 20 j (g 9 j)) (fun j g => g = am_cpy h 9 20 j) (fun j g => am_Wp d 24 11 [some (Sum.inr (Sum.inr 9)), some (Sum.inr (Sum.inr 20)), some (Sum.inl (j : Int))] [] (am_SH L, g, am_RR kp) Q) (fun _ => Q none (am_SH L, am_cpy h 9 20 16, am_RR kp)) h (am_cpy_0 _ _ _).symm (fun j g hj hg => ?_) (fun g hg => ?_)
  · exact key
  · subst hg
    refine ⟨?_, am_cpy_s _ _ _ (by omega) _⟩
    show am_Wp d 24 11 _ _ _ _ = _
    rw [bq_KO_copy_v7_11, if_neg (by omega), if_neg (by omega), am_add_ok (by omega) (by omega), Int.toNat_natCast]
    exact propext ⟨fun w => w.2.2, fun w => ⟨⟨by omega, by omega⟩, ⟨by omega, by omega⟩, w⟩⟩
  · subst hg
    show am_Wp d 24 11 _ _ _ _ = _
    rw [bq_KO_copy_v7_11, if_pos (by omega), bq_KO_copy_v7_35]
theorem sp_copy_10_21 {d L kp : Nat} {h : Nat → Nat → Int} {Q : Option am_V → am_H → Prop} : am_Wp d 24 0 [some (Sum.inr (Sum.inr 10)), some (Sum.inr (Sum.inr 21)), none] [] (am_SH L, h, am_RR kp) Q = Q none (am_SH L, am_cpy h 10 21 16, am_RR kp) := by
  rw [bq_KO_copy_v8_0]
  have key := am_for_eq (n := 16) (fun j g => am_up g 21 j (g 10 j)) (fun j g => g = am_cpy h 10 21 j) (fun j g => am_Wp d 24 11 [some (Sum.inr (Sum.inr 10)), some (Sum.inr (Sum.inr 21)), some (Sum.inl (j : Int))] [] (am_SH L, g, am_RR kp) Q) (fun _ => Q none (am_SH L, am_cpy h 10 21 16, am_RR kp)) h (am_cpy_0 _ _ _).symm (fun j g hj hg => ?_) (fun g hg => ?_)
  · exact key
  · subst hg
    refine ⟨?_, am_cpy_s _ _ _ (by omega) _⟩
    show am_Wp d 24 11 _ _ _ _ = _
    rw [bq_KO_copy_v8_11, if_neg (by omega), if_neg (by omega), am_add_ok (by omega) (by omega), Int.toNat_natCast]
    exact propext ⟨fun w => w.2.2, fun w => ⟨⟨by omega, by omega⟩, ⟨by omega, by omega⟩, w⟩⟩
  · subst hg
    show am_Wp d 24 11 _ _ _ _ = _
    rw [bq_KO_copy_v8_11, if_pos (by omega), bq_KO_copy_v8_35]
theorem sp_copy_11_22 {d L kp : Nat} {h : Nat → Nat → Int} {Q : Option am_V → am_H → Prop} : am_Wp d 24 0 [some (Sum.inr (Sum.inr 11)), some (Sum.inr (Sum.inr 22)), none] [] (am_SH L, h, am_RR kp) Q = Q none (am_SH L, am_cpy h 11 22 16, am_RR kp) := by
  rw [bq_KO_copy_v9_0]
  have key := am_for_eq (n := 16) (fun j g => am_up g 22 j (g 11 j)) (fun j g => g = am_cpy h 11 22 j) (fun j g => am_Wp d 24 11 [some (Sum.inr (Sum.inr 11)), some (Sum.inr (Sum.inr 22)), some (Sum.inl (j : Int))] [] (am_SH L, g, am_RR kp) Q) (fun _ => Q none (am_SH L, am_cpy h 11 22 16, am_RR kp)) h (am_cpy_0 _ _ _).symm (fun j g hj hg => ?_) (fun g hg => ?_)
  · exact key
  · subst hg
    refine ⟨?_, am_cpy_s _ _ _ (by omega) _⟩
    show am_Wp d 24 11 _ _ _ _ = _
    rw [bq_KO_copy_v9_11, if_neg (by omega), if_neg (by omega), am_add_ok (by omega) (by omega), Int.toNat_natCast]
    exact propext ⟨fun w => w.2.2, fun w => ⟨⟨by omega, by omega⟩, ⟨by omega, by omega⟩, w⟩⟩
  · subst hg
    show am_Wp d 24 11 _ _ _ _ = _
    rw [bq_KO_copy_v9_11, if_pos (by omega), bq_KO_copy_v9_35]
theorem sp_copy_12_23 {d L kp : Nat} {h : Nat → Nat → Int} {Q : Option am_V → am_H → Prop} : am_Wp d 24 0 [some (Sum.inr (Sum.inr 12)), some (Sum.inr (Sum.inr 23)), none] [] (am_SH L, h, am_RR kp) Q = Q none (am_SH L, am_cpy h 12 23 16, am_RR kp) := by
  rw [bq_KO_copy_v10_0]
  have key := am_for_eq (n := 16) (fun j g => am_up g 23 j (g 12 j)) (fun j g => g = am_cpy h 12 23 j) (fun j g => am_Wp d 24 11 [some (Sum.inr (Sum.inr 12)), some (Sum.inr (Sum.inr 23)), some (Sum.inl (j : Int))] [] (am_SH L, g, am_RR kp) Q) (fun _ => Q none (am_SH L, am_cpy h 12 23 16, am_RR kp)) h (am_cpy_0 _ _ _).symm (fun j g hj hg => ?_) (fun g hg => ?_)
  · exact key
  · subst hg
    refine ⟨?_, am_cpy_s _ _ _ (by omega) _⟩
    show am_Wp d 24 11 _ _ _ _ = _
    rw [bq_KO_copy_v10_11, if_neg (by omega), if_neg (by omega), am_add_ok (by omega) (by omega), Int.toNat_natCast]
    exact propext ⟨fun w => w.2.2, fun w => ⟨⟨by omega, by omega⟩, ⟨by omega, by omega⟩, w⟩⟩
  · subst hg
    show am_Wp d 24 11 _ _ _ _ = _
    rw [bq_KO_copy_v10_11, if_pos (by omega), bq_KO_copy_v10_35]
theorem sp_copy_14_3 {d L kp : Nat} {h : Nat → Nat → Int} {Q : Option am_V → am_H → Prop} : am_Wp d 24 0 [some (Sum.inr (Sum.inr 14)), some (Sum.inr (Sum.inr 3)), none] [] (am_SH L, h, am_RR kp) Q = Q none (am_SH L, am_cpy h 14 3 7, am_RR kp) := by
  rw [bq_KO_copy_v11_0]
  have key := am_for_eq (n := 7) (fun j g => am_up g 3 j (g 14 j)) (fun j g => g = am_cpy h 14 3 j) (fun j g => am_Wp d 24 11 [some (Sum.inr (Sum.inr 14)), some (Sum.inr (Sum.inr 3)), some (Sum.inl (j : Int))] [] (am_SH L, g, am_RR kp) Q) (fun _ => Q none (am_SH L, am_cpy h 14 3 7, am_RR kp)) h (am_cpy_0 _ _ _).symm (fun j g hj hg => ?_) (fun g hg => ?_)
  · exact key
  · subst hg
    refine ⟨?_, am_cpy_s _ _ _ (by omega) _⟩
    show am_Wp d 24 11 _ _ _ _ = _
    rw [bq_KO_copy_v11_11, if_neg (by omega), if_neg (by omega), am_add_ok (by omega) (by omega), Int.toNat_natCast]
    exact propext ⟨fun w => w.2.2, fun w => ⟨⟨by omega, by omega⟩, ⟨by omega, by omega⟩, w⟩⟩
  · subst hg
    show am_Wp d 24 11 _ _ _ _ = _
    rw [bq_KO_copy_v11_11, if_pos (by omega), bq_KO_copy_v11_35]
theorem sp_copy_15_4 {d L kp : Nat} {h : Nat → Nat → Int} {Q : Option am_V → am_H → Prop} : am_Wp d 24 0 [some (Sum.inr (Sum.inr 15)), some (Sum.inr (Sum.inr 4)), none] [] (am_SH L, h, am_RR kp) Q = Q none (am_SH L, am_cpy h 15 4 7, am_RR kp) := by
  rw [bq_KO_copy_v12_0]
  have key := am_for_eq (n := 7) (fun j g => am_up g 4 j (g 15 j)) (fun j g => g = am_cpy h 15 4 j) (fun j g => am_Wp d 24 11 [some (Sum.inr (Sum.inr 15)), some (Sum.inr (Sum.inr 4)), some (Sum.inl (j : Int))] [] (am_SH L, g, am_RR kp) Q) (fun _ => Q none (am_SH L, am_cpy h 15 4 7, am_RR kp)) h (am_cpy_0 _ _ _).symm (fun j g hj hg => ?_) (fun g hg => ?_)
  · exact key
  · subst hg
    refine ⟨?_, am_cpy_s _ _ _ (by omega) _⟩
    show am_Wp d 24 11 _ _ _ _ = _
    rw [bq_KO_copy_v12_11, if_neg (by omega), if_neg (by omega), am_add_ok (by omega) (by omega), Int.toNat_natCast]
    exact propext ⟨fun w => w.2.2, fun w => ⟨⟨by omega, by omega⟩, ⟨by omega, by omega⟩, w⟩⟩
  · subst hg
    show am_Wp d 24 11 _ _ _ _ = _
    rw [bq_KO_copy_v12_11, if_pos (by omega), bq_KO_copy_v12_35]
theorem sp_copy_16_5 {d L kp : Nat} {h : Nat → Nat → Int} {Q : Option am_V → am_H → Prop} : am_Wp d 24 0 [some (Sum.inr (Sum.inr 16)), some (Sum.inr (Sum.inr 5)), none] [] (am_SH L, h, am_RR kp) Q = Q none (am_SH L, am_cpy h 16 5 7, am_RR kp) := by
  rw [bq_KO_copy_v13_0]
  have key := am_for_eq (n := 7) (fun j g => am_up g 5 j (g 16 j)) (fun j g => g = am_cpy h 16 5 j) (fun j g => am_Wp d 24 11 [some (Sum.inr (Sum.inr 16)), some (Sum.inr (Sum.inr 5)), some (Sum.inl (j : Int))] [] (am_SH L, g, am_RR kp) Q) (fun _ => Q none (am_SH L, am_cpy h 16 5 7, am_RR kp)) h (am_cpy_0 _ _ _).symm (fun j g hj hg => ?_) (fun g hg => ?_)
  · exact key
  · subst hg
    refine ⟨?_, am_cpy_s _ _ _ (by omega) _⟩
    show am_Wp d 24 11 _ _ _ _ = _
    rw [bq_KO_copy_v13_11, if_neg (by omega), if_neg (by omega), am_add_ok (by omega) (by omega), Int.toNat_natCast]
    exact propext ⟨fun w => w.2.2, fun w => ⟨⟨by omega, by omega⟩, ⟨by omega, by omega⟩, w⟩⟩
  · subst hg
    show am_Wp d 24 11 _ _ _ _ = _
    rw [bq_KO_copy_v13_11, if_pos (by omega), bq_KO_copy_v13_35]
theorem sp_copy_17_6 {d L kp : Nat} {h : Nat → Nat → Int} {Q : Option am_V → am_H → Prop} : am_Wp d 24 0 [some (Sum.inr (Sum.inr 17)), some (Sum.inr (Sum.inr 6)), none] [] (am_SH L, h, am_RR kp) Q = Q none (am_SH L, am_cpy h 17 6 7, am_RR kp) := by
  rw [bq_KO_copy_v14_0]
  have key := am_for_eq (n := 7) (fun j g => am_up g 6 j (g 17 j)) (fun j g => g = am_cpy h 17 6 j) (fun j g => am_Wp d 24 11 [some (Sum.inr (Sum.inr 17)), some (Sum.inr (Sum.inr 6)), some (Sum.inl (j : Int))] [] (am_SH L, g, am_RR kp) Q) (fun _ => Q none (am_SH L, am_cpy h 17 6 7, am_RR kp)) h (am_cpy_0 _ _ _).symm (fun j g hj hg => ?_) (fun g hg => ?_)
  · exact key
  · subst hg
    refine ⟨?_, am_cpy_s _ _ _ (by omega) _⟩
    show am_Wp d 24 11 _ _ _ _ = _
    rw [bq_KO_copy_v14_11, if_neg (by omega), if_neg (by omega), am_add_ok (by omega) (by omega), Int.toNat_natCast]
    exact propext ⟨fun w => w.2.2, fun w => ⟨⟨by omega, by omega⟩, ⟨by omega, by omega⟩, w⟩⟩
  · subst hg
    show am_Wp d 24 11 _ _ _ _ = _
    rw [bq_KO_copy_v14_11, if_pos (by omega), bq_KO_copy_v14_35]
theorem sp_copy_18_7 {d L kp : Nat} {h : Nat → Nat → Int} {Q : Option am_V → am_H → Prop} : am_Wp d 24 0 [some (Sum.inr (Sum.inr 18)), some (Sum.inr (Sum.inr 7)), none] [] (am_SH L, h, am_RR kp) Q = Q none (am_SH L, am_cpy h 18 7 16, am_RR kp) := by
  rw [bq_KO_copy_v15_0]
  have key := am_for_eq (n := 16) (fun j g => am_up g 7 j (g 18 j)) (fun j g => g = am_cpy h 18 7 j) (fun j g => am_Wp d 24 11 [some (Sum.inr (Sum.inr 18)), some (Sum.inr (Sum.inr 7)), some (Sum.inl (j : Int))] [] (am_SH L, g, am_RR kp) Q) (fun _ => Q none (am_SH L, am_cpy h 18 7 16, am_RR kp)) h (am_cpy_0 _ _ _).symm (fun j g hj hg => ?_) (fun g hg => ?_)
  · exact key
  · subst hg
    refine ⟨?_, am_cpy_s _ _ _ (by omega) _⟩
    show am_Wp d 24 11 _ _ _ _ = _
    rw [bq_KO_copy_v15_11, if_neg (by omega), if_neg (by omega), am_add_ok (by omega) (by omega), Int.toNat_natCast]
    exact propext ⟨fun w => w.2.2, fun w => ⟨⟨by omega, by omega⟩, ⟨by omega, by omega⟩, w⟩⟩
  · subst hg
    show am_Wp d 24 11 _ _ _ _ = _
    rw [bq_KO_copy_v15_11, if_pos (by omega), bq_KO_copy_v15_35]
theorem sp_copy_19_8 {d L kp : Nat} {h : Nat → Nat → Int} {Q : Option am_V → am_H → Prop} : am_Wp d 24 0 [some (Sum.inr (Sum.inr 19)), some (Sum.inr (Sum.inr 8)), none] [] (am_SH L, h, am_RR kp) Q = Q none (am_SH L, am_cpy h 19 8 16, am_RR kp) := by
  rw [bq_KO_copy_v16_0]
  have key := am_for_eq (n := 16) (fun j g => am_up g 8 j (g 19 j)) (fun j g => g = am_cpy h 19 8 j) (fun j g => am_Wp d 24 11 [some (Sum.inr (Sum.inr 19)), some (Sum.inr (Sum.inr 8)), some (Sum.inl (j : Int))] [] (am_SH L, g, am_RR kp) Q) (fun _ => Q none (am_SH L, am_cpy h 19 8 16, am_RR kp)) h (am_cpy_0 _ _ _).symm (fun j g hj hg => ?_) (fun g hg => ?_)
  · exact key
  · subst hg
    refine ⟨?_, am_cpy_s _ _ _ (by omega) _⟩
    show am_Wp d 24 11 _ _ _ _ = _
    rw [bq_KO_copy_v16_11, if_neg (by omega), if_neg (by omega), am_add_ok (by omega) (by omega), Int.toNat_natCast]
    exact propext ⟨fun w => w.2.2, fun w => ⟨⟨by omega, by omega⟩, ⟨by omega, by omega⟩, w⟩⟩
  · subst hg
    show am_Wp d 24 11 _ _ _ _ = _
    rw [bq_KO_copy_v16_11, if_pos (by omega), bq_KO_copy_v16_35]
theorem sp_copy_20_9 {d L kp : Nat} {h : Nat → Nat → Int} {Q : Option am_V → am_H → Prop} : am_Wp d 24 0 [some (Sum.inr (Sum.inr 20)), some (Sum.inr (Sum.inr 9)), none] [] (am_SH L, h, am_RR kp) Q = Q none (am_SH L, am_cpy h 20 9 16, am_RR kp) := by
  rw [bq_KO_copy_v17_0]
  have key := am_for_eq (n := 16) (fun j g => am_up g 9 j (g 20 j)) (fun j g => g = am_cpy h 20 9 j) (fun j g => am_Wp d 24 11 [some (Sum.inr (Sum.inr 20)), some (Sum.inr (Sum.inr 9)), some (Sum.inl (j : Int))] [] (am_SH L, g, am_RR kp) Q) (fun _ => Q none (am_SH L, am_cpy h 20 9 16, am_RR kp)) h (am_cpy_0 _ _ _).symm (fun j g hj hg => ?_) (fun g hg => ?_)
  · exact key
  · subst hg
    refine ⟨?_, am_cpy_s _ _ _ (by omega) _⟩
    show am_Wp d 24 11 _ _ _ _ = _
    rw [bq_KO_copy_v17_11, if_neg (by omega), if_neg (by omega), am_add_ok (by omega) (by omega), Int.toNat_natCast]
    exact propext ⟨fun w => w.2.2, fun w => ⟨⟨by omega, by omega⟩, ⟨by omega, by omega⟩, w⟩⟩
  · subst hg
    show am_Wp d 24 11 _ _ _ _ = _
    rw [bq_KO_copy_v17_11, if_pos (by omega), bq_KO_copy_v17_35]
theorem sp_copy_21_10 {d L kp : Nat} {h : Nat → Nat → Int} {Q : Option am_V → am_H → Prop} : am_Wp d 24 0 [some (Sum.inr (Sum.inr 21)), some (Sum.inr (Sum.inr 10)), none] [] (am_SH L, h, am_RR kp) Q = Q none (am_SH L, am_cpy h 21 10 16, am_RR kp) := by
  rw [bq_KO_copy_v18_0]
  have key := am_for_eq (n := 16) (fun j g => am_up g 10 j (g 21 j)) (fun j g => g = am_cpy h 21 10 j) (fun j g => am_Wp d 24 11 [some (Sum.inr (Sum.inr 21)), some (Sum.inr (Sum.inr 10)), some (Sum.inl (j : Int))] [] (am_SH L, g, am_RR kp) Q) (fun _ => Q none (am_SH L, am_cpy h 21 10 16, am_RR kp)) h (am_cpy_0 _ _ _).symm (fun j g hj hg => ?_) (fun g hg => ?_)
  · exact key
  · subst hg
    refine ⟨?_, am_cpy_s _ _ _ (by omega) _⟩
    show am_Wp d 24 11 _ _ _ _ = _
    rw [bq_KO_copy_v18_11, if_neg (by omega), if_neg (by omega), am_add_ok (by omega) (by omega), Int.toNat_natCast]
    exact propext ⟨fun w => w.2.2, fun w => ⟨⟨by omega, by omega⟩, ⟨by omega, by omega⟩, w⟩⟩
  · subst hg
    show am_Wp d 24 11 _ _ _ _ = _
    rw [bq_KO_copy_v18_11, if_pos (by omega), bq_KO_copy_v18_35]
theorem sp_copy_22_11 {d L kp : Nat} {h : Nat → Nat → Int} {Q : Option am_V → am_H → Prop} : am_Wp d 24 0 [some (Sum.inr (Sum.inr 22)), some (Sum.inr (Sum.inr 11)), none] [] (am_SH L, h, am_RR kp) Q = Q none (am_SH L, am_cpy h 22 11 16, am_RR kp) := by
  rw [bq_KO_copy_v19_0]
  have key := am_for_eq (n := 16) (fun j g => am_up g 11 j (g 22 j)) (fun j g => g = am_cpy h 22 11 j) (fun j g => am_Wp d 24 11 [some (Sum.inr (Sum.inr 22)), some (Sum.inr (Sum.inr 11)), some (Sum.inl (j : Int))] [] (am_SH L, g, am_RR kp) Q) (fun _ => Q none (am_SH L, am_cpy h 22 11 16, am_RR kp)) h (am_cpy_0 _ _ _).symm (fun j g hj hg => ?_) (fun g hg => ?_)
  · exact key
  · subst hg
    refine ⟨?_, am_cpy_s _ _ _ (by omega) _⟩
    show am_Wp d 24 11 _ _ _ _ = _
    rw [bq_KO_copy_v19_11, if_neg (by omega), if_neg (by omega), am_add_ok (by omega) (by omega), Int.toNat_natCast]
    exact propext ⟨fun w => w.2.2, fun w => ⟨⟨by omega, by omega⟩, ⟨by omega, by omega⟩, w⟩⟩
  · subst hg
    show am_Wp d 24 11 _ _ _ _ = _
    rw [bq_KO_copy_v19_11, if_pos (by omega), bq_KO_copy_v19_35]
theorem sp_copy_23_12 {d L kp : Nat} {h : Nat → Nat → Int} {Q : Option am_V → am_H → Prop} : am_Wp d 24 0 [some (Sum.inr (Sum.inr 23)), some (Sum.inr (Sum.inr 12)), none] [] (am_SH L, h, am_RR kp) Q = Q none (am_SH L, am_cpy h 23 12 16, am_RR kp) := by
  rw [bq_KO_copy_v20_0]
  have key := am_for_eq (n := 16) (fun j g => am_up g 12 j (g 23 j)) (fun j g => g = am_cpy h 23 12 j) (fun j g => am_Wp d 24 11 [some (Sum.inr (Sum.inr 23)), some (Sum.inr (Sum.inr 12)), some (Sum.inl (j : Int))] [] (am_SH L, g, am_RR kp) Q) (fun _ => Q none (am_SH L, am_cpy h 23 12 16, am_RR kp)) h (am_cpy_0 _ _ _).symm (fun j g hj hg => ?_) (fun g hg => ?_)
  · exact key
  · subst hg
    refine ⟨?_, am_cpy_s _ _ _ (by omega) _⟩
    show am_Wp d 24 11 _ _ _ _ = _
    rw [bq_KO_copy_v20_11, if_neg (by omega), if_neg (by omega), am_add_ok (by omega) (by omega), Int.toNat_natCast]
    exact propext ⟨fun w => w.2.2, fun w => ⟨⟨by omega, by omega⟩, ⟨by omega, by omega⟩, w⟩⟩
  · subst hg
    show am_Wp d 24 11 _ _ _ _ = _
    rw [bq_KO_copy_v20_11, if_pos (by omega), bq_KO_copy_v20_35]
theorem sp_copy_3_30 {d L kp : Nat} {h : Nat → Nat → Int} {Q : Option am_V → am_H → Prop} : am_Wp d 24 0 [some (Sum.inr (Sum.inr 3)), some (Sum.inr (Sum.inr 30)), none] [] (am_SH L, h, am_RR kp) Q = Q none (am_SH L, am_cpy h 3 30 7, am_RR kp) := by
  rw [bq_KO_copy_v21_0]
  have key := am_for_eq (n := 7) (fun j g => am_up g 30 j (g 3 j)) (fun j g => g = am_cpy h 3 30 j) (fun j g => am_Wp d 24 11 [some (Sum.inr (Sum.inr 3)), some (Sum.inr (Sum.inr 30)), some (Sum.inl (j : Int))] [] (am_SH L, g, am_RR kp) Q) (fun _ => Q none (am_SH L, am_cpy h 3 30 7, am_RR kp)) h (am_cpy_0 _ _ _).symm (fun j g hj hg => ?_) (fun g hg => ?_)
  · exact key
  · subst hg
    refine ⟨?_, am_cpy_s _ _ _ (by omega) _⟩
    show am_Wp d 24 11 _ _ _ _ = _
    rw [bq_KO_copy_v21_11, if_neg (by omega), if_neg (by omega), am_add_ok (by omega) (by omega), Int.toNat_natCast]
    exact propext ⟨fun w => w.2.2, fun w => ⟨⟨by omega, by omega⟩, ⟨by omega, by omega⟩, w⟩⟩
  · subst hg
    show am_Wp d 24 11 _ _ _ _ = _
    rw [bq_KO_copy_v21_11, if_pos (by omega), bq_KO_copy_v21_35]
theorem sp_copy_4_31 {d L kp : Nat} {h : Nat → Nat → Int} {Q : Option am_V → am_H → Prop} : am_Wp d 24 0 [some (Sum.inr (Sum.inr 4)), some (Sum.inr (Sum.inr 31)), none] [] (am_SH L, h, am_RR kp) Q = Q none (am_SH L, am_cpy h 4 31 7, am_RR kp) := by
  rw [bq_KO_copy_v22_0]
  have key := am_for_eq (n := 7) (fun j g => am_up g 31 j (g 4 j)) (fun j g => g = am_cpy h 4 31 j) (fun j g => am_Wp d 24 11 [some (Sum.inr (Sum.inr 4)), some (Sum.inr (Sum.inr 31)), some (Sum.inl (j : Int))] [] (am_SH L, g, am_RR kp) Q) (fun _ => Q none (am_SH L, am_cpy h 4 31 7, am_RR kp)) h (am_cpy_0 _ _ _).symm (fun j g hj hg => ?_) (fun g hg => ?_)
  · exact key
  · subst hg
    refine ⟨?_, am_cpy_s _ _ _ (by omega) _⟩
    show am_Wp d 24 11 _ _ _ _ = _
    rw [bq_KO_copy_v22_11, if_neg (by omega), if_neg (by omega), am_add_ok (by omega) (by omega), Int.toNat_natCast]
    exact propext ⟨fun w => w.2.2, fun w => ⟨⟨by omega, by omega⟩, ⟨by omega, by omega⟩, w⟩⟩
  · subst hg
    show am_Wp d 24 11 _ _ _ _ = _
    rw [bq_KO_copy_v22_11, if_pos (by omega), bq_KO_copy_v22_35]
theorem sp_copy_5_32 {d L kp : Nat} {h : Nat → Nat → Int} {Q : Option am_V → am_H → Prop} : am_Wp d 24 0 [some (Sum.inr (Sum.inr 5)), some (Sum.inr (Sum.inr 32)), none] [] (am_SH L, h, am_RR kp) Q = Q none (am_SH L, am_cpy h 5 32 7, am_RR kp) := by
  rw [bq_KO_copy_v23_0]
  have key := am_for_eq (n := 7) (fun j g => am_up g 32 j (g 5 j)) (fun j g => g = am_cpy h 5 32 j) (fun j g => am_Wp d 24 11 [some (Sum.inr (Sum.inr 5)), some (Sum.inr (Sum.inr 32)), some (Sum.inl (j : Int))] [] (am_SH L, g, am_RR kp) Q) (fun _ => Q none (am_SH L, am_cpy h 5 32 7, am_RR kp)) h (am_cpy_0 _ _ _).symm (fun j g hj hg => ?_) (fun g hg => ?_)
  · exact key
  · subst hg
    refine ⟨?_, am_cpy_s _ _ _ (by omega) _⟩
    show am_Wp d 24 11 _ _ _ _ = _
    rw [bq_KO_copy_v23_11, if_neg (by omega), if_neg (by omega), am_add_ok (by omega) (by omega), Int.toNat_natCast]
    exact propext ⟨fun w => w.2.2, fun w => ⟨⟨by omega, by omega⟩, ⟨by omega, by omega⟩, w⟩⟩
  · subst hg
    show am_Wp d 24 11 _ _ _ _ = _
    rw [bq_KO_copy_v23_11, if_pos (by omega), bq_KO_copy_v23_35]
theorem sp_copy_6_33 {d L kp : Nat} {h : Nat → Nat → Int} {Q : Option am_V → am_H → Prop} : am_Wp d 24 0 [some (Sum.inr (Sum.inr 6)), some (Sum.inr (Sum.inr 33)), none] [] (am_SH L, h, am_RR kp) Q = Q none (am_SH L, am_cpy h 6 33 7, am_RR kp) := by
  rw [bq_KO_copy_v24_0]
  have key := am_for_eq (n := 7) (fun j g => am_up g 33 j (g 6 j)) (fun j g => g = am_cpy h 6 33 j) (fun j g => am_Wp d 24 11 [some (Sum.inr (Sum.inr 6)), some (Sum.inr (Sum.inr 33)), some (Sum.inl (j : Int))] [] (am_SH L, g, am_RR kp) Q) (fun _ => Q none (am_SH L, am_cpy h 6 33 7, am_RR kp)) h (am_cpy_0 _ _ _).symm (fun j g hj hg => ?_) (fun g hg => ?_)
  · exact key
  · subst hg
    refine ⟨?_, am_cpy_s _ _ _ (by omega) _⟩
    show am_Wp d 24 11 _ _ _ _ = _
    rw [bq_KO_copy_v24_11, if_neg (by omega), if_neg (by omega), am_add_ok (by omega) (by omega), Int.toNat_natCast]
    exact propext ⟨fun w => w.2.2, fun w => ⟨⟨by omega, by omega⟩, ⟨by omega, by omega⟩, w⟩⟩
  · subst hg
    show am_Wp d 24 11 _ _ _ _ = _
    rw [bq_KO_copy_v24_11, if_pos (by omega), bq_KO_copy_v24_35]
theorem sp_copy_7_34 {d L kp : Nat} {h : Nat → Nat → Int} {Q : Option am_V → am_H → Prop} : am_Wp d 24 0 [some (Sum.inr (Sum.inr 7)), some (Sum.inr (Sum.inr 34)), none] [] (am_SH L, h, am_RR kp) Q = Q none (am_SH L, am_cpy h 7 34 16, am_RR kp) := by
  rw [bq_KO_copy_v25_0]
  have key := am_for_eq (n := 16) (fun j g => am_up g 34 j (g 7 j)) (fun j g => g = am_cpy h 7 34 j) (fun j g => am_Wp d 24 11 [some (Sum.inr (Sum.inr 7)), some (Sum.inr (Sum.inr 34)), some (Sum.inl (j : Int))] [] (am_SH L, g, am_RR kp) Q) (fun _ => Q none (am_SH L, am_cpy h 7 34 16, am_RR kp)) h (am_cpy_0 _ _ _).symm (fun j g hj hg => ?_) (fun g hg => ?_)
  · exact key
  · subst hg
    refine ⟨?_, am_cpy_s _ _ _ (by omega) _⟩
    show am_Wp d 24 11 _ _ _ _ = _
    rw [bq_KO_copy_v25_11, if_neg (by omega), if_neg (by omega), am_add_ok (by omega) (by omega), Int.toNat_natCast]
    exact propext ⟨fun w => w.2.2, fun w => ⟨⟨by omega, by omega⟩, ⟨by omega, by omega⟩, w⟩⟩
  · subst hg
    show am_Wp d 24 11 _ _ _ _ = _
    rw [bq_KO_copy_v25_11, if_pos (by omega), bq_KO_copy_v25_35]
theorem sp_copy_8_35 {d L kp : Nat} {h : Nat → Nat → Int} {Q : Option am_V → am_H → Prop} : am_Wp d 24 0 [some (Sum.inr (Sum.inr 8)), some (Sum.inr (Sum.inr 35)), none] [] (am_SH L, h, am_RR kp) Q = Q none (am_SH L, am_cpy h 8 35 16, am_RR kp) := by
  rw [bq_KO_copy_v26_0]
  have key := am_for_eq (n := 16) (fun j g => am_up g 35 j (g 8 j)) (fun j g => g = am_cpy h 8 35 j) (fun j g => am_Wp d 24 11 [some (Sum.inr (Sum.inr 8)), some (Sum.inr (Sum.inr 35)), some (Sum.inl (j : Int))] [] (am_SH L, g, am_RR kp) Q) (fun _ => Q none (am_SH L, am_cpy h 8 35 16, am_RR kp)) h (am_cpy_0 _ _ _).symm (fun j g hj hg => ?_) (fun g hg => ?_)
  · exact key
  · subst hg
    refine ⟨?_, am_cpy_s _ _ _ (by omega) _⟩
    show am_Wp d 24 11 _ _ _ _ = _
    rw [bq_KO_copy_v26_11, if_neg (by omega), if_neg (by omega), am_add_ok (by omega) (by omega), Int.toNat_natCast]
    exact propext ⟨fun w => w.2.2, fun w => ⟨⟨by omega, by omega⟩, ⟨by omega, by omega⟩, w⟩⟩
  · subst hg
    show am_Wp d 24 11 _ _ _ _ = _
    rw [bq_KO_copy_v26_11, if_pos (by omega), bq_KO_copy_v26_35]
theorem sp_copy_9_36 {d L kp : Nat} {h : Nat → Nat → Int} {Q : Option am_V → am_H → Prop} : am_Wp d 24 0 [some (Sum.inr (Sum.inr 9)), some (Sum.inr (Sum.inr 36)), none] [] (am_SH L, h, am_RR kp) Q = Q none (am_SH L, am_cpy h 9 36 16, am_RR kp) := by
  rw [bq_KO_copy_v27_0]
  have key := am_for_eq (n := 16) (fun j g => am_up g 36 j (g 9 j)) (fun j g => g = am_cpy h 9 36 j) (fun j g => am_Wp d 24 11 [some (Sum.inr (Sum.inr 9)), some (Sum.inr (Sum.inr 36)), some (Sum.inl (j : Int))] [] (am_SH L, g, am_RR kp) Q) (fun _ => Q none (am_SH L, am_cpy h 9 36 16, am_RR kp)) h (am_cpy_0 _ _ _).symm (fun j g hj hg => ?_) (fun g hg => ?_)
  · exact key
  · subst hg
    refine ⟨?_, am_cpy_s _ _ _ (by omega) _⟩
    show am_Wp d 24 11 _ _ _ _ = _
    rw [bq_KO_copy_v27_11, if_neg (by omega), if_neg (by omega), am_add_ok (by omega) (by omega), Int.toNat_natCast]
    exact propext ⟨fun w => w.2.2, fun w => ⟨⟨by omega, by omega⟩, ⟨by omega, by omega⟩, w⟩⟩
  · subst hg
    show am_Wp d 24 11 _ _ _ _ = _
    rw [bq_KO_copy_v27_11, if_pos (by omega), bq_KO_copy_v27_35]
theorem sp_copy_10_37 {d L kp : Nat} {h : Nat → Nat → Int} {Q : Option am_V → am_H → Prop} : am_Wp d 24 0 [some (Sum.inr (Sum.inr 10)), some (Sum.inr (Sum.inr 37)), none] [] (am_SH L, h, am_RR kp) Q = Q none (am_SH L, am_cpy h 10 37 16, am_RR kp) := by
  rw [bq_KO_copy_v28_0]
  have key := am_for_eq (n := 16) (fun j g => am_up g 37 j (g 10 j)) (fun j g => g = am_cpy h 10 37 j) (fun j g => am_Wp d 24 11 [some (Sum.inr (Sum.inr 10)), some (Sum.inr (Sum.inr 37)), some (Sum.inl (j : Int))] [] (am_SH L, g, am_RR kp) Q) (fun _ => Q none (am_SH L, am_cpy h 10 37 16, am_RR kp)) h (am_cpy_0 _ _ _).symm (fun j g hj hg => ?_) (fun g hg => ?_)
  · exact key
  · subst hg
    refine ⟨?_, am_cpy_s _ _ _ (by omega) _⟩
    show am_Wp d 24 11 _ _ _ _ = _
    rw [bq_KO_copy_v28_11, if_neg (by omega), if_neg (by omega), am_add_ok (by omega) (by omega), Int.toNat_natCast]
    exact propext ⟨fun w => w.2.2, fun w => ⟨⟨by omega, by omega⟩, ⟨by omega, by omega⟩, w⟩⟩
  · subst hg
    show am_Wp d 24 11 _ _ _ _ = _
    rw [bq_KO_copy_v28_11, if_pos (by omega), bq_KO_copy_v28_35]
theorem sp_copy_11_38 {d L kp : Nat} {h : Nat → Nat → Int} {Q : Option am_V → am_H → Prop} : am_Wp d 24 0 [some (Sum.inr (Sum.inr 11)), some (Sum.inr (Sum.inr 38)), none] [] (am_SH L, h, am_RR kp) Q = Q none (am_SH L, am_cpy h 11 38 16, am_RR kp) := by
  rw [bq_KO_copy_v29_0]
  have key := am_for_eq (n := 16) (fun j g => am_up g 38 j (g 11 j)) (fun j g => g = am_cpy h 11 38 j) (fun j g => am_Wp d 24 11 [some (Sum.inr (Sum.inr 11)), some (Sum.inr (Sum.inr 38)), some (Sum.inl (j : Int))] [] (am_SH L, g, am_RR kp) Q) (fun _ => Q none (am_SH L, am_cpy h 11 38 16, am_RR kp)) h (am_cpy_0 _ _ _).symm (fun j g hj hg => ?_) (fun g hg => ?_)
  · exact key
  · subst hg
    refine ⟨?_, am_cpy_s _ _ _ (by omega) _⟩
    show am_Wp d 24 11 _ _ _ _ = _
    rw [bq_KO_copy_v29_11, if_neg (by omega), if_neg (by omega), am_add_ok (by omega) (by omega), Int.toNat_natCast]
    exact propext ⟨fun w => w.2.2, fun w => ⟨⟨by omega, by omega⟩, ⟨by omega, by omega⟩, w⟩⟩
  · subst hg
    show am_Wp d 24 11 _ _ _ _ = _
    rw [bq_KO_copy_v29_11, if_pos (by omega), bq_KO_copy_v29_35]
theorem sp_copy_12_39 {d L kp : Nat} {h : Nat → Nat → Int} {Q : Option am_V → am_H → Prop} : am_Wp d 24 0 [some (Sum.inr (Sum.inr 12)), some (Sum.inr (Sum.inr 39)), none] [] (am_SH L, h, am_RR kp) Q = Q none (am_SH L, am_cpy h 12 39 16, am_RR kp) := by
  rw [bq_KO_copy_v30_0]
  have key := am_for_eq (n := 16) (fun j g => am_up g 39 j (g 12 j)) (fun j g => g = am_cpy h 12 39 j) (fun j g => am_Wp d 24 11 [some (Sum.inr (Sum.inr 12)), some (Sum.inr (Sum.inr 39)), some (Sum.inl (j : Int))] [] (am_SH L, g, am_RR kp) Q) (fun _ => Q none (am_SH L, am_cpy h 12 39 16, am_RR kp)) h (am_cpy_0 _ _ _).symm (fun j g hj hg => ?_) (fun g hg => ?_)
  · exact key
  · subst hg
    refine ⟨?_, am_cpy_s _ _ _ (by omega) _⟩
    show am_Wp d 24 11 _ _ _ _ = _
    rw [bq_KO_copy_v30_11, if_neg (by omega), if_neg (by omega), am_add_ok (by omega) (by omega), Int.toNat_natCast]
    exact propext ⟨fun w => w.2.2, fun w => ⟨⟨by omega, by omega⟩, ⟨by omega, by omega⟩, w⟩⟩
  · subst hg
    show am_Wp d 24 11 _ _ _ _ = _
    rw [bq_KO_copy_v30_11, if_pos (by omega), bq_KO_copy_v30_35]
theorem sp_copy_30_3 {d L kp : Nat} {h : Nat → Nat → Int} {Q : Option am_V → am_H → Prop} : am_Wp d 24 0 [some (Sum.inr (Sum.inr 30)), some (Sum.inr (Sum.inr 3)), none] [] (am_SH L, h, am_RR kp) Q = Q none (am_SH L, am_cpy h 30 3 7, am_RR kp) := by
  rw [bq_KO_copy_v31_0]
  have key := am_for_eq (n := 7) (fun j g => am_up g 3 j (g 30 j)) (fun j g => g = am_cpy h 30 3 j) (fun j g => am_Wp d 24 11 [some (Sum.inr (Sum.inr 30)), some (Sum.inr (Sum.inr 3)), some (Sum.inl (j : Int))] [] (am_SH L, g, am_RR kp) Q) (fun _ => Q none (am_SH L, am_cpy h 30 3 7, am_RR kp)) h (am_cpy_0 _ _ _).symm (fun j g hj hg => ?_) (fun g hg => ?_)
  · exact key
  · subst hg
    refine ⟨?_, am_cpy_s _ _ _ (by omega) _⟩
    show am_Wp d 24 11 _ _ _ _ = _
    rw [bq_KO_copy_v31_11, if_neg (by omega), if_neg (by omega), am_add_ok (by omega) (by omega), Int.toNat_natCast]
    exact propext ⟨fun w => w.2.2, fun w => ⟨⟨by omega, by omega⟩, ⟨by omega, by omega⟩, w⟩⟩
  · subst hg
    show am_Wp d 24 11 _ _ _ _ = _
    rw [bq_KO_copy_v31_11, if_pos (by omega), bq_KO_copy_v31_35]
theorem sp_copy_31_4 {d L kp : Nat} {h : Nat → Nat → Int} {Q : Option am_V → am_H → Prop} : am_Wp d 24 0 [some (Sum.inr (Sum.inr 31)), some (Sum.inr (Sum.inr 4)), none] [] (am_SH L, h, am_RR kp) Q = Q none (am_SH L, am_cpy h 31 4 7, am_RR kp) := by
  rw [bq_KO_copy_v32_0]
  have key := am_for_eq (n := 7) (fun j g => am_up g 4 j (g 31 j)) (fun j g => g = am_cpy h 31 4 j) (fun j g => am_Wp d 24 11 [some (Sum.inr (Sum.inr 31)), some (Sum.inr (Sum.inr 4)), some (Sum.inl (j : Int))] [] (am_SH L, g, am_RR kp) Q) (fun _ => Q none (am_SH L, am_cpy h 31 4 7, am_RR kp)) h (am_cpy_0 _ _ _).symm (fun j g hj hg => ?_) (fun g hg => ?_)
  · exact key
  · subst hg
    refine ⟨?_, am_cpy_s _ _ _ (by omega) _⟩
    show am_Wp d 24 11 _ _ _ _ = _
    rw [bq_KO_copy_v32_11, if_neg (by omega), if_neg (by omega), am_add_ok (by omega) (by omega), Int.toNat_natCast]
    exact propext ⟨fun w => w.2.2, fun w => ⟨⟨by omega, by omega⟩, ⟨by omega, by omega⟩, w⟩⟩
  · subst hg
    show am_Wp d 24 11 _ _ _ _ = _
    rw [bq_KO_copy_v32_11, if_pos (by omega), bq_KO_copy_v32_35]
theorem sp_copy_32_5 {d L kp : Nat} {h : Nat → Nat → Int} {Q : Option am_V → am_H → Prop} : am_Wp d 24 0 [some (Sum.inr (Sum.inr 32)), some (Sum.inr (Sum.inr 5)), none] [] (am_SH L, h, am_RR kp) Q = Q none (am_SH L, am_cpy h 32 5 7, am_RR kp) := by
  rw [bq_KO_copy_v33_0]
  have key := am_for_eq (n := 7) (fun j g => am_up g 5 j (g 32 j)) (fun j g => g = am_cpy h 32 5 j) (fun j g => am_Wp d 24 11 [some (Sum.inr (Sum.inr 32)), some (Sum.inr (Sum.inr 5)), some (Sum.inl (j : Int))] [] (am_SH L, g, am_RR kp) Q) (fun _ => Q none (am_SH L, am_cpy h 32 5 7, am_RR kp)) h (am_cpy_0 _ _ _).symm (fun j g hj hg => ?_) (fun g hg => ?_)
  · exact key
  · subst hg
    refine ⟨?_, am_cpy_s _ _ _ (by omega) _⟩
    show am_Wp d 24 11 _ _ _ _ = _
    rw [bq_KO_copy_v33_11, if_neg (by omega), if_neg (by omega), am_add_ok (by omega) (by omega), Int.toNat_natCast]
    exact propext ⟨fun w => w.2.2, fun w => ⟨⟨by omega, by omega⟩, ⟨by omega, by omega⟩, w⟩⟩
  · subst hg
    show am_Wp d 24 11 _ _ _ _ = _
    rw [bq_KO_copy_v33_11, if_pos (by omega), bq_KO_copy_v33_35]
theorem sp_copy_33_6 {d L kp : Nat} {h : Nat → Nat → Int} {Q : Option am_V → am_H → Prop} : am_Wp d 24 0 [some (Sum.inr (Sum.inr 33)), some (Sum.inr (Sum.inr 6)), none] [] (am_SH L, h, am_RR kp) Q = Q none (am_SH L, am_cpy h 33 6 7, am_RR kp) := by
  rw [bq_KO_copy_v34_0]
  have key := am_for_eq (n := 7) (fun j g => am_up g 6 j (g 33 j)) (fun j g => g = am_cpy h 33 6 j) (fun j g => am_Wp d 24 11 [some (Sum.inr (Sum.inr 33)), some (Sum.inr (Sum.inr 6)), some (Sum.inl (j : Int))] [] (am_SH L, g, am_RR kp) Q) (fun _ => Q none (am_SH L, am_cpy h 33 6 7, am_RR kp)) h (am_cpy_0 _ _ _).symm (fun j g hj hg => ?_) (fun g hg => ?_)
  · exact key
  · subst hg
    refine ⟨?_, am_cpy_s _ _ _ (by omega) _⟩
    show am_Wp d 24 11 _ _ _ _ = _
    rw [bq_KO_copy_v34_11, if_neg (by omega), if_neg (by omega), am_add_ok (by omega) (by omega), Int.toNat_natCast]
    exact propext ⟨fun w => w.2.2, fun w => ⟨⟨by omega, by omega⟩, ⟨by omega, by omega⟩, w⟩⟩
  · subst hg
    show am_Wp d 24 11 _ _ _ _ = _
    rw [bq_KO_copy_v34_11, if_pos (by omega), bq_KO_copy_v34_35]
theorem sp_copy_34_7 {d L kp : Nat} {h : Nat → Nat → Int} {Q : Option am_V → am_H → Prop} : am_Wp d 24 0 [some (Sum.inr (Sum.inr 34)), some (Sum.inr (Sum.inr 7)), none] [] (am_SH L, h, am_RR kp) Q = Q none (am_SH L, am_cpy h 34 7 16, am_RR kp) := by
  rw [bq_KO_copy_v35_0]
  have key := am_for_eq (n := 16) (fun j g => am_up g 7 j (g 34 j)) (fun j g => g = am_cpy h 34 7 j) (fun j g => am_Wp d 24 11 [some (Sum.inr (Sum.inr 34)), some (Sum.inr (Sum.inr 7)), some (Sum.inl (j : Int))] [] (am_SH L, g, am_RR kp) Q) (fun _ => Q none (am_SH L, am_cpy h 34 7 16, am_RR kp)) h (am_cpy_0 _ _ _).symm (fun j g hj hg => ?_) (fun g hg => ?_)
  · exact key
  · subst hg
    refine ⟨?_, am_cpy_s _ _ _ (by omega) _⟩
    show am_Wp d 24 11 _ _ _ _ = _
    rw [bq_KO_copy_v35_11, if_neg (by omega), if_neg (by omega), am_add_ok (by omega) (by omega), Int.toNat_natCast]
    exact propext ⟨fun w => w.2.2, fun w => ⟨⟨by omega, by omega⟩, ⟨by omega, by omega⟩, w⟩⟩
  · subst hg
    show am_Wp d 24 11 _ _ _ _ = _
    rw [bq_KO_copy_v35_11, if_pos (by omega), bq_KO_copy_v35_35]
theorem sp_copy_35_8 {d L kp : Nat} {h : Nat → Nat → Int} {Q : Option am_V → am_H → Prop} : am_Wp d 24 0 [some (Sum.inr (Sum.inr 35)), some (Sum.inr (Sum.inr 8)), none] [] (am_SH L, h, am_RR kp) Q = Q none (am_SH L, am_cpy h 35 8 16, am_RR kp) := by
  rw [bq_KO_copy_v36_0]
  have key := am_for_eq (n := 16) (fun j g => am_up g 8 j (g 35 j)) (fun j g => g = am_cpy h 35 8 j) (fun j g => am_Wp d 24 11 [some (Sum.inr (Sum.inr 35)), some (Sum.inr (Sum.inr 8)), some (Sum.inl (j : Int))] [] (am_SH L, g, am_RR kp) Q) (fun _ => Q none (am_SH L, am_cpy h 35 8 16, am_RR kp)) h (am_cpy_0 _ _ _).symm (fun j g hj hg => ?_) (fun g hg => ?_)
  · exact key
  · subst hg
    refine ⟨?_, am_cpy_s _ _ _ (by omega) _⟩
    show am_Wp d 24 11 _ _ _ _ = _
    rw [bq_KO_copy_v36_11, if_neg (by omega), if_neg (by omega), am_add_ok (by omega) (by omega), Int.toNat_natCast]
    exact propext ⟨fun w => w.2.2, fun w => ⟨⟨by omega, by omega⟩, ⟨by omega, by omega⟩, w⟩⟩
  · subst hg
    show am_Wp d 24 11 _ _ _ _ = _
    rw [bq_KO_copy_v36_11, if_pos (by omega), bq_KO_copy_v36_35]
theorem sp_copy_36_9 {d L kp : Nat} {h : Nat → Nat → Int} {Q : Option am_V → am_H → Prop} : am_Wp d 24 0 [some (Sum.inr (Sum.inr 36)), some (Sum.inr (Sum.inr 9)), none] [] (am_SH L, h, am_RR kp) Q = Q none (am_SH L, am_cpy h 36 9 16, am_RR kp) := by
  rw [bq_KO_copy_v37_0]
  have key := am_for_eq (n := 16) (fun j g => am_up g 9 j (g 36 j)) (fun j g => g = am_cpy h 36 9 j) (fun j g => am_Wp d 24 11 [some (Sum.inr (Sum.inr 36)), some (Sum.inr (Sum.inr 9)), some (Sum.inl (j : Int))] [] (am_SH L, g, am_RR kp) Q) (fun _ => Q none (am_SH L, am_cpy h 36 9 16, am_RR kp)) h (am_cpy_0 _ _ _).symm (fun j g hj hg => ?_) (fun g hg => ?_)
  · exact key
  · subst hg
    refine ⟨?_, am_cpy_s _ _ _ (by omega) _⟩
    show am_Wp d 24 11 _ _ _ _ = _
    rw [bq_KO_copy_v37_11, if_neg (by omega), if_neg (by omega), am_add_ok (by omega) (by omega), Int.toNat_natCast]
    exact propext ⟨fun w => w.2.2, fun w => ⟨⟨by omega, by omega⟩, ⟨by omega, by omega⟩, w⟩⟩
  · subst hg
    show am_Wp d 24 11 _ _ _ _ = _
    rw [bq_KO_copy_v37_11, if_pos (by omega), bq_KO_copy_v37_35]
theorem sp_copy_37_10 {d L kp : Nat} {h : Nat → Nat → Int} {Q : Option am_V → am_H → Prop} : am_Wp d 24 0 [some (Sum.inr (Sum.inr 37)), some (Sum.inr (Sum.inr 10)), none] [] (am_SH L, h, am_RR kp) Q = Q none (am_SH L, am_cpy h 37 10 16, am_RR kp) := by
  rw [bq_KO_copy_v38_0]
  have key := am_for_eq (n := 16) (fun j g => am_up g 10 j (g 37 j)) (fun j g => g = am_cpy h 37 10 j) (fun j g => am_Wp d 24 11 [some (Sum.inr (Sum.inr 37)), some (Sum.inr (Sum.inr 10)), some (Sum.inl (j : Int))] [] (am_SH L, g, am_RR kp) Q) (fun _ => Q none (am_SH L, am_cpy h 37 10 16, am_RR kp)) h (am_cpy_0 _ _ _).symm (fun j g hj hg => ?_) (fun g hg => ?_)
  · exact key
  · subst hg
    refine ⟨?_, am_cpy_s _ _ _ (by omega) _⟩
    show am_Wp d 24 11 _ _ _ _ = _
    rw [bq_KO_copy_v38_11, if_neg (by omega), if_neg (by omega), am_add_ok (by omega) (by omega), Int.toNat_natCast]
    exact propext ⟨fun w => w.2.2, fun w => ⟨⟨by omega, by omega⟩, ⟨by omega, by omega⟩, w⟩⟩
  · subst hg
    show am_Wp d 24 11 _ _ _ _ = _
    rw [bq_KO_copy_v38_11, if_pos (by omega), bq_KO_copy_v38_35]
theorem sp_copy_38_11 {d L kp : Nat} {h : Nat → Nat → Int} {Q : Option am_V → am_H → Prop} : am_Wp d 24 0 [some (Sum.inr (Sum.inr 38)), some (Sum.inr (Sum.inr 11)), none] [] (am_SH L, h, am_RR kp) Q = Q none (am_SH L, am_cpy h 38 11 16, am_RR kp) := by
  rw [bq_KO_copy_v39_0]
  have key := am_for_eq (n := 16) (fun j g => am_up g 11 j (g 38 j)) (fun j g => g = am_cpy h 38 11 j) (fun j g => am_Wp d 24 11 [some (Sum.inr (Sum.inr 38)), some (Sum.inr (Sum.inr 11)), some (Sum.inl (j : Int))] [] (am_SH L, g, am_RR kp) Q) (fun _ => Q none (am_SH L, am_cpy h 38 11 16, am_RR kp)) h (am_cpy_0 _ _ _).symm (fun j g hj hg => ?_) (fun g hg => ?_)
  · exact key
  · subst hg
    refine ⟨?_, am_cpy_s _ _ _ (by omega) _⟩
    show am_Wp d 24 11 _ _ _ _ = _
    rw [bq_KO_copy_v39_11, if_neg (by omega), if_neg (by omega), am_add_ok (by omega) (by omega), Int.toNat_natCast]
    exact propext ⟨fun w => w.2.2, fun w => ⟨⟨by omega, by omega⟩, ⟨by omega, by omega⟩, w⟩⟩
  · subst hg
    show am_Wp d 24 11 _ _ _ _ = _
    rw [bq_KO_copy_v39_11, if_pos (by omega), bq_KO_copy_v39_35]
theorem sp_copy_39_12 {d L kp : Nat} {h : Nat → Nat → Int} {Q : Option am_V → am_H → Prop} : am_Wp d 24 0 [some (Sum.inr (Sum.inr 39)), some (Sum.inr (Sum.inr 12)), none] [] (am_SH L, h, am_RR kp) Q = Q none (am_SH L, am_cpy h 39 12 16, am_RR kp) := by
  rw [bq_KO_copy_v40_0]
  have key := am_for_eq (n := 16) (fun j g => am_up g 12 j (g 39 j)) (fun j g => g = am_cpy h 39 12 j) (fun j g => am_Wp d 24 11 [some (Sum.inr (Sum.inr 39)), some (Sum.inr (Sum.inr 12)), some (Sum.inl (j : Int))] [] (am_SH L, g, am_RR kp) Q) (fun _ => Q none (am_SH L, am_cpy h 39 12 16, am_RR kp)) h (am_cpy_0 _ _ _).symm (fun j g hj hg => ?_) (fun g hg => ?_)
  · exact key
  · subst hg
    refine ⟨?_, am_cpy_s _ _ _ (by omega) _⟩
    show am_Wp d 24 11 _ _ _ _ = _
    rw [bq_KO_copy_v40_11, if_neg (by omega), if_neg (by omega), am_add_ok (by omega) (by omega), Int.toNat_natCast]
    exact propext ⟨fun w => w.2.2, fun w => ⟨⟨by omega, by omega⟩, ⟨by omega, by omega⟩, w⟩⟩
  · subst hg
    show am_Wp d 24 11 _ _ _ _ = _
    rw [bq_KO_copy_v40_11, if_pos (by omega), bq_KO_copy_v40_35]
theorem sp_copy_57_58 {d L kp : Nat} {h : Nat → Nat → Int} {Q : Option am_V → am_H → Prop} : am_Wp d 24 0 [some (Sum.inr (Sum.inr 57)), some (Sum.inr (Sum.inr 58)), none] [] (am_SH L, h, am_RR kp) Q = Q none (am_SH L, am_cpy h 57 58 7, am_RR kp) := by
  rw [bq_KO_copy_v41_0]
  have key := am_for_eq (n := 7) (fun j g => am_up g 58 j (g 57 j)) (fun j g => g = am_cpy h 57 58 j) (fun j g => am_Wp d 24 11 [some (Sum.inr (Sum.inr 57)), some (Sum.inr (Sum.inr 58)), some (Sum.inl (j : Int))] [] (am_SH L, g, am_RR kp) Q) (fun _ => Q none (am_SH L, am_cpy h 57 58 7, am_RR kp)) h (am_cpy_0 _ _ _).symm (fun j g hj hg => ?_) (fun g hg => ?_)
  · exact key
  · subst hg
    refine ⟨?_, am_cpy_s _ _ _ (by omega) _⟩
    show am_Wp d 24 11 _ _ _ _ = _
    rw [bq_KO_copy_v41_11, if_neg (by omega), if_neg (by omega), am_add_ok (by omega) (by omega), Int.toNat_natCast]
    exact propext ⟨fun w => w.2.2, fun w => ⟨⟨by omega, by omega⟩, ⟨by omega, by omega⟩, w⟩⟩
  · subst hg
    show am_Wp d 24 11 _ _ _ _ = _
    rw [bq_KO_copy_v41_11, if_pos (by omega), bq_KO_copy_v41_35]
