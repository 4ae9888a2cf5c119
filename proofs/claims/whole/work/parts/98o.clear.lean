/-! clear -/
theorem c_clear {d L kp : Nat} {h : Nat → Nat → Int} : am_Ch L (Sum.inl (h 1 6)) (am_up h 1 6 0) (fun Q => am_Wp d 182 0 [some (Sum.inr (Sum.inr 1)), none] [] (am_SH L, h, am_RR kp) Q) := by
  intro Q hq
  show am_Wp d 182 0 [some (Sum.inr (Sum.inr 1)), none] [] (am_SH L, h, am_RR kp) Q
  rw [bq_KO_clear_0]
  exact hq _ kp am_keep_r
theorem m_clear {d L kp : Nat} {h : Nat → Nat → Int} : am_Ch L (Sum.inl (h 70 46)) (am_up h 70 46 0) (fun Q => am_Wp d 289 0 [some (Sum.inr (Sum.inr 70)), none] [] (am_SH L, h, am_RR kp) Q) := by
  intro Q hq
  show am_Wp d 289 0 [some (Sum.inr (Sum.inr 70)), none] [] (am_SH L, h, am_RR kp) Q
  rw [bq_M_clear_0]
  exact hq _ kp (am_keep_upup am_keep_70)