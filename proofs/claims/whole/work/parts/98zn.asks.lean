/-! THE CALLS THAT ONLY ASK, OF BOTH -/
theorem p_person {d : Nat} {i w : Int} (hd : 30 ≤ d) : am_PR am_isI (fun h L kp Q => am_Wp d 44 0 [some (Sum.inr (Sum.inr 1)), some (Sum.inl i), some (Sum.inl w)] [] (am_SH L, h, am_RR kp) Q) (fun h L kp Q => am_Wp d 213 0 [some (Sum.inr (Sum.inr 70)), some (Sum.inl i), some (Sum.inl w)] [] (am_SH L, h, am_RR kp) Q) := by
  refine am_PR_An1 (fun h hi => ⟨a_person (am_wv h 2) i w, (by unfold a_person; (repeat' split) <;> exact ⟨_, rfl⟩), fun L kp => c_person (by omega) (am_INV_u.1 hi).1.1, fun g L kp eg => ?_⟩)
  have h3 := m_person (d := d) (L := L) (kp := kp) (h := g) (i := i) (w := w) (by omega) (am_INV_g hi eg).1
  rw [(am_INV_g hi eg).2.2] at h3
  exact h3
theorem p_paper {d : Nat} {i w : Int} (hd : 30 ≤ d) : am_PR am_isI (fun h L kp Q => am_Wp d 51 0 [some (Sum.inr (Sum.inr 1)), some (Sum.inl i), some (Sum.inl w)] [] (am_SH L, h, am_RR kp) Q) (fun h L kp Q => am_Wp d 217 0 [some (Sum.inr (Sum.inr 70)), some (Sum.inl i), some (Sum.inl w)] [] (am_SH L, h, am_RR kp) Q) := by
  refine am_PR_An1 (fun h hi => ⟨a_paper (am_wv h 2) i w, (by unfold a_paper; (repeat' split) <;> exact ⟨_, rfl⟩), fun L kp => c_paper (by omega) (am_INV_u.1 hi).1.1, fun g L kp eg => ?_⟩)
  have h3 := m_paper (d := d) (L := L) (kp := kp) (h := g) (i := i) (w := w) (by omega) (am_INV_g hi eg).1
  rw [(am_INV_g hi eg).2.2] at h3
  exact h3
theorem p_heirs {d : Nat} {i : Int} (hd : 30 ≤ d) : am_PR am_isI (fun h L kp Q => am_Wp d 155 0 [some (Sum.inr (Sum.inr 1)), some (Sum.inl i), none, none] [] (am_SH L, h, am_RR kp) Q) (fun h L kp Q => am_Wp d 275 0 [some (Sum.inr (Sum.inr 70)), some (Sum.inl i), none, none] [] (am_SH L, h, am_RR kp) Q) := by
  refine am_PR_An1 (fun h hi => ⟨a_heirs (am_wv h 2) i, (by unfold a_heirs; (repeat' split) <;> exact ⟨_, rfl⟩), fun L kp => c_heirs (by omega) (am_INV_u.1 hi).1.1, fun g L kp eg => ?_⟩)
  have h3 := m_heirs (d := d) (L := L) (kp := kp) (h := g) (i := i) (by omega) (am_INV_g hi eg).1
  rw [(am_INV_g hi eg).2.2] at h3
  exact h3
theorem p_last {d : Nat} (hd : 30 ≤ d) : am_PR am_isI (fun h L kp Q => am_Wp d 151 0 [some (Sum.inr (Sum.inr 1)), none, none] [] (am_SH L, h, am_RR kp) Q) (fun h L kp Q => am_Wp d 272 0 [some (Sum.inr (Sum.inr 70)), none, none] [] (am_SH L, h, am_RR kp) Q) := by
  refine am_PR_An1 (fun h hi => ⟨a_last (am_wv h 2), (by unfold a_last; (repeat' split) <;> exact ⟨_, rfl⟩), fun L kp => c_last (by omega) (am_INV_u.1 hi).1.1, fun g L kp eg => ?_⟩)
  have h3 := m_last (d := d) (L := L) (kp := kp) (h := g) (am_INV_g hi eg).1
  rw [(am_INV_g hi eg).2.2] at h3
  exact h3
theorem p_inIt {d : Nat} (hd : 30 ≤ d) : am_PR am_isI (fun h L kp Q => am_Wp d 124 0 [some (Sum.inr (Sum.inr 1))] [] (am_SH L, h, am_RR kp) Q) (fun h L kp Q => am_Wp d 255 0 [some (Sum.inr (Sum.inr 70))] [] (am_SH L, h, am_RR kp) Q) := by
  refine am_PR_An1 (fun h hi => ⟨a_inIt (am_wv h 2), (by unfold a_inIt; (repeat' split) <;> exact ⟨_, rfl⟩), fun L kp => c_inIt (by omega) (am_INV_u.1 hi).1.1, fun g L kp eg => ?_⟩)
  have h3 := m_inIt (d := d) (L := L) (kp := kp) (h := g) (by omega) (am_INV_g hi eg).1
  rw [(am_INV_g hi eg).2.2] at h3
  exact h3
theorem p_nobodyWill {d : Nat} (hd : 30 ≤ d) : am_PR am_isI (fun h L kp Q => am_Wp d 90 0 [some (Sum.inr (Sum.inr 1)), none] [] (am_SH L, h, am_RR kp) Q) (fun h L kp Q => am_Wp d 234 0 [some (Sum.inr (Sum.inr 70)), none] [] (am_SH L, h, am_RR kp) Q) := by
  refine am_PR_An1 (fun h hi => ⟨a_nobodyWill (am_wv h 2), (by unfold a_nobodyWill; (repeat' split) <;> exact ⟨_, rfl⟩), fun L kp => c_nobodyWill (by omega) (am_INV_u.1 hi).1.1, fun g L kp eg => ?_⟩)
  have h3 := m_nobodyWill (d := d) (L := L) (kp := kp) (h := g) (by omega) (am_INV_g hi eg).1
  rw [(am_INV_g hi eg).2.2] at h3
  exact h3
theorem p_gain {d : Nat} {i e : Int} (hd : 30 ≤ d) : am_PR am_isI (fun h L kp Q => am_Wp d 107 0 [some (Sum.inr (Sum.inr 1)), some (Sum.inl i), some (Sum.inl e)] [] (am_SH L, h, am_RR kp) Q) (fun h L kp Q => am_Wp d 244 0 [some (Sum.inr (Sum.inr 70)), some (Sum.inl i), some (Sum.inl e)] [] (am_SH L, h, am_RR kp) Q) := by
  refine am_PR_An1 (fun h hi => ⟨a_gain (am_wv h 2) i e, (by unfold a_gain; (repeat' split) <;> exact ⟨_, rfl⟩), fun L kp => c_gain (by omega) (am_INV_u.1 hi).1.1, fun g L kp eg => ?_⟩)
  have h3 := m_gain (d := d) (L := L) (kp := kp) (h := g) (i := i) (e := e) (by omega) (am_INV_g hi eg).1
  rw [(am_INV_g hi eg).2.2] at h3
  exact h3
theorem p_bestBuy {d : Nat} {i : Int} (hd : 30 ≤ d) : am_PR am_isI (fun h L kp Q => am_Wp d 109 0 [some (Sum.inr (Sum.inr 1)), some (Sum.inl i), none, none, none, none] [] (am_SH L, h, am_RR kp) Q) (fun h L kp Q => am_Wp d 246 0 [some (Sum.inr (Sum.inr 70)), some (Sum.inl i), none, none, none, none] [] (am_SH L, h, am_RR kp) Q) := by
  refine am_PR_An1 (fun h hi => ⟨a_bestBuy (am_wv h 2) i, (by unfold a_bestBuy; (repeat' split) <;> exact ⟨_, rfl⟩), fun L kp => c_bestBuy (by omega) (am_INV_u.1 hi).1.1, fun g L kp eg => ?_⟩)
  have h3 := m_bestBuy (d := d) (L := L) (kp := kp) (h := g) (i := i) (by omega) (am_INV_g hi eg).1
  rw [(am_INV_g hi eg).2.2] at h3
  exact h3
theorem p_looks {d : Nat} {i : Int} (hd : 30 ≤ d) : am_PR am_isI (fun h L kp Q => am_Wp d 121 0 [some (Sum.inr (Sum.inr 1)), some (Sum.inl i), none] [] (am_SH L, h, am_RR kp) Q) (fun h L kp Q => am_Wp d 251 0 [some (Sum.inr (Sum.inr 70)), some (Sum.inl i), none] [] (am_SH L, h, am_RR kp) Q) := by
  refine am_PR_An1 (fun h hi => ⟨a_looks  i, (by unfold a_looks; (repeat' split) <;> exact ⟨_, rfl⟩), fun L kp => c_looks (by omega) (am_INV_u.1 hi).1.1, fun g L kp eg => ?_⟩)
  have h3 := m_looks (d := d) (L := L) (kp := kp) (h := g) (i := i) (by omega) (am_INV_g hi eg).1
  exact h3
theorem p_owes {d : Nat} {i e : Int} (hd : 30 ≤ d) : am_PR am_isI (fun h L kp Q => am_Wp d 70 0 [some (Sum.inr (Sum.inr 1)), some (Sum.inl i), some (Sum.inl e)] [] (am_SH L, h, am_RR kp) Q) (fun h L kp Q => am_Wp d 224 0 [some (Sum.inr (Sum.inr 70)), some (Sum.inl i), some (Sum.inl e)] [] (am_SH L, h, am_RR kp) Q) := by
  refine am_PR_An1 (fun h hi => ⟨a_owes (am_wv h 2) i e, (by unfold a_owes; (repeat' split) <;> exact ⟨_, rfl⟩), fun L kp => c_owes (by omega) (am_INV_u.1 hi).1.1, fun g L kp eg => ?_⟩)
  have h3 := m_owes (d := d) (L := L) (kp := kp) (h := g) (i := i) (e := e) (by omega) (am_INV_g hi eg).1
  rw [(am_INV_g hi eg).2.2] at h3
  exact h3
theorem p_net {d : Nat} {i : Int} (hd : 30 ≤ d) : am_PR am_isI (fun h L kp Q => am_Wp d 76 0 [some (Sum.inr (Sum.inr 1)), some (Sum.inl i)] [] (am_SH L, h, am_RR kp) Q) (fun h L kp Q => am_Wp d 226 0 [some (Sum.inr (Sum.inr 70)), some (Sum.inl i)] [] (am_SH L, h, am_RR kp) Q) := by
  refine am_PR_An1 (fun h hi => ⟨a_net (am_wv h 2) i, (by unfold a_net; (repeat' split) <;> exact ⟨_, rfl⟩), fun L kp => c_net (by omega) (am_INV_u.1 hi).1.1, fun g L kp eg => ?_⟩)
  have h3 := m_net (d := d) (L := L) (kp := kp) (h := g) (i := i) (by omega) (am_INV_g hi eg).1
  rw [(am_INV_g hi eg).2.2] at h3
  exact h3
theorem p_stuck {d : Nat} (hd : 30 ≤ d) : am_PR am_isI (fun h L kp Q => am_Wp d 156 0 [some (Sum.inr (Sum.inr 1)), none, none] [] (am_SH L, h, am_RR kp) Q) (fun h L kp Q => am_Wp d 276 0 [some (Sum.inr (Sum.inr 70)), none, none, none, none] [] (am_SH L, h, am_RR kp) Q) := by
  refine am_PR_An1 (fun h hi => ⟨a_stuck (am_wv h 2), (by unfold a_stuck; (repeat' split) <;> exact ⟨_, rfl⟩), fun L kp => c_stuck (by omega) (am_INV_u.1 hi).1.1, fun g L kp eg => ?_⟩)
  have h3 := m_stuck (d := d) (L := L) (kp := kp) (h := g) (by omega) (am_INV_g hi eg).1
  rw [(am_INV_g hi eg).2.2] at h3
  exact h3
theorem p_paidBy {d : Nat} {i : Int} (hd : 30 ≤ d) : am_PR am_isI (fun h L kp Q => am_Wp d 152 0 [some (Sum.inr (Sum.inr 1)), some (Sum.inl i), none, none] [] (am_SH L, h, am_RR kp) Q) (fun h L kp Q => am_Wp d 273 0 [some (Sum.inr (Sum.inr 70)), some (Sum.inl i), none] [] (am_SH L, h, am_RR kp) Q) := by
  refine am_PR_An1 (fun h hi => ⟨a_paidBy (am_wv h 2) i, (by unfold a_paidBy; (repeat' split) <;> exact ⟨_, rfl⟩), fun L kp => c_paidBy (by omega) (am_INV_u.1 hi).1.1, fun g L kp eg => ?_⟩)
  have h3 := m_paidBy (d := d) (L := L) (kp := kp) (h := g) (i := i) (by omega) (am_INV_g hi eg).1
  rw [(am_INV_g hi eg).2.2] at h3
  exact h3
theorem p_rich {d : Nat} {i e : Int} (hd : 30 ≤ d) : am_PR am_isI (fun h L kp Q => am_Wp d 149 0 [some (Sum.inr (Sum.inr 1)), some (Sum.inl i), some (Sum.inl e), none, none] [] (am_SH L, h, am_RR kp) Q) (fun h L kp Q => am_Wp d 271 0 [some (Sum.inr (Sum.inr 70)), some (Sum.inl i), some (Sum.inl e), none, none] [] (am_SH L, h, am_RR kp) Q) := by
  refine am_PR_An1 (fun h hi => ⟨a_rich (am_wv h 2) i e, (by unfold a_rich; (repeat' split) <;> exact ⟨_, rfl⟩), fun L kp => c_rich (by omega) (am_INV_u.1 hi).1.1, fun g L kp eg => ?_⟩)
  have h3 := m_rich (d := d) (L := L) (kp := kp) (h := g) (i := i) (e := e) (by omega) (am_INV_g hi eg).1
  rw [(am_INV_g hi eg).2.2] at h3
  exact h3
theorem p_boss {d : Nat} {i : Int} (hd : 30 ≤ d) : am_PR am_isI (fun h L kp Q => am_Wp d 116 0 [some (Sum.inr (Sum.inr 1)), some (Sum.inl i)] [] (am_SH L, h, am_RR kp) Q) (fun h L kp Q => am_Wp d 249 0 [some (Sum.inr (Sum.inr 70)), some (Sum.inl i), none, none] [] (am_SH L, h, am_RR kp) Q) := by
  refine am_PR_An1 (fun h hi => ⟨a_boss (am_wv h 2) i, (by unfold a_boss; (repeat' split) <;> exact ⟨_, rfl⟩), fun L kp => c_boss (by omega) (am_INV_u.1 hi).1.1, fun g L kp eg => ?_⟩)
  have h3 := m_boss (d := d) (L := L) (kp := kp) (h := g) (i := i) (by omega) (am_INV_g hi eg).1
  rw [(am_INV_g hi eg).2.2] at h3
  exact h3
theorem p_cancels {d : Nat} (hd : 30 ≤ d) : am_PR am_isI (fun h L kp Q => am_Wp d 158 0 [some (Sum.inr (Sum.inr 1)), none, none, none] [] (am_SH L, h, am_RR kp) Q) (fun h L kp Q => am_Wp d 277 0 [some (Sum.inr (Sum.inr 70)), none, none, none, none, none] [] (am_SH L, h, am_RR kp) Q) := by
  refine am_PR_An1 (fun h hi => ⟨a_cancels (am_wv h 2), (by unfold a_cancels; (repeat' split) <;> exact ⟨_, rfl⟩), fun L kp => c_cancels (by omega) (am_INV_u.1 hi).1.1, fun g L kp eg => ?_⟩)
  have h3 := m_cancels (d := d) (L := L) (kp := kp) (h := g) (by omega) (am_INV_g hi eg).1
  rw [(am_INV_g hi eg).2.2] at h3
  exact h3
theorem p_through {d : Nat} {i : Int} (hd : 30 ≤ d) : am_PR am_isI (fun h L kp Q => am_Wp d 82 0 [some (Sum.inr (Sum.inr 1)), some (Sum.inl i)] [] (am_SH L, h, am_RR kp) Q) (fun h L kp Q => am_Wp d 231 0 [some (Sum.inr (Sum.inr 70)), some (Sum.inl i)] [] (am_SH L, h, am_RR kp) Q) := by
  refine am_PR_An1 (fun h hi => ⟨a_through (am_wv h 2) i, (by unfold a_through; (repeat' split) <;> exact ⟨_, rfl⟩), fun L kp => c_through (by omega) (am_INV_u.1 hi).1.1, fun g L kp eg => ?_⟩)
  have h3 := m_through (d := d) (L := L) (kp := kp) (h := g) (i := i) (by omega) (am_INV_g hi eg).1
  rw [(am_INV_g hi eg).2.2] at h3
  exact h3
theorem p_chain {d : Nat} {i e : Int} (hd : 30 ≤ d) : am_PR am_isI (fun h L kp Q => am_Wp d 122 0 [some (Sum.inr (Sum.inr 1)), some (Sum.inl i), some (Sum.inl e)] [] (am_SH L, h, am_RR kp) Q) (fun h L kp Q => am_Wp d 253 0 [some (Sum.inr (Sum.inr 70)), some (Sum.inl i), some (Sum.inl e)] [] (am_SH L, h, am_RR kp) Q) := by
  refine am_PR_An1 (fun h hi => ⟨a_chain (am_wv h 2) i e, (by unfold a_chain; (repeat' split) <;> exact ⟨_, rfl⟩), fun L kp => c_chain (by omega) (am_INV_u.1 hi).1.1, fun g L kp eg => ?_⟩)
  have h3 := m_chain (d := d) (L := L) (kp := kp) (h := g) (i := i) (e := e) (by omega) (am_INV_g hi eg).1
  rw [(am_INV_g hi eg).2.2] at h3
  exact h3
theorem p_comesIn {d : Nat} {i : Int} (hd : 30 ≤ d) : am_PR am_isI (fun h L kp Q => am_Wp d 126 0 [some (Sum.inr (Sum.inr 1)), some (Sum.inl i)] [] (am_SH L, h, am_RR kp) Q) (fun h L kp Q => am_Wp d 257 0 [some (Sum.inr (Sum.inr 70)), some (Sum.inl i), none, none, none] [] (am_SH L, h, am_RR kp) Q) := by
  refine am_PR_An1 (fun h hi => ⟨a_comesIn (am_wv h 2) i, (by unfold a_comesIn; (repeat' split) <;> exact ⟨_, rfl⟩), fun L kp => c_comesIn (by omega) (am_INV_u.1 hi).1.1, fun g L kp eg => ?_⟩)
  have h3 := m_comesIn (d := d) (L := L) (kp := kp) (h := g) (i := i) (by omega) (am_INV_g hi eg).1
  rw [(am_INV_g hi eg).2.2] at h3
  exact h3
theorem p_stands {d : Nat} (hd : 30 ≤ d) : am_PR am_isI (fun h L kp Q => am_Wp d 148 0 [some (Sum.inr (Sum.inr 1)), none, none, none, none] [] (am_SH L, h, am_RR kp) Q) (fun h L kp Q => am_Wp d 270 0 [some (Sum.inr (Sum.inr 70)), none, none, none, none] [] (am_SH L, h, am_RR kp) Q) := by
  refine am_PR_An1 (fun h hi => ⟨a_stands (am_wv h 2), (by unfold a_stands; (repeat' split) <;> exact ⟨_, rfl⟩), fun L kp => c_stands (by omega) (am_INV_u.1 hi).1.1, fun g L kp eg => ?_⟩)
  have h3 := m_stands (d := d) (L := L) (kp := kp) (h := g) (by omega) (am_INV_g hi eg).1
  rw [(am_INV_g hi eg).2.2] at h3
  exact h3
theorem p_trade {d : Nat} {i e : Int} (hd : 30 ≤ d) : am_PR am_isI (fun h L kp Q => am_Wp d 153 0 [some (Sum.inr (Sum.inr 1)), some (Sum.inl i), some (Sum.inl e), none, none, none, none, none, none] [] (am_SH L, h, am_RR kp) Q) (fun h L kp Q => am_Wp d 274 0 [some (Sum.inr (Sum.inr 70)), some (Sum.inl i), some (Sum.inl e), none, none, none, none, none, none, none, none, none, none] [] (am_SH L, h, am_RR kp) Q) := by
  refine am_PR_An1 (fun h hi => ⟨a_trade (am_wv h 2) i e, (by unfold a_trade; (repeat' split) <;> exact ⟨_, rfl⟩), fun L kp => c_trade (by omega) (am_INV_u.1 hi).1.1, fun g L kp eg => ?_⟩)
  have h3 := m_trade (d := d) (L := L) (kp := kp) (h := g) (i := i) (e := e) (by omega) (am_INV_g hi eg).1
  rw [(am_INV_g hi eg).2.2] at h3
  exact h3
theorem p_swings {d : Nat} {i e : Int} (hd : 30 ≤ d) : am_PR am_isI (fun h L kp Q => am_Wp d 110 0 [some (Sum.inr (Sum.inr 1)), some (Sum.inl i), some (Sum.inl e)] [] (am_SH L, h, am_RR kp) Q) (fun h L kp Q => am_Wp d 247 0 [some (Sum.inr (Sum.inr 70)), some (Sum.inl i), some (Sum.inl e), none, none, none, none, none, none, none] [] (am_SH L, h, am_RR kp) Q) := by
  refine am_PR_An1 (fun h hi => ⟨a_swings (am_wv h 2) i e, (by unfold a_swings; (repeat' split) <;> exact ⟨_, rfl⟩), fun L kp => c_swings (by omega) (am_INV_u.1 hi).1.1, fun g L kp eg => ?_⟩)
  have h3 := m_swings (d := d) (L := L) (kp := kp) (h := g) (i := i) (e := e) (by omega) (am_INV_g hi eg).1
  rw [(am_INV_g hi eg).2.2] at h3
  exact h3
theorem p_corner {d : Nat} (hd : 30 ≤ d) : am_PR am_isI (fun h L kp Q => am_Wp d 118 0 [some (Sum.inr (Sum.inr 1)), none, none, none, none, none] [] (am_SH L, h, am_RR kp) Q) (fun h L kp Q => am_Wp d 250 0 [some (Sum.inr (Sum.inr 70)), none, none, none, none, none, none, none] [] (am_SH L, h, am_RR kp) Q) := by
  refine am_PR_An1 (fun h hi => ⟨a_corner (am_wv h 2), (by unfold a_corner; (repeat' split) <;> exact ⟨_, rfl⟩), fun L kp => c_corner (by omega) (am_INV_u.1 hi).1.1, fun g L kp eg => ?_⟩)
  have h3 := m_corner (d := d) (L := L) (kp := kp) (h := g) (by omega) (am_INV_g hi eg).1
  rw [(am_INV_g hi eg).2.2] at h3
  exact h3
theorem p_power {d : Nat} {i e t : Int} (hd : 30 ≤ d) : am_PR am_isJ (fun h L kp Q => am_Wp d 165 0 [some (Sum.inr (Sum.inr 1)), some (Sum.inl i), some (Sum.inl e), some (Sum.inl t), none, none, none] [] (am_SH L, h, am_RR kp) Q) (fun h L kp Q => am_Wp d 280 0 [some (Sum.inr (Sum.inr 70)), some (Sum.inl i), some (Sum.inl e), some (Sum.inl t), none, none, none, none, none, none, none, none, none, none] [] (am_SH L, h, am_RR kp) Q) := by
  refine am_PR_An1 (fun h hi => ⟨a_power (am_wv h 2) i e t, (by unfold a_power; (repeat' split) <;> exact ⟨_, rfl⟩), fun L kp => c_power (by omega) (am_INV_u.1 hi).1.1, fun g L kp eg => ?_⟩)
  have h3 := m_power (d := d) (L := L) (kp := kp) (h := g) (i := i) (e := e) (t := t) (by omega) (am_INV_g hi eg).1
  rw [(am_INV_g hi eg).2.2] at h3
  exact h3
theorem p_deaths {d : Nat} {i t u : Int} (hd : 30 ≤ d) : am_PR am_isJ (fun h L kp Q => am_Wp d 130 0 [some (Sum.inr (Sum.inr 1)), some (Sum.inl i), some (Sum.inl t), some (Sum.inl u), none, none, none, none] [] (am_SH L, h, am_RR kp) Q) (fun h L kp Q => am_Wp d 260 0 [some (Sum.inr (Sum.inr 70)), some (Sum.inl i), some (Sum.inl t), some (Sum.inl u), none, none, none, none, none, none, none] [] (am_SH L, h, am_RR kp) Q) := by
  refine am_PR_An1 (fun h hi => ⟨a_deaths (am_wv h 2) i t u, (by unfold a_deaths; (repeat' split) <;> exact ⟨_, rfl⟩), fun L kp => c_deaths (by omega) (am_INV_u.1 hi).1.1, fun g L kp eg => ?_⟩)
  have h3 := m_deaths (d := d) (L := L) (kp := kp) (h := g) (i := i) (t := t) (u := u) (by omega) (am_INV_g hi eg).1
  rw [(am_INV_g hi eg).2.2] at h3
  exact h3
theorem p_lots {d : Nat} {i e : Int} (hd : 30 ≤ d) : am_PR am_isI (fun h L kp Q => am_Wp d 183 0 [some (Sum.inr (Sum.inr 1)), some (Sum.inl i), some (Sum.inl e), none, none, none, none, none] [] (am_SH L, h, am_RR kp) Q) (fun h L kp Q => am_Wp d 290 0 [some (Sum.inr (Sum.inr 70)), some (Sum.inl i), some (Sum.inl e), none, none, none, none] [] (am_SH L, h, am_RR kp) Q) := by
  refine am_PR_An1 (fun h hi => ⟨a_lots (am_wv h 2) i e, (by unfold a_lots; (repeat' split) <;> exact ⟨_, rfl⟩), fun L kp => c_lots (by omega) (am_INV_u.1 hi).1.1, fun g L kp eg => ?_⟩)
  have h3 := m_lots (d := d) (L := L) (kp := kp) (h := g) (i := i) (e := e) (by omega) (am_INV_g hi eg).1
  rw [(am_INV_g hi eg).2.2] at h3
  exact h3
theorem p_busiest {d : Nat} (hd : 30 ≤ d) : am_PR am_isI (fun h L kp Q => am_Wp d 105 0 [some (Sum.inr (Sum.inr 1))] [] (am_SH L, h, am_RR kp) Q) (fun h L kp Q => am_Wp d 243 0 [some (Sum.inr (Sum.inr 70)), none, none, none, none, none] [] (am_SH L, h, am_RR kp) Q) := by
  refine am_PR_An1 (fun h hi => ⟨a_busiest (am_wv h 2), (by unfold a_busiest; (repeat' split) <;> exact ⟨_, rfl⟩), fun L kp => c_busiest (by omega) (am_INV_u.1 hi).1.1, fun g L kp eg => ?_⟩)
  have h3 := m_busiest (d := d) (L := L) (kp := kp) (h := g) (by omega) (am_INV_g hi eg).1
  rw [(am_INV_g hi eg).2.2] at h3
  exact h3
theorem p_square {d : Nat} {i : Int} (hd : 30 ≤ d) : am_PR am_isI (fun h L kp Q => am_Wp d 91 0 [some (Sum.inr (Sum.inr 1)), some (Sum.inl i)] [] (am_SH L, h, am_RR kp) Q) (fun h L kp Q => am_Wp d 235 0 [some (Sum.inr (Sum.inr 70)), some (Sum.inl i), none, none] [] (am_SH L, h, am_RR kp) Q) := by
  refine am_PR_An1 (fun h hi => ⟨a_square (am_wv h 2) i, (by unfold a_square; (repeat' split) <;> exact ⟨_, rfl⟩), fun L kp => c_square (by omega) (am_INV_u.1 hi).1.1, fun g L kp eg => ?_⟩)
  have h3 := m_square (d := d) (L := L) (kp := kp) (h := g) (i := i) (by omega) (am_INV_g hi eg).1
  rw [(am_INV_g hi eg).2.2] at h3
  exact h3
theorem p_soonest {d : Nat} {i : Int} (hd : 30 ≤ d) : am_PR am_isI (fun h L kp Q => am_Wp d 103 0 [some (Sum.inr (Sum.inr 1)), some (Sum.inl i)] [] (am_SH L, h, am_RR kp) Q) (fun h L kp Q => am_Wp d 242 0 [some (Sum.inr (Sum.inr 70)), some (Sum.inl i), none] [] (am_SH L, h, am_RR kp) Q) := by
  refine am_PR_An1 (fun h hi => ⟨a_soonest (am_wv h 2) i, (by unfold a_soonest; (repeat' split) <;> exact ⟨_, rfl⟩), fun L kp => c_soonest (by omega) (am_INV_u.1 hi).1.1, fun g L kp eg => ?_⟩)
  have h3 := m_soonest (d := d) (L := L) (kp := kp) (h := g) (i := i) (by omega) (am_INV_g hi eg).1
  rw [(am_INV_g hi eg).2.2] at h3
  exact h3
theorem p_payments {d : Nat} (hd : 30 ≤ d) : am_PR am_isI (fun h L kp Q => am_Wp d 78 0 [some (Sum.inr (Sum.inr 1))] [] (am_SH L, h, am_RR kp) Q) (fun h L kp Q => am_Wp d 228 0 [some (Sum.inr (Sum.inr 70)), none, none, none, none, none, none] [] (am_SH L, h, am_RR kp) Q) := by
  refine am_PR_An1 (fun h hi => ⟨a_payments (am_wv h 2), (by unfold a_payments; (repeat' split) <;> exact ⟨_, rfl⟩), fun L kp => c_payments (by omega) (am_INV_u.1 hi).1.1, fun g L kp eg => ?_⟩)
  have h3 := m_payments (d := d) (L := L) (kp := kp) (h := g) (by omega) (am_INV_g hi eg).1
  rw [(am_INV_g hi eg).2.2] at h3
  exact h3
theorem p_bestOver {d : Nat} (hd : 30 ≤ d) : am_PR am_isI (fun h L kp Q => am_Wp d 159 0 [some (Sum.inr (Sum.inr 1)), none, none, none, none, none] [] (am_SH L, h, am_RR kp) Q) (fun h L kp Q => am_Wp d 278 0 [some (Sum.inr (Sum.inr 70)), none, none, none, none, none] [] (am_SH L, h, am_RR kp) Q) := by
  refine am_PR_An1 (fun h hi => ⟨a_bestOver (am_wv h 2), (by unfold a_bestOver; (repeat' split) <;> exact ⟨_, rfl⟩), fun L kp => c_bestOver (by omega) (am_INV_u.1 hi).1.1, fun g L kp eg => ?_⟩)
  have h3 := m_bestOver (d := d) (L := L) (kp := kp) (h := g) (by omega) (am_INV_g hi eg).1
  rw [(am_INV_g hi eg).2.2] at h3
  exact h3
theorem p_rounds {d : Nat} (hd : 30 ≤ d) : am_PR am_isI (fun h L kp Q => am_Wp d 173 0 [some (Sum.inr (Sum.inr 1))] [] (am_SH L, h, am_RR kp) Q) (fun h L kp Q => am_Wp d 284 0 [some (Sum.inr (Sum.inr 70)), none, none, none, none] [] (am_SH L, h, am_RR kp) Q) := by
  refine am_PR_An1 (fun h hi => ⟨a_rounds (am_wv h 2), (by unfold a_rounds; (repeat' split) <;> exact ⟨_, rfl⟩), fun L kp => c_rounds (by omega) (am_INV_u.1 hi).1.1, fun g L kp eg => ?_⟩)
  have h3 := m_rounds (d := d) (L := L) (kp := kp) (h := g) (by omega) (am_INV_g hi eg).1
  rw [(am_INV_g hi eg).2.2] at h3
  exact h3
theorem p_atOnce {d : Nat} (hd : 30 ≤ d) : am_PR am_isI (fun h L kp Q => am_Wp d 170 0 [some (Sum.inr (Sum.inr 1))] [] (am_SH L, h, am_RR kp) Q) (fun h L kp Q => am_Wp d 282 0 [some (Sum.inr (Sum.inr 70)), none, none, none, none, none] [] (am_SH L, h, am_RR kp) Q) := by
  refine am_PR_An1 (fun h hi => ⟨a_atOnce (am_wv h 2), (by unfold a_atOnce; (repeat' split) <;> exact ⟨_, rfl⟩), fun L kp => c_atOnce (by omega) (am_INV_u.1 hi).1.1, fun g L kp eg => ?_⟩)
  have h3 := m_atOnce (d := d) (L := L) (kp := kp) (h := g) (by omega) (am_INV_g hi eg).1
  rw [(am_INV_g hi eg).2.2] at h3
  exact h3
theorem p_hold {d : Nat} {i k : Int} (hd : 30 ≤ d) : am_PR am_isI (fun h L kp Q => am_Wp d 132 0 [some (Sum.inr (Sum.inr 1)), some (Sum.inl i), some (Sum.inl k), none] [] (am_SH L, h, am_RR kp) Q) (fun h L kp Q => am_Wp d 263 0 [some (Sum.inr (Sum.inr 70)), some (Sum.inl i), some (Sum.inl k), none, none, none, none, none] [] (am_SH L, h, am_RR kp) Q) := by
  refine am_PR_An1 (fun h hi => ⟨a_hold (am_wv h 2) i k, (by unfold a_hold; (repeat' split) <;> exact ⟨_, rfl⟩), fun L kp => c_hold (by omega) (am_INV_u.1 hi).1.1, fun g L kp eg => ?_⟩)
  have h3 := m_hold (d := d) (L := L) (kp := kp) (h := g) (i := i) (k := k) (by omega) (am_INV_g hi eg).1
  rw [(am_INV_g hi eg).2.2] at h3
  exact h3
theorem p_heaviest {d : Nat} {w : Int} (hd : 30 ≤ d) : am_PR am_isI (fun h L kp Q => am_Wp d 177 0 [some (Sum.inr (Sum.inr 1)), some (Sum.inl w), none] [] (am_SH L, h, am_RR kp) Q) (fun h L kp Q => am_Wp d 285 0 [some (Sum.inr (Sum.inr 70)), some (Sum.inl w), none, none, none, none, none, none] [] (am_SH L, h, am_RR kp) Q) := by
  refine am_PR_An1 (fun h hi => ⟨a_heaviest (am_wv h 2) w, (by unfold a_heaviest; (repeat' split) <;> exact ⟨_, rfl⟩), fun L kp => c_heaviest (by omega) (am_INV_u.1 hi).1.1, fun g L kp eg => ?_⟩)
  have h3 := m_heaviest (d := d) (L := L) (kp := kp) (h := g) (w := w) (by omega) (am_INV_g hi eg).1
  rw [(am_INV_g hi eg).2.2] at h3
  exact h3
theorem p_relieved {d : Nat} {i w : Int} (hd : 30 ≤ d) : am_PR am_isI (fun h L kp Q => am_Wp d 160 0 [some (Sum.inr (Sum.inr 1)), some (Sum.inl i), some (Sum.inl w), none, none] [] (am_SH L, h, am_RR kp) Q) (fun h L kp Q => am_Wp d 279 0 [some (Sum.inr (Sum.inr 70)), some (Sum.inl i), some (Sum.inl w), none, none, none, none, none, none] [] (am_SH L, h, am_RR kp) Q) := by
  refine am_PR_An1 (fun h hi => ⟨a_relieved (am_wv h 2) i w, (by unfold a_relieved; (repeat' split) <;> exact ⟨_, rfl⟩), fun L kp => c_relieved (by omega) (am_INV_u.1 hi).1.1, fun g L kp eg => ?_⟩)
  have h3 := m_relieved (d := d) (L := L) (kp := kp) (h := g) (i := i) (w := w) (by omega) (am_INV_g hi eg).1
  rw [(am_INV_g hi eg).2.2] at h3
  exact h3
theorem p_count {d : Nat} {w : Int} (hd : 30 ≤ d) : am_PR am_isI (fun h L kp Q => am_Wp d 186 0 [some (Sum.inr (Sum.inr 1)), some (Sum.inl w)] [] (am_SH L, h, am_RR kp) Q) (fun h L kp Q => am_Wp d 291 0 [some (Sum.inr (Sum.inr 70)), some (Sum.inl w), none, none] [] (am_SH L, h, am_RR kp) Q) := by
  refine am_PR_An1 (fun h hi => ⟨a_count (am_wv h 2) (h 27 1) (h 1 6) (h 24 3) (h 41) w, (by unfold a_count; (repeat' split) <;> exact ⟨_, rfl⟩), fun L kp => c_count (by omega) (am_INV_u.1 hi).1.1, fun g L kp eg => ?_⟩)
  have h3 := m_count (d := d) (L := L) (kp := kp) (h := g) (w := w) (by omega) (am_INV_g hi eg).1
  obtain ⟨k0, k1, k2, k3, k4, k5, k6, k7, k8, k9⟩ := m_S_c eg
  obtain ⟨b1, b2, ⟨o, n, p1, p2, p3, p4, p5, p6⟩, ⟨c1, c2, c3, c4⟩, ⟨d1, d2, d3, d4⟩, b9, b10⟩ := am_INV_u.1 hi
  rw [(am_INV_g hi eg).2.2, k6, c2, k8, d2, k4, p3, ← p2, k9, b9] at h3
  exact h3
theorem p_fits {d : Nat} (hd : 30 ≤ d) : am_PR am_isI (fun h L kp Q => am_Wp d 127 0 [some (Sum.inr (Sum.inr 1)), none, none, none] [] (am_SH L, h, am_RR kp) Q) (fun h L kp Q => am_Wp d 258 0 [some (Sum.inr (Sum.inr 70)), none, none, none, none] [] (am_SH L, h, am_RR kp) Q) := by
  refine am_PR_An1 (fun h hi => ?_)
  obtain ⟨b1, b2, b3, b4, ⟨d1, d2, d3, d4⟩, b9, b10⟩ := am_INV_u.1 hi
  refine ⟨a_fits (am_wv h 2) (h 1 6) (h 40), (by unfold a_fits; (repeat' split) <;> exact ⟨_, rfl⟩), fun L kp => c_fits (by omega) b1.1 d3 (fun i _ => d4 i), fun g L kp eg => ?_⟩
  obtain ⟨k0, k1, k2, k3, k4, k5, k6, k7, k8, k9⟩ := m_S_c eg
  have h3 := m_fits (d := d) (L := L) (kp := kp) (h := g) (by omega) (am_INV_g hi eg).1 (by rw [k8, d2]; exact d3) (by rw [k7, d1]; exact fun i _ => d4 i)
  rw [(am_INV_g hi eg).2.2, k8, d2, k7, d1] at h3
  exact h3