/-- at the law's entry they are there -/
def am_tmS (i : Nat) : Term := .string "KissesOwed$Letters" (am_str.getD i ("", 0, 0)).2.1
theorem am_SX0_SX : am_SX0 am_SX := by
  intro p s m meth c b L xs C0
  obtain ⟨hx, hb, hr, hml, hown, hts, hX, hbl, hlocks, hgv⟩ := C0
  have hs := flat_of_before _ hgv
  obtain ⟨adK, adV, hS, hev⟩ := vk_Sof (args := #[Value.ref b]) (s := s) (N := 6) (tm := am_tmS) (len := am_sln) (byt := am_sby) (A := fun q => s.heap.size ≤ q) (by decide +kernel)
    (fun i hi => hs _ ((by decide +kernel : ∀ i, i < 6 → Cond.exactly (am_tmS i) "java/lang/String" ∈ flatC (Jvm.Cond.and given_1 narrow_1)) i hi))
    (fun i hi => hs _ ((by decide +kernel : ∀ i, i < 6 → Cond.eq (.field (am_tmS i) "java/lang/String" "coder" "B") (.int 0) ∈ flatC (Jvm.Cond.and given_1 narrow_1)) i hi))
    (fun i hi => hs _ ((by decide +kernel : ∀ i, i < 6 → Cond.arrayOf (.field (am_tmS i) "java/lang/String" "value" "[B") .byte ∈ flatC (Jvm.Cond.and given_1 narrow_1)) i hi))
    (fun i hi => hs _ ((by decide +kernel : ∀ i, i < 6 → Cond.eq (.length (.field (am_tmS i) "java/lang/String" "value" "[B")) (.int (Int32.ofNat (am_sln.getD i 0))) ∈ flatC (Jvm.Cond.and given_1 narrow_1)) i hi))
    (fun i hi j hj => hs _ ((by decide +kernel : ∀ i, i < 6 → ∀ j, j < am_sln.getD i 0 → Cond.eq (.elem (.field (am_tmS i) "java/lang/String" "value" "[B") (.int (Int32.ofNat j))) (.int ((am_sby.getD i []).getD j 0)) ∈ flatC (Jvm.Cond.and given_1 narrow_1)) i hi j hj))
    (fun i j hi hj hij => ((by decide +kernel : ∀ i, i < 6 → ∀ j, j < 6 → i ≠ j → Cond.not (Cond.eq (am_tmS i) (am_tmS j)) ∈ flatC (Jvm.Cond.and given_1 narrow_1) ∨ Cond.not (Cond.eq (am_tmS j) (am_tmS i)) ∈ flatC (Jvm.Cond.and given_1 narrow_1)) i hi j hj hij).imp (fun h => hs _ h) (fun h => hs _ h))
    (fun a ha => Nat.not_le.mpr ha)
  refine ⟨adK, fun G hG hp => ?_⟩
  have hA : am_A G = fun q => s.heap.size ≤ q := by
    funext q
    show (G.2.2.2.1 ≤ q) = _
    rw [hG]
  have hA2 : ∀ a : Nat, a < s.heap.size → ¬ am_A G a := fun a ha => by rw [hA]; exact Nat.not_le.mpr ha
  refine ⟨fun i hi => ?_, ⟨adV, ?_⟩, ?_, ?_⟩
  · rw [hp i hi]
    exact vk_R.of (A := #[Value.ref b]) (hts _ (am_wd_in ((by decide +kernel : ∀ i, i < 6 → am_wd (am_str.getD i ("", 0, 0)).2.2 (.stringRef "KissesOwed$Letters" (am_str.getD i ("", 0, 0)).2.1 (am_str.getD i ("", 0, 0)).1) = true) i hi))) (hev i hi)
  · rw [hA]
    refine ⟨fun i hi => ?_, fun i j hi hj e => hS.2 i j hi hj ?_⟩
    · have h := hS.1 i hi
      rw [← hp i hi] at h
      exact h
    · rw [← hp i hi, ← hp j hj]
      exact e
  · exact va_Zof (args := #[Value.ref b]) (hts _ (am_wd_in (i := 2123) (by decide +kernel))) (hts _ (am_wd_in (i := 1013) (by decide +kernel))) (va_eqi (hs _ (by decide +kernel))) hA2
  · exact va_Zqof (args := #[Value.ref b]) (hts _ (am_wd_in (i := 2139) (by decide +kernel))) (hts _ (am_wd_in (i := 1015) (by decide +kernel))) (hs _ (by decide +kernel)) hA2
