/-- THE STRINGS ARE AS THE MACHINE TAKES THEM -/
theorem am_sln_ok : ∀ i, i < 6 → Int32.ofInt ((am_txt.getD i []).length : Int) = Int32.ofNat (am_sln.getD i 0) ∧ (am_txt.getD i []).length = am_sln.getD i 0 ∧ (if (am_txt.getD i []).length = 0 then (1 : Int) else 0) = (if am_sln.getD i 0 = 0 then 1 else 0) := by decide +kernel
theorem am_sby_ok : ∀ i, i < 6 → ∀ j, j < am_sln.getD i 0 → Int32.ofInt ((am_txt.getD i []).getD j 0) = (am_sby.getD i []).getD j 0 := by decide +kernel
theorem am_SOK_SX : am_SOK am_SX := by
  refine ⟨fun G => am_SX_mv G, ?_⟩
  intro p l e R s m args below meth c G k Q H locs cells slots lsR rest q a b cc C hX hS hsz hcc hss hF hL hwt hb
  obtain ⟨hx, hbs, hml, hown, hts, hin, hW, hG⟩ := C
  have S : CallFix p m c (am_bs k) (am_n k 0) s args am_TG (am_y k).cls := ⟨hx, hbs, hml, hown, hts⟩
  have hX0 := hX
  obtain ⟨h1, ⟨adV, h2⟩, h3, h4⟩ := hX0
  have hrec := vk_recv (adK := fun b => G.2.2.2.2 (1000000 + b)) (i := b) h2 hb hS
  obtain ⟨e0, e1, e2⟩ := am_sln_ok b hb
  refine ⟨fun hc K => ?_, fun hc K => ?_, fun hc K => ?_, fun j hj0 hj hc K => ?_⟩
  · simp only [am_chk, Bool.and_eq_true, decide_eq_true_eq] at hc
    obtain ⟨⟨⟨⟨c1, c2⟩, c3⟩, c4⟩, c5⟩ := hc
    have c4 := am_beq c4
    refine va_ldcS hx hbs hown (tx := (am_str.getD b ("", 0, 0)).1) (q := G.2.2.2.2 (1000000 + b)) ?_ (am_D_ok c1) K
    rw [c5, ← c4]
    exact h1 b hb

  · simp only [am_chk, Bool.and_eq_true] at hc
    refine am_JV (As := []) (rest := rest) S (am_J_length hb) (am_SX_mv G) hX hS hrec (am_okW_in (i := 2117) (by decide +kernel : am_okW 2117 (Jvm.Cond.code (⟨"java/lang/String", "length", "()I"⟩ : Jvm.MethodName) prog_16_method_54_code 1 (some .int)) = true)) (am_okW_in hc.2) (am_okW_in (i := 2115) (by decide +kernel : am_okW 2115 (Jvm.Cond.instanceMethod (⟨"java/lang/String", "length", "()I"⟩ : Jvm.MethodName)) = true)) (am_okW_in (i := 2116) (by decide +kernel : am_okW 2116 (Jvm.Cond.selects "java/lang/String" (⟨"java/lang/String", "length", "()I"⟩ : Jvm.MethodName) (⟨"java/lang/String", "length", "()I"⟩ : Jvm.MethodName)) = true)) (am_okW_in (i := 1013) (by decide +kernel : am_okW 1013 (Jvm.Cond.initialized "java/lang/String") = true)) ⟨by decide +kernel, by decide +kernel, (by decide +kernel : (parseMethodDescriptor "()I").map (fun d => d.parameters.length) = some 0)⟩ ⟨by omega, by omega⟩ hsz hwt ⟨hcc, hss⟩ (am_D_ok hc.1) ?_
    rw [e0] at K
    exact K
  · simp only [am_chk, Bool.and_eq_true] at hc
    refine am_JV (As := []) (rest := rest) S (am_J_isEmpty hb) (am_SX_mv G) hX hS hrec (am_okW_in (i := 2113) (by decide +kernel : am_okW 2113 (Jvm.Cond.code (⟨"java/lang/String", "isEmpty", "()Z"⟩ : Jvm.MethodName) prog_16_method_55_code 1 (some .boolean)) = true)) (am_okW_in hc.2) (am_okW_in (i := 2111) (by decide +kernel : am_okW 2111 (Jvm.Cond.instanceMethod (⟨"java/lang/String", "isEmpty", "()Z"⟩ : Jvm.MethodName)) = true)) (am_okW_in (i := 2112) (by decide +kernel : am_okW 2112 (Jvm.Cond.selects "java/lang/String" (⟨"java/lang/String", "isEmpty", "()Z"⟩ : Jvm.MethodName) (⟨"java/lang/String", "isEmpty", "()Z"⟩ : Jvm.MethodName)) = true)) (am_okW_in (i := 1013) (by decide +kernel : am_okW 1013 (Jvm.Cond.initialized "java/lang/String") = true)) ⟨by decide +kernel, by decide +kernel, (by decide +kernel : (parseMethodDescriptor "()Z").map (fun d => d.parameters.length) = some 0)⟩ ⟨by omega, by omega⟩ hsz hwt ⟨hcc, hss⟩ (am_D_ok hc.1) ?_
    have e3 : Int32.ofInt (if (am_txt.getD b []).length = 0 then 1 else 0) = (if am_sln.getD b 0 = 0 then 1 else 0) := by rw [e2]; split <;> rfl
    rw [e3] at K
    exact K
  · simp only [am_chk, Bool.and_eq_true] at hc
    obtain ⟨n, rfl⟩ : ∃ n : Nat, j = (n : Int) := ⟨j.toNat, (Int.toNat_of_nonneg hj0).symm⟩
    have hn : n < am_sln.getD b 0 := by rw [← e1]; omega
    have en : Int32.ofInt (n : Int) = Int32.ofNat n := rfl
    have hM := am_J_charAt (l := l) (G := G) hb hn
    rw [← en] at hM
    refine am_JV (As := [.int (Int32.ofInt (n : Int))]) (rest := rest) S hM (am_SX_mv G) hX hS hrec (am_okW_in (i := 2127) (by decide +kernel : am_okW 2127 (Jvm.Cond.code (⟨"java/lang/String", "charAt", "(I)C"⟩ : Jvm.MethodName) prog_16_method_56_code 2 (some .char)) = true)) (am_okW_in hc.2) (am_okW_in (i := 2125) (by decide +kernel : am_okW 2125 (Jvm.Cond.instanceMethod (⟨"java/lang/String", "charAt", "(I)C"⟩ : Jvm.MethodName)) = true)) (am_okW_in (i := 2126) (by decide +kernel : am_okW 2126 (Jvm.Cond.selects "java/lang/String" (⟨"java/lang/String", "charAt", "(I)C"⟩ : Jvm.MethodName) (⟨"java/lang/String", "charAt", "(I)C"⟩ : Jvm.MethodName)) = true)) (am_okW_in (i := 1013) (by decide +kernel : am_okW 1013 (Jvm.Cond.initialized "java/lang/String") = true)) ⟨by decide +kernel, by decide +kernel, (by decide +kernel : (parseMethodDescriptor "(I)C").map (fun d => d.parameters.length) = some 1)⟩ ⟨by omega, by omega⟩ hsz hwt ⟨hcc, hss⟩ (am_D_ok hc.1) ?_
    obtain ⟨-, -, -, e4, -⟩ := am_sJ b hb n hn
    rw [e4, ← am_sby_ok b hb n hn]
    exact K
