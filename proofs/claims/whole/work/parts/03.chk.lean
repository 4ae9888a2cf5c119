/-! THE TABLES ARE THE CODE: each row checked against the bytes and the words -/
def am_wl (i : Nat) : List Jvm.Cond := match i with
  | 0 => k2_sels lw_privs
  | 1 => tables_1_1
  | 2 => tables_1_2
  | 3 => tables_1_3
  | 4 => tables_1_4
  | 5 => tables_1_5
  | 6 => tables_1_6
  | 7 => tables_1_7
  | 8 => tables_1_8
  | _ => []
theorem am_wl_in {i : Nat} {w : Jvm.Cond} (h : w ∈ am_wl i) : w ∈ lw_tbl := by
  unfold am_wl at h
  simp only [lw_tbl, tables_1, List.mem_append]
  split at h <;> first | (simp only [h, true_or, or_true]; done) | cases h
/-- a word by its place: a list's number times 1000, its place there -/
def am_wd (i : Nat) (w : Jvm.Cond) : Bool := decide ((am_wl (i / 1000))[i % 1000]? = some w)
theorem am_wd_in {i : Nat} {w : Jvm.Cond} (h : am_wd i w = true) : w ∈ lw_tbl := am_wl_in (List.mem_of_getElem? (of_decide_eq_true h))
def am_okW (i : Nat) (w : Jvm.Cond) : Bool := am_wd i w && goodWord w
def am_D (k q : Nat) (i : Instr) (l : Nat) : Bool := decide (decode (am_bs k) q = .ok (i, l))
def am_cls (c : Nat) : String × List (String × String × String × Bool) × List Nat × Nat × Nat := am_cs.getD c ("", [], [], 0, 0)
def am_R (c : Nat) : String := (am_cls c).1
def am_T (c : Nat) : u_T := fun k => (am_cls c).2.1.getD k ("", "", "", false)
def am_fd (c b : Nat) : String × String × String × Bool := (am_cls c).2.1.getD b ("", "", "", false)
/-- is a field a reference -/
def am_isr (c b : Nat) : Bool := match (am_fd c b).2.2.1.toList with
  | '[' :: _ => true
  | 'L' :: _ => true
  | _ => false
def am_tg (q : Nat) (z : Int) (a : Nat) : Bool := decide ((q : Int) + z = (a : Int))
def am_fl (k : Nat) (a b c : Nat) (z : Int) : Bool := am_okW z.toNat (.fieldLink (am_y k).cls a (am_fd c b).1 (am_fd c b).2.1 (am_fd c b).2.2.1) && Nat.blt b (am_N c) && Nat.blt c 12
def am_st (k a c : Nat) : Bool := Nat.blt a (am_n k 0) && match c with
  | 0 => Nat.beq (am_n k 4) 0
  | _ => true
def am_inc : List (Int × Nat) → Bool
  | [] => true
  | q :: r => (match r with | [] => true | p :: _ => decide (q.1 < p.1)) && am_inc r
def am_chk (k q : Nat) (i : am_I) : Bool :=
  match i with
  | (o, l, a, b, c, z, sw) => match o with
    | 0 => true
    | 1 => decide (-2147483648 ≤ z ∧ z ≤ 2147483647) && match b with
      | 0 => am_D k q (.iconst z) 1 && Nat.beq l 1
      | 1 => am_D k q (.bipush z) 2 && Nat.beq l 2 && decide ((Int8.ofInt z).toInt32 = Int32.ofInt z)
      | 2 => am_D k q (.sipush z) 3 && Nat.beq l 3 && decide ((Int16.ofInt z).toInt32 = Int32.ofInt z)
      | 3 => am_D k q (.ldc a) 2 && Nat.beq l 2 && am_okW c (.constant (am_y k).cls a (Int32.ofInt z))
      | _ => am_D k q (.ldc_w a) 3 && Nat.beq l 3 && am_okW c (.constant (am_y k).cls a (Int32.ofInt z))
    | 2 => match l with
      | 1 => am_D k q (.iload_n (Fin.ofNat 4 a)) 1 && Nat.blt a 4
      | _ => am_D k q (.iload a) 2 && Nat.beq l 2
    | 3 => am_st k a c && match l with
      | 1 => am_D k q (.istore_n (Fin.ofNat 4 a)) 1 && Nat.blt a 4
      | _ => am_D k q (.istore a) 2 && Nat.beq l 2
    | 4 => match l with
      | 1 => am_D k q (.aload_n (Fin.ofNat 4 a)) 1 && Nat.blt a 4
      | _ => am_D k q (.aload a) 2 && Nat.beq l 2
    | 5 => am_st k a c && match l with
      | 1 => am_D k q (.astore_n (Fin.ofNat 4 a)) 1 && Nat.blt a 4
      | _ => am_D k q (.astore a) 2 && Nat.beq l 2
    | 6 => am_st k a c && am_D k q (.iinc a z) 3
    | 7 => am_D k q .iadd 1
    | 8 => am_D k q .isub 1
    | 9 => am_D k q .imul 1
    | 10 => am_D k q .iand 1
    | 11 => am_D k q .ior 1
    | 12 => am_D k q .ixor 1
    | 13 => am_D k q .ishl 1
    | 14 => am_D k q .ishr 1
    | 15 => am_D k q .iushr 1
    | 16 => am_D k q .ineg 1
    | 17 => am_D k q .idiv 1
    | 18 => am_D k q .irem 1
    | 21 => am_D k q (.goto z) 3 && am_tg q z a
    | 22 => am_D k q (.getfield a) 3 && am_fl k a b c z && !am_isr c b
    | 58 => am_D k q (.getfield a) 3 && am_fl k a b c z && am_isr c b
    | 23 => am_D k q (.putfield a) 3 && am_fl k a b c z && !am_isr c b && decide ((am_fd c b).2.2 = ("I", false))
    | 74 => am_D k q (.putfield a) 3 && am_fl k a b c z && !am_isr c b && decide ((am_fd c b).2.2 = ("Z", false))
    | 72 => am_D k q (.putfield a) 3 && am_fl k a b c z && am_isr c b && decide ((am_fd c b).2.2.2 = false)
    | 73 => am_D k q (.putfield a) 3 && am_fl k a b c z && am_isr c b && decide ((am_fd c b).2.2.2 = true) && Nat.beq (am_n k 3) 2 && decide ((am_fd c b).1 = (am_y k).cls)
    | 24 => am_D k q .iaload 1
    | 25 => am_D k q .iastore 1
    | 26 => am_D k q .arraylength 1
    | 27 => am_D k q (.newarray .int) 2
    | 28 => am_D k q (.new a) 3 && am_okW z.toNat (.classLink (am_y k).cls a (am_R c)) && Nat.blt c 12
    | 29 => match b with
      | 0 => am_D k q .return_ 1 && Nat.beq (am_n k 2) 0
      | 1 => am_D k q .ireturn 1 && (Nat.beq (am_n k 2) 1 || Nat.beq (am_n k 2) 4)
      | 2 => am_D k q .lreturn 1 && Nat.beq (am_n k 2) 2
      | 3 => am_D k q .areturn 1 && Nat.beq (am_n k 2) 3
      | _ => false
    | 30 => match b with
      | 0 => am_D k q (.lconst (Fin.ofNat 2 z.toNat)) 1 && Nat.beq l 1 && decide (z = 0 ∨ z = 1)
      | _ => am_D k q (.ldc2_w a) 3 && Nat.beq l 3 && am_okW c (.constantLong (am_y k).cls a (Int64.ofInt z)) && decide (-9223372036854775808 ≤ z ∧ z ≤ 9223372036854775807)
    | 31 => match l with
      | 1 => am_D k q (.lload_n (Fin.ofNat 4 a)) 1 && Nat.blt a 4
      | _ => am_D k q (.lload a) 2 && Nat.beq l 2
    | 32 => Nat.blt (a + 1) (am_n k 0) && Nat.beq c 1 && Nat.beq (am_n k 4) 1 && match l with
      | 1 => am_D k q (.lstore_n (Fin.ofNat 4 a)) 1 && Nat.blt a 4
      | _ => am_D k q (.lstore a) 2 && Nat.beq l 2
    | 33 => am_D k q .ladd 1
    | 34 => am_D k q .lsub 1
    | 35 => am_D k q .lmul 1
    | 36 => am_D k q .ldiv 1
    | 37 => am_D k q .lrem 1
    | 38 => am_D k q .lcmp 1
    | 39 => am_D k q .i2l 1
    | 40 => am_D k q .dup 1
    | 41 => am_D k q .dup2 1
    | 42 => am_D k q .pop 1
    | 43 => am_D k q (.ifnull z) 3
    | 44 => am_D k q (.ifnonnull z) 3 && am_tg q z a
    | 45 => am_D k q (.lookupswitch z (sw.map (fun p => (p.1, (p.2 : Int) - (q : Int)))).toArray) l && am_tg q z a && am_inc sw
    | 46 => am_D k q (.tableswitch ((a : Int) - (q : Int)) z (z + (c : Int) - 1) (sw.map (fun p => p.1)).toArray) l && Nat.beq sw.length c && sw.all (fun p => am_tg q p.1 p.2)
    | 47 => am_D k q (.ldc a) 2 && Nat.beq l 2 && Nat.blt b 6 && Nat.beq (am_str.getD b ("", 0, 0)).2.1 a && decide ((am_y k).cls = "KissesOwed$Letters")
    | 49 => am_D k q (.invokespecial a) 3 && am_okW c (.methodLink (am_y k).cls a Lib.objectInit)
    | 50 => am_D k q (.invokevirtual a) 3 && am_okW c (.methodLink (am_y k).cls a (am_y b)) && Nat.beq (am_n b 3) 1 && Nat.blt 0 b && Nat.blt b am_mN
    | 51 => am_D k q (.invokespecial a) 3 && am_okW c (.methodLink (am_y k).cls a (am_y b)) && Nat.beq (am_n b 3) 2 && Nat.blt 0 b && Nat.blt b am_mN
    | 52 => am_D k q (.invokestatic a) 3 && am_okW c (.methodLink (am_y k).cls a (am_y b)) && Nat.beq (am_n b 3) 0 && Nat.blt 0 b && Nat.blt b am_mN
    | 53 => am_D k q (.invokespecial a) 3 && am_wd c (.methodLinkNest (am_y k).cls a (am_y b) "KissesOwed") && Nat.beq (am_n b 3) 2 && Nat.blt 0 b && Nat.blt b am_mN
    | 54 => am_D k q (.invokestatic a) 3 && am_wd c (.methodLinkNest (am_y k).cls a (am_y b) "KissesOwed") && Nat.beq (am_n b 3) 0 && Nat.blt 0 b && Nat.blt b am_mN
    | 55 => am_D k q (.invokevirtual a) 3 && am_okW c (.methodLink (am_y k).cls a ⟨"java/lang/String", "length", "()I"⟩)
    | 56 => am_D k q (.invokevirtual a) 3 && am_okW c (.methodLink (am_y k).cls a ⟨"java/lang/String", "charAt", "(I)C"⟩)
    | 57 => am_D k q (.invokevirtual a) 3 && am_okW c (.methodLink (am_y k).cls a ⟨"java/lang/String", "isEmpty", "()Z"⟩)
    | 60 => am_D k q (.ifCond .eq z) 3 && am_tg q z a
    | 61 => am_D k q (.ifCond .ne z) 3 && am_tg q z a
    | 62 => am_D k q (.ifCond .lt z) 3 && am_tg q z a
    | 63 => am_D k q (.ifCond .ge z) 3 && am_tg q z a
    | 64 => am_D k q (.ifCond .gt z) 3 && am_tg q z a
    | 65 => am_D k q (.ifCond .le z) 3 && am_tg q z a
    | 66 => am_D k q (.if_icmp .eq z) 3 && am_tg q z a
    | 67 => am_D k q (.if_icmp .ne z) 3 && am_tg q z a
    | 68 => am_D k q (.if_icmp .lt z) 3 && am_tg q z a
    | 69 => am_D k q (.if_icmp .ge z) 3 && am_tg q z a
    | 70 => am_D k q (.if_icmp .gt z) 3 && am_tg q z a
    | 71 => am_D k q (.if_icmp .le z) 3 && am_tg q z a
    | 76 => am_D k q (.invokestatic a) 3 && am_okW c (.methodLink (am_y k).cls a Lib.Math.max.name)
    | 77 => am_D k q (.invokestatic a) 3 && am_okW c (.methodLink (am_y k).cls a Lib.Math.min.name)
    | 78 => am_D k q (.invokestatic a) 3 && am_okW c (.methodLink (am_y k).cls a Lib.Math.abs.name)
    | _ => false
/-- a method's own words, and its rows -/
def am_chkH1 (k : Nat) : Bool := am_okW (am_n k 5) (.code (am_y k) (am_bs k) (am_n k 0) (am_ft k)) && am_okW (am_n k 6) (.initialized (am_y k).cls) && (match am_n k 3 with
    | 0 => am_okW (am_n k 7) (.static (am_y k))
    | 1 => am_okW (am_n k 7) (.instanceMethod (am_y k)) && am_okW (am_n k 8) (.selects (am_y k).cls (am_y k) (am_y k)) && decide ((am_y k).cls = am_R (am_n k 10)) && Nat.blt (am_n k 10) 12
    | _ => am_okW (am_n k 7) (.instanceMethod (am_y k)) && decide ((am_y k).name = "<init>") && Nat.beq (am_n k 3) 2 && Nat.beq (am_n k 2) 0) &&
    (match am_n k 2 with
    | 0 => decide (am_ft k = none)
    | 1 => decide (am_ft k = some .int)
    | 2 => decide (am_ft k = some .long)
    | 3 => decide (am_ft k = some (.object "java/lang/String"))
    | 4 => decide (am_ft k = some .boolean)
    | _ => false) && decide ((am_y k).cls ≠ "java/lang/invoke/MethodHandle" ∧ (am_y k).cls ≠ "java/lang/invoke/VarHandle") &&
    decide ((parseMethodDescriptor (am_y k).desc).map (fun d => d.parameters.length) = some (match am_n k 3 with | 0 => am_n k 1 | _ => am_n k 1 - 1)) && plainName (am_y k).cls && Nat.ble (am_n k 0) 20 && (match am_n k 3 with | 0 => true | _ => Nat.blt 0 (am_n k 1))
def am_chkH (k : Nat) : Bool := bif Nat.beq k 0 then true else am_chkH1 k
def am_chkM (k : Nat) : Bool := am_chkH k && (List.range (am_sz k)).all (fun q => am_chk k q (am_code k q))
theorem am_w_max : am_okW 3035 (.static Lib.Math.max.name) = true ∧ am_okW 3036 (.code Lib.Math.max.name Lib.Math.max.code 2 (some .int)) = true := by decide +kernel
theorem am_w_min : am_okW 3038 (.static Lib.Math.min.name) = true ∧ am_okW 3039 (.code Lib.Math.min.name Lib.Math.min.code 2 (some .int)) = true := by decide +kernel
theorem am_w_abs : am_okW 4008 (.static Lib.Math.abs.name) = true ∧ am_okW 4009 (.code Lib.Math.abs.name Lib.Math.abs.code 1 (some .int)) = true := by decide +kernel
theorem am_w_math : am_okW 1017 (.initialized "java/lang/Math") = true := by decide +kernel
theorem am_w_obj : am_okW 1025 (.instanceMethod Lib.objectInit) = true ∧ am_okW 1026 (.code Lib.objectInit ⟨#[0xb1]⟩ 1 none) = true := by decide +kernel
theorem am_w_arr : am_okW 1073 (.arrayClass .int) = true := by decide +kernel
/-- a class's words -/
def am_chkC (c : Nat) : Bool := (List.range (am_N c)).all (fun k => am_okW ((am_cls c).2.2.1.getD k 0) (u_lay (am_R c) (am_T c) k) && (parseFieldDescriptor (am_T c k).2.2.1).isSome && (match parseFieldDescriptor (am_T c k).2.2.1 with
    | some (.object _) => am_isr c k
    | some (.array _) => am_isr c k
    | some .int => !am_isr c k
    | some .boolean => !am_isr c k
    | _ => false) && (List.range (am_N c)).all (fun j => Nat.beq k j || decide ((am_T c k).2.1 ≠ (am_T c j).2.1))) && am_okW (am_cls c).2.2.2.1 (.instantiable (am_R c) (am_N c)) && am_okW (am_cls c).2.2.2.2 (.initialized (am_R c))
theorem am_ckC : (List.range 12).all am_chkC = true := by decide +kernel
theorem am_law_ok : am_y 0 = x ∧ am_bs 0 = code ∧ am_ft 0 = ret ∧ am_n 0 0 = maxLocals ∧ am_n 0 2 = 4 := ⟨rfl, rfl, rfl, rfl, rfl⟩
