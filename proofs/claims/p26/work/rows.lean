section
-- ===== PART A: goes FIRST, ahead of the names: the tables' words, and 'selects' of the private methods out of them =====
/-- a private method of a class that the tables say can be made, by its rows of tables_1 -/
def lw_okq (q : MethodName × Nat) : Prop := (q.1.cls ≠ "java/lang/invoke/MethodHandle" ∧ q.1.cls ≠ "java/lang/invoke/VarHandle") ∧ Cond.instantiable q.1.cls q.2 ∈ tables_1 ∧ Cond.privateMethod q.1 ∈ tables_1 ∧ Cond.instanceMethod q.1 ∈ tables_1
theorem lw_p0 : lw_okq (⟨"java/lang/Throwable", "fillInStackTrace", "(I)Ljava/lang/Throwable;"⟩, 6) := ⟨⟨by decide +kernel, by decide +kernel⟩, List.mem_of_getElem? (i := 295) (by decide +kernel), List.mem_of_getElem? (i := 293) (by decide +kernel), List.mem_of_getElem? (i := 294) (by decide +kernel)⟩
theorem lw_p1 : lw_okq (⟨"YieldMoor$Body", "nextOf", "(I)I"⟩, 4) := ⟨⟨by decide +kernel, by decide +kernel⟩, List.mem_of_getElem? (i := 35) (by decide +kernel), List.mem_of_getElem? (i := 391) (by decide +kernel), List.mem_of_getElem? (i := 392) (by decide +kernel)⟩
theorem lw_p2 : lw_okq (⟨"YieldMoor$Machine", "inmostOf", "(LYieldMoor$Coroutine;)LYieldMoor$Coroutine;"⟩, 13) := ⟨⟨by decide +kernel, by decide +kernel⟩, List.mem_of_getElem? (i := 67) (by decide +kernel), List.mem_of_getElem? (i := 476) (by decide +kernel), List.mem_of_getElem? (i := 477) (by decide +kernel)⟩
theorem lw_p3 : lw_okq (⟨"YieldMoor$Machine", "beginCall", "(I)V"⟩, 13) := ⟨⟨by decide +kernel, by decide +kernel⟩, List.mem_of_getElem? (i := 67) (by decide +kernel), List.mem_of_getElem? (i := 481) (by decide +kernel), List.mem_of_getElem? (i := 482) (by decide +kernel)⟩
theorem lw_p4 : lw_okq (⟨"YieldMoor$Machine", "goOn", "(LYieldMoor$Coroutine;LYieldMoor$Coroutine;)V"⟩, 13) := ⟨⟨by decide +kernel, by decide +kernel⟩, List.mem_of_getElem? (i := 67) (by decide +kernel), List.mem_of_getElem? (i := 489) (by decide +kernel), List.mem_of_getElem? (i := 490) (by decide +kernel)⟩
theorem lw_p5 : lw_okq (⟨"YieldMoor$Machine", "backToOuter", "()V"⟩, 13) := ⟨⟨by decide +kernel, by decide +kernel⟩, List.mem_of_getElem? (i := 67) (by decide +kernel), List.mem_of_getElem? (i := 495) (by decide +kernel), List.mem_of_getElem? (i := 496) (by decide +kernel)⟩
theorem lw_p6 : lw_okq (⟨"YieldMoor$Machine", "part", "(LYieldMoor$Coroutine;LYieldMoor$Coroutine;)V"⟩, 13) := ⟨⟨by decide +kernel, by decide +kernel⟩, List.mem_of_getElem? (i := 67) (by decide +kernel), List.mem_of_getElem? (i := 499) (by decide +kernel), List.mem_of_getElem? (i := 500) (by decide +kernel)⟩
theorem lw_p7 : lw_okq (⟨"YieldMoor$Machine", "wayInstead", "(LYieldMoor$Coroutine;)I"⟩, 13) := ⟨⟨by decide +kernel, by decide +kernel⟩, List.mem_of_getElem? (i := 67) (by decide +kernel), List.mem_of_getElem? (i := 529) (by decide +kernel), List.mem_of_getElem? (i := 530) (by decide +kernel)⟩
theorem lw_p8 : lw_okq (⟨"YieldMoor$Machine", "doLine", "(LYieldMoor$Coroutine;LYieldMoor$Body;)I"⟩, 13) := ⟨⟨by decide +kernel, by decide +kernel⟩, List.mem_of_getElem? (i := 67) (by decide +kernel), List.mem_of_getElem? (i := 539) (by decide +kernel), List.mem_of_getElem? (i := 540) (by decide +kernel)⟩
theorem lw_p9 : lw_okq (⟨"YieldMoor$Machine", "doYield", "(LYieldMoor$Coroutine;)I"⟩, 13) := ⟨⟨by decide +kernel, by decide +kernel⟩, List.mem_of_getElem? (i := 67) (by decide +kernel), List.mem_of_getElem? (i := 548) (by decide +kernel), List.mem_of_getElem? (i := 549) (by decide +kernel)⟩
theorem lw_p10 : lw_okq (⟨"YieldMoor$Machine", "takesCancel", "()Z"⟩, 13) := ⟨⟨by decide +kernel, by decide +kernel⟩, List.mem_of_getElem? (i := 67) (by decide +kernel), List.mem_of_getElem? (i := 552) (by decide +kernel), List.mem_of_getElem? (i := 553) (by decide +kernel)⟩
theorem lw_p11 : lw_okq (⟨"YieldMoor$Machine", "waitAt", "(LYieldMoor$Coroutine;)V"⟩, 13) := ⟨⟨by decide +kernel, by decide +kernel⟩, List.mem_of_getElem? (i := 67) (by decide +kernel), List.mem_of_getElem? (i := 560) (by decide +kernel), List.mem_of_getElem? (i := 561) (by decide +kernel)⟩
theorem lw_p12 : lw_okq (⟨"YieldMoor$Machine", "doFrom", "(LYieldMoor$Coroutine;I)I"⟩, 13) := ⟨⟨by decide +kernel, by decide +kernel⟩, List.mem_of_getElem? (i := 67) (by decide +kernel), List.mem_of_getElem? (i := 564) (by decide +kernel), List.mem_of_getElem? (i := 565) (by decide +kernel)⟩
theorem lw_p13 : lw_okq (⟨"YieldMoor$Machine", "canMake", "(I)Z"⟩, 13) := ⟨⟨by decide +kernel, by decide +kernel⟩, List.mem_of_getElem? (i := 67) (by decide +kernel), List.mem_of_getElem? (i := 568) (by decide +kernel), List.mem_of_getElem? (i := 569) (by decide +kernel)⟩
theorem lw_p14 : lw_okq (⟨"YieldMoor$Machine", "doSleep", "(LYieldMoor$Coroutine;I)I"⟩, 13) := ⟨⟨by decide +kernel, by decide +kernel⟩, List.mem_of_getElem? (i := 67) (by decide +kernel), List.mem_of_getElem? (i := 585) (by decide +kernel), List.mem_of_getElem? (i := 586) (by decide +kernel)⟩
theorem lw_p15 : lw_okq (⟨"YieldMoor$Machine", "doAwait", "(LYieldMoor$Coroutine;)I"⟩, 13) := ⟨⟨by decide +kernel, by decide +kernel⟩, List.mem_of_getElem? (i := 67) (by decide +kernel), List.mem_of_getElem? (i := 589) (by decide +kernel), List.mem_of_getElem? (i := 590) (by decide +kernel)⟩
def lw_privs_1 : List (MethodName × Nat) := [(⟨"java/lang/Throwable", "fillInStackTrace", "(I)Ljava/lang/Throwable;"⟩, 6), (⟨"YieldMoor$Body", "nextOf", "(I)I"⟩, 4), (⟨"YieldMoor$Machine", "inmostOf", "(LYieldMoor$Coroutine;)LYieldMoor$Coroutine;"⟩, 13), (⟨"YieldMoor$Machine", "beginCall", "(I)V"⟩, 13), (⟨"YieldMoor$Machine", "goOn", "(LYieldMoor$Coroutine;LYieldMoor$Coroutine;)V"⟩, 13), (⟨"YieldMoor$Machine", "backToOuter", "()V"⟩, 13), (⟨"YieldMoor$Machine", "part", "(LYieldMoor$Coroutine;LYieldMoor$Coroutine;)V"⟩, 13), (⟨"YieldMoor$Machine", "wayInstead", "(LYieldMoor$Coroutine;)I"⟩, 13), (⟨"YieldMoor$Machine", "doLine", "(LYieldMoor$Coroutine;LYieldMoor$Body;)I"⟩, 13), (⟨"YieldMoor$Machine", "doYield", "(LYieldMoor$Coroutine;)I"⟩, 13), (⟨"YieldMoor$Machine", "takesCancel", "()Z"⟩, 13), (⟨"YieldMoor$Machine", "waitAt", "(LYieldMoor$Coroutine;)V"⟩, 13), (⟨"YieldMoor$Machine", "doFrom", "(LYieldMoor$Coroutine;I)I"⟩, 13), (⟨"YieldMoor$Machine", "canMake", "(I)Z"⟩, 13), (⟨"YieldMoor$Machine", "doSleep", "(LYieldMoor$Coroutine;I)I"⟩, 13), (⟨"YieldMoor$Machine", "doAwait", "(LYieldMoor$Coroutine;)I"⟩, 13)]
theorem lw_r1 : ∀ q ∈ lw_privs_1, lw_okq q := List.forall_mem_cons.mpr ⟨lw_p0, List.forall_mem_cons.mpr ⟨lw_p1, List.forall_mem_cons.mpr ⟨lw_p2, List.forall_mem_cons.mpr ⟨lw_p3, List.forall_mem_cons.mpr ⟨lw_p4, List.forall_mem_cons.mpr ⟨lw_p5, List.forall_mem_cons.mpr ⟨lw_p6, List.forall_mem_cons.mpr ⟨lw_p7, List.forall_mem_cons.mpr ⟨lw_p8, List.forall_mem_cons.mpr ⟨lw_p9, List.forall_mem_cons.mpr ⟨lw_p10, List.forall_mem_cons.mpr ⟨lw_p11, List.forall_mem_cons.mpr ⟨lw_p12, List.forall_mem_cons.mpr ⟨lw_p13, List.forall_mem_cons.mpr ⟨lw_p14, List.forall_mem_cons.mpr ⟨lw_p15, fun _ h => absurd h List.not_mem_nil⟩⟩⟩⟩⟩⟩⟩⟩⟩⟩⟩⟩⟩⟩⟩⟩
theorem lw_p16 : lw_okq (⟨"YieldMoor$Machine", "takeOutcome", "(LYieldMoor$Coroutine;LYieldMoor$Coroutine;)I"⟩, 13) := ⟨⟨by decide +kernel, by decide +kernel⟩, List.mem_of_getElem? (i := 67) (by decide +kernel), List.mem_of_getElem? (i := 594) (by decide +kernel), List.mem_of_getElem? (i := 595) (by decide +kernel)⟩
theorem lw_p17 : lw_okq (⟨"YieldMoor$Machine", "awaitsTheOwnOne", "(I)Z"⟩, 13) := ⟨⟨by decide +kernel, by decide +kernel⟩, List.mem_of_getElem? (i := 67) (by decide +kernel), List.mem_of_getElem? (i := 601) (by decide +kernel), List.mem_of_getElem? (i := 602) (by decide +kernel)⟩
theorem lw_p18 : lw_okq (⟨"YieldMoor$Machine", "doSpawn", "(LYieldMoor$Coroutine;I)I"⟩, 13) := ⟨⟨by decide +kernel, by decide +kernel⟩, List.mem_of_getElem? (i := 67) (by decide +kernel), List.mem_of_getElem? (i := 605) (by decide +kernel), List.mem_of_getElem? (i := 606) (by decide +kernel)⟩
theorem lw_p19 : lw_okq (⟨"YieldMoor$Machine", "doShield", "(LYieldMoor$Coroutine;I)I"⟩, 13) := ⟨⟨by decide +kernel, by decide +kernel⟩, List.mem_of_getElem? (i := 67) (by decide +kernel), List.mem_of_getElem? (i := 609) (by decide +kernel), List.mem_of_getElem? (i := 610) (by decide +kernel)⟩
theorem lw_p20 : lw_okq (⟨"YieldMoor$Coroutine", "setLocal", "(II)V"⟩, 17) := ⟨⟨by decide +kernel, by decide +kernel⟩, List.mem_of_getElem? (i := 74) (by decide +kernel), List.mem_of_getElem? (i := 624) (by decide +kernel), List.mem_of_getElem? (i := 625) (by decide +kernel)⟩
theorem lw_p21 : lw_okq (⟨"YieldMoor$Coroutine", "doDone", "(I)I"⟩, 17) := ⟨⟨by decide +kernel, by decide +kernel⟩, List.mem_of_getElem? (i := 74) (by decide +kernel), List.mem_of_getElem? (i := 632) (by decide +kernel), List.mem_of_getElem? (i := 633) (by decide +kernel)⟩
theorem lw_p22 : lw_okq (⟨"YieldMoor$Coroutine", "doLast", "()I"⟩, 17) := ⟨⟨by decide +kernel, by decide +kernel⟩, List.mem_of_getElem? (i := 74) (by decide +kernel), List.mem_of_getElem? (i := 636) (by decide +kernel), List.mem_of_getElem? (i := 637) (by decide +kernel)⟩
theorem lw_p23 : lw_okq (⟨"YieldMoor$Machine", "toldOf", "(LYieldMoor$Coroutine;)I"⟩, 13) := ⟨⟨by decide +kernel, by decide +kernel⟩, List.mem_of_getElem? (i := 67) (by decide +kernel), List.mem_of_getElem? (i := 641) (by decide +kernel), List.mem_of_getElem? (i := 642) (by decide +kernel)⟩
theorem lw_p24 : lw_okq (⟨"YieldMoor$Machine", "endClose", "(LYieldMoor$Coroutine;)I"⟩, 13) := ⟨⟨by decide +kernel, by decide +kernel⟩, List.mem_of_getElem? (i := 67) (by decide +kernel), List.mem_of_getElem? (i := 654) (by decide +kernel), List.mem_of_getElem? (i := 655) (by decide +kernel)⟩
theorem lw_p25 : lw_okq (⟨"YieldMoor$Machine", "beginTurn", "(LYieldMoor$Coroutine;)V"⟩, 13) := ⟨⟨by decide +kernel, by decide +kernel⟩, List.mem_of_getElem? (i := 67) (by decide +kernel), List.mem_of_getElem? (i := 690) (by decide +kernel), List.mem_of_getElem? (i := 691) (by decide +kernel)⟩
theorem lw_p26 : lw_okq (⟨"YieldMoor$Machine", "wake", "(LYieldMoor$Coroutine;)I"⟩, 13) := ⟨⟨by decide +kernel, by decide +kernel⟩, List.mem_of_getElem? (i := 67) (by decide +kernel), List.mem_of_getElem? (i := 694) (by decide +kernel), List.mem_of_getElem? (i := 695) (by decide +kernel)⟩
theorem lw_p27 : lw_okq (⟨"YieldMoor$Machine", "tellOthers", "(LYieldMoor$Coroutine;)V"⟩, 13) := ⟨⟨by decide +kernel, by decide +kernel⟩, List.mem_of_getElem? (i := 67) (by decide +kernel), List.mem_of_getElem? (i := 698) (by decide +kernel), List.mem_of_getElem? (i := 699) (by decide +kernel)⟩
def lw_privs_2 : List (MethodName × Nat) := [(⟨"YieldMoor$Machine", "takeOutcome", "(LYieldMoor$Coroutine;LYieldMoor$Coroutine;)I"⟩, 13), (⟨"YieldMoor$Machine", "awaitsTheOwnOne", "(I)Z"⟩, 13), (⟨"YieldMoor$Machine", "doSpawn", "(LYieldMoor$Coroutine;I)I"⟩, 13), (⟨"YieldMoor$Machine", "doShield", "(LYieldMoor$Coroutine;I)I"⟩, 13), (⟨"YieldMoor$Coroutine", "setLocal", "(II)V"⟩, 17), (⟨"YieldMoor$Coroutine", "doDone", "(I)I"⟩, 17), (⟨"YieldMoor$Coroutine", "doLast", "()I"⟩, 17), (⟨"YieldMoor$Machine", "toldOf", "(LYieldMoor$Coroutine;)I"⟩, 13), (⟨"YieldMoor$Machine", "endClose", "(LYieldMoor$Coroutine;)I"⟩, 13), (⟨"YieldMoor$Machine", "beginTurn", "(LYieldMoor$Coroutine;)V"⟩, 13), (⟨"YieldMoor$Machine", "wake", "(LYieldMoor$Coroutine;)I"⟩, 13), (⟨"YieldMoor$Machine", "tellOthers", "(LYieldMoor$Coroutine;)V"⟩, 13)]
theorem lw_r2 : ∀ q ∈ lw_privs_2, lw_okq q := List.forall_mem_cons.mpr ⟨lw_p16, List.forall_mem_cons.mpr ⟨lw_p17, List.forall_mem_cons.mpr ⟨lw_p18, List.forall_mem_cons.mpr ⟨lw_p19, List.forall_mem_cons.mpr ⟨lw_p20, List.forall_mem_cons.mpr ⟨lw_p21, List.forall_mem_cons.mpr ⟨lw_p22, List.forall_mem_cons.mpr ⟨lw_p23, List.forall_mem_cons.mpr ⟨lw_p24, List.forall_mem_cons.mpr ⟨lw_p25, List.forall_mem_cons.mpr ⟨lw_p26, List.forall_mem_cons.mpr ⟨lw_p27, fun _ h => absurd h List.not_mem_nil⟩⟩⟩⟩⟩⟩⟩⟩⟩⟩⟩⟩
def lw_privs : List (MethodName × Nat) := lw_privs_1 ++ (lw_privs_2)
def lw_tbl : List Cond := k2_sels lw_privs ++ tables_1
theorem lw_privs_ok : ∀ q ∈ lw_privs, lw_okq q := by
  show ∀ q ∈ lw_privs_1 ++ (lw_privs_2), lw_okq q
  exact List.forall_mem_append.mpr ⟨lw_r1, lw_r2⟩
/-- the streams that the claim lets the run draw from -/
abbrev lw_cs : List Choice := [Jvm.Choice.named "NaN.bits", Jvm.Choice.named "NaN.copy"]
theorem lw_bits : nanBits ∈ lw_cs := by first | decide | exact List.mem_cons_self | simp [lw_cs, nanBits]
end
section
def RX0 : String := "YieldMoor$Bodies"
def TX0 : u_T := fun k => match k with
  | 0 => ("YieldMoor$Bodies", "rows", "[LYieldMoor$Body;", true)
  | 1 => ("YieldMoor$Bodies", "empty", "LYieldMoor$Body;", true)
  | _ => ("YieldMoor$Bodies", "count", "I", false)
def tyX0 : Nat → FieldType := fun k => match k with
  | 0 => .array (.object "YieldMoor$Body")
  | 1 => .object "YieldMoor$Body"
  | _ => .int
abbrev wsX00 : List Cond := u_ws RX0 TX0 3
theorem nmX0 : ∀ a, a < 3 → ∀ b, b < 3 → a ≠ b → (TX0 a).2.1 ≠ (TX0 b).2.1 := by decide +kernel
theorem tyX0_ok : ∀ k, k < 3 → parseFieldDescriptor (TX0 k).2.2.1 = some (tyX0 k) := by decide +kernel
abbrev cX0_init : ByteArray := prog_2_method_1_code
def yX0_init : MethodName := ⟨RX0, "<init>", "()V"⟩
abbrev cX0_has : ByteArray := prog_2_method_2_code
def yX0_has : MethodName := ⟨RX0, "has", "(I)Z"⟩
abbrev cX0_at : ByteArray := prog_2_method_3_code
def yX0_at : MethodName := ⟨RX0, "at", "(I)LYieldMoor$Body;"⟩
abbrev cX0_addBody : ByteArray := prog_2_method_4_code
def yX0_addBody : MethodName := ⟨RX0, "addBody", "()I"⟩
def RX1 : String := "YieldMoor$Body"
def TX1 : u_T := fun k => match k with
  | 0 => ("YieldMoor$Body", "kinds", "[I", true)
  | 1 => ("YieldMoor$Body", "firsts", "[I", true)
  | 2 => ("YieldMoor$Body", "seconds", "[I", true)
  | _ => ("YieldMoor$Body", "size", "I", false)
def tyX1 : Nat → FieldType := fun k => match k with
  | 0 => .array .int
  | 1 => .array .int
  | 2 => .array .int
  | _ => .int
abbrev wsX10 : List Cond := u_ws RX1 TX1 4
theorem nmX1 : ∀ a, a < 4 → ∀ b, b < 4 → a ≠ b → (TX1 a).2.1 ≠ (TX1 b).2.1 := by decide +kernel
theorem tyX1_ok : ∀ k, k < 4 → parseFieldDescriptor (TX1 k).2.2.1 = some (tyX1 k) := by decide +kernel
abbrev cX1_init : ByteArray := prog_3_method_1_code
def yX1_init : MethodName := ⟨RX1, "<init>", "()V"⟩
abbrev cX1_hasLine : ByteArray := prog_3_method_2_code
def yX1_hasLine : MethodName := ⟨RX1, "hasLine", "(I)Z"⟩
abbrev cX1_kindAt : ByteArray := prog_3_method_3_code
def yX1_kindAt : MethodName := ⟨RX1, "kindAt", "(I)I"⟩
abbrev cX1_aAt : ByteArray := prog_3_method_4_code
def yX1_aAt : MethodName := ⟨RX1, "aAt", "(I)I"⟩
abbrev cX1_bAt : ByteArray := prog_3_method_5_code
def yX1_bAt : MethodName := ⟨RX1, "bAt", "(I)I"⟩
abbrev cX1_fits : ByteArray := prog_3_method_6_code
def yX1_fits : MethodName := ⟨RX1, "fits", "(III)Z"⟩
abbrev cX1_addLine : ByteArray := prog_3_method_7_code
def yX1_addLine : MethodName := ⟨RX1, "addLine", "(III)I"⟩
abbrev cX1_howManyWaits : ByteArray := prog_3_method_8_code
def yX1_howManyWaits : MethodName := ⟨RX1, "howManyWaits", "()I"⟩
abbrev cX1_nextOf : ByteArray := prog_3_method_9_code
def yX1_nextOf : MethodName := ⟨RX1, "nextOf", "(I)I"⟩
abbrev cX1_isWait : ByteArray := prog_3_method_10_code
def yX1_isWait : MethodName := ⟨RX1, "isWait", "(I)Z"⟩
def RX2 : String := "YieldMoor$Coroutine"
def TX2 : u_T := fun k => match k with
  | 0 => ("YieldMoor$Coroutine", "number", "I", true)
  | 1 => ("YieldMoor$Coroutine", "locals", "[I", true)
  | 2 => ("YieldMoor$Coroutine", "stack", "LYieldMoor$WayStack;", true)
  | 3 => ("YieldMoor$Coroutine", "body", "I", false)
  | 4 => ("YieldMoor$Coroutine", "sort", "I", false)
  | 5 => ("YieldMoor$Coroutine", "state", "I", false)
  | 6 => ("YieldMoor$Coroutine", "line", "I", false)
  | 7 => ("YieldMoor$Coroutine", "there", "I", false)
  | 8 => ("YieldMoor$Coroutine", "returns", "I", false)
  | 9 => ("YieldMoor$Coroutine", "inner", "I", false)
  | 10 => ("YieldMoor$Coroutine", "outer", "I", false)
  | 11 => ("YieldMoor$Coroutine", "linesDone", "I", false)
  | 12 => ("YieldMoor$Coroutine", "wakesAt", "I", false)
  | 13 => ("YieldMoor$Coroutine", "awaits", "I", false)
  | 14 => ("YieldMoor$Coroutine", "shield", "I", false)
  | 15 => ("YieldMoor$Coroutine", "isAsked", "Z", false)
  | _ => ("YieldMoor$Coroutine", "spawner", "I", false)
def tyX2 : Nat → FieldType := fun k => match k with
  | 0 => .int
  | 1 => .array .int
  | 2 => .object "YieldMoor$WayStack"
  | 3 => .int
  | 4 => .int
  | 5 => .int
  | 6 => .int
  | 7 => .int
  | 8 => .int
  | 9 => .int
  | 10 => .int
  | 11 => .int
  | 12 => .int
  | 13 => .int
  | 14 => .int
  | 15 => .boolean
  | _ => .int
abbrev wsX20 : List Cond := u_ws RX2 TX2 17
theorem nmX2 : ∀ a, a < 17 → ∀ b, b < 17 → a ≠ b → (TX2 a).2.1 ≠ (TX2 b).2.1 := by decide +kernel
theorem tyX2_ok : ∀ k, k < 17 → parseFieldDescriptor (TX2 k).2.2.1 = some (tyX2 k) := by decide +kernel
abbrev cX2_init : ByteArray := prog_4_method_1_code
def yX2_init : MethodName := ⟨RX2, "<init>", "(I)V"⟩
abbrev cX2_becomeNew : ByteArray := prog_4_method_2_code
def yX2_becomeNew : MethodName := ⟨RX2, "becomeNew", "(III)V"⟩
abbrev cX2_copyFrom : ByteArray := prog_4_method_3_code
def yX2_copyFrom : MethodName := ⟨RX2, "copyFrom", "(LYieldMoor$Coroutine;)V"⟩
abbrev cX2_isOver : ByteArray := prog_4_method_4_code
def yX2_isOver : MethodName := ⟨RX2, "isOver", "()Z"⟩
abbrev cX2_localAt : ByteArray := prog_4_method_5_code
def yX2_localAt : MethodName := ⟨RX2, "localAt", "(I)I"⟩
abbrev cX2_setLocal : ByteArray := prog_4_method_6_code
def yX2_setLocal : MethodName := ⟨RX2, "setLocal", "(II)V"⟩
abbrev cX2_goOnAt : ByteArray := prog_4_method_7_code
def yX2_goOnAt : MethodName := ⟨RX2, "goOnAt", "(I)V"⟩
abbrev cX2_end : ByteArray := prog_4_method_8_code
def yX2_end : MethodName := ⟨RX2, "end", "(II)V"⟩
abbrev cX2_beginReturn : ByteArray := prog_4_method_9_code
def yX2_beginReturn : MethodName := ⟨RX2, "beginReturn", "()I"⟩
abbrev cX2_leave : ByteArray := prog_4_method_10_code
def yX2_leave : MethodName := ⟨RX2, "leave", "(I)V"⟩
abbrev cX2_doPlain : ByteArray := prog_4_method_11_code
def yX2_doPlain : MethodName := ⟨RX2, "doPlain", "(III)I"⟩
abbrev cX2_doDone : ByteArray := prog_4_method_12_code
def yX2_doDone : MethodName := ⟨RX2, "doDone", "(I)I"⟩
abbrev cX2_doLast : ByteArray := prog_4_method_13_code
def yX2_doLast : MethodName := ⟨RX2, "doLast", "()I"⟩
def RX3 : String := "YieldMoor$Machine"
def TX3 : u_T := fun k => match k with
  | 0 => ("YieldMoor$Machine", "bodies", "LYieldMoor$Bodies;", true)
  | 1 => ("YieldMoor$Machine", "made", "[LYieldMoor$Coroutine;", true)
  | 2 => ("YieldMoor$Machine", "nobody", "LYieldMoor$Coroutine;", true)
  | 3 => ("YieldMoor$Machine", "ready", "LYieldMoor$Queue;", true)
  | 4 => ("YieldMoor$Machine", "awaiting", "LYieldMoor$Queue;", true)
  | 5 => ("YieldMoor$Machine", "count", "I", false)
  | 6 => ("YieldMoor$Machine", "now", "I", false)
  | 7 => ("YieldMoor$Machine", "turns", "I", false)
  | 8 => ("YieldMoor$Machine", "running", "LYieldMoor$Coroutine;", false)
  | 9 => ("YieldMoor$Machine", "turnOf", "I", false)
  | 10 => ("YieldMoor$Machine", "linesBegun", "I", false)
  | 11 => ("YieldMoor$Machine", "tookTooLong", "Z", false)
  | _ => ("YieldMoor$Machine", "waits", "Z", false)
def tyX3 : Nat → FieldType := fun k => match k with
  | 0 => .object "YieldMoor$Bodies"
  | 1 => .array (.object "YieldMoor$Coroutine")
  | 2 => .object "YieldMoor$Coroutine"
  | 3 => .object "YieldMoor$Queue"
  | 4 => .object "YieldMoor$Queue"
  | 5 => .int
  | 6 => .int
  | 7 => .int
  | 8 => .object "YieldMoor$Coroutine"
  | 9 => .int
  | 10 => .int
  | 11 => .boolean
  | _ => .boolean
abbrev wsX30 : List Cond := u_ws RX3 TX3 13
theorem nmX3 : ∀ a, a < 13 → ∀ b, b < 13 → a ≠ b → (TX3 a).2.1 ≠ (TX3 b).2.1 := by decide +kernel
theorem tyX3_ok : ∀ k, k < 13 → parseFieldDescriptor (TX3 k).2.2.1 = some (tyX3 k) := by decide +kernel
abbrev cX3_init : ByteArray := prog_5_method_1_code
def yX3_init : MethodName := ⟨RX3, "<init>", "(LYieldMoor$Bodies;)V"⟩
abbrev cX3_copyFrom : ByteArray := prog_5_method_2_code
def yX3_copyFrom : MethodName := ⟨RX3, "copyFrom", "(LYieldMoor$Machine;)V"⟩
abbrev cX3_isMade : ByteArray := prog_5_method_3_code
def yX3_isMade : MethodName := ⟨RX3, "isMade", "(I)Z"⟩
abbrev cX3_has : ByteArray := prog_5_method_4_code
def yX3_has : MethodName := ⟨RX3, "has", "(II)Z"⟩
abbrev cX3_at : ByteArray := prog_5_method_5_code
def yX3_at : MethodName := ⟨RX3, "at", "(I)LYieldMoor$Coroutine;"⟩
abbrev cX3_isFull : ByteArray := prog_5_method_6_code
def yX3_isFull : MethodName := ⟨RX3, "isFull", "()Z"⟩
abbrev cX3_howManyMadeOf : ByteArray := prog_5_method_7_code
def yX3_howManyMadeOf : MethodName := ⟨RX3, "howManyMadeOf", "(I)I"⟩
abbrev cX3_howManyOfSort : ByteArray := prog_5_method_8_code
def yX3_howManyOfSort : MethodName := ⟨RX3, "howManyOfSort", "(I)I"⟩
abbrev cX3_howManyInState : ByteArray := prog_5_method_9_code
def yX3_howManyInState : MethodName := ⟨RX3, "howManyInState", "(I)I"⟩
abbrev cX3_howManyTasksOver : ByteArray := prog_5_method_10_code
def yX3_howManyTasksOver : MethodName := ⟨RX3, "howManyTasksOver", "()I"⟩
abbrev cX3_howManyAwait : ByteArray := prog_5_method_11_code
def yX3_howManyAwait : MethodName := ⟨RX3, "howManyAwait", "(I)I"⟩
abbrev cX3_linesDoneInAll : ByteArray := prog_5_method_12_code
def yX3_linesDoneInAll : MethodName := ⟨RX3, "linesDoneInAll", "()I"⟩
abbrev cX3_canMake : ByteArray := prog_5_method_13_code
def yX3_canMake : MethodName := ⟨RX3, "canMake", "(I)Z"⟩
abbrev cX3_make : ByteArray := prog_5_method_14_code
def yX3_make : MethodName := ⟨RX3, "make", "(III)LYieldMoor$Coroutine;"⟩
abbrev cX3_resumeWith : ByteArray := prog_5_method_15_code
def yX3_resumeWith : MethodName := ⟨RX3, "resumeWith", "(II)I"⟩
abbrev cX3_throwInto : ByteArray := prog_5_method_16_code
def yX3_throwInto : MethodName := ⟨RX3, "throwInto", "(II)I"⟩
abbrev cX3_toldOf : ByteArray := prog_5_method_17_code
def yX3_toldOf : MethodName := ⟨RX3, "toldOf", "(LYieldMoor$Coroutine;)I"⟩
abbrev cX3_closeAll : ByteArray := prog_5_method_18_code
def yX3_closeAll : MethodName := ⟨RX3, "closeAll", "(I)I"⟩
abbrev cX3_endClose : ByteArray := prog_5_method_19_code
def yX3_endClose : MethodName := ⟨RX3, "endClose", "(LYieldMoor$Coroutine;)I"⟩
abbrev cX3_doTurns : ByteArray := prog_5_method_20_code
def yX3_doTurns : MethodName := ⟨RX3, "doTurns", "(I)I"⟩
abbrev cX3_beginTurn : ByteArray := prog_5_method_21_code
def yX3_beginTurn : MethodName := ⟨RX3, "beginTurn", "(LYieldMoor$Coroutine;)V"⟩
abbrev cX3_wake : ByteArray := prog_5_method_22_code
def yX3_wake : MethodName := ⟨RX3, "wake", "(LYieldMoor$Coroutine;)I"⟩
abbrev cX3_takeOutcome : ByteArray := prog_5_method_23_code
def yX3_takeOutcome : MethodName := ⟨RX3, "takeOutcome", "(LYieldMoor$Coroutine;LYieldMoor$Coroutine;)I"⟩
abbrev cX3_tellOthers : ByteArray := prog_5_method_24_code
def yX3_tellOthers : MethodName := ⟨RX3, "tellOthers", "(LYieldMoor$Coroutine;)V"⟩
abbrev cX3_askToCancel : ByteArray := prog_5_method_25_code
def yX3_askToCancel : MethodName := ⟨RX3, "askToCancel", "(I)Z"⟩
abbrev cX3_oneTick : ByteArray := prog_5_method_26_code
def yX3_oneTick : MethodName := ⟨RX3, "oneTick", "()I"⟩
abbrev cX3_beginCall : ByteArray := prog_5_method_27_code
def yX3_beginCall : MethodName := ⟨RX3, "beginCall", "(I)V"⟩
abbrev cX3_inmostOf : ByteArray := prog_5_method_28_code
def yX3_inmostOf : MethodName := ⟨RX3, "inmostOf", "(LYieldMoor$Coroutine;)LYieldMoor$Coroutine;"⟩
abbrev cX3_goOn : ByteArray := prog_5_method_29_code
def yX3_goOn : MethodName := ⟨RX3, "goOn", "(LYieldMoor$Coroutine;LYieldMoor$Coroutine;)V"⟩
abbrev cX3_wayInstead : ByteArray := prog_5_method_30_code
def yX3_wayInstead : MethodName := ⟨RX3, "wayInstead", "(LYieldMoor$Coroutine;)I"⟩
abbrev cX3_backToOuter : ByteArray := prog_5_method_31_code
def yX3_backToOuter : MethodName := ⟨RX3, "backToOuter", "()V"⟩
abbrev cX3_part : ByteArray := prog_5_method_32_code
def yX3_part : MethodName := ⟨RX3, "part", "(LYieldMoor$Coroutine;LYieldMoor$Coroutine;)V"⟩
abbrev cX3_doLine : ByteArray := prog_5_method_33_code
def yX3_doLine : MethodName := ⟨RX3, "doLine", "(LYieldMoor$Coroutine;LYieldMoor$Body;)I"⟩
abbrev cX3_doYield : ByteArray := prog_5_method_34_code
def yX3_doYield : MethodName := ⟨RX3, "doYield", "(LYieldMoor$Coroutine;)I"⟩
abbrev cX3_doFrom : ByteArray := prog_5_method_35_code
def yX3_doFrom : MethodName := ⟨RX3, "doFrom", "(LYieldMoor$Coroutine;I)I"⟩
abbrev cX3_doSleep : ByteArray := prog_5_method_36_code
def yX3_doSleep : MethodName := ⟨RX3, "doSleep", "(LYieldMoor$Coroutine;I)I"⟩
abbrev cX3_doAwait : ByteArray := prog_5_method_37_code
def yX3_doAwait : MethodName := ⟨RX3, "doAwait", "(LYieldMoor$Coroutine;)I"⟩
abbrev cX3_awaitsTheOwnOne : ByteArray := prog_5_method_38_code
def yX3_awaitsTheOwnOne : MethodName := ⟨RX3, "awaitsTheOwnOne", "(I)Z"⟩
abbrev cX3_doSpawn : ByteArray := prog_5_method_39_code
def yX3_doSpawn : MethodName := ⟨RX3, "doSpawn", "(LYieldMoor$Coroutine;I)I"⟩
abbrev cX3_doShield : ByteArray := prog_5_method_40_code
def yX3_doShield : MethodName := ⟨RX3, "doShield", "(LYieldMoor$Coroutine;I)I"⟩
abbrev cX3_waitAt : ByteArray := prog_5_method_41_code
def yX3_waitAt : MethodName := ⟨RX3, "waitAt", "(LYieldMoor$Coroutine;)V"⟩
abbrev cX3_takesCancel : ByteArray := prog_5_method_42_code
def yX3_takesCancel : MethodName := ⟨RX3, "takesCancel", "()Z"⟩
def RX4 : String := "YieldMoor$Queue"
def TX4 : u_T := fun k => match k with
  | 0 => ("YieldMoor$Queue", "numbers", "[I", true)
  | _ => ("YieldMoor$Queue", "size", "I", false)
def tyX4 : Nat → FieldType := fun k => match k with
  | 0 => .array .int
  | _ => .int
abbrev wsX40 : List Cond := u_ws RX4 TX4 2
theorem nmX4 : ∀ a, a < 2 → ∀ b, b < 2 → a ≠ b → (TX4 a).2.1 ≠ (TX4 b).2.1 := by decide +kernel
theorem tyX4_ok : ∀ k, k < 2 → parseFieldDescriptor (TX4 k).2.2.1 = some (tyX4 k) := by decide +kernel
abbrev cX4_init : ByteArray := prog_6_method_1_code
def yX4_init : MethodName := ⟨RX4, "<init>", "()V"⟩
abbrev cX4_numberAt : ByteArray := prog_6_method_2_code
def yX4_numberAt : MethodName := ⟨RX4, "numberAt", "(I)I"⟩
abbrev cX4_placeOf : ByteArray := prog_6_method_3_code
def yX4_placeOf : MethodName := ⟨RX4, "placeOf", "(I)I"⟩
abbrev cX4_add : ByteArray := prog_6_method_4_code
def yX4_add : MethodName := ⟨RX4, "add", "(I)V"⟩
abbrev cX4_removeAt : ByteArray := prog_6_method_5_code
def yX4_removeAt : MethodName := ⟨RX4, "removeAt", "(I)V"⟩
abbrev cX4_copyFrom : ByteArray := prog_6_method_6_code
def yX4_copyFrom : MethodName := ⟨RX4, "copyFrom", "(LYieldMoor$Queue;)V"⟩
def RX5 : String := "YieldMoor$WayStack"
def TX5 : u_T := fun k => match k with
  | 0 => ("YieldMoor$WayStack", "signs", "[I", true)
  | 1 => ("YieldMoor$WayStack", "marks", "[I", true)
  | _ => ("YieldMoor$WayStack", "size", "I", false)
def tyX5 : Nat → FieldType := fun k => match k with
  | 0 => .array .int
  | 1 => .array .int
  | _ => .int
abbrev wsX50 : List Cond := u_ws RX5 TX5 3
theorem nmX5 : ∀ a, a < 3 → ∀ b, b < 3 → a ≠ b → (TX5 a).2.1 ≠ (TX5 b).2.1 := by decide +kernel
theorem tyX5_ok : ∀ k, k < 3 → parseFieldDescriptor (TX5 k).2.2.1 = some (tyX5 k) := by decide +kernel
abbrev cX5_init : ByteArray := prog_7_method_1_code
def yX5_init : MethodName := ⟨RX5, "<init>", "()V"⟩
abbrev cX5_has : ByteArray := prog_7_method_2_code
def yX5_has : MethodName := ⟨RX5, "has", "(I)Z"⟩
abbrev cX5_isFull : ByteArray := prog_7_method_3_code
def yX5_isFull : MethodName := ⟨RX5, "isFull", "()Z"⟩
abbrev cX5_signAt : ByteArray := prog_7_method_4_code
def yX5_signAt : MethodName := ⟨RX5, "signAt", "(I)I"⟩
abbrev cX5_lastSign : ByteArray := prog_7_method_5_code
def yX5_lastSign : MethodName := ⟨RX5, "lastSign", "()I"⟩
abbrev cX5_lastMark : ByteArray := prog_7_method_6_code
def yX5_lastMark : MethodName := ⟨RX5, "lastMark", "()I"⟩
abbrev cX5_put : ByteArray := prog_7_method_7_code
def yX5_put : MethodName := ⟨RX5, "put", "(II)V"⟩
abbrev cX5_takeOff : ByteArray := prog_7_method_8_code
def yX5_takeOff : MethodName := ⟨RX5, "takeOff", "()V"⟩
abbrev cX5_copyFrom : ByteArray := prog_7_method_9_code
def yX5_copyFrom : MethodName := ⟨RX5, "copyFrom", "(LYieldMoor$WayStack;)V"⟩
def RX6 : String := "YieldMoor"
def TX6 : u_T := fun k => match k with
  | 0 => ("YieldMoor", "bodies", "LYieldMoor$Bodies;", true)
  | 1 => ("YieldMoor", "machine", "LYieldMoor$Machine;", true)
  | _ => ("YieldMoor", "trial", "LYieldMoor$Machine;", true)
def tyX6 : Nat → FieldType := fun k => match k with
  | 0 => .object "YieldMoor$Bodies"
  | 1 => .object "YieldMoor$Machine"
  | _ => .object "YieldMoor$Machine"
abbrev wsX60 : List Cond := u_ws RX6 TX6 3
theorem nmX6 : ∀ a, a < 3 → ∀ b, b < 3 → a ≠ b → (TX6 a).2.1 ≠ (TX6 b).2.1 := by decide +kernel
theorem tyX6_ok : ∀ k, k < 3 → parseFieldDescriptor (TX6 k).2.2.1 = some (tyX6 k) := by decide +kernel
abbrev cX6_init : ByteArray := prog_1_method_1_code
def yX6_init : MethodName := ⟨RX6, "<init>", "()V"⟩
abbrev cX6_body : ByteArray := prog_1_method_2_code
def yX6_body : MethodName := ⟨RX6, "body", "()I"⟩
abbrev cX6_line : ByteArray := prog_1_method_3_code
def yX6_line : MethodName := ⟨RX6, "line", "(IIII)I"⟩
abbrev cX6_ofBody : ByteArray := prog_1_method_4_code
def yX6_ofBody : MethodName := ⟨RX6, "ofBody", "(II)I"⟩
abbrev cX6_generator : ByteArray := prog_1_method_5_code
def yX6_generator : MethodName := ⟨RX6, "generator", "(I)I"⟩
abbrev cX6_resume : ByteArray := prog_1_method_6_code
def yX6_resume : MethodName := ⟨RX6, "resume", "(II)I"⟩
abbrev cX6_raise : ByteArray := prog_1_method_7_code
def yX6_raise : MethodName := ⟨RX6, "raise", "(II)I"⟩
abbrev cX6_close : ByteArray := prog_1_method_8_code
def yX6_close : MethodName := ⟨RX6, "close", "(I)I"⟩
abbrev cX6_start : ByteArray := prog_1_method_9_code
def yX6_start : MethodName := ⟨RX6, "start", "(I)I"⟩
abbrev cX6_run : ByteArray := prog_1_method_10_code
def yX6_run : MethodName := ⟨RX6, "run", "(I)I"⟩
abbrev cX6_tick : ByteArray := prog_1_method_11_code
def yX6_tick : MethodName := ⟨RX6, "tick", "(I)I"⟩
abbrev cX6_cancel : ByteArray := prog_1_method_12_code
def yX6_cancel : MethodName := ⟨RX6, "cancel", "(I)Z"⟩
abbrev cX6_of : ByteArray := prog_1_method_13_code
def yX6_of : MethodName := ⟨RX6, "of", "(II)I"⟩
abbrev cX6_local : ByteArray := prog_1_method_14_code
def yX6_local : MethodName := ⟨RX6, "local", "(II)I"⟩
abbrev cX6_stack : ByteArray := prog_1_method_15_code
def yX6_stack : MethodName := ⟨RX6, "stack", "(II)I"⟩
abbrev cX6_ofTask : ByteArray := prog_1_method_16_code
def yX6_ofTask : MethodName := ⟨RX6, "ofTask", "(II)I"⟩
abbrev cX6_many : ByteArray := prog_1_method_17_code
def yX6_many : MethodName := ⟨RX6, "many", "(I)I"⟩
abbrev cX6_meanLines : ByteArray := prog_1_method_18_code
def yX6_meanLines : MethodName := ⟨RX6, "meanLines", "()D"⟩
abbrev cX6_wouldGive : ByteArray := prog_1_method_19_code
def yX6_wouldGive : MethodName := ⟨RX6, "wouldGive", "(II)I"⟩
abbrev cX6_wouldClose : ByteArray := prog_1_method_20_code
def yX6_wouldClose : MethodName := ⟨RX6, "wouldClose", "(I)I"⟩
abbrev cX6_overIn : ByteArray := prog_1_method_21_code
def yX6_overIn : MethodName := ⟨RX6, "overIn", "(I)I"⟩
abbrev cX6_left : ByteArray := prog_1_method_23_code
def yX6_left : MethodName := ⟨RX6, "left", "(I)I"⟩
abbrev cX6_digest : ByteArray := prog_1_method_24_code
def yX6_digest : MethodName := ⟨RX6, "digest", "()J"⟩
abbrev cX6_within : ByteArray := prog_1_method_25_code
def yX6_within : MethodName := ⟨RX6, "within", "(III)Z"⟩
def RX7 : String := "YieldMoorLaw$Own"
def TX7 : u_T := fun k => match k with
  | 0 => ("YieldMoorLaw$Own", "lines", "[[[I", true)
  | 1 => ("YieldMoorLaw$Own", "size", "[I", true)
  | _ => ("YieldMoorLaw$Own", "bodies", "I", false)
def tyX7 : Nat → FieldType := fun k => match k with
  | 0 => .array (.array (.array .int))
  | 1 => .array .int
  | _ => .int
abbrev wsX70 : List Cond := u_ws RX7 TX7 3
theorem nmX7 : ∀ a, a < 3 → ∀ b, b < 3 → a ≠ b → (TX7 a).2.1 ≠ (TX7 b).2.1 := by decide +kernel
theorem tyX7_ok : ∀ k, k < 3 → parseFieldDescriptor (TX7 k).2.2.1 = some (tyX7 k) := by decide +kernel
abbrev cX7_init : ByteArray := prog_9_method_1_code
def yX7_init : MethodName := ⟨RX7, "<init>", "()V"⟩
abbrev cX7_isTold : ByteArray := prog_9_method_2_code
def yX7_isTold : MethodName := ⟨RX7, "isTold", "(LYieldMoor;)Z"⟩
abbrev cX7_isLine : ByteArray := prog_9_method_3_code
def yX7_isLine : MethodName := ⟨RX7, "isLine", "(LYieldMoor;IIII)Z"⟩
abbrev cX7_isDrawn : ByteArray := prog_9_method_4_code
def yX7_isDrawn : MethodName := ⟨RX7, "isDrawn", "(LYieldMoor;II[I)Z"⟩
def RX8 : String := "YieldMoorModel$Coroutine"
def TX8 : u_T := fun k => match k with
  | _ => ("", "", "", false)
def tyX8 : Nat → FieldType := fun k => match k with
  | _ => .int
abbrev wsX80 : List Cond := u_ws RX8 TX8 0
theorem nmX8 : ∀ a, a < 0 → ∀ b, b < 0 → a ≠ b → (TX8 a).2.1 ≠ (TX8 b).2.1 := by decide +kernel
theorem tyX8_ok : ∀ k, k < 0 → parseFieldDescriptor (TX8 k).2.2.1 = some (tyX8 k) := by decide +kernel
def RX9 : String := "YieldMoorModel$World"
def TX9 : u_T := fun k => match k with
  | _ => ("", "", "", false)
def tyX9 : Nat → FieldType := fun k => match k with
  | _ => .int
abbrev wsX90 : List Cond := u_ws RX9 TX9 0
theorem nmX9 : ∀ a, a < 0 → ∀ b, b < 0 → a ≠ b → (TX9 a).2.1 ≠ (TX9 b).2.1 := by decide +kernel
theorem tyX9_ok : ∀ k, k < 0 → parseFieldDescriptor (TX9 k).2.2.1 = some (tyX9 k) := by decide +kernel
def RX10 : String := "YieldMoorModel"
def TX10 : u_T := fun k => match k with
  | _ => ("", "", "", false)
def tyX10 : Nat → FieldType := fun k => match k with
  | _ => .int
def RL : String := "YieldMoorLaw"
abbrev cL_below : ByteArray := method_2_code
def yL_below : MethodName := ⟨RL, "below", "(II)I"⟩
abbrev cL_cell : ByteArray := method_3_code
def yL_cell : MethodName := ⟨RL, "cell", "([II)I"⟩
abbrev cL_law : ByteArray := code
def yL_law : MethodName := ⟨RL, "law", "([I)Z"⟩
abbrev cL_act : ByteArray := method_5_code
def yL_act : MethodName := ⟨RL, "act", "(LYieldMoor;I)Z"⟩
abbrev cL_isGiven : ByteArray := method_6_code
def yL_isGiven : MethodName := ⟨RL, "isGiven", "(LYieldMoor;II)Z"⟩
abbrev cL_areCoroutinesRight : ByteArray := method_7_code
def yL_areCoroutinesRight : MethodName := ⟨RL, "areCoroutinesRight", "(LYieldMoor;LYieldMoorLaw$Own;)Z"⟩
abbrev cL_areTasksRight : ByteArray := method_8_code
def yL_areTasksRight : MethodName := ⟨RL, "areTasksRight", "(LYieldMoor;)Z"⟩
abbrev vwCl : List vw_C := [(RX0, TX0, 3), (RX1, TX1, 4), (RX2, TX2, 17), (RX3, TX3, 13), (RX4, TX4, 2), (RX5, TX5, 3), (RX6, TX6, 3), (RX7, TX7, 3)]
end
section
theorem dX0_init_0 : decode cX0_init 0 = .ok (.aload_n 0, 1) := by decide +kernel
theorem dX0_init_1 : decode cX0_init 1 = .ok (.invokespecial 3, 3) := by decide +kernel
theorem dX0_init_4 : decode cX0_init 4 = .ok (.aload_n 0, 1) := by decide +kernel
theorem dX0_init_5 : decode cX0_init 5 = .ok (.bipush 8, 2) := by decide +kernel
theorem dX0_init_7 : decode cX0_init 7 = .ok (.anewarray 9, 3) := by decide +kernel
theorem dX0_init_10 : decode cX0_init 10 = .ok (.putfield 11, 3) := by decide +kernel
theorem dX0_init_13 : decode cX0_init 13 = .ok (.aload_n 0, 1) := by decide +kernel
theorem dX0_init_14 : decode cX0_init 14 = .ok (.new 9, 3) := by decide +kernel
theorem dX0_init_17 : decode cX0_init 17 = .ok (.dup, 1) := by decide +kernel
theorem dX0_init_18 : decode cX0_init 18 = .ok (.invokespecial 17, 3) := by decide +kernel
theorem dX0_init_21 : decode cX0_init 21 = .ok (.putfield 18, 3) := by decide +kernel
theorem dX0_init_24 : decode cX0_init 24 = .ok (.iconst 0, 1) := by decide +kernel
theorem dX0_init_25 : decode cX0_init 25 = .ok (.istore_n 1, 1) := by decide +kernel
theorem dX0_init_26 : decode cX0_init 26 = .ok (.iload_n 1, 1) := by decide +kernel
theorem dX0_init_27 : decode cX0_init 27 = .ok (.bipush 8, 2) := by decide +kernel
theorem dX0_init_29 : decode cX0_init 29 = .ok (.if_icmp .ge 22, 3) := by decide +kernel
theorem dX0_init_32 : decode cX0_init 32 = .ok (.aload_n 0, 1) := by decide +kernel
theorem dX0_init_33 : decode cX0_init 33 = .ok (.getfield 11, 3) := by decide +kernel
theorem dX0_init_36 : decode cX0_init 36 = .ok (.iload_n 1, 1) := by decide +kernel
theorem dX0_init_37 : decode cX0_init 37 = .ok (.new 9, 3) := by decide +kernel
theorem dX0_init_40 : decode cX0_init 40 = .ok (.dup, 1) := by decide +kernel
theorem dX0_init_41 : decode cX0_init 41 = .ok (.invokespecial 17, 3) := by decide +kernel
theorem dX0_init_44 : decode cX0_init 44 = .ok (.aastore, 1) := by decide +kernel
theorem dX0_init_45 : decode cX0_init 45 = .ok (.iinc 1 1, 3) := by decide +kernel
theorem dX0_init_48 : decode cX0_init 48 = .ok (.goto (-22), 3) := by decide +kernel
theorem dX0_init_51 : decode cX0_init 51 = .ok (.return_, 1) := by decide +kernel
theorem dX0_has_0 : decode cX0_has 0 = .ok (.iload_n 1, 1) := by decide +kernel
theorem dX0_has_1 : decode cX0_has 1 = .ok (.ifCond .lt 15, 3) := by decide +kernel
theorem dX0_has_4 : decode cX0_has 4 = .ok (.iload_n 1, 1) := by decide +kernel
theorem dX0_has_5 : decode cX0_has 5 = .ok (.aload_n 0, 1) := by decide +kernel
theorem dX0_has_6 : decode cX0_has 6 = .ok (.getfield 22, 3) := by decide +kernel
theorem dX0_has_9 : decode cX0_has 9 = .ok (.if_icmp .ge 7, 3) := by decide +kernel
theorem dX0_has_12 : decode cX0_has 12 = .ok (.iconst 1, 1) := by decide +kernel
theorem dX0_has_13 : decode cX0_has 13 = .ok (.goto 4, 3) := by decide +kernel
theorem dX0_has_16 : decode cX0_has 16 = .ok (.iconst 0, 1) := by decide +kernel
theorem dX0_has_17 : decode cX0_has 17 = .ok (.ireturn, 1) := by decide +kernel
theorem dX0_at_0 : decode cX0_at 0 = .ok (.iload_n 1, 1) := by decide +kernel
theorem dX0_at_1 : decode cX0_at 1 = .ok (.ifCond .lt 18, 3) := by decide +kernel
theorem dX0_at_4 : decode cX0_at 4 = .ok (.iload_n 1, 1) := by decide +kernel
theorem dX0_at_5 : decode cX0_at 5 = .ok (.bipush 8, 2) := by decide +kernel
theorem dX0_at_7 : decode cX0_at 7 = .ok (.if_icmp .ge 12, 3) := by decide +kernel
theorem dX0_at_10 : decode cX0_at 10 = .ok (.aload_n 0, 1) := by decide +kernel
theorem dX0_at_11 : decode cX0_at 11 = .ok (.getfield 11, 3) := by decide +kernel
theorem dX0_at_14 : decode cX0_at 14 = .ok (.iload_n 1, 1) := by decide +kernel
theorem dX0_at_15 : decode cX0_at 15 = .ok (.aaload, 1) := by decide +kernel
theorem dX0_at_16 : decode cX0_at 16 = .ok (.goto 7, 3) := by decide +kernel
theorem dX0_at_19 : decode cX0_at 19 = .ok (.aload_n 0, 1) := by decide +kernel
theorem dX0_at_20 : decode cX0_at 20 = .ok (.getfield 18, 3) := by decide +kernel
theorem dX0_at_23 : decode cX0_at 23 = .ok (.areturn, 1) := by decide +kernel
theorem dX0_addBody_0 : decode cX0_addBody 0 = .ok (.aload_n 0, 1) := by decide +kernel
theorem dX0_addBody_1 : decode cX0_addBody 1 = .ok (.getfield 22, 3) := by decide +kernel
theorem dX0_addBody_4 : decode cX0_addBody 4 = .ok (.istore_n 1, 1) := by decide +kernel
theorem dX0_addBody_5 : decode cX0_addBody 5 = .ok (.aload_n 0, 1) := by decide +kernel
theorem dX0_addBody_6 : decode cX0_addBody 6 = .ok (.iload_n 1, 1) := by decide +kernel
theorem dX0_addBody_7 : decode cX0_addBody 7 = .ok (.iconst 1, 1) := by decide +kernel
theorem dX0_addBody_8 : decode cX0_addBody 8 = .ok (.iadd, 1) := by decide +kernel
theorem dX0_addBody_9 : decode cX0_addBody 9 = .ok (.putfield 22, 3) := by decide +kernel
theorem dX0_addBody_12 : decode cX0_addBody 12 = .ok (.iload_n 1, 1) := by decide +kernel
theorem dX0_addBody_13 : decode cX0_addBody 13 = .ok (.ireturn, 1) := by decide +kernel
theorem dX1_init_0 : decode cX1_init 0 = .ok (.aload_n 0, 1) := by decide +kernel
theorem dX1_init_1 : decode cX1_init 1 = .ok (.invokespecial 3, 3) := by decide +kernel
theorem dX1_init_4 : decode cX1_init 4 = .ok (.aload_n 0, 1) := by decide +kernel
theorem dX1_init_5 : decode cX1_init 5 = .ok (.bipush 12, 2) := by decide +kernel
theorem dX1_init_7 : decode cX1_init 7 = .ok (.newarray .int, 2) := by decide +kernel
theorem dX1_init_9 : decode cX1_init 9 = .ok (.putfield 9, 3) := by decide +kernel
theorem dX1_init_12 : decode cX1_init 12 = .ok (.aload_n 0, 1) := by decide +kernel
theorem dX1_init_13 : decode cX1_init 13 = .ok (.bipush 12, 2) := by decide +kernel
theorem dX1_init_15 : decode cX1_init 15 = .ok (.newarray .int, 2) := by decide +kernel
theorem dX1_init_17 : decode cX1_init 17 = .ok (.putfield 15, 3) := by decide +kernel
theorem dX1_init_20 : decode cX1_init 20 = .ok (.aload_n 0, 1) := by decide +kernel
theorem dX1_init_21 : decode cX1_init 21 = .ok (.bipush 12, 2) := by decide +kernel
theorem dX1_init_23 : decode cX1_init 23 = .ok (.newarray .int, 2) := by decide +kernel
theorem dX1_init_25 : decode cX1_init 25 = .ok (.putfield 18, 3) := by decide +kernel
theorem dX1_init_28 : decode cX1_init 28 = .ok (.return_, 1) := by decide +kernel
theorem dX1_hasLine_0 : decode cX1_hasLine 0 = .ok (.iload_n 1, 1) := by decide +kernel
theorem dX1_hasLine_1 : decode cX1_hasLine 1 = .ok (.ifCond .lt 15, 3) := by decide +kernel
theorem dX1_hasLine_4 : decode cX1_hasLine 4 = .ok (.iload_n 1, 1) := by decide +kernel
theorem dX1_hasLine_5 : decode cX1_hasLine 5 = .ok (.aload_n 0, 1) := by decide +kernel
theorem dX1_hasLine_6 : decode cX1_hasLine 6 = .ok (.getfield 21, 3) := by decide +kernel
theorem dX1_hasLine_9 : decode cX1_hasLine 9 = .ok (.if_icmp .ge 7, 3) := by decide +kernel
theorem dX1_hasLine_12 : decode cX1_hasLine 12 = .ok (.iconst 1, 1) := by decide +kernel
theorem dX1_hasLine_13 : decode cX1_hasLine 13 = .ok (.goto 4, 3) := by decide +kernel
theorem dX1_hasLine_16 : decode cX1_hasLine 16 = .ok (.iconst 0, 1) := by decide +kernel
theorem dX1_hasLine_17 : decode cX1_hasLine 17 = .ok (.ireturn, 1) := by decide +kernel
theorem dX1_kindAt_0 : decode cX1_kindAt 0 = .ok (.aload_n 0, 1) := by decide +kernel
theorem dX1_kindAt_1 : decode cX1_kindAt 1 = .ok (.iload_n 1, 1) := by decide +kernel
theorem dX1_kindAt_2 : decode cX1_kindAt 2 = .ok (.invokevirtual 25, 3) := by decide +kernel
theorem dX1_kindAt_5 : decode cX1_kindAt 5 = .ok (.ifCond .eq 12, 3) := by decide +kernel
theorem dX1_kindAt_8 : decode cX1_kindAt 8 = .ok (.aload_n 0, 1) := by decide +kernel
theorem dX1_kindAt_9 : decode cX1_kindAt 9 = .ok (.getfield 9, 3) := by decide +kernel
theorem dX1_kindAt_12 : decode cX1_kindAt 12 = .ok (.iload_n 1, 1) := by decide +kernel
theorem dX1_kindAt_13 : decode cX1_kindAt 13 = .ok (.iaload, 1) := by decide +kernel
theorem dX1_kindAt_14 : decode cX1_kindAt 14 = .ok (.goto 5, 3) := by decide +kernel
theorem dX1_kindAt_17 : decode cX1_kindAt 17 = .ok (.bipush 11, 2) := by decide +kernel
theorem dX1_kindAt_19 : decode cX1_kindAt 19 = .ok (.ireturn, 1) := by decide +kernel
theorem dX1_aAt_0 : decode cX1_aAt 0 = .ok (.aload_n 0, 1) := by decide +kernel
theorem dX1_aAt_1 : decode cX1_aAt 1 = .ok (.iload_n 1, 1) := by decide +kernel
theorem dX1_aAt_2 : decode cX1_aAt 2 = .ok (.invokevirtual 25, 3) := by decide +kernel
theorem dX1_aAt_5 : decode cX1_aAt 5 = .ok (.ifCond .eq 12, 3) := by decide +kernel
theorem dX1_aAt_8 : decode cX1_aAt 8 = .ok (.aload_n 0, 1) := by decide +kernel
theorem dX1_aAt_9 : decode cX1_aAt 9 = .ok (.getfield 15, 3) := by decide +kernel
theorem dX1_aAt_12 : decode cX1_aAt 12 = .ok (.iload_n 1, 1) := by decide +kernel
theorem dX1_aAt_13 : decode cX1_aAt 13 = .ok (.iaload, 1) := by decide +kernel
theorem dX1_aAt_14 : decode cX1_aAt 14 = .ok (.goto 4, 3) := by decide +kernel
theorem dX1_aAt_17 : decode cX1_aAt 17 = .ok (.iconst 0, 1) := by decide +kernel
theorem dX1_aAt_18 : decode cX1_aAt 18 = .ok (.ireturn, 1) := by decide +kernel
theorem dX1_bAt_0 : decode cX1_bAt 0 = .ok (.aload_n 0, 1) := by decide +kernel
theorem dX1_bAt_1 : decode cX1_bAt 1 = .ok (.iload_n 1, 1) := by decide +kernel
theorem dX1_bAt_2 : decode cX1_bAt 2 = .ok (.invokevirtual 25, 3) := by decide +kernel
theorem dX1_bAt_5 : decode cX1_bAt 5 = .ok (.ifCond .eq 12, 3) := by decide +kernel
theorem dX1_bAt_8 : decode cX1_bAt 8 = .ok (.aload_n 0, 1) := by decide +kernel
theorem dX1_bAt_9 : decode cX1_bAt 9 = .ok (.getfield 18, 3) := by decide +kernel
theorem dX1_bAt_12 : decode cX1_bAt 12 = .ok (.iload_n 1, 1) := by decide +kernel
theorem dX1_bAt_13 : decode cX1_bAt 13 = .ok (.iaload, 1) := by decide +kernel
theorem dX1_bAt_14 : decode cX1_bAt 14 = .ok (.goto 4, 3) := by decide +kernel
theorem dX1_bAt_17 : decode cX1_bAt 17 = .ok (.iconst 0, 1) := by decide +kernel
theorem dX1_bAt_18 : decode cX1_bAt 18 = .ok (.ireturn, 1) := by decide +kernel
theorem dX1_fits_0 : decode cX1_fits 0 = .ok (.iload_n 1, 1) := by decide +kernel
theorem dX1_fits_1 : decode cX1_fits 1 = .ok (.tableswitch 294 0 15 #[79, 100, 100, 280, 119, 146, 171, 146, 280, 201, 221, 280, 241, 280, 221, 261], 79) := by decide +kernel
theorem dX1_fits_80 : decode cX1_fits 80 = .ok (.iload_n 2, 1) := by decide +kernel
theorem dX1_fits_81 : decode cX1_fits 81 = .ok (.bipush (-99), 2) := by decide +kernel
theorem dX1_fits_83 : decode cX1_fits 83 = .ok (.bipush 99, 2) := by decide +kernel
theorem dX1_fits_85 : decode cX1_fits 85 = .ok (.invokestatic 29, 3) := by decide +kernel
theorem dX1_fits_88 : decode cX1_fits 88 = .ok (.ifCond .eq 11, 3) := by decide +kernel
theorem dX1_fits_91 : decode cX1_fits 91 = .ok (.iload_n 3, 1) := by decide +kernel
theorem dX1_fits_92 : decode cX1_fits 92 = .ok (.ifCond .ne 7, 3) := by decide +kernel
theorem dX1_fits_95 : decode cX1_fits 95 = .ok (.iconst 1, 1) := by decide +kernel
theorem dX1_fits_96 : decode cX1_fits 96 = .ok (.goto 4, 3) := by decide +kernel
theorem dX1_fits_99 : decode cX1_fits 99 = .ok (.iconst 0, 1) := by decide +kernel
theorem dX1_fits_100 : decode cX1_fits 100 = .ok (.ireturn, 1) := by decide +kernel
theorem dX1_fits_101 : decode cX1_fits 101 = .ok (.iload_n 2, 1) := by decide +kernel
theorem dX1_fits_102 : decode cX1_fits 102 = .ok (.iconst 0, 1) := by decide +kernel
theorem dX1_fits_103 : decode cX1_fits 103 = .ok (.iconst 3, 1) := by decide +kernel
theorem dX1_fits_104 : decode cX1_fits 104 = .ok (.invokestatic 29, 3) := by decide +kernel
theorem dX1_fits_107 : decode cX1_fits 107 = .ok (.ifCond .eq 11, 3) := by decide +kernel
theorem dX1_fits_110 : decode cX1_fits 110 = .ok (.iload_n 3, 1) := by decide +kernel
theorem dX1_fits_111 : decode cX1_fits 111 = .ok (.ifCond .ne 7, 3) := by decide +kernel
theorem dX1_fits_114 : decode cX1_fits 114 = .ok (.iconst 1, 1) := by decide +kernel
theorem dX1_fits_115 : decode cX1_fits 115 = .ok (.goto 4, 3) := by decide +kernel
theorem dX1_fits_118 : decode cX1_fits 118 = .ok (.iconst 0, 1) := by decide +kernel
theorem dX1_fits_119 : decode cX1_fits 119 = .ok (.ireturn, 1) := by decide +kernel
theorem dX1_fits_120 : decode cX1_fits 120 = .ok (.iload_n 2, 1) := by decide +kernel
theorem dX1_fits_121 : decode cX1_fits 121 = .ok (.iconst 0, 1) := by decide +kernel
theorem dX1_fits_122 : decode cX1_fits 122 = .ok (.iconst 3, 1) := by decide +kernel
theorem dX1_fits_123 : decode cX1_fits 123 = .ok (.invokestatic 29, 3) := by decide +kernel
theorem dX1_fits_126 : decode cX1_fits 126 = .ok (.ifCond .eq 19, 3) := by decide +kernel
theorem dX1_fits_129 : decode cX1_fits 129 = .ok (.iload_n 3, 1) := by decide +kernel
theorem dX1_fits_130 : decode cX1_fits 130 = .ok (.iconst 0, 1) := by decide +kernel
theorem dX1_fits_131 : decode cX1_fits 131 = .ok (.aload_n 0, 1) := by decide +kernel
theorem dX1_fits_132 : decode cX1_fits 132 = .ok (.getfield 21, 3) := by decide +kernel
theorem dX1_fits_135 : decode cX1_fits 135 = .ok (.invokestatic 29, 3) := by decide +kernel
theorem dX1_fits_138 : decode cX1_fits 138 = .ok (.ifCond .eq 7, 3) := by decide +kernel
theorem dX1_fits_141 : decode cX1_fits 141 = .ok (.iconst 1, 1) := by decide +kernel
theorem dX1_fits_142 : decode cX1_fits 142 = .ok (.goto 4, 3) := by decide +kernel
theorem dX1_fits_145 : decode cX1_fits 145 = .ok (.iconst 0, 1) := by decide +kernel
theorem dX1_fits_146 : decode cX1_fits 146 = .ok (.ireturn, 1) := by decide +kernel
theorem dX1_fits_147 : decode cX1_fits 147 = .ok (.iload_n 2, 1) := by decide +kernel
theorem dX1_fits_148 : decode cX1_fits 148 = .ok (.ifCond .ne 22, 3) := by decide +kernel
theorem dX1_fits_151 : decode cX1_fits 151 = .ok (.iload_n 3, 1) := by decide +kernel
theorem dX1_fits_152 : decode cX1_fits 152 = .ok (.aload_n 0, 1) := by decide +kernel
theorem dX1_fits_153 : decode cX1_fits 153 = .ok (.getfield 21, 3) := by decide +kernel
theorem dX1_fits_156 : decode cX1_fits 156 = .ok (.iconst 1, 1) := by decide +kernel
theorem dX1_fits_157 : decode cX1_fits 157 = .ok (.iadd, 1) := by decide +kernel
theorem dX1_fits_158 : decode cX1_fits 158 = .ok (.bipush 12, 2) := by decide +kernel
theorem dX1_fits_160 : decode cX1_fits 160 = .ok (.invokestatic 29, 3) := by decide +kernel
theorem dX1_fits_163 : decode cX1_fits 163 = .ok (.ifCond .eq 7, 3) := by decide +kernel
theorem dX1_fits_166 : decode cX1_fits 166 = .ok (.iconst 1, 1) := by decide +kernel
theorem dX1_fits_167 : decode cX1_fits 167 = .ok (.goto 4, 3) := by decide +kernel
theorem dX1_fits_170 : decode cX1_fits 170 = .ok (.iconst 0, 1) := by decide +kernel
theorem dX1_fits_171 : decode cX1_fits 171 = .ok (.ireturn, 1) := by decide +kernel
theorem dX1_fits_172 : decode cX1_fits 172 = .ok (.iload_n 2, 1) := by decide +kernel
theorem dX1_fits_173 : decode cX1_fits 173 = .ok (.iconst 0, 1) := by decide +kernel
theorem dX1_fits_174 : decode cX1_fits 174 = .ok (.iconst 1, 1) := by decide +kernel
theorem dX1_fits_175 : decode cX1_fits 175 = .ok (.invokestatic 29, 3) := by decide +kernel
theorem dX1_fits_178 : decode cX1_fits 178 = .ok (.ifCond .eq 22, 3) := by decide +kernel
theorem dX1_fits_181 : decode cX1_fits 181 = .ok (.iload_n 3, 1) := by decide +kernel
theorem dX1_fits_182 : decode cX1_fits 182 = .ok (.aload_n 0, 1) := by decide +kernel
theorem dX1_fits_183 : decode cX1_fits 183 = .ok (.getfield 21, 3) := by decide +kernel
theorem dX1_fits_186 : decode cX1_fits 186 = .ok (.iconst 1, 1) := by decide +kernel
theorem dX1_fits_187 : decode cX1_fits 187 = .ok (.iadd, 1) := by decide +kernel
theorem dX1_fits_188 : decode cX1_fits 188 = .ok (.bipush 12, 2) := by decide +kernel
theorem dX1_fits_190 : decode cX1_fits 190 = .ok (.invokestatic 29, 3) := by decide +kernel
theorem dX1_fits_193 : decode cX1_fits 193 = .ok (.ifCond .eq 7, 3) := by decide +kernel
theorem dX1_fits_196 : decode cX1_fits 196 = .ok (.iconst 1, 1) := by decide +kernel
theorem dX1_fits_197 : decode cX1_fits 197 = .ok (.goto 4, 3) := by decide +kernel
theorem dX1_fits_200 : decode cX1_fits 200 = .ok (.iconst 0, 1) := by decide +kernel
theorem dX1_fits_201 : decode cX1_fits 201 = .ok (.ireturn, 1) := by decide +kernel
theorem dX1_fits_202 : decode cX1_fits 202 = .ok (.iload_n 2, 1) := by decide +kernel
theorem dX1_fits_203 : decode cX1_fits 203 = .ok (.iconst 1, 1) := by decide +kernel
theorem dX1_fits_204 : decode cX1_fits 204 = .ok (.bipush 7, 2) := by decide +kernel
theorem dX1_fits_206 : decode cX1_fits 206 = .ok (.invokestatic 29, 3) := by decide +kernel
theorem dX1_fits_209 : decode cX1_fits 209 = .ok (.ifCond .eq 11, 3) := by decide +kernel
theorem dX1_fits_212 : decode cX1_fits 212 = .ok (.iload_n 3, 1) := by decide +kernel
theorem dX1_fits_213 : decode cX1_fits 213 = .ok (.ifCond .ne 7, 3) := by decide +kernel
theorem dX1_fits_216 : decode cX1_fits 216 = .ok (.iconst 1, 1) := by decide +kernel
theorem dX1_fits_217 : decode cX1_fits 217 = .ok (.goto 4, 3) := by decide +kernel
theorem dX1_fits_220 : decode cX1_fits 220 = .ok (.iconst 0, 1) := by decide +kernel
theorem dX1_fits_221 : decode cX1_fits 221 = .ok (.ireturn, 1) := by decide +kernel
theorem dX1_fits_222 : decode cX1_fits 222 = .ok (.iload_n 2, 1) := by decide +kernel
theorem dX1_fits_223 : decode cX1_fits 223 = .ok (.iconst 0, 1) := by decide +kernel
theorem dX1_fits_224 : decode cX1_fits 224 = .ok (.bipush 7, 2) := by decide +kernel
theorem dX1_fits_226 : decode cX1_fits 226 = .ok (.invokestatic 29, 3) := by decide +kernel
theorem dX1_fits_229 : decode cX1_fits 229 = .ok (.ifCond .eq 11, 3) := by decide +kernel
theorem dX1_fits_232 : decode cX1_fits 232 = .ok (.iload_n 3, 1) := by decide +kernel
theorem dX1_fits_233 : decode cX1_fits 233 = .ok (.ifCond .ne 7, 3) := by decide +kernel
theorem dX1_fits_236 : decode cX1_fits 236 = .ok (.iconst 1, 1) := by decide +kernel
theorem dX1_fits_237 : decode cX1_fits 237 = .ok (.goto 4, 3) := by decide +kernel
theorem dX1_fits_240 : decode cX1_fits 240 = .ok (.iconst 0, 1) := by decide +kernel
theorem dX1_fits_241 : decode cX1_fits 241 = .ok (.ireturn, 1) := by decide +kernel
theorem dX1_fits_242 : decode cX1_fits 242 = .ok (.iload_n 2, 1) := by decide +kernel
theorem dX1_fits_243 : decode cX1_fits 243 = .ok (.iconst 1, 1) := by decide +kernel
theorem dX1_fits_244 : decode cX1_fits 244 = .ok (.bipush 9, 2) := by decide +kernel
theorem dX1_fits_246 : decode cX1_fits 246 = .ok (.invokestatic 29, 3) := by decide +kernel
theorem dX1_fits_249 : decode cX1_fits 249 = .ok (.ifCond .eq 11, 3) := by decide +kernel
theorem dX1_fits_252 : decode cX1_fits 252 = .ok (.iload_n 3, 1) := by decide +kernel
theorem dX1_fits_253 : decode cX1_fits 253 = .ok (.ifCond .ne 7, 3) := by decide +kernel
theorem dX1_fits_256 : decode cX1_fits 256 = .ok (.iconst 1, 1) := by decide +kernel
theorem dX1_fits_257 : decode cX1_fits 257 = .ok (.goto 4, 3) := by decide +kernel
theorem dX1_fits_260 : decode cX1_fits 260 = .ok (.iconst 0, 1) := by decide +kernel
theorem dX1_fits_261 : decode cX1_fits 261 = .ok (.ireturn, 1) := by decide +kernel
theorem dX1_fits_262 : decode cX1_fits 262 = .ok (.iload_n 2, 1) := by decide +kernel
theorem dX1_fits_263 : decode cX1_fits 263 = .ok (.iconst 0, 1) := by decide +kernel
theorem dX1_fits_264 : decode cX1_fits 264 = .ok (.iconst 1, 1) := by decide +kernel
theorem dX1_fits_265 : decode cX1_fits 265 = .ok (.invokestatic 29, 3) := by decide +kernel
theorem dX1_fits_268 : decode cX1_fits 268 = .ok (.ifCond .eq 11, 3) := by decide +kernel
theorem dX1_fits_271 : decode cX1_fits 271 = .ok (.iload_n 3, 1) := by decide +kernel
theorem dX1_fits_272 : decode cX1_fits 272 = .ok (.ifCond .ne 7, 3) := by decide +kernel
theorem dX1_fits_275 : decode cX1_fits 275 = .ok (.iconst 1, 1) := by decide +kernel
theorem dX1_fits_276 : decode cX1_fits 276 = .ok (.goto 4, 3) := by decide +kernel
theorem dX1_fits_279 : decode cX1_fits 279 = .ok (.iconst 0, 1) := by decide +kernel
theorem dX1_fits_280 : decode cX1_fits 280 = .ok (.ireturn, 1) := by decide +kernel
theorem dX1_fits_281 : decode cX1_fits 281 = .ok (.iload_n 2, 1) := by decide +kernel
theorem dX1_fits_282 : decode cX1_fits 282 = .ok (.ifCond .ne 11, 3) := by decide +kernel
theorem dX1_fits_285 : decode cX1_fits 285 = .ok (.iload_n 3, 1) := by decide +kernel
theorem dX1_fits_286 : decode cX1_fits 286 = .ok (.ifCond .ne 7, 3) := by decide +kernel
theorem dX1_fits_289 : decode cX1_fits 289 = .ok (.iconst 1, 1) := by decide +kernel
theorem dX1_fits_290 : decode cX1_fits 290 = .ok (.goto 4, 3) := by decide +kernel
theorem dX1_fits_293 : decode cX1_fits 293 = .ok (.iconst 0, 1) := by decide +kernel
theorem dX1_fits_294 : decode cX1_fits 294 = .ok (.ireturn, 1) := by decide +kernel
theorem dX1_fits_295 : decode cX1_fits 295 = .ok (.iconst 0, 1) := by decide +kernel
theorem dX1_fits_296 : decode cX1_fits 296 = .ok (.ireturn, 1) := by decide +kernel
theorem dX1_addLine_0 : decode cX1_addLine 0 = .ok (.aload_n 0, 1) := by decide +kernel
theorem dX1_addLine_1 : decode cX1_addLine 1 = .ok (.getfield 21, 3) := by decide +kernel
theorem dX1_addLine_4 : decode cX1_addLine 4 = .ok (.istore 4, 2) := by decide +kernel
theorem dX1_addLine_6 : decode cX1_addLine 6 = .ok (.iload 4, 2) := by decide +kernel
theorem dX1_addLine_8 : decode cX1_addLine 8 = .ok (.bipush 12, 2) := by decide +kernel
theorem dX1_addLine_10 : decode cX1_addLine 10 = .ok (.if_icmp .ge 35, 3) := by decide +kernel
theorem dX1_addLine_13 : decode cX1_addLine 13 = .ok (.aload_n 0, 1) := by decide +kernel
theorem dX1_addLine_14 : decode cX1_addLine 14 = .ok (.getfield 9, 3) := by decide +kernel
theorem dX1_addLine_17 : decode cX1_addLine 17 = .ok (.iload 4, 2) := by decide +kernel
theorem dX1_addLine_19 : decode cX1_addLine 19 = .ok (.iload_n 1, 1) := by decide +kernel
theorem dX1_addLine_20 : decode cX1_addLine 20 = .ok (.iastore, 1) := by decide +kernel
theorem dX1_addLine_21 : decode cX1_addLine 21 = .ok (.aload_n 0, 1) := by decide +kernel
theorem dX1_addLine_22 : decode cX1_addLine 22 = .ok (.getfield 15, 3) := by decide +kernel
theorem dX1_addLine_25 : decode cX1_addLine 25 = .ok (.iload 4, 2) := by decide +kernel
theorem dX1_addLine_27 : decode cX1_addLine 27 = .ok (.iload_n 2, 1) := by decide +kernel
theorem dX1_addLine_28 : decode cX1_addLine 28 = .ok (.iastore, 1) := by decide +kernel
theorem dX1_addLine_29 : decode cX1_addLine 29 = .ok (.aload_n 0, 1) := by decide +kernel
theorem dX1_addLine_30 : decode cX1_addLine 30 = .ok (.getfield 18, 3) := by decide +kernel
theorem dX1_addLine_33 : decode cX1_addLine 33 = .ok (.iload 4, 2) := by decide +kernel
theorem dX1_addLine_35 : decode cX1_addLine 35 = .ok (.iload_n 3, 1) := by decide +kernel
theorem dX1_addLine_36 : decode cX1_addLine 36 = .ok (.iastore, 1) := by decide +kernel
theorem dX1_addLine_37 : decode cX1_addLine 37 = .ok (.aload_n 0, 1) := by decide +kernel
theorem dX1_addLine_38 : decode cX1_addLine 38 = .ok (.iload 4, 2) := by decide +kernel
theorem dX1_addLine_40 : decode cX1_addLine 40 = .ok (.iconst 1, 1) := by decide +kernel
theorem dX1_addLine_41 : decode cX1_addLine 41 = .ok (.iadd, 1) := by decide +kernel
theorem dX1_addLine_42 : decode cX1_addLine 42 = .ok (.putfield 21, 3) := by decide +kernel
theorem dX1_addLine_45 : decode cX1_addLine 45 = .ok (.iload 4, 2) := by decide +kernel
theorem dX1_addLine_47 : decode cX1_addLine 47 = .ok (.ireturn, 1) := by decide +kernel
theorem dX1_howManyWaits_0 : decode cX1_howManyWaits 0 = .ok (.iconst 1, 1) := by decide +kernel
theorem dX1_howManyWaits_1 : decode cX1_howManyWaits 1 = .ok (.istore_n 1, 1) := by decide +kernel
theorem dX1_howManyWaits_2 : decode cX1_howManyWaits 2 = .ok (.iconst 0, 1) := by decide +kernel
theorem dX1_howManyWaits_3 : decode cX1_howManyWaits 3 = .ok (.istore_n 2, 1) := by decide +kernel
theorem dX1_howManyWaits_4 : decode cX1_howManyWaits 4 = .ok (.iload_n 2, 1) := by decide +kernel
theorem dX1_howManyWaits_5 : decode cX1_howManyWaits 5 = .ok (.bipush 12, 2) := by decide +kernel
theorem dX1_howManyWaits_7 : decode cX1_howManyWaits 7 = .ok (.if_icmp .ge 41, 3) := by decide +kernel
theorem dX1_howManyWaits_10 : decode cX1_howManyWaits 10 = .ok (.iconst 0, 1) := by decide +kernel
theorem dX1_howManyWaits_11 : decode cX1_howManyWaits 11 = .ok (.istore_n 3, 1) := by decide +kernel
theorem dX1_howManyWaits_12 : decode cX1_howManyWaits 12 = .ok (.iload_n 3, 1) := by decide +kernel
theorem dX1_howManyWaits_13 : decode cX1_howManyWaits 13 = .ok (.aload_n 0, 1) := by decide +kernel
theorem dX1_howManyWaits_14 : decode cX1_howManyWaits 14 = .ok (.getfield 21, 3) := by decide +kernel
theorem dX1_howManyWaits_17 : decode cX1_howManyWaits 17 = .ok (.if_icmp .ge 25, 3) := by decide +kernel
theorem dX1_howManyWaits_20 : decode cX1_howManyWaits 20 = .ok (.iload_n 1, 1) := by decide +kernel
theorem dX1_howManyWaits_21 : decode cX1_howManyWaits 21 = .ok (.iload_n 3, 1) := by decide +kernel
theorem dX1_howManyWaits_22 : decode cX1_howManyWaits 22 = .ok (.ishr, 1) := by decide +kernel
theorem dX1_howManyWaits_23 : decode cX1_howManyWaits 23 = .ok (.iconst 1, 1) := by decide +kernel
theorem dX1_howManyWaits_24 : decode cX1_howManyWaits 24 = .ok (.iand, 1) := by decide +kernel
theorem dX1_howManyWaits_25 : decode cX1_howManyWaits 25 = .ok (.ifCond .eq 11, 3) := by decide +kernel
theorem dX1_howManyWaits_28 : decode cX1_howManyWaits 28 = .ok (.iload_n 1, 1) := by decide +kernel
theorem dX1_howManyWaits_29 : decode cX1_howManyWaits 29 = .ok (.aload_n 0, 1) := by decide +kernel
theorem dX1_howManyWaits_30 : decode cX1_howManyWaits 30 = .ok (.iload_n 3, 1) := by decide +kernel
theorem dX1_howManyWaits_31 : decode cX1_howManyWaits 31 = .ok (.invokevirtual 33, 3) := by decide +kernel
theorem dX1_howManyWaits_34 : decode cX1_howManyWaits 34 = .ok (.ior, 1) := by decide +kernel
theorem dX1_howManyWaits_35 : decode cX1_howManyWaits 35 = .ok (.istore_n 1, 1) := by decide +kernel
theorem dX1_howManyWaits_36 : decode cX1_howManyWaits 36 = .ok (.iinc 3 1, 3) := by decide +kernel
theorem dX1_howManyWaits_39 : decode cX1_howManyWaits 39 = .ok (.goto (-27), 3) := by decide +kernel
theorem dX1_howManyWaits_42 : decode cX1_howManyWaits 42 = .ok (.iinc 2 1, 3) := by decide +kernel
theorem dX1_howManyWaits_45 : decode cX1_howManyWaits 45 = .ok (.goto (-41), 3) := by decide +kernel
theorem dX1_howManyWaits_48 : decode cX1_howManyWaits 48 = .ok (.iconst 0, 1) := by decide +kernel
theorem dX1_howManyWaits_49 : decode cX1_howManyWaits 49 = .ok (.istore_n 2, 1) := by decide +kernel
theorem dX1_howManyWaits_50 : decode cX1_howManyWaits 50 = .ok (.iconst 0, 1) := by decide +kernel
theorem dX1_howManyWaits_51 : decode cX1_howManyWaits 51 = .ok (.istore_n 3, 1) := by decide +kernel
theorem dX1_howManyWaits_52 : decode cX1_howManyWaits 52 = .ok (.iload_n 3, 1) := by decide +kernel
theorem dX1_howManyWaits_53 : decode cX1_howManyWaits 53 = .ok (.aload_n 0, 1) := by decide +kernel
theorem dX1_howManyWaits_54 : decode cX1_howManyWaits 54 = .ok (.getfield 21, 3) := by decide +kernel
theorem dX1_howManyWaits_57 : decode cX1_howManyWaits 57 = .ok (.if_icmp .ge 31, 3) := by decide +kernel
theorem dX1_howManyWaits_60 : decode cX1_howManyWaits 60 = .ok (.iload_n 1, 1) := by decide +kernel
theorem dX1_howManyWaits_61 : decode cX1_howManyWaits 61 = .ok (.iload_n 3, 1) := by decide +kernel
theorem dX1_howManyWaits_62 : decode cX1_howManyWaits 62 = .ok (.ishr, 1) := by decide +kernel
theorem dX1_howManyWaits_63 : decode cX1_howManyWaits 63 = .ok (.iconst 1, 1) := by decide +kernel
theorem dX1_howManyWaits_64 : decode cX1_howManyWaits 64 = .ok (.iand, 1) := by decide +kernel
theorem dX1_howManyWaits_65 : decode cX1_howManyWaits 65 = .ok (.ifCond .eq 17, 3) := by decide +kernel
theorem dX1_howManyWaits_68 : decode cX1_howManyWaits 68 = .ok (.aload_n 0, 1) := by decide +kernel
theorem dX1_howManyWaits_69 : decode cX1_howManyWaits 69 = .ok (.iload_n 3, 1) := by decide +kernel
theorem dX1_howManyWaits_70 : decode cX1_howManyWaits 70 = .ok (.invokevirtual 37, 3) := by decide +kernel
theorem dX1_howManyWaits_73 : decode cX1_howManyWaits 73 = .ok (.invokestatic 40, 3) := by decide +kernel
theorem dX1_howManyWaits_76 : decode cX1_howManyWaits 76 = .ok (.ifCond .eq 6, 3) := by decide +kernel
theorem dX1_howManyWaits_79 : decode cX1_howManyWaits 79 = .ok (.iinc 2 1, 3) := by decide +kernel
theorem dX1_howManyWaits_82 : decode cX1_howManyWaits 82 = .ok (.iinc 3 1, 3) := by decide +kernel
theorem dX1_howManyWaits_85 : decode cX1_howManyWaits 85 = .ok (.goto (-33), 3) := by decide +kernel
theorem dX1_howManyWaits_88 : decode cX1_howManyWaits 88 = .ok (.iload_n 2, 1) := by decide +kernel
theorem dX1_howManyWaits_89 : decode cX1_howManyWaits 89 = .ok (.ireturn, 1) := by decide +kernel
theorem dX1_nextOf_0 : decode cX1_nextOf 0 = .ok (.iconst 1, 1) := by decide +kernel
theorem dX1_nextOf_1 : decode cX1_nextOf 1 = .ok (.iload_n 1, 1) := by decide +kernel
theorem dX1_nextOf_2 : decode cX1_nextOf 2 = .ok (.iconst 1, 1) := by decide +kernel
theorem dX1_nextOf_3 : decode cX1_nextOf 3 = .ok (.iadd, 1) := by decide +kernel
theorem dX1_nextOf_4 : decode cX1_nextOf 4 = .ok (.ishl, 1) := by decide +kernel
theorem dX1_nextOf_5 : decode cX1_nextOf 5 = .ok (.istore_n 2, 1) := by decide +kernel
theorem dX1_nextOf_6 : decode cX1_nextOf 6 = .ok (.aload_n 0, 1) := by decide +kernel
theorem dX1_nextOf_7 : decode cX1_nextOf 7 = .ok (.iload_n 1, 1) := by decide +kernel
theorem dX1_nextOf_8 : decode cX1_nextOf 8 = .ok (.invokevirtual 37, 3) := by decide +kernel
theorem dX1_nextOf_11 : decode cX1_nextOf 11 = .ok (.tableswitch 65 4 11 #[45, 45, 45, 55, 65, 63, 65, 63], 45) := by decide +kernel
theorem dX1_nextOf_56 : decode cX1_nextOf 56 = .ok (.iload_n 2, 1) := by decide +kernel
theorem dX1_nextOf_57 : decode cX1_nextOf 57 = .ok (.iconst 1, 1) := by decide +kernel
theorem dX1_nextOf_58 : decode cX1_nextOf 58 = .ok (.aload_n 0, 1) := by decide +kernel
theorem dX1_nextOf_59 : decode cX1_nextOf 59 = .ok (.iload_n 1, 1) := by decide +kernel
theorem dX1_nextOf_60 : decode cX1_nextOf 60 = .ok (.invokevirtual 43, 3) := by decide +kernel
theorem dX1_nextOf_63 : decode cX1_nextOf 63 = .ok (.ishl, 1) := by decide +kernel
theorem dX1_nextOf_64 : decode cX1_nextOf 64 = .ok (.ior, 1) := by decide +kernel
theorem dX1_nextOf_65 : decode cX1_nextOf 65 = .ok (.ireturn, 1) := by decide +kernel
theorem dX1_nextOf_66 : decode cX1_nextOf 66 = .ok (.iconst 1, 1) := by decide +kernel
theorem dX1_nextOf_67 : decode cX1_nextOf 67 = .ok (.aload_n 0, 1) := by decide +kernel
theorem dX1_nextOf_68 : decode cX1_nextOf 68 = .ok (.iload_n 1, 1) := by decide +kernel
theorem dX1_nextOf_69 : decode cX1_nextOf 69 = .ok (.invokevirtual 43, 3) := by decide +kernel
theorem dX1_nextOf_72 : decode cX1_nextOf 72 = .ok (.ishl, 1) := by decide +kernel
theorem dX1_nextOf_73 : decode cX1_nextOf 73 = .ok (.ireturn, 1) := by decide +kernel
theorem dX1_nextOf_74 : decode cX1_nextOf 74 = .ok (.iconst 0, 1) := by decide +kernel
theorem dX1_nextOf_75 : decode cX1_nextOf 75 = .ok (.ireturn, 1) := by decide +kernel
theorem dX1_nextOf_76 : decode cX1_nextOf 76 = .ok (.iload_n 2, 1) := by decide +kernel
theorem dX1_nextOf_77 : decode cX1_nextOf 77 = .ok (.ireturn, 1) := by decide +kernel
theorem dX1_isWait_0 : decode cX1_isWait 0 = .ok (.iload_n 0, 1) := by decide +kernel
theorem dX1_isWait_1 : decode cX1_isWait 1 = .ok (.iconst 3, 1) := by decide +kernel
theorem dX1_isWait_2 : decode cX1_isWait 2 = .ok (.if_icmp .eq 21, 3) := by decide +kernel
theorem dX1_isWait_5 : decode cX1_isWait 5 = .ok (.iload_n 0, 1) := by decide +kernel
theorem dX1_isWait_6 : decode cX1_isWait 6 = .ok (.bipush 10, 2) := by decide +kernel
theorem dX1_isWait_8 : decode cX1_isWait 8 = .ok (.if_icmp .eq 15, 3) := by decide +kernel
theorem dX1_isWait_11 : decode cX1_isWait 11 = .ok (.iload_n 0, 1) := by decide +kernel
theorem dX1_isWait_12 : decode cX1_isWait 12 = .ok (.bipush 12, 2) := by decide +kernel
theorem dX1_isWait_14 : decode cX1_isWait 14 = .ok (.if_icmp .eq 9, 3) := by decide +kernel
theorem dX1_isWait_17 : decode cX1_isWait 17 = .ok (.iload_n 0, 1) := by decide +kernel
theorem dX1_isWait_18 : decode cX1_isWait 18 = .ok (.bipush 13, 2) := by decide +kernel
theorem dX1_isWait_20 : decode cX1_isWait 20 = .ok (.if_icmp .ne 7, 3) := by decide +kernel
theorem dX1_isWait_23 : decode cX1_isWait 23 = .ok (.iconst 1, 1) := by decide +kernel
theorem dX1_isWait_24 : decode cX1_isWait 24 = .ok (.goto 4, 3) := by decide +kernel
theorem dX1_isWait_27 : decode cX1_isWait 27 = .ok (.iconst 0, 1) := by decide +kernel
theorem dX1_isWait_28 : decode cX1_isWait 28 = .ok (.ireturn, 1) := by decide +kernel
theorem dX2_init_0 : decode cX2_init 0 = .ok (.aload_n 0, 1) := by decide +kernel
theorem dX2_init_1 : decode cX2_init 1 = .ok (.invokespecial 3, 3) := by decide +kernel
theorem dX2_init_4 : decode cX2_init 4 = .ok (.aload_n 0, 1) := by decide +kernel
theorem dX2_init_5 : decode cX2_init 5 = .ok (.iconst 4, 1) := by decide +kernel
theorem dX2_init_6 : decode cX2_init 6 = .ok (.newarray .int, 2) := by decide +kernel
theorem dX2_init_8 : decode cX2_init 8 = .ok (.putfield 9, 3) := by decide +kernel
theorem dX2_init_11 : decode cX2_init 11 = .ok (.aload_n 0, 1) := by decide +kernel
theorem dX2_init_12 : decode cX2_init 12 = .ok (.new 15, 3) := by decide +kernel
theorem dX2_init_15 : decode cX2_init 15 = .ok (.dup, 1) := by decide +kernel
theorem dX2_init_16 : decode cX2_init 16 = .ok (.invokespecial 17, 3) := by decide +kernel
theorem dX2_init_19 : decode cX2_init 19 = .ok (.putfield 18, 3) := by decide +kernel
theorem dX2_init_22 : decode cX2_init 22 = .ok (.aload_n 0, 1) := by decide +kernel
theorem dX2_init_23 : decode cX2_init 23 = .ok (.iload_n 1, 1) := by decide +kernel
theorem dX2_init_24 : decode cX2_init 24 = .ok (.putfield 22, 3) := by decide +kernel
theorem dX2_init_27 : decode cX2_init 27 = .ok (.return_, 1) := by decide +kernel
theorem dX2_becomeNew_0 : decode cX2_becomeNew 0 = .ok (.iconst 0, 1) := by decide +kernel
theorem dX2_becomeNew_1 : decode cX2_becomeNew 1 = .ok (.istore 4, 2) := by decide +kernel
theorem dX2_becomeNew_3 : decode cX2_becomeNew 3 = .ok (.iload 4, 2) := by decide +kernel
theorem dX2_becomeNew_5 : decode cX2_becomeNew 5 = .ok (.iconst 4, 1) := by decide +kernel
theorem dX2_becomeNew_6 : decode cX2_becomeNew 6 = .ok (.if_icmp .ge 17, 3) := by decide +kernel
theorem dX2_becomeNew_9 : decode cX2_becomeNew 9 = .ok (.aload_n 0, 1) := by decide +kernel
theorem dX2_becomeNew_10 : decode cX2_becomeNew 10 = .ok (.getfield 9, 3) := by decide +kernel
theorem dX2_becomeNew_13 : decode cX2_becomeNew 13 = .ok (.iload 4, 2) := by decide +kernel
theorem dX2_becomeNew_15 : decode cX2_becomeNew 15 = .ok (.iconst 0, 1) := by decide +kernel
theorem dX2_becomeNew_16 : decode cX2_becomeNew 16 = .ok (.iastore, 1) := by decide +kernel
theorem dX2_becomeNew_17 : decode cX2_becomeNew 17 = .ok (.iinc 4 1, 3) := by decide +kernel
theorem dX2_becomeNew_20 : decode cX2_becomeNew 20 = .ok (.goto (-17), 3) := by decide +kernel
theorem dX2_becomeNew_23 : decode cX2_becomeNew 23 = .ok (.aload_n 0, 1) := by decide +kernel
theorem dX2_becomeNew_24 : decode cX2_becomeNew 24 = .ok (.getfield 18, 3) := by decide +kernel
theorem dX2_becomeNew_27 : decode cX2_becomeNew 27 = .ok (.iconst 0, 1) := by decide +kernel
theorem dX2_becomeNew_28 : decode cX2_becomeNew 28 = .ok (.putfield 26, 3) := by decide +kernel
theorem dX2_becomeNew_31 : decode cX2_becomeNew 31 = .ok (.aload_n 0, 1) := by decide +kernel
theorem dX2_becomeNew_32 : decode cX2_becomeNew 32 = .ok (.iload_n 1, 1) := by decide +kernel
theorem dX2_becomeNew_33 : decode cX2_becomeNew 33 = .ok (.putfield 29, 3) := by decide +kernel
theorem dX2_becomeNew_36 : decode cX2_becomeNew 36 = .ok (.aload_n 0, 1) := by decide +kernel
theorem dX2_becomeNew_37 : decode cX2_becomeNew 37 = .ok (.iload_n 2, 1) := by decide +kernel
theorem dX2_becomeNew_38 : decode cX2_becomeNew 38 = .ok (.putfield 32, 3) := by decide +kernel
theorem dX2_becomeNew_41 : decode cX2_becomeNew 41 = .ok (.aload_n 0, 1) := by decide +kernel
theorem dX2_becomeNew_42 : decode cX2_becomeNew 42 = .ok (.iconst 0, 1) := by decide +kernel
theorem dX2_becomeNew_43 : decode cX2_becomeNew 43 = .ok (.putfield 35, 3) := by decide +kernel
theorem dX2_becomeNew_46 : decode cX2_becomeNew 46 = .ok (.aload_n 0, 1) := by decide +kernel
theorem dX2_becomeNew_47 : decode cX2_becomeNew 47 = .ok (.iconst 0, 1) := by decide +kernel
theorem dX2_becomeNew_48 : decode cX2_becomeNew 48 = .ok (.putfield 38, 3) := by decide +kernel
theorem dX2_becomeNew_51 : decode cX2_becomeNew 51 = .ok (.aload_n 0, 1) := by decide +kernel
theorem dX2_becomeNew_52 : decode cX2_becomeNew 52 = .ok (.iconst 0, 1) := by decide +kernel
theorem dX2_becomeNew_53 : decode cX2_becomeNew 53 = .ok (.putfield 41, 3) := by decide +kernel
theorem dX2_becomeNew_56 : decode cX2_becomeNew 56 = .ok (.aload_n 0, 1) := by decide +kernel
theorem dX2_becomeNew_57 : decode cX2_becomeNew 57 = .ok (.iconst (-1), 1) := by decide +kernel
theorem dX2_becomeNew_58 : decode cX2_becomeNew 58 = .ok (.putfield 44, 3) := by decide +kernel
theorem dX2_becomeNew_61 : decode cX2_becomeNew 61 = .ok (.aload_n 0, 1) := by decide +kernel
theorem dX2_becomeNew_62 : decode cX2_becomeNew 62 = .ok (.iconst (-1), 1) := by decide +kernel
theorem dX2_becomeNew_63 : decode cX2_becomeNew 63 = .ok (.putfield 47, 3) := by decide +kernel
theorem dX2_becomeNew_66 : decode cX2_becomeNew 66 = .ok (.aload_n 0, 1) := by decide +kernel
theorem dX2_becomeNew_67 : decode cX2_becomeNew 67 = .ok (.iconst 0, 1) := by decide +kernel
theorem dX2_becomeNew_68 : decode cX2_becomeNew 68 = .ok (.putfield 50, 3) := by decide +kernel
theorem dX2_becomeNew_71 : decode cX2_becomeNew 71 = .ok (.aload_n 0, 1) := by decide +kernel
theorem dX2_becomeNew_72 : decode cX2_becomeNew 72 = .ok (.iconst (-1), 1) := by decide +kernel
theorem dX2_becomeNew_73 : decode cX2_becomeNew 73 = .ok (.putfield 53, 3) := by decide +kernel
theorem dX2_becomeNew_76 : decode cX2_becomeNew 76 = .ok (.aload_n 0, 1) := by decide +kernel
theorem dX2_becomeNew_77 : decode cX2_becomeNew 77 = .ok (.iconst (-1), 1) := by decide +kernel
theorem dX2_becomeNew_78 : decode cX2_becomeNew 78 = .ok (.putfield 56, 3) := by decide +kernel
theorem dX2_becomeNew_81 : decode cX2_becomeNew 81 = .ok (.aload_n 0, 1) := by decide +kernel
theorem dX2_becomeNew_82 : decode cX2_becomeNew 82 = .ok (.iconst 0, 1) := by decide +kernel
theorem dX2_becomeNew_83 : decode cX2_becomeNew 83 = .ok (.putfield 59, 3) := by decide +kernel
theorem dX2_becomeNew_86 : decode cX2_becomeNew 86 = .ok (.aload_n 0, 1) := by decide +kernel
theorem dX2_becomeNew_87 : decode cX2_becomeNew 87 = .ok (.iconst 0, 1) := by decide +kernel
theorem dX2_becomeNew_88 : decode cX2_becomeNew 88 = .ok (.putfield 62, 3) := by decide +kernel
theorem dX2_becomeNew_91 : decode cX2_becomeNew 91 = .ok (.aload_n 0, 1) := by decide +kernel
theorem dX2_becomeNew_92 : decode cX2_becomeNew 92 = .ok (.iload_n 3, 1) := by decide +kernel
theorem dX2_becomeNew_93 : decode cX2_becomeNew 93 = .ok (.putfield 66, 3) := by decide +kernel
theorem dX2_becomeNew_96 : decode cX2_becomeNew 96 = .ok (.return_, 1) := by decide +kernel
theorem dX2_copyFrom_0 : decode cX2_copyFrom 0 = .ok (.aload_n 1, 1) := by decide +kernel
theorem dX2_copyFrom_1 : decode cX2_copyFrom 1 = .ok (.getfield 9, 3) := by decide +kernel
theorem dX2_copyFrom_4 : decode cX2_copyFrom 4 = .ok (.iconst 0, 1) := by decide +kernel
theorem dX2_copyFrom_5 : decode cX2_copyFrom 5 = .ok (.aload_n 0, 1) := by decide +kernel
theorem dX2_copyFrom_6 : decode cX2_copyFrom 6 = .ok (.getfield 9, 3) := by decide +kernel
theorem dX2_copyFrom_9 : decode cX2_copyFrom 9 = .ok (.iconst 0, 1) := by decide +kernel
theorem dX2_copyFrom_10 : decode cX2_copyFrom 10 = .ok (.iconst 4, 1) := by decide +kernel
theorem dX2_copyFrom_11 : decode cX2_copyFrom 11 = .ok (.invokestatic 69, 3) := by decide +kernel
theorem dX2_copyFrom_14 : decode cX2_copyFrom 14 = .ok (.aload_n 0, 1) := by decide +kernel
theorem dX2_copyFrom_15 : decode cX2_copyFrom 15 = .ok (.getfield 18, 3) := by decide +kernel
theorem dX2_copyFrom_18 : decode cX2_copyFrom 18 = .ok (.aload_n 1, 1) := by decide +kernel
theorem dX2_copyFrom_19 : decode cX2_copyFrom 19 = .ok (.getfield 18, 3) := by decide +kernel
theorem dX2_copyFrom_22 : decode cX2_copyFrom 22 = .ok (.invokevirtual 75, 3) := by decide +kernel
theorem dX2_copyFrom_25 : decode cX2_copyFrom 25 = .ok (.aload_n 0, 1) := by decide +kernel
theorem dX2_copyFrom_26 : decode cX2_copyFrom 26 = .ok (.aload_n 1, 1) := by decide +kernel
theorem dX2_copyFrom_27 : decode cX2_copyFrom 27 = .ok (.getfield 29, 3) := by decide +kernel
theorem dX2_copyFrom_30 : decode cX2_copyFrom 30 = .ok (.putfield 29, 3) := by decide +kernel
theorem dX2_copyFrom_33 : decode cX2_copyFrom 33 = .ok (.aload_n 0, 1) := by decide +kernel
theorem dX2_copyFrom_34 : decode cX2_copyFrom 34 = .ok (.aload_n 1, 1) := by decide +kernel
theorem dX2_copyFrom_35 : decode cX2_copyFrom 35 = .ok (.getfield 32, 3) := by decide +kernel
theorem dX2_copyFrom_38 : decode cX2_copyFrom 38 = .ok (.putfield 32, 3) := by decide +kernel
theorem dX2_copyFrom_41 : decode cX2_copyFrom 41 = .ok (.aload_n 0, 1) := by decide +kernel
theorem dX2_copyFrom_42 : decode cX2_copyFrom 42 = .ok (.aload_n 1, 1) := by decide +kernel
theorem dX2_copyFrom_43 : decode cX2_copyFrom 43 = .ok (.getfield 35, 3) := by decide +kernel
theorem dX2_copyFrom_46 : decode cX2_copyFrom 46 = .ok (.putfield 35, 3) := by decide +kernel
theorem dX2_copyFrom_49 : decode cX2_copyFrom 49 = .ok (.aload_n 0, 1) := by decide +kernel
theorem dX2_copyFrom_50 : decode cX2_copyFrom 50 = .ok (.aload_n 1, 1) := by decide +kernel
theorem dX2_copyFrom_51 : decode cX2_copyFrom 51 = .ok (.getfield 38, 3) := by decide +kernel
theorem dX2_copyFrom_54 : decode cX2_copyFrom 54 = .ok (.putfield 38, 3) := by decide +kernel
theorem dX2_copyFrom_57 : decode cX2_copyFrom 57 = .ok (.aload_n 0, 1) := by decide +kernel
theorem dX2_copyFrom_58 : decode cX2_copyFrom 58 = .ok (.aload_n 1, 1) := by decide +kernel
theorem dX2_copyFrom_59 : decode cX2_copyFrom 59 = .ok (.getfield 41, 3) := by decide +kernel
theorem dX2_copyFrom_62 : decode cX2_copyFrom 62 = .ok (.putfield 41, 3) := by decide +kernel
theorem dX2_copyFrom_65 : decode cX2_copyFrom 65 = .ok (.aload_n 0, 1) := by decide +kernel
theorem dX2_copyFrom_66 : decode cX2_copyFrom 66 = .ok (.aload_n 1, 1) := by decide +kernel
theorem dX2_copyFrom_67 : decode cX2_copyFrom 67 = .ok (.getfield 44, 3) := by decide +kernel
theorem dX2_copyFrom_70 : decode cX2_copyFrom 70 = .ok (.putfield 44, 3) := by decide +kernel
theorem dX2_copyFrom_73 : decode cX2_copyFrom 73 = .ok (.aload_n 0, 1) := by decide +kernel
theorem dX2_copyFrom_74 : decode cX2_copyFrom 74 = .ok (.aload_n 1, 1) := by decide +kernel
theorem dX2_copyFrom_75 : decode cX2_copyFrom 75 = .ok (.getfield 47, 3) := by decide +kernel
theorem dX2_copyFrom_78 : decode cX2_copyFrom 78 = .ok (.putfield 47, 3) := by decide +kernel
theorem dX2_copyFrom_81 : decode cX2_copyFrom 81 = .ok (.aload_n 0, 1) := by decide +kernel
theorem dX2_copyFrom_82 : decode cX2_copyFrom 82 = .ok (.aload_n 1, 1) := by decide +kernel
theorem dX2_copyFrom_83 : decode cX2_copyFrom 83 = .ok (.getfield 50, 3) := by decide +kernel
theorem dX2_copyFrom_86 : decode cX2_copyFrom 86 = .ok (.putfield 50, 3) := by decide +kernel
theorem dX2_copyFrom_89 : decode cX2_copyFrom 89 = .ok (.aload_n 0, 1) := by decide +kernel
theorem dX2_copyFrom_90 : decode cX2_copyFrom 90 = .ok (.aload_n 1, 1) := by decide +kernel
theorem dX2_copyFrom_91 : decode cX2_copyFrom 91 = .ok (.getfield 53, 3) := by decide +kernel
theorem dX2_copyFrom_94 : decode cX2_copyFrom 94 = .ok (.putfield 53, 3) := by decide +kernel
theorem dX2_copyFrom_97 : decode cX2_copyFrom 97 = .ok (.aload_n 0, 1) := by decide +kernel
theorem dX2_copyFrom_98 : decode cX2_copyFrom 98 = .ok (.aload_n 1, 1) := by decide +kernel
theorem dX2_copyFrom_99 : decode cX2_copyFrom 99 = .ok (.getfield 56, 3) := by decide +kernel
theorem dX2_copyFrom_102 : decode cX2_copyFrom 102 = .ok (.putfield 56, 3) := by decide +kernel
theorem dX2_copyFrom_105 : decode cX2_copyFrom 105 = .ok (.aload_n 0, 1) := by decide +kernel
theorem dX2_copyFrom_106 : decode cX2_copyFrom 106 = .ok (.aload_n 1, 1) := by decide +kernel
theorem dX2_copyFrom_107 : decode cX2_copyFrom 107 = .ok (.getfield 59, 3) := by decide +kernel
theorem dX2_copyFrom_110 : decode cX2_copyFrom 110 = .ok (.putfield 59, 3) := by decide +kernel
theorem dX2_copyFrom_113 : decode cX2_copyFrom 113 = .ok (.aload_n 0, 1) := by decide +kernel
theorem dX2_copyFrom_114 : decode cX2_copyFrom 114 = .ok (.aload_n 1, 1) := by decide +kernel
theorem dX2_copyFrom_115 : decode cX2_copyFrom 115 = .ok (.getfield 62, 3) := by decide +kernel
theorem dX2_copyFrom_118 : decode cX2_copyFrom 118 = .ok (.putfield 62, 3) := by decide +kernel
theorem dX2_copyFrom_121 : decode cX2_copyFrom 121 = .ok (.aload_n 0, 1) := by decide +kernel
theorem dX2_copyFrom_122 : decode cX2_copyFrom 122 = .ok (.aload_n 1, 1) := by decide +kernel
theorem dX2_copyFrom_123 : decode cX2_copyFrom 123 = .ok (.getfield 66, 3) := by decide +kernel
theorem dX2_copyFrom_126 : decode cX2_copyFrom 126 = .ok (.putfield 66, 3) := by decide +kernel
theorem dX2_copyFrom_129 : decode cX2_copyFrom 129 = .ok (.return_, 1) := by decide +kernel
theorem dX2_isOver_0 : decode cX2_isOver 0 = .ok (.aload_n 0, 1) := by decide +kernel
theorem dX2_isOver_1 : decode cX2_isOver 1 = .ok (.getfield 35, 3) := by decide +kernel
theorem dX2_isOver_4 : decode cX2_isOver 4 = .ok (.iconst 3, 1) := by decide +kernel
theorem dX2_isOver_5 : decode cX2_isOver 5 = .ok (.if_icmp .eq 11, 3) := by decide +kernel
theorem dX2_isOver_8 : decode cX2_isOver 8 = .ok (.aload_n 0, 1) := by decide +kernel
theorem dX2_isOver_9 : decode cX2_isOver 9 = .ok (.getfield 35, 3) := by decide +kernel
theorem dX2_isOver_12 : decode cX2_isOver 12 = .ok (.iconst 4, 1) := by decide +kernel
theorem dX2_isOver_13 : decode cX2_isOver 13 = .ok (.if_icmp .ne 7, 3) := by decide +kernel
theorem dX2_isOver_16 : decode cX2_isOver 16 = .ok (.iconst 1, 1) := by decide +kernel
theorem dX2_isOver_17 : decode cX2_isOver 17 = .ok (.goto 4, 3) := by decide +kernel
theorem dX2_isOver_20 : decode cX2_isOver 20 = .ok (.iconst 0, 1) := by decide +kernel
theorem dX2_isOver_21 : decode cX2_isOver 21 = .ok (.ireturn, 1) := by decide +kernel
theorem dX2_localAt_0 : decode cX2_localAt 0 = .ok (.iload_n 1, 1) := by decide +kernel
theorem dX2_localAt_1 : decode cX2_localAt 1 = .ok (.ifCond .lt 17, 3) := by decide +kernel
theorem dX2_localAt_4 : decode cX2_localAt 4 = .ok (.iload_n 1, 1) := by decide +kernel
theorem dX2_localAt_5 : decode cX2_localAt 5 = .ok (.iconst 4, 1) := by decide +kernel
theorem dX2_localAt_6 : decode cX2_localAt 6 = .ok (.if_icmp .ge 12, 3) := by decide +kernel
theorem dX2_localAt_9 : decode cX2_localAt 9 = .ok (.aload_n 0, 1) := by decide +kernel
theorem dX2_localAt_10 : decode cX2_localAt 10 = .ok (.getfield 9, 3) := by decide +kernel
theorem dX2_localAt_13 : decode cX2_localAt 13 = .ok (.iload_n 1, 1) := by decide +kernel
theorem dX2_localAt_14 : decode cX2_localAt 14 = .ok (.iaload, 1) := by decide +kernel
theorem dX2_localAt_15 : decode cX2_localAt 15 = .ok (.goto 4, 3) := by decide +kernel
theorem dX2_localAt_18 : decode cX2_localAt 18 = .ok (.iconst 0, 1) := by decide +kernel
theorem dX2_localAt_19 : decode cX2_localAt 19 = .ok (.ireturn, 1) := by decide +kernel
theorem dX2_setLocal_0 : decode cX2_setLocal 0 = .ok (.iload_n 1, 1) := by decide +kernel
theorem dX2_setLocal_1 : decode cX2_setLocal 1 = .ok (.ifCond .lt 15, 3) := by decide +kernel
theorem dX2_setLocal_4 : decode cX2_setLocal 4 = .ok (.iload_n 1, 1) := by decide +kernel
theorem dX2_setLocal_5 : decode cX2_setLocal 5 = .ok (.iconst 4, 1) := by decide +kernel
theorem dX2_setLocal_6 : decode cX2_setLocal 6 = .ok (.if_icmp .ge 10, 3) := by decide +kernel
theorem dX2_setLocal_9 : decode cX2_setLocal 9 = .ok (.aload_n 0, 1) := by decide +kernel
theorem dX2_setLocal_10 : decode cX2_setLocal 10 = .ok (.getfield 9, 3) := by decide +kernel
theorem dX2_setLocal_13 : decode cX2_setLocal 13 = .ok (.iload_n 1, 1) := by decide +kernel
theorem dX2_setLocal_14 : decode cX2_setLocal 14 = .ok (.iload_n 2, 1) := by decide +kernel
theorem dX2_setLocal_15 : decode cX2_setLocal 15 = .ok (.iastore, 1) := by decide +kernel
theorem dX2_setLocal_16 : decode cX2_setLocal 16 = .ok (.return_, 1) := by decide +kernel
theorem dX2_goOnAt_0 : decode cX2_goOnAt 0 = .ok (.aload_n 0, 1) := by decide +kernel
theorem dX2_goOnAt_1 : decode cX2_goOnAt 1 = .ok (.iconst 2, 1) := by decide +kernel
theorem dX2_goOnAt_2 : decode cX2_goOnAt 2 = .ok (.putfield 35, 3) := by decide +kernel
theorem dX2_goOnAt_5 : decode cX2_goOnAt 5 = .ok (.aload_n 0, 1) := by decide +kernel
theorem dX2_goOnAt_6 : decode cX2_goOnAt 6 = .ok (.iload_n 1, 1) := by decide +kernel
theorem dX2_goOnAt_7 : decode cX2_goOnAt 7 = .ok (.putfield 38, 3) := by decide +kernel
theorem dX2_goOnAt_10 : decode cX2_goOnAt 10 = .ok (.return_, 1) := by decide +kernel
theorem dX2_end_0 : decode cX2_end 0 = .ok (.aload_n 0, 1) := by decide +kernel
theorem dX2_end_1 : decode cX2_end 1 = .ok (.iload_n 1, 1) := by decide +kernel
theorem dX2_end_2 : decode cX2_end 2 = .ok (.putfield 35, 3) := by decide +kernel
theorem dX2_end_5 : decode cX2_end 5 = .ok (.aload_n 0, 1) := by decide +kernel
theorem dX2_end_6 : decode cX2_end 6 = .ok (.iload_n 2, 1) := by decide +kernel
theorem dX2_end_7 : decode cX2_end 7 = .ok (.putfield 41, 3) := by decide +kernel
theorem dX2_end_10 : decode cX2_end 10 = .ok (.return_, 1) := by decide +kernel
theorem dX2_beginReturn_0 : decode cX2_beginReturn 0 = .ok (.aload_n 0, 1) := by decide +kernel
theorem dX2_beginReturn_1 : decode cX2_beginReturn 1 = .ok (.aload_n 0, 1) := by decide +kernel
theorem dX2_beginReturn_2 : decode cX2_beginReturn 2 = .ok (.getfield 41, 3) := by decide +kernel
theorem dX2_beginReturn_5 : decode cX2_beginReturn 5 = .ok (.putfield 79, 3) := by decide +kernel
theorem dX2_beginReturn_8 : decode cX2_beginReturn 8 = .ok (.bipush (-4), 2) := by decide +kernel
theorem dX2_beginReturn_10 : decode cX2_beginReturn 10 = .ok (.ireturn, 1) := by decide +kernel
theorem dX2_leave_0 : decode cX2_leave 0 = .ok (.aload_n 0, 1) := by decide +kernel
theorem dX2_leave_1 : decode cX2_leave 1 = .ok (.getfield 18, 3) := by decide +kernel
theorem dX2_leave_4 : decode cX2_leave 4 = .ok (.getfield 26, 3) := by decide +kernel
theorem dX2_leave_7 : decode cX2_leave 7 = .ok (.istore_n 2, 1) := by decide +kernel
theorem dX2_leave_8 : decode cX2_leave 8 = .ok (.iload_n 2, 1) := by decide +kernel
theorem dX2_leave_9 : decode cX2_leave 9 = .ok (.ifCond .le 85, 3) := by decide +kernel
theorem dX2_leave_12 : decode cX2_leave 12 = .ok (.aload_n 0, 1) := by decide +kernel
theorem dX2_leave_13 : decode cX2_leave 13 = .ok (.getfield 18, 3) := by decide +kernel
theorem dX2_leave_16 : decode cX2_leave 16 = .ok (.invokevirtual 82, 3) := by decide +kernel
theorem dX2_leave_19 : decode cX2_leave 19 = .ok (.istore_n 3, 1) := by decide +kernel
theorem dX2_leave_20 : decode cX2_leave 20 = .ok (.aload_n 0, 1) := by decide +kernel
theorem dX2_leave_21 : decode cX2_leave 21 = .ok (.getfield 18, 3) := by decide +kernel
theorem dX2_leave_24 : decode cX2_leave 24 = .ok (.invokevirtual 86, 3) := by decide +kernel
theorem dX2_leave_27 : decode cX2_leave 27 = .ok (.istore 4, 2) := by decide +kernel
theorem dX2_leave_29 : decode cX2_leave 29 = .ok (.aload_n 0, 1) := by decide +kernel
theorem dX2_leave_30 : decode cX2_leave 30 = .ok (.getfield 18, 3) := by decide +kernel
theorem dX2_leave_33 : decode cX2_leave 33 = .ok (.invokevirtual 89, 3) := by decide +kernel
theorem dX2_leave_36 : decode cX2_leave 36 = .ok (.iload_n 3, 1) := by decide +kernel
theorem dX2_leave_37 : decode cX2_leave 37 = .ok (.bipush (-2), 2) := by decide +kernel
theorem dX2_leave_39 : decode cX2_leave 39 = .ok (.if_icmp .ne 22, 3) := by decide +kernel
theorem dX2_leave_42 : decode cX2_leave 42 = .ok (.aload_n 0, 1) := by decide +kernel
theorem dX2_leave_43 : decode cX2_leave 43 = .ok (.getfield 18, 3) := by decide +kernel
theorem dX2_leave_46 : decode cX2_leave 46 = .ok (.iload_n 1, 1) := by decide +kernel
theorem dX2_leave_47 : decode cX2_leave 47 = .ok (.aload_n 0, 1) := by decide +kernel
theorem dX2_leave_48 : decode cX2_leave 48 = .ok (.getfield 79, 3) := by decide +kernel
theorem dX2_leave_51 : decode cX2_leave 51 = .ok (.invokevirtual 92, 3) := by decide +kernel
theorem dX2_leave_54 : decode cX2_leave 54 = .ok (.aload_n 0, 1) := by decide +kernel
theorem dX2_leave_55 : decode cX2_leave 55 = .ok (.iload 4, 2) := by decide +kernel
theorem dX2_leave_57 : decode cX2_leave 57 = .ok (.invokevirtual 96, 3) := by decide +kernel
theorem dX2_leave_60 : decode cX2_leave 60 = .ok (.return_, 1) := by decide +kernel
theorem dX2_leave_61 : decode cX2_leave 61 = .ok (.iload_n 3, 1) := by decide +kernel
theorem dX2_leave_62 : decode cX2_leave 62 = .ok (.iconst (-1), 1) := by decide +kernel
theorem dX2_leave_63 : decode cX2_leave 63 = .ok (.if_icmp .ne 25, 3) := by decide +kernel
theorem dX2_leave_66 : decode cX2_leave 66 = .ok (.iload_n 1, 1) := by decide +kernel
theorem dX2_leave_67 : decode cX2_leave 67 = .ok (.iconst 1, 1) := by decide +kernel
theorem dX2_leave_68 : decode cX2_leave 68 = .ok (.bipush 9, 2) := by decide +kernel
theorem dX2_leave_70 : decode cX2_leave 70 = .ok (.invokestatic 100, 3) := by decide +kernel
theorem dX2_leave_73 : decode cX2_leave 73 = .ok (.ifCond .eq 15, 3) := by decide +kernel
theorem dX2_leave_76 : decode cX2_leave 76 = .ok (.aload_n 0, 1) := by decide +kernel
theorem dX2_leave_77 : decode cX2_leave 77 = .ok (.iload_n 1, 1) := by decide +kernel
theorem dX2_leave_78 : decode cX2_leave 78 = .ok (.putfield 41, 3) := by decide +kernel
theorem dX2_leave_81 : decode cX2_leave 81 = .ok (.aload_n 0, 1) := by decide +kernel
theorem dX2_leave_82 : decode cX2_leave 82 = .ok (.iload 4, 2) := by decide +kernel
theorem dX2_leave_84 : decode cX2_leave 84 = .ok (.invokevirtual 96, 3) := by decide +kernel
theorem dX2_leave_87 : decode cX2_leave 87 = .ok (.return_, 1) := by decide +kernel
theorem dX2_leave_88 : decode cX2_leave 88 = .ok (.iinc 2 (-1), 3) := by decide +kernel
theorem dX2_leave_91 : decode cX2_leave 91 = .ok (.goto (-83), 3) := by decide +kernel
theorem dX2_leave_94 : decode cX2_leave 94 = .ok (.iload_n 1, 1) := by decide +kernel
theorem dX2_leave_95 : decode cX2_leave 95 = .ok (.bipush (-4), 2) := by decide +kernel
theorem dX2_leave_97 : decode cX2_leave 97 = .ok (.if_icmp .ne 15, 3) := by decide +kernel
theorem dX2_leave_100 : decode cX2_leave 100 = .ok (.aload_n 0, 1) := by decide +kernel
theorem dX2_leave_101 : decode cX2_leave 101 = .ok (.iconst 3, 1) := by decide +kernel
theorem dX2_leave_102 : decode cX2_leave 102 = .ok (.aload_n 0, 1) := by decide +kernel
theorem dX2_leave_103 : decode cX2_leave 103 = .ok (.getfield 79, 3) := by decide +kernel
theorem dX2_leave_106 : decode cX2_leave 106 = .ok (.invokevirtual 104, 3) := by decide +kernel
theorem dX2_leave_109 : decode cX2_leave 109 = .ok (.goto 9, 3) := by decide +kernel
theorem dX2_leave_112 : decode cX2_leave 112 = .ok (.aload_n 0, 1) := by decide +kernel
theorem dX2_leave_113 : decode cX2_leave 113 = .ok (.iconst 4, 1) := by decide +kernel
theorem dX2_leave_114 : decode cX2_leave 114 = .ok (.iload_n 1, 1) := by decide +kernel
theorem dX2_leave_115 : decode cX2_leave 115 = .ok (.invokevirtual 104, 3) := by decide +kernel
theorem dX2_leave_118 : decode cX2_leave 118 = .ok (.return_, 1) := by decide +kernel
theorem dX2_doPlain_0 : decode cX2_doPlain 0 = .ok (.aload_n 0, 1) := by decide +kernel
theorem dX2_doPlain_1 : decode cX2_doPlain 1 = .ok (.getfield 38, 3) := by decide +kernel
theorem dX2_doPlain_4 : decode cX2_doPlain 4 = .ok (.iconst 1, 1) := by decide +kernel
theorem dX2_doPlain_5 : decode cX2_doPlain 5 = .ok (.iadd, 1) := by decide +kernel
theorem dX2_doPlain_6 : decode cX2_doPlain 6 = .ok (.istore 4, 2) := by decide +kernel
theorem dX2_doPlain_8 : decode cX2_doPlain 8 = .ok (.iload_n 1, 1) := by decide +kernel
theorem dX2_doPlain_9 : decode cX2_doPlain 9 = .ok (.tableswitch 211 0 11 #[63, 88, 100, 211, 112, 138, 156, 189, 199, 204, 211, 206], 63) := by decide +kernel
theorem dX2_doPlain_72 : decode cX2_doPlain 72 = .ok (.aload_n 0, 1) := by decide +kernel
theorem dX2_doPlain_73 : decode cX2_doPlain 73 = .ok (.sipush (-9999), 3) := by decide +kernel
theorem dX2_doPlain_76 : decode cX2_doPlain 76 = .ok (.sipush 9999, 3) := by decide +kernel
theorem dX2_doPlain_79 : decode cX2_doPlain 79 = .ok (.aload_n 0, 1) := by decide +kernel
theorem dX2_doPlain_80 : decode cX2_doPlain 80 = .ok (.getfield 41, 3) := by decide +kernel
theorem dX2_doPlain_83 : decode cX2_doPlain 83 = .ok (.iload_n 2, 1) := by decide +kernel
theorem dX2_doPlain_84 : decode cX2_doPlain 84 = .ok (.iadd, 1) := by decide +kernel
theorem dX2_doPlain_85 : decode cX2_doPlain 85 = .ok (.invokestatic 107, 3) := by decide +kernel
theorem dX2_doPlain_88 : decode cX2_doPlain 88 = .ok (.invokestatic 113, 3) := by decide +kernel
theorem dX2_doPlain_91 : decode cX2_doPlain 91 = .ok (.putfield 41, 3) := by decide +kernel
theorem dX2_doPlain_94 : decode cX2_doPlain 94 = .ok (.goto 126, 3) := by decide +kernel
theorem dX2_doPlain_97 : decode cX2_doPlain 97 = .ok (.aload_n 0, 1) := by decide +kernel
theorem dX2_doPlain_98 : decode cX2_doPlain 98 = .ok (.aload_n 0, 1) := by decide +kernel
theorem dX2_doPlain_99 : decode cX2_doPlain 99 = .ok (.iload_n 2, 1) := by decide +kernel
theorem dX2_doPlain_100 : decode cX2_doPlain 100 = .ok (.invokevirtual 116, 3) := by decide +kernel
theorem dX2_doPlain_103 : decode cX2_doPlain 103 = .ok (.putfield 41, 3) := by decide +kernel
theorem dX2_doPlain_106 : decode cX2_doPlain 106 = .ok (.goto 114, 3) := by decide +kernel
theorem dX2_doPlain_109 : decode cX2_doPlain 109 = .ok (.aload_n 0, 1) := by decide +kernel
theorem dX2_doPlain_110 : decode cX2_doPlain 110 = .ok (.iload_n 2, 1) := by decide +kernel
theorem dX2_doPlain_111 : decode cX2_doPlain 111 = .ok (.aload_n 0, 1) := by decide +kernel
theorem dX2_doPlain_112 : decode cX2_doPlain 112 = .ok (.getfield 41, 3) := by decide +kernel
theorem dX2_doPlain_115 : decode cX2_doPlain 115 = .ok (.invokevirtual 120, 3) := by decide +kernel
theorem dX2_doPlain_118 : decode cX2_doPlain 118 = .ok (.goto 102, 3) := by decide +kernel
theorem dX2_doPlain_121 : decode cX2_doPlain 121 = .ok (.aload_n 0, 1) := by decide +kernel
theorem dX2_doPlain_122 : decode cX2_doPlain 122 = .ok (.iload_n 2, 1) := by decide +kernel
theorem dX2_doPlain_123 : decode cX2_doPlain 123 = .ok (.invokevirtual 116, 3) := by decide +kernel
theorem dX2_doPlain_126 : decode cX2_doPlain 126 = .ok (.ifCond .le 94, 3) := by decide +kernel
theorem dX2_doPlain_129 : decode cX2_doPlain 129 = .ok (.aload_n 0, 1) := by decide +kernel
theorem dX2_doPlain_130 : decode cX2_doPlain 130 = .ok (.iload_n 2, 1) := by decide +kernel
theorem dX2_doPlain_131 : decode cX2_doPlain 131 = .ok (.aload_n 0, 1) := by decide +kernel
theorem dX2_doPlain_132 : decode cX2_doPlain 132 = .ok (.iload_n 2, 1) := by decide +kernel
theorem dX2_doPlain_133 : decode cX2_doPlain 133 = .ok (.invokevirtual 116, 3) := by decide +kernel
theorem dX2_doPlain_136 : decode cX2_doPlain 136 = .ok (.iconst 1, 1) := by decide +kernel
theorem dX2_doPlain_137 : decode cX2_doPlain 137 = .ok (.isub, 1) := by decide +kernel
theorem dX2_doPlain_138 : decode cX2_doPlain 138 = .ok (.invokevirtual 120, 3) := by decide +kernel
theorem dX2_doPlain_141 : decode cX2_doPlain 141 = .ok (.iload_n 3, 1) := by decide +kernel
theorem dX2_doPlain_142 : decode cX2_doPlain 142 = .ok (.istore 4, 2) := by decide +kernel
theorem dX2_doPlain_144 : decode cX2_doPlain 144 = .ok (.goto 76, 3) := by decide +kernel
theorem dX2_doPlain_147 : decode cX2_doPlain 147 = .ok (.aload_n 0, 1) := by decide +kernel
theorem dX2_doPlain_148 : decode cX2_doPlain 148 = .ok (.getfield 41, 3) := by decide +kernel
theorem dX2_doPlain_151 : decode cX2_doPlain 151 = .ok (.ifCond .gt 7, 3) := by decide +kernel
theorem dX2_doPlain_154 : decode cX2_doPlain 154 = .ok (.iload_n 3, 1) := by decide +kernel
theorem dX2_doPlain_155 : decode cX2_doPlain 155 = .ok (.goto 5, 3) := by decide +kernel
theorem dX2_doPlain_158 : decode cX2_doPlain 158 = .ok (.iload 4, 2) := by decide +kernel
theorem dX2_doPlain_160 : decode cX2_doPlain 160 = .ok (.istore 4, 2) := by decide +kernel
theorem dX2_doPlain_162 : decode cX2_doPlain 162 = .ok (.goto 58, 3) := by decide +kernel
theorem dX2_doPlain_165 : decode cX2_doPlain 165 = .ok (.aload_n 0, 1) := by decide +kernel
theorem dX2_doPlain_166 : decode cX2_doPlain 166 = .ok (.getfield 18, 3) := by decide +kernel
theorem dX2_doPlain_169 : decode cX2_doPlain 169 = .ok (.invokevirtual 123, 3) := by decide +kernel
theorem dX2_doPlain_172 : decode cX2_doPlain 172 = .ok (.ifCond .eq 5, 3) := by decide +kernel
theorem dX2_doPlain_175 : decode cX2_doPlain 175 = .ok (.iconst 5, 1) := by decide +kernel
theorem dX2_doPlain_176 : decode cX2_doPlain 176 = .ok (.ireturn, 1) := by decide +kernel
theorem dX2_doPlain_177 : decode cX2_doPlain 177 = .ok (.aload_n 0, 1) := by decide +kernel
theorem dX2_doPlain_178 : decode cX2_doPlain 178 = .ok (.getfield 18, 3) := by decide +kernel
theorem dX2_doPlain_181 : decode cX2_doPlain 181 = .ok (.iload_n 2, 1) := by decide +kernel
theorem dX2_doPlain_182 : decode cX2_doPlain 182 = .ok (.ifCond .ne 7, 3) := by decide +kernel
theorem dX2_doPlain_185 : decode cX2_doPlain 185 = .ok (.iconst (-1), 1) := by decide +kernel
theorem dX2_doPlain_186 : decode cX2_doPlain 186 = .ok (.goto 5, 3) := by decide +kernel
theorem dX2_doPlain_189 : decode cX2_doPlain 189 = .ok (.bipush (-2), 2) := by decide +kernel
theorem dX2_doPlain_191 : decode cX2_doPlain 191 = .ok (.iload_n 3, 1) := by decide +kernel
theorem dX2_doPlain_192 : decode cX2_doPlain 192 = .ok (.invokevirtual 92, 3) := by decide +kernel
theorem dX2_doPlain_195 : decode cX2_doPlain 195 = .ok (.goto 25, 3) := by decide +kernel
theorem dX2_doPlain_198 : decode cX2_doPlain 198 = .ok (.aload_n 0, 1) := by decide +kernel
theorem dX2_doPlain_199 : decode cX2_doPlain 199 = .ok (.iload_n 3, 1) := by decide +kernel
theorem dX2_doPlain_200 : decode cX2_doPlain 200 = .ok (.invokevirtual 127, 3) := by decide +kernel
theorem dX2_doPlain_203 : decode cX2_doPlain 203 = .ok (.istore 4, 2) := by decide +kernel
theorem dX2_doPlain_205 : decode cX2_doPlain 205 = .ok (.goto 15, 3) := by decide +kernel
theorem dX2_doPlain_208 : decode cX2_doPlain 208 = .ok (.aload_n 0, 1) := by decide +kernel
theorem dX2_doPlain_209 : decode cX2_doPlain 209 = .ok (.invokevirtual 130, 3) := by decide +kernel
theorem dX2_doPlain_212 : decode cX2_doPlain 212 = .ok (.ireturn, 1) := by decide +kernel
theorem dX2_doPlain_213 : decode cX2_doPlain 213 = .ok (.iload_n 2, 1) := by decide +kernel
theorem dX2_doPlain_214 : decode cX2_doPlain 214 = .ok (.ireturn, 1) := by decide +kernel
theorem dX2_doPlain_215 : decode cX2_doPlain 215 = .ok (.aload_n 0, 1) := by decide +kernel
theorem dX2_doPlain_216 : decode cX2_doPlain 216 = .ok (.invokevirtual 133, 3) := by decide +kernel
end
section
theorem dX2_doPlain_219 : decode cX2_doPlain 219 = .ok (.ireturn, 1) := by decide +kernel
theorem dX2_doPlain_220 : decode cX2_doPlain 220 = .ok (.aload_n 0, 1) := by decide +kernel
theorem dX2_doPlain_221 : decode cX2_doPlain 221 = .ok (.iload 4, 2) := by decide +kernel
theorem dX2_doPlain_223 : decode cX2_doPlain 223 = .ok (.putfield 38, 3) := by decide +kernel
theorem dX2_doPlain_226 : decode cX2_doPlain 226 = .ok (.iconst 0, 1) := by decide +kernel
theorem dX2_doPlain_227 : decode cX2_doPlain 227 = .ok (.ireturn, 1) := by decide +kernel
theorem dX2_doDone_0 : decode cX2_doDone 0 = .ok (.aload_n 0, 1) := by decide +kernel
theorem dX2_doDone_1 : decode cX2_doDone 1 = .ok (.getfield 18, 3) := by decide +kernel
theorem dX2_doDone_4 : decode cX2_doDone 4 = .ok (.invokevirtual 82, 3) := by decide +kernel
theorem dX2_doDone_7 : decode cX2_doDone 7 = .ok (.istore_n 2, 1) := by decide +kernel
theorem dX2_doDone_8 : decode cX2_doDone 8 = .ok (.iload_n 2, 1) := by decide +kernel
theorem dX2_doDone_9 : decode cX2_doDone 9 = .ok (.iconst (-1), 1) := by decide +kernel
theorem dX2_doDone_10 : decode cX2_doDone 10 = .ok (.if_icmp .eq 11, 3) := by decide +kernel
theorem dX2_doDone_13 : decode cX2_doDone 13 = .ok (.iload_n 2, 1) := by decide +kernel
theorem dX2_doDone_14 : decode cX2_doDone 14 = .ok (.bipush (-2), 2) := by decide +kernel
theorem dX2_doDone_16 : decode cX2_doDone 16 = .ok (.if_icmp .eq 5, 3) := by decide +kernel
theorem dX2_doDone_19 : decode cX2_doDone 19 = .ok (.iload_n 1, 1) := by decide +kernel
theorem dX2_doDone_20 : decode cX2_doDone 20 = .ok (.ireturn, 1) := by decide +kernel
theorem dX2_doDone_21 : decode cX2_doDone 21 = .ok (.aload_n 0, 1) := by decide +kernel
theorem dX2_doDone_22 : decode cX2_doDone 22 = .ok (.getfield 18, 3) := by decide +kernel
theorem dX2_doDone_25 : decode cX2_doDone 25 = .ok (.invokevirtual 86, 3) := by decide +kernel
theorem dX2_doDone_28 : decode cX2_doDone 28 = .ok (.istore_n 3, 1) := by decide +kernel
theorem dX2_doDone_29 : decode cX2_doDone 29 = .ok (.aload_n 0, 1) := by decide +kernel
theorem dX2_doDone_30 : decode cX2_doDone 30 = .ok (.getfield 18, 3) := by decide +kernel
theorem dX2_doDone_33 : decode cX2_doDone 33 = .ok (.invokevirtual 89, 3) := by decide +kernel
theorem dX2_doDone_36 : decode cX2_doDone 36 = .ok (.iload_n 2, 1) := by decide +kernel
theorem dX2_doDone_37 : decode cX2_doDone 37 = .ok (.iconst (-1), 1) := by decide +kernel
theorem dX2_doDone_38 : decode cX2_doDone 38 = .ok (.if_icmp .ne 5, 3) := by decide +kernel
theorem dX2_doDone_41 : decode cX2_doDone 41 = .ok (.iload_n 1, 1) := by decide +kernel
theorem dX2_doDone_42 : decode cX2_doDone 42 = .ok (.ireturn, 1) := by decide +kernel
theorem dX2_doDone_43 : decode cX2_doDone 43 = .ok (.aload_n 0, 1) := by decide +kernel
theorem dX2_doDone_44 : decode cX2_doDone 44 = .ok (.getfield 18, 3) := by decide +kernel
theorem dX2_doDone_47 : decode cX2_doDone 47 = .ok (.bipush (-3), 2) := by decide +kernel
theorem dX2_doDone_49 : decode cX2_doDone 49 = .ok (.iload_n 1, 1) := by decide +kernel
theorem dX2_doDone_50 : decode cX2_doDone 50 = .ok (.invokevirtual 92, 3) := by decide +kernel
theorem dX2_doDone_53 : decode cX2_doDone 53 = .ok (.iload_n 3, 1) := by decide +kernel
theorem dX2_doDone_54 : decode cX2_doDone 54 = .ok (.ireturn, 1) := by decide +kernel
theorem dX2_doLast_0 : decode cX2_doLast 0 = .ok (.aload_n 0, 1) := by decide +kernel
theorem dX2_doLast_1 : decode cX2_doLast 1 = .ok (.getfield 18, 3) := by decide +kernel
theorem dX2_doLast_4 : decode cX2_doLast 4 = .ok (.invokevirtual 82, 3) := by decide +kernel
theorem dX2_doLast_7 : decode cX2_doLast 7 = .ok (.istore_n 1, 1) := by decide +kernel
theorem dX2_doLast_8 : decode cX2_doLast 8 = .ok (.iload_n 1, 1) := by decide +kernel
theorem dX2_doLast_9 : decode cX2_doLast 9 = .ok (.ifCond .eq 14, 3) := by decide +kernel
theorem dX2_doLast_12 : decode cX2_doLast 12 = .ok (.iload_n 1, 1) := by decide +kernel
theorem dX2_doLast_13 : decode cX2_doLast 13 = .ok (.iconst (-1), 1) := by decide +kernel
theorem dX2_doLast_14 : decode cX2_doLast 14 = .ok (.if_icmp .eq 9, 3) := by decide +kernel
theorem dX2_doLast_17 : decode cX2_doLast 17 = .ok (.iload_n 1, 1) := by decide +kernel
theorem dX2_doLast_18 : decode cX2_doLast 18 = .ok (.bipush (-2), 2) := by decide +kernel
theorem dX2_doLast_20 : decode cX2_doLast 20 = .ok (.if_icmp .ne 15, 3) := by decide +kernel
theorem dX2_doLast_23 : decode cX2_doLast 23 = .ok (.aload_n 0, 1) := by decide +kernel
theorem dX2_doLast_24 : decode cX2_doLast 24 = .ok (.dup, 1) := by decide +kernel
theorem dX2_doLast_25 : decode cX2_doLast 25 = .ok (.getfield 38, 3) := by decide +kernel
theorem dX2_doLast_28 : decode cX2_doLast 28 = .ok (.iconst 1, 1) := by decide +kernel
theorem dX2_doLast_29 : decode cX2_doLast 29 = .ok (.iadd, 1) := by decide +kernel
theorem dX2_doLast_30 : decode cX2_doLast 30 = .ok (.putfield 38, 3) := by decide +kernel
theorem dX2_doLast_33 : decode cX2_doLast 33 = .ok (.iconst 0, 1) := by decide +kernel
theorem dX2_doLast_34 : decode cX2_doLast 34 = .ok (.ireturn, 1) := by decide +kernel
theorem dX2_doLast_35 : decode cX2_doLast 35 = .ok (.aload_n 0, 1) := by decide +kernel
theorem dX2_doLast_36 : decode cX2_doLast 36 = .ok (.getfield 18, 3) := by decide +kernel
theorem dX2_doLast_39 : decode cX2_doLast 39 = .ok (.invokevirtual 86, 3) := by decide +kernel
theorem dX2_doLast_42 : decode cX2_doLast 42 = .ok (.istore_n 2, 1) := by decide +kernel
theorem dX2_doLast_43 : decode cX2_doLast 43 = .ok (.aload_n 0, 1) := by decide +kernel
theorem dX2_doLast_44 : decode cX2_doLast 44 = .ok (.getfield 18, 3) := by decide +kernel
theorem dX2_doLast_47 : decode cX2_doLast 47 = .ok (.invokevirtual 89, 3) := by decide +kernel
theorem dX2_doLast_50 : decode cX2_doLast 50 = .ok (.iload_n 1, 1) := by decide +kernel
theorem dX2_doLast_51 : decode cX2_doLast 51 = .ok (.bipush (-3), 2) := by decide +kernel
theorem dX2_doLast_53 : decode cX2_doLast 53 = .ok (.if_icmp .ne 10, 3) := by decide +kernel
theorem dX2_doLast_56 : decode cX2_doLast 56 = .ok (.aload_n 0, 1) := by decide +kernel
theorem dX2_doLast_57 : decode cX2_doLast 57 = .ok (.iload_n 2, 1) := by decide +kernel
theorem dX2_doLast_58 : decode cX2_doLast 58 = .ok (.putfield 38, 3) := by decide +kernel
theorem dX2_doLast_61 : decode cX2_doLast 61 = .ok (.iconst 0, 1) := by decide +kernel
theorem dX2_doLast_62 : decode cX2_doLast 62 = .ok (.ireturn, 1) := by decide +kernel
theorem dX2_doLast_63 : decode cX2_doLast 63 = .ok (.aload_n 0, 1) := by decide +kernel
theorem dX2_doLast_64 : decode cX2_doLast 64 = .ok (.iload_n 2, 1) := by decide +kernel
theorem dX2_doLast_65 : decode cX2_doLast 65 = .ok (.putfield 79, 3) := by decide +kernel
theorem dX2_doLast_68 : decode cX2_doLast 68 = .ok (.iload_n 1, 1) := by decide +kernel
theorem dX2_doLast_69 : decode cX2_doLast 69 = .ok (.ireturn, 1) := by decide +kernel
theorem dX3_init_0 : decode cX3_init 0 = .ok (.aload_n 0, 1) := by decide +kernel
theorem dX3_init_1 : decode cX3_init 1 = .ok (.invokespecial 3, 3) := by decide +kernel
theorem dX3_init_4 : decode cX3_init 4 = .ok (.aload_n 0, 1) := by decide +kernel
theorem dX3_init_5 : decode cX3_init 5 = .ok (.bipush 24, 2) := by decide +kernel
theorem dX3_init_7 : decode cX3_init 7 = .ok (.anewarray 9, 3) := by decide +kernel
theorem dX3_init_10 : decode cX3_init 10 = .ok (.putfield 11, 3) := by decide +kernel
theorem dX3_init_13 : decode cX3_init 13 = .ok (.aload_n 0, 1) := by decide +kernel
theorem dX3_init_14 : decode cX3_init 14 = .ok (.new 9, 3) := by decide +kernel
theorem dX3_init_17 : decode cX3_init 17 = .ok (.dup, 1) := by decide +kernel
theorem dX3_init_18 : decode cX3_init 18 = .ok (.iconst (-1), 1) := by decide +kernel
theorem dX3_init_19 : decode cX3_init 19 = .ok (.invokespecial 17, 3) := by decide +kernel
theorem dX3_init_22 : decode cX3_init 22 = .ok (.putfield 20, 3) := by decide +kernel
theorem dX3_init_25 : decode cX3_init 25 = .ok (.aload_n 0, 1) := by decide +kernel
theorem dX3_init_26 : decode cX3_init 26 = .ok (.new 24, 3) := by decide +kernel
theorem dX3_init_29 : decode cX3_init 29 = .ok (.dup, 1) := by decide +kernel
theorem dX3_init_30 : decode cX3_init 30 = .ok (.invokespecial 26, 3) := by decide +kernel
theorem dX3_init_33 : decode cX3_init 33 = .ok (.putfield 27, 3) := by decide +kernel
theorem dX3_init_36 : decode cX3_init 36 = .ok (.aload_n 0, 1) := by decide +kernel
theorem dX3_init_37 : decode cX3_init 37 = .ok (.new 24, 3) := by decide +kernel
theorem dX3_init_40 : decode cX3_init 40 = .ok (.dup, 1) := by decide +kernel
theorem dX3_init_41 : decode cX3_init 41 = .ok (.invokespecial 26, 3) := by decide +kernel
theorem dX3_init_44 : decode cX3_init 44 = .ok (.putfield 31, 3) := by decide +kernel
theorem dX3_init_47 : decode cX3_init 47 = .ok (.aload_n 0, 1) := by decide +kernel
theorem dX3_init_48 : decode cX3_init 48 = .ok (.aload_n 1, 1) := by decide +kernel
theorem dX3_init_49 : decode cX3_init 49 = .ok (.putfield 34, 3) := by decide +kernel
theorem dX3_init_52 : decode cX3_init 52 = .ok (.iconst 0, 1) := by decide +kernel
theorem dX3_init_53 : decode cX3_init 53 = .ok (.istore_n 2, 1) := by decide +kernel
theorem dX3_init_54 : decode cX3_init 54 = .ok (.iload_n 2, 1) := by decide +kernel
theorem dX3_init_55 : decode cX3_init 55 = .ok (.bipush 24, 2) := by decide +kernel
theorem dX3_init_57 : decode cX3_init 57 = .ok (.if_icmp .ge 23, 3) := by decide +kernel
theorem dX3_init_60 : decode cX3_init 60 = .ok (.aload_n 0, 1) := by decide +kernel
theorem dX3_init_61 : decode cX3_init 61 = .ok (.getfield 11, 3) := by decide +kernel
theorem dX3_init_64 : decode cX3_init 64 = .ok (.iload_n 2, 1) := by decide +kernel
theorem dX3_init_65 : decode cX3_init 65 = .ok (.new 9, 3) := by decide +kernel
theorem dX3_init_68 : decode cX3_init 68 = .ok (.dup, 1) := by decide +kernel
theorem dX3_init_69 : decode cX3_init 69 = .ok (.iload_n 2, 1) := by decide +kernel
theorem dX3_init_70 : decode cX3_init 70 = .ok (.invokespecial 17, 3) := by decide +kernel
theorem dX3_init_73 : decode cX3_init 73 = .ok (.aastore, 1) := by decide +kernel
theorem dX3_init_74 : decode cX3_init 74 = .ok (.iinc 2 1, 3) := by decide +kernel
theorem dX3_init_77 : decode cX3_init 77 = .ok (.goto (-23), 3) := by decide +kernel
theorem dX3_init_80 : decode cX3_init 80 = .ok (.aload_n 0, 1) := by decide +kernel
theorem dX3_init_81 : decode cX3_init 81 = .ok (.aload_n 0, 1) := by decide +kernel
theorem dX3_init_82 : decode cX3_init 82 = .ok (.getfield 20, 3) := by decide +kernel
theorem dX3_init_85 : decode cX3_init 85 = .ok (.putfield 38, 3) := by decide +kernel
theorem dX3_init_88 : decode cX3_init 88 = .ok (.return_, 1) := by decide +kernel
theorem dX3_copyFrom_0 : decode cX3_copyFrom 0 = .ok (.aload_n 0, 1) := by decide +kernel
theorem dX3_copyFrom_1 : decode cX3_copyFrom 1 = .ok (.aload_n 1, 1) := by decide +kernel
theorem dX3_copyFrom_2 : decode cX3_copyFrom 2 = .ok (.getfield 41, 3) := by decide +kernel
theorem dX3_copyFrom_5 : decode cX3_copyFrom 5 = .ok (.putfield 41, 3) := by decide +kernel
theorem dX3_copyFrom_8 : decode cX3_copyFrom 8 = .ok (.aload_n 0, 1) := by decide +kernel
theorem dX3_copyFrom_9 : decode cX3_copyFrom 9 = .ok (.aload_n 1, 1) := by decide +kernel
theorem dX3_copyFrom_10 : decode cX3_copyFrom 10 = .ok (.getfield 45, 3) := by decide +kernel
theorem dX3_copyFrom_13 : decode cX3_copyFrom 13 = .ok (.putfield 45, 3) := by decide +kernel
theorem dX3_copyFrom_16 : decode cX3_copyFrom 16 = .ok (.aload_n 0, 1) := by decide +kernel
theorem dX3_copyFrom_17 : decode cX3_copyFrom 17 = .ok (.aload_n 1, 1) := by decide +kernel
theorem dX3_copyFrom_18 : decode cX3_copyFrom 18 = .ok (.getfield 48, 3) := by decide +kernel
theorem dX3_copyFrom_21 : decode cX3_copyFrom 21 = .ok (.putfield 48, 3) := by decide +kernel
theorem dX3_copyFrom_24 : decode cX3_copyFrom 24 = .ok (.aload_n 0, 1) := by decide +kernel
theorem dX3_copyFrom_25 : decode cX3_copyFrom 25 = .ok (.getfield 27, 3) := by decide +kernel
theorem dX3_copyFrom_28 : decode cX3_copyFrom 28 = .ok (.aload_n 1, 1) := by decide +kernel
theorem dX3_copyFrom_29 : decode cX3_copyFrom 29 = .ok (.getfield 27, 3) := by decide +kernel
theorem dX3_copyFrom_32 : decode cX3_copyFrom 32 = .ok (.invokevirtual 51, 3) := by decide +kernel
theorem dX3_copyFrom_35 : decode cX3_copyFrom 35 = .ok (.aload_n 0, 1) := by decide +kernel
theorem dX3_copyFrom_36 : decode cX3_copyFrom 36 = .ok (.getfield 31, 3) := by decide +kernel
theorem dX3_copyFrom_39 : decode cX3_copyFrom 39 = .ok (.aload_n 1, 1) := by decide +kernel
theorem dX3_copyFrom_40 : decode cX3_copyFrom 40 = .ok (.getfield 31, 3) := by decide +kernel
theorem dX3_copyFrom_43 : decode cX3_copyFrom 43 = .ok (.invokevirtual 51, 3) := by decide +kernel
theorem dX3_copyFrom_46 : decode cX3_copyFrom 46 = .ok (.iconst 0, 1) := by decide +kernel
theorem dX3_copyFrom_47 : decode cX3_copyFrom 47 = .ok (.istore_n 2, 1) := by decide +kernel
theorem dX3_copyFrom_48 : decode cX3_copyFrom 48 = .ok (.iload_n 2, 1) := by decide +kernel
theorem dX3_copyFrom_49 : decode cX3_copyFrom 49 = .ok (.aload_n 0, 1) := by decide +kernel
theorem dX3_copyFrom_50 : decode cX3_copyFrom 50 = .ok (.getfield 41, 3) := by decide +kernel
theorem dX3_copyFrom_53 : decode cX3_copyFrom 53 = .ok (.if_icmp .ge 22, 3) := by decide +kernel
theorem dX3_copyFrom_56 : decode cX3_copyFrom 56 = .ok (.aload_n 0, 1) := by decide +kernel
theorem dX3_copyFrom_57 : decode cX3_copyFrom 57 = .ok (.iload_n 2, 1) := by decide +kernel
theorem dX3_copyFrom_58 : decode cX3_copyFrom 58 = .ok (.invokevirtual 55, 3) := by decide +kernel
theorem dX3_copyFrom_61 : decode cX3_copyFrom 61 = .ok (.aload_n 1, 1) := by decide +kernel
theorem dX3_copyFrom_62 : decode cX3_copyFrom 62 = .ok (.iload_n 2, 1) := by decide +kernel
theorem dX3_copyFrom_63 : decode cX3_copyFrom 63 = .ok (.invokevirtual 55, 3) := by decide +kernel
theorem dX3_copyFrom_66 : decode cX3_copyFrom 66 = .ok (.invokevirtual 59, 3) := by decide +kernel
theorem dX3_copyFrom_69 : decode cX3_copyFrom 69 = .ok (.iinc 2 1, 3) := by decide +kernel
theorem dX3_copyFrom_72 : decode cX3_copyFrom 72 = .ok (.goto (-24), 3) := by decide +kernel
theorem dX3_copyFrom_75 : decode cX3_copyFrom 75 = .ok (.return_, 1) := by decide +kernel
theorem dX3_isMade_0 : decode cX3_isMade 0 = .ok (.iload_n 1, 1) := by decide +kernel
theorem dX3_isMade_1 : decode cX3_isMade 1 = .ok (.ifCond .lt 15, 3) := by decide +kernel
theorem dX3_isMade_4 : decode cX3_isMade 4 = .ok (.iload_n 1, 1) := by decide +kernel
theorem dX3_isMade_5 : decode cX3_isMade 5 = .ok (.aload_n 0, 1) := by decide +kernel
theorem dX3_isMade_6 : decode cX3_isMade 6 = .ok (.getfield 41, 3) := by decide +kernel
theorem dX3_isMade_9 : decode cX3_isMade 9 = .ok (.if_icmp .ge 7, 3) := by decide +kernel
theorem dX3_isMade_12 : decode cX3_isMade 12 = .ok (.iconst 1, 1) := by decide +kernel
theorem dX3_isMade_13 : decode cX3_isMade 13 = .ok (.goto 4, 3) := by decide +kernel
theorem dX3_isMade_16 : decode cX3_isMade 16 = .ok (.iconst 0, 1) := by decide +kernel
theorem dX3_isMade_17 : decode cX3_isMade 17 = .ok (.ireturn, 1) := by decide +kernel
theorem dX3_has_0 : decode cX3_has 0 = .ok (.iload_n 1, 1) := by decide +kernel
theorem dX3_has_1 : decode cX3_has 1 = .ok (.ifCond .lt 27, 3) := by decide +kernel
theorem dX3_has_4 : decode cX3_has 4 = .ok (.iload_n 1, 1) := by decide +kernel
theorem dX3_has_5 : decode cX3_has 5 = .ok (.aload_n 0, 1) := by decide +kernel
theorem dX3_has_6 : decode cX3_has 6 = .ok (.getfield 41, 3) := by decide +kernel
theorem dX3_has_9 : decode cX3_has 9 = .ok (.if_icmp .ge 19, 3) := by decide +kernel
theorem dX3_has_12 : decode cX3_has 12 = .ok (.aload_n 0, 1) := by decide +kernel
theorem dX3_has_13 : decode cX3_has 13 = .ok (.iload_n 1, 1) := by decide +kernel
theorem dX3_has_14 : decode cX3_has 14 = .ok (.invokevirtual 55, 3) := by decide +kernel
theorem dX3_has_17 : decode cX3_has 17 = .ok (.getfield 62, 3) := by decide +kernel
theorem dX3_has_20 : decode cX3_has 20 = .ok (.iload_n 2, 1) := by decide +kernel
theorem dX3_has_21 : decode cX3_has 21 = .ok (.if_icmp .ne 7, 3) := by decide +kernel
theorem dX3_has_24 : decode cX3_has 24 = .ok (.iconst 1, 1) := by decide +kernel
theorem dX3_has_25 : decode cX3_has 25 = .ok (.goto 4, 3) := by decide +kernel
theorem dX3_has_28 : decode cX3_has 28 = .ok (.iconst 0, 1) := by decide +kernel
theorem dX3_has_29 : decode cX3_has 29 = .ok (.ireturn, 1) := by decide +kernel
theorem dX3_at_0 : decode cX3_at 0 = .ok (.iload_n 1, 1) := by decide +kernel
theorem dX3_at_1 : decode cX3_at 1 = .ok (.ifCond .lt 18, 3) := by decide +kernel
theorem dX3_at_4 : decode cX3_at 4 = .ok (.iload_n 1, 1) := by decide +kernel
theorem dX3_at_5 : decode cX3_at 5 = .ok (.bipush 24, 2) := by decide +kernel
theorem dX3_at_7 : decode cX3_at 7 = .ok (.if_icmp .ge 12, 3) := by decide +kernel
theorem dX3_at_10 : decode cX3_at 10 = .ok (.aload_n 0, 1) := by decide +kernel
theorem dX3_at_11 : decode cX3_at 11 = .ok (.getfield 11, 3) := by decide +kernel
theorem dX3_at_14 : decode cX3_at 14 = .ok (.iload_n 1, 1) := by decide +kernel
theorem dX3_at_15 : decode cX3_at 15 = .ok (.aaload, 1) := by decide +kernel
theorem dX3_at_16 : decode cX3_at 16 = .ok (.goto 7, 3) := by decide +kernel
theorem dX3_at_19 : decode cX3_at 19 = .ok (.aload_n 0, 1) := by decide +kernel
theorem dX3_at_20 : decode cX3_at 20 = .ok (.getfield 20, 3) := by decide +kernel
theorem dX3_at_23 : decode cX3_at 23 = .ok (.areturn, 1) := by decide +kernel
theorem dX3_isFull_0 : decode cX3_isFull 0 = .ok (.aload_n 0, 1) := by decide +kernel
theorem dX3_isFull_1 : decode cX3_isFull 1 = .ok (.getfield 41, 3) := by decide +kernel
theorem dX3_isFull_4 : decode cX3_isFull 4 = .ok (.bipush 24, 2) := by decide +kernel
theorem dX3_isFull_6 : decode cX3_isFull 6 = .ok (.if_icmp .lt 7, 3) := by decide +kernel
theorem dX3_isFull_9 : decode cX3_isFull 9 = .ok (.iconst 1, 1) := by decide +kernel
theorem dX3_isFull_10 : decode cX3_isFull 10 = .ok (.goto 4, 3) := by decide +kernel
theorem dX3_isFull_13 : decode cX3_isFull 13 = .ok (.iconst 0, 1) := by decide +kernel
theorem dX3_isFull_14 : decode cX3_isFull 14 = .ok (.ireturn, 1) := by decide +kernel
theorem dX3_howManyMadeOf_0 : decode cX3_howManyMadeOf 0 = .ok (.iconst 0, 1) := by decide +kernel
theorem dX3_howManyMadeOf_1 : decode cX3_howManyMadeOf 1 = .ok (.istore_n 2, 1) := by decide +kernel
theorem dX3_howManyMadeOf_2 : decode cX3_howManyMadeOf 2 = .ok (.iconst 0, 1) := by decide +kernel
theorem dX3_howManyMadeOf_3 : decode cX3_howManyMadeOf 3 = .ok (.istore_n 3, 1) := by decide +kernel
theorem dX3_howManyMadeOf_4 : decode cX3_howManyMadeOf 4 = .ok (.iload_n 3, 1) := by decide +kernel
theorem dX3_howManyMadeOf_5 : decode cX3_howManyMadeOf 5 = .ok (.aload_n 0, 1) := by decide +kernel
theorem dX3_howManyMadeOf_6 : decode cX3_howManyMadeOf 6 = .ok (.getfield 41, 3) := by decide +kernel
theorem dX3_howManyMadeOf_9 : decode cX3_howManyMadeOf 9 = .ok (.if_icmp .ge 29, 3) := by decide +kernel
theorem dX3_howManyMadeOf_12 : decode cX3_howManyMadeOf 12 = .ok (.iload_n 2, 1) := by decide +kernel
theorem dX3_howManyMadeOf_13 : decode cX3_howManyMadeOf 13 = .ok (.aload_n 0, 1) := by decide +kernel
theorem dX3_howManyMadeOf_14 : decode cX3_howManyMadeOf 14 = .ok (.iload_n 3, 1) := by decide +kernel
theorem dX3_howManyMadeOf_15 : decode cX3_howManyMadeOf 15 = .ok (.invokevirtual 55, 3) := by decide +kernel
theorem dX3_howManyMadeOf_18 : decode cX3_howManyMadeOf 18 = .ok (.getfield 65, 3) := by decide +kernel
theorem dX3_howManyMadeOf_21 : decode cX3_howManyMadeOf 21 = .ok (.iload_n 1, 1) := by decide +kernel
theorem dX3_howManyMadeOf_22 : decode cX3_howManyMadeOf 22 = .ok (.if_icmp .ne 7, 3) := by decide +kernel
theorem dX3_howManyMadeOf_25 : decode cX3_howManyMadeOf 25 = .ok (.iconst 1, 1) := by decide +kernel
theorem dX3_howManyMadeOf_26 : decode cX3_howManyMadeOf 26 = .ok (.goto 4, 3) := by decide +kernel
theorem dX3_howManyMadeOf_29 : decode cX3_howManyMadeOf 29 = .ok (.iconst 0, 1) := by decide +kernel
theorem dX3_howManyMadeOf_30 : decode cX3_howManyMadeOf 30 = .ok (.iadd, 1) := by decide +kernel
theorem dX3_howManyMadeOf_31 : decode cX3_howManyMadeOf 31 = .ok (.istore_n 2, 1) := by decide +kernel
theorem dX3_howManyMadeOf_32 : decode cX3_howManyMadeOf 32 = .ok (.iinc 3 1, 3) := by decide +kernel
theorem dX3_howManyMadeOf_35 : decode cX3_howManyMadeOf 35 = .ok (.goto (-31), 3) := by decide +kernel
theorem dX3_howManyMadeOf_38 : decode cX3_howManyMadeOf 38 = .ok (.iload_n 2, 1) := by decide +kernel
theorem dX3_howManyMadeOf_39 : decode cX3_howManyMadeOf 39 = .ok (.ireturn, 1) := by decide +kernel
theorem dX3_howManyOfSort_0 : decode cX3_howManyOfSort 0 = .ok (.iconst 0, 1) := by decide +kernel
theorem dX3_howManyOfSort_1 : decode cX3_howManyOfSort 1 = .ok (.istore_n 2, 1) := by decide +kernel
theorem dX3_howManyOfSort_2 : decode cX3_howManyOfSort 2 = .ok (.iconst 0, 1) := by decide +kernel
theorem dX3_howManyOfSort_3 : decode cX3_howManyOfSort 3 = .ok (.istore_n 3, 1) := by decide +kernel
theorem dX3_howManyOfSort_4 : decode cX3_howManyOfSort 4 = .ok (.iload_n 3, 1) := by decide +kernel
theorem dX3_howManyOfSort_5 : decode cX3_howManyOfSort 5 = .ok (.aload_n 0, 1) := by decide +kernel
theorem dX3_howManyOfSort_6 : decode cX3_howManyOfSort 6 = .ok (.getfield 41, 3) := by decide +kernel
theorem dX3_howManyOfSort_9 : decode cX3_howManyOfSort 9 = .ok (.if_icmp .ge 29, 3) := by decide +kernel
theorem dX3_howManyOfSort_12 : decode cX3_howManyOfSort 12 = .ok (.iload_n 2, 1) := by decide +kernel
theorem dX3_howManyOfSort_13 : decode cX3_howManyOfSort 13 = .ok (.aload_n 0, 1) := by decide +kernel
theorem dX3_howManyOfSort_14 : decode cX3_howManyOfSort 14 = .ok (.iload_n 3, 1) := by decide +kernel
theorem dX3_howManyOfSort_15 : decode cX3_howManyOfSort 15 = .ok (.invokevirtual 55, 3) := by decide +kernel
theorem dX3_howManyOfSort_18 : decode cX3_howManyOfSort 18 = .ok (.getfield 62, 3) := by decide +kernel
theorem dX3_howManyOfSort_21 : decode cX3_howManyOfSort 21 = .ok (.iload_n 1, 1) := by decide +kernel
theorem dX3_howManyOfSort_22 : decode cX3_howManyOfSort 22 = .ok (.if_icmp .ne 7, 3) := by decide +kernel
theorem dX3_howManyOfSort_25 : decode cX3_howManyOfSort 25 = .ok (.iconst 1, 1) := by decide +kernel
theorem dX3_howManyOfSort_26 : decode cX3_howManyOfSort 26 = .ok (.goto 4, 3) := by decide +kernel
theorem dX3_howManyOfSort_29 : decode cX3_howManyOfSort 29 = .ok (.iconst 0, 1) := by decide +kernel
theorem dX3_howManyOfSort_30 : decode cX3_howManyOfSort 30 = .ok (.iadd, 1) := by decide +kernel
theorem dX3_howManyOfSort_31 : decode cX3_howManyOfSort 31 = .ok (.istore_n 2, 1) := by decide +kernel
theorem dX3_howManyOfSort_32 : decode cX3_howManyOfSort 32 = .ok (.iinc 3 1, 3) := by decide +kernel
theorem dX3_howManyOfSort_35 : decode cX3_howManyOfSort 35 = .ok (.goto (-31), 3) := by decide +kernel
theorem dX3_howManyOfSort_38 : decode cX3_howManyOfSort 38 = .ok (.iload_n 2, 1) := by decide +kernel
theorem dX3_howManyOfSort_39 : decode cX3_howManyOfSort 39 = .ok (.ireturn, 1) := by decide +kernel
theorem dX3_howManyInState_0 : decode cX3_howManyInState 0 = .ok (.iconst 0, 1) := by decide +kernel
theorem dX3_howManyInState_1 : decode cX3_howManyInState 1 = .ok (.istore_n 2, 1) := by decide +kernel
theorem dX3_howManyInState_2 : decode cX3_howManyInState 2 = .ok (.iconst 0, 1) := by decide +kernel
theorem dX3_howManyInState_3 : decode cX3_howManyInState 3 = .ok (.istore_n 3, 1) := by decide +kernel
theorem dX3_howManyInState_4 : decode cX3_howManyInState 4 = .ok (.iload_n 3, 1) := by decide +kernel
theorem dX3_howManyInState_5 : decode cX3_howManyInState 5 = .ok (.aload_n 0, 1) := by decide +kernel
theorem dX3_howManyInState_6 : decode cX3_howManyInState 6 = .ok (.getfield 41, 3) := by decide +kernel
theorem dX3_howManyInState_9 : decode cX3_howManyInState 9 = .ok (.if_icmp .ge 29, 3) := by decide +kernel
theorem dX3_howManyInState_12 : decode cX3_howManyInState 12 = .ok (.iload_n 2, 1) := by decide +kernel
theorem dX3_howManyInState_13 : decode cX3_howManyInState 13 = .ok (.aload_n 0, 1) := by decide +kernel
theorem dX3_howManyInState_14 : decode cX3_howManyInState 14 = .ok (.iload_n 3, 1) := by decide +kernel
theorem dX3_howManyInState_15 : decode cX3_howManyInState 15 = .ok (.invokevirtual 55, 3) := by decide +kernel
theorem dX3_howManyInState_18 : decode cX3_howManyInState 18 = .ok (.getfield 68, 3) := by decide +kernel
theorem dX3_howManyInState_21 : decode cX3_howManyInState 21 = .ok (.iload_n 1, 1) := by decide +kernel
theorem dX3_howManyInState_22 : decode cX3_howManyInState 22 = .ok (.if_icmp .ne 7, 3) := by decide +kernel
theorem dX3_howManyInState_25 : decode cX3_howManyInState 25 = .ok (.iconst 1, 1) := by decide +kernel
theorem dX3_howManyInState_26 : decode cX3_howManyInState 26 = .ok (.goto 4, 3) := by decide +kernel
theorem dX3_howManyInState_29 : decode cX3_howManyInState 29 = .ok (.iconst 0, 1) := by decide +kernel
theorem dX3_howManyInState_30 : decode cX3_howManyInState 30 = .ok (.iadd, 1) := by decide +kernel
theorem dX3_howManyInState_31 : decode cX3_howManyInState 31 = .ok (.istore_n 2, 1) := by decide +kernel
theorem dX3_howManyInState_32 : decode cX3_howManyInState 32 = .ok (.iinc 3 1, 3) := by decide +kernel
theorem dX3_howManyInState_35 : decode cX3_howManyInState 35 = .ok (.goto (-31), 3) := by decide +kernel
theorem dX3_howManyInState_38 : decode cX3_howManyInState 38 = .ok (.iload_n 2, 1) := by decide +kernel
theorem dX3_howManyInState_39 : decode cX3_howManyInState 39 = .ok (.ireturn, 1) := by decide +kernel
theorem dX3_howManyTasksOver_0 : decode cX3_howManyTasksOver 0 = .ok (.iconst 0, 1) := by decide +kernel
theorem dX3_howManyTasksOver_1 : decode cX3_howManyTasksOver 1 = .ok (.istore_n 1, 1) := by decide +kernel
theorem dX3_howManyTasksOver_2 : decode cX3_howManyTasksOver 2 = .ok (.iconst 0, 1) := by decide +kernel
theorem dX3_howManyTasksOver_3 : decode cX3_howManyTasksOver 3 = .ok (.istore_n 2, 1) := by decide +kernel
theorem dX3_howManyTasksOver_4 : decode cX3_howManyTasksOver 4 = .ok (.iload_n 2, 1) := by decide +kernel
theorem dX3_howManyTasksOver_5 : decode cX3_howManyTasksOver 5 = .ok (.aload_n 0, 1) := by decide +kernel
theorem dX3_howManyTasksOver_6 : decode cX3_howManyTasksOver 6 = .ok (.getfield 41, 3) := by decide +kernel
theorem dX3_howManyTasksOver_9 : decode cX3_howManyTasksOver 9 = .ok (.if_icmp .ge 40, 3) := by decide +kernel
theorem dX3_howManyTasksOver_12 : decode cX3_howManyTasksOver 12 = .ok (.iload_n 1, 1) := by decide +kernel
theorem dX3_howManyTasksOver_13 : decode cX3_howManyTasksOver 13 = .ok (.aload_n 0, 1) := by decide +kernel
theorem dX3_howManyTasksOver_14 : decode cX3_howManyTasksOver 14 = .ok (.iload_n 2, 1) := by decide +kernel
theorem dX3_howManyTasksOver_15 : decode cX3_howManyTasksOver 15 = .ok (.invokevirtual 55, 3) := by decide +kernel
theorem dX3_howManyTasksOver_18 : decode cX3_howManyTasksOver 18 = .ok (.getfield 62, 3) := by decide +kernel
theorem dX3_howManyTasksOver_21 : decode cX3_howManyTasksOver 21 = .ok (.iconst 1, 1) := by decide +kernel
theorem dX3_howManyTasksOver_22 : decode cX3_howManyTasksOver 22 = .ok (.if_icmp .ne 18, 3) := by decide +kernel
theorem dX3_howManyTasksOver_25 : decode cX3_howManyTasksOver 25 = .ok (.aload_n 0, 1) := by decide +kernel
theorem dX3_howManyTasksOver_26 : decode cX3_howManyTasksOver 26 = .ok (.iload_n 2, 1) := by decide +kernel
theorem dX3_howManyTasksOver_27 : decode cX3_howManyTasksOver 27 = .ok (.invokevirtual 55, 3) := by decide +kernel
theorem dX3_howManyTasksOver_30 : decode cX3_howManyTasksOver 30 = .ok (.invokevirtual 71, 3) := by decide +kernel
theorem dX3_howManyTasksOver_33 : decode cX3_howManyTasksOver 33 = .ok (.ifCond .eq 7, 3) := by decide +kernel
theorem dX3_howManyTasksOver_36 : decode cX3_howManyTasksOver 36 = .ok (.iconst 1, 1) := by decide +kernel
theorem dX3_howManyTasksOver_37 : decode cX3_howManyTasksOver 37 = .ok (.goto 4, 3) := by decide +kernel
theorem dX3_howManyTasksOver_40 : decode cX3_howManyTasksOver 40 = .ok (.iconst 0, 1) := by decide +kernel
theorem dX3_howManyTasksOver_41 : decode cX3_howManyTasksOver 41 = .ok (.iadd, 1) := by decide +kernel
theorem dX3_howManyTasksOver_42 : decode cX3_howManyTasksOver 42 = .ok (.istore_n 1, 1) := by decide +kernel
theorem dX3_howManyTasksOver_43 : decode cX3_howManyTasksOver 43 = .ok (.iinc 2 1, 3) := by decide +kernel
theorem dX3_howManyTasksOver_46 : decode cX3_howManyTasksOver 46 = .ok (.goto (-42), 3) := by decide +kernel
theorem dX3_howManyTasksOver_49 : decode cX3_howManyTasksOver 49 = .ok (.iload_n 1, 1) := by decide +kernel
theorem dX3_howManyTasksOver_50 : decode cX3_howManyTasksOver 50 = .ok (.ireturn, 1) := by decide +kernel
theorem dX3_howManyAwait_0 : decode cX3_howManyAwait 0 = .ok (.iconst 0, 1) := by decide +kernel
theorem dX3_howManyAwait_1 : decode cX3_howManyAwait 1 = .ok (.istore_n 2, 1) := by decide +kernel
theorem dX3_howManyAwait_2 : decode cX3_howManyAwait 2 = .ok (.iconst 0, 1) := by decide +kernel
theorem dX3_howManyAwait_3 : decode cX3_howManyAwait 3 = .ok (.istore_n 3, 1) := by decide +kernel
theorem dX3_howManyAwait_4 : decode cX3_howManyAwait 4 = .ok (.iload_n 3, 1) := by decide +kernel
theorem dX3_howManyAwait_5 : decode cX3_howManyAwait 5 = .ok (.aload_n 0, 1) := by decide +kernel
theorem dX3_howManyAwait_6 : decode cX3_howManyAwait 6 = .ok (.getfield 31, 3) := by decide +kernel
theorem dX3_howManyAwait_9 : decode cX3_howManyAwait 9 = .ok (.getfield 75, 3) := by decide +kernel
theorem dX3_howManyAwait_12 : decode cX3_howManyAwait 12 = .ok (.if_icmp .ge 36, 3) := by decide +kernel
theorem dX3_howManyAwait_15 : decode cX3_howManyAwait 15 = .ok (.iload_n 2, 1) := by decide +kernel
theorem dX3_howManyAwait_16 : decode cX3_howManyAwait 16 = .ok (.aload_n 0, 1) := by decide +kernel
theorem dX3_howManyAwait_17 : decode cX3_howManyAwait 17 = .ok (.aload_n 0, 1) := by decide +kernel
theorem dX3_howManyAwait_18 : decode cX3_howManyAwait 18 = .ok (.getfield 31, 3) := by decide +kernel
theorem dX3_howManyAwait_21 : decode cX3_howManyAwait 21 = .ok (.iload_n 3, 1) := by decide +kernel
theorem dX3_howManyAwait_22 : decode cX3_howManyAwait 22 = .ok (.invokevirtual 78, 3) := by decide +kernel
theorem dX3_howManyAwait_25 : decode cX3_howManyAwait 25 = .ok (.invokevirtual 55, 3) := by decide +kernel
theorem dX3_howManyAwait_28 : decode cX3_howManyAwait 28 = .ok (.getfield 82, 3) := by decide +kernel
theorem dX3_howManyAwait_31 : decode cX3_howManyAwait 31 = .ok (.iload_n 1, 1) := by decide +kernel
theorem dX3_howManyAwait_32 : decode cX3_howManyAwait 32 = .ok (.if_icmp .ne 7, 3) := by decide +kernel
theorem dX3_howManyAwait_35 : decode cX3_howManyAwait 35 = .ok (.iconst 1, 1) := by decide +kernel
theorem dX3_howManyAwait_36 : decode cX3_howManyAwait 36 = .ok (.goto 4, 3) := by decide +kernel
theorem dX3_howManyAwait_39 : decode cX3_howManyAwait 39 = .ok (.iconst 0, 1) := by decide +kernel
theorem dX3_howManyAwait_40 : decode cX3_howManyAwait 40 = .ok (.iadd, 1) := by decide +kernel
theorem dX3_howManyAwait_41 : decode cX3_howManyAwait 41 = .ok (.istore_n 2, 1) := by decide +kernel
theorem dX3_howManyAwait_42 : decode cX3_howManyAwait 42 = .ok (.iinc 3 1, 3) := by decide +kernel
theorem dX3_howManyAwait_45 : decode cX3_howManyAwait 45 = .ok (.goto (-41), 3) := by decide +kernel
theorem dX3_howManyAwait_48 : decode cX3_howManyAwait 48 = .ok (.iload_n 2, 1) := by decide +kernel
theorem dX3_howManyAwait_49 : decode cX3_howManyAwait 49 = .ok (.ireturn, 1) := by decide +kernel
theorem dX3_linesDoneInAll_0 : decode cX3_linesDoneInAll 0 = .ok (.iconst 0, 1) := by decide +kernel
theorem dX3_linesDoneInAll_1 : decode cX3_linesDoneInAll 1 = .ok (.istore_n 1, 1) := by decide +kernel
theorem dX3_linesDoneInAll_2 : decode cX3_linesDoneInAll 2 = .ok (.iconst 0, 1) := by decide +kernel
theorem dX3_linesDoneInAll_3 : decode cX3_linesDoneInAll 3 = .ok (.istore_n 2, 1) := by decide +kernel
theorem dX3_linesDoneInAll_4 : decode cX3_linesDoneInAll 4 = .ok (.iload_n 2, 1) := by decide +kernel
theorem dX3_linesDoneInAll_5 : decode cX3_linesDoneInAll 5 = .ok (.aload_n 0, 1) := by decide +kernel
theorem dX3_linesDoneInAll_6 : decode cX3_linesDoneInAll 6 = .ok (.getfield 41, 3) := by decide +kernel
theorem dX3_linesDoneInAll_9 : decode cX3_linesDoneInAll 9 = .ok (.if_icmp .ge 20, 3) := by decide +kernel
theorem dX3_linesDoneInAll_12 : decode cX3_linesDoneInAll 12 = .ok (.iload_n 1, 1) := by decide +kernel
theorem dX3_linesDoneInAll_13 : decode cX3_linesDoneInAll 13 = .ok (.aload_n 0, 1) := by decide +kernel
theorem dX3_linesDoneInAll_14 : decode cX3_linesDoneInAll 14 = .ok (.iload_n 2, 1) := by decide +kernel
theorem dX3_linesDoneInAll_15 : decode cX3_linesDoneInAll 15 = .ok (.invokevirtual 55, 3) := by decide +kernel
theorem dX3_linesDoneInAll_18 : decode cX3_linesDoneInAll 18 = .ok (.getfield 85, 3) := by decide +kernel
theorem dX3_linesDoneInAll_21 : decode cX3_linesDoneInAll 21 = .ok (.iadd, 1) := by decide +kernel
theorem dX3_linesDoneInAll_22 : decode cX3_linesDoneInAll 22 = .ok (.istore_n 1, 1) := by decide +kernel
theorem dX3_linesDoneInAll_23 : decode cX3_linesDoneInAll 23 = .ok (.iinc 2 1, 3) := by decide +kernel
theorem dX3_linesDoneInAll_26 : decode cX3_linesDoneInAll 26 = .ok (.goto (-22), 3) := by decide +kernel
theorem dX3_linesDoneInAll_29 : decode cX3_linesDoneInAll 29 = .ok (.iload_n 1, 1) := by decide +kernel
theorem dX3_linesDoneInAll_30 : decode cX3_linesDoneInAll 30 = .ok (.ireturn, 1) := by decide +kernel
theorem dX3_canMake_0 : decode cX3_canMake 0 = .ok (.aload_n 0, 1) := by decide +kernel
theorem dX3_canMake_1 : decode cX3_canMake 1 = .ok (.getfield 34, 3) := by decide +kernel
theorem dX3_canMake_4 : decode cX3_canMake 4 = .ok (.iload_n 1, 1) := by decide +kernel
theorem dX3_canMake_5 : decode cX3_canMake 5 = .ok (.invokevirtual 88, 3) := by decide +kernel
theorem dX3_canMake_8 : decode cX3_canMake 8 = .ok (.ifCond .eq 14, 3) := by decide +kernel
theorem dX3_canMake_11 : decode cX3_canMake 11 = .ok (.aload_n 0, 1) := by decide +kernel
theorem dX3_canMake_12 : decode cX3_canMake 12 = .ok (.invokevirtual 94, 3) := by decide +kernel
theorem dX3_canMake_15 : decode cX3_canMake 15 = .ok (.ifCond .ne 7, 3) := by decide +kernel
theorem dX3_canMake_18 : decode cX3_canMake 18 = .ok (.iconst 1, 1) := by decide +kernel
theorem dX3_canMake_19 : decode cX3_canMake 19 = .ok (.goto 4, 3) := by decide +kernel
theorem dX3_canMake_22 : decode cX3_canMake 22 = .ok (.iconst 0, 1) := by decide +kernel
theorem dX3_canMake_23 : decode cX3_canMake 23 = .ok (.ireturn, 1) := by decide +kernel
theorem dX3_make_0 : decode cX3_make 0 = .ok (.aload_n 0, 1) := by decide +kernel
theorem dX3_make_1 : decode cX3_make 1 = .ok (.aload_n 0, 1) := by decide +kernel
theorem dX3_make_2 : decode cX3_make 2 = .ok (.getfield 41, 3) := by decide +kernel
theorem dX3_make_5 : decode cX3_make 5 = .ok (.invokevirtual 55, 3) := by decide +kernel
theorem dX3_make_8 : decode cX3_make 8 = .ok (.astore 4, 2) := by decide +kernel
theorem dX3_make_10 : decode cX3_make 10 = .ok (.aload 4, 2) := by decide +kernel
theorem dX3_make_12 : decode cX3_make 12 = .ok (.iload_n 1, 1) := by decide +kernel
theorem dX3_make_13 : decode cX3_make 13 = .ok (.iload_n 2, 1) := by decide +kernel
theorem dX3_make_14 : decode cX3_make 14 = .ok (.iload_n 3, 1) := by decide +kernel
theorem dX3_make_15 : decode cX3_make 15 = .ok (.invokevirtual 97, 3) := by decide +kernel
theorem dX3_make_18 : decode cX3_make 18 = .ok (.aload_n 0, 1) := by decide +kernel
theorem dX3_make_19 : decode cX3_make 19 = .ok (.dup, 1) := by decide +kernel
theorem dX3_make_20 : decode cX3_make 20 = .ok (.getfield 41, 3) := by decide +kernel
theorem dX3_make_23 : decode cX3_make 23 = .ok (.iconst 1, 1) := by decide +kernel
theorem dX3_make_24 : decode cX3_make 24 = .ok (.iadd, 1) := by decide +kernel
theorem dX3_make_25 : decode cX3_make 25 = .ok (.putfield 41, 3) := by decide +kernel
theorem dX3_make_28 : decode cX3_make 28 = .ok (.iload_n 2, 1) := by decide +kernel
theorem dX3_make_29 : decode cX3_make 29 = .ok (.iconst 1, 1) := by decide +kernel
theorem dX3_make_30 : decode cX3_make 30 = .ok (.if_icmp .ne 15, 3) := by decide +kernel
theorem dX3_make_33 : decode cX3_make 33 = .ok (.aload_n 0, 1) := by decide +kernel
theorem dX3_make_34 : decode cX3_make 34 = .ok (.getfield 27, 3) := by decide +kernel
theorem dX3_make_37 : decode cX3_make 37 = .ok (.aload 4, 2) := by decide +kernel
theorem dX3_make_39 : decode cX3_make 39 = .ok (.getfield 101, 3) := by decide +kernel
theorem dX3_make_42 : decode cX3_make 42 = .ok (.invokevirtual 104, 3) := by decide +kernel
theorem dX3_make_45 : decode cX3_make 45 = .ok (.aload 4, 2) := by decide +kernel
theorem dX3_make_47 : decode cX3_make 47 = .ok (.areturn, 1) := by decide +kernel
theorem dX3_resumeWith_0 : decode cX3_resumeWith 0 = .ok (.aload_n 0, 1) := by decide +kernel
theorem dX3_resumeWith_1 : decode cX3_resumeWith 1 = .ok (.iload_n 1, 1) := by decide +kernel
theorem dX3_resumeWith_2 : decode cX3_resumeWith 2 = .ok (.invokevirtual 55, 3) := by decide +kernel
theorem dX3_resumeWith_5 : decode cX3_resumeWith 5 = .ok (.astore_n 3, 1) := by decide +kernel
theorem dX3_resumeWith_6 : decode cX3_resumeWith 6 = .ok (.aload_n 0, 1) := by decide +kernel
theorem dX3_resumeWith_7 : decode cX3_resumeWith 7 = .ok (.aload_n 3, 1) := by decide +kernel
theorem dX3_resumeWith_8 : decode cX3_resumeWith 8 = .ok (.invokevirtual 107, 3) := by decide +kernel
theorem dX3_resumeWith_11 : decode cX3_resumeWith 11 = .ok (.astore 4, 2) := by decide +kernel
theorem dX3_resumeWith_13 : decode cX3_resumeWith 13 = .ok (.aload_n 0, 1) := by decide +kernel
theorem dX3_resumeWith_14 : decode cX3_resumeWith 14 = .ok (.iconst (-1), 1) := by decide +kernel
theorem dX3_resumeWith_15 : decode cX3_resumeWith 15 = .ok (.invokevirtual 111, 3) := by decide +kernel
theorem dX3_resumeWith_18 : decode cX3_resumeWith 18 = .ok (.aload 4, 2) := by decide +kernel
theorem dX3_resumeWith_20 : decode cX3_resumeWith 20 = .ok (.getfield 68, 3) := by decide +kernel
theorem dX3_resumeWith_23 : decode cX3_resumeWith 23 = .ok (.ifCond .ne 12, 3) := by decide +kernel
theorem dX3_resumeWith_26 : decode cX3_resumeWith 26 = .ok (.aload 4, 2) := by decide +kernel
theorem dX3_resumeWith_28 : decode cX3_resumeWith 28 = .ok (.iconst 0, 1) := by decide +kernel
theorem dX3_resumeWith_29 : decode cX3_resumeWith 29 = .ok (.invokevirtual 114, 3) := by decide +kernel
theorem dX3_resumeWith_32 : decode cX3_resumeWith 32 = .ok (.goto 21, 3) := by decide +kernel
theorem dX3_resumeWith_35 : decode cX3_resumeWith 35 = .ok (.aload 4, 2) := by decide +kernel
theorem dX3_resumeWith_37 : decode cX3_resumeWith 37 = .ok (.iload_n 2, 1) := by decide +kernel
theorem dX3_resumeWith_38 : decode cX3_resumeWith 38 = .ok (.putfield 117, 3) := by decide +kernel
theorem dX3_resumeWith_41 : decode cX3_resumeWith 41 = .ok (.aload 4, 2) := by decide +kernel
theorem dX3_resumeWith_43 : decode cX3_resumeWith 43 = .ok (.aload 4, 2) := by decide +kernel
theorem dX3_resumeWith_45 : decode cX3_resumeWith 45 = .ok (.getfield 120, 3) := by decide +kernel
theorem dX3_resumeWith_48 : decode cX3_resumeWith 48 = .ok (.iconst 1, 1) := by decide +kernel
theorem dX3_resumeWith_49 : decode cX3_resumeWith 49 = .ok (.iadd, 1) := by decide +kernel
theorem dX3_resumeWith_50 : decode cX3_resumeWith 50 = .ok (.invokevirtual 114, 3) := by decide +kernel
theorem dX3_resumeWith_53 : decode cX3_resumeWith 53 = .ok (.aload_n 0, 1) := by decide +kernel
theorem dX3_resumeWith_54 : decode cX3_resumeWith 54 = .ok (.aload_n 3, 1) := by decide +kernel
theorem dX3_resumeWith_55 : decode cX3_resumeWith 55 = .ok (.aload 4, 2) := by decide +kernel
theorem dX3_resumeWith_57 : decode cX3_resumeWith 57 = .ok (.invokevirtual 123, 3) := by decide +kernel
theorem dX3_resumeWith_60 : decode cX3_resumeWith 60 = .ok (.aload_n 0, 1) := by decide +kernel
theorem dX3_resumeWith_61 : decode cX3_resumeWith 61 = .ok (.aload_n 3, 1) := by decide +kernel
theorem dX3_resumeWith_62 : decode cX3_resumeWith 62 = .ok (.invokevirtual 127, 3) := by decide +kernel
theorem dX3_resumeWith_65 : decode cX3_resumeWith 65 = .ok (.ireturn, 1) := by decide +kernel
theorem dX3_throwInto_0 : decode cX3_throwInto 0 = .ok (.aload_n 0, 1) := by decide +kernel
theorem dX3_throwInto_1 : decode cX3_throwInto 1 = .ok (.iload_n 1, 1) := by decide +kernel
theorem dX3_throwInto_2 : decode cX3_throwInto 2 = .ok (.invokevirtual 55, 3) := by decide +kernel
theorem dX3_throwInto_5 : decode cX3_throwInto 5 = .ok (.astore_n 3, 1) := by decide +kernel
theorem dX3_throwInto_6 : decode cX3_throwInto 6 = .ok (.aload_n 0, 1) := by decide +kernel
theorem dX3_throwInto_7 : decode cX3_throwInto 7 = .ok (.aload_n 3, 1) := by decide +kernel
theorem dX3_throwInto_8 : decode cX3_throwInto 8 = .ok (.invokevirtual 107, 3) := by decide +kernel
theorem dX3_throwInto_11 : decode cX3_throwInto 11 = .ok (.astore 4, 2) := by decide +kernel
theorem dX3_throwInto_13 : decode cX3_throwInto 13 = .ok (.aload_n 0, 1) := by decide +kernel
theorem dX3_throwInto_14 : decode cX3_throwInto 14 = .ok (.iconst (-1), 1) := by decide +kernel
theorem dX3_throwInto_15 : decode cX3_throwInto 15 = .ok (.invokevirtual 111, 3) := by decide +kernel
theorem dX3_throwInto_18 : decode cX3_throwInto 18 = .ok (.aload 4, 2) := by decide +kernel
theorem dX3_throwInto_20 : decode cX3_throwInto 20 = .ok (.iload_n 2, 1) := by decide +kernel
theorem dX3_throwInto_21 : decode cX3_throwInto 21 = .ok (.invokevirtual 131, 3) := by decide +kernel
theorem dX3_throwInto_24 : decode cX3_throwInto 24 = .ok (.aload_n 0, 1) := by decide +kernel
theorem dX3_throwInto_25 : decode cX3_throwInto 25 = .ok (.aload_n 3, 1) := by decide +kernel
theorem dX3_throwInto_26 : decode cX3_throwInto 26 = .ok (.aload 4, 2) := by decide +kernel
theorem dX3_throwInto_28 : decode cX3_throwInto 28 = .ok (.invokevirtual 123, 3) := by decide +kernel
theorem dX3_throwInto_31 : decode cX3_throwInto 31 = .ok (.aload_n 0, 1) := by decide +kernel
theorem dX3_throwInto_32 : decode cX3_throwInto 32 = .ok (.aload_n 3, 1) := by decide +kernel
theorem dX3_throwInto_33 : decode cX3_throwInto 33 = .ok (.invokevirtual 127, 3) := by decide +kernel
theorem dX3_throwInto_36 : decode cX3_throwInto 36 = .ok (.ireturn, 1) := by decide +kernel
theorem dX3_toldOf_0 : decode cX3_toldOf 0 = .ok (.aload_n 1, 1) := by decide +kernel
theorem dX3_toldOf_1 : decode cX3_toldOf 1 = .ok (.getfield 68, 3) := by decide +kernel
theorem dX3_toldOf_4 : decode cX3_toldOf 4 = .ok (.iconst 3, 1) := by decide +kernel
theorem dX3_toldOf_5 : decode cX3_toldOf 5 = .ok (.if_icmp .ne 7, 3) := by decide +kernel
theorem dX3_toldOf_8 : decode cX3_toldOf 8 = .ok (.sipush (-20000), 3) := by decide +kernel
theorem dX3_toldOf_11 : decode cX3_toldOf 11 = .ok (.ireturn, 1) := by decide +kernel
theorem dX3_toldOf_12 : decode cX3_toldOf 12 = .ok (.aload_n 1, 1) := by decide +kernel
theorem dX3_toldOf_13 : decode cX3_toldOf 13 = .ok (.getfield 68, 3) := by decide +kernel
theorem dX3_toldOf_16 : decode cX3_toldOf 16 = .ok (.iconst 4, 1) := by decide +kernel
theorem dX3_toldOf_17 : decode cX3_toldOf 17 = .ok (.if_icmp .ne 14, 3) := by decide +kernel
theorem dX3_toldOf_20 : decode cX3_toldOf 20 = .ok (.sipush (-20000), 3) := by decide +kernel
theorem dX3_toldOf_23 : decode cX3_toldOf 23 = .ok (.aload_n 1, 1) := by decide +kernel
theorem dX3_toldOf_24 : decode cX3_toldOf 24 = .ok (.getfield 117, 3) := by decide +kernel
theorem dX3_toldOf_27 : decode cX3_toldOf 27 = .ok (.isub, 1) := by decide +kernel
theorem dX3_toldOf_28 : decode cX3_toldOf 28 = .ok (.goto 11, 3) := by decide +kernel
theorem dX3_toldOf_31 : decode cX3_toldOf 31 = .ok (.aload_n 0, 1) := by decide +kernel
theorem dX3_toldOf_32 : decode cX3_toldOf 32 = .ok (.aload_n 1, 1) := by decide +kernel
theorem dX3_toldOf_33 : decode cX3_toldOf 33 = .ok (.invokevirtual 107, 3) := by decide +kernel
theorem dX3_toldOf_36 : decode cX3_toldOf 36 = .ok (.getfield 117, 3) := by decide +kernel
theorem dX3_toldOf_39 : decode cX3_toldOf 39 = .ok (.ireturn, 1) := by decide +kernel
theorem dX3_closeAll_0 : decode cX3_closeAll 0 = .ok (.aload_n 0, 1) := by decide +kernel
theorem dX3_closeAll_1 : decode cX3_closeAll 1 = .ok (.iload_n 1, 1) := by decide +kernel
theorem dX3_closeAll_2 : decode cX3_closeAll 2 = .ok (.invokevirtual 55, 3) := by decide +kernel
theorem dX3_closeAll_5 : decode cX3_closeAll 5 = .ok (.astore_n 2, 1) := by decide +kernel
theorem dX3_closeAll_6 : decode cX3_closeAll 6 = .ok (.aload_n 2, 1) := by decide +kernel
theorem dX3_closeAll_7 : decode cX3_closeAll 7 = .ok (.invokevirtual 71, 3) := by decide +kernel
theorem dX3_closeAll_10 : decode cX3_closeAll 10 = .ok (.ifCond .eq 5, 3) := by decide +kernel
theorem dX3_closeAll_13 : decode cX3_closeAll 13 = .ok (.iconst 0, 1) := by decide +kernel
theorem dX3_closeAll_14 : decode cX3_closeAll 14 = .ok (.ireturn, 1) := by decide +kernel
theorem dX3_closeAll_15 : decode cX3_closeAll 15 = .ok (.aload_n 2, 1) := by decide +kernel
theorem dX3_closeAll_16 : decode cX3_closeAll 16 = .ok (.getfield 68, 3) := by decide +kernel
theorem dX3_closeAll_19 : decode cX3_closeAll 19 = .ok (.ifCond .ne 11, 3) := by decide +kernel
theorem dX3_closeAll_22 : decode cX3_closeAll 22 = .ok (.aload_n 2, 1) := by decide +kernel
theorem dX3_closeAll_23 : decode cX3_closeAll 23 = .ok (.iconst 3, 1) := by decide +kernel
theorem dX3_closeAll_24 : decode cX3_closeAll 24 = .ok (.iconst 0, 1) := by decide +kernel
theorem dX3_closeAll_25 : decode cX3_closeAll 25 = .ok (.invokevirtual 134, 3) := by decide +kernel
theorem dX3_closeAll_28 : decode cX3_closeAll 28 = .ok (.iconst 0, 1) := by decide +kernel
theorem dX3_closeAll_29 : decode cX3_closeAll 29 = .ok (.ireturn, 1) := by decide +kernel
theorem dX3_closeAll_30 : decode cX3_closeAll 30 = .ok (.aload_n 0, 1) := by decide +kernel
theorem dX3_closeAll_31 : decode cX3_closeAll 31 = .ok (.iconst (-1), 1) := by decide +kernel
theorem dX3_closeAll_32 : decode cX3_closeAll 32 = .ok (.invokevirtual 111, 3) := by decide +kernel
theorem dX3_closeAll_35 : decode cX3_closeAll 35 = .ok (.aload_n 0, 1) := by decide +kernel
theorem dX3_closeAll_36 : decode cX3_closeAll 36 = .ok (.aload_n 2, 1) := by decide +kernel
theorem dX3_closeAll_37 : decode cX3_closeAll 37 = .ok (.invokevirtual 107, 3) := by decide +kernel
theorem dX3_closeAll_40 : decode cX3_closeAll 40 = .ok (.astore_n 3, 1) := by decide +kernel
theorem dX3_closeAll_41 : decode cX3_closeAll 41 = .ok (.aload_n 3, 1) := by decide +kernel
theorem dX3_closeAll_42 : decode cX3_closeAll 42 = .ok (.bipush 10, 2) := by decide +kernel
theorem dX3_closeAll_44 : decode cX3_closeAll 44 = .ok (.invokevirtual 131, 3) := by decide +kernel
theorem dX3_closeAll_47 : decode cX3_closeAll 47 = .ok (.aload_n 0, 1) := by decide +kernel
theorem dX3_closeAll_48 : decode cX3_closeAll 48 = .ok (.aload_n 3, 1) := by decide +kernel
theorem dX3_closeAll_49 : decode cX3_closeAll 49 = .ok (.aload_n 3, 1) := by decide +kernel
theorem dX3_closeAll_50 : decode cX3_closeAll 50 = .ok (.invokevirtual 123, 3) := by decide +kernel
theorem dX3_closeAll_53 : decode cX3_closeAll 53 = .ok (.aload_n 0, 1) := by decide +kernel
theorem dX3_closeAll_54 : decode cX3_closeAll 54 = .ok (.aload_n 3, 1) := by decide +kernel
theorem dX3_closeAll_55 : decode cX3_closeAll 55 = .ok (.invokevirtual 138, 3) := by decide +kernel
theorem dX3_closeAll_58 : decode cX3_closeAll 58 = .ok (.istore 4, 2) := by decide +kernel
theorem dX3_closeAll_60 : decode cX3_closeAll 60 = .ok (.iconst 0, 1) := by decide +kernel
theorem dX3_closeAll_61 : decode cX3_closeAll 61 = .ok (.istore 5, 2) := by decide +kernel
theorem dX3_closeAll_63 : decode cX3_closeAll 63 = .ok (.iload 5, 2) := by decide +kernel
theorem dX3_closeAll_65 : decode cX3_closeAll 65 = .ok (.bipush 24, 2) := by decide +kernel
theorem dX3_closeAll_67 : decode cX3_closeAll 67 = .ok (.if_icmp .ge 67, 3) := by decide +kernel
theorem dX3_closeAll_70 : decode cX3_closeAll 70 = .ok (.aload_n 3, 1) := by decide +kernel
theorem dX3_closeAll_71 : decode cX3_closeAll 71 = .ok (.aload_n 2, 1) := by decide +kernel
theorem dX3_closeAll_72 : decode cX3_closeAll 72 = .ok (.if_acmp .eq 62, 3) := by decide +kernel
theorem dX3_closeAll_75 : decode cX3_closeAll 75 = .ok (.aload_n 0, 1) := by decide +kernel
theorem dX3_closeAll_76 : decode cX3_closeAll 76 = .ok (.aload_n 3, 1) := by decide +kernel
theorem dX3_closeAll_77 : decode cX3_closeAll 77 = .ok (.getfield 141, 3) := by decide +kernel
theorem dX3_closeAll_80 : decode cX3_closeAll 80 = .ok (.invokevirtual 55, 3) := by decide +kernel
theorem dX3_closeAll_83 : decode cX3_closeAll 83 = .ok (.astore 6, 2) := by decide +kernel
theorem dX3_closeAll_85 : decode cX3_closeAll 85 = .ok (.aload_n 0, 1) := by decide +kernel
theorem dX3_closeAll_86 : decode cX3_closeAll 86 = .ok (.aload 6, 2) := by decide +kernel
theorem dX3_closeAll_88 : decode cX3_closeAll 88 = .ok (.aload_n 3, 1) := by decide +kernel
theorem dX3_closeAll_89 : decode cX3_closeAll 89 = .ok (.invokevirtual 144, 3) := by decide +kernel
theorem dX3_closeAll_92 : decode cX3_closeAll 92 = .ok (.aload 6, 2) := by decide +kernel
theorem dX3_closeAll_94 : decode cX3_closeAll 94 = .ok (.iload 4, 2) := by decide +kernel
theorem dX3_closeAll_96 : decode cX3_closeAll 96 = .ok (.ifCond .ne 8, 3) := by decide +kernel
theorem dX3_closeAll_99 : decode cX3_closeAll 99 = .ok (.bipush 10, 2) := by decide +kernel
theorem dX3_closeAll_101 : decode cX3_closeAll 101 = .ok (.goto 5, 3) := by decide +kernel
theorem dX3_closeAll_104 : decode cX3_closeAll 104 = .ok (.iload 4, 2) := by decide +kernel
theorem dX3_closeAll_106 : decode cX3_closeAll 106 = .ok (.invokevirtual 131, 3) := by decide +kernel
theorem dX3_closeAll_109 : decode cX3_closeAll 109 = .ok (.aload_n 0, 1) := by decide +kernel
theorem dX3_closeAll_110 : decode cX3_closeAll 110 = .ok (.aload 6, 2) := by decide +kernel
theorem dX3_closeAll_112 : decode cX3_closeAll 112 = .ok (.aload 6, 2) := by decide +kernel
theorem dX3_closeAll_114 : decode cX3_closeAll 114 = .ok (.invokevirtual 123, 3) := by decide +kernel
theorem dX3_closeAll_117 : decode cX3_closeAll 117 = .ok (.aload_n 0, 1) := by decide +kernel
theorem dX3_closeAll_118 : decode cX3_closeAll 118 = .ok (.aload 6, 2) := by decide +kernel
theorem dX3_closeAll_120 : decode cX3_closeAll 120 = .ok (.invokevirtual 138, 3) := by decide +kernel
theorem dX3_closeAll_123 : decode cX3_closeAll 123 = .ok (.istore 4, 2) := by decide +kernel
theorem dX3_closeAll_125 : decode cX3_closeAll 125 = .ok (.aload 6, 2) := by decide +kernel
theorem dX3_closeAll_127 : decode cX3_closeAll 127 = .ok (.astore_n 3, 1) := by decide +kernel
theorem dX3_closeAll_128 : decode cX3_closeAll 128 = .ok (.iinc 5 1, 3) := by decide +kernel
theorem dX3_closeAll_131 : decode cX3_closeAll 131 = .ok (.goto (-68), 3) := by decide +kernel
theorem dX3_closeAll_134 : decode cX3_closeAll 134 = .ok (.iload 4, 2) := by decide +kernel
theorem dX3_closeAll_136 : decode cX3_closeAll 136 = .ok (.ireturn, 1) := by decide +kernel
theorem dX3_endClose_0 : decode cX3_endClose 0 = .ok (.aload_n 1, 1) := by decide +kernel
theorem dX3_endClose_1 : decode cX3_endClose 1 = .ok (.getfield 68, 3) := by decide +kernel
theorem dX3_endClose_4 : decode cX3_endClose 4 = .ok (.iconst 4, 1) := by decide +kernel
theorem dX3_endClose_5 : decode cX3_endClose 5 = .ok (.if_icmp .ne 18, 3) := by decide +kernel
theorem dX3_endClose_8 : decode cX3_endClose 8 = .ok (.aload_n 1, 1) := by decide +kernel
theorem dX3_endClose_9 : decode cX3_endClose 9 = .ok (.getfield 117, 3) := by decide +kernel
theorem dX3_endClose_12 : decode cX3_endClose 12 = .ok (.bipush 10, 2) := by decide +kernel
theorem dX3_endClose_14 : decode cX3_endClose 14 = .ok (.if_icmp .ne 9, 3) := by decide +kernel
theorem dX3_endClose_17 : decode cX3_endClose 17 = .ok (.aload_n 1, 1) := by decide +kernel
theorem dX3_endClose_18 : decode cX3_endClose 18 = .ok (.iconst 3, 1) := by decide +kernel
theorem dX3_endClose_19 : decode cX3_endClose 19 = .ok (.iconst 0, 1) := by decide +kernel
theorem dX3_endClose_20 : decode cX3_endClose 20 = .ok (.invokevirtual 134, 3) := by decide +kernel
theorem dX3_endClose_23 : decode cX3_endClose 23 = .ok (.aload_n 1, 1) := by decide +kernel
theorem dX3_endClose_24 : decode cX3_endClose 24 = .ok (.getfield 68, 3) := by decide +kernel
theorem dX3_endClose_27 : decode cX3_endClose 27 = .ok (.iconst 3, 1) := by decide +kernel
theorem dX3_endClose_28 : decode cX3_endClose 28 = .ok (.if_icmp .ne 5, 3) := by decide +kernel
theorem dX3_endClose_31 : decode cX3_endClose 31 = .ok (.iconst 0, 1) := by decide +kernel
theorem dX3_endClose_32 : decode cX3_endClose 32 = .ok (.ireturn, 1) := by decide +kernel
theorem dX3_endClose_33 : decode cX3_endClose 33 = .ok (.aload_n 1, 1) := by decide +kernel
theorem dX3_endClose_34 : decode cX3_endClose 34 = .ok (.getfield 68, 3) := by decide +kernel
theorem dX3_endClose_37 : decode cX3_endClose 37 = .ok (.iconst 4, 1) := by decide +kernel
theorem dX3_endClose_38 : decode cX3_endClose 38 = .ok (.if_icmp .ne 10, 3) := by decide +kernel
theorem dX3_endClose_41 : decode cX3_endClose 41 = .ok (.aload_n 1, 1) := by decide +kernel
theorem dX3_endClose_42 : decode cX3_endClose 42 = .ok (.getfield 117, 3) := by decide +kernel
theorem dX3_endClose_45 : decode cX3_endClose 45 = .ok (.goto 5, 3) := by decide +kernel
theorem dX3_endClose_48 : decode cX3_endClose 48 = .ok (.bipush 8, 2) := by decide +kernel
theorem dX3_endClose_50 : decode cX3_endClose 50 = .ok (.ireturn, 1) := by decide +kernel
theorem dX3_doTurns_0 : decode cX3_doTurns 0 = .ok (.iconst 0, 1) := by decide +kernel
theorem dX3_doTurns_1 : decode cX3_doTurns 1 = .ok (.istore_n 2, 1) := by decide +kernel
theorem dX3_doTurns_2 : decode cX3_doTurns 2 = .ok (.iload_n 2, 1) := by decide +kernel
theorem dX3_doTurns_3 : decode cX3_doTurns 3 = .ok (.iload_n 1, 1) := by decide +kernel
theorem dX3_doTurns_4 : decode cX3_doTurns 4 = .ok (.if_icmp .ge 90, 3) := by decide +kernel
theorem dX3_doTurns_7 : decode cX3_doTurns 7 = .ok (.aload_n 0, 1) := by decide +kernel
theorem dX3_doTurns_8 : decode cX3_doTurns 8 = .ok (.getfield 27, 3) := by decide +kernel
theorem dX3_doTurns_11 : decode cX3_doTurns 11 = .ok (.getfield 75, 3) := by decide +kernel
theorem dX3_doTurns_14 : decode cX3_doTurns 14 = .ok (.ifCond .le 80, 3) := by decide +kernel
theorem dX3_doTurns_17 : decode cX3_doTurns 17 = .ok (.aload_n 0, 1) := by decide +kernel
theorem dX3_doTurns_18 : decode cX3_doTurns 18 = .ok (.aload_n 0, 1) := by decide +kernel
theorem dX3_doTurns_19 : decode cX3_doTurns 19 = .ok (.getfield 27, 3) := by decide +kernel
theorem dX3_doTurns_22 : decode cX3_doTurns 22 = .ok (.iconst 0, 1) := by decide +kernel
theorem dX3_doTurns_23 : decode cX3_doTurns 23 = .ok (.invokevirtual 78, 3) := by decide +kernel
theorem dX3_doTurns_26 : decode cX3_doTurns 26 = .ok (.invokevirtual 55, 3) := by decide +kernel
theorem dX3_doTurns_29 : decode cX3_doTurns 29 = .ok (.astore_n 3, 1) := by decide +kernel
theorem dX3_doTurns_30 : decode cX3_doTurns 30 = .ok (.aload_n 0, 1) := by decide +kernel
theorem dX3_doTurns_31 : decode cX3_doTurns 31 = .ok (.getfield 27, 3) := by decide +kernel
theorem dX3_doTurns_34 : decode cX3_doTurns 34 = .ok (.iconst 0, 1) := by decide +kernel
theorem dX3_doTurns_35 : decode cX3_doTurns 35 = .ok (.invokevirtual 147, 3) := by decide +kernel
theorem dX3_doTurns_38 : decode cX3_doTurns 38 = .ok (.aload_n 0, 1) := by decide +kernel
theorem dX3_doTurns_39 : decode cX3_doTurns 39 = .ok (.dup, 1) := by decide +kernel
theorem dX3_doTurns_40 : decode cX3_doTurns 40 = .ok (.getfield 48, 3) := by decide +kernel
theorem dX3_doTurns_43 : decode cX3_doTurns 43 = .ok (.iconst 1, 1) := by decide +kernel
theorem dX3_doTurns_44 : decode cX3_doTurns 44 = .ok (.iadd, 1) := by decide +kernel
theorem dX3_doTurns_45 : decode cX3_doTurns 45 = .ok (.putfield 48, 3) := by decide +kernel
theorem dX3_doTurns_48 : decode cX3_doTurns 48 = .ok (.aload_n 0, 1) := by decide +kernel
theorem dX3_doTurns_49 : decode cX3_doTurns 49 = .ok (.aload_n 3, 1) := by decide +kernel
theorem dX3_doTurns_50 : decode cX3_doTurns 50 = .ok (.getfield 101, 3) := by decide +kernel
theorem dX3_doTurns_53 : decode cX3_doTurns 53 = .ok (.invokevirtual 111, 3) := by decide +kernel
theorem dX3_doTurns_56 : decode cX3_doTurns 56 = .ok (.aload_n 0, 1) := by decide +kernel
theorem dX3_doTurns_57 : decode cX3_doTurns 57 = .ok (.aload_n 3, 1) := by decide +kernel
theorem dX3_doTurns_58 : decode cX3_doTurns 58 = .ok (.invokevirtual 107, 3) := by decide +kernel
theorem dX3_doTurns_61 : decode cX3_doTurns 61 = .ok (.astore 4, 2) := by decide +kernel
theorem dX3_doTurns_63 : decode cX3_doTurns 63 = .ok (.aload_n 0, 1) := by decide +kernel
theorem dX3_doTurns_64 : decode cX3_doTurns 64 = .ok (.aload 4, 2) := by decide +kernel
theorem dX3_doTurns_66 : decode cX3_doTurns 66 = .ok (.invokevirtual 150, 3) := by decide +kernel
theorem dX3_doTurns_69 : decode cX3_doTurns 69 = .ok (.aload_n 0, 1) := by decide +kernel
theorem dX3_doTurns_70 : decode cX3_doTurns 70 = .ok (.aload_n 3, 1) := by decide +kernel
theorem dX3_doTurns_71 : decode cX3_doTurns 71 = .ok (.aload 4, 2) := by decide +kernel
theorem dX3_doTurns_73 : decode cX3_doTurns 73 = .ok (.invokevirtual 123, 3) := by decide +kernel
theorem dX3_doTurns_76 : decode cX3_doTurns 76 = .ok (.aload_n 3, 1) := by decide +kernel
theorem dX3_doTurns_77 : decode cX3_doTurns 77 = .ok (.invokevirtual 71, 3) := by decide +kernel
theorem dX3_doTurns_80 : decode cX3_doTurns 80 = .ok (.ifCond .eq 8, 3) := by decide +kernel
theorem dX3_doTurns_83 : decode cX3_doTurns 83 = .ok (.aload_n 0, 1) := by decide +kernel
theorem dX3_doTurns_84 : decode cX3_doTurns 84 = .ok (.aload_n 3, 1) := by decide +kernel
theorem dX3_doTurns_85 : decode cX3_doTurns 85 = .ok (.invokevirtual 153, 3) := by decide +kernel
theorem dX3_doTurns_88 : decode cX3_doTurns 88 = .ok (.iinc 2 1, 3) := by decide +kernel
theorem dX3_doTurns_91 : decode cX3_doTurns 91 = .ok (.goto (-89), 3) := by decide +kernel
theorem dX3_doTurns_94 : decode cX3_doTurns 94 = .ok (.iload_n 2, 1) := by decide +kernel
theorem dX3_doTurns_95 : decode cX3_doTurns 95 = .ok (.ireturn, 1) := by decide +kernel
theorem dX3_beginTurn_0 : decode cX3_beginTurn 0 = .ok (.aload_n 1, 1) := by decide +kernel
theorem dX3_beginTurn_1 : decode cX3_beginTurn 1 = .ok (.getfield 68, 3) := by decide +kernel
theorem dX3_beginTurn_4 : decode cX3_beginTurn 4 = .ok (.ifCond .ne 9, 3) := by decide +kernel
theorem dX3_beginTurn_7 : decode cX3_beginTurn 7 = .ok (.aload_n 1, 1) := by decide +kernel
theorem dX3_beginTurn_8 : decode cX3_beginTurn 8 = .ok (.iconst 0, 1) := by decide +kernel
theorem dX3_beginTurn_9 : decode cX3_beginTurn 9 = .ok (.invokevirtual 114, 3) := by decide +kernel
theorem dX3_beginTurn_12 : decode cX3_beginTurn 12 = .ok (.return_, 1) := by decide +kernel
theorem dX3_beginTurn_13 : decode cX3_beginTurn 13 = .ok (.aload_n 0, 1) := by decide +kernel
theorem dX3_beginTurn_14 : decode cX3_beginTurn 14 = .ok (.invokevirtual 156, 3) := by decide +kernel
theorem dX3_beginTurn_17 : decode cX3_beginTurn 17 = .ok (.ifCond .eq 8, 3) := by decide +kernel
theorem dX3_beginTurn_20 : decode cX3_beginTurn 20 = .ok (.bipush 9, 2) := by decide +kernel
theorem dX3_beginTurn_22 : decode cX3_beginTurn 22 = .ok (.goto 8, 3) := by decide +kernel
theorem dX3_beginTurn_25 : decode cX3_beginTurn 25 = .ok (.aload_n 0, 1) := by decide +kernel
theorem dX3_beginTurn_26 : decode cX3_beginTurn 26 = .ok (.aload_n 1, 1) := by decide +kernel
theorem dX3_beginTurn_27 : decode cX3_beginTurn 27 = .ok (.invokevirtual 159, 3) := by decide +kernel
theorem dX3_beginTurn_30 : decode cX3_beginTurn 30 = .ok (.istore_n 2, 1) := by decide +kernel
theorem dX3_beginTurn_31 : decode cX3_beginTurn 31 = .ok (.iload_n 2, 1) := by decide +kernel
theorem dX3_beginTurn_32 : decode cX3_beginTurn 32 = .ok (.ifCond .eq 8, 3) := by decide +kernel
theorem dX3_beginTurn_35 : decode cX3_beginTurn 35 = .ok (.aload_n 1, 1) := by decide +kernel
theorem dX3_beginTurn_36 : decode cX3_beginTurn 36 = .ok (.iload_n 2, 1) := by decide +kernel
theorem dX3_beginTurn_37 : decode cX3_beginTurn 37 = .ok (.invokevirtual 131, 3) := by decide +kernel
theorem dX3_beginTurn_40 : decode cX3_beginTurn 40 = .ok (.return_, 1) := by decide +kernel
theorem dX3_wake_0 : decode cX3_wake 0 = .ok (.aload_n 0, 1) := by decide +kernel
theorem dX3_wake_1 : decode cX3_wake 1 = .ok (.getfield 34, 3) := by decide +kernel
theorem dX3_wake_4 : decode cX3_wake 4 = .ok (.aload_n 1, 1) := by decide +kernel
theorem dX3_wake_5 : decode cX3_wake 5 = .ok (.getfield 65, 3) := by decide +kernel
theorem dX3_wake_8 : decode cX3_wake 8 = .ok (.invokevirtual 162, 3) := by decide +kernel
theorem dX3_wake_11 : decode cX3_wake 11 = .ok (.aload_n 1, 1) := by decide +kernel
theorem dX3_wake_12 : decode cX3_wake 12 = .ok (.getfield 120, 3) := by decide +kernel
theorem dX3_wake_15 : decode cX3_wake 15 = .ok (.invokevirtual 165, 3) := by decide +kernel
theorem dX3_wake_18 : decode cX3_wake 18 = .ok (.bipush 13, 2) := by decide +kernel
theorem dX3_wake_20 : decode cX3_wake 20 = .ok (.if_icmp .ne 17, 3) := by decide +kernel
theorem dX3_wake_23 : decode cX3_wake 23 = .ok (.aload_n 0, 1) := by decide +kernel
theorem dX3_wake_24 : decode cX3_wake 24 = .ok (.aload_n 1, 1) := by decide +kernel
theorem dX3_wake_25 : decode cX3_wake 25 = .ok (.aload_n 0, 1) := by decide +kernel
theorem dX3_wake_26 : decode cX3_wake 26 = .ok (.aload_n 1, 1) := by decide +kernel
theorem dX3_wake_27 : decode cX3_wake 27 = .ok (.getfield 117, 3) := by decide +kernel
theorem dX3_wake_30 : decode cX3_wake 30 = .ok (.invokevirtual 55, 3) := by decide +kernel
theorem dX3_wake_33 : decode cX3_wake 33 = .ok (.invokevirtual 170, 3) := by decide +kernel
theorem dX3_wake_36 : decode cX3_wake 36 = .ok (.ireturn, 1) := by decide +kernel
theorem dX3_wake_37 : decode cX3_wake 37 = .ok (.aload_n 1, 1) := by decide +kernel
theorem dX3_wake_38 : decode cX3_wake 38 = .ok (.iconst 0, 1) := by decide +kernel
theorem dX3_wake_39 : decode cX3_wake 39 = .ok (.putfield 117, 3) := by decide +kernel
theorem dX3_wake_42 : decode cX3_wake 42 = .ok (.aload_n 1, 1) := by decide +kernel
theorem dX3_wake_43 : decode cX3_wake 43 = .ok (.aload_n 1, 1) := by decide +kernel
theorem dX3_wake_44 : decode cX3_wake 44 = .ok (.getfield 120, 3) := by decide +kernel
theorem dX3_wake_47 : decode cX3_wake 47 = .ok (.iconst 1, 1) := by decide +kernel
theorem dX3_wake_48 : decode cX3_wake 48 = .ok (.iadd, 1) := by decide +kernel
theorem dX3_wake_49 : decode cX3_wake 49 = .ok (.invokevirtual 114, 3) := by decide +kernel
theorem dX3_wake_52 : decode cX3_wake 52 = .ok (.iconst 0, 1) := by decide +kernel
theorem dX3_wake_53 : decode cX3_wake 53 = .ok (.ireturn, 1) := by decide +kernel
theorem dX3_takeOutcome_0 : decode cX3_takeOutcome 0 = .ok (.aload_n 2, 1) := by decide +kernel
theorem dX3_takeOutcome_1 : decode cX3_takeOutcome 1 = .ok (.getfield 68, 3) := by decide +kernel
theorem dX3_takeOutcome_4 : decode cX3_takeOutcome 4 = .ok (.iconst 4, 1) := by decide +kernel
theorem dX3_takeOutcome_5 : decode cX3_takeOutcome 5 = .ok (.if_icmp .ne 13, 3) := by decide +kernel
theorem dX3_takeOutcome_8 : decode cX3_takeOutcome 8 = .ok (.aload_n 2, 1) := by decide +kernel
theorem dX3_takeOutcome_9 : decode cX3_takeOutcome 9 = .ok (.getfield 117, 3) := by decide +kernel
theorem dX3_takeOutcome_12 : decode cX3_takeOutcome 12 = .ok (.bipush 9, 2) := by decide +kernel
theorem dX3_takeOutcome_14 : decode cX3_takeOutcome 14 = .ok (.invokestatic 174, 3) := by decide +kernel
theorem dX3_takeOutcome_17 : decode cX3_takeOutcome 17 = .ok (.ireturn, 1) := by decide +kernel
theorem dX3_takeOutcome_18 : decode cX3_takeOutcome 18 = .ok (.aload_n 1, 1) := by decide +kernel
theorem dX3_takeOutcome_19 : decode cX3_takeOutcome 19 = .ok (.aload_n 2, 1) := by decide +kernel
theorem dX3_takeOutcome_20 : decode cX3_takeOutcome 20 = .ok (.getfield 117, 3) := by decide +kernel
theorem dX3_takeOutcome_23 : decode cX3_takeOutcome 23 = .ok (.putfield 117, 3) := by decide +kernel
theorem dX3_takeOutcome_26 : decode cX3_takeOutcome 26 = .ok (.aload_n 1, 1) := by decide +kernel
theorem dX3_takeOutcome_27 : decode cX3_takeOutcome 27 = .ok (.aload_n 1, 1) := by decide +kernel
theorem dX3_takeOutcome_28 : decode cX3_takeOutcome 28 = .ok (.getfield 120, 3) := by decide +kernel
theorem dX3_takeOutcome_31 : decode cX3_takeOutcome 31 = .ok (.iconst 1, 1) := by decide +kernel
theorem dX3_takeOutcome_32 : decode cX3_takeOutcome 32 = .ok (.iadd, 1) := by decide +kernel
theorem dX3_takeOutcome_33 : decode cX3_takeOutcome 33 = .ok (.invokevirtual 114, 3) := by decide +kernel
theorem dX3_takeOutcome_36 : decode cX3_takeOutcome 36 = .ok (.iconst 0, 1) := by decide +kernel
theorem dX3_takeOutcome_37 : decode cX3_takeOutcome 37 = .ok (.ireturn, 1) := by decide +kernel
theorem dX3_tellOthers_0 : decode cX3_tellOthers 0 = .ok (.iconst 0, 1) := by decide +kernel
theorem dX3_tellOthers_1 : decode cX3_tellOthers 1 = .ok (.istore_n 2, 1) := by decide +kernel
theorem dX3_tellOthers_2 : decode cX3_tellOthers 2 = .ok (.aload_n 0, 1) := by decide +kernel
theorem dX3_tellOthers_3 : decode cX3_tellOthers 3 = .ok (.getfield 31, 3) := by decide +kernel
theorem dX3_tellOthers_6 : decode cX3_tellOthers 6 = .ok (.getfield 75, 3) := by decide +kernel
theorem dX3_tellOthers_9 : decode cX3_tellOthers 9 = .ok (.istore_n 3, 1) := by decide +kernel
end
section
theorem dX3_tellOthers_10 : decode cX3_tellOthers 10 = .ok (.iload_n 3, 1) := by decide +kernel
theorem dX3_tellOthers_11 : decode cX3_tellOthers 11 = .ok (.ifCond .le 67, 3) := by decide +kernel
theorem dX3_tellOthers_14 : decode cX3_tellOthers 14 = .ok (.aload_n 0, 1) := by decide +kernel
theorem dX3_tellOthers_15 : decode cX3_tellOthers 15 = .ok (.aload_n 0, 1) := by decide +kernel
theorem dX3_tellOthers_16 : decode cX3_tellOthers 16 = .ok (.getfield 31, 3) := by decide +kernel
theorem dX3_tellOthers_19 : decode cX3_tellOthers 19 = .ok (.iload_n 2, 1) := by decide +kernel
theorem dX3_tellOthers_20 : decode cX3_tellOthers 20 = .ok (.invokevirtual 78, 3) := by decide +kernel
theorem dX3_tellOthers_23 : decode cX3_tellOthers 23 = .ok (.invokevirtual 55, 3) := by decide +kernel
theorem dX3_tellOthers_26 : decode cX3_tellOthers 26 = .ok (.astore 4, 2) := by decide +kernel
theorem dX3_tellOthers_28 : decode cX3_tellOthers 28 = .ok (.aload 4, 2) := by decide +kernel
theorem dX3_tellOthers_30 : decode cX3_tellOthers 30 = .ok (.getfield 82, 3) := by decide +kernel
theorem dX3_tellOthers_33 : decode cX3_tellOthers 33 = .ok (.aload_n 1, 1) := by decide +kernel
theorem dX3_tellOthers_34 : decode cX3_tellOthers 34 = .ok (.getfield 101, 3) := by decide +kernel
theorem dX3_tellOthers_37 : decode cX3_tellOthers 37 = .ok (.if_icmp .ne 32, 3) := by decide +kernel
theorem dX3_tellOthers_40 : decode cX3_tellOthers 40 = .ok (.aload_n 0, 1) := by decide +kernel
theorem dX3_tellOthers_41 : decode cX3_tellOthers 41 = .ok (.getfield 31, 3) := by decide +kernel
theorem dX3_tellOthers_44 : decode cX3_tellOthers 44 = .ok (.iload_n 2, 1) := by decide +kernel
theorem dX3_tellOthers_45 : decode cX3_tellOthers 45 = .ok (.invokevirtual 147, 3) := by decide +kernel
theorem dX3_tellOthers_48 : decode cX3_tellOthers 48 = .ok (.aload 4, 2) := by decide +kernel
theorem dX3_tellOthers_50 : decode cX3_tellOthers 50 = .ok (.iconst (-1), 1) := by decide +kernel
theorem dX3_tellOthers_51 : decode cX3_tellOthers 51 = .ok (.putfield 82, 3) := by decide +kernel
theorem dX3_tellOthers_54 : decode cX3_tellOthers 54 = .ok (.aload_n 0, 1) := by decide +kernel
theorem dX3_tellOthers_55 : decode cX3_tellOthers 55 = .ok (.getfield 27, 3) := by decide +kernel
theorem dX3_tellOthers_58 : decode cX3_tellOthers 58 = .ok (.aload 4, 2) := by decide +kernel
theorem dX3_tellOthers_60 : decode cX3_tellOthers 60 = .ok (.getfield 101, 3) := by decide +kernel
theorem dX3_tellOthers_63 : decode cX3_tellOthers 63 = .ok (.invokevirtual 104, 3) := by decide +kernel
theorem dX3_tellOthers_66 : decode cX3_tellOthers 66 = .ok (.goto 6, 3) := by decide +kernel
theorem dX3_tellOthers_69 : decode cX3_tellOthers 69 = .ok (.iinc 2 1, 3) := by decide +kernel
theorem dX3_tellOthers_72 : decode cX3_tellOthers 72 = .ok (.iinc 3 (-1), 3) := by decide +kernel
theorem dX3_tellOthers_75 : decode cX3_tellOthers 75 = .ok (.goto (-65), 3) := by decide +kernel
theorem dX3_tellOthers_78 : decode cX3_tellOthers 78 = .ok (.iconst 0, 1) := by decide +kernel
theorem dX3_tellOthers_79 : decode cX3_tellOthers 79 = .ok (.istore_n 3, 1) := by decide +kernel
theorem dX3_tellOthers_80 : decode cX3_tellOthers 80 = .ok (.iload_n 3, 1) := by decide +kernel
theorem dX3_tellOthers_81 : decode cX3_tellOthers 81 = .ok (.aload_n 0, 1) := by decide +kernel
theorem dX3_tellOthers_82 : decode cX3_tellOthers 82 = .ok (.getfield 41, 3) := by decide +kernel
theorem dX3_tellOthers_85 : decode cX3_tellOthers 85 = .ok (.if_icmp .ge 47, 3) := by decide +kernel
theorem dX3_tellOthers_88 : decode cX3_tellOthers 88 = .ok (.aload_n 1, 1) := by decide +kernel
theorem dX3_tellOthers_89 : decode cX3_tellOthers 89 = .ok (.getfield 68, 3) := by decide +kernel
theorem dX3_tellOthers_92 : decode cX3_tellOthers 92 = .ok (.iconst 4, 1) := by decide +kernel
theorem dX3_tellOthers_93 : decode cX3_tellOthers 93 = .ok (.if_icmp .ne 39, 3) := by decide +kernel
theorem dX3_tellOthers_96 : decode cX3_tellOthers 96 = .ok (.aload_n 0, 1) := by decide +kernel
theorem dX3_tellOthers_97 : decode cX3_tellOthers 97 = .ok (.iload_n 3, 1) := by decide +kernel
theorem dX3_tellOthers_98 : decode cX3_tellOthers 98 = .ok (.iconst 1, 1) := by decide +kernel
theorem dX3_tellOthers_99 : decode cX3_tellOthers 99 = .ok (.invokevirtual 180, 3) := by decide +kernel
theorem dX3_tellOthers_102 : decode cX3_tellOthers 102 = .ok (.ifCond .eq 24, 3) := by decide +kernel
theorem dX3_tellOthers_105 : decode cX3_tellOthers 105 = .ok (.aload_n 0, 1) := by decide +kernel
theorem dX3_tellOthers_106 : decode cX3_tellOthers 106 = .ok (.iload_n 3, 1) := by decide +kernel
theorem dX3_tellOthers_107 : decode cX3_tellOthers 107 = .ok (.invokevirtual 55, 3) := by decide +kernel
theorem dX3_tellOthers_110 : decode cX3_tellOthers 110 = .ok (.getfield 183, 3) := by decide +kernel
theorem dX3_tellOthers_113 : decode cX3_tellOthers 113 = .ok (.aload_n 1, 1) := by decide +kernel
theorem dX3_tellOthers_114 : decode cX3_tellOthers 114 = .ok (.getfield 101, 3) := by decide +kernel
theorem dX3_tellOthers_117 : decode cX3_tellOthers 117 = .ok (.if_icmp .ne 9, 3) := by decide +kernel
theorem dX3_tellOthers_120 : decode cX3_tellOthers 120 = .ok (.aload_n 0, 1) := by decide +kernel
theorem dX3_tellOthers_121 : decode cX3_tellOthers 121 = .ok (.iload_n 3, 1) := by decide +kernel
theorem dX3_tellOthers_122 : decode cX3_tellOthers 122 = .ok (.invokevirtual 186, 3) := by decide +kernel
theorem dX3_tellOthers_125 : decode cX3_tellOthers 125 = .ok (.pop, 1) := by decide +kernel
theorem dX3_tellOthers_126 : decode cX3_tellOthers 126 = .ok (.iinc 3 1, 3) := by decide +kernel
theorem dX3_tellOthers_129 : decode cX3_tellOthers 129 = .ok (.goto (-49), 3) := by decide +kernel
theorem dX3_tellOthers_132 : decode cX3_tellOthers 132 = .ok (.return_, 1) := by decide +kernel
theorem dX3_askToCancel_0 : decode cX3_askToCancel 0 = .ok (.aload_n 0, 1) := by decide +kernel
theorem dX3_askToCancel_1 : decode cX3_askToCancel 1 = .ok (.iload_n 1, 1) := by decide +kernel
theorem dX3_askToCancel_2 : decode cX3_askToCancel 2 = .ok (.invokevirtual 55, 3) := by decide +kernel
theorem dX3_askToCancel_5 : decode cX3_askToCancel 5 = .ok (.astore_n 2, 1) := by decide +kernel
theorem dX3_askToCancel_6 : decode cX3_askToCancel 6 = .ok (.aload_n 2, 1) := by decide +kernel
theorem dX3_askToCancel_7 : decode cX3_askToCancel 7 = .ok (.invokevirtual 71, 3) := by decide +kernel
theorem dX3_askToCancel_10 : decode cX3_askToCancel 10 = .ok (.ifCond .eq 5, 3) := by decide +kernel
theorem dX3_askToCancel_13 : decode cX3_askToCancel 13 = .ok (.iconst 0, 1) := by decide +kernel
theorem dX3_askToCancel_14 : decode cX3_askToCancel 14 = .ok (.ireturn, 1) := by decide +kernel
theorem dX3_askToCancel_15 : decode cX3_askToCancel 15 = .ok (.aload_n 2, 1) := by decide +kernel
theorem dX3_askToCancel_16 : decode cX3_askToCancel 16 = .ok (.getfield 189, 3) := by decide +kernel
theorem dX3_askToCancel_19 : decode cX3_askToCancel 19 = .ok (.ifCond .ne 7, 3) := by decide +kernel
theorem dX3_askToCancel_22 : decode cX3_askToCancel 22 = .ok (.iconst 1, 1) := by decide +kernel
theorem dX3_askToCancel_23 : decode cX3_askToCancel 23 = .ok (.goto 4, 3) := by decide +kernel
theorem dX3_askToCancel_26 : decode cX3_askToCancel 26 = .ok (.iconst 0, 1) := by decide +kernel
theorem dX3_askToCancel_27 : decode cX3_askToCancel 27 = .ok (.istore_n 3, 1) := by decide +kernel
theorem dX3_askToCancel_28 : decode cX3_askToCancel 28 = .ok (.aload_n 2, 1) := by decide +kernel
theorem dX3_askToCancel_29 : decode cX3_askToCancel 29 = .ok (.iconst 1, 1) := by decide +kernel
theorem dX3_askToCancel_30 : decode cX3_askToCancel 30 = .ok (.putfield 189, 3) := by decide +kernel
theorem dX3_askToCancel_33 : decode cX3_askToCancel 33 = .ok (.aload_n 2, 1) := by decide +kernel
theorem dX3_askToCancel_34 : decode cX3_askToCancel 34 = .ok (.getfield 193, 3) := by decide +kernel
theorem dX3_askToCancel_37 : decode cX3_askToCancel 37 = .ok (.ifCond .ne 52, 3) := by decide +kernel
theorem dX3_askToCancel_40 : decode cX3_askToCancel 40 = .ok (.aload_n 2, 1) := by decide +kernel
theorem dX3_askToCancel_41 : decode cX3_askToCancel 41 = .ok (.getfield 196, 3) := by decide +kernel
theorem dX3_askToCancel_44 : decode cX3_askToCancel 44 = .ok (.iconst (-1), 1) := by decide +kernel
theorem dX3_askToCancel_45 : decode cX3_askToCancel 45 = .ok (.if_icmp .ne 11, 3) := by decide +kernel
theorem dX3_askToCancel_48 : decode cX3_askToCancel 48 = .ok (.aload_n 2, 1) := by decide +kernel
theorem dX3_askToCancel_49 : decode cX3_askToCancel 49 = .ok (.getfield 82, 3) := by decide +kernel
theorem dX3_askToCancel_52 : decode cX3_askToCancel 52 = .ok (.iconst (-1), 1) := by decide +kernel
theorem dX3_askToCancel_53 : decode cX3_askToCancel 53 = .ok (.if_icmp .eq 36, 3) := by decide +kernel
theorem dX3_askToCancel_56 : decode cX3_askToCancel 56 = .ok (.aload_n 0, 1) := by decide +kernel
theorem dX3_askToCancel_57 : decode cX3_askToCancel 57 = .ok (.getfield 31, 3) := by decide +kernel
theorem dX3_askToCancel_60 : decode cX3_askToCancel 60 = .ok (.aload_n 0, 1) := by decide +kernel
theorem dX3_askToCancel_61 : decode cX3_askToCancel 61 = .ok (.getfield 31, 3) := by decide +kernel
theorem dX3_askToCancel_64 : decode cX3_askToCancel 64 = .ok (.iload_n 1, 1) := by decide +kernel
theorem dX3_askToCancel_65 : decode cX3_askToCancel 65 = .ok (.invokevirtual 199, 3) := by decide +kernel
theorem dX3_askToCancel_68 : decode cX3_askToCancel 68 = .ok (.invokevirtual 147, 3) := by decide +kernel
theorem dX3_askToCancel_71 : decode cX3_askToCancel 71 = .ok (.aload_n 2, 1) := by decide +kernel
theorem dX3_askToCancel_72 : decode cX3_askToCancel 72 = .ok (.iconst (-1), 1) := by decide +kernel
theorem dX3_askToCancel_73 : decode cX3_askToCancel 73 = .ok (.putfield 196, 3) := by decide +kernel
theorem dX3_askToCancel_76 : decode cX3_askToCancel 76 = .ok (.aload_n 2, 1) := by decide +kernel
theorem dX3_askToCancel_77 : decode cX3_askToCancel 77 = .ok (.iconst (-1), 1) := by decide +kernel
theorem dX3_askToCancel_78 : decode cX3_askToCancel 78 = .ok (.putfield 82, 3) := by decide +kernel
theorem dX3_askToCancel_81 : decode cX3_askToCancel 81 = .ok (.aload_n 0, 1) := by decide +kernel
theorem dX3_askToCancel_82 : decode cX3_askToCancel 82 = .ok (.getfield 27, 3) := by decide +kernel
theorem dX3_askToCancel_85 : decode cX3_askToCancel 85 = .ok (.iload_n 1, 1) := by decide +kernel
theorem dX3_askToCancel_86 : decode cX3_askToCancel 86 = .ok (.invokevirtual 104, 3) := by decide +kernel
theorem dX3_askToCancel_89 : decode cX3_askToCancel 89 = .ok (.iload_n 3, 1) := by decide +kernel
theorem dX3_askToCancel_90 : decode cX3_askToCancel 90 = .ok (.ireturn, 1) := by decide +kernel
theorem dX3_oneTick_0 : decode cX3_oneTick 0 = .ok (.aload_n 0, 1) := by decide +kernel
theorem dX3_oneTick_1 : decode cX3_oneTick 1 = .ok (.dup, 1) := by decide +kernel
theorem dX3_oneTick_2 : decode cX3_oneTick 2 = .ok (.getfield 45, 3) := by decide +kernel
theorem dX3_oneTick_5 : decode cX3_oneTick 5 = .ok (.iconst 1, 1) := by decide +kernel
theorem dX3_oneTick_6 : decode cX3_oneTick 6 = .ok (.iadd, 1) := by decide +kernel
theorem dX3_oneTick_7 : decode cX3_oneTick 7 = .ok (.putfield 45, 3) := by decide +kernel
theorem dX3_oneTick_10 : decode cX3_oneTick 10 = .ok (.iconst 0, 1) := by decide +kernel
theorem dX3_oneTick_11 : decode cX3_oneTick 11 = .ok (.istore_n 1, 1) := by decide +kernel
theorem dX3_oneTick_12 : decode cX3_oneTick 12 = .ok (.iconst 0, 1) := by decide +kernel
theorem dX3_oneTick_13 : decode cX3_oneTick 13 = .ok (.istore_n 2, 1) := by decide +kernel
theorem dX3_oneTick_14 : decode cX3_oneTick 14 = .ok (.iload_n 2, 1) := by decide +kernel
theorem dX3_oneTick_15 : decode cX3_oneTick 15 = .ok (.aload_n 0, 1) := by decide +kernel
theorem dX3_oneTick_16 : decode cX3_oneTick 16 = .ok (.getfield 41, 3) := by decide +kernel
theorem dX3_oneTick_19 : decode cX3_oneTick 19 = .ok (.if_icmp .ge 50, 3) := by decide +kernel
theorem dX3_oneTick_22 : decode cX3_oneTick 22 = .ok (.aload_n 0, 1) := by decide +kernel
theorem dX3_oneTick_23 : decode cX3_oneTick 23 = .ok (.iload_n 2, 1) := by decide +kernel
theorem dX3_oneTick_24 : decode cX3_oneTick 24 = .ok (.invokevirtual 55, 3) := by decide +kernel
theorem dX3_oneTick_27 : decode cX3_oneTick 27 = .ok (.astore_n 3, 1) := by decide +kernel
theorem dX3_oneTick_28 : decode cX3_oneTick 28 = .ok (.aload_n 3, 1) := by decide +kernel
theorem dX3_oneTick_29 : decode cX3_oneTick 29 = .ok (.getfield 62, 3) := by decide +kernel
theorem dX3_oneTick_32 : decode cX3_oneTick 32 = .ok (.iconst 1, 1) := by decide +kernel
theorem dX3_oneTick_33 : decode cX3_oneTick 33 = .ok (.if_icmp .ne 30, 3) := by decide +kernel
theorem dX3_oneTick_36 : decode cX3_oneTick 36 = .ok (.aload_n 3, 1) := by decide +kernel
theorem dX3_oneTick_37 : decode cX3_oneTick 37 = .ok (.getfield 196, 3) := by decide +kernel
theorem dX3_oneTick_40 : decode cX3_oneTick 40 = .ok (.aload_n 0, 1) := by decide +kernel
theorem dX3_oneTick_41 : decode cX3_oneTick 41 = .ok (.getfield 45, 3) := by decide +kernel
theorem dX3_oneTick_44 : decode cX3_oneTick 44 = .ok (.if_icmp .ne 19, 3) := by decide +kernel
theorem dX3_oneTick_47 : decode cX3_oneTick 47 = .ok (.aload_n 3, 1) := by decide +kernel
theorem dX3_oneTick_48 : decode cX3_oneTick 48 = .ok (.iconst (-1), 1) := by decide +kernel
theorem dX3_oneTick_49 : decode cX3_oneTick 49 = .ok (.putfield 196, 3) := by decide +kernel
theorem dX3_oneTick_52 : decode cX3_oneTick 52 = .ok (.aload_n 0, 1) := by decide +kernel
theorem dX3_oneTick_53 : decode cX3_oneTick 53 = .ok (.getfield 27, 3) := by decide +kernel
theorem dX3_oneTick_56 : decode cX3_oneTick 56 = .ok (.iload_n 2, 1) := by decide +kernel
theorem dX3_oneTick_57 : decode cX3_oneTick 57 = .ok (.invokevirtual 104, 3) := by decide +kernel
theorem dX3_oneTick_60 : decode cX3_oneTick 60 = .ok (.iinc 1 1, 3) := by decide +kernel
theorem dX3_oneTick_63 : decode cX3_oneTick 63 = .ok (.iinc 2 1, 3) := by decide +kernel
theorem dX3_oneTick_66 : decode cX3_oneTick 66 = .ok (.goto (-52), 3) := by decide +kernel
theorem dX3_oneTick_69 : decode cX3_oneTick 69 = .ok (.iload_n 1, 1) := by decide +kernel
theorem dX3_oneTick_70 : decode cX3_oneTick 70 = .ok (.ireturn, 1) := by decide +kernel
theorem dX3_beginCall_0 : decode cX3_beginCall 0 = .ok (.aload_n 0, 1) := by decide +kernel
theorem dX3_beginCall_1 : decode cX3_beginCall 1 = .ok (.iload_n 1, 1) := by decide +kernel
theorem dX3_beginCall_2 : decode cX3_beginCall 2 = .ok (.putfield 202, 3) := by decide +kernel
theorem dX3_beginCall_5 : decode cX3_beginCall 5 = .ok (.aload_n 0, 1) := by decide +kernel
theorem dX3_beginCall_6 : decode cX3_beginCall 6 = .ok (.iconst 0, 1) := by decide +kernel
theorem dX3_beginCall_7 : decode cX3_beginCall 7 = .ok (.putfield 205, 3) := by decide +kernel
theorem dX3_beginCall_10 : decode cX3_beginCall 10 = .ok (.aload_n 0, 1) := by decide +kernel
theorem dX3_beginCall_11 : decode cX3_beginCall 11 = .ok (.iconst 0, 1) := by decide +kernel
theorem dX3_beginCall_12 : decode cX3_beginCall 12 = .ok (.putfield 208, 3) := by decide +kernel
theorem dX3_beginCall_15 : decode cX3_beginCall 15 = .ok (.return_, 1) := by decide +kernel
theorem dX3_inmostOf_0 : decode cX3_inmostOf 0 = .ok (.aload_n 1, 1) := by decide +kernel
theorem dX3_inmostOf_1 : decode cX3_inmostOf 1 = .ok (.astore_n 2, 1) := by decide +kernel
theorem dX3_inmostOf_2 : decode cX3_inmostOf 2 = .ok (.iconst 0, 1) := by decide +kernel
theorem dX3_inmostOf_3 : decode cX3_inmostOf 3 = .ok (.istore_n 3, 1) := by decide +kernel
theorem dX3_inmostOf_4 : decode cX3_inmostOf 4 = .ok (.iload_n 3, 1) := by decide +kernel
theorem dX3_inmostOf_5 : decode cX3_inmostOf 5 = .ok (.bipush 24, 2) := by decide +kernel
theorem dX3_inmostOf_7 : decode cX3_inmostOf 7 = .ok (.if_icmp .ge 29, 3) := by decide +kernel
theorem dX3_inmostOf_10 : decode cX3_inmostOf 10 = .ok (.aload_n 0, 1) := by decide +kernel
theorem dX3_inmostOf_11 : decode cX3_inmostOf 11 = .ok (.aload_n 2, 1) := by decide +kernel
theorem dX3_inmostOf_12 : decode cX3_inmostOf 12 = .ok (.getfield 211, 3) := by decide +kernel
theorem dX3_inmostOf_15 : decode cX3_inmostOf 15 = .ok (.invokevirtual 214, 3) := by decide +kernel
theorem dX3_inmostOf_18 : decode cX3_inmostOf 18 = .ok (.ifCond .eq 18, 3) := by decide +kernel
theorem dX3_inmostOf_21 : decode cX3_inmostOf 21 = .ok (.aload_n 0, 1) := by decide +kernel
theorem dX3_inmostOf_22 : decode cX3_inmostOf 22 = .ok (.aload_n 2, 1) := by decide +kernel
theorem dX3_inmostOf_23 : decode cX3_inmostOf 23 = .ok (.getfield 211, 3) := by decide +kernel
theorem dX3_inmostOf_26 : decode cX3_inmostOf 26 = .ok (.invokevirtual 55, 3) := by decide +kernel
theorem dX3_inmostOf_29 : decode cX3_inmostOf 29 = .ok (.astore_n 2, 1) := by decide +kernel
theorem dX3_inmostOf_30 : decode cX3_inmostOf 30 = .ok (.iinc 3 1, 3) := by decide +kernel
theorem dX3_inmostOf_33 : decode cX3_inmostOf 33 = .ok (.goto (-29), 3) := by decide +kernel
theorem dX3_inmostOf_36 : decode cX3_inmostOf 36 = .ok (.aload_n 2, 1) := by decide +kernel
theorem dX3_inmostOf_37 : decode cX3_inmostOf 37 = .ok (.areturn, 1) := by decide +kernel
theorem dX3_goOn_0 : decode cX3_goOn 0 = .ok (.aload_n 0, 1) := by decide +kernel
theorem dX3_goOn_1 : decode cX3_goOn 1 = .ok (.aload_n 2, 1) := by decide +kernel
theorem dX3_goOn_2 : decode cX3_goOn 2 = .ok (.putfield 38, 3) := by decide +kernel
theorem dX3_goOn_5 : decode cX3_goOn 5 = .ok (.aload_n 0, 1) := by decide +kernel
theorem dX3_goOn_6 : decode cX3_goOn 6 = .ok (.iconst 0, 1) := by decide +kernel
theorem dX3_goOn_7 : decode cX3_goOn 7 = .ok (.putfield 217, 3) := by decide +kernel
theorem dX3_goOn_10 : decode cX3_goOn 10 = .ok (.iconst 0, 1) := by decide +kernel
theorem dX3_goOn_11 : decode cX3_goOn 11 = .ok (.istore_n 3, 1) := by decide +kernel
theorem dX3_goOn_12 : decode cX3_goOn 12 = .ok (.iload_n 3, 1) := by decide +kernel
theorem dX3_goOn_13 : decode cX3_goOn 13 = .ok (.ldc 220, 2) := by decide +kernel
theorem dX3_goOn_15 : decode cX3_goOn 15 = .ok (.if_icmp .ge 89, 3) := by decide +kernel
theorem dX3_goOn_18 : decode cX3_goOn 18 = .ok (.aload_n 0, 1) := by decide +kernel
theorem dX3_goOn_19 : decode cX3_goOn 19 = .ok (.getfield 217, 3) := by decide +kernel
theorem dX3_goOn_22 : decode cX3_goOn 22 = .ok (.ifCond .ne 82, 3) := by decide +kernel
theorem dX3_goOn_25 : decode cX3_goOn 25 = .ok (.aload_n 1, 1) := by decide +kernel
theorem dX3_goOn_26 : decode cX3_goOn 26 = .ok (.invokevirtual 71, 3) := by decide +kernel
theorem dX3_goOn_29 : decode cX3_goOn 29 = .ok (.ifCond .ne 75, 3) := by decide +kernel
theorem dX3_goOn_32 : decode cX3_goOn 32 = .ok (.aload_n 0, 1) := by decide +kernel
theorem dX3_goOn_33 : decode cX3_goOn 33 = .ok (.getfield 38, 3) := by decide +kernel
theorem dX3_goOn_36 : decode cX3_goOn 36 = .ok (.astore 4, 2) := by decide +kernel
theorem dX3_goOn_38 : decode cX3_goOn 38 = .ok (.aload 4, 2) := by decide +kernel
theorem dX3_goOn_40 : decode cX3_goOn 40 = .ok (.invokevirtual 71, 3) := by decide +kernel
theorem dX3_goOn_43 : decode cX3_goOn 43 = .ok (.ifCond .eq 10, 3) := by decide +kernel
theorem dX3_goOn_46 : decode cX3_goOn 46 = .ok (.aload_n 0, 1) := by decide +kernel
theorem dX3_goOn_47 : decode cX3_goOn 47 = .ok (.invokevirtual 221, 3) := by decide +kernel
theorem dX3_goOn_50 : decode cX3_goOn 50 = .ok (.goto 48, 3) := by decide +kernel
theorem dX3_goOn_53 : decode cX3_goOn 53 = .ok (.aload_n 0, 1) := by decide +kernel
theorem dX3_goOn_54 : decode cX3_goOn 54 = .ok (.aload 4, 2) := by decide +kernel
theorem dX3_goOn_56 : decode cX3_goOn 56 = .ok (.invokevirtual 224, 3) := by decide +kernel
theorem dX3_goOn_59 : decode cX3_goOn 59 = .ok (.istore 5, 2) := by decide +kernel
theorem dX3_goOn_61 : decode cX3_goOn 61 = .ok (.iload 5, 2) := by decide +kernel
theorem dX3_goOn_63 : decode cX3_goOn 63 = .ok (.ifCond .ne 23, 3) := by decide +kernel
theorem dX3_goOn_66 : decode cX3_goOn 66 = .ok (.aload_n 0, 1) := by decide +kernel
theorem dX3_goOn_67 : decode cX3_goOn 67 = .ok (.aload 4, 2) := by decide +kernel
theorem dX3_goOn_69 : decode cX3_goOn 69 = .ok (.aload_n 0, 1) := by decide +kernel
theorem dX3_goOn_70 : decode cX3_goOn 70 = .ok (.getfield 34, 3) := by decide +kernel
theorem dX3_goOn_73 : decode cX3_goOn 73 = .ok (.aload 4, 2) := by decide +kernel
theorem dX3_goOn_75 : decode cX3_goOn 75 = .ok (.getfield 65, 3) := by decide +kernel
theorem dX3_goOn_78 : decode cX3_goOn 78 = .ok (.invokevirtual 162, 3) := by decide +kernel
theorem dX3_goOn_81 : decode cX3_goOn 81 = .ok (.invokevirtual 227, 3) := by decide +kernel
theorem dX3_goOn_84 : decode cX3_goOn 84 = .ok (.istore 5, 2) := by decide +kernel
theorem dX3_goOn_86 : decode cX3_goOn 86 = .ok (.iload 5, 2) := by decide +kernel
theorem dX3_goOn_88 : decode cX3_goOn 88 = .ok (.ifCond .eq 10, 3) := by decide +kernel
theorem dX3_goOn_91 : decode cX3_goOn 91 = .ok (.aload 4, 2) := by decide +kernel
theorem dX3_goOn_93 : decode cX3_goOn 93 = .ok (.iload 5, 2) := by decide +kernel
theorem dX3_goOn_95 : decode cX3_goOn 95 = .ok (.invokevirtual 131, 3) := by decide +kernel
theorem dX3_goOn_98 : decode cX3_goOn 98 = .ok (.iinc 3 1, 3) := by decide +kernel
theorem dX3_goOn_101 : decode cX3_goOn 101 = .ok (.goto (-89), 3) := by decide +kernel
theorem dX3_goOn_104 : decode cX3_goOn 104 = .ok (.return_, 1) := by decide +kernel
theorem dX3_wayInstead_0 : decode cX3_wayInstead 0 = .ok (.aload_n 0, 1) := by decide +kernel
theorem dX3_wayInstead_1 : decode cX3_wayInstead 1 = .ok (.getfield 34, 3) := by decide +kernel
theorem dX3_wayInstead_4 : decode cX3_wayInstead 4 = .ok (.aload_n 1, 1) := by decide +kernel
theorem dX3_wayInstead_5 : decode cX3_wayInstead 5 = .ok (.getfield 65, 3) := by decide +kernel
theorem dX3_wayInstead_8 : decode cX3_wayInstead 8 = .ok (.invokevirtual 162, 3) := by decide +kernel
theorem dX3_wayInstead_11 : decode cX3_wayInstead 11 = .ok (.aload_n 1, 1) := by decide +kernel
theorem dX3_wayInstead_12 : decode cX3_wayInstead 12 = .ok (.getfield 120, 3) := by decide +kernel
theorem dX3_wayInstead_15 : decode cX3_wayInstead 15 = .ok (.invokevirtual 231, 3) := by decide +kernel
theorem dX3_wayInstead_18 : decode cX3_wayInstead 18 = .ok (.ifCond .ne 8, 3) := by decide +kernel
theorem dX3_wayInstead_21 : decode cX3_wayInstead 21 = .ok (.aload_n 1, 1) := by decide +kernel
theorem dX3_wayInstead_22 : decode cX3_wayInstead 22 = .ok (.invokevirtual 234, 3) := by decide +kernel
theorem dX3_wayInstead_25 : decode cX3_wayInstead 25 = .ok (.ireturn, 1) := by decide +kernel
theorem dX3_wayInstead_26 : decode cX3_wayInstead 26 = .ok (.aload_n 0, 1) := by decide +kernel
theorem dX3_wayInstead_27 : decode cX3_wayInstead 27 = .ok (.getfield 205, 3) := by decide +kernel
theorem dX3_wayInstead_30 : decode cX3_wayInstead 30 = .ok (.sipush 200, 3) := by decide +kernel
theorem dX3_wayInstead_33 : decode cX3_wayInstead 33 = .ok (.if_icmp .lt 18, 3) := by decide +kernel
theorem dX3_wayInstead_36 : decode cX3_wayInstead 36 = .ok (.aload_n 0, 1) := by decide +kernel
theorem dX3_wayInstead_37 : decode cX3_wayInstead 37 = .ok (.getfield 208, 3) := by decide +kernel
theorem dX3_wayInstead_40 : decode cX3_wayInstead 40 = .ok (.ifCond .ne 11, 3) := by decide +kernel
theorem dX3_wayInstead_43 : decode cX3_wayInstead 43 = .ok (.aload_n 0, 1) := by decide +kernel
theorem dX3_wayInstead_44 : decode cX3_wayInstead 44 = .ok (.iconst 1, 1) := by decide +kernel
theorem dX3_wayInstead_45 : decode cX3_wayInstead 45 = .ok (.putfield 208, 3) := by decide +kernel
theorem dX3_wayInstead_48 : decode cX3_wayInstead 48 = .ok (.bipush 11, 2) := by decide +kernel
theorem dX3_wayInstead_50 : decode cX3_wayInstead 50 = .ok (.ireturn, 1) := by decide +kernel
theorem dX3_wayInstead_51 : decode cX3_wayInstead 51 = .ok (.aload_n 0, 1) := by decide +kernel
theorem dX3_wayInstead_52 : decode cX3_wayInstead 52 = .ok (.getfield 205, 3) := by decide +kernel
theorem dX3_wayInstead_55 : decode cX3_wayInstead 55 = .ok (.sipush 300, 3) := by decide +kernel
theorem dX3_wayInstead_58 : decode cX3_wayInstead 58 = .ok (.if_icmp .lt 14, 3) := by decide +kernel
theorem dX3_wayInstead_61 : decode cX3_wayInstead 61 = .ok (.aload_n 1, 1) := by decide +kernel
theorem dX3_wayInstead_62 : decode cX3_wayInstead 62 = .ok (.getfield 238, 3) := by decide +kernel
theorem dX3_wayInstead_65 : decode cX3_wayInstead 65 = .ok (.iconst 0, 1) := by decide +kernel
theorem dX3_wayInstead_66 : decode cX3_wayInstead 66 = .ok (.putfield 242, 3) := by decide +kernel
theorem dX3_wayInstead_69 : decode cX3_wayInstead 69 = .ok (.bipush 11, 2) := by decide +kernel
theorem dX3_wayInstead_71 : decode cX3_wayInstead 71 = .ok (.ireturn, 1) := by decide +kernel
theorem dX3_wayInstead_72 : decode cX3_wayInstead 72 = .ok (.aload_n 0, 1) := by decide +kernel
theorem dX3_wayInstead_73 : decode cX3_wayInstead 73 = .ok (.dup, 1) := by decide +kernel
theorem dX3_wayInstead_74 : decode cX3_wayInstead 74 = .ok (.getfield 205, 3) := by decide +kernel
theorem dX3_wayInstead_77 : decode cX3_wayInstead 77 = .ok (.iconst 1, 1) := by decide +kernel
theorem dX3_wayInstead_78 : decode cX3_wayInstead 78 = .ok (.iadd, 1) := by decide +kernel
theorem dX3_wayInstead_79 : decode cX3_wayInstead 79 = .ok (.putfield 205, 3) := by decide +kernel
theorem dX3_wayInstead_82 : decode cX3_wayInstead 82 = .ok (.aload_n 1, 1) := by decide +kernel
theorem dX3_wayInstead_83 : decode cX3_wayInstead 83 = .ok (.dup, 1) := by decide +kernel
theorem dX3_wayInstead_84 : decode cX3_wayInstead 84 = .ok (.getfield 85, 3) := by decide +kernel
theorem dX3_wayInstead_87 : decode cX3_wayInstead 87 = .ok (.iconst 1, 1) := by decide +kernel
theorem dX3_wayInstead_88 : decode cX3_wayInstead 88 = .ok (.iadd, 1) := by decide +kernel
theorem dX3_wayInstead_89 : decode cX3_wayInstead 89 = .ok (.putfield 85, 3) := by decide +kernel
theorem dX3_wayInstead_92 : decode cX3_wayInstead 92 = .ok (.iconst 0, 1) := by decide +kernel
theorem dX3_wayInstead_93 : decode cX3_wayInstead 93 = .ok (.ireturn, 1) := by decide +kernel
theorem dX3_backToOuter_0 : decode cX3_backToOuter 0 = .ok (.aload_n 0, 1) := by decide +kernel
theorem dX3_backToOuter_1 : decode cX3_backToOuter 1 = .ok (.getfield 38, 3) := by decide +kernel
theorem dX3_backToOuter_4 : decode cX3_backToOuter 4 = .ok (.astore_n 1, 1) := by decide +kernel
theorem dX3_backToOuter_5 : decode cX3_backToOuter 5 = .ok (.aload_n 0, 1) := by decide +kernel
theorem dX3_backToOuter_6 : decode cX3_backToOuter 6 = .ok (.aload_n 1, 1) := by decide +kernel
theorem dX3_backToOuter_7 : decode cX3_backToOuter 7 = .ok (.getfield 141, 3) := by decide +kernel
theorem dX3_backToOuter_10 : decode cX3_backToOuter 10 = .ok (.invokevirtual 55, 3) := by decide +kernel
theorem dX3_backToOuter_13 : decode cX3_backToOuter 13 = .ok (.astore_n 2, 1) := by decide +kernel
theorem dX3_backToOuter_14 : decode cX3_backToOuter 14 = .ok (.aload_n 0, 1) := by decide +kernel
theorem dX3_backToOuter_15 : decode cX3_backToOuter 15 = .ok (.aload_n 2, 1) := by decide +kernel
theorem dX3_backToOuter_16 : decode cX3_backToOuter 16 = .ok (.aload_n 1, 1) := by decide +kernel
theorem dX3_backToOuter_17 : decode cX3_backToOuter 17 = .ok (.invokevirtual 144, 3) := by decide +kernel
theorem dX3_backToOuter_20 : decode cX3_backToOuter 20 = .ok (.aload_n 1, 1) := by decide +kernel
theorem dX3_backToOuter_21 : decode cX3_backToOuter 21 = .ok (.getfield 68, 3) := by decide +kernel
theorem dX3_backToOuter_24 : decode cX3_backToOuter 24 = .ok (.iconst 3, 1) := by decide +kernel
theorem dX3_backToOuter_25 : decode cX3_backToOuter 25 = .ok (.if_icmp .ne 24, 3) := by decide +kernel
theorem dX3_backToOuter_28 : decode cX3_backToOuter 28 = .ok (.aload_n 2, 1) := by decide +kernel
theorem dX3_backToOuter_29 : decode cX3_backToOuter 29 = .ok (.aload_n 1, 1) := by decide +kernel
theorem dX3_backToOuter_30 : decode cX3_backToOuter 30 = .ok (.getfield 117, 3) := by decide +kernel
theorem dX3_backToOuter_33 : decode cX3_backToOuter 33 = .ok (.putfield 117, 3) := by decide +kernel
theorem dX3_backToOuter_36 : decode cX3_backToOuter 36 = .ok (.aload_n 2, 1) := by decide +kernel
theorem dX3_backToOuter_37 : decode cX3_backToOuter 37 = .ok (.aload_n 2, 1) := by decide +kernel
theorem dX3_backToOuter_38 : decode cX3_backToOuter 38 = .ok (.getfield 120, 3) := by decide +kernel
theorem dX3_backToOuter_41 : decode cX3_backToOuter 41 = .ok (.iconst 1, 1) := by decide +kernel
theorem dX3_backToOuter_42 : decode cX3_backToOuter 42 = .ok (.iadd, 1) := by decide +kernel
theorem dX3_backToOuter_43 : decode cX3_backToOuter 43 = .ok (.invokevirtual 114, 3) := by decide +kernel
theorem dX3_backToOuter_46 : decode cX3_backToOuter 46 = .ok (.goto 11, 3) := by decide +kernel
theorem dX3_backToOuter_49 : decode cX3_backToOuter 49 = .ok (.aload_n 2, 1) := by decide +kernel
theorem dX3_backToOuter_50 : decode cX3_backToOuter 50 = .ok (.aload_n 1, 1) := by decide +kernel
theorem dX3_backToOuter_51 : decode cX3_backToOuter 51 = .ok (.getfield 117, 3) := by decide +kernel
theorem dX3_backToOuter_54 : decode cX3_backToOuter 54 = .ok (.invokevirtual 131, 3) := by decide +kernel
theorem dX3_backToOuter_57 : decode cX3_backToOuter 57 = .ok (.aload_n 0, 1) := by decide +kernel
theorem dX3_backToOuter_58 : decode cX3_backToOuter 58 = .ok (.aload_n 2, 1) := by decide +kernel
theorem dX3_backToOuter_59 : decode cX3_backToOuter 59 = .ok (.putfield 38, 3) := by decide +kernel
theorem dX3_backToOuter_62 : decode cX3_backToOuter 62 = .ok (.return_, 1) := by decide +kernel
theorem dX3_part_0 : decode cX3_part 0 = .ok (.aload_n 1, 1) := by decide +kernel
theorem dX3_part_1 : decode cX3_part 1 = .ok (.iconst (-1), 1) := by decide +kernel
theorem dX3_part_2 : decode cX3_part 2 = .ok (.putfield 211, 3) := by decide +kernel
theorem dX3_part_5 : decode cX3_part 5 = .ok (.aload_n 2, 1) := by decide +kernel
theorem dX3_part_6 : decode cX3_part 6 = .ok (.iconst (-1), 1) := by decide +kernel
theorem dX3_part_7 : decode cX3_part 7 = .ok (.putfield 141, 3) := by decide +kernel
theorem dX3_part_10 : decode cX3_part 10 = .ok (.return_, 1) := by decide +kernel
theorem dX3_doLine_0 : decode cX3_doLine 0 = .ok (.aload_n 2, 1) := by decide +kernel
theorem dX3_doLine_1 : decode cX3_doLine 1 = .ok (.aload_n 1, 1) := by decide +kernel
theorem dX3_doLine_2 : decode cX3_doLine 2 = .ok (.getfield 120, 3) := by decide +kernel
theorem dX3_doLine_5 : decode cX3_doLine 5 = .ok (.invokevirtual 165, 3) := by decide +kernel
theorem dX3_doLine_8 : decode cX3_doLine 8 = .ok (.istore_n 3, 1) := by decide +kernel
theorem dX3_doLine_9 : decode cX3_doLine 9 = .ok (.aload_n 2, 1) := by decide +kernel
theorem dX3_doLine_10 : decode cX3_doLine 10 = .ok (.aload_n 1, 1) := by decide +kernel
theorem dX3_doLine_11 : decode cX3_doLine 11 = .ok (.getfield 120, 3) := by decide +kernel
theorem dX3_doLine_14 : decode cX3_doLine 14 = .ok (.invokevirtual 245, 3) := by decide +kernel
theorem dX3_doLine_17 : decode cX3_doLine 17 = .ok (.istore 4, 2) := by decide +kernel
theorem dX3_doLine_19 : decode cX3_doLine 19 = .ok (.iload_n 3, 1) := by decide +kernel
theorem dX3_doLine_20 : decode cX3_doLine 20 = .ok (.tableswitch 112 3 15 #[68, 112, 112, 112, 112, 112, 112, 74, 112, 82, 90, 96, 104], 68) := by decide +kernel
theorem dX3_doLine_88 : decode cX3_doLine 88 = .ok (.aload_n 0, 1) := by decide +kernel
theorem dX3_doLine_89 : decode cX3_doLine 89 = .ok (.aload_n 1, 1) := by decide +kernel
theorem dX3_doLine_90 : decode cX3_doLine 90 = .ok (.invokevirtual 248, 3) := by decide +kernel
theorem dX3_doLine_93 : decode cX3_doLine 93 = .ok (.ireturn, 1) := by decide +kernel
theorem dX3_doLine_94 : decode cX3_doLine 94 = .ok (.aload_n 0, 1) := by decide +kernel
theorem dX3_doLine_95 : decode cX3_doLine 95 = .ok (.aload_n 1, 1) := by decide +kernel
theorem dX3_doLine_96 : decode cX3_doLine 96 = .ok (.iload 4, 2) := by decide +kernel
theorem dX3_doLine_98 : decode cX3_doLine 98 = .ok (.invokevirtual 251, 3) := by decide +kernel
theorem dX3_doLine_101 : decode cX3_doLine 101 = .ok (.ireturn, 1) := by decide +kernel
theorem dX3_doLine_102 : decode cX3_doLine 102 = .ok (.aload_n 0, 1) := by decide +kernel
theorem dX3_doLine_103 : decode cX3_doLine 103 = .ok (.aload_n 1, 1) := by decide +kernel
theorem dX3_doLine_104 : decode cX3_doLine 104 = .ok (.iload 4, 2) := by decide +kernel
theorem dX3_doLine_106 : decode cX3_doLine 106 = .ok (.invokevirtual 255, 3) := by decide +kernel
theorem dX3_doLine_109 : decode cX3_doLine 109 = .ok (.ireturn, 1) := by decide +kernel
theorem dX3_doLine_110 : decode cX3_doLine 110 = .ok (.aload_n 0, 1) := by decide +kernel
theorem dX3_doLine_111 : decode cX3_doLine 111 = .ok (.aload_n 1, 1) := by decide +kernel
theorem dX3_doLine_112 : decode cX3_doLine 112 = .ok (.invokevirtual 258, 3) := by decide +kernel
theorem dX3_doLine_115 : decode cX3_doLine 115 = .ok (.ireturn, 1) := by decide +kernel
theorem dX3_doLine_116 : decode cX3_doLine 116 = .ok (.aload_n 0, 1) := by decide +kernel
theorem dX3_doLine_117 : decode cX3_doLine 117 = .ok (.aload_n 1, 1) := by decide +kernel
theorem dX3_doLine_118 : decode cX3_doLine 118 = .ok (.iload 4, 2) := by decide +kernel
theorem dX3_doLine_120 : decode cX3_doLine 120 = .ok (.invokevirtual 261, 3) := by decide +kernel
theorem dX3_doLine_123 : decode cX3_doLine 123 = .ok (.ireturn, 1) := by decide +kernel
theorem dX3_doLine_124 : decode cX3_doLine 124 = .ok (.aload_n 0, 1) := by decide +kernel
theorem dX3_doLine_125 : decode cX3_doLine 125 = .ok (.aload_n 1, 1) := by decide +kernel
theorem dX3_doLine_126 : decode cX3_doLine 126 = .ok (.iload 4, 2) := by decide +kernel
theorem dX3_doLine_128 : decode cX3_doLine 128 = .ok (.invokevirtual 264, 3) := by decide +kernel
theorem dX3_doLine_131 : decode cX3_doLine 131 = .ok (.ireturn, 1) := by decide +kernel
theorem dX3_doLine_132 : decode cX3_doLine 132 = .ok (.aload_n 1, 1) := by decide +kernel
theorem dX3_doLine_133 : decode cX3_doLine 133 = .ok (.iload_n 3, 1) := by decide +kernel
theorem dX3_doLine_134 : decode cX3_doLine 134 = .ok (.iload 4, 2) := by decide +kernel
theorem dX3_doLine_136 : decode cX3_doLine 136 = .ok (.aload_n 2, 1) := by decide +kernel
theorem dX3_doLine_137 : decode cX3_doLine 137 = .ok (.aload_n 1, 1) := by decide +kernel
theorem dX3_doLine_138 : decode cX3_doLine 138 = .ok (.getfield 120, 3) := by decide +kernel
theorem dX3_doLine_141 : decode cX3_doLine 141 = .ok (.invokevirtual 267, 3) := by decide +kernel
theorem dX3_doLine_144 : decode cX3_doLine 144 = .ok (.invokevirtual 270, 3) := by decide +kernel
theorem dX3_doLine_147 : decode cX3_doLine 147 = .ok (.ireturn, 1) := by decide +kernel
theorem dX3_doYield_0 : decode cX3_doYield 0 = .ok (.aload_n 0, 1) := by decide +kernel
theorem dX3_doYield_1 : decode cX3_doYield 1 = .ok (.getfield 202, 3) := by decide +kernel
theorem dX3_doYield_4 : decode cX3_doYield 4 = .ok (.iconst (-1), 1) := by decide +kernel
theorem dX3_doYield_5 : decode cX3_doYield 5 = .ok (.if_icmp .eq 24, 3) := by decide +kernel
theorem dX3_doYield_8 : decode cX3_doYield 8 = .ok (.aload_n 0, 1) := by decide +kernel
theorem dX3_doYield_9 : decode cX3_doYield 9 = .ok (.invokevirtual 156, 3) := by decide +kernel
theorem dX3_doYield_12 : decode cX3_doYield 12 = .ok (.ifCond .eq 6, 3) := by decide +kernel
theorem dX3_doYield_15 : decode cX3_doYield 15 = .ok (.bipush 9, 2) := by decide +kernel
theorem dX3_doYield_17 : decode cX3_doYield 17 = .ok (.ireturn, 1) := by decide +kernel
theorem dX3_doYield_18 : decode cX3_doYield 18 = .ok (.aload_n 0, 1) := by decide +kernel
theorem dX3_doYield_19 : decode cX3_doYield 19 = .ok (.getfield 27, 3) := by decide +kernel
theorem dX3_doYield_22 : decode cX3_doYield 22 = .ok (.aload_n 0, 1) := by decide +kernel
theorem dX3_doYield_23 : decode cX3_doYield 23 = .ok (.getfield 202, 3) := by decide +kernel
theorem dX3_doYield_26 : decode cX3_doYield 26 = .ok (.invokevirtual 104, 3) := by decide +kernel
theorem dX3_doYield_29 : decode cX3_doYield 29 = .ok (.aload_n 0, 1) := by decide +kernel
theorem dX3_doYield_30 : decode cX3_doYield 30 = .ok (.aload_n 1, 1) := by decide +kernel
theorem dX3_doYield_31 : decode cX3_doYield 31 = .ok (.invokevirtual 274, 3) := by decide +kernel
theorem dX3_doYield_34 : decode cX3_doYield 34 = .ok (.iconst 0, 1) := by decide +kernel
theorem dX3_doYield_35 : decode cX3_doYield 35 = .ok (.ireturn, 1) := by decide +kernel
theorem dX3_doFrom_0 : decode cX3_doFrom 0 = .ok (.aload_n 0, 1) := by decide +kernel
theorem dX3_doFrom_1 : decode cX3_doFrom 1 = .ok (.iload_n 2, 1) := by decide +kernel
theorem dX3_doFrom_2 : decode cX3_doFrom 2 = .ok (.invokevirtual 277, 3) := by decide +kernel
theorem dX3_doFrom_5 : decode cX3_doFrom 5 = .ok (.ifCond .ne 5, 3) := by decide +kernel
theorem dX3_doFrom_8 : decode cX3_doFrom 8 = .ok (.iconst 4, 1) := by decide +kernel
theorem dX3_doFrom_9 : decode cX3_doFrom 9 = .ok (.ireturn, 1) := by decide +kernel
theorem dX3_doFrom_10 : decode cX3_doFrom 10 = .ok (.aload_n 0, 1) := by decide +kernel
theorem dX3_doFrom_11 : decode cX3_doFrom 11 = .ok (.iload_n 2, 1) := by decide +kernel
theorem dX3_doFrom_12 : decode cX3_doFrom 12 = .ok (.iconst 2, 1) := by decide +kernel
theorem dX3_doFrom_13 : decode cX3_doFrom 13 = .ok (.iconst (-1), 1) := by decide +kernel
theorem dX3_doFrom_14 : decode cX3_doFrom 14 = .ok (.invokevirtual 280, 3) := by decide +kernel
theorem dX3_doFrom_17 : decode cX3_doFrom 17 = .ok (.astore_n 3, 1) := by decide +kernel
theorem dX3_doFrom_18 : decode cX3_doFrom 18 = .ok (.aload_n 3, 1) := by decide +kernel
theorem dX3_doFrom_19 : decode cX3_doFrom 19 = .ok (.aload_n 1, 1) := by decide +kernel
theorem dX3_doFrom_20 : decode cX3_doFrom 20 = .ok (.getfield 101, 3) := by decide +kernel
theorem dX3_doFrom_23 : decode cX3_doFrom 23 = .ok (.putfield 141, 3) := by decide +kernel
theorem dX3_doFrom_26 : decode cX3_doFrom 26 = .ok (.aload_n 1, 1) := by decide +kernel
theorem dX3_doFrom_27 : decode cX3_doFrom 27 = .ok (.aload_n 3, 1) := by decide +kernel
theorem dX3_doFrom_28 : decode cX3_doFrom 28 = .ok (.getfield 101, 3) := by decide +kernel
theorem dX3_doFrom_31 : decode cX3_doFrom 31 = .ok (.putfield 211, 3) := by decide +kernel
theorem dX3_doFrom_34 : decode cX3_doFrom 34 = .ok (.aload_n 1, 1) := by decide +kernel
theorem dX3_doFrom_35 : decode cX3_doFrom 35 = .ok (.iconst 1, 1) := by decide +kernel
theorem dX3_doFrom_36 : decode cX3_doFrom 36 = .ok (.putfield 68, 3) := by decide +kernel
theorem dX3_doFrom_39 : decode cX3_doFrom 39 = .ok (.aload_n 3, 1) := by decide +kernel
theorem dX3_doFrom_40 : decode cX3_doFrom 40 = .ok (.iconst 0, 1) := by decide +kernel
theorem dX3_doFrom_41 : decode cX3_doFrom 41 = .ok (.invokevirtual 114, 3) := by decide +kernel
theorem dX3_doFrom_44 : decode cX3_doFrom 44 = .ok (.aload_n 0, 1) := by decide +kernel
theorem dX3_doFrom_45 : decode cX3_doFrom 45 = .ok (.aload_n 3, 1) := by decide +kernel
theorem dX3_doFrom_46 : decode cX3_doFrom 46 = .ok (.putfield 38, 3) := by decide +kernel
theorem dX3_doFrom_49 : decode cX3_doFrom 49 = .ok (.iconst 0, 1) := by decide +kernel
theorem dX3_doFrom_50 : decode cX3_doFrom 50 = .ok (.ireturn, 1) := by decide +kernel
theorem dX3_doSleep_0 : decode cX3_doSleep 0 = .ok (.aload_n 0, 1) := by decide +kernel
theorem dX3_doSleep_1 : decode cX3_doSleep 1 = .ok (.getfield 202, 3) := by decide +kernel
theorem dX3_doSleep_4 : decode cX3_doSleep 4 = .ok (.iconst (-1), 1) := by decide +kernel
theorem dX3_doSleep_5 : decode cX3_doSleep 5 = .ok (.if_icmp .ne 5, 3) := by decide +kernel
theorem dX3_doSleep_8 : decode cX3_doSleep 8 = .ok (.iconst 3, 1) := by decide +kernel
theorem dX3_doSleep_9 : decode cX3_doSleep 9 = .ok (.ireturn, 1) := by decide +kernel
theorem dX3_doSleep_10 : decode cX3_doSleep 10 = .ok (.aload_n 0, 1) := by decide +kernel
theorem dX3_doSleep_11 : decode cX3_doSleep 11 = .ok (.invokevirtual 156, 3) := by decide +kernel
theorem dX3_doSleep_14 : decode cX3_doSleep 14 = .ok (.ifCond .eq 6, 3) := by decide +kernel
theorem dX3_doSleep_17 : decode cX3_doSleep 17 = .ok (.bipush 9, 2) := by decide +kernel
theorem dX3_doSleep_19 : decode cX3_doSleep 19 = .ok (.ireturn, 1) := by decide +kernel
theorem dX3_doSleep_20 : decode cX3_doSleep 20 = .ok (.aload_n 0, 1) := by decide +kernel
theorem dX3_doSleep_21 : decode cX3_doSleep 21 = .ok (.aload_n 0, 1) := by decide +kernel
theorem dX3_doSleep_22 : decode cX3_doSleep 22 = .ok (.getfield 202, 3) := by decide +kernel
theorem dX3_doSleep_25 : decode cX3_doSleep 25 = .ok (.invokevirtual 55, 3) := by decide +kernel
theorem dX3_doSleep_28 : decode cX3_doSleep 28 = .ok (.aload_n 0, 1) := by decide +kernel
theorem dX3_doSleep_29 : decode cX3_doSleep 29 = .ok (.getfield 45, 3) := by decide +kernel
theorem dX3_doSleep_32 : decode cX3_doSleep 32 = .ok (.iload_n 2, 1) := by decide +kernel
theorem dX3_doSleep_33 : decode cX3_doSleep 33 = .ok (.iadd, 1) := by decide +kernel
theorem dX3_doSleep_34 : decode cX3_doSleep 34 = .ok (.putfield 196, 3) := by decide +kernel
theorem dX3_doSleep_37 : decode cX3_doSleep 37 = .ok (.aload_n 0, 1) := by decide +kernel
theorem dX3_doSleep_38 : decode cX3_doSleep 38 = .ok (.aload_n 1, 1) := by decide +kernel
theorem dX3_doSleep_39 : decode cX3_doSleep 39 = .ok (.invokevirtual 274, 3) := by decide +kernel
theorem dX3_doSleep_42 : decode cX3_doSleep 42 = .ok (.iconst 0, 1) := by decide +kernel
theorem dX3_doSleep_43 : decode cX3_doSleep 43 = .ok (.ireturn, 1) := by decide +kernel
theorem dX3_doAwait_0 : decode cX3_doAwait 0 = .ok (.aload_n 0, 1) := by decide +kernel
theorem dX3_doAwait_1 : decode cX3_doAwait 1 = .ok (.getfield 202, 3) := by decide +kernel
theorem dX3_doAwait_4 : decode cX3_doAwait 4 = .ok (.iconst (-1), 1) := by decide +kernel
theorem dX3_doAwait_5 : decode cX3_doAwait 5 = .ok (.if_icmp .ne 5, 3) := by decide +kernel
theorem dX3_doAwait_8 : decode cX3_doAwait 8 = .ok (.iconst 3, 1) := by decide +kernel
theorem dX3_doAwait_9 : decode cX3_doAwait 9 = .ok (.ireturn, 1) := by decide +kernel
theorem dX3_doAwait_10 : decode cX3_doAwait 10 = .ok (.aload_n 1, 1) := by decide +kernel
theorem dX3_doAwait_11 : decode cX3_doAwait 11 = .ok (.getfield 117, 3) := by decide +kernel
theorem dX3_doAwait_14 : decode cX3_doAwait 14 = .ok (.istore_n 2, 1) := by decide +kernel
theorem dX3_doAwait_15 : decode cX3_doAwait 15 = .ok (.aload_n 0, 1) := by decide +kernel
theorem dX3_doAwait_16 : decode cX3_doAwait 16 = .ok (.iload_n 2, 1) := by decide +kernel
theorem dX3_doAwait_17 : decode cX3_doAwait 17 = .ok (.iconst 1, 1) := by decide +kernel
theorem dX3_doAwait_18 : decode cX3_doAwait 18 = .ok (.invokevirtual 180, 3) := by decide +kernel
theorem dX3_doAwait_21 : decode cX3_doAwait 21 = .ok (.ifCond .eq 11, 3) := by decide +kernel
theorem dX3_doAwait_24 : decode cX3_doAwait 24 = .ok (.iload_n 2, 1) := by decide +kernel
theorem dX3_doAwait_25 : decode cX3_doAwait 25 = .ok (.aload_n 0, 1) := by decide +kernel
theorem dX3_doAwait_26 : decode cX3_doAwait 26 = .ok (.getfield 202, 3) := by decide +kernel
theorem dX3_doAwait_29 : decode cX3_doAwait 29 = .ok (.if_icmp .ne 6, 3) := by decide +kernel
theorem dX3_doAwait_32 : decode cX3_doAwait 32 = .ok (.bipush 6, 2) := by decide +kernel
theorem dX3_doAwait_34 : decode cX3_doAwait 34 = .ok (.ireturn, 1) := by decide +kernel
theorem dX3_doAwait_35 : decode cX3_doAwait 35 = .ok (.aload_n 0, 1) := by decide +kernel
theorem dX3_doAwait_36 : decode cX3_doAwait 36 = .ok (.iload_n 2, 1) := by decide +kernel
theorem dX3_doAwait_37 : decode cX3_doAwait 37 = .ok (.invokevirtual 55, 3) := by decide +kernel
theorem dX3_doAwait_40 : decode cX3_doAwait 40 = .ok (.invokevirtual 71, 3) := by decide +kernel
theorem dX3_doAwait_43 : decode cX3_doAwait 43 = .ok (.ifCond .eq 14, 3) := by decide +kernel
theorem dX3_doAwait_46 : decode cX3_doAwait 46 = .ok (.aload_n 0, 1) := by decide +kernel
theorem dX3_doAwait_47 : decode cX3_doAwait 47 = .ok (.aload_n 1, 1) := by decide +kernel
theorem dX3_doAwait_48 : decode cX3_doAwait 48 = .ok (.aload_n 0, 1) := by decide +kernel
theorem dX3_doAwait_49 : decode cX3_doAwait 49 = .ok (.iload_n 2, 1) := by decide +kernel
theorem dX3_doAwait_50 : decode cX3_doAwait 50 = .ok (.invokevirtual 55, 3) := by decide +kernel
theorem dX3_doAwait_53 : decode cX3_doAwait 53 = .ok (.invokevirtual 170, 3) := by decide +kernel
theorem dX3_doAwait_56 : decode cX3_doAwait 56 = .ok (.ireturn, 1) := by decide +kernel
theorem dX3_doAwait_57 : decode cX3_doAwait 57 = .ok (.aload_n 0, 1) := by decide +kernel
theorem dX3_doAwait_58 : decode cX3_doAwait 58 = .ok (.iload_n 2, 1) := by decide +kernel
theorem dX3_doAwait_59 : decode cX3_doAwait 59 = .ok (.invokevirtual 284, 3) := by decide +kernel
theorem dX3_doAwait_62 : decode cX3_doAwait 62 = .ok (.ifCond .eq 5, 3) := by decide +kernel
theorem dX3_doAwait_65 : decode cX3_doAwait 65 = .ok (.iconst 2, 1) := by decide +kernel
theorem dX3_doAwait_66 : decode cX3_doAwait 66 = .ok (.ireturn, 1) := by decide +kernel
theorem dX3_doAwait_67 : decode cX3_doAwait 67 = .ok (.aload_n 0, 1) := by decide +kernel
theorem dX3_doAwait_68 : decode cX3_doAwait 68 = .ok (.invokevirtual 156, 3) := by decide +kernel
theorem dX3_doAwait_71 : decode cX3_doAwait 71 = .ok (.ifCond .eq 6, 3) := by decide +kernel
theorem dX3_doAwait_74 : decode cX3_doAwait 74 = .ok (.bipush 9, 2) := by decide +kernel
theorem dX3_doAwait_76 : decode cX3_doAwait 76 = .ok (.ireturn, 1) := by decide +kernel
theorem dX3_doAwait_77 : decode cX3_doAwait 77 = .ok (.aload_n 0, 1) := by decide +kernel
theorem dX3_doAwait_78 : decode cX3_doAwait 78 = .ok (.aload_n 0, 1) := by decide +kernel
theorem dX3_doAwait_79 : decode cX3_doAwait 79 = .ok (.getfield 202, 3) := by decide +kernel
theorem dX3_doAwait_82 : decode cX3_doAwait 82 = .ok (.invokevirtual 55, 3) := by decide +kernel
theorem dX3_doAwait_85 : decode cX3_doAwait 85 = .ok (.iload_n 2, 1) := by decide +kernel
theorem dX3_doAwait_86 : decode cX3_doAwait 86 = .ok (.putfield 82, 3) := by decide +kernel
theorem dX3_doAwait_89 : decode cX3_doAwait 89 = .ok (.aload_n 0, 1) := by decide +kernel
theorem dX3_doAwait_90 : decode cX3_doAwait 90 = .ok (.getfield 31, 3) := by decide +kernel
theorem dX3_doAwait_93 : decode cX3_doAwait 93 = .ok (.aload_n 0, 1) := by decide +kernel
theorem dX3_doAwait_94 : decode cX3_doAwait 94 = .ok (.getfield 202, 3) := by decide +kernel
theorem dX3_doAwait_97 : decode cX3_doAwait 97 = .ok (.invokevirtual 104, 3) := by decide +kernel
theorem dX3_doAwait_100 : decode cX3_doAwait 100 = .ok (.aload_n 0, 1) := by decide +kernel
theorem dX3_doAwait_101 : decode cX3_doAwait 101 = .ok (.aload_n 1, 1) := by decide +kernel
theorem dX3_doAwait_102 : decode cX3_doAwait 102 = .ok (.invokevirtual 274, 3) := by decide +kernel
theorem dX3_doAwait_105 : decode cX3_doAwait 105 = .ok (.iconst 0, 1) := by decide +kernel
theorem dX3_doAwait_106 : decode cX3_doAwait 106 = .ok (.ireturn, 1) := by decide +kernel
theorem dX3_awaitsTheOwnOne_0 : decode cX3_awaitsTheOwnOne 0 = .ok (.iload_n 1, 1) := by decide +kernel
theorem dX3_awaitsTheOwnOne_1 : decode cX3_awaitsTheOwnOne 1 = .ok (.istore_n 2, 1) := by decide +kernel
theorem dX3_awaitsTheOwnOne_2 : decode cX3_awaitsTheOwnOne 2 = .ok (.iconst 0, 1) := by decide +kernel
theorem dX3_awaitsTheOwnOne_3 : decode cX3_awaitsTheOwnOne 3 = .ok (.istore_n 3, 1) := by decide +kernel
theorem dX3_awaitsTheOwnOne_4 : decode cX3_awaitsTheOwnOne 4 = .ok (.iload_n 3, 1) := by decide +kernel
theorem dX3_awaitsTheOwnOne_5 : decode cX3_awaitsTheOwnOne 5 = .ok (.bipush 24, 2) := by decide +kernel
theorem dX3_awaitsTheOwnOne_7 : decode cX3_awaitsTheOwnOne 7 = .ok (.if_icmp .ge 33, 3) := by decide +kernel
theorem dX3_awaitsTheOwnOne_10 : decode cX3_awaitsTheOwnOne 10 = .ok (.iload_n 2, 1) := by decide +kernel
theorem dX3_awaitsTheOwnOne_11 : decode cX3_awaitsTheOwnOne 11 = .ok (.iconst (-1), 1) := by decide +kernel
theorem dX3_awaitsTheOwnOne_12 : decode cX3_awaitsTheOwnOne 12 = .ok (.if_icmp .eq 28, 3) := by decide +kernel
theorem dX3_awaitsTheOwnOne_15 : decode cX3_awaitsTheOwnOne 15 = .ok (.aload_n 0, 1) := by decide +kernel
theorem dX3_awaitsTheOwnOne_16 : decode cX3_awaitsTheOwnOne 16 = .ok (.iload_n 2, 1) := by decide +kernel
theorem dX3_awaitsTheOwnOne_17 : decode cX3_awaitsTheOwnOne 17 = .ok (.invokevirtual 55, 3) := by decide +kernel
theorem dX3_awaitsTheOwnOne_20 : decode cX3_awaitsTheOwnOne 20 = .ok (.getfield 82, 3) := by decide +kernel
theorem dX3_awaitsTheOwnOne_23 : decode cX3_awaitsTheOwnOne 23 = .ok (.istore_n 2, 1) := by decide +kernel
theorem dX3_awaitsTheOwnOne_24 : decode cX3_awaitsTheOwnOne 24 = .ok (.iload_n 2, 1) := by decide +kernel
theorem dX3_awaitsTheOwnOne_25 : decode cX3_awaitsTheOwnOne 25 = .ok (.aload_n 0, 1) := by decide +kernel
theorem dX3_awaitsTheOwnOne_26 : decode cX3_awaitsTheOwnOne 26 = .ok (.getfield 202, 3) := by decide +kernel
theorem dX3_awaitsTheOwnOne_29 : decode cX3_awaitsTheOwnOne 29 = .ok (.if_icmp .ne 5, 3) := by decide +kernel
theorem dX3_awaitsTheOwnOne_32 : decode cX3_awaitsTheOwnOne 32 = .ok (.iconst 1, 1) := by decide +kernel
theorem dX3_awaitsTheOwnOne_33 : decode cX3_awaitsTheOwnOne 33 = .ok (.ireturn, 1) := by decide +kernel
theorem dX3_awaitsTheOwnOne_34 : decode cX3_awaitsTheOwnOne 34 = .ok (.iinc 3 1, 3) := by decide +kernel
theorem dX3_awaitsTheOwnOne_37 : decode cX3_awaitsTheOwnOne 37 = .ok (.goto (-33), 3) := by decide +kernel
theorem dX3_awaitsTheOwnOne_40 : decode cX3_awaitsTheOwnOne 40 = .ok (.iconst 0, 1) := by decide +kernel
theorem dX3_awaitsTheOwnOne_41 : decode cX3_awaitsTheOwnOne 41 = .ok (.ireturn, 1) := by decide +kernel
theorem dX3_doSpawn_0 : decode cX3_doSpawn 0 = .ok (.aload_n 0, 1) := by decide +kernel
theorem dX3_doSpawn_1 : decode cX3_doSpawn 1 = .ok (.getfield 202, 3) := by decide +kernel
theorem dX3_doSpawn_4 : decode cX3_doSpawn 4 = .ok (.iconst (-1), 1) := by decide +kernel
theorem dX3_doSpawn_5 : decode cX3_doSpawn 5 = .ok (.if_icmp .ne 5, 3) := by decide +kernel
theorem dX3_doSpawn_8 : decode cX3_doSpawn 8 = .ok (.iconst 3, 1) := by decide +kernel
theorem dX3_doSpawn_9 : decode cX3_doSpawn 9 = .ok (.ireturn, 1) := by decide +kernel
theorem dX3_doSpawn_10 : decode cX3_doSpawn 10 = .ok (.aload_n 0, 1) := by decide +kernel
theorem dX3_doSpawn_11 : decode cX3_doSpawn 11 = .ok (.iload_n 2, 1) := by decide +kernel
theorem dX3_doSpawn_12 : decode cX3_doSpawn 12 = .ok (.invokevirtual 277, 3) := by decide +kernel
theorem dX3_doSpawn_15 : decode cX3_doSpawn 15 = .ok (.ifCond .ne 5, 3) := by decide +kernel
theorem dX3_doSpawn_18 : decode cX3_doSpawn 18 = .ok (.iconst 4, 1) := by decide +kernel
theorem dX3_doSpawn_19 : decode cX3_doSpawn 19 = .ok (.ireturn, 1) := by decide +kernel
theorem dX3_doSpawn_20 : decode cX3_doSpawn 20 = .ok (.aload_n 1, 1) := by decide +kernel
theorem dX3_doSpawn_21 : decode cX3_doSpawn 21 = .ok (.aload_n 0, 1) := by decide +kernel
theorem dX3_doSpawn_22 : decode cX3_doSpawn 22 = .ok (.iload_n 2, 1) := by decide +kernel
theorem dX3_doSpawn_23 : decode cX3_doSpawn 23 = .ok (.iconst 1, 1) := by decide +kernel
theorem dX3_doSpawn_24 : decode cX3_doSpawn 24 = .ok (.aload_n 0, 1) := by decide +kernel
theorem dX3_doSpawn_25 : decode cX3_doSpawn 25 = .ok (.getfield 202, 3) := by decide +kernel
theorem dX3_doSpawn_28 : decode cX3_doSpawn 28 = .ok (.invokevirtual 280, 3) := by decide +kernel
theorem dX3_doSpawn_31 : decode cX3_doSpawn 31 = .ok (.getfield 101, 3) := by decide +kernel
theorem dX3_doSpawn_34 : decode cX3_doSpawn 34 = .ok (.putfield 117, 3) := by decide +kernel
theorem dX3_doSpawn_37 : decode cX3_doSpawn 37 = .ok (.aload_n 1, 1) := by decide +kernel
theorem dX3_doSpawn_38 : decode cX3_doSpawn 38 = .ok (.dup, 1) := by decide +kernel
theorem dX3_doSpawn_39 : decode cX3_doSpawn 39 = .ok (.getfield 120, 3) := by decide +kernel
theorem dX3_doSpawn_42 : decode cX3_doSpawn 42 = .ok (.iconst 1, 1) := by decide +kernel
theorem dX3_doSpawn_43 : decode cX3_doSpawn 43 = .ok (.iadd, 1) := by decide +kernel
theorem dX3_doSpawn_44 : decode cX3_doSpawn 44 = .ok (.putfield 120, 3) := by decide +kernel
theorem dX3_doSpawn_47 : decode cX3_doSpawn 47 = .ok (.iconst 0, 1) := by decide +kernel
theorem dX3_doSpawn_48 : decode cX3_doSpawn 48 = .ok (.ireturn, 1) := by decide +kernel
theorem dX3_doShield_0 : decode cX3_doShield 0 = .ok (.aload_n 0, 1) := by decide +kernel
theorem dX3_doShield_1 : decode cX3_doShield 1 = .ok (.getfield 202, 3) := by decide +kernel
theorem dX3_doShield_4 : decode cX3_doShield 4 = .ok (.iconst (-1), 1) := by decide +kernel
theorem dX3_doShield_5 : decode cX3_doShield 5 = .ok (.if_icmp .eq 35, 3) := by decide +kernel
theorem dX3_doShield_8 : decode cX3_doShield 8 = .ok (.aload_n 0, 1) := by decide +kernel
theorem dX3_doShield_9 : decode cX3_doShield 9 = .ok (.aload_n 0, 1) := by decide +kernel
theorem dX3_doShield_10 : decode cX3_doShield 10 = .ok (.getfield 202, 3) := by decide +kernel
theorem dX3_doShield_13 : decode cX3_doShield 13 = .ok (.invokevirtual 55, 3) := by decide +kernel
theorem dX3_doShield_16 : decode cX3_doShield 16 = .ok (.astore_n 3, 1) := by decide +kernel
theorem dX3_doShield_17 : decode cX3_doShield 17 = .ok (.aload_n 3, 1) := by decide +kernel
theorem dX3_doShield_18 : decode cX3_doShield 18 = .ok (.iconst 0, 1) := by decide +kernel
theorem dX3_doShield_19 : decode cX3_doShield 19 = .ok (.aload_n 3, 1) := by decide +kernel
theorem dX3_doShield_20 : decode cX3_doShield 20 = .ok (.getfield 193, 3) := by decide +kernel
theorem dX3_doShield_23 : decode cX3_doShield 23 = .ok (.iload_n 2, 1) := by decide +kernel
theorem dX3_doShield_24 : decode cX3_doShield 24 = .ok (.iconst 1, 1) := by decide +kernel
theorem dX3_doShield_25 : decode cX3_doShield 25 = .ok (.if_icmp .ne 7, 3) := by decide +kernel
theorem dX3_doShield_28 : decode cX3_doShield 28 = .ok (.iconst 1, 1) := by decide +kernel
theorem dX3_doShield_29 : decode cX3_doShield 29 = .ok (.goto 4, 3) := by decide +kernel
theorem dX3_doShield_32 : decode cX3_doShield 32 = .ok (.iconst (-1), 1) := by decide +kernel
theorem dX3_doShield_33 : decode cX3_doShield 33 = .ok (.iadd, 1) := by decide +kernel
theorem dX3_doShield_34 : decode cX3_doShield 34 = .ok (.invokestatic 287, 3) := by decide +kernel
theorem dX3_doShield_37 : decode cX3_doShield 37 = .ok (.putfield 193, 3) := by decide +kernel
theorem dX3_doShield_40 : decode cX3_doShield 40 = .ok (.aload_n 1, 1) := by decide +kernel
theorem dX3_doShield_41 : decode cX3_doShield 41 = .ok (.dup, 1) := by decide +kernel
theorem dX3_doShield_42 : decode cX3_doShield 42 = .ok (.getfield 120, 3) := by decide +kernel
theorem dX3_doShield_45 : decode cX3_doShield 45 = .ok (.iconst 1, 1) := by decide +kernel
theorem dX3_doShield_46 : decode cX3_doShield 46 = .ok (.iadd, 1) := by decide +kernel
theorem dX3_doShield_47 : decode cX3_doShield 47 = .ok (.putfield 120, 3) := by decide +kernel
theorem dX3_doShield_50 : decode cX3_doShield 50 = .ok (.iconst 0, 1) := by decide +kernel
theorem dX3_doShield_51 : decode cX3_doShield 51 = .ok (.ireturn, 1) := by decide +kernel
theorem dX3_waitAt_0 : decode cX3_waitAt 0 = .ok (.aload_n 1, 1) := by decide +kernel
theorem dX3_waitAt_1 : decode cX3_waitAt 1 = .ok (.iconst 1, 1) := by decide +kernel
theorem dX3_waitAt_2 : decode cX3_waitAt 2 = .ok (.putfield 68, 3) := by decide +kernel
theorem dX3_waitAt_5 : decode cX3_waitAt 5 = .ok (.aload_n 0, 1) := by decide +kernel
theorem dX3_waitAt_6 : decode cX3_waitAt 6 = .ok (.iconst 1, 1) := by decide +kernel
theorem dX3_waitAt_7 : decode cX3_waitAt 7 = .ok (.putfield 217, 3) := by decide +kernel
theorem dX3_waitAt_10 : decode cX3_waitAt 10 = .ok (.return_, 1) := by decide +kernel
theorem dX3_takesCancel_0 : decode cX3_takesCancel 0 = .ok (.aload_n 0, 1) := by decide +kernel
theorem dX3_takesCancel_1 : decode cX3_takesCancel 1 = .ok (.aload_n 0, 1) := by decide +kernel
theorem dX3_takesCancel_2 : decode cX3_takesCancel 2 = .ok (.getfield 202, 3) := by decide +kernel
theorem dX3_takesCancel_5 : decode cX3_takesCancel 5 = .ok (.invokevirtual 55, 3) := by decide +kernel
theorem dX3_takesCancel_8 : decode cX3_takesCancel 8 = .ok (.astore_n 1, 1) := by decide +kernel
theorem dX3_takesCancel_9 : decode cX3_takesCancel 9 = .ok (.aload_n 1, 1) := by decide +kernel
theorem dX3_takesCancel_10 : decode cX3_takesCancel 10 = .ok (.getfield 189, 3) := by decide +kernel
theorem dX3_takesCancel_13 : decode cX3_takesCancel 13 = .ok (.ifCond .eq 10, 3) := by decide +kernel
theorem dX3_takesCancel_16 : decode cX3_takesCancel 16 = .ok (.aload_n 1, 1) := by decide +kernel
theorem dX3_takesCancel_17 : decode cX3_takesCancel 17 = .ok (.getfield 193, 3) := by decide +kernel
theorem dX3_takesCancel_20 : decode cX3_takesCancel 20 = .ok (.ifCond .le 5, 3) := by decide +kernel
theorem dX3_takesCancel_23 : decode cX3_takesCancel 23 = .ok (.iconst 0, 1) := by decide +kernel
theorem dX3_takesCancel_24 : decode cX3_takesCancel 24 = .ok (.ireturn, 1) := by decide +kernel
theorem dX3_takesCancel_25 : decode cX3_takesCancel 25 = .ok (.aload_n 1, 1) := by decide +kernel
theorem dX3_takesCancel_26 : decode cX3_takesCancel 26 = .ok (.iconst 0, 1) := by decide +kernel
theorem dX3_takesCancel_27 : decode cX3_takesCancel 27 = .ok (.putfield 189, 3) := by decide +kernel
theorem dX3_takesCancel_30 : decode cX3_takesCancel 30 = .ok (.iconst 1, 1) := by decide +kernel
theorem dX3_takesCancel_31 : decode cX3_takesCancel 31 = .ok (.ireturn, 1) := by decide +kernel
theorem dX4_init_0 : decode cX4_init 0 = .ok (.aload_n 0, 1) := by decide +kernel
theorem dX4_init_1 : decode cX4_init 1 = .ok (.invokespecial 3, 3) := by decide +kernel
theorem dX4_init_4 : decode cX4_init 4 = .ok (.aload_n 0, 1) := by decide +kernel
theorem dX4_init_5 : decode cX4_init 5 = .ok (.bipush 24, 2) := by decide +kernel
theorem dX4_init_7 : decode cX4_init 7 = .ok (.newarray .int, 2) := by decide +kernel
theorem dX4_init_9 : decode cX4_init 9 = .ok (.putfield 9, 3) := by decide +kernel
theorem dX4_init_12 : decode cX4_init 12 = .ok (.return_, 1) := by decide +kernel
theorem dX4_numberAt_0 : decode cX4_numberAt 0 = .ok (.iload_n 1, 1) := by decide +kernel
theorem dX4_numberAt_1 : decode cX4_numberAt 1 = .ok (.ifCond .lt 20, 3) := by decide +kernel
theorem dX4_numberAt_4 : decode cX4_numberAt 4 = .ok (.iload_n 1, 1) := by decide +kernel
theorem dX4_numberAt_5 : decode cX4_numberAt 5 = .ok (.aload_n 0, 1) := by decide +kernel
theorem dX4_numberAt_6 : decode cX4_numberAt 6 = .ok (.getfield 15, 3) := by decide +kernel
theorem dX4_numberAt_9 : decode cX4_numberAt 9 = .ok (.if_icmp .ge 12, 3) := by decide +kernel
theorem dX4_numberAt_12 : decode cX4_numberAt 12 = .ok (.aload_n 0, 1) := by decide +kernel
theorem dX4_numberAt_13 : decode cX4_numberAt 13 = .ok (.getfield 9, 3) := by decide +kernel
theorem dX4_numberAt_16 : decode cX4_numberAt 16 = .ok (.iload_n 1, 1) := by decide +kernel
theorem dX4_numberAt_17 : decode cX4_numberAt 17 = .ok (.iaload, 1) := by decide +kernel
theorem dX4_numberAt_18 : decode cX4_numberAt 18 = .ok (.goto 4, 3) := by decide +kernel
theorem dX4_numberAt_21 : decode cX4_numberAt 21 = .ok (.iconst (-1), 1) := by decide +kernel
theorem dX4_numberAt_22 : decode cX4_numberAt 22 = .ok (.ireturn, 1) := by decide +kernel
theorem dX4_placeOf_0 : decode cX4_placeOf 0 = .ok (.iconst 0, 1) := by decide +kernel
theorem dX4_placeOf_1 : decode cX4_placeOf 1 = .ok (.istore_n 2, 1) := by decide +kernel
theorem dX4_placeOf_2 : decode cX4_placeOf 2 = .ok (.iload_n 2, 1) := by decide +kernel
theorem dX4_placeOf_3 : decode cX4_placeOf 3 = .ok (.aload_n 0, 1) := by decide +kernel
theorem dX4_placeOf_4 : decode cX4_placeOf 4 = .ok (.getfield 15, 3) := by decide +kernel
theorem dX4_placeOf_7 : decode cX4_placeOf 7 = .ok (.if_icmp .ge 20, 3) := by decide +kernel
theorem dX4_placeOf_10 : decode cX4_placeOf 10 = .ok (.aload_n 0, 1) := by decide +kernel
theorem dX4_placeOf_11 : decode cX4_placeOf 11 = .ok (.iload_n 2, 1) := by decide +kernel
theorem dX4_placeOf_12 : decode cX4_placeOf 12 = .ok (.invokevirtual 19, 3) := by decide +kernel
theorem dX4_placeOf_15 : decode cX4_placeOf 15 = .ok (.iload_n 1, 1) := by decide +kernel
theorem dX4_placeOf_16 : decode cX4_placeOf 16 = .ok (.if_icmp .ne 5, 3) := by decide +kernel
theorem dX4_placeOf_19 : decode cX4_placeOf 19 = .ok (.iload_n 2, 1) := by decide +kernel
theorem dX4_placeOf_20 : decode cX4_placeOf 20 = .ok (.ireturn, 1) := by decide +kernel
theorem dX4_placeOf_21 : decode cX4_placeOf 21 = .ok (.iinc 2 1, 3) := by decide +kernel
theorem dX4_placeOf_24 : decode cX4_placeOf 24 = .ok (.goto (-22), 3) := by decide +kernel
theorem dX4_placeOf_27 : decode cX4_placeOf 27 = .ok (.iconst (-1), 1) := by decide +kernel
theorem dX4_placeOf_28 : decode cX4_placeOf 28 = .ok (.ireturn, 1) := by decide +kernel
theorem dX4_add_0 : decode cX4_add 0 = .ok (.aload_n 0, 1) := by decide +kernel
theorem dX4_add_1 : decode cX4_add 1 = .ok (.getfield 15, 3) := by decide +kernel
theorem dX4_add_4 : decode cX4_add 4 = .ok (.ifCond .lt 32, 3) := by decide +kernel
theorem dX4_add_7 : decode cX4_add 7 = .ok (.aload_n 0, 1) := by decide +kernel
theorem dX4_add_8 : decode cX4_add 8 = .ok (.getfield 15, 3) := by decide +kernel
theorem dX4_add_11 : decode cX4_add 11 = .ok (.bipush 24, 2) := by decide +kernel
theorem dX4_add_13 : decode cX4_add 13 = .ok (.if_icmp .ge 23, 3) := by decide +kernel
theorem dX4_add_16 : decode cX4_add 16 = .ok (.aload_n 0, 1) := by decide +kernel
theorem dX4_add_17 : decode cX4_add 17 = .ok (.getfield 9, 3) := by decide +kernel
theorem dX4_add_20 : decode cX4_add 20 = .ok (.aload_n 0, 1) := by decide +kernel
theorem dX4_add_21 : decode cX4_add 21 = .ok (.getfield 15, 3) := by decide +kernel
theorem dX4_add_24 : decode cX4_add 24 = .ok (.iload_n 1, 1) := by decide +kernel
theorem dX4_add_25 : decode cX4_add 25 = .ok (.iastore, 1) := by decide +kernel
theorem dX4_add_26 : decode cX4_add 26 = .ok (.aload_n 0, 1) := by decide +kernel
theorem dX4_add_27 : decode cX4_add 27 = .ok (.dup, 1) := by decide +kernel
theorem dX4_add_28 : decode cX4_add 28 = .ok (.getfield 15, 3) := by decide +kernel
theorem dX4_add_31 : decode cX4_add 31 = .ok (.iconst 1, 1) := by decide +kernel
theorem dX4_add_32 : decode cX4_add 32 = .ok (.iadd, 1) := by decide +kernel
theorem dX4_add_33 : decode cX4_add 33 = .ok (.putfield 15, 3) := by decide +kernel
theorem dX4_add_36 : decode cX4_add 36 = .ok (.return_, 1) := by decide +kernel
theorem dX4_removeAt_0 : decode cX4_removeAt 0 = .ok (.iload_n 1, 1) := by decide +kernel
theorem dX4_removeAt_1 : decode cX4_removeAt 1 = .ok (.ifCond .lt 11, 3) := by decide +kernel
theorem dX4_removeAt_4 : decode cX4_removeAt 4 = .ok (.iload_n 1, 1) := by decide +kernel
theorem dX4_removeAt_5 : decode cX4_removeAt 5 = .ok (.aload_n 0, 1) := by decide +kernel
theorem dX4_removeAt_6 : decode cX4_removeAt 6 = .ok (.getfield 15, 3) := by decide +kernel
theorem dX4_removeAt_9 : decode cX4_removeAt 9 = .ok (.if_icmp .lt 4, 3) := by decide +kernel
theorem dX4_removeAt_12 : decode cX4_removeAt 12 = .ok (.return_, 1) := by decide +kernel
theorem dX4_removeAt_13 : decode cX4_removeAt 13 = .ok (.iload_n 1, 1) := by decide +kernel
theorem dX4_removeAt_14 : decode cX4_removeAt 14 = .ok (.iconst 1, 1) := by decide +kernel
theorem dX4_removeAt_15 : decode cX4_removeAt 15 = .ok (.iadd, 1) := by decide +kernel
theorem dX4_removeAt_16 : decode cX4_removeAt 16 = .ok (.istore_n 2, 1) := by decide +kernel
theorem dX4_removeAt_17 : decode cX4_removeAt 17 = .ok (.iload_n 2, 1) := by decide +kernel
theorem dX4_removeAt_18 : decode cX4_removeAt 18 = .ok (.aload_n 0, 1) := by decide +kernel
theorem dX4_removeAt_19 : decode cX4_removeAt 19 = .ok (.getfield 15, 3) := by decide +kernel
theorem dX4_removeAt_22 : decode cX4_removeAt 22 = .ok (.if_icmp .ge 23, 3) := by decide +kernel
theorem dX4_removeAt_25 : decode cX4_removeAt 25 = .ok (.aload_n 0, 1) := by decide +kernel
theorem dX4_removeAt_26 : decode cX4_removeAt 26 = .ok (.getfield 9, 3) := by decide +kernel
theorem dX4_removeAt_29 : decode cX4_removeAt 29 = .ok (.iload_n 2, 1) := by decide +kernel
theorem dX4_removeAt_30 : decode cX4_removeAt 30 = .ok (.iconst 1, 1) := by decide +kernel
theorem dX4_removeAt_31 : decode cX4_removeAt 31 = .ok (.isub, 1) := by decide +kernel
theorem dX4_removeAt_32 : decode cX4_removeAt 32 = .ok (.aload_n 0, 1) := by decide +kernel
theorem dX4_removeAt_33 : decode cX4_removeAt 33 = .ok (.getfield 9, 3) := by decide +kernel
theorem dX4_removeAt_36 : decode cX4_removeAt 36 = .ok (.iload_n 2, 1) := by decide +kernel
theorem dX4_removeAt_37 : decode cX4_removeAt 37 = .ok (.iaload, 1) := by decide +kernel
theorem dX4_removeAt_38 : decode cX4_removeAt 38 = .ok (.iastore, 1) := by decide +kernel
theorem dX4_removeAt_39 : decode cX4_removeAt 39 = .ok (.iinc 2 1, 3) := by decide +kernel
theorem dX4_removeAt_42 : decode cX4_removeAt 42 = .ok (.goto (-25), 3) := by decide +kernel
theorem dX4_removeAt_45 : decode cX4_removeAt 45 = .ok (.aload_n 0, 1) := by decide +kernel
theorem dX4_removeAt_46 : decode cX4_removeAt 46 = .ok (.dup, 1) := by decide +kernel
theorem dX4_removeAt_47 : decode cX4_removeAt 47 = .ok (.getfield 15, 3) := by decide +kernel
theorem dX4_removeAt_50 : decode cX4_removeAt 50 = .ok (.iconst 1, 1) := by decide +kernel
theorem dX4_removeAt_51 : decode cX4_removeAt 51 = .ok (.isub, 1) := by decide +kernel
theorem dX4_removeAt_52 : decode cX4_removeAt 52 = .ok (.putfield 15, 3) := by decide +kernel
theorem dX4_removeAt_55 : decode cX4_removeAt 55 = .ok (.return_, 1) := by decide +kernel
end
section
theorem dX4_copyFrom_0 : decode cX4_copyFrom 0 = .ok (.aload_n 1, 1) := by decide +kernel
theorem dX4_copyFrom_1 : decode cX4_copyFrom 1 = .ok (.getfield 9, 3) := by decide +kernel
theorem dX4_copyFrom_4 : decode cX4_copyFrom 4 = .ok (.iconst 0, 1) := by decide +kernel
theorem dX4_copyFrom_5 : decode cX4_copyFrom 5 = .ok (.aload_n 0, 1) := by decide +kernel
theorem dX4_copyFrom_6 : decode cX4_copyFrom 6 = .ok (.getfield 9, 3) := by decide +kernel
theorem dX4_copyFrom_9 : decode cX4_copyFrom 9 = .ok (.iconst 0, 1) := by decide +kernel
theorem dX4_copyFrom_10 : decode cX4_copyFrom 10 = .ok (.bipush 24, 2) := by decide +kernel
theorem dX4_copyFrom_12 : decode cX4_copyFrom 12 = .ok (.invokestatic 23, 3) := by decide +kernel
theorem dX4_copyFrom_15 : decode cX4_copyFrom 15 = .ok (.aload_n 0, 1) := by decide +kernel
theorem dX4_copyFrom_16 : decode cX4_copyFrom 16 = .ok (.aload_n 1, 1) := by decide +kernel
theorem dX4_copyFrom_17 : decode cX4_copyFrom 17 = .ok (.getfield 15, 3) := by decide +kernel
theorem dX4_copyFrom_20 : decode cX4_copyFrom 20 = .ok (.putfield 15, 3) := by decide +kernel
theorem dX4_copyFrom_23 : decode cX4_copyFrom 23 = .ok (.return_, 1) := by decide +kernel
theorem dX5_init_0 : decode cX5_init 0 = .ok (.aload_n 0, 1) := by decide +kernel
theorem dX5_init_1 : decode cX5_init 1 = .ok (.invokespecial 3, 3) := by decide +kernel
theorem dX5_init_4 : decode cX5_init 4 = .ok (.aload_n 0, 1) := by decide +kernel
theorem dX5_init_5 : decode cX5_init 5 = .ok (.bipush 6, 2) := by decide +kernel
theorem dX5_init_7 : decode cX5_init 7 = .ok (.newarray .int, 2) := by decide +kernel
theorem dX5_init_9 : decode cX5_init 9 = .ok (.putfield 9, 3) := by decide +kernel
theorem dX5_init_12 : decode cX5_init 12 = .ok (.aload_n 0, 1) := by decide +kernel
theorem dX5_init_13 : decode cX5_init 13 = .ok (.bipush 6, 2) := by decide +kernel
theorem dX5_init_15 : decode cX5_init 15 = .ok (.newarray .int, 2) := by decide +kernel
theorem dX5_init_17 : decode cX5_init 17 = .ok (.putfield 15, 3) := by decide +kernel
theorem dX5_init_20 : decode cX5_init 20 = .ok (.return_, 1) := by decide +kernel
theorem dX5_has_0 : decode cX5_has 0 = .ok (.iload_n 1, 1) := by decide +kernel
theorem dX5_has_1 : decode cX5_has 1 = .ok (.ifCond .lt 15, 3) := by decide +kernel
theorem dX5_has_4 : decode cX5_has 4 = .ok (.iload_n 1, 1) := by decide +kernel
theorem dX5_has_5 : decode cX5_has 5 = .ok (.aload_n 0, 1) := by decide +kernel
theorem dX5_has_6 : decode cX5_has 6 = .ok (.getfield 18, 3) := by decide +kernel
theorem dX5_has_9 : decode cX5_has 9 = .ok (.if_icmp .ge 7, 3) := by decide +kernel
theorem dX5_has_12 : decode cX5_has 12 = .ok (.iconst 1, 1) := by decide +kernel
theorem dX5_has_13 : decode cX5_has 13 = .ok (.goto 4, 3) := by decide +kernel
theorem dX5_has_16 : decode cX5_has 16 = .ok (.iconst 0, 1) := by decide +kernel
theorem dX5_has_17 : decode cX5_has 17 = .ok (.ireturn, 1) := by decide +kernel
theorem dX5_isFull_0 : decode cX5_isFull 0 = .ok (.aload_n 0, 1) := by decide +kernel
theorem dX5_isFull_1 : decode cX5_isFull 1 = .ok (.getfield 18, 3) := by decide +kernel
theorem dX5_isFull_4 : decode cX5_isFull 4 = .ok (.bipush 6, 2) := by decide +kernel
theorem dX5_isFull_6 : decode cX5_isFull 6 = .ok (.if_icmp .lt 7, 3) := by decide +kernel
theorem dX5_isFull_9 : decode cX5_isFull 9 = .ok (.iconst 1, 1) := by decide +kernel
theorem dX5_isFull_10 : decode cX5_isFull 10 = .ok (.goto 4, 3) := by decide +kernel
theorem dX5_isFull_13 : decode cX5_isFull 13 = .ok (.iconst 0, 1) := by decide +kernel
theorem dX5_isFull_14 : decode cX5_isFull 14 = .ok (.ireturn, 1) := by decide +kernel
theorem dX5_signAt_0 : decode cX5_signAt 0 = .ok (.aload_n 0, 1) := by decide +kernel
theorem dX5_signAt_1 : decode cX5_signAt 1 = .ok (.iload_n 1, 1) := by decide +kernel
theorem dX5_signAt_2 : decode cX5_signAt 2 = .ok (.invokevirtual 22, 3) := by decide +kernel
theorem dX5_signAt_5 : decode cX5_signAt 5 = .ok (.ifCond .eq 12, 3) := by decide +kernel
theorem dX5_signAt_8 : decode cX5_signAt 8 = .ok (.aload_n 0, 1) := by decide +kernel
theorem dX5_signAt_9 : decode cX5_signAt 9 = .ok (.getfield 9, 3) := by decide +kernel
theorem dX5_signAt_12 : decode cX5_signAt 12 = .ok (.iload_n 1, 1) := by decide +kernel
theorem dX5_signAt_13 : decode cX5_signAt 13 = .ok (.iaload, 1) := by decide +kernel
theorem dX5_signAt_14 : decode cX5_signAt 14 = .ok (.goto 4, 3) := by decide +kernel
theorem dX5_signAt_17 : decode cX5_signAt 17 = .ok (.iconst 0, 1) := by decide +kernel
theorem dX5_signAt_18 : decode cX5_signAt 18 = .ok (.ireturn, 1) := by decide +kernel
theorem dX5_lastSign_0 : decode cX5_lastSign 0 = .ok (.aload_n 0, 1) := by decide +kernel
theorem dX5_lastSign_1 : decode cX5_lastSign 1 = .ok (.getfield 18, 3) := by decide +kernel
theorem dX5_lastSign_4 : decode cX5_lastSign 4 = .ok (.ifCond .le 26, 3) := by decide +kernel
theorem dX5_lastSign_7 : decode cX5_lastSign 7 = .ok (.aload_n 0, 1) := by decide +kernel
theorem dX5_lastSign_8 : decode cX5_lastSign 8 = .ok (.getfield 18, 3) := by decide +kernel
theorem dX5_lastSign_11 : decode cX5_lastSign 11 = .ok (.bipush 6, 2) := by decide +kernel
theorem dX5_lastSign_13 : decode cX5_lastSign 13 = .ok (.if_icmp .gt 17, 3) := by decide +kernel
theorem dX5_lastSign_16 : decode cX5_lastSign 16 = .ok (.aload_n 0, 1) := by decide +kernel
theorem dX5_lastSign_17 : decode cX5_lastSign 17 = .ok (.getfield 9, 3) := by decide +kernel
theorem dX5_lastSign_20 : decode cX5_lastSign 20 = .ok (.aload_n 0, 1) := by decide +kernel
theorem dX5_lastSign_21 : decode cX5_lastSign 21 = .ok (.getfield 18, 3) := by decide +kernel
theorem dX5_lastSign_24 : decode cX5_lastSign 24 = .ok (.iconst 1, 1) := by decide +kernel
theorem dX5_lastSign_25 : decode cX5_lastSign 25 = .ok (.isub, 1) := by decide +kernel
theorem dX5_lastSign_26 : decode cX5_lastSign 26 = .ok (.iaload, 1) := by decide +kernel
theorem dX5_lastSign_27 : decode cX5_lastSign 27 = .ok (.goto 4, 3) := by decide +kernel
theorem dX5_lastSign_30 : decode cX5_lastSign 30 = .ok (.iconst 0, 1) := by decide +kernel
theorem dX5_lastSign_31 : decode cX5_lastSign 31 = .ok (.ireturn, 1) := by decide +kernel
theorem dX5_lastMark_0 : decode cX5_lastMark 0 = .ok (.aload_n 0, 1) := by decide +kernel
theorem dX5_lastMark_1 : decode cX5_lastMark 1 = .ok (.getfield 18, 3) := by decide +kernel
theorem dX5_lastMark_4 : decode cX5_lastMark 4 = .ok (.ifCond .le 26, 3) := by decide +kernel
theorem dX5_lastMark_7 : decode cX5_lastMark 7 = .ok (.aload_n 0, 1) := by decide +kernel
theorem dX5_lastMark_8 : decode cX5_lastMark 8 = .ok (.getfield 18, 3) := by decide +kernel
theorem dX5_lastMark_11 : decode cX5_lastMark 11 = .ok (.bipush 6, 2) := by decide +kernel
theorem dX5_lastMark_13 : decode cX5_lastMark 13 = .ok (.if_icmp .gt 17, 3) := by decide +kernel
theorem dX5_lastMark_16 : decode cX5_lastMark 16 = .ok (.aload_n 0, 1) := by decide +kernel
theorem dX5_lastMark_17 : decode cX5_lastMark 17 = .ok (.getfield 15, 3) := by decide +kernel
theorem dX5_lastMark_20 : decode cX5_lastMark 20 = .ok (.aload_n 0, 1) := by decide +kernel
theorem dX5_lastMark_21 : decode cX5_lastMark 21 = .ok (.getfield 18, 3) := by decide +kernel
theorem dX5_lastMark_24 : decode cX5_lastMark 24 = .ok (.iconst 1, 1) := by decide +kernel
theorem dX5_lastMark_25 : decode cX5_lastMark 25 = .ok (.isub, 1) := by decide +kernel
theorem dX5_lastMark_26 : decode cX5_lastMark 26 = .ok (.iaload, 1) := by decide +kernel
theorem dX5_lastMark_27 : decode cX5_lastMark 27 = .ok (.goto 4, 3) := by decide +kernel
theorem dX5_lastMark_30 : decode cX5_lastMark 30 = .ok (.iconst 0, 1) := by decide +kernel
theorem dX5_lastMark_31 : decode cX5_lastMark 31 = .ok (.ireturn, 1) := by decide +kernel
theorem dX5_put_0 : decode cX5_put 0 = .ok (.aload_n 0, 1) := by decide +kernel
theorem dX5_put_1 : decode cX5_put 1 = .ok (.getfield 18, 3) := by decide +kernel
theorem dX5_put_4 : decode cX5_put 4 = .ok (.ifCond .lt 42, 3) := by decide +kernel
theorem dX5_put_7 : decode cX5_put 7 = .ok (.aload_n 0, 1) := by decide +kernel
theorem dX5_put_8 : decode cX5_put 8 = .ok (.getfield 18, 3) := by decide +kernel
theorem dX5_put_11 : decode cX5_put 11 = .ok (.bipush 6, 2) := by decide +kernel
theorem dX5_put_13 : decode cX5_put 13 = .ok (.if_icmp .ge 33, 3) := by decide +kernel
theorem dX5_put_16 : decode cX5_put 16 = .ok (.aload_n 0, 1) := by decide +kernel
theorem dX5_put_17 : decode cX5_put 17 = .ok (.getfield 9, 3) := by decide +kernel
theorem dX5_put_20 : decode cX5_put 20 = .ok (.aload_n 0, 1) := by decide +kernel
theorem dX5_put_21 : decode cX5_put 21 = .ok (.getfield 18, 3) := by decide +kernel
theorem dX5_put_24 : decode cX5_put 24 = .ok (.iload_n 1, 1) := by decide +kernel
theorem dX5_put_25 : decode cX5_put 25 = .ok (.iastore, 1) := by decide +kernel
theorem dX5_put_26 : decode cX5_put 26 = .ok (.aload_n 0, 1) := by decide +kernel
theorem dX5_put_27 : decode cX5_put 27 = .ok (.getfield 15, 3) := by decide +kernel
theorem dX5_put_30 : decode cX5_put 30 = .ok (.aload_n 0, 1) := by decide +kernel
theorem dX5_put_31 : decode cX5_put 31 = .ok (.getfield 18, 3) := by decide +kernel
theorem dX5_put_34 : decode cX5_put 34 = .ok (.iload_n 2, 1) := by decide +kernel
theorem dX5_put_35 : decode cX5_put 35 = .ok (.iastore, 1) := by decide +kernel
theorem dX5_put_36 : decode cX5_put 36 = .ok (.aload_n 0, 1) := by decide +kernel
theorem dX5_put_37 : decode cX5_put 37 = .ok (.dup, 1) := by decide +kernel
theorem dX5_put_38 : decode cX5_put 38 = .ok (.getfield 18, 3) := by decide +kernel
theorem dX5_put_41 : decode cX5_put 41 = .ok (.iconst 1, 1) := by decide +kernel
theorem dX5_put_42 : decode cX5_put 42 = .ok (.iadd, 1) := by decide +kernel
theorem dX5_put_43 : decode cX5_put 43 = .ok (.putfield 18, 3) := by decide +kernel
theorem dX5_put_46 : decode cX5_put 46 = .ok (.return_, 1) := by decide +kernel
theorem dX5_takeOff_0 : decode cX5_takeOff 0 = .ok (.aload_n 0, 1) := by decide +kernel
theorem dX5_takeOff_1 : decode cX5_takeOff 1 = .ok (.getfield 18, 3) := by decide +kernel
theorem dX5_takeOff_4 : decode cX5_takeOff 4 = .ok (.ifCond .le 13, 3) := by decide +kernel
theorem dX5_takeOff_7 : decode cX5_takeOff 7 = .ok (.aload_n 0, 1) := by decide +kernel
theorem dX5_takeOff_8 : decode cX5_takeOff 8 = .ok (.dup, 1) := by decide +kernel
theorem dX5_takeOff_9 : decode cX5_takeOff 9 = .ok (.getfield 18, 3) := by decide +kernel
theorem dX5_takeOff_12 : decode cX5_takeOff 12 = .ok (.iconst 1, 1) := by decide +kernel
theorem dX5_takeOff_13 : decode cX5_takeOff 13 = .ok (.isub, 1) := by decide +kernel
theorem dX5_takeOff_14 : decode cX5_takeOff 14 = .ok (.putfield 18, 3) := by decide +kernel
theorem dX5_takeOff_17 : decode cX5_takeOff 17 = .ok (.return_, 1) := by decide +kernel
theorem dX5_copyFrom_0 : decode cX5_copyFrom 0 = .ok (.aload_n 1, 1) := by decide +kernel
theorem dX5_copyFrom_1 : decode cX5_copyFrom 1 = .ok (.getfield 9, 3) := by decide +kernel
theorem dX5_copyFrom_4 : decode cX5_copyFrom 4 = .ok (.iconst 0, 1) := by decide +kernel
theorem dX5_copyFrom_5 : decode cX5_copyFrom 5 = .ok (.aload_n 0, 1) := by decide +kernel
theorem dX5_copyFrom_6 : decode cX5_copyFrom 6 = .ok (.getfield 9, 3) := by decide +kernel
theorem dX5_copyFrom_9 : decode cX5_copyFrom 9 = .ok (.iconst 0, 1) := by decide +kernel
theorem dX5_copyFrom_10 : decode cX5_copyFrom 10 = .ok (.bipush 6, 2) := by decide +kernel
theorem dX5_copyFrom_12 : decode cX5_copyFrom 12 = .ok (.invokestatic 26, 3) := by decide +kernel
theorem dX5_copyFrom_15 : decode cX5_copyFrom 15 = .ok (.aload_n 1, 1) := by decide +kernel
theorem dX5_copyFrom_16 : decode cX5_copyFrom 16 = .ok (.getfield 15, 3) := by decide +kernel
theorem dX5_copyFrom_19 : decode cX5_copyFrom 19 = .ok (.iconst 0, 1) := by decide +kernel
theorem dX5_copyFrom_20 : decode cX5_copyFrom 20 = .ok (.aload_n 0, 1) := by decide +kernel
theorem dX5_copyFrom_21 : decode cX5_copyFrom 21 = .ok (.getfield 15, 3) := by decide +kernel
theorem dX5_copyFrom_24 : decode cX5_copyFrom 24 = .ok (.iconst 0, 1) := by decide +kernel
theorem dX5_copyFrom_25 : decode cX5_copyFrom 25 = .ok (.bipush 6, 2) := by decide +kernel
theorem dX5_copyFrom_27 : decode cX5_copyFrom 27 = .ok (.invokestatic 26, 3) := by decide +kernel
theorem dX5_copyFrom_30 : decode cX5_copyFrom 30 = .ok (.aload_n 0, 1) := by decide +kernel
theorem dX5_copyFrom_31 : decode cX5_copyFrom 31 = .ok (.aload_n 1, 1) := by decide +kernel
theorem dX5_copyFrom_32 : decode cX5_copyFrom 32 = .ok (.getfield 18, 3) := by decide +kernel
theorem dX5_copyFrom_35 : decode cX5_copyFrom 35 = .ok (.putfield 18, 3) := by decide +kernel
theorem dX5_copyFrom_38 : decode cX5_copyFrom 38 = .ok (.return_, 1) := by decide +kernel
theorem dX6_init_0 : decode cX6_init 0 = .ok (.aload_n 0, 1) := by decide +kernel
theorem dX6_init_1 : decode cX6_init 1 = .ok (.invokespecial 1, 3) := by decide +kernel
theorem dX6_init_4 : decode cX6_init 4 = .ok (.aload_n 0, 1) := by decide +kernel
theorem dX6_init_5 : decode cX6_init 5 = .ok (.new 7, 3) := by decide +kernel
theorem dX6_init_8 : decode cX6_init 8 = .ok (.dup, 1) := by decide +kernel
theorem dX6_init_9 : decode cX6_init 9 = .ok (.invokespecial 9, 3) := by decide +kernel
theorem dX6_init_12 : decode cX6_init 12 = .ok (.putfield 10, 3) := by decide +kernel
theorem dX6_init_15 : decode cX6_init 15 = .ok (.aload_n 0, 1) := by decide +kernel
theorem dX6_init_16 : decode cX6_init 16 = .ok (.new 16, 3) := by decide +kernel
theorem dX6_init_19 : decode cX6_init 19 = .ok (.dup, 1) := by decide +kernel
theorem dX6_init_20 : decode cX6_init 20 = .ok (.aload_n 0, 1) := by decide +kernel
theorem dX6_init_21 : decode cX6_init 21 = .ok (.getfield 10, 3) := by decide +kernel
theorem dX6_init_24 : decode cX6_init 24 = .ok (.invokespecial 18, 3) := by decide +kernel
theorem dX6_init_27 : decode cX6_init 27 = .ok (.putfield 21, 3) := by decide +kernel
theorem dX6_init_30 : decode cX6_init 30 = .ok (.aload_n 0, 1) := by decide +kernel
theorem dX6_init_31 : decode cX6_init 31 = .ok (.new 16, 3) := by decide +kernel
theorem dX6_init_34 : decode cX6_init 34 = .ok (.dup, 1) := by decide +kernel
theorem dX6_init_35 : decode cX6_init 35 = .ok (.aload_n 0, 1) := by decide +kernel
theorem dX6_init_36 : decode cX6_init 36 = .ok (.getfield 10, 3) := by decide +kernel
theorem dX6_init_39 : decode cX6_init 39 = .ok (.invokespecial 18, 3) := by decide +kernel
theorem dX6_init_42 : decode cX6_init 42 = .ok (.putfield 25, 3) := by decide +kernel
theorem dX6_init_45 : decode cX6_init 45 = .ok (.return_, 1) := by decide +kernel
theorem dX6_body_0 : decode cX6_body 0 = .ok (.aload_n 0, 1) := by decide +kernel
theorem dX6_body_1 : decode cX6_body 1 = .ok (.getfield 10, 3) := by decide +kernel
theorem dX6_body_4 : decode cX6_body 4 = .ok (.getfield 28, 3) := by decide +kernel
theorem dX6_body_7 : decode cX6_body 7 = .ok (.bipush 8, 2) := by decide +kernel
theorem dX6_body_9 : decode cX6_body 9 = .ok (.if_icmp .lt 13, 3) := by decide +kernel
theorem dX6_body_12 : decode cX6_body 12 = .ok (.new 32, 3) := by decide +kernel
theorem dX6_body_15 : decode cX6_body 15 = .ok (.dup, 1) := by decide +kernel
theorem dX6_body_16 : decode cX6_body 16 = .ok (.ldc 34, 2) := by decide +kernel
theorem dX6_body_18 : decode cX6_body 18 = .ok (.invokespecial 36, 3) := by decide +kernel
theorem dX6_body_21 : decode cX6_body 21 = .ok (.athrow, 1) := by decide +kernel
theorem dX6_body_22 : decode cX6_body 22 = .ok (.aload_n 0, 1) := by decide +kernel
theorem dX6_body_23 : decode cX6_body 23 = .ok (.getfield 10, 3) := by decide +kernel
theorem dX6_body_26 : decode cX6_body 26 = .ok (.invokevirtual 39, 3) := by decide +kernel
theorem dX6_body_29 : decode cX6_body 29 = .ok (.ireturn, 1) := by decide +kernel
theorem dX6_line_0 : decode cX6_line 0 = .ok (.aload_n 0, 1) := by decide +kernel
theorem dX6_line_1 : decode cX6_line 1 = .ok (.getfield 10, 3) := by decide +kernel
theorem dX6_line_4 : decode cX6_line 4 = .ok (.iload_n 1, 1) := by decide +kernel
theorem dX6_line_5 : decode cX6_line 5 = .ok (.invokevirtual 43, 3) := by decide +kernel
theorem dX6_line_8 : decode cX6_line 8 = .ok (.ifCond .ne 13, 3) := by decide +kernel
theorem dX6_line_11 : decode cX6_line 11 = .ok (.new 47, 3) := by decide +kernel
theorem dX6_line_14 : decode cX6_line 14 = .ok (.dup, 1) := by decide +kernel
theorem dX6_line_15 : decode cX6_line 15 = .ok (.ldc 49, 2) := by decide +kernel
theorem dX6_line_17 : decode cX6_line 17 = .ok (.invokespecial 51, 3) := by decide +kernel
theorem dX6_line_20 : decode cX6_line 20 = .ok (.athrow, 1) := by decide +kernel
theorem dX6_line_21 : decode cX6_line 21 = .ok (.aload_n 0, 1) := by decide +kernel
theorem dX6_line_22 : decode cX6_line 22 = .ok (.getfield 10, 3) := by decide +kernel
theorem dX6_line_25 : decode cX6_line 25 = .ok (.iload_n 1, 1) := by decide +kernel
theorem dX6_line_26 : decode cX6_line 26 = .ok (.invokevirtual 52, 3) := by decide +kernel
theorem dX6_line_29 : decode cX6_line 29 = .ok (.astore 5, 2) := by decide +kernel
theorem dX6_line_31 : decode cX6_line 31 = .ok (.aload 5, 2) := by decide +kernel
theorem dX6_line_33 : decode cX6_line 33 = .ok (.iload_n 2, 1) := by decide +kernel
theorem dX6_line_34 : decode cX6_line 34 = .ok (.iload_n 3, 1) := by decide +kernel
theorem dX6_line_35 : decode cX6_line 35 = .ok (.iload 4, 2) := by decide +kernel
theorem dX6_line_37 : decode cX6_line 37 = .ok (.invokevirtual 56, 3) := by decide +kernel
theorem dX6_line_40 : decode cX6_line 40 = .ok (.ifCond .ne 13, 3) := by decide +kernel
theorem dX6_line_43 : decode cX6_line 43 = .ok (.new 62, 3) := by decide +kernel
theorem dX6_line_46 : decode cX6_line 46 = .ok (.dup, 1) := by decide +kernel
theorem dX6_line_47 : decode cX6_line 47 = .ok (.ldc 64, 2) := by decide +kernel
theorem dX6_line_49 : decode cX6_line 49 = .ok (.invokespecial 66, 3) := by decide +kernel
theorem dX6_line_52 : decode cX6_line 52 = .ok (.athrow, 1) := by decide +kernel
theorem dX6_line_53 : decode cX6_line 53 = .ok (.aload 5, 2) := by decide +kernel
theorem dX6_line_55 : decode cX6_line 55 = .ok (.getfield 67, 3) := by decide +kernel
theorem dX6_line_58 : decode cX6_line 58 = .ok (.bipush 12, 2) := by decide +kernel
theorem dX6_line_60 : decode cX6_line 60 = .ok (.if_icmp .ge 14, 3) := by decide +kernel
theorem dX6_line_63 : decode cX6_line 63 = .ok (.aload_n 0, 1) := by decide +kernel
theorem dX6_line_64 : decode cX6_line 64 = .ok (.getfield 21, 3) := by decide +kernel
theorem dX6_line_67 : decode cX6_line 67 = .ok (.iload_n 1, 1) := by decide +kernel
theorem dX6_line_68 : decode cX6_line 68 = .ok (.invokevirtual 70, 3) := by decide +kernel
theorem dX6_line_71 : decode cX6_line 71 = .ok (.ifCond .le 13, 3) := by decide +kernel
theorem dX6_line_74 : decode cX6_line 74 = .ok (.new 32, 3) := by decide +kernel
theorem dX6_line_77 : decode cX6_line 77 = .ok (.dup, 1) := by decide +kernel
theorem dX6_line_78 : decode cX6_line 78 = .ok (.ldc 74, 2) := by decide +kernel
theorem dX6_line_80 : decode cX6_line 80 = .ok (.invokespecial 36, 3) := by decide +kernel
theorem dX6_line_83 : decode cX6_line 83 = .ok (.athrow, 1) := by decide +kernel
theorem dX6_line_84 : decode cX6_line 84 = .ok (.aload 5, 2) := by decide +kernel
theorem dX6_line_86 : decode cX6_line 86 = .ok (.iload_n 2, 1) := by decide +kernel
theorem dX6_line_87 : decode cX6_line 87 = .ok (.iload_n 3, 1) := by decide +kernel
theorem dX6_line_88 : decode cX6_line 88 = .ok (.iload 4, 2) := by decide +kernel
theorem dX6_line_90 : decode cX6_line 90 = .ok (.invokevirtual 76, 3) := by decide +kernel
theorem dX6_line_93 : decode cX6_line 93 = .ok (.ireturn, 1) := by decide +kernel
theorem dX6_ofBody_0 : decode cX6_ofBody 0 = .ok (.aload_n 0, 1) := by decide +kernel
theorem dX6_ofBody_1 : decode cX6_ofBody 1 = .ok (.getfield 10, 3) := by decide +kernel
theorem dX6_ofBody_4 : decode cX6_ofBody 4 = .ok (.iload_n 1, 1) := by decide +kernel
theorem dX6_ofBody_5 : decode cX6_ofBody 5 = .ok (.invokevirtual 43, 3) := by decide +kernel
theorem dX6_ofBody_8 : decode cX6_ofBody 8 = .ok (.ifCond .ne 13, 3) := by decide +kernel
theorem dX6_ofBody_11 : decode cX6_ofBody 11 = .ok (.new 47, 3) := by decide +kernel
theorem dX6_ofBody_14 : decode cX6_ofBody 14 = .ok (.dup, 1) := by decide +kernel
theorem dX6_ofBody_15 : decode cX6_ofBody 15 = .ok (.ldc 49, 2) := by decide +kernel
theorem dX6_ofBody_17 : decode cX6_ofBody 17 = .ok (.invokespecial 51, 3) := by decide +kernel
theorem dX6_ofBody_20 : decode cX6_ofBody 20 = .ok (.athrow, 1) := by decide +kernel
theorem dX6_ofBody_21 : decode cX6_ofBody 21 = .ok (.iload_n 2, 1) := by decide +kernel
theorem dX6_ofBody_22 : decode cX6_ofBody 22 = .ok (.tableswitch 59 0 2 #[26, 38, 47], 26) := by decide +kernel
theorem dX6_ofBody_48 : decode cX6_ofBody 48 = .ok (.aload_n 0, 1) := by decide +kernel
theorem dX6_ofBody_49 : decode cX6_ofBody 49 = .ok (.getfield 10, 3) := by decide +kernel
theorem dX6_ofBody_52 : decode cX6_ofBody 52 = .ok (.iload_n 1, 1) := by decide +kernel
theorem dX6_ofBody_53 : decode cX6_ofBody 53 = .ok (.invokevirtual 52, 3) := by decide +kernel
theorem dX6_ofBody_56 : decode cX6_ofBody 56 = .ok (.getfield 67, 3) := by decide +kernel
theorem dX6_ofBody_59 : decode cX6_ofBody 59 = .ok (.ireturn, 1) := by decide +kernel
theorem dX6_ofBody_60 : decode cX6_ofBody 60 = .ok (.aload_n 0, 1) := by decide +kernel
theorem dX6_ofBody_61 : decode cX6_ofBody 61 = .ok (.getfield 21, 3) := by decide +kernel
theorem dX6_ofBody_64 : decode cX6_ofBody 64 = .ok (.iload_n 1, 1) := by decide +kernel
theorem dX6_ofBody_65 : decode cX6_ofBody 65 = .ok (.invokevirtual 70, 3) := by decide +kernel
theorem dX6_ofBody_68 : decode cX6_ofBody 68 = .ok (.ireturn, 1) := by decide +kernel
theorem dX6_ofBody_69 : decode cX6_ofBody 69 = .ok (.aload_n 0, 1) := by decide +kernel
theorem dX6_ofBody_70 : decode cX6_ofBody 70 = .ok (.getfield 10, 3) := by decide +kernel
theorem dX6_ofBody_73 : decode cX6_ofBody 73 = .ok (.iload_n 1, 1) := by decide +kernel
theorem dX6_ofBody_74 : decode cX6_ofBody 74 = .ok (.invokevirtual 52, 3) := by decide +kernel
theorem dX6_ofBody_77 : decode cX6_ofBody 77 = .ok (.invokevirtual 80, 3) := by decide +kernel
theorem dX6_ofBody_80 : decode cX6_ofBody 80 = .ok (.ireturn, 1) := by decide +kernel
theorem dX6_ofBody_81 : decode cX6_ofBody 81 = .ok (.new 62, 3) := by decide +kernel
theorem dX6_ofBody_84 : decode cX6_ofBody 84 = .ok (.dup, 1) := by decide +kernel
theorem dX6_ofBody_85 : decode cX6_ofBody 85 = .ok (.ldc 83, 2) := by decide +kernel
theorem dX6_ofBody_87 : decode cX6_ofBody 87 = .ok (.invokespecial 66, 3) := by decide +kernel
theorem dX6_ofBody_90 : decode cX6_ofBody 90 = .ok (.athrow, 1) := by decide +kernel
theorem dX6_generator_0 : decode cX6_generator 0 = .ok (.aload_n 0, 1) := by decide +kernel
theorem dX6_generator_1 : decode cX6_generator 1 = .ok (.getfield 10, 3) := by decide +kernel
theorem dX6_generator_4 : decode cX6_generator 4 = .ok (.iload_n 1, 1) := by decide +kernel
theorem dX6_generator_5 : decode cX6_generator 5 = .ok (.invokevirtual 43, 3) := by decide +kernel
theorem dX6_generator_8 : decode cX6_generator 8 = .ok (.ifCond .ne 13, 3) := by decide +kernel
theorem dX6_generator_11 : decode cX6_generator 11 = .ok (.new 47, 3) := by decide +kernel
theorem dX6_generator_14 : decode cX6_generator 14 = .ok (.dup, 1) := by decide +kernel
theorem dX6_generator_15 : decode cX6_generator 15 = .ok (.ldc 49, 2) := by decide +kernel
theorem dX6_generator_17 : decode cX6_generator 17 = .ok (.invokespecial 51, 3) := by decide +kernel
theorem dX6_generator_20 : decode cX6_generator 20 = .ok (.athrow, 1) := by decide +kernel
theorem dX6_generator_21 : decode cX6_generator 21 = .ok (.aload_n 0, 1) := by decide +kernel
theorem dX6_generator_22 : decode cX6_generator 22 = .ok (.getfield 21, 3) := by decide +kernel
theorem dX6_generator_25 : decode cX6_generator 25 = .ok (.invokevirtual 85, 3) := by decide +kernel
theorem dX6_generator_28 : decode cX6_generator 28 = .ok (.ifCond .eq 13, 3) := by decide +kernel
theorem dX6_generator_31 : decode cX6_generator 31 = .ok (.new 32, 3) := by decide +kernel
theorem dX6_generator_34 : decode cX6_generator 34 = .ok (.dup, 1) := by decide +kernel
theorem dX6_generator_35 : decode cX6_generator 35 = .ok (.ldc 89, 2) := by decide +kernel
theorem dX6_generator_37 : decode cX6_generator 37 = .ok (.invokespecial 36, 3) := by decide +kernel
theorem dX6_generator_40 : decode cX6_generator 40 = .ok (.athrow, 1) := by decide +kernel
theorem dX6_generator_41 : decode cX6_generator 41 = .ok (.aload_n 0, 1) := by decide +kernel
theorem dX6_generator_42 : decode cX6_generator 42 = .ok (.getfield 21, 3) := by decide +kernel
theorem dX6_generator_45 : decode cX6_generator 45 = .ok (.iload_n 1, 1) := by decide +kernel
theorem dX6_generator_46 : decode cX6_generator 46 = .ok (.iconst 0, 1) := by decide +kernel
theorem dX6_generator_47 : decode cX6_generator 47 = .ok (.iconst (-1), 1) := by decide +kernel
theorem dX6_generator_48 : decode cX6_generator 48 = .ok (.invokevirtual 91, 3) := by decide +kernel
theorem dX6_generator_51 : decode cX6_generator 51 = .ok (.getfield 95, 3) := by decide +kernel
theorem dX6_generator_54 : decode cX6_generator 54 = .ok (.ireturn, 1) := by decide +kernel
theorem dX6_resume_0 : decode cX6_resume 0 = .ok (.aload_n 0, 1) := by decide +kernel
theorem dX6_resume_1 : decode cX6_resume 1 = .ok (.getfield 21, 3) := by decide +kernel
theorem dX6_resume_4 : decode cX6_resume 4 = .ok (.iload_n 1, 1) := by decide +kernel
theorem dX6_resume_5 : decode cX6_resume 5 = .ok (.iconst 0, 1) := by decide +kernel
theorem dX6_resume_6 : decode cX6_resume 6 = .ok (.invokevirtual 100, 3) := by decide +kernel
theorem dX6_resume_9 : decode cX6_resume 9 = .ok (.ifCond .ne 13, 3) := by decide +kernel
theorem dX6_resume_12 : decode cX6_resume 12 = .ok (.new 47, 3) := by decide +kernel
theorem dX6_resume_15 : decode cX6_resume 15 = .ok (.dup, 1) := by decide +kernel
theorem dX6_resume_16 : decode cX6_resume 16 = .ok (.ldc 103, 2) := by decide +kernel
theorem dX6_resume_18 : decode cX6_resume 18 = .ok (.invokespecial 51, 3) := by decide +kernel
theorem dX6_resume_21 : decode cX6_resume 21 = .ok (.athrow, 1) := by decide +kernel
theorem dX6_resume_22 : decode cX6_resume 22 = .ok (.iload_n 2, 1) := by decide +kernel
theorem dX6_resume_23 : decode cX6_resume 23 = .ok (.sipush (-999), 3) := by decide +kernel
theorem dX6_resume_26 : decode cX6_resume 26 = .ok (.sipush 999, 3) := by decide +kernel
theorem dX6_resume_29 : decode cX6_resume 29 = .ok (.invokestatic 105, 3) := by decide +kernel
theorem dX6_resume_32 : decode cX6_resume 32 = .ok (.ifCond .ne 13, 3) := by decide +kernel
theorem dX6_resume_35 : decode cX6_resume 35 = .ok (.new 62, 3) := by decide +kernel
theorem dX6_resume_38 : decode cX6_resume 38 = .ok (.dup, 1) := by decide +kernel
theorem dX6_resume_39 : decode cX6_resume 39 = .ok (.ldc 108, 2) := by decide +kernel
theorem dX6_resume_41 : decode cX6_resume 41 = .ok (.invokespecial 66, 3) := by decide +kernel
theorem dX6_resume_44 : decode cX6_resume 44 = .ok (.athrow, 1) := by decide +kernel
theorem dX6_resume_45 : decode cX6_resume 45 = .ok (.aload_n 0, 1) := by decide +kernel
theorem dX6_resume_46 : decode cX6_resume 46 = .ok (.getfield 21, 3) := by decide +kernel
theorem dX6_resume_49 : decode cX6_resume 49 = .ok (.iload_n 1, 1) := by decide +kernel
theorem dX6_resume_50 : decode cX6_resume 50 = .ok (.invokevirtual 110, 3) := by decide +kernel
theorem dX6_resume_53 : decode cX6_resume 53 = .ok (.invokevirtual 113, 3) := by decide +kernel
theorem dX6_resume_56 : decode cX6_resume 56 = .ok (.ifCond .eq 13, 3) := by decide +kernel
theorem dX6_resume_59 : decode cX6_resume 59 = .ok (.new 32, 3) := by decide +kernel
theorem dX6_resume_62 : decode cX6_resume 62 = .ok (.dup, 1) := by decide +kernel
theorem dX6_resume_63 : decode cX6_resume 63 = .ok (.ldc 116, 2) := by decide +kernel
theorem dX6_resume_65 : decode cX6_resume 65 = .ok (.invokespecial 36, 3) := by decide +kernel
theorem dX6_resume_68 : decode cX6_resume 68 = .ok (.athrow, 1) := by decide +kernel
theorem dX6_resume_69 : decode cX6_resume 69 = .ok (.aload_n 0, 1) := by decide +kernel
theorem dX6_resume_70 : decode cX6_resume 70 = .ok (.getfield 21, 3) := by decide +kernel
theorem dX6_resume_73 : decode cX6_resume 73 = .ok (.iload_n 1, 1) := by decide +kernel
theorem dX6_resume_74 : decode cX6_resume 74 = .ok (.iload_n 2, 1) := by decide +kernel
theorem dX6_resume_75 : decode cX6_resume 75 = .ok (.invokevirtual 118, 3) := by decide +kernel
theorem dX6_resume_78 : decode cX6_resume 78 = .ok (.ireturn, 1) := by decide +kernel
theorem dX6_raise_0 : decode cX6_raise 0 = .ok (.aload_n 0, 1) := by decide +kernel
theorem dX6_raise_1 : decode cX6_raise 1 = .ok (.getfield 21, 3) := by decide +kernel
theorem dX6_raise_4 : decode cX6_raise 4 = .ok (.iload_n 1, 1) := by decide +kernel
theorem dX6_raise_5 : decode cX6_raise 5 = .ok (.iconst 0, 1) := by decide +kernel
theorem dX6_raise_6 : decode cX6_raise 6 = .ok (.invokevirtual 100, 3) := by decide +kernel
theorem dX6_raise_9 : decode cX6_raise 9 = .ok (.ifCond .ne 13, 3) := by decide +kernel
theorem dX6_raise_12 : decode cX6_raise 12 = .ok (.new 47, 3) := by decide +kernel
theorem dX6_raise_15 : decode cX6_raise 15 = .ok (.dup, 1) := by decide +kernel
theorem dX6_raise_16 : decode cX6_raise 16 = .ok (.ldc 103, 2) := by decide +kernel
theorem dX6_raise_18 : decode cX6_raise 18 = .ok (.invokespecial 51, 3) := by decide +kernel
theorem dX6_raise_21 : decode cX6_raise 21 = .ok (.athrow, 1) := by decide +kernel
theorem dX6_raise_22 : decode cX6_raise 22 = .ok (.iload_n 2, 1) := by decide +kernel
theorem dX6_raise_23 : decode cX6_raise 23 = .ok (.iconst 1, 1) := by decide +kernel
theorem dX6_raise_24 : decode cX6_raise 24 = .ok (.bipush 7, 2) := by decide +kernel
theorem dX6_raise_26 : decode cX6_raise 26 = .ok (.invokestatic 105, 3) := by decide +kernel
theorem dX6_raise_29 : decode cX6_raise 29 = .ok (.ifCond .ne 13, 3) := by decide +kernel
theorem dX6_raise_32 : decode cX6_raise 32 = .ok (.new 62, 3) := by decide +kernel
theorem dX6_raise_35 : decode cX6_raise 35 = .ok (.dup, 1) := by decide +kernel
theorem dX6_raise_36 : decode cX6_raise 36 = .ok (.ldc 122, 2) := by decide +kernel
theorem dX6_raise_38 : decode cX6_raise 38 = .ok (.invokespecial 66, 3) := by decide +kernel
theorem dX6_raise_41 : decode cX6_raise 41 = .ok (.athrow, 1) := by decide +kernel
theorem dX6_raise_42 : decode cX6_raise 42 = .ok (.aload_n 0, 1) := by decide +kernel
theorem dX6_raise_43 : decode cX6_raise 43 = .ok (.getfield 21, 3) := by decide +kernel
theorem dX6_raise_46 : decode cX6_raise 46 = .ok (.iload_n 1, 1) := by decide +kernel
theorem dX6_raise_47 : decode cX6_raise 47 = .ok (.invokevirtual 110, 3) := by decide +kernel
theorem dX6_raise_50 : decode cX6_raise 50 = .ok (.invokevirtual 113, 3) := by decide +kernel
theorem dX6_raise_53 : decode cX6_raise 53 = .ok (.ifCond .eq 13, 3) := by decide +kernel
theorem dX6_raise_56 : decode cX6_raise 56 = .ok (.new 32, 3) := by decide +kernel
theorem dX6_raise_59 : decode cX6_raise 59 = .ok (.dup, 1) := by decide +kernel
theorem dX6_raise_60 : decode cX6_raise 60 = .ok (.ldc 116, 2) := by decide +kernel
theorem dX6_raise_62 : decode cX6_raise 62 = .ok (.invokespecial 36, 3) := by decide +kernel
theorem dX6_raise_65 : decode cX6_raise 65 = .ok (.athrow, 1) := by decide +kernel
theorem dX6_raise_66 : decode cX6_raise 66 = .ok (.aload_n 0, 1) := by decide +kernel
theorem dX6_raise_67 : decode cX6_raise 67 = .ok (.getfield 21, 3) := by decide +kernel
theorem dX6_raise_70 : decode cX6_raise 70 = .ok (.iload_n 1, 1) := by decide +kernel
theorem dX6_raise_71 : decode cX6_raise 71 = .ok (.iload_n 2, 1) := by decide +kernel
theorem dX6_raise_72 : decode cX6_raise 72 = .ok (.invokevirtual 124, 3) := by decide +kernel
theorem dX6_raise_75 : decode cX6_raise 75 = .ok (.ireturn, 1) := by decide +kernel
theorem dX6_close_0 : decode cX6_close 0 = .ok (.aload_n 0, 1) := by decide +kernel
theorem dX6_close_1 : decode cX6_close 1 = .ok (.getfield 21, 3) := by decide +kernel
theorem dX6_close_4 : decode cX6_close 4 = .ok (.iload_n 1, 1) := by decide +kernel
theorem dX6_close_5 : decode cX6_close 5 = .ok (.iconst 0, 1) := by decide +kernel
theorem dX6_close_6 : decode cX6_close 6 = .ok (.invokevirtual 100, 3) := by decide +kernel
theorem dX6_close_9 : decode cX6_close 9 = .ok (.ifCond .ne 13, 3) := by decide +kernel
theorem dX6_close_12 : decode cX6_close 12 = .ok (.new 47, 3) := by decide +kernel
theorem dX6_close_15 : decode cX6_close 15 = .ok (.dup, 1) := by decide +kernel
theorem dX6_close_16 : decode cX6_close 16 = .ok (.ldc 103, 2) := by decide +kernel
theorem dX6_close_18 : decode cX6_close 18 = .ok (.invokespecial 51, 3) := by decide +kernel
theorem dX6_close_21 : decode cX6_close 21 = .ok (.athrow, 1) := by decide +kernel
theorem dX6_close_22 : decode cX6_close 22 = .ok (.aload_n 0, 1) := by decide +kernel
theorem dX6_close_23 : decode cX6_close 23 = .ok (.getfield 21, 3) := by decide +kernel
theorem dX6_close_26 : decode cX6_close 26 = .ok (.iload_n 1, 1) := by decide +kernel
theorem dX6_close_27 : decode cX6_close 27 = .ok (.invokevirtual 127, 3) := by decide +kernel
theorem dX6_close_30 : decode cX6_close 30 = .ok (.ireturn, 1) := by decide +kernel
theorem dX6_start_0 : decode cX6_start 0 = .ok (.aload_n 0, 1) := by decide +kernel
theorem dX6_start_1 : decode cX6_start 1 = .ok (.getfield 10, 3) := by decide +kernel
theorem dX6_start_4 : decode cX6_start 4 = .ok (.iload_n 1, 1) := by decide +kernel
theorem dX6_start_5 : decode cX6_start 5 = .ok (.invokevirtual 43, 3) := by decide +kernel
theorem dX6_start_8 : decode cX6_start 8 = .ok (.ifCond .ne 13, 3) := by decide +kernel
theorem dX6_start_11 : decode cX6_start 11 = .ok (.new 47, 3) := by decide +kernel
theorem dX6_start_14 : decode cX6_start 14 = .ok (.dup, 1) := by decide +kernel
theorem dX6_start_15 : decode cX6_start 15 = .ok (.ldc 49, 2) := by decide +kernel
theorem dX6_start_17 : decode cX6_start 17 = .ok (.invokespecial 51, 3) := by decide +kernel
theorem dX6_start_20 : decode cX6_start 20 = .ok (.athrow, 1) := by decide +kernel
theorem dX6_start_21 : decode cX6_start 21 = .ok (.aload_n 0, 1) := by decide +kernel
theorem dX6_start_22 : decode cX6_start 22 = .ok (.getfield 21, 3) := by decide +kernel
theorem dX6_start_25 : decode cX6_start 25 = .ok (.invokevirtual 85, 3) := by decide +kernel
theorem dX6_start_28 : decode cX6_start 28 = .ok (.ifCond .eq 13, 3) := by decide +kernel
theorem dX6_start_31 : decode cX6_start 31 = .ok (.new 32, 3) := by decide +kernel
theorem dX6_start_34 : decode cX6_start 34 = .ok (.dup, 1) := by decide +kernel
theorem dX6_start_35 : decode cX6_start 35 = .ok (.ldc 89, 2) := by decide +kernel
theorem dX6_start_37 : decode cX6_start 37 = .ok (.invokespecial 36, 3) := by decide +kernel
theorem dX6_start_40 : decode cX6_start 40 = .ok (.athrow, 1) := by decide +kernel
theorem dX6_start_41 : decode cX6_start 41 = .ok (.aload_n 0, 1) := by decide +kernel
theorem dX6_start_42 : decode cX6_start 42 = .ok (.getfield 21, 3) := by decide +kernel
theorem dX6_start_45 : decode cX6_start 45 = .ok (.iload_n 1, 1) := by decide +kernel
theorem dX6_start_46 : decode cX6_start 46 = .ok (.iconst 1, 1) := by decide +kernel
theorem dX6_start_47 : decode cX6_start 47 = .ok (.iconst (-1), 1) := by decide +kernel
theorem dX6_start_48 : decode cX6_start 48 = .ok (.invokevirtual 91, 3) := by decide +kernel
theorem dX6_start_51 : decode cX6_start 51 = .ok (.getfield 95, 3) := by decide +kernel
theorem dX6_start_54 : decode cX6_start 54 = .ok (.ireturn, 1) := by decide +kernel
theorem dX6_run_0 : decode cX6_run 0 = .ok (.iload_n 1, 1) := by decide +kernel
theorem dX6_run_1 : decode cX6_run 1 = .ok (.iconst 1, 1) := by decide +kernel
theorem dX6_run_2 : decode cX6_run 2 = .ok (.bipush 50, 2) := by decide +kernel
theorem dX6_run_4 : decode cX6_run 4 = .ok (.invokestatic 105, 3) := by decide +kernel
theorem dX6_run_7 : decode cX6_run 7 = .ok (.ifCond .ne 13, 3) := by decide +kernel
theorem dX6_run_10 : decode cX6_run 10 = .ok (.new 62, 3) := by decide +kernel
theorem dX6_run_13 : decode cX6_run 13 = .ok (.dup, 1) := by decide +kernel
theorem dX6_run_14 : decode cX6_run 14 = .ok (.ldc 130, 2) := by decide +kernel
theorem dX6_run_16 : decode cX6_run 16 = .ok (.invokespecial 66, 3) := by decide +kernel
theorem dX6_run_19 : decode cX6_run 19 = .ok (.athrow, 1) := by decide +kernel
theorem dX6_run_20 : decode cX6_run 20 = .ok (.aload_n 0, 1) := by decide +kernel
theorem dX6_run_21 : decode cX6_run 21 = .ok (.getfield 21, 3) := by decide +kernel
theorem dX6_run_24 : decode cX6_run 24 = .ok (.iload_n 1, 1) := by decide +kernel
theorem dX6_run_25 : decode cX6_run 25 = .ok (.invokevirtual 132, 3) := by decide +kernel
theorem dX6_run_28 : decode cX6_run 28 = .ok (.ireturn, 1) := by decide +kernel
theorem dX6_tick_0 : decode cX6_tick 0 = .ok (.iload_n 1, 1) := by decide +kernel
theorem dX6_tick_1 : decode cX6_tick 1 = .ok (.iconst 1, 1) := by decide +kernel
theorem dX6_tick_2 : decode cX6_tick 2 = .ok (.bipush 20, 2) := by decide +kernel
theorem dX6_tick_4 : decode cX6_tick 4 = .ok (.invokestatic 105, 3) := by decide +kernel
theorem dX6_tick_7 : decode cX6_tick 7 = .ok (.ifCond .ne 13, 3) := by decide +kernel
theorem dX6_tick_10 : decode cX6_tick 10 = .ok (.new 62, 3) := by decide +kernel
theorem dX6_tick_13 : decode cX6_tick 13 = .ok (.dup, 1) := by decide +kernel
theorem dX6_tick_14 : decode cX6_tick 14 = .ok (.ldc 135, 2) := by decide +kernel
theorem dX6_tick_16 : decode cX6_tick 16 = .ok (.invokespecial 66, 3) := by decide +kernel
theorem dX6_tick_19 : decode cX6_tick 19 = .ok (.athrow, 1) := by decide +kernel
theorem dX6_tick_20 : decode cX6_tick 20 = .ok (.iconst 0, 1) := by decide +kernel
theorem dX6_tick_21 : decode cX6_tick 21 = .ok (.istore_n 2, 1) := by decide +kernel
theorem dX6_tick_22 : decode cX6_tick 22 = .ok (.iconst 0, 1) := by decide +kernel
theorem dX6_tick_23 : decode cX6_tick 23 = .ok (.istore_n 3, 1) := by decide +kernel
theorem dX6_tick_24 : decode cX6_tick 24 = .ok (.iload_n 3, 1) := by decide +kernel
theorem dX6_tick_25 : decode cX6_tick 25 = .ok (.iload_n 1, 1) := by decide +kernel
theorem dX6_tick_26 : decode cX6_tick 26 = .ok (.if_icmp .ge 19, 3) := by decide +kernel
theorem dX6_tick_29 : decode cX6_tick 29 = .ok (.iload_n 2, 1) := by decide +kernel
theorem dX6_tick_30 : decode cX6_tick 30 = .ok (.aload_n 0, 1) := by decide +kernel
theorem dX6_tick_31 : decode cX6_tick 31 = .ok (.getfield 21, 3) := by decide +kernel
theorem dX6_tick_34 : decode cX6_tick 34 = .ok (.invokevirtual 137, 3) := by decide +kernel
theorem dX6_tick_37 : decode cX6_tick 37 = .ok (.iadd, 1) := by decide +kernel
theorem dX6_tick_38 : decode cX6_tick 38 = .ok (.istore_n 2, 1) := by decide +kernel
theorem dX6_tick_39 : decode cX6_tick 39 = .ok (.iinc 3 1, 3) := by decide +kernel
theorem dX6_tick_42 : decode cX6_tick 42 = .ok (.goto (-18), 3) := by decide +kernel
theorem dX6_tick_45 : decode cX6_tick 45 = .ok (.iload_n 2, 1) := by decide +kernel
theorem dX6_tick_46 : decode cX6_tick 46 = .ok (.ireturn, 1) := by decide +kernel
theorem dX6_cancel_0 : decode cX6_cancel 0 = .ok (.aload_n 0, 1) := by decide +kernel
theorem dX6_cancel_1 : decode cX6_cancel 1 = .ok (.getfield 21, 3) := by decide +kernel
theorem dX6_cancel_4 : decode cX6_cancel 4 = .ok (.iload_n 1, 1) := by decide +kernel
theorem dX6_cancel_5 : decode cX6_cancel 5 = .ok (.iconst 1, 1) := by decide +kernel
theorem dX6_cancel_6 : decode cX6_cancel 6 = .ok (.invokevirtual 100, 3) := by decide +kernel
theorem dX6_cancel_9 : decode cX6_cancel 9 = .ok (.ifCond .ne 13, 3) := by decide +kernel
theorem dX6_cancel_12 : decode cX6_cancel 12 = .ok (.new 47, 3) := by decide +kernel
theorem dX6_cancel_15 : decode cX6_cancel 15 = .ok (.dup, 1) := by decide +kernel
theorem dX6_cancel_16 : decode cX6_cancel 16 = .ok (.ldc 140, 2) := by decide +kernel
theorem dX6_cancel_18 : decode cX6_cancel 18 = .ok (.invokespecial 51, 3) := by decide +kernel
theorem dX6_cancel_21 : decode cX6_cancel 21 = .ok (.athrow, 1) := by decide +kernel
theorem dX6_cancel_22 : decode cX6_cancel 22 = .ok (.aload_n 0, 1) := by decide +kernel
theorem dX6_cancel_23 : decode cX6_cancel 23 = .ok (.getfield 21, 3) := by decide +kernel
theorem dX6_cancel_26 : decode cX6_cancel 26 = .ok (.iload_n 1, 1) := by decide +kernel
theorem dX6_cancel_27 : decode cX6_cancel 27 = .ok (.invokevirtual 142, 3) := by decide +kernel
theorem dX6_cancel_30 : decode cX6_cancel 30 = .ok (.ireturn, 1) := by decide +kernel
theorem dX6_of_0 : decode cX6_of 0 = .ok (.aload_n 0, 1) := by decide +kernel
theorem dX6_of_1 : decode cX6_of 1 = .ok (.getfield 21, 3) := by decide +kernel
theorem dX6_of_4 : decode cX6_of 4 = .ok (.iload_n 1, 1) := by decide +kernel
theorem dX6_of_5 : decode cX6_of 5 = .ok (.invokevirtual 145, 3) := by decide +kernel
theorem dX6_of_8 : decode cX6_of 8 = .ok (.ifCond .ne 13, 3) := by decide +kernel
theorem dX6_of_11 : decode cX6_of 11 = .ok (.new 47, 3) := by decide +kernel
theorem dX6_of_14 : decode cX6_of 14 = .ok (.dup, 1) := by decide +kernel
theorem dX6_of_15 : decode cX6_of 15 = .ok (.ldc 148, 2) := by decide +kernel
theorem dX6_of_17 : decode cX6_of 17 = .ok (.invokespecial 51, 3) := by decide +kernel
theorem dX6_of_20 : decode cX6_of 20 = .ok (.athrow, 1) := by decide +kernel
theorem dX6_of_21 : decode cX6_of 21 = .ok (.aload_n 0, 1) := by decide +kernel
theorem dX6_of_22 : decode cX6_of 22 = .ok (.getfield 21, 3) := by decide +kernel
theorem dX6_of_25 : decode cX6_of 25 = .ok (.iload_n 1, 1) := by decide +kernel
theorem dX6_of_26 : decode cX6_of 26 = .ok (.invokevirtual 110, 3) := by decide +kernel
theorem dX6_of_29 : decode cX6_of 29 = .ok (.astore_n 3, 1) := by decide +kernel
theorem dX6_of_30 : decode cX6_of 30 = .ok (.iload_n 2, 1) := by decide +kernel
theorem dX6_of_31 : decode cX6_of 31 = .ok (.tableswitch 100 0 7 #[45, 50, 55, 60, 77, 82, 90, 95], 45) := by decide +kernel
theorem dX6_of_76 : decode cX6_of 76 = .ok (.aload_n 3, 1) := by decide +kernel
theorem dX6_of_77 : decode cX6_of 77 = .ok (.getfield 150, 3) := by decide +kernel
theorem dX6_of_80 : decode cX6_of 80 = .ok (.ireturn, 1) := by decide +kernel
theorem dX6_of_81 : decode cX6_of 81 = .ok (.aload_n 3, 1) := by decide +kernel
theorem dX6_of_82 : decode cX6_of 82 = .ok (.getfield 153, 3) := by decide +kernel
theorem dX6_of_85 : decode cX6_of 85 = .ok (.ireturn, 1) := by decide +kernel
theorem dX6_of_86 : decode cX6_of 86 = .ok (.aload_n 3, 1) := by decide +kernel
theorem dX6_of_87 : decode cX6_of 87 = .ok (.getfield 156, 3) := by decide +kernel
theorem dX6_of_90 : decode cX6_of 90 = .ok (.ireturn, 1) := by decide +kernel
theorem dX6_of_91 : decode cX6_of 91 = .ok (.aload_n 3, 1) := by decide +kernel
theorem dX6_of_92 : decode cX6_of 92 = .ok (.getfield 153, 3) := by decide +kernel
theorem dX6_of_95 : decode cX6_of 95 = .ok (.iconst 1, 1) := by decide +kernel
theorem dX6_of_96 : decode cX6_of 96 = .ok (.if_icmp .ne 10, 3) := by decide +kernel
theorem dX6_of_99 : decode cX6_of 99 = .ok (.aload_n 3, 1) := by decide +kernel
theorem dX6_of_100 : decode cX6_of 100 = .ok (.getfield 159, 3) := by decide +kernel
theorem dX6_of_103 : decode cX6_of 103 = .ok (.goto 4, 3) := by decide +kernel
theorem dX6_of_106 : decode cX6_of 106 = .ok (.iconst (-1), 1) := by decide +kernel
theorem dX6_of_107 : decode cX6_of 107 = .ok (.ireturn, 1) := by decide +kernel
theorem dX6_of_108 : decode cX6_of 108 = .ok (.aload_n 3, 1) := by decide +kernel
theorem dX6_of_109 : decode cX6_of 109 = .ok (.getfield 162, 3) := by decide +kernel
theorem dX6_of_112 : decode cX6_of 112 = .ok (.ireturn, 1) := by decide +kernel
theorem dX6_of_113 : decode cX6_of 113 = .ok (.aload_n 3, 1) := by decide +kernel
theorem dX6_of_114 : decode cX6_of 114 = .ok (.getfield 165, 3) := by decide +kernel
theorem dX6_of_117 : decode cX6_of 117 = .ok (.getfield 169, 3) := by decide +kernel
theorem dX6_of_120 : decode cX6_of 120 = .ok (.ireturn, 1) := by decide +kernel
theorem dX6_of_121 : decode cX6_of 121 = .ok (.aload_n 3, 1) := by decide +kernel
theorem dX6_of_122 : decode cX6_of 122 = .ok (.getfield 172, 3) := by decide +kernel
theorem dX6_of_125 : decode cX6_of 125 = .ok (.ireturn, 1) := by decide +kernel
theorem dX6_of_126 : decode cX6_of 126 = .ok (.aload_n 3, 1) := by decide +kernel
theorem dX6_of_127 : decode cX6_of 127 = .ok (.getfield 175, 3) := by decide +kernel
theorem dX6_of_130 : decode cX6_of 130 = .ok (.ireturn, 1) := by decide +kernel
theorem dX6_of_131 : decode cX6_of 131 = .ok (.new 62, 3) := by decide +kernel
theorem dX6_of_134 : decode cX6_of 134 = .ok (.dup, 1) := by decide +kernel
theorem dX6_of_135 : decode cX6_of 135 = .ok (.ldc 178, 2) := by decide +kernel
theorem dX6_of_137 : decode cX6_of 137 = .ok (.invokespecial 66, 3) := by decide +kernel
theorem dX6_of_140 : decode cX6_of 140 = .ok (.athrow, 1) := by decide +kernel
theorem dX6_local_0 : decode cX6_local 0 = .ok (.aload_n 0, 1) := by decide +kernel
theorem dX6_local_1 : decode cX6_local 1 = .ok (.getfield 21, 3) := by decide +kernel
theorem dX6_local_4 : decode cX6_local 4 = .ok (.iload_n 1, 1) := by decide +kernel
theorem dX6_local_5 : decode cX6_local 5 = .ok (.invokevirtual 145, 3) := by decide +kernel
theorem dX6_local_8 : decode cX6_local 8 = .ok (.ifCond .eq 12, 3) := by decide +kernel
theorem dX6_local_11 : decode cX6_local 11 = .ok (.iload_n 2, 1) := by decide +kernel
theorem dX6_local_12 : decode cX6_local 12 = .ok (.iconst 0, 1) := by decide +kernel
theorem dX6_local_13 : decode cX6_local 13 = .ok (.iconst 3, 1) := by decide +kernel
theorem dX6_local_14 : decode cX6_local 14 = .ok (.invokestatic 105, 3) := by decide +kernel
theorem dX6_local_17 : decode cX6_local 17 = .ok (.ifCond .ne 13, 3) := by decide +kernel
theorem dX6_local_20 : decode cX6_local 20 = .ok (.new 47, 3) := by decide +kernel
theorem dX6_local_23 : decode cX6_local 23 = .ok (.dup, 1) := by decide +kernel
theorem dX6_local_24 : decode cX6_local 24 = .ok (.ldc 180, 2) := by decide +kernel
theorem dX6_local_26 : decode cX6_local 26 = .ok (.invokespecial 51, 3) := by decide +kernel
theorem dX6_local_29 : decode cX6_local 29 = .ok (.athrow, 1) := by decide +kernel
theorem dX6_local_30 : decode cX6_local 30 = .ok (.aload_n 0, 1) := by decide +kernel
theorem dX6_local_31 : decode cX6_local 31 = .ok (.getfield 21, 3) := by decide +kernel
theorem dX6_local_34 : decode cX6_local 34 = .ok (.iload_n 1, 1) := by decide +kernel
theorem dX6_local_35 : decode cX6_local 35 = .ok (.invokevirtual 110, 3) := by decide +kernel
theorem dX6_local_38 : decode cX6_local 38 = .ok (.iload_n 2, 1) := by decide +kernel
theorem dX6_local_39 : decode cX6_local 39 = .ok (.invokevirtual 182, 3) := by decide +kernel
theorem dX6_local_42 : decode cX6_local 42 = .ok (.ireturn, 1) := by decide +kernel
theorem dX6_stack_0 : decode cX6_stack 0 = .ok (.aload_n 0, 1) := by decide +kernel
theorem dX6_stack_1 : decode cX6_stack 1 = .ok (.getfield 21, 3) := by decide +kernel
theorem dX6_stack_4 : decode cX6_stack 4 = .ok (.iload_n 1, 1) := by decide +kernel
theorem dX6_stack_5 : decode cX6_stack 5 = .ok (.invokevirtual 145, 3) := by decide +kernel
theorem dX6_stack_8 : decode cX6_stack 8 = .ok (.ifCond .eq 21, 3) := by decide +kernel
theorem dX6_stack_11 : decode cX6_stack 11 = .ok (.aload_n 0, 1) := by decide +kernel
theorem dX6_stack_12 : decode cX6_stack 12 = .ok (.getfield 21, 3) := by decide +kernel
theorem dX6_stack_15 : decode cX6_stack 15 = .ok (.iload_n 1, 1) := by decide +kernel
theorem dX6_stack_16 : decode cX6_stack 16 = .ok (.invokevirtual 110, 3) := by decide +kernel
theorem dX6_stack_19 : decode cX6_stack 19 = .ok (.getfield 165, 3) := by decide +kernel
theorem dX6_stack_22 : decode cX6_stack 22 = .ok (.iload_n 2, 1) := by decide +kernel
theorem dX6_stack_23 : decode cX6_stack 23 = .ok (.invokevirtual 185, 3) := by decide +kernel
theorem dX6_stack_26 : decode cX6_stack 26 = .ok (.ifCond .ne 13, 3) := by decide +kernel
theorem dX6_stack_29 : decode cX6_stack 29 = .ok (.new 47, 3) := by decide +kernel
theorem dX6_stack_32 : decode cX6_stack 32 = .ok (.dup, 1) := by decide +kernel
theorem dX6_stack_33 : decode cX6_stack 33 = .ok (.ldc 186, 2) := by decide +kernel
theorem dX6_stack_35 : decode cX6_stack 35 = .ok (.invokespecial 51, 3) := by decide +kernel
theorem dX6_stack_38 : decode cX6_stack 38 = .ok (.athrow, 1) := by decide +kernel
theorem dX6_stack_39 : decode cX6_stack 39 = .ok (.aload_n 0, 1) := by decide +kernel
theorem dX6_stack_40 : decode cX6_stack 40 = .ok (.getfield 21, 3) := by decide +kernel
theorem dX6_stack_43 : decode cX6_stack 43 = .ok (.iload_n 1, 1) := by decide +kernel
theorem dX6_stack_44 : decode cX6_stack 44 = .ok (.invokevirtual 110, 3) := by decide +kernel
theorem dX6_stack_47 : decode cX6_stack 47 = .ok (.getfield 165, 3) := by decide +kernel
theorem dX6_stack_50 : decode cX6_stack 50 = .ok (.iload_n 2, 1) := by decide +kernel
theorem dX6_stack_51 : decode cX6_stack 51 = .ok (.invokevirtual 188, 3) := by decide +kernel
theorem dX6_stack_54 : decode cX6_stack 54 = .ok (.ireturn, 1) := by decide +kernel
theorem dX6_ofTask_0 : decode cX6_ofTask 0 = .ok (.aload_n 0, 1) := by decide +kernel
theorem dX6_ofTask_1 : decode cX6_ofTask 1 = .ok (.getfield 21, 3) := by decide +kernel
theorem dX6_ofTask_4 : decode cX6_ofTask 4 = .ok (.iload_n 1, 1) := by decide +kernel
theorem dX6_ofTask_5 : decode cX6_ofTask 5 = .ok (.iconst 1, 1) := by decide +kernel
theorem dX6_ofTask_6 : decode cX6_ofTask 6 = .ok (.invokevirtual 100, 3) := by decide +kernel
theorem dX6_ofTask_9 : decode cX6_ofTask 9 = .ok (.ifCond .ne 13, 3) := by decide +kernel
theorem dX6_ofTask_12 : decode cX6_ofTask 12 = .ok (.new 47, 3) := by decide +kernel
theorem dX6_ofTask_15 : decode cX6_ofTask 15 = .ok (.dup, 1) := by decide +kernel
theorem dX6_ofTask_16 : decode cX6_ofTask 16 = .ok (.ldc 140, 2) := by decide +kernel
theorem dX6_ofTask_18 : decode cX6_ofTask 18 = .ok (.invokespecial 51, 3) := by decide +kernel
theorem dX6_ofTask_21 : decode cX6_ofTask 21 = .ok (.athrow, 1) := by decide +kernel
theorem dX6_ofTask_22 : decode cX6_ofTask 22 = .ok (.aload_n 0, 1) := by decide +kernel
theorem dX6_ofTask_23 : decode cX6_ofTask 23 = .ok (.getfield 21, 3) := by decide +kernel
theorem dX6_ofTask_26 : decode cX6_ofTask 26 = .ok (.iload_n 1, 1) := by decide +kernel
theorem dX6_ofTask_27 : decode cX6_ofTask 27 = .ok (.invokevirtual 110, 3) := by decide +kernel
theorem dX6_ofTask_30 : decode cX6_ofTask 30 = .ok (.astore_n 3, 1) := by decide +kernel
theorem dX6_ofTask_31 : decode cX6_ofTask 31 = .ok (.iload_n 2, 1) := by decide +kernel
theorem dX6_ofTask_32 : decode cX6_ofTask 32 = .ok (.tableswitch 98 0 6 #[44, 56, 61, 66, 71, 84, 89], 44) := by decide +kernel
theorem dX6_ofTask_76 : decode cX6_ofTask 76 = .ok (.aload_n 0, 1) := by decide +kernel
theorem dX6_ofTask_77 : decode cX6_ofTask 77 = .ok (.getfield 21, 3) := by decide +kernel
theorem dX6_ofTask_80 : decode cX6_ofTask 80 = .ok (.getfield 191, 3) := by decide +kernel
theorem dX6_ofTask_83 : decode cX6_ofTask 83 = .ok (.iload_n 1, 1) := by decide +kernel
theorem dX6_ofTask_84 : decode cX6_ofTask 84 = .ok (.invokevirtual 195, 3) := by decide +kernel
theorem dX6_ofTask_87 : decode cX6_ofTask 87 = .ok (.ireturn, 1) := by decide +kernel
theorem dX6_ofTask_88 : decode cX6_ofTask 88 = .ok (.aload_n 3, 1) := by decide +kernel
theorem dX6_ofTask_89 : decode cX6_ofTask 89 = .ok (.getfield 200, 3) := by decide +kernel
theorem dX6_ofTask_92 : decode cX6_ofTask 92 = .ok (.ireturn, 1) := by decide +kernel
theorem dX6_ofTask_93 : decode cX6_ofTask 93 = .ok (.aload_n 3, 1) := by decide +kernel
theorem dX6_ofTask_94 : decode cX6_ofTask 94 = .ok (.getfield 203, 3) := by decide +kernel
theorem dX6_ofTask_97 : decode cX6_ofTask 97 = .ok (.ireturn, 1) := by decide +kernel
theorem dX6_ofTask_98 : decode cX6_ofTask 98 = .ok (.aload_n 3, 1) := by decide +kernel
theorem dX6_ofTask_99 : decode cX6_ofTask 99 = .ok (.getfield 206, 3) := by decide +kernel
theorem dX6_ofTask_102 : decode cX6_ofTask 102 = .ok (.ireturn, 1) := by decide +kernel
theorem dX6_ofTask_103 : decode cX6_ofTask 103 = .ok (.aload_n 3, 1) := by decide +kernel
theorem dX6_ofTask_104 : decode cX6_ofTask 104 = .ok (.getfield 209, 3) := by decide +kernel
theorem dX6_ofTask_107 : decode cX6_ofTask 107 = .ok (.ifCond .eq 7, 3) := by decide +kernel
theorem dX6_ofTask_110 : decode cX6_ofTask 110 = .ok (.iconst 1, 1) := by decide +kernel
theorem dX6_ofTask_111 : decode cX6_ofTask 111 = .ok (.goto 4, 3) := by decide +kernel
theorem dX6_ofTask_114 : decode cX6_ofTask 114 = .ok (.iconst 0, 1) := by decide +kernel
theorem dX6_ofTask_115 : decode cX6_ofTask 115 = .ok (.ireturn, 1) := by decide +kernel
theorem dX6_ofTask_116 : decode cX6_ofTask 116 = .ok (.aload_n 3, 1) := by decide +kernel
theorem dX6_ofTask_117 : decode cX6_ofTask 117 = .ok (.getfield 213, 3) := by decide +kernel
theorem dX6_ofTask_120 : decode cX6_ofTask 120 = .ok (.ireturn, 1) := by decide +kernel
theorem dX6_ofTask_121 : decode cX6_ofTask 121 = .ok (.aload_n 0, 1) := by decide +kernel
theorem dX6_ofTask_122 : decode cX6_ofTask 122 = .ok (.getfield 21, 3) := by decide +kernel
theorem dX6_ofTask_125 : decode cX6_ofTask 125 = .ok (.iload_n 1, 1) := by decide +kernel
theorem dX6_ofTask_126 : decode cX6_ofTask 126 = .ok (.invokevirtual 216, 3) := by decide +kernel
theorem dX6_ofTask_129 : decode cX6_ofTask 129 = .ok (.ireturn, 1) := by decide +kernel
theorem dX6_ofTask_130 : decode cX6_ofTask 130 = .ok (.new 62, 3) := by decide +kernel
theorem dX6_ofTask_133 : decode cX6_ofTask 133 = .ok (.dup, 1) := by decide +kernel
theorem dX6_ofTask_134 : decode cX6_ofTask 134 = .ok (.ldc 219, 2) := by decide +kernel
theorem dX6_ofTask_136 : decode cX6_ofTask 136 = .ok (.invokespecial 66, 3) := by decide +kernel
theorem dX6_ofTask_139 : decode cX6_ofTask 139 = .ok (.athrow, 1) := by decide +kernel
theorem dX6_many_0 : decode cX6_many 0 = .ok (.iload_n 1, 1) := by decide +kernel
theorem dX6_many_1 : decode cX6_many 1 = .ok (.tableswitch 168 0 11 #[63, 71, 79, 88, 97, 106, 115, 124, 133, 144, 152, 160], 63) := by decide +kernel
theorem dX6_many_64 : decode cX6_many 64 = .ok (.aload_n 0, 1) := by decide +kernel
theorem dX6_many_65 : decode cX6_many 65 = .ok (.getfield 10, 3) := by decide +kernel
theorem dX6_many_68 : decode cX6_many 68 = .ok (.getfield 28, 3) := by decide +kernel
theorem dX6_many_71 : decode cX6_many 71 = .ok (.ireturn, 1) := by decide +kernel
theorem dX6_many_72 : decode cX6_many 72 = .ok (.aload_n 0, 1) := by decide +kernel
theorem dX6_many_73 : decode cX6_many 73 = .ok (.getfield 21, 3) := by decide +kernel
theorem dX6_many_76 : decode cX6_many 76 = .ok (.getfield 221, 3) := by decide +kernel
theorem dX6_many_79 : decode cX6_many 79 = .ok (.ireturn, 1) := by decide +kernel
theorem dX6_many_80 : decode cX6_many 80 = .ok (.aload_n 0, 1) := by decide +kernel
theorem dX6_many_81 : decode cX6_many 81 = .ok (.getfield 21, 3) := by decide +kernel
theorem dX6_many_84 : decode cX6_many 84 = .ok (.iconst 0, 1) := by decide +kernel
theorem dX6_many_85 : decode cX6_many 85 = .ok (.invokevirtual 222, 3) := by decide +kernel
theorem dX6_many_88 : decode cX6_many 88 = .ok (.ireturn, 1) := by decide +kernel
theorem dX6_many_89 : decode cX6_many 89 = .ok (.aload_n 0, 1) := by decide +kernel
theorem dX6_many_90 : decode cX6_many 90 = .ok (.getfield 21, 3) := by decide +kernel
theorem dX6_many_93 : decode cX6_many 93 = .ok (.iconst 1, 1) := by decide +kernel
theorem dX6_many_94 : decode cX6_many 94 = .ok (.invokevirtual 222, 3) := by decide +kernel
theorem dX6_many_97 : decode cX6_many 97 = .ok (.ireturn, 1) := by decide +kernel
theorem dX6_many_98 : decode cX6_many 98 = .ok (.aload_n 0, 1) := by decide +kernel
theorem dX6_many_99 : decode cX6_many 99 = .ok (.getfield 21, 3) := by decide +kernel
theorem dX6_many_102 : decode cX6_many 102 = .ok (.iconst 0, 1) := by decide +kernel
theorem dX6_many_103 : decode cX6_many 103 = .ok (.invokevirtual 225, 3) := by decide +kernel
theorem dX6_many_106 : decode cX6_many 106 = .ok (.ireturn, 1) := by decide +kernel
theorem dX6_many_107 : decode cX6_many 107 = .ok (.aload_n 0, 1) := by decide +kernel
theorem dX6_many_108 : decode cX6_many 108 = .ok (.getfield 21, 3) := by decide +kernel
theorem dX6_many_111 : decode cX6_many 111 = .ok (.iconst 1, 1) := by decide +kernel
theorem dX6_many_112 : decode cX6_many 112 = .ok (.invokevirtual 225, 3) := by decide +kernel
theorem dX6_many_115 : decode cX6_many 115 = .ok (.ireturn, 1) := by decide +kernel
theorem dX6_many_116 : decode cX6_many 116 = .ok (.aload_n 0, 1) := by decide +kernel
theorem dX6_many_117 : decode cX6_many 117 = .ok (.getfield 21, 3) := by decide +kernel
theorem dX6_many_120 : decode cX6_many 120 = .ok (.iconst 3, 1) := by decide +kernel
theorem dX6_many_121 : decode cX6_many 121 = .ok (.invokevirtual 225, 3) := by decide +kernel
theorem dX6_many_124 : decode cX6_many 124 = .ok (.ireturn, 1) := by decide +kernel
theorem dX6_many_125 : decode cX6_many 125 = .ok (.aload_n 0, 1) := by decide +kernel
theorem dX6_many_126 : decode cX6_many 126 = .ok (.getfield 21, 3) := by decide +kernel
theorem dX6_many_129 : decode cX6_many 129 = .ok (.iconst 4, 1) := by decide +kernel
theorem dX6_many_130 : decode cX6_many 130 = .ok (.invokevirtual 225, 3) := by decide +kernel
theorem dX6_many_133 : decode cX6_many 133 = .ok (.ireturn, 1) := by decide +kernel
theorem dX6_many_134 : decode cX6_many 134 = .ok (.aload_n 0, 1) := by decide +kernel
theorem dX6_many_135 : decode cX6_many 135 = .ok (.getfield 21, 3) := by decide +kernel
theorem dX6_many_138 : decode cX6_many 138 = .ok (.getfield 191, 3) := by decide +kernel
theorem dX6_many_141 : decode cX6_many 141 = .ok (.getfield 228, 3) := by decide +kernel
theorem dX6_many_144 : decode cX6_many 144 = .ok (.ireturn, 1) := by decide +kernel
theorem dX6_many_145 : decode cX6_many 145 = .ok (.aload_n 0, 1) := by decide +kernel
theorem dX6_many_146 : decode cX6_many 146 = .ok (.getfield 21, 3) := by decide +kernel
theorem dX6_many_149 : decode cX6_many 149 = .ok (.getfield 229, 3) := by decide +kernel
theorem dX6_many_152 : decode cX6_many 152 = .ok (.ireturn, 1) := by decide +kernel
theorem dX6_many_153 : decode cX6_many 153 = .ok (.aload_n 0, 1) := by decide +kernel
theorem dX6_many_154 : decode cX6_many 154 = .ok (.getfield 21, 3) := by decide +kernel
theorem dX6_many_157 : decode cX6_many 157 = .ok (.invokevirtual 232, 3) := by decide +kernel
theorem dX6_many_160 : decode cX6_many 160 = .ok (.ireturn, 1) := by decide +kernel
theorem dX6_many_161 : decode cX6_many 161 = .ok (.aload_n 0, 1) := by decide +kernel
theorem dX6_many_162 : decode cX6_many 162 = .ok (.getfield 21, 3) := by decide +kernel
theorem dX6_many_165 : decode cX6_many 165 = .ok (.getfield 235, 3) := by decide +kernel
theorem dX6_many_168 : decode cX6_many 168 = .ok (.ireturn, 1) := by decide +kernel
theorem dX6_many_169 : decode cX6_many 169 = .ok (.new 62, 3) := by decide +kernel
theorem dX6_many_172 : decode cX6_many 172 = .ok (.dup, 1) := by decide +kernel
theorem dX6_many_173 : decode cX6_many 173 = .ok (.ldc 238, 2) := by decide +kernel
theorem dX6_many_175 : decode cX6_many 175 = .ok (.invokespecial 66, 3) := by decide +kernel
theorem dX6_many_178 : decode cX6_many 178 = .ok (.athrow, 1) := by decide +kernel
theorem dX6_meanLines_0 : decode cX6_meanLines 0 = .ok (.aload_n 0, 1) := by decide +kernel
theorem dX6_meanLines_1 : decode cX6_meanLines 1 = .ok (.getfield 21, 3) := by decide +kernel
theorem dX6_meanLines_4 : decode cX6_meanLines 4 = .ok (.getfield 221, 3) := by decide +kernel
theorem dX6_meanLines_7 : decode cX6_meanLines 7 = .ok (.ifCond .gt 5, 3) := by decide +kernel
theorem dX6_meanLines_10 : decode cX6_meanLines 10 = .ok (.dconst 0, 1) := by decide +kernel
theorem dX6_meanLines_11 : decode cX6_meanLines 11 = .ok (.dreturn, 1) := by decide +kernel
theorem dX6_meanLines_12 : decode cX6_meanLines 12 = .ok (.aload_n 0, 1) := by decide +kernel
theorem dX6_meanLines_13 : decode cX6_meanLines 13 = .ok (.getfield 21, 3) := by decide +kernel
theorem dX6_meanLines_16 : decode cX6_meanLines 16 = .ok (.invokevirtual 232, 3) := by decide +kernel
theorem dX6_meanLines_19 : decode cX6_meanLines 19 = .ok (.i2d, 1) := by decide +kernel
theorem dX6_meanLines_20 : decode cX6_meanLines 20 = .ok (.aload_n 0, 1) := by decide +kernel
theorem dX6_meanLines_21 : decode cX6_meanLines 21 = .ok (.getfield 21, 3) := by decide +kernel
theorem dX6_meanLines_24 : decode cX6_meanLines 24 = .ok (.getfield 221, 3) := by decide +kernel
theorem dX6_meanLines_27 : decode cX6_meanLines 27 = .ok (.i2d, 1) := by decide +kernel
theorem dX6_meanLines_28 : decode cX6_meanLines 28 = .ok (.ddiv, 1) := by decide +kernel
theorem dX6_meanLines_29 : decode cX6_meanLines 29 = .ok (.dreturn, 1) := by decide +kernel
theorem dX6_wouldGive_0 : decode cX6_wouldGive 0 = .ok (.aload_n 0, 1) := by decide +kernel
theorem dX6_wouldGive_1 : decode cX6_wouldGive 1 = .ok (.getfield 21, 3) := by decide +kernel
theorem dX6_wouldGive_4 : decode cX6_wouldGive 4 = .ok (.iload_n 1, 1) := by decide +kernel
theorem dX6_wouldGive_5 : decode cX6_wouldGive 5 = .ok (.iconst 0, 1) := by decide +kernel
end
section
theorem dX6_wouldGive_6 : decode cX6_wouldGive 6 = .ok (.invokevirtual 100, 3) := by decide +kernel
theorem dX6_wouldGive_9 : decode cX6_wouldGive 9 = .ok (.ifCond .eq 17, 3) := by decide +kernel
theorem dX6_wouldGive_12 : decode cX6_wouldGive 12 = .ok (.aload_n 0, 1) := by decide +kernel
theorem dX6_wouldGive_13 : decode cX6_wouldGive 13 = .ok (.getfield 21, 3) := by decide +kernel
theorem dX6_wouldGive_16 : decode cX6_wouldGive 16 = .ok (.iload_n 1, 1) := by decide +kernel
theorem dX6_wouldGive_17 : decode cX6_wouldGive 17 = .ok (.invokevirtual 110, 3) := by decide +kernel
theorem dX6_wouldGive_20 : decode cX6_wouldGive 20 = .ok (.invokevirtual 113, 3) := by decide +kernel
theorem dX6_wouldGive_23 : decode cX6_wouldGive 23 = .ok (.ifCond .eq 13, 3) := by decide +kernel
theorem dX6_wouldGive_26 : decode cX6_wouldGive 26 = .ok (.new 47, 3) := by decide +kernel
theorem dX6_wouldGive_29 : decode cX6_wouldGive 29 = .ok (.dup, 1) := by decide +kernel
theorem dX6_wouldGive_30 : decode cX6_wouldGive 30 = .ok (.ldc 240, 2) := by decide +kernel
theorem dX6_wouldGive_32 : decode cX6_wouldGive 32 = .ok (.invokespecial 51, 3) := by decide +kernel
theorem dX6_wouldGive_35 : decode cX6_wouldGive 35 = .ok (.athrow, 1) := by decide +kernel
theorem dX6_wouldGive_36 : decode cX6_wouldGive 36 = .ok (.iload_n 2, 1) := by decide +kernel
theorem dX6_wouldGive_37 : decode cX6_wouldGive 37 = .ok (.sipush (-999), 3) := by decide +kernel
theorem dX6_wouldGive_40 : decode cX6_wouldGive 40 = .ok (.sipush 999, 3) := by decide +kernel
theorem dX6_wouldGive_43 : decode cX6_wouldGive 43 = .ok (.invokestatic 105, 3) := by decide +kernel
theorem dX6_wouldGive_46 : decode cX6_wouldGive 46 = .ok (.ifCond .ne 13, 3) := by decide +kernel
theorem dX6_wouldGive_49 : decode cX6_wouldGive 49 = .ok (.new 62, 3) := by decide +kernel
theorem dX6_wouldGive_52 : decode cX6_wouldGive 52 = .ok (.dup, 1) := by decide +kernel
theorem dX6_wouldGive_53 : decode cX6_wouldGive 53 = .ok (.ldc 108, 2) := by decide +kernel
theorem dX6_wouldGive_55 : decode cX6_wouldGive 55 = .ok (.invokespecial 66, 3) := by decide +kernel
theorem dX6_wouldGive_58 : decode cX6_wouldGive 58 = .ok (.athrow, 1) := by decide +kernel
theorem dX6_wouldGive_59 : decode cX6_wouldGive 59 = .ok (.aload_n 0, 1) := by decide +kernel
theorem dX6_wouldGive_60 : decode cX6_wouldGive 60 = .ok (.getfield 25, 3) := by decide +kernel
theorem dX6_wouldGive_63 : decode cX6_wouldGive 63 = .ok (.aload_n 0, 1) := by decide +kernel
theorem dX6_wouldGive_64 : decode cX6_wouldGive 64 = .ok (.getfield 21, 3) := by decide +kernel
theorem dX6_wouldGive_67 : decode cX6_wouldGive 67 = .ok (.invokevirtual 242, 3) := by decide +kernel
theorem dX6_wouldGive_70 : decode cX6_wouldGive 70 = .ok (.aload_n 0, 1) := by decide +kernel
theorem dX6_wouldGive_71 : decode cX6_wouldGive 71 = .ok (.getfield 25, 3) := by decide +kernel
theorem dX6_wouldGive_74 : decode cX6_wouldGive 74 = .ok (.iload_n 1, 1) := by decide +kernel
theorem dX6_wouldGive_75 : decode cX6_wouldGive 75 = .ok (.iload_n 2, 1) := by decide +kernel
theorem dX6_wouldGive_76 : decode cX6_wouldGive 76 = .ok (.invokevirtual 118, 3) := by decide +kernel
theorem dX6_wouldGive_79 : decode cX6_wouldGive 79 = .ok (.ireturn, 1) := by decide +kernel
theorem dX6_wouldClose_0 : decode cX6_wouldClose 0 = .ok (.aload_n 0, 1) := by decide +kernel
theorem dX6_wouldClose_1 : decode cX6_wouldClose 1 = .ok (.getfield 21, 3) := by decide +kernel
theorem dX6_wouldClose_4 : decode cX6_wouldClose 4 = .ok (.iload_n 1, 1) := by decide +kernel
theorem dX6_wouldClose_5 : decode cX6_wouldClose 5 = .ok (.iconst 0, 1) := by decide +kernel
theorem dX6_wouldClose_6 : decode cX6_wouldClose 6 = .ok (.invokevirtual 100, 3) := by decide +kernel
theorem dX6_wouldClose_9 : decode cX6_wouldClose 9 = .ok (.ifCond .ne 13, 3) := by decide +kernel
theorem dX6_wouldClose_12 : decode cX6_wouldClose 12 = .ok (.new 47, 3) := by decide +kernel
theorem dX6_wouldClose_15 : decode cX6_wouldClose 15 = .ok (.dup, 1) := by decide +kernel
theorem dX6_wouldClose_16 : decode cX6_wouldClose 16 = .ok (.ldc 103, 2) := by decide +kernel
theorem dX6_wouldClose_18 : decode cX6_wouldClose 18 = .ok (.invokespecial 51, 3) := by decide +kernel
theorem dX6_wouldClose_21 : decode cX6_wouldClose 21 = .ok (.athrow, 1) := by decide +kernel
theorem dX6_wouldClose_22 : decode cX6_wouldClose 22 = .ok (.aload_n 0, 1) := by decide +kernel
theorem dX6_wouldClose_23 : decode cX6_wouldClose 23 = .ok (.getfield 21, 3) := by decide +kernel
theorem dX6_wouldClose_26 : decode cX6_wouldClose 26 = .ok (.iload_n 1, 1) := by decide +kernel
theorem dX6_wouldClose_27 : decode cX6_wouldClose 27 = .ok (.invokevirtual 110, 3) := by decide +kernel
theorem dX6_wouldClose_30 : decode cX6_wouldClose 30 = .ok (.getfield 153, 3) := by decide +kernel
theorem dX6_wouldClose_33 : decode cX6_wouldClose 33 = .ok (.iconst 1, 1) := by decide +kernel
theorem dX6_wouldClose_34 : decode cX6_wouldClose 34 = .ok (.if_icmp .eq 5, 3) := by decide +kernel
theorem dX6_wouldClose_37 : decode cX6_wouldClose 37 = .ok (.iconst 0, 1) := by decide +kernel
theorem dX6_wouldClose_38 : decode cX6_wouldClose 38 = .ok (.ireturn, 1) := by decide +kernel
theorem dX6_wouldClose_39 : decode cX6_wouldClose 39 = .ok (.aload_n 0, 1) := by decide +kernel
theorem dX6_wouldClose_40 : decode cX6_wouldClose 40 = .ok (.getfield 25, 3) := by decide +kernel
theorem dX6_wouldClose_43 : decode cX6_wouldClose 43 = .ok (.aload_n 0, 1) := by decide +kernel
theorem dX6_wouldClose_44 : decode cX6_wouldClose 44 = .ok (.getfield 21, 3) := by decide +kernel
theorem dX6_wouldClose_47 : decode cX6_wouldClose 47 = .ok (.invokevirtual 242, 3) := by decide +kernel
theorem dX6_wouldClose_50 : decode cX6_wouldClose 50 = .ok (.aload_n 0, 1) := by decide +kernel
theorem dX6_wouldClose_51 : decode cX6_wouldClose 51 = .ok (.getfield 25, 3) := by decide +kernel
theorem dX6_wouldClose_54 : decode cX6_wouldClose 54 = .ok (.iload_n 1, 1) := by decide +kernel
theorem dX6_wouldClose_55 : decode cX6_wouldClose 55 = .ok (.invokevirtual 127, 3) := by decide +kernel
theorem dX6_wouldClose_58 : decode cX6_wouldClose 58 = .ok (.ireturn, 1) := by decide +kernel
theorem dX6_overIn_0 : decode cX6_overIn 0 = .ok (.iload_n 1, 1) := by decide +kernel
theorem dX6_overIn_1 : decode cX6_overIn 1 = .ok (.iconst 1, 1) := by decide +kernel
theorem dX6_overIn_2 : decode cX6_overIn 2 = .ok (.bipush 50, 2) := by decide +kernel
theorem dX6_overIn_4 : decode cX6_overIn 4 = .ok (.invokestatic 105, 3) := by decide +kernel
theorem dX6_overIn_7 : decode cX6_overIn 7 = .ok (.ifCond .ne 13, 3) := by decide +kernel
theorem dX6_overIn_10 : decode cX6_overIn 10 = .ok (.new 62, 3) := by decide +kernel
theorem dX6_overIn_13 : decode cX6_overIn 13 = .ok (.dup, 1) := by decide +kernel
theorem dX6_overIn_14 : decode cX6_overIn 14 = .ok (.ldc 130, 2) := by decide +kernel
theorem dX6_overIn_16 : decode cX6_overIn 16 = .ok (.invokespecial 66, 3) := by decide +kernel
theorem dX6_overIn_19 : decode cX6_overIn 19 = .ok (.athrow, 1) := by decide +kernel
theorem dX6_overIn_20 : decode cX6_overIn 20 = .ok (.aload_n 0, 1) := by decide +kernel
theorem dX6_overIn_21 : decode cX6_overIn 21 = .ok (.getfield 25, 3) := by decide +kernel
theorem dX6_overIn_24 : decode cX6_overIn 24 = .ok (.aload_n 0, 1) := by decide +kernel
theorem dX6_overIn_25 : decode cX6_overIn 25 = .ok (.getfield 21, 3) := by decide +kernel
theorem dX6_overIn_28 : decode cX6_overIn 28 = .ok (.invokevirtual 242, 3) := by decide +kernel
theorem dX6_overIn_31 : decode cX6_overIn 31 = .ok (.aload_n 0, 1) := by decide +kernel
theorem dX6_overIn_32 : decode cX6_overIn 32 = .ok (.getfield 25, 3) := by decide +kernel
theorem dX6_overIn_35 : decode cX6_overIn 35 = .ok (.iload_n 1, 1) := by decide +kernel
theorem dX6_overIn_36 : decode cX6_overIn 36 = .ok (.invokevirtual 132, 3) := by decide +kernel
theorem dX6_overIn_39 : decode cX6_overIn 39 = .ok (.pop, 1) := by decide +kernel
theorem dX6_overIn_40 : decode cX6_overIn 40 = .ok (.aload_n 0, 1) := by decide +kernel
theorem dX6_overIn_41 : decode cX6_overIn 41 = .ok (.getfield 25, 3) := by decide +kernel
theorem dX6_overIn_44 : decode cX6_overIn 44 = .ok (.invokevirtual 246, 3) := by decide +kernel
theorem dX6_overIn_47 : decode cX6_overIn 47 = .ok (.ireturn, 1) := by decide +kernel
theorem dX6_left_0 : decode cX6_left 0 = .ok (.aload_n 0, 1) := by decide +kernel
theorem dX6_left_1 : decode cX6_left 1 = .ok (.getfield 21, 3) := by decide +kernel
theorem dX6_left_4 : decode cX6_left 4 = .ok (.iload_n 1, 1) := by decide +kernel
theorem dX6_left_5 : decode cX6_left 5 = .ok (.iconst 0, 1) := by decide +kernel
theorem dX6_left_6 : decode cX6_left 6 = .ok (.invokevirtual 100, 3) := by decide +kernel
theorem dX6_left_9 : decode cX6_left 9 = .ok (.ifCond .ne 13, 3) := by decide +kernel
theorem dX6_left_12 : decode cX6_left 12 = .ok (.new 47, 3) := by decide +kernel
theorem dX6_left_15 : decode cX6_left 15 = .ok (.dup, 1) := by decide +kernel
theorem dX6_left_16 : decode cX6_left 16 = .ok (.ldc 103, 2) := by decide +kernel
theorem dX6_left_18 : decode cX6_left 18 = .ok (.invokespecial 51, 3) := by decide +kernel
theorem dX6_left_21 : decode cX6_left 21 = .ok (.athrow, 1) := by decide +kernel
theorem dX6_left_22 : decode cX6_left 22 = .ok (.aload_n 0, 1) := by decide +kernel
theorem dX6_left_23 : decode cX6_left 23 = .ok (.getfield 21, 3) := by decide +kernel
theorem dX6_left_26 : decode cX6_left 26 = .ok (.iload_n 1, 1) := by decide +kernel
theorem dX6_left_27 : decode cX6_left 27 = .ok (.invokevirtual 110, 3) := by decide +kernel
theorem dX6_left_30 : decode cX6_left 30 = .ok (.invokevirtual 113, 3) := by decide +kernel
theorem dX6_left_33 : decode cX6_left 33 = .ok (.ifCond .eq 5, 3) := by decide +kernel
theorem dX6_left_36 : decode cX6_left 36 = .ok (.iconst 0, 1) := by decide +kernel
theorem dX6_left_37 : decode cX6_left 37 = .ok (.ireturn, 1) := by decide +kernel
theorem dX6_left_38 : decode cX6_left 38 = .ok (.aload_n 0, 1) := by decide +kernel
theorem dX6_left_39 : decode cX6_left 39 = .ok (.getfield 25, 3) := by decide +kernel
theorem dX6_left_42 : decode cX6_left 42 = .ok (.aload_n 0, 1) := by decide +kernel
theorem dX6_left_43 : decode cX6_left 43 = .ok (.getfield 21, 3) := by decide +kernel
theorem dX6_left_46 : decode cX6_left 46 = .ok (.invokevirtual 242, 3) := by decide +kernel
theorem dX6_left_49 : decode cX6_left 49 = .ok (.iconst 0, 1) := by decide +kernel
theorem dX6_left_50 : decode cX6_left 50 = .ok (.istore_n 2, 1) := by decide +kernel
theorem dX6_left_51 : decode cX6_left 51 = .ok (.iload_n 2, 1) := by decide +kernel
theorem dX6_left_52 : decode cX6_left 52 = .ok (.bipush 20, 2) := by decide +kernel
theorem dX6_left_54 : decode cX6_left 54 = .ok (.if_icmp .ge 35, 3) := by decide +kernel
theorem dX6_left_57 : decode cX6_left 57 = .ok (.aload_n 0, 1) := by decide +kernel
theorem dX6_left_58 : decode cX6_left 58 = .ok (.getfield 25, 3) := by decide +kernel
theorem dX6_left_61 : decode cX6_left 61 = .ok (.iload_n 1, 1) := by decide +kernel
theorem dX6_left_62 : decode cX6_left 62 = .ok (.iconst 0, 1) := by decide +kernel
theorem dX6_left_63 : decode cX6_left 63 = .ok (.invokevirtual 118, 3) := by decide +kernel
theorem dX6_left_66 : decode cX6_left 66 = .ok (.pop, 1) := by decide +kernel
theorem dX6_left_67 : decode cX6_left 67 = .ok (.aload_n 0, 1) := by decide +kernel
theorem dX6_left_68 : decode cX6_left 68 = .ok (.getfield 25, 3) := by decide +kernel
theorem dX6_left_71 : decode cX6_left 71 = .ok (.iload_n 1, 1) := by decide +kernel
theorem dX6_left_72 : decode cX6_left 72 = .ok (.invokevirtual 110, 3) := by decide +kernel
theorem dX6_left_75 : decode cX6_left 75 = .ok (.invokevirtual 113, 3) := by decide +kernel
theorem dX6_left_78 : decode cX6_left 78 = .ok (.ifCond .eq 5, 3) := by decide +kernel
theorem dX6_left_81 : decode cX6_left 81 = .ok (.iload_n 2, 1) := by decide +kernel
theorem dX6_left_82 : decode cX6_left 82 = .ok (.ireturn, 1) := by decide +kernel
theorem dX6_left_83 : decode cX6_left 83 = .ok (.iinc 2 1, 3) := by decide +kernel
theorem dX6_left_86 : decode cX6_left 86 = .ok (.goto (-35), 3) := by decide +kernel
theorem dX6_left_89 : decode cX6_left 89 = .ok (.bipush 20, 2) := by decide +kernel
theorem dX6_left_91 : decode cX6_left 91 = .ok (.ireturn, 1) := by decide +kernel
theorem dX6_digest_0 : decode cX6_digest 0 = .ok (.ldc2_w 249, 3) := by decide +kernel
theorem dX6_digest_3 : decode cX6_digest 3 = .ok (.lstore_n 1, 1) := by decide +kernel
theorem dX6_digest_4 : decode cX6_digest 4 = .ok (.iconst 0, 1) := by decide +kernel
theorem dX6_digest_5 : decode cX6_digest 5 = .ok (.istore_n 3, 1) := by decide +kernel
theorem dX6_digest_6 : decode cX6_digest 6 = .ok (.iload_n 3, 1) := by decide +kernel
theorem dX6_digest_7 : decode cX6_digest 7 = .ok (.bipush 11, 2) := by decide +kernel
theorem dX6_digest_9 : decode cX6_digest 9 = .ok (.if_icmp .gt 22, 3) := by decide +kernel
theorem dX6_digest_12 : decode cX6_digest 12 = .ok (.lload_n 1, 1) := by decide +kernel
theorem dX6_digest_13 : decode cX6_digest 13 = .ok (.ldc2_w 251, 3) := by decide +kernel
theorem dX6_digest_16 : decode cX6_digest 16 = .ok (.lmul, 1) := by decide +kernel
theorem dX6_digest_17 : decode cX6_digest 17 = .ok (.aload_n 0, 1) := by decide +kernel
theorem dX6_digest_18 : decode cX6_digest 18 = .ok (.iload_n 3, 1) := by decide +kernel
theorem dX6_digest_19 : decode cX6_digest 19 = .ok (.invokevirtual 253, 3) := by decide +kernel
theorem dX6_digest_22 : decode cX6_digest 22 = .ok (.i2l, 1) := by decide +kernel
theorem dX6_digest_23 : decode cX6_digest 23 = .ok (.ladd, 1) := by decide +kernel
theorem dX6_digest_24 : decode cX6_digest 24 = .ok (.lstore_n 1, 1) := by decide +kernel
theorem dX6_digest_25 : decode cX6_digest 25 = .ok (.iinc 3 1, 3) := by decide +kernel
theorem dX6_digest_28 : decode cX6_digest 28 = .ok (.goto (-22), 3) := by decide +kernel
theorem dX6_digest_31 : decode cX6_digest 31 = .ok (.iconst 0, 1) := by decide +kernel
theorem dX6_digest_32 : decode cX6_digest 32 = .ok (.istore_n 3, 1) := by decide +kernel
theorem dX6_digest_33 : decode cX6_digest 33 = .ok (.iload_n 3, 1) := by decide +kernel
theorem dX6_digest_34 : decode cX6_digest 34 = .ok (.aload_n 0, 1) := by decide +kernel
theorem dX6_digest_35 : decode cX6_digest 35 = .ok (.getfield 10, 3) := by decide +kernel
theorem dX6_digest_38 : decode cX6_digest 38 = .ok (.getfield 28, 3) := by decide +kernel
theorem dX6_digest_41 : decode cX6_digest 41 = .ok (.if_icmp .ge 39, 3) := by decide +kernel
theorem dX6_digest_44 : decode cX6_digest 44 = .ok (.iconst 0, 1) := by decide +kernel
theorem dX6_digest_45 : decode cX6_digest 45 = .ok (.istore 4, 2) := by decide +kernel
theorem dX6_digest_47 : decode cX6_digest 47 = .ok (.iload 4, 2) := by decide +kernel
theorem dX6_digest_49 : decode cX6_digest 49 = .ok (.iconst 2, 1) := by decide +kernel
theorem dX6_digest_50 : decode cX6_digest 50 = .ok (.if_icmp .gt 24, 3) := by decide +kernel
theorem dX6_digest_53 : decode cX6_digest 53 = .ok (.lload_n 1, 1) := by decide +kernel
theorem dX6_digest_54 : decode cX6_digest 54 = .ok (.ldc2_w 251, 3) := by decide +kernel
theorem dX6_digest_57 : decode cX6_digest 57 = .ok (.lmul, 1) := by decide +kernel
theorem dX6_digest_58 : decode cX6_digest 58 = .ok (.aload_n 0, 1) := by decide +kernel
theorem dX6_digest_59 : decode cX6_digest 59 = .ok (.iload_n 3, 1) := by decide +kernel
theorem dX6_digest_60 : decode cX6_digest 60 = .ok (.iload 4, 2) := by decide +kernel
theorem dX6_digest_62 : decode cX6_digest 62 = .ok (.invokevirtual 256, 3) := by decide +kernel
theorem dX6_digest_65 : decode cX6_digest 65 = .ok (.i2l, 1) := by decide +kernel
theorem dX6_digest_66 : decode cX6_digest 66 = .ok (.ladd, 1) := by decide +kernel
theorem dX6_digest_67 : decode cX6_digest 67 = .ok (.lstore_n 1, 1) := by decide +kernel
theorem dX6_digest_68 : decode cX6_digest 68 = .ok (.iinc 4 1, 3) := by decide +kernel
theorem dX6_digest_71 : decode cX6_digest 71 = .ok (.goto (-24), 3) := by decide +kernel
theorem dX6_digest_74 : decode cX6_digest 74 = .ok (.iinc 3 1, 3) := by decide +kernel
theorem dX6_digest_77 : decode cX6_digest 77 = .ok (.goto (-44), 3) := by decide +kernel
theorem dX6_digest_80 : decode cX6_digest 80 = .ok (.iconst 0, 1) := by decide +kernel
theorem dX6_digest_81 : decode cX6_digest 81 = .ok (.istore_n 3, 1) := by decide +kernel
theorem dX6_digest_82 : decode cX6_digest 82 = .ok (.iload_n 3, 1) := by decide +kernel
theorem dX6_digest_83 : decode cX6_digest 83 = .ok (.aload_n 0, 1) := by decide +kernel
theorem dX6_digest_84 : decode cX6_digest 84 = .ok (.getfield 21, 3) := by decide +kernel
theorem dX6_digest_87 : decode cX6_digest 87 = .ok (.getfield 221, 3) := by decide +kernel
theorem dX6_digest_90 : decode cX6_digest 90 = .ok (.if_icmp .ge 194, 3) := by decide +kernel
theorem dX6_digest_93 : decode cX6_digest 93 = .ok (.iconst 0, 1) := by decide +kernel
theorem dX6_digest_94 : decode cX6_digest 94 = .ok (.istore 4, 2) := by decide +kernel
theorem dX6_digest_96 : decode cX6_digest 96 = .ok (.iload 4, 2) := by decide +kernel
theorem dX6_digest_98 : decode cX6_digest 98 = .ok (.bipush 7, 2) := by decide +kernel
theorem dX6_digest_100 : decode cX6_digest 100 = .ok (.if_icmp .gt 24, 3) := by decide +kernel
theorem dX6_digest_103 : decode cX6_digest 103 = .ok (.lload_n 1, 1) := by decide +kernel
theorem dX6_digest_104 : decode cX6_digest 104 = .ok (.ldc2_w 251, 3) := by decide +kernel
theorem dX6_digest_107 : decode cX6_digest 107 = .ok (.lmul, 1) := by decide +kernel
theorem dX6_digest_108 : decode cX6_digest 108 = .ok (.aload_n 0, 1) := by decide +kernel
theorem dX6_digest_109 : decode cX6_digest 109 = .ok (.iload_n 3, 1) := by decide +kernel
theorem dX6_digest_110 : decode cX6_digest 110 = .ok (.iload 4, 2) := by decide +kernel
theorem dX6_digest_112 : decode cX6_digest 112 = .ok (.invokevirtual 259, 3) := by decide +kernel
theorem dX6_digest_115 : decode cX6_digest 115 = .ok (.i2l, 1) := by decide +kernel
theorem dX6_digest_116 : decode cX6_digest 116 = .ok (.ladd, 1) := by decide +kernel
theorem dX6_digest_117 : decode cX6_digest 117 = .ok (.lstore_n 1, 1) := by decide +kernel
theorem dX6_digest_118 : decode cX6_digest 118 = .ok (.iinc 4 1, 3) := by decide +kernel
theorem dX6_digest_121 : decode cX6_digest 121 = .ok (.goto (-25), 3) := by decide +kernel
theorem dX6_digest_124 : decode cX6_digest 124 = .ok (.iconst 0, 1) := by decide +kernel
theorem dX6_digest_125 : decode cX6_digest 125 = .ok (.istore 4, 2) := by decide +kernel
theorem dX6_digest_127 : decode cX6_digest 127 = .ok (.iload 4, 2) := by decide +kernel
theorem dX6_digest_129 : decode cX6_digest 129 = .ok (.iconst 4, 1) := by decide +kernel
theorem dX6_digest_130 : decode cX6_digest 130 = .ok (.if_icmp .ge 24, 3) := by decide +kernel
theorem dX6_digest_133 : decode cX6_digest 133 = .ok (.lload_n 1, 1) := by decide +kernel
theorem dX6_digest_134 : decode cX6_digest 134 = .ok (.ldc2_w 251, 3) := by decide +kernel
theorem dX6_digest_137 : decode cX6_digest 137 = .ok (.lmul, 1) := by decide +kernel
theorem dX6_digest_138 : decode cX6_digest 138 = .ok (.aload_n 0, 1) := by decide +kernel
theorem dX6_digest_139 : decode cX6_digest 139 = .ok (.iload_n 3, 1) := by decide +kernel
theorem dX6_digest_140 : decode cX6_digest 140 = .ok (.iload 4, 2) := by decide +kernel
theorem dX6_digest_142 : decode cX6_digest 142 = .ok (.invokevirtual 262, 3) := by decide +kernel
theorem dX6_digest_145 : decode cX6_digest 145 = .ok (.i2l, 1) := by decide +kernel
theorem dX6_digest_146 : decode cX6_digest 146 = .ok (.ladd, 1) := by decide +kernel
theorem dX6_digest_147 : decode cX6_digest 147 = .ok (.lstore_n 1, 1) := by decide +kernel
theorem dX6_digest_148 : decode cX6_digest 148 = .ok (.iinc 4 1, 3) := by decide +kernel
theorem dX6_digest_151 : decode cX6_digest 151 = .ok (.goto (-24), 3) := by decide +kernel
theorem dX6_digest_154 : decode cX6_digest 154 = .ok (.iconst 0, 1) := by decide +kernel
theorem dX6_digest_155 : decode cX6_digest 155 = .ok (.istore 4, 2) := by decide +kernel
theorem dX6_digest_157 : decode cX6_digest 157 = .ok (.iload 4, 2) := by decide +kernel
theorem dX6_digest_159 : decode cX6_digest 159 = .ok (.aload_n 0, 1) := by decide +kernel
theorem dX6_digest_160 : decode cX6_digest 160 = .ok (.getfield 21, 3) := by decide +kernel
theorem dX6_digest_163 : decode cX6_digest 163 = .ok (.iload_n 3, 1) := by decide +kernel
theorem dX6_digest_164 : decode cX6_digest 164 = .ok (.invokevirtual 110, 3) := by decide +kernel
theorem dX6_digest_167 : decode cX6_digest 167 = .ok (.getfield 165, 3) := by decide +kernel
theorem dX6_digest_170 : decode cX6_digest 170 = .ok (.getfield 169, 3) := by decide +kernel
theorem dX6_digest_173 : decode cX6_digest 173 = .ok (.if_icmp .ge 24, 3) := by decide +kernel
theorem dX6_digest_176 : decode cX6_digest 176 = .ok (.lload_n 1, 1) := by decide +kernel
theorem dX6_digest_177 : decode cX6_digest 177 = .ok (.ldc2_w 251, 3) := by decide +kernel
theorem dX6_digest_180 : decode cX6_digest 180 = .ok (.lmul, 1) := by decide +kernel
theorem dX6_digest_181 : decode cX6_digest 181 = .ok (.aload_n 0, 1) := by decide +kernel
theorem dX6_digest_182 : decode cX6_digest 182 = .ok (.iload_n 3, 1) := by decide +kernel
theorem dX6_digest_183 : decode cX6_digest 183 = .ok (.iload 4, 2) := by decide +kernel
theorem dX6_digest_185 : decode cX6_digest 185 = .ok (.invokevirtual 265, 3) := by decide +kernel
theorem dX6_digest_188 : decode cX6_digest 188 = .ok (.i2l, 1) := by decide +kernel
theorem dX6_digest_189 : decode cX6_digest 189 = .ok (.ladd, 1) := by decide +kernel
theorem dX6_digest_190 : decode cX6_digest 190 = .ok (.lstore_n 1, 1) := by decide +kernel
theorem dX6_digest_191 : decode cX6_digest 191 = .ok (.iinc 4 1, 3) := by decide +kernel
theorem dX6_digest_194 : decode cX6_digest 194 = .ok (.goto (-37), 3) := by decide +kernel
theorem dX6_digest_197 : decode cX6_digest 197 = .ok (.aload_n 0, 1) := by decide +kernel
theorem dX6_digest_198 : decode cX6_digest 198 = .ok (.getfield 21, 3) := by decide +kernel
theorem dX6_digest_201 : decode cX6_digest 201 = .ok (.iload_n 3, 1) := by decide +kernel
theorem dX6_digest_202 : decode cX6_digest 202 = .ok (.iconst 0, 1) := by decide +kernel
theorem dX6_digest_203 : decode cX6_digest 203 = .ok (.invokevirtual 100, 3) := by decide +kernel
theorem dX6_digest_206 : decode cX6_digest 206 = .ok (.ifCond .eq 29, 3) := by decide +kernel
theorem dX6_digest_209 : decode cX6_digest 209 = .ok (.lload_n 1, 1) := by decide +kernel
theorem dX6_digest_210 : decode cX6_digest 210 = .ok (.ldc2_w 251, 3) := by decide +kernel
theorem dX6_digest_213 : decode cX6_digest 213 = .ok (.lmul, 1) := by decide +kernel
theorem dX6_digest_214 : decode cX6_digest 214 = .ok (.aload_n 0, 1) := by decide +kernel
theorem dX6_digest_215 : decode cX6_digest 215 = .ok (.iload_n 3, 1) := by decide +kernel
theorem dX6_digest_216 : decode cX6_digest 216 = .ok (.invokevirtual 267, 3) := by decide +kernel
theorem dX6_digest_219 : decode cX6_digest 219 = .ok (.i2l, 1) := by decide +kernel
theorem dX6_digest_220 : decode cX6_digest 220 = .ok (.ladd, 1) := by decide +kernel
theorem dX6_digest_221 : decode cX6_digest 221 = .ok (.lstore_n 1, 1) := by decide +kernel
theorem dX6_digest_222 : decode cX6_digest 222 = .ok (.lload_n 1, 1) := by decide +kernel
theorem dX6_digest_223 : decode cX6_digest 223 = .ok (.ldc2_w 251, 3) := by decide +kernel
theorem dX6_digest_226 : decode cX6_digest 226 = .ok (.lmul, 1) := by decide +kernel
theorem dX6_digest_227 : decode cX6_digest 227 = .ok (.aload_n 0, 1) := by decide +kernel
theorem dX6_digest_228 : decode cX6_digest 228 = .ok (.iload_n 3, 1) := by decide +kernel
theorem dX6_digest_229 : decode cX6_digest 229 = .ok (.invokevirtual 270, 3) := by decide +kernel
theorem dX6_digest_232 : decode cX6_digest 232 = .ok (.i2l, 1) := by decide +kernel
theorem dX6_digest_233 : decode cX6_digest 233 = .ok (.ladd, 1) := by decide +kernel
theorem dX6_digest_234 : decode cX6_digest 234 = .ok (.lstore_n 1, 1) := by decide +kernel
theorem dX6_digest_235 : decode cX6_digest 235 = .ok (.aload_n 0, 1) := by decide +kernel
theorem dX6_digest_236 : decode cX6_digest 236 = .ok (.getfield 21, 3) := by decide +kernel
theorem dX6_digest_239 : decode cX6_digest 239 = .ok (.iload_n 3, 1) := by decide +kernel
theorem dX6_digest_240 : decode cX6_digest 240 = .ok (.iconst 1, 1) := by decide +kernel
theorem dX6_digest_241 : decode cX6_digest 241 = .ok (.invokevirtual 100, 3) := by decide +kernel
theorem dX6_digest_244 : decode cX6_digest 244 = .ok (.ifCond .eq 34, 3) := by decide +kernel
theorem dX6_digest_247 : decode cX6_digest 247 = .ok (.iconst 0, 1) := by decide +kernel
theorem dX6_digest_248 : decode cX6_digest 248 = .ok (.istore 4, 2) := by decide +kernel
theorem dX6_digest_250 : decode cX6_digest 250 = .ok (.iload 4, 2) := by decide +kernel
theorem dX6_digest_252 : decode cX6_digest 252 = .ok (.bipush 6, 2) := by decide +kernel
theorem dX6_digest_254 : decode cX6_digest 254 = .ok (.if_icmp .gt 24, 3) := by decide +kernel
theorem dX6_digest_257 : decode cX6_digest 257 = .ok (.lload_n 1, 1) := by decide +kernel
theorem dX6_digest_258 : decode cX6_digest 258 = .ok (.ldc2_w 251, 3) := by decide +kernel
theorem dX6_digest_261 : decode cX6_digest 261 = .ok (.lmul, 1) := by decide +kernel
theorem dX6_digest_262 : decode cX6_digest 262 = .ok (.aload_n 0, 1) := by decide +kernel
theorem dX6_digest_263 : decode cX6_digest 263 = .ok (.iload_n 3, 1) := by decide +kernel
theorem dX6_digest_264 : decode cX6_digest 264 = .ok (.iload 4, 2) := by decide +kernel
theorem dX6_digest_266 : decode cX6_digest 266 = .ok (.invokevirtual 273, 3) := by decide +kernel
theorem dX6_digest_269 : decode cX6_digest 269 = .ok (.i2l, 1) := by decide +kernel
theorem dX6_digest_270 : decode cX6_digest 270 = .ok (.ladd, 1) := by decide +kernel
theorem dX6_digest_271 : decode cX6_digest 271 = .ok (.lstore_n 1, 1) := by decide +kernel
theorem dX6_digest_272 : decode cX6_digest 272 = .ok (.iinc 4 1, 3) := by decide +kernel
theorem dX6_digest_275 : decode cX6_digest 275 = .ok (.goto (-25), 3) := by decide +kernel
theorem dX6_digest_278 : decode cX6_digest 278 = .ok (.iinc 3 1, 3) := by decide +kernel
theorem dX6_digest_281 : decode cX6_digest 281 = .ok (.goto (-199), 3) := by decide +kernel
theorem dX6_digest_284 : decode cX6_digest 284 = .ok (.lload_n 1, 1) := by decide +kernel
theorem dX6_digest_285 : decode cX6_digest 285 = .ok (.ldc2_w 251, 3) := by decide +kernel
theorem dX6_digest_288 : decode cX6_digest 288 = .ok (.lmul, 1) := by decide +kernel
theorem dX6_digest_289 : decode cX6_digest 289 = .ok (.aload_n 0, 1) := by decide +kernel
theorem dX6_digest_290 : decode cX6_digest 290 = .ok (.bipush 20, 2) := by decide +kernel
theorem dX6_digest_292 : decode cX6_digest 292 = .ok (.invokevirtual 276, 3) := by decide +kernel
theorem dX6_digest_295 : decode cX6_digest 295 = .ok (.i2l, 1) := by decide +kernel
theorem dX6_digest_296 : decode cX6_digest 296 = .ok (.ladd, 1) := by decide +kernel
theorem dX6_digest_297 : decode cX6_digest 297 = .ok (.lreturn, 1) := by decide +kernel
theorem dX6_within_0 : decode cX6_within 0 = .ok (.iload_n 0, 1) := by decide +kernel
theorem dX6_within_1 : decode cX6_within 1 = .ok (.iload_n 1, 1) := by decide +kernel
theorem dX6_within_2 : decode cX6_within 2 = .ok (.if_icmp .lt 12, 3) := by decide +kernel
theorem dX6_within_5 : decode cX6_within 5 = .ok (.iload_n 0, 1) := by decide +kernel
theorem dX6_within_6 : decode cX6_within 6 = .ok (.iload_n 2, 1) := by decide +kernel
theorem dX6_within_7 : decode cX6_within 7 = .ok (.if_icmp .gt 7, 3) := by decide +kernel
theorem dX6_within_10 : decode cX6_within 10 = .ok (.iconst 1, 1) := by decide +kernel
theorem dX6_within_11 : decode cX6_within 11 = .ok (.goto 4, 3) := by decide +kernel
theorem dX6_within_14 : decode cX6_within 14 = .ok (.iconst 0, 1) := by decide +kernel
theorem dX6_within_15 : decode cX6_within 15 = .ok (.ireturn, 1) := by decide +kernel
end
section
/-! MEMORY: handles (0: null, a + 1: the cell a), kinds, lengths, whole numbers and handles in them -/
section MM0
def op : Nat → Option Nat := fun h => match h with
  | 0 => none
  | a + 1 => some a
def rf (h : Nat) : Value := va_rf (op h)
theorem rf_cat (h : Nat) : (rf h).category = 1 := by cases h <;> rfl
theorem rf_or (h : Nat) : rf h = .null ∨ ∃ a, rf h = .ref a := by cases h with
  | zero => exact Or.inl rfl
  | succ a => exact Or.inr ⟨a, rfl⟩
abbrev MM : Type := (Nat → Nat) × (Nat → Nat) × (Nat → Nat → Int32) × (Nat → Nat → Nat)
def mK (μ : MM) : Nat → Nat := μ.1
def mN (μ : MM) : Nat → Nat := μ.2.1
def mI (μ : MM) : Nat → Nat → Int32 := μ.2.2.1
def mP (μ : MM) : Nat → Nat → Nat := μ.2.2.2
def sI (μ : MM) (h j : Nat) (v : Int32) : MM := (μ.1, μ.2.1, fun a i => if a = h ∧ i = j then v else μ.2.2.1 a i, μ.2.2.2)
def sP (μ : MM) (h j : Nat) (v : Nat) : MM := (μ.1, μ.2.1, μ.2.2.1, fun a i => if a = h ∧ i = j then v else μ.2.2.2 a i)
theorem mK_sI (μ : MM) (h j : Nat) (v : Int32) : mK (sI μ h j v) = mK μ := rfl
theorem mN_sI (μ : MM) (h j : Nat) (v : Int32) : mN (sI μ h j v) = mN μ := rfl
theorem mP_sI (μ : MM) (h j : Nat) (v : Int32) : mP (sI μ h j v) = mP μ := rfl
theorem mI_sI (μ : MM) (h j : Nat) (v : Int32) (a i : Nat) : mI (sI μ h j v) a i = if a = h ∧ i = j then v else mI μ a i := rfl
theorem mK_sP (μ : MM) (h j : Nat) (v : Nat) : mK (sP μ h j v) = mK μ := rfl
theorem mN_sP (μ : MM) (h j : Nat) (v : Nat) : mN (sP μ h j v) = mN μ := rfl
theorem mI_sP (μ : MM) (h j : Nat) (v : Nat) : mI (sP μ h j v) = mI μ := rfl
theorem mP_sP (μ : MM) (h j : Nat) (v : Nat) (a i : Nat) : mP (sP μ h j v) a i = if a = h ∧ i = j then v else mP μ a i := rfl
/-- which fields of a class are references -/
def mmFt : Nat → List Bool := fun c => match c with
  | 0 => [true, true, false]
  | 1 => [true, true, true, false]
  | 2 => [false, true, true, false, false, false, false, false, false, false, false, false, false, false, false, false, false]
  | 3 => [true, true, true, true, true, false, false, false, true, false, false, false, false]
  | 4 => [true, false]
  | 5 => [true, true, false]
  | 6 => [true, true, true]
  | 7 => [true, true, false]
  | _ => []
/-- which arrays hold references -/
def mmAp (k : Nat) : Bool := k != 20 && k != 23
def mmTys (dA : Nat → ClassId) : List (ClassId × FieldType) := [(dA 20, .int), (dA 21, .object "YieldMoor$Body"), (dA 22, .object "YieldMoor$Coroutine"), (dA 23, .boolean), (dA 24, .array .int), (dA 25, .array (.array .int))]
def mmF (l : List Bool) (μ : MM) (h : Nat) : List Value := l.zipIdx.map (fun q => if q.1 then rf (mP μ h q.2) else .int (mI μ h q.2))
def mmE (dA : Nat → ClassId) (μ : MM) (h : Nat) : va_E :=
  if mK μ h < 20 then .inr (mK μ h - 1, mmF (mmFt (mK μ h - 1)) μ h)
  else if mmAp (mK μ h) then .inl (dA (mK μ h), mN μ h, .inr (.inr (.inr (.inr (fun i => op (mP μ h i))))))
  else .inl (dA (mK μ h), mN μ h, .inl (fun i => mI μ h i))
theorem mmF_get {l : List Bool} {μ : MM} {h j : Nat} {b : Bool} (hj : l[j]? = some b) : (mmF l μ h)[j]? = some (if b then rf (mP μ h j) else .int (mI μ h j)) := by
  simp [mmF, List.getElem?_map, List.getElem?_zipIdx, hj]
theorem mmF_len (l : List Bool) (μ : MM) (h : Nat) : (mmF l μ h).length = l.length := by simp [mmF]
theorem mmF_setI {l : List Bool} {μ : MM} {h j : Nat} (hj : l[j]? = some false) (v : Int32) : (mmF l μ h).set j (.int v) = mmF l (sI μ h j v) h := by
  apply List.ext_getElem?
  intro i
  rw [List.getElem?_set]
  have hl : j < l.length := (List.getElem?_eq_some_iff.mp hj).1
  by_cases hij : j = i
  · subst hij
    rw [if_pos rfl, if_pos (by rw [mmF_len]; exact hl), mmF_get hj]
    simp [mI_sI]
  · rw [if_neg hij]
    cases hb : l[i]? with
    | none =>
      have h1 : l.length ≤ i := List.getElem?_eq_none_iff.mp hb
      rw [List.getElem?_eq_none (by rw [mmF_len]; exact h1), List.getElem?_eq_none (by rw [mmF_len]; exact h1)]
    | some b =>
      rw [mmF_get hb, mmF_get hb]
      have hne : ¬ (i = j) := fun e => hij e.symm
      simp [mI_sI, mP_sI, hne]
theorem mmF_setP {l : List Bool} {μ : MM} {h j : Nat} (hj : l[j]? = some true) (v : Nat) : (mmF l μ h).set j (rf v) = mmF l (sP μ h j v) h := by
  apply List.ext_getElem?
  intro i
  rw [List.getElem?_set]
  have hl : j < l.length := (List.getElem?_eq_some_iff.mp hj).1
  by_cases hij : j = i
  · subst hij
    rw [if_pos rfl, if_pos (by rw [mmF_len]; exact hl), mmF_get hj]
    simp [mP_sP]
  · rw [if_neg hij]
    cases hb : l[i]? with
    | none =>
      have h1 : l.length ≤ i := List.getElem?_eq_none_iff.mp hb
      rw [List.getElem?_eq_none (by rw [mmF_len]; exact h1), List.getElem?_eq_none (by rw [mmF_len]; exact h1)]
    | some b =>
      rw [mmF_get hb, mmF_get hb]
      have hne : ¬ (i = j) := fun e => hij e.symm
      simp [mI_sP, mP_sP, hne]
theorem mmF_neI {l : List Bool} {μ : MM} {h a j : Nat} {v : Int32} (hne : a ≠ h) : mmF l (sI μ h j v) a = mmF l μ a := by
  simp [mmF, mI_sI, mP_sI, hne]
theorem mmF_neP {l : List Bool} {μ : MM} {h a j : Nat} {v : Nat} (hne : a ≠ h) : mmF l (sP μ h j v) a = mmF l μ a := by
  simp [mmF, mI_sP, mP_sP, hne]
theorem mmE_neI {dA : Nat → ClassId} {μ : MM} {h a j : Nat} {v : Int32} (hne : a ≠ h) : mmE dA (sI μ h j v) a = mmE dA μ a := by
  simp [mmE, mK_sI, mN_sI, mP_sI, mI_sI, hne, mmF_neI]
theorem mmE_neP {dA : Nat → ClassId} {μ : MM} {h a j : Nat} {v : Nat} (hne : a ≠ h) : mmE dA (sP μ h j v) a = mmE dA μ a := by
  simp [mmE, mK_sP, mN_sP, mP_sP, mI_sP, hne, mmF_neP]
theorem mmE_obj {dA : Nat → ClassId} {μ : MM} {h ci : Nat} (hk : mK μ h = ci + 1) (hc : ci < 19) : mmE dA μ h = .inr (ci, mmF (mmFt ci) μ h) := by
  unfold mmE
  rw [hk, if_pos (by omega)]
  rfl
theorem mmE_int {dA : Nat → ClassId} {μ : MM} {h : Nat} (hk : mK μ h = 20) : mmE dA μ h = .inl (dA 20, mN μ h, .inl (fun i => mI μ h i)) := by
  unfold mmE
  rw [hk, if_neg (by omega), if_neg (by decide)]
theorem mmE_bool {dA : Nat → ClassId} {μ : MM} {h : Nat} (hk : mK μ h = 23) : mmE dA μ h = .inl (dA 23, mN μ h, .inl (fun i => mI μ h i)) := by
  unfold mmE
  rw [hk, if_neg (by omega), if_neg (by decide)]
theorem mmE_ptr {dA : Nat → ClassId} {μ : MM} {h k : Nat} (hk : mK μ h = k) (h20 : 20 ≤ k) (hp : mmAp k = true) : mmE dA μ h = .inl (dA k, mN μ h, .inr (.inr (.inr (.inr (fun i => op (mP μ h i)))))) := by
  unfold mmE
  rw [hk, if_neg (by omega), if_pos hp]
/-- the words that every state's tables keep -/
def mmNest : Cond → Bool
  | .fieldLinkNest .. => true
  | .methodLinkNest .. => true
  | _ => false
def mmGood (w : Cond) : Bool := (w.onTables && w.keeps) || mmNest w
def WL : List Cond := lw_tbl.filter mmGood
theorem mmGood_tables {w : Cond} (h : mmGood w = true) : w.onTables = true := by
  unfold mmGood at h
  rcases Bool.or_eq_true_iff.mp h with h | h
  · exact (Bool.and_eq_true_iff.mp h).1
  · cases w <;> first | rfl | (simp [mmNest] at h)
theorem mmWarm {s U : State} (hW : s.WarmedH U.vm) {w : Cond} (hg : mmGood w = true) (h : va_Nw w s) : va_Nw w U := by
  unfold mmGood at hg
  rcases Bool.or_eq_true_iff.mp hg with hg | hg
  · exact word_at hW (Or.inl hg) h
  · cases w <;> first | exact va_Nw.warmF hW h | exact va_Nw.warmM hW h | (simp [mmNest] at hg)
theorem wl_in {w : Cond} (i : Nat) (h : lw_tbl[i]? = some w) (hg : mmGood w = true) : w ∈ WL := List.mem_filter.mpr ⟨List.mem_of_getElem? h, hg⟩
theorem wl_t {w : Cond} (i : Nat) (h : tables_1[i]? = some w) (hg : mmGood w = true) : w ∈ WL := List.mem_filter.mpr ⟨List.mem_append_right _ (List.mem_of_getElem? h), hg⟩
theorem wl_s {w : Cond} (i : Nat) (h : (k2_sels lw_privs)[i]? = some w) (hg : mmGood w = true) : w ∈ WL := List.mem_filter.mpr ⟨List.mem_append_left _ (List.mem_of_getElem? h), hg⟩
abbrev mmG : Type := va_G × (Nat → ClassId)
/-- the memory is in the heap, within A -/
def mmR (G : mmG) (A : Nat → Prop) (μ : MM) (H : Heap) : Prop := mK μ 0 = 0 ∧ ∀ a, mK μ (a + 1) ≠ 0 → A a ∧ va_at G.1 vwCl (a, mmE G.2 μ (a + 1)) H
def mmW (G : mmG) (A : Nat → Prop) (μ : MM) (U : State) : Prop := mmR G A μ U.heap ∧ va_K G.1 vwCl (mmTys G.2) U ∧ ∀ w ∈ WL, va_Nw w U
def mmPc (G : mmG) (A : Nat → Prop) (μ : MM) (av : List Value) : Array Value → State → Prop := va_Pc av (fun U => mmW G A μ U ∧ ∀ q, U.heap.size ≤ q → A q)
def mmQ (G : mmG) (A : Nat → Prop) (μ : MM) (ov : Option Value) : Array Value → State → Outcome → State → Prop := fun _ st oc t => oc = .returned ov ∧ mmW G A μ t ∧ va_F A st t
abbrev mmS (p : Program) (m : MethodId) (c : Code) (cc : ByteArray) (nL : Nat) (s : State) (args : Array Value) (own : String) (G : mmG) : Prop :=
  p.tables.exec = Jvm.exec ∧ c.code = cc ∧ c.maxLocals = nL ∧ s.vm.findClass own = some m.cls ∧ (∀ w ∈ WL, w.before args s = true) ∧ va_K G.1 vwCl (mmTys G.2) s
theorem mmR.setI {G : mmG} {A : Nat → Prop} {μ : MM} {H H1 : Heap} {a j : Nat} {v : Int32} (hR : mmR G A μ H) (he : va_at G.1 vwCl (a, mmE G.2 (sI μ (a + 1) j v) (a + 1)) H1) (oq : ∀ q, q ≠ a → H1[q]? = H[q]?) : mmR G A (sI μ (a + 1) j v) H1 := by
  refine ⟨hR.1, fun b hb => ⟨(hR.2 b hb).1, ?_⟩⟩
  by_cases h : b = a
  · subst h; exact he
  · rw [mmE_neI (fun e => h (by omega))]
    exact (hR.2 b hb).2.kept (oq b h)
theorem mmR.setP {G : mmG} {A : Nat → Prop} {μ : MM} {H H1 : Heap} {a j : Nat} {v : Nat} (hR : mmR G A μ H) (he : va_at G.1 vwCl (a, mmE G.2 (sP μ (a + 1) j v) (a + 1)) H1) (oq : ∀ q, q ≠ a → H1[q]? = H[q]?) : mmR G A (sP μ (a + 1) j v) H1 := by
  refine ⟨hR.1, fun b hb => ⟨(hR.2 b hb).1, ?_⟩⟩
  by_cases h : b = a
  · subst h; exact he
  · rw [mmE_neP (fun e => h (by omega))]
    exact (hR.2 b hb).2.kept (oq b h)
theorem mmR.ref {G : mmG} {A : Nat → Prop} {μ : MM} {H : Heap} {h k : Nat} (hR : mmR G A μ H) (hk : mK μ h = k + 1) : ∃ a, h = a + 1 ∧ A a ∧ va_at G.1 vwCl (a, mmE G.2 μ (a + 1)) H := by
  cases h with
  | zero => rw [hR.1] at hk; cases hk
  | succ a => exact ⟨a, rfl, hR.2 a (by rw [hk]; omega)⟩
end MM0
end
section
/-! ROWS over the memory: fields, arrays, ends, calls -/
section MM1
variable {p : Program} {l : Launch} {e : Env} {R : Room} {s : State} {m : MethodId} {args : Array Value} {below : List Frame} {meth : Method} {c : Code} {H : Heap} {locs : List Loc} {cells slots : Nat} {Q : State → Prop}
variable {cc : ByteArray} {pc nL : Nat} {ls : Array Slot} {rest : List Value} {own : String} {G : mmG} {A : Nat → Prop} {μ : MM}
def mmFd (own : String) (idx ci j : Nat) : Prop := ∃ (C : String) (T : u_T) (N : Nat), vwCl[ci]? = some (C, T, N) ∧ ci < 19 ∧ j < N ∧ (T j).1 = C ∧ (∀ w ∈ u_ws C T N, w ∈ WL) ∧ (Cond.fieldLink own idx C (T j).2.1 (T j).2.2.1 ∈ WL ∨ ∃ host, Cond.fieldLinkNest own idx C (T j).2.1 (T j).2.2.1 host ∈ WL)
def mmFp (own : String) (idx ci j : Nat) (ty : FieldType) : Prop := ∃ (C : String) (T : u_T) (N : Nat) (ty0 : Nat → FieldType), vwCl[ci]? = some (C, T, N) ∧ ci < 19 ∧ j < N ∧ (T j).1 = C ∧ (∀ w ∈ u_ws C T N, w ∈ WL) ∧ (Cond.fieldLink own idx C (T j).2.1 (T j).2.2.1 ∈ WL ∨ ∃ host, Cond.fieldLinkNest own idx C (T j).2.1 (T j).2.2.1 host ∈ WL) ∧
  (∀ k, k < N → parseFieldDescriptor (T k).2.2.1 = some (ty0 k)) ∧ (∀ a, a < N → ∀ b, b < N → a ≠ b → (T a).2.1 ≠ (T b).2.1) ∧ (T j).2.2.2 = false ∧ parseFieldDescriptor (T j).2.2.1 = some ty
theorem mm_one {D : va_G} {cl : List vw_C} {q : Nat × va_E} {H : Heap} (h : va_at D cl q H) : va_P D cl [q] H := by
  intro k x hk
  cases k with
  | zero => cases hk; exact h
  | succ k => cases hk
theorem mm_geti (S : mmS p m c cc nL s args own G) (hR : mmR G A μ H) {h idx ci j : Nat} (f : mmFd own idx ci j) (hk : mK μ h = ci + 1) (hf : (mmFt ci)[j]? = some false) (hdg : decode cc pc = .ok (.getfield idx, 3))
    (kk : W p l e R s m args below meth c H locs cells slots Q (F0 m (pc + 3) ls (.int (mI μ h j) :: rest))) : W p l e R s m args below meth c H locs cells slots Q (F0 m pc ls (rf h :: rest)) := by
  obtain ⟨hx, hb, -, hown, hts, hK⟩ := S
  obtain ⟨a, rfl, -, hat⟩ := hR.ref hk
  obtain ⟨C, T, N, hc, hci, hj, hC, hin, hlink⟩ := f
  rw [mmE_obj hk hci] at hat
  rcases hlink with hl | ⟨host, hl⟩
  · exact va_get hx hb hts hin hown hK (mm_one hat) 0 rfl hc j hj (hts _ hl) (by rw [hC]; exact fun _ h => h) (mmF_get hf) hdg kk
  · exact va_getN hx hb hts hin hown hK (mm_one hat) 0 rfl hc j hj (hts _ hl) (by rw [hC]; exact fun _ h => h) (mmF_get hf) hdg kk
theorem mm_getp (S : mmS p m c cc nL s args own G) (hR : mmR G A μ H) {h idx ci j : Nat} (f : mmFd own idx ci j) (hk : mK μ h = ci + 1) (hf : (mmFt ci)[j]? = some true) (hdg : decode cc pc = .ok (.getfield idx, 3))
    (kk : W p l e R s m args below meth c H locs cells slots Q (F0 m (pc + 3) ls (rf (mP μ h j) :: rest))) : W p l e R s m args below meth c H locs cells slots Q (F0 m pc ls (rf h :: rest)) := by
  obtain ⟨hx, hb, -, hown, hts, hK⟩ := S
  obtain ⟨a, rfl, -, hat⟩ := hR.ref hk
  obtain ⟨C, T, N, hc, hci, hj, hC, hin, hlink⟩ := f
  rw [mmE_obj hk hci] at hat
  rcases hlink with hl | ⟨host, hl⟩
  · exact va_get hx hb hts hin hown hK (mm_one hat) 0 rfl hc j hj (hts _ hl) (by rw [hC]; exact fun _ h => h) (mmF_get hf) hdg kk
  · exact va_getN hx hb hts hin hown hK (mm_one hat) 0 rfl hc j hj (hts _ hl) (by rw [hC]; exact fun _ h => h) (mmF_get hf) hdg kk
/-- a store into a field, of any value; what the cell holds then -/
theorem mm_put (S : mmS p m c cc nL s args own G) (hR : mmR G A μ H) (hS : va_S A s.heap H locs) {h idx ci j : Nat} {ty : FieldType} (f : mmFp own idx ci j ty) (hk : mK μ h = ci + 1) {v : Value} (hn : narrow ty v = v) (hfit : fits ty v = true) (hl : j < (mmFt ci).length) (hdg : decode cc pc = .ok (.putfield idx, 3))
    (kk : ∀ (a : Nat) (H1 : Heap) (locs1 : List Loc), h = a + 1 → va_at G.1 vwCl (a, .inr (ci, (mmF (mmFt ci) μ h).set j v)) H1 → (∀ q, q ≠ a → H1[q]? = H[q]?) → va_S A s.heap H1 locs1 → W p l e R s m args below meth c H1 locs1 cells slots Q (F0 m (pc + 3) ls rest)) : W p l e R s m args below meth c H locs cells slots Q (F0 m pc ls (v :: rf h :: rest)) := by
  obtain ⟨hx, hb, -, hown, hts, hK⟩ := S
  obtain ⟨a, rfl, hAa, hat⟩ := hR.ref hk
  obtain ⟨C, T, N, ty0, hc, hci, hj, hC, hin, hlink, hty, hnm, hfin, hd⟩ := f
  rw [mmE_obj hk hci] at hat
  have hap := va_apart (own := own) hts hin ty0 hty hnm hK hc
  obtain ⟨r, h1, cell, q1, q2, q3, q4⟩ := hat
  have hr : r = (C, T, N) := Option.some.inj (h1.symm.trans hc)
  subst hr
  obtain ⟨hSl, hfc, kC, hkC, hkind⟩ := hK.1 ci _ hc
  obtain ⟨cf, kf, fi, f, hi, hsl⟩ := hSl j hj
  have hlay := hts _ (hin _ (u_in_lay hj))
  unfold u_lay at hlay
  rw [if_neg (by rw [hfin]; decide)] at hlay
  have hst := (u_facts hfc hkC (u_lays hts hin hj) hi).1
  have h6 := u_store hfc hkC hkind hlay hi hd hn hfit
  have hi' : s.fieldFound? C (T j).2.1 (T j).2.2.1 = some (cf, kf, fi, f) := by rw [← hC]; exact hi
  rcases hlink with hlk | ⟨host, hlk⟩
  · refine W.putK hx hb (f := f) ⟨hown, hts _ hlk, ⟨_, _, _, hi'⟩, hst⟩ (by rw [q2]; exact h6) q1 q3 (by rw [hsl]; exact k2_hasslot (q4 j hj)) rfl rfl hdg fun H' e1 e2 e3 => ?_
    rw [hsl] at e1 ⊢
    exact kk a H' _ rfl ⟨_, hc, t_OB.to (V := updV (vp_V (mmF (mmFt ci) μ (a + 1))) j v) ⟨_, e1, q2, q3, t_set q4 hap hj v⟩ (fun i _ => vp_updV_set (by rw [mmF_len]; exact hl) v i)⟩ e3 (hS.put e2 e3 hAa)
  · refine va_WputK hx hb (f := f) hown (hts _ hlk) hi' hst (by rw [q2]; exact h6) q1 q3 (by rw [hsl]; exact k2_hasslot (q4 j hj)) rfl rfl hdg fun H' e1 e2 e3 => ?_
    rw [hsl] at e1 ⊢
    exact kk a H' _ rfl ⟨_, hc, t_OB.to (V := updV (vp_V (mmF (mmFt ci) μ (a + 1))) j v) ⟨_, e1, q2, q3, t_set q4 hap hj v⟩ (fun i _ => vp_updV_set (by rw [mmF_len]; exact hl) v i)⟩ e3 (hS.put e2 e3 hAa)
theorem mm_puti (S : mmS p m c cc nL s args own G) (hR : mmR G A μ H) (hS : va_S A s.heap H locs) {h idx ci j : Nat} {ty : FieldType} (f : mmFp own idx ci j ty) (hk : mK μ h = ci + 1) (hf : (mmFt ci)[j]? = some false) {v : Int32} (hn : narrow ty (.int v) = .int v) (hfit : fits ty (.int v) = true) (hdg : decode cc pc = .ok (.putfield idx, 3))
    (kk : ∀ (H1 : Heap) (locs1 : List Loc), mmR G A (sI μ h j v) H1 → va_S A s.heap H1 locs1 → W p l e R s m args below meth c H1 locs1 cells slots Q (F0 m (pc + 3) ls rest)) : W p l e R s m args below meth c H locs cells slots Q (F0 m pc ls (.int v :: rf h :: rest)) := by
  have hci : ci < 19 := f.choose_spec.choose_spec.choose_spec.choose_spec.2.1
  refine mm_put S hR hS f hk hn hfit (List.getElem?_eq_some_iff.mp hf).1 hdg (fun a H1 locs1 ha hat oq hS1 => kk H1 locs1 ?_ hS1)
  subst ha
  refine hR.setI ?_ oq
  rw [mmE_obj (μ := sI μ (a + 1) j v) hk hci, ← mmF_setI hf]
  exact hat
theorem mm_putp (S : mmS p m c cc nL s args own G) (hR : mmR G A μ H) (hS : va_S A s.heap H locs) {h idx ci j : Nat} {ty : FieldType} (f : mmFp own idx ci j ty) (hk : mK μ h = ci + 1) (hf : (mmFt ci)[j]? = some true) {v : Nat} (hn : narrow ty (rf v) = rf v) (hfit : fits ty (rf v) = true) (hdg : decode cc pc = .ok (.putfield idx, 3))
    (kk : ∀ (H1 : Heap) (locs1 : List Loc), mmR G A (sP μ h j v) H1 → va_S A s.heap H1 locs1 → W p l e R s m args below meth c H1 locs1 cells slots Q (F0 m (pc + 3) ls rest)) : W p l e R s m args below meth c H locs cells slots Q (F0 m pc ls (rf v :: rf h :: rest)) := by
  have hci : ci < 19 := f.choose_spec.choose_spec.choose_spec.choose_spec.2.1
  refine mm_put S hR hS f hk hn hfit (List.getElem?_eq_some_iff.mp hf).1 hdg (fun a H1 locs1 ha hat oq hS1 => kk H1 locs1 ?_ hS1)
  subst ha
  refine hR.setP ?_ oq
  rw [mmE_obj (μ := sP μ (a + 1) j v) hk hci, ← mmF_setP hf]
  exact hat
theorem mm_iald (S : mmS p m c cc nL s args own G) (hR : mmR G A μ H) {h : Nat} (hk : mK μ h = 20) {i : Int32} (hin : vp_in i (mN μ h)) (hdg : decode cc pc = .ok (.iaload, 1))
    (kk : W p l e R s m args below meth c H locs cells slots Q (F0 m (pc + 1) ls (.int (mI μ h i.toNatClampNeg) :: rest))) : W p l e R s m args below meth c H locs cells slots Q (F0 m pc ls (.int i :: rf h :: rest)) := by
  obtain ⟨hx, hb, -, hown, hts, hK⟩ := S
  obtain ⟨a, rfl, -, hat⟩ := hR.ref hk
  rw [mmE_int hk] at hat
  exact va_iald hx hb hK (mm_one hat) 0 0 rfl rfl hin hdg kk
theorem mm_iast (S : mmS p m c cc nL s args own G) (hR : mmR G A μ H) (hS : va_S A s.heap H locs) {h : Nat} (hk : mK μ h = 20) {i v : Int32} (hin : vp_in i (mN μ h)) (hdg : decode cc pc = .ok (.iastore, 1))
    (kk : ∀ (H1 : Heap) (locs1 : List Loc), mmR G A (sI μ h i.toNatClampNeg v) H1 → va_S A s.heap H1 locs1 → W p l e R s m args below meth c H1 locs1 cells slots Q (F0 m (pc + 1) ls rest)) : W p l e R s m args below meth c H locs cells slots Q (F0 m pc ls (.int v :: .int i :: rf h :: rest)) := by
  obtain ⟨hx, hb, -, hown, hts, hK⟩ := S
  obtain ⟨a, rfl, hAa, hat⟩ := hR.ref hk
  rw [mmE_int hk] at hat
  refine W.iast hx hb hat ((hK.2 0 _ rfl).1 (mN μ (a + 1)) (fun j => .int (mI μ (a + 1) j))) (fun q => by cases q) (by show ¬ (i < 0 ∨ (arrV _ _ _).slots.size ≤ _); rw [arrV_size]; exact hin) rfl rfl hdg fun H1 e z oq => ?_
  refine kk H1 _ (hR.setI ?_ oq) (hS.put z oq hAa)
  rw [mmE_int (μ := sI μ (a + 1) i.toNatClampNeg v) hk]
  show H1[a]? = some (vp_cell _ _)
  rw [e]
  show some ((vp_cell _ _).setSlot _ _) = _
  rw [vp_cell_i, vp_cell_i, arrV_store]
  congr 2
  funext q
  by_cases hq : q = i.toNatClampNeg
  · subst hq
    simp [updV, mI_sI]
  · simp [updV, mI_sI, hq]
theorem mm_aald21 (S : mmS p m c cc nL s args own G) (hR : mmR G A μ H) {h : Nat} (hk : mK μ h = 21) {i : Int32} (hin : vp_in i (mN μ h)) (hdg : decode cc pc = .ok (.aaload, 1))
    (kk : W p l e R s m args below meth c H locs cells slots Q (F0 m (pc + 1) ls (rf (mP μ h i.toNatClampNeg) :: rest))) : W p l e R s m args below meth c H locs cells slots Q (F0 m pc ls (.int i :: rf h :: rest)) := by
  obtain ⟨hx, hb, -, hown, hts, hK⟩ := S
  obtain ⟨a, rfl, -, hat⟩ := hR.ref hk
  rw [mmE_ptr hk (by omega) (by decide)] at hat
  exact va_aldq hx hb hK (mm_one hat) 0 1 rfl rfl hin hdg kk
theorem mm_aald22 (S : mmS p m c cc nL s args own G) (hR : mmR G A μ H) {h : Nat} (hk : mK μ h = 22) {i : Int32} (hin : vp_in i (mN μ h)) (hdg : decode cc pc = .ok (.aaload, 1))
    (kk : W p l e R s m args below meth c H locs cells slots Q (F0 m (pc + 1) ls (rf (mP μ h i.toNatClampNeg) :: rest))) : W p l e R s m args below meth c H locs cells slots Q (F0 m pc ls (.int i :: rf h :: rest)) := by
  obtain ⟨hx, hb, -, hown, hts, hK⟩ := S
  obtain ⟨a, rfl, -, hat⟩ := hR.ref hk
  rw [mmE_ptr hk (by omega) (by decide)] at hat
  exact va_aldq hx hb hK (mm_one hat) 0 2 rfl rfl hin hdg kk
-- handles on locals and stack
theorem mm_aload_n (S : mmS p m c cc nL s args own G) {k : Fin 4} {i h : Nat} (hdg : decode cc pc = .ok (.aload_n k, 1)) (hi : (k : Nat) = i) (hl : ls[i]? = some (.val (rf h)))
    (kk : W p l e R s m args below meth c H locs cells slots Q (F0 m (pc + 1) ls (rf h :: rest))) : W p l e R s m args below meth c H locs cells slots Q (F0 m pc ls rest) := by
  cases h with
  | zero => exact lv_aload_nN S.1 S.2.1 hdg hi hl kk
  | succ a => exact lv_aload_n S.1 S.2.1 hdg hi hl kk
theorem mm_aload (S : mmS p m c cc nL s args own G) {i h : Nat} (hdg : decode cc pc = .ok (.aload i, 2)) (hl : ls[i]? = some (.val (rf h)))
    (kk : W p l e R s m args below meth c H locs cells slots Q (F0 m (pc + 2) ls (rf h :: rest))) : W p l e R s m args below meth c H locs cells slots Q (F0 m pc ls rest) := by
  cases h with
  | zero => exact lv_aloadN S.1 S.2.1 hdg hl kk
  | succ a => exact lv_aload S.1 S.2.1 hdg hl kk
theorem mm_astore_n (S : mmS p m c cc nL s args own G) {k : Fin 4} {i n h : Nat} {lv lv' : List (Nat × Value)} (hdg : decode cc pc = .ok (.astore_n k, 1)) (hi : (k : Nat) = i) (hh : lv_has ls n lv) (hn : i < n) (hl : (i, rf h) :: lv.filter (fun q => !(q.1 == i) && !(q.1 + 1 == i && q.2.category == 2)) = lv')
    (kk : ∀ ls' : Array Slot, lv_has ls' n lv' → W p l e R s m args below meth c H locs cells slots Q (F0 m (pc + 1) ls' rest)) : W p l e R s m args below meth c H locs cells slots Q (F0 m pc ls (rf h :: rest)) := by
  cases h with
  | zero => exact lv_astore_nN S.1 S.2.1 hdg hi hh hn hl kk
  | succ a => exact lv_astore_n S.1 S.2.1 hdg hi hh hn hl kk
theorem mm_astore (S : mmS p m c cc nL s args own G) {i n h : Nat} {lv lv' : List (Nat × Value)} (hdg : decode cc pc = .ok (.astore i, 2)) (hh : lv_has ls n lv) (hn : i < n) (hl : (i, rf h) :: lv.filter (fun q => !(q.1 == i) && !(q.1 + 1 == i && q.2.category == 2)) = lv')
    (kk : ∀ ls' : Array Slot, lv_has ls' n lv' → W p l e R s m args below meth c H locs cells slots Q (F0 m (pc + 2) ls' rest)) : W p l e R s m args below meth c H locs cells slots Q (F0 m pc ls (rf h :: rest)) := by
  cases h with
  | zero => exact lv_astoreN S.1 S.2.1 hdg hh hn hl kk
  | succ a => exact lv_astore S.1 S.2.1 hdg hh hn hl kk
theorem op_inj {a b : Nat} : op a = op b ↔ a = b := by
  cases a <;> cases b <;> simp [op]
theorem mm_acmp_eq (S : mmS p m c cc nL s args own G) {x y : Nat} {off : Int} {tgt : Nat} (hdg : decode cc pc = .ok (.if_acmp .eq off, 3)) (ht : (pc : Int) + off = (tgt : Int))
    (kt : x = y → W p l e R s m args below meth c H locs cells slots Q (F0 m tgt ls rest)) (kf : ¬ x = y → W p l e R s m args below meth c H locs cells slots Q (F0 m (pc + 3) ls rest)) : W p l e R s m args below meth c H locs cells slots Q (F0 m pc ls (rf y :: rf x :: rest)) :=
  lv_acmp_eq S.1 S.2.1 hdg ht (fun h => kt (op_inj.mp h)) (fun h => kf (fun e => h (op_inj.mpr e)))
-- a method's body and its end
theorem mm_nw {s : State} {args : Array Value} (hts : ∀ w ∈ WL, w.before args s = true) : ∀ w ∈ WL, va_Nw w s := fun w hw => va_Nw.of (mmGood_tables (List.mem_filter.mp hw).2) (hts w hw)
theorem mm_w (S : mmS p m c cc nL s args own G) (hR : mmR G A μ H) {t : State} (ht : t.heap = H) (hW : s.WarmedH t.vm) : mmW G A μ t :=
  ⟨by rw [ht]; exact hR, va_K.moved hW.alike S.2.2.2.2.2, fun w hw => mmWarm hW (List.mem_filter.mp hw).2 (mm_nw S.2.2.2.2.1 w hw)⟩
theorem mm_iret (S : mmS p m c cc nL s args own G) (hR : mmR G A μ H) (hS : va_S A s.heap H locs) (hr : meth.sig.returnType = some .int) (hlocks : meth.locks = false) {v : Int32} (hdg : decode cc pc = .ok (.ireturn, 1)) : W p l e R s m args below meth c H locs cells slots (MQ below (mmQ G A μ (some (.int v))) args s cells slots A) (F0 m pc ls [.int v]) :=
  W.iret S.1 S.2.1 hr (fun t ht hW => ⟨rfl, mm_w S hR ht hW, hS.F ht⟩) hS.2.2 hdg hlocks
theorem mm_zret (S : mmS p m c cc nL s args own G) (hR : mmR G A μ H) (hS : va_S A s.heap H locs) (hr : meth.sig.returnType = some .boolean) (hlocks : meth.locks = false) {v : Int32} (hv : v = 0 ∨ v = 1) (hdg : decode cc pc = .ok (.ireturn, 1)) : W p l e R s m args below meth c H locs cells slots (MQ below (mmQ G A μ (some (.int v))) args s cells slots A) (F0 m pc ls [.int v]) :=
  W.zret S.1 S.2.1 hr (by rcases hv with rfl | rfl <;> rfl) (fun t ht hW => ⟨rfl, mm_w S hR ht hW, hS.F ht⟩) hS.2.2 hdg hlocks
theorem mm_vret (S : mmS p m c cc nL s args own G) (hR : mmR G A μ H) (hS : va_S A s.heap H locs) (hr : meth.sig.returnType = none) (hlocks : meth.locks = false) (hdg : decode cc pc = .ok (.return_, 1)) : W p l e R s m args below meth c H locs cells slots (MQ below (mmQ G A μ none) args s cells slots A) (F0 m pc ls []) :=
  W.vret S.1 S.2.1 hr (fun t ht hW => ⟨rfl, mm_w S hR ht hW, hS.F ht⟩) hS.2.2 hdg hlocks
theorem mm_aret (S : mmS p m c cc nL s args own G) (hR : mmR G A μ H) (hS : va_S A s.heap H locs) {C : String} (hr : meth.sig.returnType = some (.object C)) (hlocks : meth.locks = false) {h : Nat} (hdg : decode cc pc = .ok (.areturn, 1)) : W p l e R s m args below meth c H locs cells slots (MQ below (mmQ G A μ (some (rf h))) args s cells slots A) (F0 m pc ls [rf h]) :=
  W.aret S.1 S.2.1 hr (Or.inl ⟨C, rfl⟩) (rf_or h) (fun t ht hW => ⟨rfl, mm_w S hR ht hW, hS.F ht⟩) hS.2.2 hdg hlocks
end MM1
end
section
/-! A METHOD'S BODY, AND CALLS, over the memory -/
section MM2
theorem mmW.calling {G : mmG} {A : Nat → Prop} {μ : MM} {U : State} (g : JFrame) (mk : MethodId) (a : Array Value) (h : mmW G A μ U) : mmW G A μ (U.calling g mk a) :=
  ⟨h.1, va_K.moved (u := U) (U := U.calling g mk a) (Vm.Alike.refl U.vm) h.2.1, fun w hw => va_Nw.same (u := U) (U := U.calling g mk a) (mmGood_tables (List.mem_filter.mp hw).2) rfl (h.2.2 w hw)⟩
theorem mmPc_blind {G : mmG} {A : Nat → Prop} {μ : MM} {av : List Value} : FrameBlind (mmPc G A μ av) := fun a U g mk q => ⟨q.1, q.2.1.calling g mk a, q.2.2⟩
theorem mm_ofW {l : Launch} {y : MethodName} {cc : ByteArray} {maxL : Nat} {ret : Option FieldType} {rm : Room} {G : mmG} {A : Nat → Prop} {μ : MM} {av : List Value} {Qc : Array Value → State → Outcome → State → Prop} {mc ms : Nat}
    (hy : plainName y.cls = true) (hL : (lg_sl av).length ≤ maxL)
    (body : ∀ (p : Program) (e : Env) (s : State) (m : MethodId) (below : List Frame) (meth : Method) (c : Code) (ls : Array Slot), mmS p m c cc maxL s av.toArray y.cls G → mmR G A μ s.heap → (∀ q, s.heap.size ≤ q → A q) → va_S A s.heap s.heap [] → meth.sig.returnType = ret → meth.locks = false → lv_has ls maxL (lv_args 0 av) → meth.name = y.name →
      W p l e rm s m av.toArray below meth c s.heap [] 0 0 (MQ below Qc av.toArray s mc ms A) (F0 m 0 ls [])) : Met l y [.code y cc maxL ret] rm (mmPc G A μ av) Qc mc ms A := by
  refine Met.ofW (cc := cc) (maxL := maxL) (ret := ret) hy rfl ?_
  intro p e s m args below meth c s₁ B hml hv
  obtain ⟨rfl, hw, hA⟩ := hv
  have hl := lv_entry av (n := maxL) hL
  rw [lg_entry_eq]
  exact body p e s m below meth c _ ⟨B.exec, B.bytes, hml, findClass_of_methodNamed B.named, fun w hw' => va_Nw.use (mmGood_tables (List.mem_filter.mp hw').2) (hw.2.2 w hw'), hw.2.1⟩ hw.1 hA va_S.rf B.returns B.notSynchronized hl (name_of_methodNamed B.named B.method).1
/-- what the tables say of a method's call: by its constant, an object of class ci receives it -/
def mmCV (own : String) (idx ci : Nat) (y : MethodName) (bytes : ByteArray) (maxL : Nat) (ret : Option FieldType) (n : Nat) : Prop :=
  ∃ (T : u_T) (N : Nat), vwCl[ci]? = some (y.cls, T, N) ∧ ci < 19 ∧ Cond.methodLink own idx y ∈ WL ∧ Cond.instanceMethod y ∈ WL ∧ Cond.selects y.cls y y ∈ WL ∧ Cond.initialized y.cls ∈ WL ∧ Cond.code y bytes maxL ret ∈ WL ∧ (Cond.code y bytes maxL ret).onTables = true ∧ (Cond.code y bytes maxL ret).keeps = true ∧
  (y.cls ≠ "java/lang/invoke/MethodHandle" ∧ y.cls ≠ "java/lang/invoke/VarHandle") ∧ (parseMethodDescriptor y.desc).map (fun d => d.parameters.length) = some n
def mmCS (own : String) (idx : Nat) (y : MethodName) (bytes : ByteArray) (maxL : Nat) (ret : Option FieldType) (n : Nat) : Prop :=
  Cond.methodLink own idx y ∈ WL ∧ Cond.static y ∈ WL ∧ Cond.initialized y.cls ∈ WL ∧ Cond.code y bytes maxL ret ∈ WL ∧ (Cond.code y bytes maxL ret).onTables = true ∧ (Cond.code y bytes maxL ret).keeps = true ∧
  (y.cls ≠ "java/lang/invoke/MethodHandle" ∧ y.cls ≠ "java/lang/invoke/VarHandle") ∧ (parseMethodDescriptor y.desc).map (fun d => d.parameters.length) = some n
variable {p : Program} {l : Launch} {e : Env} {R : Room} {s : State} {m : MethodId} {args : Array Value} {below : List Frame} {meth : Method} {c : Code} {H : Heap} {locs : List Loc} {cells slots : Nat} {Q : State → Prop}
variable {cc : ByteArray} {pc nL : Nat} {ls : Array Slot} {rest st0 : List Value} {own : String} {G : mmG} {A : Nat → Prop} {μ μ' : MM}
theorem mm_callB (S : mmS p m c cc nL s args own G) {idx n maxL mc ms : Nat} {y : MethodName} {bytes : ByteArray} {ret : Option FieldType} {rm : Room} (hlink : Cond.methodLink own idx y ∈ WL) (hini : Cond.initialized y.cls ∈ WL) (hcode : Cond.code y bytes maxL ret ∈ WL) (ht : (Cond.code y bytes maxL ret).onTables = true) (hk : (Cond.code y bytes maxL ret).keeps = true) (hy : y.cls ≠ "java/lang/invoke/MethodHandle" ∧ y.cls ≠ "java/lang/invoke/VarHandle") (hn : (parseMethodDescriptor y.desc).map (fun d => d.parameters.length) = some n)
    (hc : rm.cells = mc) (hs : rm.slots = ms) (hroom : rm.frames + 1 ≤ R.frames ∧ 8 + (maxL + 11) + rm.locals ≤ R.locals) : CallB R s args own idx y bytes maxL ret [.code y bytes maxL ret] rm mc ms n := by
  have hts := S.2.2.2.2.1
  refine ⟨hc, hs, hroom.1, hroom.2, fun w hw a' U hW => ?_, List.mem_cons_self, hts _ hcode, hts _ hini, hy, fun sig h => ?_, hts _ hlink⟩
  · rw [List.mem_singleton.mp hw]
    exact word_at hW (Or.inl (by rw [ht, hk]; rfl)) (hts _ hcode)
  · rw [h] at hn
    exact (Option.some.inj hn).symm
theorem mm_go {mc ms : Nat} {a : Array Value} {ov : Option Value} (hr : va_Run p l e R s m args below meth c H locs cells slots mc ms (F0 m pc ls st0) rest (mmQ G A μ' ov a) A) (hS : va_S A s.heap H locs)
    (kk : ∀ (H1 : Heap) (locs1 : List Loc), mmR G A μ' H1 → va_S A s.heap H1 locs1 → H.size ≤ H1.size → W p l e R s m args below meth c H1 locs1 (cells + mc) (slots + ms) Q (F0 m (pc + 3) ls (ov.toList ++ rest))) : W p l e R s m args below meth c H locs cells slots Q (F0 m pc ls st0) := by
  intro T hT X
  obtain ⟨v, st₀, t, T', L, h0, X', hL, e1, e2, ⟨hv, hw, hz, hk⟩, st⟩ := hr T hT X
  cases hv
  rw [h0] at hz hk
  obtain ⟨t2, a1, b1⟩ := kk T'.heap (locs ++ L) (by rw [e1]; exact hw.1)
    ⟨Nat.le_trans hS.1 (by rw [e1]; exact hz), fun q h1 h2 => by rw [e1, hk q (Nat.lt_of_lt_of_le h1 hS.1) h2]; exact hS.2.1 q h1 h2, fun q hq => by
      rcases List.mem_append.mp hq with h | h
      · exact hS.2.2 q h
      · exact hL q h⟩ (by rw [e1]; exact hz) T' rfl X'
  exact ⟨t2, st t2 a1, b1⟩
theorem mm_callV (S : mmS p m c cc nL s args own G) (hR : mmR G A μ H) (hS : va_S A s.heap H locs) (hA : ∀ q, s.heap.size ≤ q → A q) {idx ci n maxL h mc ms : Nat} {y : MethodName} {bytes : ByteArray} {ret : Option FieldType} {rm : Room} {As : List Value} {ov : Option Value} (C : mmCV own idx ci y bytes maxL ret n) (hk : mK μ h = ci + 1)
    (hM : Met l y [.code y bytes maxL ret] rm (mmPc G A μ (rf h :: As)) (mmQ G A μ' ov) mc ms A) (hc : rm.cells = mc) (hs : rm.slots = ms) (hroom : rm.frames + 1 ≤ R.frames ∧ 8 + (maxL + 11) + rm.locals ≤ R.locals) (hn : As.length = n) (hl : ls.size = nL) (hst : st0 = As.reverse ++ rf h :: rest)
    (hW : 2 * (F0 m pc ls st0).monitorRoom + (rest.map fun v => v.category).sum ≤ 8) (hdg : decode cc pc = .ok (.invokevirtual idx, 3)) (hf : cells + mc ≤ R.cells ∧ slots + ms ≤ R.slots)
    (kk : ∀ (H1 : Heap) (locs1 : List Loc), mmR G A μ' H1 → va_S A s.heap H1 locs1 → H.size ≤ H1.size → W p l e R s m args below meth c H1 locs1 (cells + mc) (slots + ms) Q (F0 m (pc + 3) ls (ov.toList ++ rest))) : W p l e R s m args below meth c H locs cells slots Q (F0 m pc ls st0) := by
  obtain ⟨T, N, hcl, hci, c1, c2, c3, c4, c5, c6, c7, c8, c9⟩ := C
  obtain ⟨a, rfl, hAa, hat⟩ := hR.ref hk
  rw [mmE_obj hk hci] at hat
  have hB := mm_callB (R := R) S c1 c4 c5 c6 c7 c8 c9 hc hs hroom
  exact mm_go (va_runV (As := As) (rest := rest) ⟨S.1, S.2.1, S.2.2.1, S.2.2.2.1, S.2.2.2.2.1⟩ hM ⟨hB, S.2.2.2.2.1 _ c2, S.2.2.2.2.1 _ c3⟩ ⟨mmPc_blind, va_recv (q0 := 0) S.2.2.2.2.2 (mm_one hat) hcl rfl, fun U hU hW => ⟨rfl, mm_w S hR hU hW, fun q hq => hA q (Nat.le_trans hS.1 (by rw [hU] at hq; exact hq))⟩⟩ rfl hn hl hst hW hdg hf) hS kk
theorem mm_callS (S : mmS p m c cc nL s args own G) (hR : mmR G A μ H) (hS : va_S A s.heap H locs) (hA : ∀ q, s.heap.size ≤ q → A q) {idx n maxL mc ms : Nat} {y : MethodName} {bytes : ByteArray} {ret : Option FieldType} {rm : Room} {As : List Value} {ov : Option Value} (C : mmCS own idx y bytes maxL ret n)
    (hM : Met l y [.code y bytes maxL ret] rm (mmPc G A μ As) (mmQ G A μ' ov) mc ms A) (hc : rm.cells = mc) (hs : rm.slots = ms) (hroom : rm.frames + 1 ≤ R.frames ∧ 8 + (maxL + 11) + rm.locals ≤ R.locals) (hn : As.length = n) (hl : ls.size = nL) (hst : st0 = As.reverse ++ rest)
    (hW : 2 * (F0 m pc ls st0).monitorRoom + (rest.map fun v => v.category).sum ≤ 8) (hdg : decode cc pc = .ok (.invokestatic idx, 3)) (hf : cells + mc ≤ R.cells ∧ slots + ms ≤ R.slots)
    (kk : ∀ (H1 : Heap) (locs1 : List Loc), mmR G A μ' H1 → va_S A s.heap H1 locs1 → H.size ≤ H1.size → W p l e R s m args below meth c H1 locs1 (cells + mc) (slots + ms) Q (F0 m (pc + 3) ls (ov.toList ++ rest))) : W p l e R s m args below meth c H locs cells slots Q (F0 m pc ls st0) := by
  obtain ⟨c1, c2, c4, c5, c6, c7, c8, c9⟩ := C
  have hB := mm_callB (R := R) S c1 c4 c5 c6 c7 c8 c9 hc hs hroom
  exact mm_go (va_runS (As := As) (rest := rest) ⟨S.1, S.2.1, S.2.2.1, S.2.2.2.1, S.2.2.2.2.1⟩ hM ⟨hB, S.2.2.2.2.1 _ c2⟩ ⟨mmPc_blind, fun U hU hW => ⟨rfl, mm_w S hR hU hW, fun q hq => hA q (Nat.le_trans hS.1 (by rw [hU] at hq; exact hq))⟩⟩ rfl hn hl hst hW hdg hf) hS kk
-- reading the pure side
theorem it_t {α : Type} {P : Prop} [Decidable P] {a b x : α} (h : (if P then a else b) = x) (hp : P) : a = x := by rw [if_pos hp] at h; exact h
theorem it_f {α : Type} {P : Prop} [Decidable P] {a b x : α} (h : (if P then a else b) = x) (hp : ¬ P) : b = x := by rw [if_neg hp] at h; exact h
theorem gd {α : Type} {P : Prop} [Decidable P] {a : Option α} {x : α} (h : (if P then a else none) = some x) : P ∧ a = some x := by
  by_cases hp : P
  · rw [if_pos hp] at h; exact ⟨hp, h⟩
  · rw [if_neg hp] at h; cases h
theorem bd {α β : Type} {a : Option α} {f : α → Option β} {x : β} (h : a.bind f = some x) : ∃ y, a = some y ∧ f y = some x := by
  cases a with
  | none => cases h
  | some y => exact ⟨y, rfl, h⟩
end MM2
end
section
/-! ROWS over the memory: System.arraycopy of ints from 0 to 0, Math.min, Math.max, switches -/
section MM3
variable {p : Program} {l : Launch} {e : Env} {R : Room} {s : State} {m : MethodId} {args : Array Value} {below : List Frame} {meth : Method} {c : Code} {H : Heap} {locs : List Loc} {cells slots : Nat} {Q : State → Prop}
variable {cc : ByteArray} {pc nL : Nat} {ls : Array Slot} {rest : List Value} {own : String} {G : mmG} {A : Nat → Prop} {μ : MM}
def sC (μ : MM) (src dst n : Nat) : MM := (μ.1, μ.2.1, fun a i => if a = dst ∧ i < n then μ.2.2.1 src i else μ.2.2.1 a i, μ.2.2.2)
theorem mK_sC (μ : MM) (src dst n : Nat) : mK (sC μ src dst n) = mK μ := rfl
theorem mN_sC (μ : MM) (src dst n : Nat) : mN (sC μ src dst n) = mN μ := rfl
theorem mP_sC (μ : MM) (src dst n : Nat) : mP (sC μ src dst n) = mP μ := rfl
theorem mI_sC (μ : MM) (src dst n a i : Nat) : mI (sC μ src dst n) a i = if a = dst ∧ i < n then mI μ src i else mI μ a i := rfl
theorem mmE_neC {dA : Nat → ClassId} {μ : MM} {src h a n : Nat} (hne : a ≠ h) : mmE dA (sC μ src h n) a = mmE dA μ a := by
  have h1 : ∀ i, mI (sC μ src h n) a i = mI μ a i := fun i => by rw [mI_sC, if_neg (fun e => hne e.1)]
  simp [mmE, mmF, mK_sC, mN_sC, mP_sC, h1]
def mmCp (own : String) (idx : Nat) : Prop := Cond.methodLink own idx arraycopyName ∈ WL ∧ Cond.native arraycopyName ∈ WL ∧ Cond.static arraycopyName ∈ WL ∧ Cond.initialized "java/lang/System" ∈ WL
theorem mm_copy (S : mmS p m c cc nL s args own G) (hR : mmR G A μ H) (hS : va_S A s.heap H locs) {idx src dst : Nat} (C : mmCp own idx) (hk0 : mK μ src = 20) (hk1 : mK μ dst = 20) {n : Int32} (h3 : ¬ n < 0) (hn0 : n.toNatClampNeg ≤ mN μ src) (hn1 : n.toNatClampNeg ≤ mN μ dst) (hl : ls.size = nL)
    (hframes : 1 ≤ R.frames) (hlocals : (rest.map fun v => v.category).sum + 18 ≤ R.locals) (hdg : decode cc pc = .ok (.invokestatic idx, 3))
    (kk : ∀ (H1 : Heap) (locs1 : List Loc), mmR G A (sC μ src dst n.toNatClampNeg) H1 → va_S A s.heap H1 locs1 → W p l e R s m args below meth c H1 locs1 cells slots Q (F0 m (pc + 3) ls rest)) : W p l e R s m args below meth c H locs cells slots Q (F0 m pc ls (.int n :: .int 0 :: rf dst :: .int 0 :: rf src :: rest)) := by
  obtain ⟨hx, hb, hml, hown, hts, hK⟩ := S
  obtain ⟨a0, rfl, -, hat0⟩ := hR.ref hk0
  obtain ⟨a, rfl, hAa, hat1⟩ := hR.ref hk1
  rw [mmE_int hk0] at hat0
  rw [mmE_int hk1] at hat1
  obtain ⟨hlink, hnat, hstat, hini⟩ := C
  have z0 : (0 : Int32).toNatClampNeg = 0 := by decide
  have nn : ∀ z : Int32, ¬ z < 0 → z.toInt = (z.toNatClampNeg : Int) := by
    intro z hz
    have hz0 : (0 : Int) ≤ z.toInt := by
      have := Int32.not_lt.mp hz
      simpa using Int32.le_iff_toInt_le.mp this
    show z.toInt = ((z.toInt.toNat : Nat) : Int)
    omega
  have h18 : nativeFrameWords "java/lang/System" "arraycopy" 5 = 7 := by decide +kernel
  intro T hT X
  have hc0 : H[a0]? = some (vp_cell (G.2 20) (mN μ (a0 + 1), .inl (fun i => mI μ (a0 + 1) i))) := hat0
  have hc1 : H[a]? = some (vp_cell (G.2 20) (mN μ (a + 1), .inl (fun i => mI μ (a + 1) i))) := hat1
  obtain ⟨-, k0, hk0', cm0, hkk0⟩ := (hK.2 0 _ rfl).1 (mN μ (a0 + 1)) (fun j => .int (mI μ (a0 + 1) j))
  obtain ⟨-, k1, hk1', cm1, hkk1⟩ := (hK.2 0 _ rfl).1 (mN μ (a + 1)) (fun j => .int (mI μ (a + 1) j))
  have hneg0 : ¬ (0 : Int32) < 0 := by decide
  have h4 : (0 : Int32).toNatClampNeg + n.toNatClampNeg ≤ mN μ (a0 + 1) := by rw [z0]; omega
  have h5 : (0 : Int32).toNatClampNeg + n.toNatClampNeg ≤ mN μ (a + 1) := by rw [z0]; omega
  obtain ⟨vm', X', step⟩ := X.arraycopy hx hown (hts _ hlink) (hts _ hnat) (hts _ hstat) (hts _ hini) (src := a0) (dst := a) (cs := vp_cell (G.2 20) (mN μ (a0 + 1), .inl (fun i => mI μ (a0 + 1) i))) (cd := vp_cell (G.2 20) (mN μ (a + 1), .inl (fun i => mI μ (a + 1) i))) (srcPos := 0) (destPos := 0) (n := n) (by rw [hT]; exact hc0) (by rw [hT]; exact hc1)
    (fun _ h => by cases h) (fun _ h => by cases h) (fun h => by cases h) (fun h => by cases h) hk0' hk1' hkk0 hkk1 rfl hneg0 hneg0 h3
    (by rw [nn 0 hneg0, nn n h3]; show ¬ _ > ((arrV (G.2 20) (mN μ (a0 + 1)) (fun j => .int (mI μ (a0 + 1) j))).slots.size : Int); rw [arrV_size]; omega)
    (by rw [nn 0 hneg0, nn n h3]; show ¬ _ > ((arrV (G.2 20) (mN μ (a + 1)) (fun j => .int (mI μ (a + 1) j))).slots.size : Int); rw [arrV_size]; omega)
    (fun vm₁ _ i hi => by
      have e : (vp_cell (G.2 20) (mN μ (a0 + 1), .inl (fun i => mI μ (a0 + 1) i))).slots.getD ((0 : Int32).toNatClampNeg + i) .null = .int (mI μ (a0 + 1) ((0 : Int32).toNatClampNeg + i)) := by
        show (arrV (G.2 20) (mN μ (a0 + 1)) (fun j => .int (mI μ (a0 + 1) j))).slots.getD _ _ = _
        rw [Array.getD_eq_getD_getElem?, arrV_read _ _ (by omega)]
        rfl
      refine ⟨?_, ?_⟩
      · rw [e]
        rfl
      · rw [e]
        exact trivial)
    (g := F0 m pc ls (.int n :: .int 0 :: .ref a :: .int 0 :: .ref a0 :: rest)) rfl (by rw [hml]; exact hl) (rest := rest) rfl (by rw [hb]; exact hdg) hframes (by show 2 * 0 + _ + _ ≤ _; rw [h18]; omega)
  have e1 : copied (vp_cell (G.2 20) (mN μ (a0 + 1), .inl (fun i => mI μ (a0 + 1) i))) (vp_cell (G.2 20) (mN μ (a + 1), .inl (fun i => mI μ (a + 1) i))) 0 0 n = vp_cell (G.2 20) (mN μ (a + 1), .inl (va_cpy (fun i => mI μ (a0 + 1) i) (fun i => mI μ (a + 1) i) (0 : Int32).toNatClampNeg (0 : Int32).toNatClampNeg n.toNatClampNeg)) := va_copied (fun z => .int z) (G.2 20) (G.2 20) (fun i => mI μ (a0 + 1) i) (fun i => mI μ (a + 1) i) h4
  rw [e1] at X' step
  have hl : a < H.size := (Array.getElem?_eq_some_iff.mp hc1).1
  have hheap : ((T.setVm vm').setCell a (vp_cell (G.2 20) (mN μ (a + 1), .inl (va_cpy (fun i => mI μ (a0 + 1) i) (fun i => mI μ (a + 1) i) (0 : Int32).toNatClampNeg (0 : Int32).toNatClampNeg n.toNatClampNeg)))).heap = H.setIfInBounds a (vp_cell (G.2 20) (mN μ (a + 1), .inl (va_cpy (fun i => mI μ (a0 + 1) i) (fun i => mI μ (a + 1) i) (0 : Int32).toNatClampNeg (0 : Int32).toNatClampNeg n.toNatClampNeg))) := by rw [← hT]; rfl
  have oq : ∀ q : Nat, q ≠ a → (H.setIfInBounds a (vp_cell (G.2 20) (mN μ (a + 1), .inl (va_cpy (fun i => mI μ (a0 + 1) i) (fun i => mI μ (a + 1) i) (0 : Int32).toNatClampNeg (0 : Int32).toNatClampNeg n.toNatClampNeg))))[q]? = H[q]? := fun q hq => by simp [Array.getElem?_setIfInBounds, Ne.symm hq]
  have hR1 : mmR G A (sC μ (a0 + 1) (a + 1) n.toNatClampNeg) (H.setIfInBounds a (vp_cell (G.2 20) (mN μ (a + 1), .inl (va_cpy (fun i => mI μ (a0 + 1) i) (fun i => mI μ (a + 1) i) (0 : Int32).toNatClampNeg (0 : Int32).toNatClampNeg n.toNatClampNeg)))) := by
    refine ⟨hR.1, fun b hb' => ⟨(hR.2 b hb').1, ?_⟩⟩
    by_cases hba : b = a
    · subst hba
      rw [mmE_int (μ := sC μ (a0 + 1) (b + 1) n.toNatClampNeg) hk1]
      show (H.setIfInBounds b _)[b]? = some (vp_cell _ _)
      rw [Array.getElem?_setIfInBounds_self_of_lt hl]
      congr 3
      congr 1
      funext i
      simp [va_cpy, mI_sC, z0]
    · rw [mmE_neC (fun e => hba (by omega))]
      exact (hR.2 b hb').2.kept (oq b hba)
  obtain ⟨t, a1, b1⟩ := kk _ _ hR1 ⟨by simp; exact hS.1, fun q g1 g2 => by
      rw [oq q (fun e => g2 (by rw [e]; exact hAa))]
      exact hS.2.1 q g1 g2, fun q hq => by
      rcases List.mem_append.mp hq with h | h
      · exact hS.2.2 q h
      · obtain ⟨z, -, hz⟩ := List.mem_map.mp h
        rw [← hz]
        exact hAa⟩ _ hheap X'
  exact ⟨t, step t a1, b1⟩
def mmMn (own : String) (idx : Nat) : Prop := Cond.methodLink own idx Lib.Math.min.name ∈ WL ∧ Cond.static Lib.Math.min.name ∈ WL ∧ Cond.initialized "java/lang/Math" ∈ WL ∧ Cond.code Lib.Math.min.name Lib.Math.min.code 2 (some .int) ∈ WL
def mmMx (own : String) (idx : Nat) : Prop := Cond.methodLink own idx Lib.Math.max.name ∈ WL ∧ Cond.static Lib.Math.max.name ∈ WL ∧ Cond.initialized "java/lang/Math" ∈ WL ∧ Cond.code Lib.Math.max.name Lib.Math.max.code 2 (some .int) ∈ WL
def jmin (x y : Int32) : Int32 := if y < x then y else x
def jmax (x y : Int32) : Int32 := if x < y then y else x
theorem mm_min (S : mmS p m c cc nL s args own G) {idx : Nat} (C : mmMn own idx) (hl : ls.size = nL) (hframes : 1 ≤ R.frames) (hlocals : (rest.map fun v => v.category).sum + 13 ≤ R.locals) (hc : cells ≤ R.cells ∧ slots ≤ R.slots) {x y : Int32} (hdg : decode cc pc = .ok (.invokestatic idx, 3))
    (kk : W p l e R s m args below meth c H locs cells slots Q (F0 m (pc + 3) ls (.int (jmin x y) :: rest))) : W p l e R s m args below meth c H locs cells slots Q (F0 m pc ls (.int y :: .int x :: rest)) :=
  va_mmin S.1 S.2.1 (by rw [S.2.2.1, hl]) S.2.2.2.1 (S.2.2.2.2.1 _ C.1) (S.2.2.2.2.1 _ C.2.1) (S.2.2.2.2.1 _ C.2.2.1) (S.2.2.2.2.1 _ C.2.2.2) hframes hlocals hc.1 hc.2 hdg kk
theorem mm_max (S : mmS p m c cc nL s args own G) {idx : Nat} (C : mmMx own idx) (hl : ls.size = nL) (hframes : 1 ≤ R.frames) (hlocals : (rest.map fun v => v.category).sum + 13 ≤ R.locals) (hc : cells ≤ R.cells ∧ slots ≤ R.slots) {x y : Int32} (hdg : decode cc pc = .ok (.invokestatic idx, 3))
    (kk : W p l e R s m args below meth c H locs cells slots Q (F0 m (pc + 3) ls (.int (jmax x y) :: rest))) : W p l e R s m args below meth c H locs cells slots Q (F0 m pc ls (.int y :: .int x :: rest)) :=
  va_mmax S.1 S.2.1 (by rw [S.2.2.1, hl]) S.2.2.2.1 (S.2.2.2.2.1 _ C.1) (S.2.2.2.2.1 _ C.2.1) (S.2.2.2.2.1 _ C.2.2.1) (S.2.2.2.2.1 _ C.2.2.2) hframes hlocals hc.1 hc.2 hdg kk
/-- a switch: at x = v the row goes to tgt; else it is none of lo .. hi -/
theorem mm_swIn (S : mmS p m c cc nL s args own G) {dflt lo hi : Int} {offs : Array Int} {len : Nat} {x v : Int32} {off : Int} {tgt : Nat} (hdg : decode cc pc = .ok (.tableswitch dflt lo hi offs, len)) (hx : x = v) (h1 : ¬ v.toInt < lo) (h2 : ¬ hi < v.toInt) (ho : offs[(v.toInt - lo).toNat]? = some off) (ht : (pc : Int) + off = (tgt : Int))
    (k : W p l e R s m args below meth c H locs cells slots Q (F0 m tgt ls rest)) : W p l e R s m args below meth c H locs cells slots Q (F0 m pc ls (.int x :: rest)) := by
  subst hx
  exact lv_tableIn S.1 S.2.1 hdg h1 h2 ho ht k
theorem mm_swOut (S : mmS p m c cc nL s args own G) {dflt lo hi : Int} {offs : Array Int} {len : Nat} {x : Int32} {tgt : Nat} (hdg : decode cc pc = .ok (.tableswitch dflt lo hi offs, len)) (h : ∀ k : Nat, k < (hi - lo + 1).toNat → ¬ x = Int32.ofInt (lo + k)) (ht : (pc : Int) + dflt = (tgt : Int))
    (k : W p l e R s m args below meth c H locs cells slots Q (F0 m tgt ls rest)) : W p l e R s m args below meth c H locs cells slots Q (F0 m pc ls (.int x :: rest)) := by
  refine lv_tableOut S.1 S.2.1 hdg ?_ ht k
  by_cases h1 : x.toInt < lo
  · exact Or.inl h1
  by_cases h2 : hi < x.toInt
  · exact Or.inr h2
  exact absurd (by
    have e : lo + ((x.toInt - lo).toNat : Int) = x.toInt := by omega
    rw [e, Int32.ofInt_toInt]) (h (x.toInt - lo).toNat (by omega))
end MM3
end
section
/-! ROWS over the memory: calls by what they answer, switches by lists, the pure side's steps -/
section MM4
variable {p : Program} {l : Launch} {e : Env} {R : Room} {s : State} {m : MethodId} {args : Array Value} {below : List Frame} {meth : Method} {c : Code} {H : Heap} {locs : List Loc} {cells slots : Nat} {Q : State → Prop}
variable {cc : ByteArray} {pc nL : Nat} {ls : Array Slot} {rest st0 : List Value} {own : String} {G : mmG} {A : Nat → Prop} {μ μ' : MM}
abbrev mmEnv (p : Program) (m : MethodId) (c : Code) (cc : ByteArray) (nL : Nat) (s : State) (args : Array Value) (own : String) (G : mmG) (A : Nat → Prop) (meth : Method) (ret : Option FieldType) : Prop :=
  mmS p m c cc nL s args own G ∧ (∀ q, s.heap.size ≤ q → A q) ∧ meth.sig.returnType = ret ∧ meth.locks = false
theorem mm_callVi (S : mmS p m c cc nL s args own G) (hR : mmR G A μ H) (hS : va_S A s.heap H locs) (hA : ∀ q, s.heap.size ≤ q → A q) {idx ci n maxL h : Nat} {y : MethodName} {bytes : ByteArray} {ret : Option FieldType} {rm : Room} {As : List Value} {r : Int32} (C : mmCV own idx ci y bytes maxL ret n) (hk : mK μ h = ci + 1)
    (hM : Met l y [.code y bytes maxL ret] rm (mmPc G A μ (rf h :: As)) (mmQ G A μ' (some (.int r))) 0 0 A) (hc : rm.cells = 0) (hs : rm.slots = 0) (hroom : rm.frames + 1 ≤ R.frames ∧ 8 + (maxL + 11) + rm.locals ≤ R.locals) (hn : As.length = n) (hl : ls.size = nL) (hst : st0 = As.reverse ++ rf h :: rest)
    (hW : 2 * (F0 m pc ls st0).monitorRoom + (rest.map fun v => v.category).sum ≤ 8) (hdg : decode cc pc = .ok (.invokevirtual idx, 3)) (hf : cells ≤ R.cells ∧ slots ≤ R.slots)
    (kk : ∀ (H1 : Heap) (locs1 : List Loc), mmR G A μ' H1 → va_S A s.heap H1 locs1 → W p l e R s m args below meth c H1 locs1 cells slots Q (F0 m (pc + 3) ls (.int r :: rest))) : W p l e R s m args below meth c H locs cells slots Q (F0 m pc ls st0) :=
  mm_callV S hR hS hA C hk hM hc hs hroom hn hl hst hW hdg hf (fun H1 locs1 a b _ => kk H1 locs1 a b)
theorem mm_callVh (S : mmS p m c cc nL s args own G) (hR : mmR G A μ H) (hS : va_S A s.heap H locs) (hA : ∀ q, s.heap.size ≤ q → A q) {idx ci n maxL h : Nat} {y : MethodName} {bytes : ByteArray} {ret : Option FieldType} {rm : Room} {As : List Value} {r : Nat} (C : mmCV own idx ci y bytes maxL ret n) (hk : mK μ h = ci + 1)
    (hM : Met l y [.code y bytes maxL ret] rm (mmPc G A μ (rf h :: As)) (mmQ G A μ' (some (rf r))) 0 0 A) (hc : rm.cells = 0) (hs : rm.slots = 0) (hroom : rm.frames + 1 ≤ R.frames ∧ 8 + (maxL + 11) + rm.locals ≤ R.locals) (hn : As.length = n) (hl : ls.size = nL) (hst : st0 = As.reverse ++ rf h :: rest)
    (hW : 2 * (F0 m pc ls st0).monitorRoom + (rest.map fun v => v.category).sum ≤ 8) (hdg : decode cc pc = .ok (.invokevirtual idx, 3)) (hf : cells ≤ R.cells ∧ slots ≤ R.slots)
    (kk : ∀ (H1 : Heap) (locs1 : List Loc), mmR G A μ' H1 → va_S A s.heap H1 locs1 → W p l e R s m args below meth c H1 locs1 cells slots Q (F0 m (pc + 3) ls (rf r :: rest))) : W p l e R s m args below meth c H locs cells slots Q (F0 m pc ls st0) :=
  mm_callV S hR hS hA C hk hM hc hs hroom hn hl hst hW hdg hf (fun H1 locs1 a b _ => kk H1 locs1 a b)
theorem mm_callVv (S : mmS p m c cc nL s args own G) (hR : mmR G A μ H) (hS : va_S A s.heap H locs) (hA : ∀ q, s.heap.size ≤ q → A q) {idx ci n maxL h : Nat} {y : MethodName} {bytes : ByteArray} {ret : Option FieldType} {rm : Room} {As : List Value} (C : mmCV own idx ci y bytes maxL ret n) (hk : mK μ h = ci + 1)
    (hM : Met l y [.code y bytes maxL ret] rm (mmPc G A μ (rf h :: As)) (mmQ G A μ' none) 0 0 A) (hc : rm.cells = 0) (hs : rm.slots = 0) (hroom : rm.frames + 1 ≤ R.frames ∧ 8 + (maxL + 11) + rm.locals ≤ R.locals) (hn : As.length = n) (hl : ls.size = nL) (hst : st0 = As.reverse ++ rf h :: rest)
    (hW : 2 * (F0 m pc ls st0).monitorRoom + (rest.map fun v => v.category).sum ≤ 8) (hdg : decode cc pc = .ok (.invokevirtual idx, 3)) (hf : cells ≤ R.cells ∧ slots ≤ R.slots)
    (kk : ∀ (H1 : Heap) (locs1 : List Loc), mmR G A μ' H1 → va_S A s.heap H1 locs1 → W p l e R s m args below meth c H1 locs1 cells slots Q (F0 m (pc + 3) ls rest)) : W p l e R s m args below meth c H locs cells slots Q (F0 m pc ls st0) :=
  mm_callV S hR hS hA C hk hM hc hs hroom hn hl hst hW hdg hf (fun H1 locs1 a b _ => kk H1 locs1 a b)
theorem mm_callSi (S : mmS p m c cc nL s args own G) (hR : mmR G A μ H) (hS : va_S A s.heap H locs) (hA : ∀ q, s.heap.size ≤ q → A q) {idx n maxL : Nat} {y : MethodName} {bytes : ByteArray} {ret : Option FieldType} {rm : Room} {As : List Value} {r : Int32} (C : mmCS own idx y bytes maxL ret n)
    (hM : Met l y [.code y bytes maxL ret] rm (mmPc G A μ As) (mmQ G A μ' (some (.int r))) 0 0 A) (hc : rm.cells = 0) (hs : rm.slots = 0) (hroom : rm.frames + 1 ≤ R.frames ∧ 8 + (maxL + 11) + rm.locals ≤ R.locals) (hn : As.length = n) (hl : ls.size = nL) (hst : st0 = As.reverse ++ rest)
    (hW : 2 * (F0 m pc ls st0).monitorRoom + (rest.map fun v => v.category).sum ≤ 8) (hdg : decode cc pc = .ok (.invokestatic idx, 3)) (hf : cells ≤ R.cells ∧ slots ≤ R.slots)
    (kk : ∀ (H1 : Heap) (locs1 : List Loc), mmR G A μ' H1 → va_S A s.heap H1 locs1 → W p l e R s m args below meth c H1 locs1 cells slots Q (F0 m (pc + 3) ls (.int r :: rest))) : W p l e R s m args below meth c H locs cells slots Q (F0 m pc ls st0) :=
  mm_callS S hR hS hA C hM hc hs hroom hn hl hst hW hdg hf (fun H1 locs1 a b _ => kk H1 locs1 a b)
def mmCN (own : String) (idx : Nat) (host : String) (y : MethodName) (bytes : ByteArray) (maxL : Nat) (ret : Option FieldType) (n : Nat) : Prop :=
  Cond.methodLinkNest own idx y host ∈ WL ∧ Cond.static y ∈ WL ∧ Cond.initialized y.cls ∈ WL ∧ Cond.code y bytes maxL ret ∈ WL ∧ (Cond.code y bytes maxL ret).onTables = true ∧ (Cond.code y bytes maxL ret).keeps = true ∧
  (y.cls ≠ "java/lang/invoke/MethodHandle" ∧ y.cls ≠ "java/lang/invoke/VarHandle") ∧ (parseMethodDescriptor y.desc).map (fun d => d.parameters.length) = some n
theorem mm_callNi (S : mmS p m c cc nL s args own G) (hR : mmR G A μ H) (hS : va_S A s.heap H locs) (hA : ∀ q, s.heap.size ≤ q → A q) {idx n maxL : Nat} {host : String} {y : MethodName} {bytes : ByteArray} {ret : Option FieldType} {rm : Room} {As : List Value} {r : Int32} (C : mmCN own idx host y bytes maxL ret n)
    (hM : Met l y [.code y bytes maxL ret] rm (mmPc G A μ As) (mmQ G A μ' (some (.int r))) 0 0 A) (hc : rm.cells = 0) (hs : rm.slots = 0) (hroom : rm.frames + 1 ≤ R.frames ∧ 8 + (maxL + 11) + rm.locals ≤ R.locals) (hn : As.length = n) (hl : ls.size = nL) (hst : st0 = As.reverse ++ rest)
    (hW : 2 * (F0 m pc ls st0).monitorRoom + (rest.map fun v => v.category).sum ≤ 8) (hdg : decode cc pc = .ok (.invokestatic idx, 3)) (hf : cells ≤ R.cells ∧ slots ≤ R.slots)
    (kk : ∀ (H1 : Heap) (locs1 : List Loc), mmR G A μ' H1 → va_S A s.heap H1 locs1 → W p l e R s m args below meth c H1 locs1 cells slots Q (F0 m (pc + 3) ls (.int r :: rest))) : W p l e R s m args below meth c H locs cells slots Q (F0 m pc ls st0) := by
  obtain ⟨c1, c2, c4, c5, c6, c7, c8, c9⟩ := C
  have hts := S.2.2.2.2.1
  have hcw : va_CN R s args own idx y host bytes maxL ret [.code y bytes maxL ret] rm 0 0 n := by
    refine ⟨⟨hc, hs, hroom.1, hroom.2, fun w hw a' U hW => ?_, List.mem_cons_self⟩, hts _ c5, hts _ c4, c8, fun sig h => ?_, hts _ c1⟩
    · rw [List.mem_singleton.mp hw]
      exact word_at hW (Or.inl (by rw [c6, c7]; rfl)) (hts _ c5)
    · rw [h] at c9
      exact (Option.some.inj c9).symm
  exact mm_go (va_runSN (As := As) (rest := rest) ⟨S.1, S.2.1, S.2.2.1, S.2.2.2.1, S.2.2.2.2.1⟩ hM ⟨hcw, hts _ c2, trivial⟩ ⟨mmPc_blind, fun U hU hW => ⟨rfl, mm_w S hR hU hW, fun q hq => hA q (Nat.le_trans hS.1 (by rw [hU] at hq; exact hq))⟩⟩ rfl hn hl hst hW hdg hf) hS (fun H1 locs1 a b _ => kk H1 locs1 a b)
theorem mm_swL (S : mmS p m c cc nL s args own G) {dflt lo hi : Int} {offs : Array Int} {len : Nat} {x : Int32} {off : Int} {tgt : Nat} (vs : List Int32) (hdg : decode cc pc = .ok (.tableswitch dflt lo hi offs, len)) (hx : x ∈ vs) (hv : ∀ v ∈ vs, ¬ v.toInt < lo ∧ ¬ hi < v.toInt ∧ offs[(v.toInt - lo).toNat]? = some off) (ht : (pc : Int) + off = (tgt : Int))
    (k : W p l e R s m args below meth c H locs cells slots Q (F0 m tgt ls rest)) : W p l e R s m args below meth c H locs cells slots Q (F0 m pc ls (.int x :: rest)) :=
  lv_tableIn S.1 S.2.1 hdg (hv x hx).1 (hv x hx).2.1 (hv x hx).2.2 ht k
theorem mm_swD (S : mmS p m c cc nL s args own G) {dflt lo hi : Int} {offs : Array Int} {len : Nat} {x : Int32} {tgt : Nat} (vs : List Int32) (hdg : decode cc pc = .ok (.tableswitch dflt lo hi offs, len)) (hx : ∀ v ∈ vs, ¬ x = v) (hv : ∀ k : Nat, k < (hi - lo + 1).toNat → offs[k]? = some dflt ∨ Int32.ofInt (lo + k) ∈ vs) (ht : (pc : Int) + dflt = (tgt : Int))
    (k : W p l e R s m args below meth c H locs cells slots Q (F0 m tgt ls rest)) : W p l e R s m args below meth c H locs cells slots Q (F0 m pc ls (.int x :: rest)) := by
  by_cases h1 : x.toInt < lo
  · exact lv_tableOut S.1 S.2.1 hdg (Or.inl h1) ht k
  by_cases h2 : hi < x.toInt
  · exact lv_tableOut S.1 S.2.1 hdg (Or.inr h2) ht k
  rcases hv (x.toInt - lo).toNat (by omega) with h3 | h3
  · exact lv_tableIn S.1 S.2.1 hdg h1 h2 h3 ht k
  · have e : lo + ((x.toInt - lo).toNat : Int) = x.toInt := by omega
    rw [e, Int32.ofInt_toInt] at h3
    exact absurd rfl (hx x h3)
theorem nb_ok {v : Int32} (h : v = 0 ∨ v = 1) : narrow .boolean (.int v) = .int v := by rcases h with rfl | rfl <;> rfl
theorem fb_ok {v : Int32} (h : v = 0 ∨ v = 1) : fits .boolean (.int v) = true := by rcases h with rfl | rfl <;> rfl
theorem nr_ok {C : String} {v : Nat} : narrow (.object C) (rf v) = rf v := by cases v <;> rfl
theorem fr_ok {C : String} {v : Nat} : fits (.object C) (rf v) = true := by cases v <;> rfl
end MM4
def st {α β : Type} (x : α) (f : α → β) : β := f x
theorem stx {α β : Type} {x : α} {f : α → β} {r : β} (h : st x f = r) : ∃ y, y = x ∧ f y = r := ⟨x, rfl, h⟩
theorem it_or {α : Type} {P : Prop} [Decidable P] {a b x : α} (h : (if P then a else b) = x) : (P ∧ a = x) ∨ (¬ P ∧ b = x) := by
  by_cases hp : P
  · rw [if_pos hp] at h; exact Or.inl ⟨hp, h⟩
  · rw [if_neg hp] at h; exact Or.inr ⟨hp, h⟩
/-- kinds and lengths are the same -/
def mmKN (μ ν : MM) : Prop := mK ν = mK μ ∧ mN ν = mN μ
theorem mmKN.rf {μ : MM} : mmKN μ μ := ⟨rfl, rfl⟩
theorem mmKN.tr {μ ν ξ : MM} (h : mmKN μ ν) (k : mmKN ν ξ) : mmKN μ ξ := ⟨k.1.trans h.1, k.2.trans h.2⟩
theorem mmKN.sI {μ ν : MM} (h : mmKN μ ν) {a j : Nat} {v : Int32} : mmKN μ (sI ν a j v) := h
theorem mmKN.sP {μ ν : MM} (h : mmKN μ ν) {a j v : Nat} : mmKN μ (sP ν a j v) := h
theorem mmKN.sC {μ ν : MM} (h : mmKN μ ν) {a j v : Nat} : mmKN μ (sC ν a j v) := h
theorem mmKN.k {μ ν : MM} (h : mmKN μ ν) {a k : Nat} (g : mK μ a = k) : mK ν a = k := by rw [h.1]; exact g
/-- how many turns a loop is let -/
def FU : Nat := 20000
end
section
theorem int_cat (x : Int32) : (Value.int x).category = 1 := rfl
abbrev mmGoal (p : Program) (l : Launch) (e : Env) (rm : Room) (s : State) (m : MethodId) (args : Array Value) (below : List Frame) (meth : Method) (c : Code) (G : mmG) (A : Nat → Prop) (pc nL : Nat) (lv : List (Nat × Value)) (μ : MM) (Qc : Array Value → State → Outcome → State → Prop) : Prop :=
  ∀ (H : Heap) (locs : List Loc) (ls : Array Slot), mmR G A μ H → va_S A s.heap H locs → lv_has ls nL lv → W p l e rm s m args below meth c H locs 0 0 (MQ below Qc args s 0 0 A) (F0 m pc ls [])
theorem wsX4_in : ∀ w ∈ u_ws RX4 TX4 2, w ∈ WL := fun w hw => List.mem_filter.mpr ((show ∀ w ∈ u_ws RX4 TX4 2, w ∈ lw_tbl ∧ mmGood w = true by decide +kernel) w hw)
theorem fdX4_15 : mmFd RX4 15 4 1 := ⟨RX4, TX4, 2, rfl, by decide, by decide, rfl, wsX4_in, (Or.inl (wl_t 186 (by decide +kernel) (by decide +kernel)))⟩
theorem fdX4_9 : mmFd RX4 9 4 0 := ⟨RX4, TX4, 2, rfl, by decide, by decide, rfl, wsX4_in, (Or.inl (wl_t 185 (by decide +kernel) (by decide +kernel)))⟩
theorem cvX4_19 : mmCV RX4 19 4 yX4_numberAt cX4_numberAt 2 (some (.int)) 1 := ⟨TX4, 2, rfl, by decide, (wl_t 666 (by decide +kernel) (by decide +kernel)), (wl_t 667 (by decide +kernel) (by decide +kernel)), (wl_t 668 (by decide +kernel) (by decide +kernel)), (wl_t 7 (by decide +kernel) (by decide +kernel)), (wl_t 669 (by decide +kernel) (by decide +kernel)), rfl, rfl, ⟨by decide +kernel, by decide +kernel⟩, by decide +kernel⟩
theorem fpX4_15 : mmFp RX4 15 4 1 (.int) := ⟨RX4, TX4, 2, tyX4, rfl, by decide, by decide, rfl, wsX4_in, (Or.inl (wl_t 186 (by decide +kernel) (by decide +kernel))), tyX4_ok, nmX4, rfl, by decide +kernel⟩
theorem cpX4_23 : mmCp RX4 23 := ⟨(wl_t 458 (by decide +kernel) (by decide +kernel)), (wl_t 460 (by decide +kernel) (by decide +kernel)), (wl_t 459 (by decide +kernel) (by decide +kernel)), (wl_t 16 (by decide +kernel) (by decide +kernel))⟩
theorem wsX5_in : ∀ w ∈ u_ws RX5 TX5 3, w ∈ WL := fun w hw => List.mem_filter.mpr ((show ∀ w ∈ u_ws RX5 TX5 3, w ∈ lw_tbl ∧ mmGood w = true by decide +kernel) w hw)
theorem fdX5_18 : mmFd RX5 18 5 2 := ⟨RX5, TX5, 3, rfl, by decide, by decide, rfl, wsX5_in, (Or.inl (wl_t 87 (by decide +kernel) (by decide +kernel)))⟩
theorem cvX5_22 : mmCV RX5 22 5 yX5_has cX5_has 2 (some (.boolean)) 1 := ⟨TX5, 3, rfl, by decide, (wl_t 436 (by decide +kernel) (by decide +kernel)), (wl_t 428 (by decide +kernel) (by decide +kernel)), (wl_t 429 (by decide +kernel) (by decide +kernel)), (wl_t 6 (by decide +kernel) (by decide +kernel)), (wl_t 430 (by decide +kernel) (by decide +kernel)), rfl, rfl, ⟨by decide +kernel, by decide +kernel⟩, by decide +kernel⟩
theorem fdX5_9 : mmFd RX5 9 5 0 := ⟨RX5, TX5, 3, rfl, by decide, by decide, rfl, wsX5_in, (Or.inl (wl_t 85 (by decide +kernel) (by decide +kernel)))⟩
theorem fdX5_15 : mmFd RX5 15 5 1 := ⟨RX5, TX5, 3, rfl, by decide, by decide, rfl, wsX5_in, (Or.inl (wl_t 86 (by decide +kernel) (by decide +kernel)))⟩
theorem fpX5_18 : mmFp RX5 18 5 2 (.int) := ⟨RX5, TX5, 3, tyX5, rfl, by decide, by decide, rfl, wsX5_in, (Or.inl (wl_t 87 (by decide +kernel) (by decide +kernel))), tyX5_ok, nmX5, rfl, by decide +kernel⟩
theorem cpX5_26 : mmCp RX5 26 := ⟨(wl_t 470 (by decide +kernel) (by decide +kernel)), (wl_t 460 (by decide +kernel) (by decide +kernel)), (wl_t 459 (by decide +kernel) (by decide +kernel)), (wl_t 16 (by decide +kernel) (by decide +kernel))⟩
theorem wsX1_in : ∀ w ∈ u_ws RX1 TX1 4, w ∈ WL := fun w hw => List.mem_filter.mpr ((show ∀ w ∈ u_ws RX1 TX1 4, w ∈ lw_tbl ∧ mmGood w = true by decide +kernel) w hw)
theorem fdX1_21 : mmFd RX1 21 1 3 := ⟨RX1, TX1, 4, rfl, by decide, by decide, rfl, wsX1_in, (Or.inl (wl_t 43 (by decide +kernel) (by decide +kernel)))⟩
theorem cvX1_25 : mmCV RX1 25 1 yX1_hasLine cX1_hasLine 2 (some (.boolean)) 1 := ⟨TX1, 4, rfl, by decide, (wl_t 398 (by decide +kernel) (by decide +kernel)), (wl_t 399 (by decide +kernel) (by decide +kernel)), (wl_t 400 (by decide +kernel) (by decide +kernel)), (wl_t 3 (by decide +kernel) (by decide +kernel)), (wl_t 401 (by decide +kernel) (by decide +kernel)), rfl, rfl, ⟨by decide +kernel, by decide +kernel⟩, by decide +kernel⟩
theorem fdX1_9 : mmFd RX1 9 1 0 := ⟨RX1, TX1, 4, rfl, by decide, by decide, rfl, wsX1_in, (Or.inl (wl_t 40 (by decide +kernel) (by decide +kernel)))⟩
theorem fdX1_15 : mmFd RX1 15 1 1 := ⟨RX1, TX1, 4, rfl, by decide, by decide, rfl, wsX1_in, (Or.inl (wl_t 41 (by decide +kernel) (by decide +kernel)))⟩
theorem fdX1_18 : mmFd RX1 18 1 2 := ⟨RX1, TX1, 4, rfl, by decide, by decide, rfl, wsX1_in, (Or.inl (wl_t 42 (by decide +kernel) (by decide +kernel)))⟩
theorem csX1_29 : mmCN RX1 29 "YieldMoor" yX6_within cX6_within 3 (some (.boolean)) 3 := ⟨(wl_t 779 (by decide +kernel) (by decide +kernel)), (wl_t 416 (by decide +kernel) (by decide +kernel)), (wl_t 1 (by decide +kernel) (by decide +kernel)), (wl_t 417 (by decide +kernel) (by decide +kernel)), rfl, rfl, ⟨by decide +kernel, by decide +kernel⟩, by decide +kernel⟩
theorem fpX1_21 : mmFp RX1 21 1 3 (.int) := ⟨RX1, TX1, 4, tyX1, rfl, by decide, by decide, rfl, wsX1_in, (Or.inl (wl_t 43 (by decide +kernel) (by decide +kernel))), tyX1_ok, nmX1, rfl, by decide +kernel⟩
theorem cvX1_37 : mmCV RX1 37 1 yX1_kindAt cX1_kindAt 2 (some (.int)) 1 := ⟨TX1, 4, rfl, by decide, (wl_t 394 (by decide +kernel) (by decide +kernel)), (wl_t 395 (by decide +kernel) (by decide +kernel)), (wl_t 396 (by decide +kernel) (by decide +kernel)), (wl_t 3 (by decide +kernel) (by decide +kernel)), (wl_t 397 (by decide +kernel) (by decide +kernel)), rfl, rfl, ⟨by decide +kernel, by decide +kernel⟩, by decide +kernel⟩
theorem cvX1_43 : mmCV RX1 43 1 yX1_bAt cX1_bAt 2 (some (.int)) 1 := ⟨TX1, 4, rfl, by decide, (wl_t 402 (by decide +kernel) (by decide +kernel)), (wl_t 403 (by decide +kernel) (by decide +kernel)), (wl_t 404 (by decide +kernel) (by decide +kernel)), (wl_t 3 (by decide +kernel) (by decide +kernel)), (wl_t 405 (by decide +kernel) (by decide +kernel)), rfl, rfl, ⟨by decide +kernel, by decide +kernel⟩, by decide +kernel⟩
theorem csX1_40 : mmCS RX1 40 yX1_isWait cX1_isWait 1 (some (.boolean)) 1 := ⟨(wl_t 406 (by decide +kernel) (by decide +kernel)), (wl_t 407 (by decide +kernel) (by decide +kernel)), (wl_t 3 (by decide +kernel) (by decide +kernel)), (wl_t 408 (by decide +kernel) (by decide +kernel)), rfl, rfl, ⟨by decide +kernel, by decide +kernel⟩, by decide +kernel⟩
theorem cvX1_33 : mmCV RX1 33 1 yX1_nextOf cX1_nextOf 3 (some (.int)) 1 := ⟨TX1, 4, rfl, by decide, (wl_t 390 (by decide +kernel) (by decide +kernel)), (wl_t 392 (by decide +kernel) (by decide +kernel)), (wl_s 1 (by decide +kernel) (by decide +kernel)), (wl_t 3 (by decide +kernel) (by decide +kernel)), (wl_t 393 (by decide +kernel) (by decide +kernel)), rfl, rfl, ⟨by decide +kernel, by decide +kernel⟩, by decide +kernel⟩
theorem wsX0_in : ∀ w ∈ u_ws RX0 TX0 3, w ∈ WL := fun w hw => List.mem_filter.mpr ((show ∀ w ∈ u_ws RX0 TX0 3, w ∈ lw_tbl ∧ mmGood w = true by decide +kernel) w hw)
theorem fdX0_22 : mmFd RX0 22 0 2 := ⟨RX0, TX0, 3, rfl, by decide, by decide, rfl, wsX0_in, (Or.inl (wl_t 58 (by decide +kernel) (by decide +kernel)))⟩
theorem fdX0_18 : mmFd RX0 18 0 1 := ⟨RX0, TX0, 3, rfl, by decide, by decide, rfl, wsX0_in, (Or.inl (wl_t 56 (by decide +kernel) (by decide +kernel)))⟩
theorem fdX0_11 : mmFd RX0 11 0 0 := ⟨RX0, TX0, 3, rfl, by decide, by decide, rfl, wsX0_in, (Or.inl (wl_t 55 (by decide +kernel) (by decide +kernel)))⟩
theorem fpX0_22 : mmFp RX0 22 0 2 (.int) := ⟨RX0, TX0, 3, tyX0, rfl, by decide, by decide, rfl, wsX0_in, (Or.inl (wl_t 58 (by decide +kernel) (by decide +kernel))), tyX0_ok, nmX0, rfl, by decide +kernel⟩
theorem wsX2_in : ∀ w ∈ u_ws RX2 TX2 17, w ∈ WL := fun w hw => List.mem_filter.mpr ((show ∀ w ∈ u_ws RX2 TX2 17, w ∈ lw_tbl ∧ mmGood w = true by decide +kernel) w hw)
theorem fdX2_18 : mmFd RX2 18 2 2 := ⟨RX2, TX2, 17, rfl, by decide, by decide, rfl, wsX2_in, (Or.inl (wl_t 102 (by decide +kernel) (by decide +kernel)))⟩
theorem fdX2_26 : mmFd RX2 26 5 2 := ⟨RX5, TX5, 3, rfl, by decide, by decide, rfl, wsX5_in, (Or.inr ⟨"YieldMoor", (wl_t 88 (by decide +kernel) (by decide +kernel))⟩)⟩
theorem fpX2_26 : mmFp RX2 26 5 2 (.int) := ⟨RX5, TX5, 3, tyX5, rfl, by decide, by decide, rfl, wsX5_in, (Or.inr ⟨"YieldMoor", (wl_t 88 (by decide +kernel) (by decide +kernel))⟩), tyX5_ok, nmX5, rfl, by decide +kernel⟩
theorem fdX2_29 : mmFd RX2 29 2 3 := ⟨RX2, TX2, 17, rfl, by decide, by decide, rfl, wsX2_in, (Or.inl (wl_t 105 (by decide +kernel) (by decide +kernel)))⟩
theorem fpX2_29 : mmFp RX2 29 2 3 (.int) := ⟨RX2, TX2, 17, tyX2, rfl, by decide, by decide, rfl, wsX2_in, (Or.inl (wl_t 105 (by decide +kernel) (by decide +kernel))), tyX2_ok, nmX2, rfl, by decide +kernel⟩
theorem fdX2_32 : mmFd RX2 32 2 4 := ⟨RX2, TX2, 17, rfl, by decide, by decide, rfl, wsX2_in, (Or.inl (wl_t 108 (by decide +kernel) (by decide +kernel)))⟩
theorem fpX2_32 : mmFp RX2 32 2 4 (.int) := ⟨RX2, TX2, 17, tyX2, rfl, by decide, by decide, rfl, wsX2_in, (Or.inl (wl_t 108 (by decide +kernel) (by decide +kernel))), tyX2_ok, nmX2, rfl, by decide +kernel⟩
theorem fdX2_35 : mmFd RX2 35 2 5 := ⟨RX2, TX2, 17, rfl, by decide, by decide, rfl, wsX2_in, (Or.inl (wl_t 111 (by decide +kernel) (by decide +kernel)))⟩
theorem fpX2_35 : mmFp RX2 35 2 5 (.int) := ⟨RX2, TX2, 17, tyX2, rfl, by decide, by decide, rfl, wsX2_in, (Or.inl (wl_t 111 (by decide +kernel) (by decide +kernel))), tyX2_ok, nmX2, rfl, by decide +kernel⟩
theorem fdX2_38 : mmFd RX2 38 2 6 := ⟨RX2, TX2, 17, rfl, by decide, by decide, rfl, wsX2_in, (Or.inl (wl_t 114 (by decide +kernel) (by decide +kernel)))⟩
theorem fpX2_38 : mmFp RX2 38 2 6 (.int) := ⟨RX2, TX2, 17, tyX2, rfl, by decide, by decide, rfl, wsX2_in, (Or.inl (wl_t 114 (by decide +kernel) (by decide +kernel))), tyX2_ok, nmX2, rfl, by decide +kernel⟩
theorem fdX2_41 : mmFd RX2 41 2 7 := ⟨RX2, TX2, 17, rfl, by decide, by decide, rfl, wsX2_in, (Or.inl (wl_t 117 (by decide +kernel) (by decide +kernel)))⟩
theorem fpX2_41 : mmFp RX2 41 2 7 (.int) := ⟨RX2, TX2, 17, tyX2, rfl, by decide, by decide, rfl, wsX2_in, (Or.inl (wl_t 117 (by decide +kernel) (by decide +kernel))), tyX2_ok, nmX2, rfl, by decide +kernel⟩
theorem fdX2_44 : mmFd RX2 44 2 9 := ⟨RX2, TX2, 17, rfl, by decide, by decide, rfl, wsX2_in, (Or.inl (wl_t 121 (by decide +kernel) (by decide +kernel)))⟩
theorem fpX2_44 : mmFp RX2 44 2 9 (.int) := ⟨RX2, TX2, 17, tyX2, rfl, by decide, by decide, rfl, wsX2_in, (Or.inl (wl_t 121 (by decide +kernel) (by decide +kernel))), tyX2_ok, nmX2, rfl, by decide +kernel⟩
theorem fdX2_47 : mmFd RX2 47 2 10 := ⟨RX2, TX2, 17, rfl, by decide, by decide, rfl, wsX2_in, (Or.inl (wl_t 124 (by decide +kernel) (by decide +kernel)))⟩
theorem fpX2_47 : mmFp RX2 47 2 10 (.int) := ⟨RX2, TX2, 17, tyX2, rfl, by decide, by decide, rfl, wsX2_in, (Or.inl (wl_t 124 (by decide +kernel) (by decide +kernel))), tyX2_ok, nmX2, rfl, by decide +kernel⟩
theorem fdX2_50 : mmFd RX2 50 2 11 := ⟨RX2, TX2, 17, rfl, by decide, by decide, rfl, wsX2_in, (Or.inl (wl_t 126 (by decide +kernel) (by decide +kernel)))⟩
theorem fpX2_50 : mmFp RX2 50 2 11 (.int) := ⟨RX2, TX2, 17, tyX2, rfl, by decide, by decide, rfl, wsX2_in, (Or.inl (wl_t 126 (by decide +kernel) (by decide +kernel))), tyX2_ok, nmX2, rfl, by decide +kernel⟩
theorem fdX2_53 : mmFd RX2 53 2 12 := ⟨RX2, TX2, 17, rfl, by decide, by decide, rfl, wsX2_in, (Or.inl (wl_t 129 (by decide +kernel) (by decide +kernel)))⟩
theorem fpX2_53 : mmFp RX2 53 2 12 (.int) := ⟨RX2, TX2, 17, tyX2, rfl, by decide, by decide, rfl, wsX2_in, (Or.inl (wl_t 129 (by decide +kernel) (by decide +kernel))), tyX2_ok, nmX2, rfl, by decide +kernel⟩
theorem fdX2_56 : mmFd RX2 56 2 13 := ⟨RX2, TX2, 17, rfl, by decide, by decide, rfl, wsX2_in, (Or.inl (wl_t 132 (by decide +kernel) (by decide +kernel)))⟩
theorem fpX2_56 : mmFp RX2 56 2 13 (.int) := ⟨RX2, TX2, 17, tyX2, rfl, by decide, by decide, rfl, wsX2_in, (Or.inl (wl_t 132 (by decide +kernel) (by decide +kernel))), tyX2_ok, nmX2, rfl, by decide +kernel⟩
theorem fdX2_59 : mmFd RX2 59 2 14 := ⟨RX2, TX2, 17, rfl, by decide, by decide, rfl, wsX2_in, (Or.inl (wl_t 135 (by decide +kernel) (by decide +kernel)))⟩
theorem fpX2_59 : mmFp RX2 59 2 14 (.int) := ⟨RX2, TX2, 17, tyX2, rfl, by decide, by decide, rfl, wsX2_in, (Or.inl (wl_t 135 (by decide +kernel) (by decide +kernel))), tyX2_ok, nmX2, rfl, by decide +kernel⟩
theorem fdX2_62 : mmFd RX2 62 2 15 := ⟨RX2, TX2, 17, rfl, by decide, by decide, rfl, wsX2_in, (Or.inl (wl_t 138 (by decide +kernel) (by decide +kernel)))⟩
theorem fpX2_62 : mmFp RX2 62 2 15 (.boolean) := ⟨RX2, TX2, 17, tyX2, rfl, by decide, by decide, rfl, wsX2_in, (Or.inl (wl_t 138 (by decide +kernel) (by decide +kernel))), tyX2_ok, nmX2, rfl, by decide +kernel⟩
theorem fdX2_66 : mmFd RX2 66 2 16 := ⟨RX2, TX2, 17, rfl, by decide, by decide, rfl, wsX2_in, (Or.inl (wl_t 141 (by decide +kernel) (by decide +kernel)))⟩
theorem fpX2_66 : mmFp RX2 66 2 16 (.int) := ⟨RX2, TX2, 17, tyX2, rfl, by decide, by decide, rfl, wsX2_in, (Or.inl (wl_t 141 (by decide +kernel) (by decide +kernel))), tyX2_ok, nmX2, rfl, by decide +kernel⟩
theorem fdX2_9 : mmFd RX2 9 2 1 := ⟨RX2, TX2, 17, rfl, by decide, by decide, rfl, wsX2_in, (Or.inl (wl_t 101 (by decide +kernel) (by decide +kernel)))⟩
theorem cpX2_69 : mmCp RX2 69 := ⟨(wl_t 465 (by decide +kernel) (by decide +kernel)), (wl_t 460 (by decide +kernel) (by decide +kernel)), (wl_t 459 (by decide +kernel) (by decide +kernel)), (wl_t 16 (by decide +kernel) (by decide +kernel))⟩
theorem cvX2_75 : mmCV RX2 75 5 yX5_copyFrom cX5_copyFrom 2 none 1 := ⟨TX5, 3, rfl, by decide, (wl_t 466 (by decide +kernel) (by decide +kernel)), (wl_t 467 (by decide +kernel) (by decide +kernel)), (wl_t 468 (by decide +kernel) (by decide +kernel)), (wl_t 6 (by decide +kernel) (by decide +kernel)), (wl_t 469 (by decide +kernel) (by decide +kernel)), rfl, rfl, ⟨by decide +kernel, by decide +kernel⟩, by decide +kernel⟩
theorem fdX2_79 : mmFd RX2 79 2 8 := ⟨RX2, TX2, 17, rfl, by decide, by decide, rfl, wsX2_in, (Or.inl (wl_t 120 (by decide +kernel) (by decide +kernel)))⟩
theorem fpX2_79 : mmFp RX2 79 2 8 (.int) := ⟨RX2, TX2, 17, tyX2, rfl, by decide, by decide, rfl, wsX2_in, (Or.inl (wl_t 120 (by decide +kernel) (by decide +kernel))), tyX2_ok, nmX2, rfl, by decide +kernel⟩
theorem cvX2_104 : mmCV RX2 104 2 yX2_end cX2_end 3 none 2 := ⟨TX2, 17, rfl, by decide, (wl_t 524 (by decide +kernel) (by decide +kernel)), (wl_t 525 (by decide +kernel) (by decide +kernel)), (wl_t 526 (by decide +kernel) (by decide +kernel)), (wl_t 5 (by decide +kernel) (by decide +kernel)), (wl_t 527 (by decide +kernel) (by decide +kernel)), rfl, rfl, ⟨by decide +kernel, by decide +kernel⟩, by decide +kernel⟩
theorem cvX2_82 : mmCV RX2 82 5 yX5_lastSign cX5_lastSign 1 (some (.int)) 0 := ⟨TX5, 3, rfl, by decide, (wl_t 506 (by decide +kernel) (by decide +kernel)), (wl_t 507 (by decide +kernel) (by decide +kernel)), (wl_t 508 (by decide +kernel) (by decide +kernel)), (wl_t 6 (by decide +kernel) (by decide +kernel)), (wl_t 509 (by decide +kernel) (by decide +kernel)), rfl, rfl, ⟨by decide +kernel, by decide +kernel⟩, by decide +kernel⟩
theorem cvX2_86 : mmCV RX2 86 5 yX5_lastMark cX5_lastMark 1 (some (.int)) 0 := ⟨TX5, 3, rfl, by decide, (wl_t 510 (by decide +kernel) (by decide +kernel)), (wl_t 511 (by decide +kernel) (by decide +kernel)), (wl_t 512 (by decide +kernel) (by decide +kernel)), (wl_t 6 (by decide +kernel) (by decide +kernel)), (wl_t 513 (by decide +kernel) (by decide +kernel)), rfl, rfl, ⟨by decide +kernel, by decide +kernel⟩, by decide +kernel⟩
theorem cvX2_89 : mmCV RX2 89 5 yX5_takeOff cX5_takeOff 1 none 0 := ⟨TX5, 3, rfl, by decide, (wl_t 514 (by decide +kernel) (by decide +kernel)), (wl_t 515 (by decide +kernel) (by decide +kernel)), (wl_t 516 (by decide +kernel) (by decide +kernel)), (wl_t 6 (by decide +kernel) (by decide +kernel)), (wl_t 517 (by decide +kernel) (by decide +kernel)), rfl, rfl, ⟨by decide +kernel, by decide +kernel⟩, by decide +kernel⟩
theorem csX2_100 : mmCN RX2 100 "YieldMoor" yX6_within cX6_within 3 (some (.boolean)) 3 := ⟨(wl_t 523 (by decide +kernel) (by decide +kernel)), (wl_t 416 (by decide +kernel) (by decide +kernel)), (wl_t 1 (by decide +kernel) (by decide +kernel)), (wl_t 417 (by decide +kernel) (by decide +kernel)), rfl, rfl, ⟨by decide +kernel, by decide +kernel⟩, by decide +kernel⟩
theorem cvX2_96 : mmCV RX2 96 2 yX2_goOnAt cX2_goOnAt 2 none 1 := ⟨TX2, 17, rfl, by decide, (wl_t 522 (by decide +kernel) (by decide +kernel)), (wl_t 485 (by decide +kernel) (by decide +kernel)), (wl_t 486 (by decide +kernel) (by decide +kernel)), (wl_t 5 (by decide +kernel) (by decide +kernel)), (wl_t 487 (by decide +kernel) (by decide +kernel)), rfl, rfl, ⟨by decide +kernel, by decide +kernel⟩, by decide +kernel⟩
theorem cvX2_92 : mmCV RX2 92 5 yX5_put cX5_put 3 none 2 := ⟨TX5, 3, rfl, by decide, (wl_t 518 (by decide +kernel) (by decide +kernel)), (wl_t 519 (by decide +kernel) (by decide +kernel)), (wl_t 520 (by decide +kernel) (by decide +kernel)), (wl_t 6 (by decide +kernel) (by decide +kernel)), (wl_t 521 (by decide +kernel) (by decide +kernel)), rfl, rfl, ⟨by decide +kernel, by decide +kernel⟩, by decide +kernel⟩
theorem mnX2_107 : mmMn RX2 107 := ⟨(wl_t 620 (by decide +kernel) (by decide +kernel)), (wl_t 598 (by decide +kernel) (by decide +kernel)), (wl_t 13 (by decide +kernel) (by decide +kernel)), (wl_t 599 (by decide +kernel) (by decide +kernel))⟩
theorem mnX2_113 : mmMx RX2 113 := ⟨(wl_t 621 (by decide +kernel) (by decide +kernel)), (wl_t 613 (by decide +kernel) (by decide +kernel)), (wl_t 13 (by decide +kernel) (by decide +kernel)), (wl_t 614 (by decide +kernel) (by decide +kernel))⟩
theorem cvX2_116 : mmCV RX2 116 2 yX2_localAt cX2_localAt 2 (some (.int)) 1 := ⟨TX2, 17, rfl, by decide, (wl_t 622 (by decide +kernel) (by decide +kernel)), (wl_t 420 (by decide +kernel) (by decide +kernel)), (wl_t 421 (by decide +kernel) (by decide +kernel)), (wl_t 5 (by decide +kernel) (by decide +kernel)), (wl_t 422 (by decide +kernel) (by decide +kernel)), rfl, rfl, ⟨by decide +kernel, by decide +kernel⟩, by decide +kernel⟩
theorem cvX2_120 : mmCV RX2 120 2 yX2_setLocal cX2_setLocal 3 none 2 := ⟨TX2, 17, rfl, by decide, (wl_t 623 (by decide +kernel) (by decide +kernel)), (wl_t 625 (by decide +kernel) (by decide +kernel)), (wl_s 20 (by decide +kernel) (by decide +kernel)), (wl_t 5 (by decide +kernel) (by decide +kernel)), (wl_t 626 (by decide +kernel) (by decide +kernel)), rfl, rfl, ⟨by decide +kernel, by decide +kernel⟩, by decide +kernel⟩
theorem cvX2_123 : mmCV RX2 123 5 yX5_isFull cX5_isFull 1 (some (.boolean)) 0 := ⟨TX5, 3, rfl, by decide, (wl_t 627 (by decide +kernel) (by decide +kernel)), (wl_t 628 (by decide +kernel) (by decide +kernel)), (wl_t 629 (by decide +kernel) (by decide +kernel)), (wl_t 6 (by decide +kernel) (by decide +kernel)), (wl_t 630 (by decide +kernel) (by decide +kernel)), rfl, rfl, ⟨by decide +kernel, by decide +kernel⟩, by decide +kernel⟩
theorem cvX2_127 : mmCV RX2 127 2 yX2_doDone cX2_doDone 4 (some (.int)) 1 := ⟨TX2, 17, rfl, by decide, (wl_t 631 (by decide +kernel) (by decide +kernel)), (wl_t 633 (by decide +kernel) (by decide +kernel)), (wl_s 21 (by decide +kernel) (by decide +kernel)), (wl_t 5 (by decide +kernel) (by decide +kernel)), (wl_t 634 (by decide +kernel) (by decide +kernel)), rfl, rfl, ⟨by decide +kernel, by decide +kernel⟩, by decide +kernel⟩
theorem cvX2_130 : mmCV RX2 130 2 yX2_doLast cX2_doLast 3 (some (.int)) 0 := ⟨TX2, 17, rfl, by decide, (wl_t 635 (by decide +kernel) (by decide +kernel)), (wl_t 637 (by decide +kernel) (by decide +kernel)), (wl_s 22 (by decide +kernel) (by decide +kernel)), (wl_t 5 (by decide +kernel) (by decide +kernel)), (wl_t 638 (by decide +kernel) (by decide +kernel)), rfl, rfl, ⟨by decide +kernel, by decide +kernel⟩, by decide +kernel⟩
theorem cvX2_133 : mmCV RX2 133 2 yX2_beginReturn cX2_beginReturn 1 (some (.int)) 0 := ⟨TX2, 17, rfl, by decide, (wl_t 639 (by decide +kernel) (by decide +kernel)), (wl_t 535 (by decide +kernel) (by decide +kernel)), (wl_t 536 (by decide +kernel) (by decide +kernel)), (wl_t 5 (by decide +kernel) (by decide +kernel)), (wl_t 537 (by decide +kernel) (by decide +kernel)), rfl, rfl, ⟨by decide +kernel, by decide +kernel⟩, by decide +kernel⟩
theorem wsX3_in : ∀ w ∈ u_ws RX3 TX3 13, w ∈ WL := fun w hw => List.mem_filter.mpr ((show ∀ w ∈ u_ws RX3 TX3 13, w ∈ lw_tbl ∧ mmGood w = true by decide +kernel) w hw)
theorem fdX3_20 : mmFd RX3 20 3 2 := ⟨RX3, TX3, 13, rfl, by decide, by decide, rfl, wsX3_in, (Or.inl (wl_t 196 (by decide +kernel) (by decide +kernel)))⟩
theorem fdX3_11 : mmFd RX3 11 3 1 := ⟨RX3, TX3, 13, rfl, by decide, by decide, rfl, wsX3_in, (Or.inl (wl_t 195 (by decide +kernel) (by decide +kernel)))⟩
theorem fdX3_41 : mmFd RX3 41 3 5 := ⟨RX3, TX3, 13, rfl, by decide, by decide, rfl, wsX3_in, (Or.inl (wl_t 200 (by decide +kernel) (by decide +kernel)))⟩
theorem cvX3_55 : mmCV RX3 55 3 yX3_at cX3_at 2 (some (.object "YieldMoor$Coroutine")) 1 := ⟨TX3, 13, rfl, by decide, (wl_t 352 (by decide +kernel) (by decide +kernel)), (wl_t 325 (by decide +kernel) (by decide +kernel)), (wl_t 326 (by decide +kernel) (by decide +kernel)), (wl_t 4 (by decide +kernel) (by decide +kernel)), (wl_t 327 (by decide +kernel) (by decide +kernel)), rfl, rfl, ⟨by decide +kernel, by decide +kernel⟩, by decide +kernel⟩
theorem fdX3_62 : mmFd RX3 62 2 4 := ⟨RX2, TX2, 17, rfl, by decide, by decide, rfl, wsX2_in, (Or.inr ⟨"YieldMoor", (wl_t 109 (by decide +kernel) (by decide +kernel))⟩)⟩
theorem fdX3_65 : mmFd RX3 65 2 3 := ⟨RX2, TX2, 17, rfl, by decide, by decide, rfl, wsX2_in, (Or.inr ⟨"YieldMoor", (wl_t 106 (by decide +kernel) (by decide +kernel))⟩)⟩
theorem fdX3_68 : mmFd RX3 68 2 5 := ⟨RX2, TX2, 17, rfl, by decide, by decide, rfl, wsX2_in, (Or.inr ⟨"YieldMoor", (wl_t 112 (by decide +kernel) (by decide +kernel))⟩)⟩
theorem cvX3_71 : mmCV RX3 71 2 yX2_isOver cX2_isOver 1 (some (.boolean)) 0 := ⟨TX2, 17, rfl, by decide, (wl_t 493 (by decide +kernel) (by decide +kernel)), (wl_t 447 (by decide +kernel) (by decide +kernel)), (wl_t 448 (by decide +kernel) (by decide +kernel)), (wl_t 5 (by decide +kernel) (by decide +kernel)), (wl_t 449 (by decide +kernel) (by decide +kernel)), rfl, rfl, ⟨by decide +kernel, by decide +kernel⟩, by decide +kernel⟩
theorem fdX3_31 : mmFd RX3 31 3 4 := ⟨RX3, TX3, 13, rfl, by decide, by decide, rfl, wsX3_in, (Or.inl (wl_t 199 (by decide +kernel) (by decide +kernel)))⟩
theorem fdX3_75 : mmFd RX3 75 4 1 := ⟨RX4, TX4, 2, rfl, by decide, by decide, rfl, wsX4_in, (Or.inr ⟨"YieldMoor", (wl_t 187 (by decide +kernel) (by decide +kernel))⟩)⟩
theorem cvX3_78 : mmCV RX3 78 4 yX4_numberAt cX4_numberAt 2 (some (.int)) 1 := ⟨TX4, 2, rfl, by decide, (wl_t 674 (by decide +kernel) (by decide +kernel)), (wl_t 667 (by decide +kernel) (by decide +kernel)), (wl_t 668 (by decide +kernel) (by decide +kernel)), (wl_t 7 (by decide +kernel) (by decide +kernel)), (wl_t 669 (by decide +kernel) (by decide +kernel)), rfl, rfl, ⟨by decide +kernel, by decide +kernel⟩, by decide +kernel⟩
theorem fdX3_82 : mmFd RX3 82 2 13 := ⟨RX2, TX2, 17, rfl, by decide, by decide, rfl, wsX2_in, (Or.inr ⟨"YieldMoor", (wl_t 133 (by decide +kernel) (by decide +kernel))⟩)⟩
theorem fdX3_85 : mmFd RX3 85 2 11 := ⟨RX2, TX2, 17, rfl, by decide, by decide, rfl, wsX2_in, (Or.inr ⟨"YieldMoor", (wl_t 127 (by decide +kernel) (by decide +kernel))⟩)⟩
theorem fdX3_34 : mmFd RX3 34 3 0 := ⟨RX3, TX3, 13, rfl, by decide, by decide, rfl, wsX3_in, (Or.inl (wl_t 194 (by decide +kernel) (by decide +kernel)))⟩
theorem cvX3_88 : mmCV RX3 88 0 yX0_has cX0_has 2 (some (.boolean)) 1 := ⟨TX0, 3, rfl, by decide, (wl_t 571 (by decide +kernel) (by decide +kernel)), (wl_t 374 (by decide +kernel) (by decide +kernel)), (wl_t 375 (by decide +kernel) (by decide +kernel)), (wl_t 2 (by decide +kernel) (by decide +kernel)), (wl_t 376 (by decide +kernel) (by decide +kernel)), rfl, rfl, ⟨by decide +kernel, by decide +kernel⟩, by decide +kernel⟩
theorem cvX3_94 : mmCV RX3 94 3 yX3_isFull cX3_isFull 1 (some (.boolean)) 0 := ⟨TX3, 13, rfl, by decide, (wl_t 572 (by decide +kernel) (by decide +kernel)), (wl_t 573 (by decide +kernel) (by decide +kernel)), (wl_t 574 (by decide +kernel) (by decide +kernel)), (wl_t 4 (by decide +kernel) (by decide +kernel)), (wl_t 575 (by decide +kernel) (by decide +kernel)), rfl, rfl, ⟨by decide +kernel, by decide +kernel⟩, by decide +kernel⟩
theorem cvX3_97 : mmCV RX3 97 2 yX2_becomeNew cX2_becomeNew 5 none 3 := ⟨TX2, 17, rfl, by decide, (wl_t 580 (by decide +kernel) (by decide +kernel)), (wl_t 581 (by decide +kernel) (by decide +kernel)), (wl_t 582 (by decide +kernel) (by decide +kernel)), (wl_t 5 (by decide +kernel) (by decide +kernel)), (wl_t 583 (by decide +kernel) (by decide +kernel)), rfl, rfl, ⟨by decide +kernel, by decide +kernel⟩, by decide +kernel⟩
theorem fpX3_41 : mmFp RX3 41 3 5 (.int) := ⟨RX3, TX3, 13, tyX3, rfl, by decide, by decide, rfl, wsX3_in, (Or.inl (wl_t 200 (by decide +kernel) (by decide +kernel))), tyX3_ok, nmX3, rfl, by decide +kernel⟩
theorem fdX3_27 : mmFd RX3 27 3 3 := ⟨RX3, TX3, 13, rfl, by decide, by decide, rfl, wsX3_in, (Or.inl (wl_t 197 (by decide +kernel) (by decide +kernel)))⟩
theorem fdX3_101 : mmFd RX3 101 2 0 := ⟨RX2, TX2, 17, rfl, by decide, by decide, rfl, wsX2_in, (Or.inr ⟨"YieldMoor", (wl_t 100 (by decide +kernel) (by decide +kernel))⟩)⟩
theorem cvX3_104 : mmCV RX3 104 4 yX4_add cX4_add 2 none 1 := ⟨TX4, 2, rfl, by decide, (wl_t 555 (by decide +kernel) (by decide +kernel)), (wl_t 556 (by decide +kernel) (by decide +kernel)), (wl_t 557 (by decide +kernel) (by decide +kernel)), (wl_t 7 (by decide +kernel) (by decide +kernel)), (wl_t 558 (by decide +kernel) (by decide +kernel)), rfl, rfl, ⟨by decide +kernel, by decide +kernel⟩, by decide +kernel⟩
theorem cvX3_59 : mmCV RX3 59 2 yX2_copyFrom cX2_copyFrom 2 none 1 := ⟨TX2, 17, rfl, by decide, (wl_t 461 (by decide +kernel) (by decide +kernel)), (wl_t 462 (by decide +kernel) (by decide +kernel)), (wl_t 463 (by decide +kernel) (by decide +kernel)), (wl_t 5 (by decide +kernel) (by decide +kernel)), (wl_t 464 (by decide +kernel) (by decide +kernel)), rfl, rfl, ⟨by decide +kernel, by decide +kernel⟩, by decide +kernel⟩
theorem fdX3_45 : mmFd RX3 45 3 6 := ⟨RX3, TX3, 13, rfl, by decide, by decide, rfl, wsX3_in, (Or.inl (wl_t 202 (by decide +kernel) (by decide +kernel)))⟩
theorem fpX3_45 : mmFp RX3 45 3 6 (.int) := ⟨RX3, TX3, 13, tyX3, rfl, by decide, by decide, rfl, wsX3_in, (Or.inl (wl_t 202 (by decide +kernel) (by decide +kernel))), tyX3_ok, nmX3, rfl, by decide +kernel⟩
theorem fdX3_48 : mmFd RX3 48 3 7 := ⟨RX3, TX3, 13, rfl, by decide, by decide, rfl, wsX3_in, (Or.inl (wl_t 204 (by decide +kernel) (by decide +kernel)))⟩
theorem fpX3_48 : mmFp RX3 48 3 7 (.int) := ⟨RX3, TX3, 13, tyX3, rfl, by decide, by decide, rfl, wsX3_in, (Or.inl (wl_t 204 (by decide +kernel) (by decide +kernel))), tyX3_ok, nmX3, rfl, by decide +kernel⟩
theorem cvX3_51 : mmCV RX3 51 4 yX4_copyFrom cX4_copyFrom 2 none 1 := ⟨TX4, 2, rfl, by decide, (wl_t 454 (by decide +kernel) (by decide +kernel)), (wl_t 455 (by decide +kernel) (by decide +kernel)), (wl_t 456 (by decide +kernel) (by decide +kernel)), (wl_t 7 (by decide +kernel) (by decide +kernel)), (wl_t 457 (by decide +kernel) (by decide +kernel)), rfl, rfl, ⟨by decide +kernel, by decide +kernel⟩, by decide +kernel⟩
theorem fdX3_202 : mmFd RX3 202 3 9 := ⟨RX3, TX3, 13, rfl, by decide, by decide, rfl, wsX3_in, (Or.inl (wl_t 207 (by decide +kernel) (by decide +kernel)))⟩
theorem fpX3_202 : mmFp RX3 202 3 9 (.int) := ⟨RX3, TX3, 13, tyX3, rfl, by decide, by decide, rfl, wsX3_in, (Or.inl (wl_t 207 (by decide +kernel) (by decide +kernel))), tyX3_ok, nmX3, rfl, by decide +kernel⟩
theorem fdX3_205 : mmFd RX3 205 3 10 := ⟨RX3, TX3, 13, rfl, by decide, by decide, rfl, wsX3_in, (Or.inl (wl_t 208 (by decide +kernel) (by decide +kernel)))⟩
theorem fpX3_205 : mmFp RX3 205 3 10 (.int) := ⟨RX3, TX3, 13, tyX3, rfl, by decide, by decide, rfl, wsX3_in, (Or.inl (wl_t 208 (by decide +kernel) (by decide +kernel))), tyX3_ok, nmX3, rfl, by decide +kernel⟩
theorem fdX3_208 : mmFd RX3 208 3 11 := ⟨RX3, TX3, 13, rfl, by decide, by decide, rfl, wsX3_in, (Or.inl (wl_t 209 (by decide +kernel) (by decide +kernel)))⟩
theorem fpX3_208 : mmFp RX3 208 3 11 (.boolean) := ⟨RX3, TX3, 13, tyX3, rfl, by decide, by decide, rfl, wsX3_in, (Or.inl (wl_t 209 (by decide +kernel) (by decide +kernel))), tyX3_ok, nmX3, rfl, by decide +kernel⟩
theorem fdX3_211 : mmFd RX3 211 2 9 := ⟨RX2, TX2, 17, rfl, by decide, by decide, rfl, wsX2_in, (Or.inr ⟨"YieldMoor", (wl_t 123 (by decide +kernel) (by decide +kernel))⟩)⟩
theorem cvX3_214 : mmCV RX3 214 3 yX3_isMade cX3_isMade 2 (some (.boolean)) 1 := ⟨TX3, 13, rfl, by decide, (wl_t 479 (by decide +kernel) (by decide +kernel)), (wl_t 253 (by decide +kernel) (by decide +kernel)), (wl_t 254 (by decide +kernel) (by decide +kernel)), (wl_t 4 (by decide +kernel) (by decide +kernel)), (wl_t 255 (by decide +kernel) (by decide +kernel)), rfl, rfl, ⟨by decide +kernel, by decide +kernel⟩, by decide +kernel⟩
theorem fpX3_211 : mmFp RX3 211 2 9 (.int) := ⟨RX2, TX2, 17, tyX2, rfl, by decide, by decide, rfl, wsX2_in, (Or.inr ⟨"YieldMoor", (wl_t 123 (by decide +kernel) (by decide +kernel))⟩), tyX2_ok, nmX2, rfl, by decide +kernel⟩
theorem fdX3_141 : mmFd RX3 141 2 10 := ⟨RX2, TX2, 17, rfl, by decide, by decide, rfl, wsX2_in, (Or.inr ⟨"YieldMoor", (wl_t 125 (by decide +kernel) (by decide +kernel))⟩)⟩
theorem fpX3_141 : mmFp RX3 141 2 10 (.int) := ⟨RX2, TX2, 17, tyX2, rfl, by decide, by decide, rfl, wsX2_in, (Or.inr ⟨"YieldMoor", (wl_t 125 (by decide +kernel) (by decide +kernel))⟩), tyX2_ok, nmX2, rfl, by decide +kernel⟩
theorem fdX3_38 : mmFd RX3 38 3 8 := ⟨RX3, TX3, 13, rfl, by decide, by decide, rfl, wsX3_in, (Or.inl (wl_t 206 (by decide +kernel) (by decide +kernel)))⟩
theorem cvX3_144 : mmCV RX3 144 3 yX3_part cX3_part 3 none 2 := ⟨TX3, 13, rfl, by decide, (wl_t 498 (by decide +kernel) (by decide +kernel)), (wl_t 500 (by decide +kernel) (by decide +kernel)), (wl_s 6 (by decide +kernel) (by decide +kernel)), (wl_t 4 (by decide +kernel) (by decide +kernel)), (wl_t 501 (by decide +kernel) (by decide +kernel)), rfl, rfl, ⟨by decide +kernel, by decide +kernel⟩, by decide +kernel⟩
theorem fdX3_117 : mmFd RX3 117 2 7 := ⟨RX2, TX2, 17, rfl, by decide, by decide, rfl, wsX2_in, (Or.inr ⟨"YieldMoor", (wl_t 119 (by decide +kernel) (by decide +kernel))⟩)⟩
theorem cvX3_131 : mmCV RX3 131 2 yX2_leave cX2_leave 5 none 1 := ⟨TX2, 17, rfl, by decide, (wl_t 502 (by decide +kernel) (by decide +kernel)), (wl_t 503 (by decide +kernel) (by decide +kernel)), (wl_t 504 (by decide +kernel) (by decide +kernel)), (wl_t 5 (by decide +kernel) (by decide +kernel)), (wl_t 505 (by decide +kernel) (by decide +kernel)), rfl, rfl, ⟨by decide +kernel, by decide +kernel⟩, by decide +kernel⟩
theorem fpX3_38 : mmFp RX3 38 3 8 (.object "YieldMoor$Coroutine") := ⟨RX3, TX3, 13, tyX3, rfl, by decide, by decide, rfl, wsX3_in, (Or.inl (wl_t 206 (by decide +kernel) (by decide +kernel))), tyX3_ok, nmX3, rfl, by decide +kernel⟩
theorem fpX3_117 : mmFp RX3 117 2 7 (.int) := ⟨RX2, TX2, 17, tyX2, rfl, by decide, by decide, rfl, wsX2_in, (Or.inr ⟨"YieldMoor", (wl_t 119 (by decide +kernel) (by decide +kernel))⟩), tyX2_ok, nmX2, rfl, by decide +kernel⟩
theorem fdX3_120 : mmFd RX3 120 2 6 := ⟨RX2, TX2, 17, rfl, by decide, by decide, rfl, wsX2_in, (Or.inr ⟨"YieldMoor", (wl_t 116 (by decide +kernel) (by decide +kernel))⟩)⟩
theorem cvX3_114 : mmCV RX3 114 2 yX2_goOnAt cX2_goOnAt 2 none 1 := ⟨TX2, 17, rfl, by decide, (wl_t 484 (by decide +kernel) (by decide +kernel)), (wl_t 485 (by decide +kernel) (by decide +kernel)), (wl_t 486 (by decide +kernel) (by decide +kernel)), (wl_t 5 (by decide +kernel) (by decide +kernel)), (wl_t 487 (by decide +kernel) (by decide +kernel)), rfl, rfl, ⟨by decide +kernel, by decide +kernel⟩, by decide +kernel⟩
theorem fpX3_68 : mmFp RX3 68 2 5 (.int) := ⟨RX2, TX2, 17, tyX2, rfl, by decide, by decide, rfl, wsX2_in, (Or.inr ⟨"YieldMoor", (wl_t 112 (by decide +kernel) (by decide +kernel))⟩), tyX2_ok, nmX2, rfl, by decide +kernel⟩
theorem fdX3_217 : mmFd RX3 217 3 12 := ⟨RX3, TX3, 13, rfl, by decide, by decide, rfl, wsX3_in, (Or.inl (wl_t 210 (by decide +kernel) (by decide +kernel)))⟩
theorem fpX3_217 : mmFp RX3 217 3 12 (.boolean) := ⟨RX3, TX3, 13, tyX3, rfl, by decide, by decide, rfl, wsX3_in, (Or.inl (wl_t 210 (by decide +kernel) (by decide +kernel))), tyX3_ok, nmX3, rfl, by decide +kernel⟩
theorem fdX3_189 : mmFd RX3 189 2 15 := ⟨RX2, TX2, 17, rfl, by decide, by decide, rfl, wsX2_in, (Or.inr ⟨"YieldMoor", (wl_t 140 (by decide +kernel) (by decide +kernel))⟩)⟩
theorem fdX3_193 : mmFd RX3 193 2 14 := ⟨RX2, TX2, 17, rfl, by decide, by decide, rfl, wsX2_in, (Or.inr ⟨"YieldMoor", (wl_t 137 (by decide +kernel) (by decide +kernel))⟩)⟩
theorem fpX3_189 : mmFp RX3 189 2 15 (.boolean) := ⟨RX2, TX2, 17, tyX2, rfl, by decide, by decide, rfl, wsX2_in, (Or.inr ⟨"YieldMoor", (wl_t 140 (by decide +kernel) (by decide +kernel))⟩), tyX2_ok, nmX2, rfl, by decide +kernel⟩
theorem mnX3_174 : mmMn RX3 174 := ⟨(wl_t 597 (by decide +kernel) (by decide +kernel)), (wl_t 598 (by decide +kernel) (by decide +kernel)), (wl_t 13 (by decide +kernel) (by decide +kernel)), (wl_t 599 (by decide +kernel) (by decide +kernel))⟩
theorem cvX3_274 : mmCV RX3 274 3 yX3_waitAt cX3_waitAt 2 none 1 := ⟨TX3, 13, rfl, by decide, (wl_t 559 (by decide +kernel) (by decide +kernel)), (wl_t 561 (by decide +kernel) (by decide +kernel)), (wl_s 11 (by decide +kernel) (by decide +kernel)), (wl_t 4 (by decide +kernel) (by decide +kernel)), (wl_t 562 (by decide +kernel) (by decide +kernel)), rfl, rfl, ⟨by decide +kernel, by decide +kernel⟩, by decide +kernel⟩
theorem cvX3_156 : mmCV RX3 156 3 yX3_takesCancel cX3_takesCancel 2 (some (.boolean)) 0 := ⟨TX3, 13, rfl, by decide, (wl_t 551 (by decide +kernel) (by decide +kernel)), (wl_t 553 (by decide +kernel) (by decide +kernel)), (wl_s 10 (by decide +kernel) (by decide +kernel)), (wl_t 4 (by decide +kernel) (by decide +kernel)), (wl_t 554 (by decide +kernel) (by decide +kernel)), rfl, rfl, ⟨by decide +kernel, by decide +kernel⟩, by decide +kernel⟩
theorem cvX3_277 : mmCV RX3 277 3 yX3_canMake cX3_canMake 2 (some (.boolean)) 1 := ⟨TX3, 13, rfl, by decide, (wl_t 567 (by decide +kernel) (by decide +kernel)), (wl_t 569 (by decide +kernel) (by decide +kernel)), (wl_s 13 (by decide +kernel) (by decide +kernel)), (wl_t 4 (by decide +kernel) (by decide +kernel)), (wl_t 570 (by decide +kernel) (by decide +kernel)), rfl, rfl, ⟨by decide +kernel, by decide +kernel⟩, by decide +kernel⟩
theorem cvX3_280 : mmCV RX3 280 3 yX3_make cX3_make 5 (some (.object "YieldMoor$Coroutine")) 3 := ⟨TX3, 13, rfl, by decide, (wl_t 576 (by decide +kernel) (by decide +kernel)), (wl_t 577 (by decide +kernel) (by decide +kernel)), (wl_t 578 (by decide +kernel) (by decide +kernel)), (wl_t 4 (by decide +kernel) (by decide +kernel)), (wl_t 579 (by decide +kernel) (by decide +kernel)), rfl, rfl, ⟨by decide +kernel, by decide +kernel⟩, by decide +kernel⟩
theorem fdX3_196 : mmFd RX3 196 2 12 := ⟨RX2, TX2, 17, rfl, by decide, by decide, rfl, wsX2_in, (Or.inr ⟨"YieldMoor", (wl_t 131 (by decide +kernel) (by decide +kernel))⟩)⟩
theorem fpX3_196 : mmFp RX3 196 2 12 (.int) := ⟨RX2, TX2, 17, tyX2, rfl, by decide, by decide, rfl, wsX2_in, (Or.inr ⟨"YieldMoor", (wl_t 131 (by decide +kernel) (by decide +kernel))⟩), tyX2_ok, nmX2, rfl, by decide +kernel⟩
theorem cvX3_180 : mmCV RX3 180 3 yX3_has cX3_has 3 (some (.boolean)) 2 := ⟨TX3, 13, rfl, by decide, (wl_t 592 (by decide +kernel) (by decide +kernel)), (wl_t 438 (by decide +kernel) (by decide +kernel)), (wl_t 439 (by decide +kernel) (by decide +kernel)), (wl_t 4 (by decide +kernel) (by decide +kernel)), (wl_t 440 (by decide +kernel) (by decide +kernel)), rfl, rfl, ⟨by decide +kernel, by decide +kernel⟩, by decide +kernel⟩
theorem cvX3_284 : mmCV RX3 284 3 yX3_awaitsTheOwnOne cX3_awaitsTheOwnOne 4 (some (.boolean)) 1 := ⟨TX3, 13, rfl, by decide, (wl_t 600 (by decide +kernel) (by decide +kernel)), (wl_t 602 (by decide +kernel) (by decide +kernel)), (wl_s 17 (by decide +kernel) (by decide +kernel)), (wl_t 4 (by decide +kernel) (by decide +kernel)), (wl_t 603 (by decide +kernel) (by decide +kernel)), rfl, rfl, ⟨by decide +kernel, by decide +kernel⟩, by decide +kernel⟩
theorem fpX3_82 : mmFp RX3 82 2 13 (.int) := ⟨RX2, TX2, 17, tyX2, rfl, by decide, by decide, rfl, wsX2_in, (Or.inr ⟨"YieldMoor", (wl_t 133 (by decide +kernel) (by decide +kernel))⟩), tyX2_ok, nmX2, rfl, by decide +kernel⟩
theorem cvX3_170 : mmCV RX3 170 3 yX3_takeOutcome cX3_takeOutcome 3 (some (.int)) 2 := ⟨TX3, 13, rfl, by decide, (wl_t 593 (by decide +kernel) (by decide +kernel)), (wl_t 595 (by decide +kernel) (by decide +kernel)), (wl_s 16 (by decide +kernel) (by decide +kernel)), (wl_t 4 (by decide +kernel) (by decide +kernel)), (wl_t 596 (by decide +kernel) (by decide +kernel)), rfl, rfl, ⟨by decide +kernel, by decide +kernel⟩, by decide +kernel⟩
theorem fpX3_120 : mmFp RX3 120 2 6 (.int) := ⟨RX2, TX2, 17, tyX2, rfl, by decide, by decide, rfl, wsX2_in, (Or.inr ⟨"YieldMoor", (wl_t 116 (by decide +kernel) (by decide +kernel))⟩), tyX2_ok, nmX2, rfl, by decide +kernel⟩
theorem mnX3_287 : mmMx RX3 287 := ⟨(wl_t 612 (by decide +kernel) (by decide +kernel)), (wl_t 613 (by decide +kernel) (by decide +kernel)), (wl_t 13 (by decide +kernel) (by decide +kernel)), (wl_t 614 (by decide +kernel) (by decide +kernel))⟩
theorem fpX3_193 : mmFp RX3 193 2 14 (.int) := ⟨RX2, TX2, 17, tyX2, rfl, by decide, by decide, rfl, wsX2_in, (Or.inr ⟨"YieldMoor", (wl_t 137 (by decide +kernel) (by decide +kernel))⟩), tyX2_ok, nmX2, rfl, by decide +kernel⟩
theorem cvX3_165 : mmCV RX3 165 1 yX1_kindAt cX1_kindAt 2 (some (.int)) 1 := ⟨TX1, 4, rfl, by decide, (wl_t 542 (by decide +kernel) (by decide +kernel)), (wl_t 395 (by decide +kernel) (by decide +kernel)), (wl_t 396 (by decide +kernel) (by decide +kernel)), (wl_t 3 (by decide +kernel) (by decide +kernel)), (wl_t 397 (by decide +kernel) (by decide +kernel)), rfl, rfl, ⟨by decide +kernel, by decide +kernel⟩, by decide +kernel⟩
theorem cvX3_245 : mmCV RX3 245 1 yX1_aAt cX1_aAt 2 (some (.int)) 1 := ⟨TX1, 4, rfl, by decide, (wl_t 543 (by decide +kernel) (by decide +kernel)), (wl_t 544 (by decide +kernel) (by decide +kernel)), (wl_t 545 (by decide +kernel) (by decide +kernel)), (wl_t 3 (by decide +kernel) (by decide +kernel)), (wl_t 546 (by decide +kernel) (by decide +kernel)), rfl, rfl, ⟨by decide +kernel, by decide +kernel⟩, by decide +kernel⟩
theorem cvX3_267 : mmCV RX3 267 1 yX1_bAt cX1_bAt 2 (some (.int)) 1 := ⟨TX1, 4, rfl, by decide, (wl_t 615 (by decide +kernel) (by decide +kernel)), (wl_t 403 (by decide +kernel) (by decide +kernel)), (wl_t 404 (by decide +kernel) (by decide +kernel)), (wl_t 3 (by decide +kernel) (by decide +kernel)), (wl_t 405 (by decide +kernel) (by decide +kernel)), rfl, rfl, ⟨by decide +kernel, by decide +kernel⟩, by decide +kernel⟩
theorem cvX3_270 : mmCV RX3 270 2 yX2_doPlain cX2_doPlain 5 (some (.int)) 3 := ⟨TX2, 17, rfl, by decide, (wl_t 616 (by decide +kernel) (by decide +kernel)), (wl_t 617 (by decide +kernel) (by decide +kernel)), (wl_t 618 (by decide +kernel) (by decide +kernel)), (wl_t 5 (by decide +kernel) (by decide +kernel)), (wl_t 619 (by decide +kernel) (by decide +kernel)), rfl, rfl, ⟨by decide +kernel, by decide +kernel⟩, by decide +kernel⟩
theorem cvX3_248 : mmCV RX3 248 3 yX3_doYield cX3_doYield 2 (some (.int)) 1 := ⟨TX3, 13, rfl, by decide, (wl_t 547 (by decide +kernel) (by decide +kernel)), (wl_t 549 (by decide +kernel) (by decide +kernel)), (wl_s 9 (by decide +kernel) (by decide +kernel)), (wl_t 4 (by decide +kernel) (by decide +kernel)), (wl_t 550 (by decide +kernel) (by decide +kernel)), rfl, rfl, ⟨by decide +kernel, by decide +kernel⟩, by decide +kernel⟩
theorem cvX3_251 : mmCV RX3 251 3 yX3_doFrom cX3_doFrom 4 (some (.int)) 2 := ⟨TX3, 13, rfl, by decide, (wl_t 563 (by decide +kernel) (by decide +kernel)), (wl_t 565 (by decide +kernel) (by decide +kernel)), (wl_s 12 (by decide +kernel) (by decide +kernel)), (wl_t 4 (by decide +kernel) (by decide +kernel)), (wl_t 566 (by decide +kernel) (by decide +kernel)), rfl, rfl, ⟨by decide +kernel, by decide +kernel⟩, by decide +kernel⟩
theorem cvX3_255 : mmCV RX3 255 3 yX3_doSleep cX3_doSleep 3 (some (.int)) 2 := ⟨TX3, 13, rfl, by decide, (wl_t 584 (by decide +kernel) (by decide +kernel)), (wl_t 586 (by decide +kernel) (by decide +kernel)), (wl_s 14 (by decide +kernel) (by decide +kernel)), (wl_t 4 (by decide +kernel) (by decide +kernel)), (wl_t 587 (by decide +kernel) (by decide +kernel)), rfl, rfl, ⟨by decide +kernel, by decide +kernel⟩, by decide +kernel⟩
theorem cvX3_258 : mmCV RX3 258 3 yX3_doAwait cX3_doAwait 3 (some (.int)) 1 := ⟨TX3, 13, rfl, by decide, (wl_t 588 (by decide +kernel) (by decide +kernel)), (wl_t 590 (by decide +kernel) (by decide +kernel)), (wl_s 15 (by decide +kernel) (by decide +kernel)), (wl_t 4 (by decide +kernel) (by decide +kernel)), (wl_t 591 (by decide +kernel) (by decide +kernel)), rfl, rfl, ⟨by decide +kernel, by decide +kernel⟩, by decide +kernel⟩
theorem cvX3_261 : mmCV RX3 261 3 yX3_doSpawn cX3_doSpawn 3 (some (.int)) 2 := ⟨TX3, 13, rfl, by decide, (wl_t 604 (by decide +kernel) (by decide +kernel)), (wl_t 606 (by decide +kernel) (by decide +kernel)), (wl_s 18 (by decide +kernel) (by decide +kernel)), (wl_t 4 (by decide +kernel) (by decide +kernel)), (wl_t 607 (by decide +kernel) (by decide +kernel)), rfl, rfl, ⟨by decide +kernel, by decide +kernel⟩, by decide +kernel⟩
theorem cvX3_264 : mmCV RX3 264 3 yX3_doShield cX3_doShield 4 (some (.int)) 2 := ⟨TX3, 13, rfl, by decide, (wl_t 608 (by decide +kernel) (by decide +kernel)), (wl_t 610 (by decide +kernel) (by decide +kernel)), (wl_s 19 (by decide +kernel) (by decide +kernel)), (wl_t 4 (by decide +kernel) (by decide +kernel)), (wl_t 611 (by decide +kernel) (by decide +kernel)), rfl, rfl, ⟨by decide +kernel, by decide +kernel⟩, by decide +kernel⟩
theorem fpX3_85 : mmFp RX3 85 2 11 (.int) := ⟨RX2, TX2, 17, tyX2, rfl, by decide, by decide, rfl, wsX2_in, (Or.inr ⟨"YieldMoor", (wl_t 127 (by decide +kernel) (by decide +kernel))⟩), tyX2_ok, nmX2, rfl, by decide +kernel⟩
theorem fdX3_238 : mmFd RX3 238 2 2 := ⟨RX2, TX2, 17, rfl, by decide, by decide, rfl, wsX2_in, (Or.inr ⟨"YieldMoor", (wl_t 104 (by decide +kernel) (by decide +kernel))⟩)⟩
theorem fdX3_242 : mmFd RX3 242 5 2 := ⟨RX5, TX5, 3, rfl, by decide, by decide, rfl, wsX5_in, (Or.inr ⟨"YieldMoor", (wl_t 90 (by decide +kernel) (by decide +kernel))⟩)⟩
theorem fpX3_242 : mmFp RX3 242 5 2 (.int) := ⟨RX5, TX5, 3, tyX5, rfl, by decide, by decide, rfl, wsX5_in, (Or.inr ⟨"YieldMoor", (wl_t 90 (by decide +kernel) (by decide +kernel))⟩), tyX5_ok, nmX5, rfl, by decide +kernel⟩
theorem cvX3_162 : mmCV RX3 162 0 yX0_at cX0_at 2 (some (.object "YieldMoor$Body")) 1 := ⟨TX0, 3, rfl, by decide, (wl_t 532 (by decide +kernel) (by decide +kernel)), (wl_t 379 (by decide +kernel) (by decide +kernel)), (wl_t 380 (by decide +kernel) (by decide +kernel)), (wl_t 2 (by decide +kernel) (by decide +kernel)), (wl_t 381 (by decide +kernel) (by decide +kernel)), rfl, rfl, ⟨by decide +kernel, by decide +kernel⟩, by decide +kernel⟩
theorem cvX3_231 : mmCV RX3 231 1 yX1_hasLine cX1_hasLine 2 (some (.boolean)) 1 := ⟨TX1, 4, rfl, by decide, (wl_t 533 (by decide +kernel) (by decide +kernel)), (wl_t 399 (by decide +kernel) (by decide +kernel)), (wl_t 400 (by decide +kernel) (by decide +kernel)), (wl_t 3 (by decide +kernel) (by decide +kernel)), (wl_t 401 (by decide +kernel) (by decide +kernel)), rfl, rfl, ⟨by decide +kernel, by decide +kernel⟩, by decide +kernel⟩
theorem cvX3_234 : mmCV RX3 234 2 yX2_beginReturn cX2_beginReturn 1 (some (.int)) 0 := ⟨TX2, 17, rfl, by decide, (wl_t 534 (by decide +kernel) (by decide +kernel)), (wl_t 535 (by decide +kernel) (by decide +kernel)), (wl_t 536 (by decide +kernel) (by decide +kernel)), (wl_t 5 (by decide +kernel) (by decide +kernel)), (wl_t 537 (by decide +kernel) (by decide +kernel)), rfl, rfl, ⟨by decide +kernel, by decide +kernel⟩, by decide +kernel⟩
theorem kcX3_220 : Cond.constant RX3 220 1000000 ∈ WL := (wl_t 492 (by decide +kernel) (by decide +kernel))
theorem cvX3_224 : mmCV RX3 224 3 yX3_wayInstead cX3_wayInstead 2 (some (.int)) 1 := ⟨TX3, 13, rfl, by decide, (wl_t 528 (by decide +kernel) (by decide +kernel)), (wl_t 530 (by decide +kernel) (by decide +kernel)), (wl_s 7 (by decide +kernel) (by decide +kernel)), (wl_t 4 (by decide +kernel) (by decide +kernel)), (wl_t 531 (by decide +kernel) (by decide +kernel)), rfl, rfl, ⟨by decide +kernel, by decide +kernel⟩, by decide +kernel⟩
theorem cvX3_227 : mmCV RX3 227 3 yX3_doLine cX3_doLine 5 (some (.int)) 2 := ⟨TX3, 13, rfl, by decide, (wl_t 538 (by decide +kernel) (by decide +kernel)), (wl_t 540 (by decide +kernel) (by decide +kernel)), (wl_s 8 (by decide +kernel) (by decide +kernel)), (wl_t 4 (by decide +kernel) (by decide +kernel)), (wl_t 541 (by decide +kernel) (by decide +kernel)), rfl, rfl, ⟨by decide +kernel, by decide +kernel⟩, by decide +kernel⟩
theorem cvX3_221 : mmCV RX3 221 3 yX3_backToOuter cX3_backToOuter 3 none 0 := ⟨TX3, 13, rfl, by decide, (wl_t 494 (by decide +kernel) (by decide +kernel)), (wl_t 496 (by decide +kernel) (by decide +kernel)), (wl_s 5 (by decide +kernel) (by decide +kernel)), (wl_t 4 (by decide +kernel) (by decide +kernel)), (wl_t 497 (by decide +kernel) (by decide +kernel)), rfl, rfl, ⟨by decide +kernel, by decide +kernel⟩, by decide +kernel⟩
theorem cvX3_107 : mmCV RX3 107 3 yX3_inmostOf cX3_inmostOf 4 (some (.object "YieldMoor$Coroutine")) 1 := ⟨TX3, 13, rfl, by decide, (wl_t 475 (by decide +kernel) (by decide +kernel)), (wl_t 477 (by decide +kernel) (by decide +kernel)), (wl_s 2 (by decide +kernel) (by decide +kernel)), (wl_t 4 (by decide +kernel) (by decide +kernel)), (wl_t 478 (by decide +kernel) (by decide +kernel)), rfl, rfl, ⟨by decide +kernel, by decide +kernel⟩, by decide +kernel⟩
theorem cvX3_111 : mmCV RX3 111 3 yX3_beginCall cX3_beginCall 2 none 1 := ⟨TX3, 13, rfl, by decide, (wl_t 480 (by decide +kernel) (by decide +kernel)), (wl_t 482 (by decide +kernel) (by decide +kernel)), (wl_s 3 (by decide +kernel) (by decide +kernel)), (wl_t 4 (by decide +kernel) (by decide +kernel)), (wl_t 483 (by decide +kernel) (by decide +kernel)), rfl, rfl, ⟨by decide +kernel, by decide +kernel⟩, by decide +kernel⟩
theorem cvX3_123 : mmCV RX3 123 3 yX3_goOn cX3_goOn 6 none 2 := ⟨TX3, 13, rfl, by decide, (wl_t 488 (by decide +kernel) (by decide +kernel)), (wl_t 490 (by decide +kernel) (by decide +kernel)), (wl_s 4 (by decide +kernel) (by decide +kernel)), (wl_t 4 (by decide +kernel) (by decide +kernel)), (wl_t 491 (by decide +kernel) (by decide +kernel)), rfl, rfl, ⟨by decide +kernel, by decide +kernel⟩, by decide +kernel⟩
theorem cvX3_127 : mmCV RX3 127 3 yX3_toldOf cX3_toldOf 2 (some (.int)) 1 := ⟨TX3, 13, rfl, by decide, (wl_t 640 (by decide +kernel) (by decide +kernel)), (wl_t 642 (by decide +kernel) (by decide +kernel)), (wl_s 23 (by decide +kernel) (by decide +kernel)), (wl_t 4 (by decide +kernel) (by decide +kernel)), (wl_t 643 (by decide +kernel) (by decide +kernel)), rfl, rfl, ⟨by decide +kernel, by decide +kernel⟩, by decide +kernel⟩
theorem cvX3_134 : mmCV RX3 134 2 yX2_end cX2_end 3 none 2 := ⟨TX2, 17, rfl, by decide, (wl_t 652 (by decide +kernel) (by decide +kernel)), (wl_t 525 (by decide +kernel) (by decide +kernel)), (wl_t 526 (by decide +kernel) (by decide +kernel)), (wl_t 5 (by decide +kernel) (by decide +kernel)), (wl_t 527 (by decide +kernel) (by decide +kernel)), rfl, rfl, ⟨by decide +kernel, by decide +kernel⟩, by decide +kernel⟩
theorem cvX3_138 : mmCV RX3 138 3 yX3_endClose cX3_endClose 2 (some (.int)) 1 := ⟨TX3, 13, rfl, by decide, (wl_t 653 (by decide +kernel) (by decide +kernel)), (wl_t 655 (by decide +kernel) (by decide +kernel)), (wl_s 24 (by decide +kernel) (by decide +kernel)), (wl_t 4 (by decide +kernel) (by decide +kernel)), (wl_t 656 (by decide +kernel) (by decide +kernel)), rfl, rfl, ⟨by decide +kernel, by decide +kernel⟩, by decide +kernel⟩
theorem cvX3_199 : mmCV RX3 199 4 yX4_placeOf cX4_placeOf 3 (some (.int)) 1 := ⟨TX4, 2, rfl, by decide, (wl_t 705 (by decide +kernel) (by decide +kernel)), (wl_t 663 (by decide +kernel) (by decide +kernel)), (wl_t 664 (by decide +kernel) (by decide +kernel)), (wl_t 7 (by decide +kernel) (by decide +kernel)), (wl_t 665 (by decide +kernel) (by decide +kernel)), rfl, rfl, ⟨by decide +kernel, by decide +kernel⟩, by decide +kernel⟩
theorem cvX3_147 : mmCV RX3 147 4 yX4_removeAt cX4_removeAt 3 none 1 := ⟨TX4, 2, rfl, by decide, (wl_t 685 (by decide +kernel) (by decide +kernel)), (wl_t 686 (by decide +kernel) (by decide +kernel)), (wl_t 687 (by decide +kernel) (by decide +kernel)), (wl_t 7 (by decide +kernel) (by decide +kernel)), (wl_t 688 (by decide +kernel) (by decide +kernel)), rfl, rfl, ⟨by decide +kernel, by decide +kernel⟩, by decide +kernel⟩
theorem cvX3_159 : mmCV RX3 159 3 yX3_wake cX3_wake 2 (some (.int)) 1 := ⟨TX3, 13, rfl, by decide, (wl_t 693 (by decide +kernel) (by decide +kernel)), (wl_t 695 (by decide +kernel) (by decide +kernel)), (wl_s 26 (by decide +kernel) (by decide +kernel)), (wl_t 4 (by decide +kernel) (by decide +kernel)), (wl_t 696 (by decide +kernel) (by decide +kernel)), rfl, rfl, ⟨by decide +kernel, by decide +kernel⟩, by decide +kernel⟩
theorem fdX3_183 : mmFd RX3 183 2 16 := ⟨RX2, TX2, 17, rfl, by decide, by decide, rfl, wsX2_in, (Or.inr ⟨"YieldMoor", (wl_t 143 (by decide +kernel) (by decide +kernel))⟩)⟩
theorem cvX3_186 : mmCV RX3 186 3 yX3_askToCancel cX3_askToCancel 4 (some (.boolean)) 1 := ⟨TX3, 13, rfl, by decide, (wl_t 701 (by decide +kernel) (by decide +kernel)), (wl_t 702 (by decide +kernel) (by decide +kernel)), (wl_t 703 (by decide +kernel) (by decide +kernel)), (wl_t 4 (by decide +kernel) (by decide +kernel)), (wl_t 704 (by decide +kernel) (by decide +kernel)), rfl, rfl, ⟨by decide +kernel, by decide +kernel⟩, by decide +kernel⟩
theorem cvX3_150 : mmCV RX3 150 3 yX3_beginTurn cX3_beginTurn 3 none 1 := ⟨TX3, 13, rfl, by decide, (wl_t 689 (by decide +kernel) (by decide +kernel)), (wl_t 691 (by decide +kernel) (by decide +kernel)), (wl_s 25 (by decide +kernel) (by decide +kernel)), (wl_t 4 (by decide +kernel) (by decide +kernel)), (wl_t 692 (by decide +kernel) (by decide +kernel)), rfl, rfl, ⟨by decide +kernel, by decide +kernel⟩, by decide +kernel⟩
theorem cvX3_153 : mmCV RX3 153 3 yX3_tellOthers cX3_tellOthers 5 none 1 := ⟨TX3, 13, rfl, by decide, (wl_t 697 (by decide +kernel) (by decide +kernel)), (wl_t 699 (by decide +kernel) (by decide +kernel)), (wl_s 27 (by decide +kernel) (by decide +kernel)), (wl_t 4 (by decide +kernel) (by decide +kernel)), (wl_t 700 (by decide +kernel) (by decide +kernel)), rfl, rfl, ⟨by decide +kernel, by decide +kernel⟩, by decide +kernel⟩
end
section
-- X6_within
def fX6_within (x0 : Int32) (x1 : Int32) (x2 : Int32) (μ : MM) : Option (Int32 × MM) :=
  if x0 < x1 then (some (0, μ)) else (if x2 < x0 then (some (0, μ)) else (some (1, μ)))
set_option maxRecDepth 100000 in
set_option maxHeartbeats 4000000 in
theorem kX6_within_kn {μ : MM} {res : Int32 × MM} {x0 : Int32} {x1 : Int32} {x2 : Int32} (hf : fX6_within x0 x1 x2 μ = some res) : mmKN μ res.2 := by
  have hK : mmKN μ μ := mmKN.rf
  unfold fX6_within at hf
  rcases it_or hf with ⟨c1, hf⟩ | ⟨c1, hf⟩
  · skip
    obtain rfl := Option.some.inj hf
    exact hK
  · skip
    rcases it_or hf with ⟨c2, hf⟩ | ⟨c2, hf⟩
    · skip
      obtain rfl := Option.some.inj hf
      exact hK
    · skip
      obtain rfl := Option.some.inj hf
      exact hK
abbrev rmX6_within : Room := { frames := 0, cells := 0, slots := 0, locals := 0 }
set_option maxRecDepth 100000 in
set_option maxHeartbeats 4000000 in
theorem kX6_within_c (l : Launch) (G : mmG) (A : Nat → Prop) {μ : MM} {res : Int32 × MM} {x0 : Int32} {x1 : Int32} {x2 : Int32} (hf : fX6_within x0 x1 x2 μ = some res) : Met l yX6_within [.code yX6_within cX6_within 3 (some (.boolean))] rmX6_within (mmPc G A μ [.int x0, .int x1, .int x2]) (mmQ G A res.2 (some (.int res.1))) 0 0 A := by
  refine mm_ofW (by decide +kernel) (by simp [lg_sl, rf_cat, int_cat]) ?_
  intro p e s m below meth c ls S hR hA hS hr hlocks hl hnm
  have hl : lv_has ls 3 [(0, .int x0), (1, .int x1), (2, .int x2)] := by simpa [lv_args, rf_cat, int_cat] using hl
  have E0 : mmEnv p m c cX6_within 3 s _ RX6 G A meth (some (.boolean)) := ⟨S, hA, hr, hlocks⟩
  have hK : mmKN μ μ := mmKN.rf
  unfold fX6_within at hf
  refine lv_iload_n S.1 S.2.1 dX6_within_0 rfl (lv_at hl 0 rfl) ?_
  refine lv_iload_n S.1 S.2.1 dX6_within_1 rfl (lv_at hl 1 rfl) ?_
  refine lv_icmp_lt (tgt := 14) S.1 S.2.1 dX6_within_2 (by decide) (fun c1 => ?_) (fun c1 => ?_)
  · have hf := it_t hf c1
    refine lv_iconst (v := 0) S.1 S.2.1 dX6_within_14 (by decide) ?_
    obtain rfl := Option.some.inj hf
    exact mm_zret S hR hS hr hlocks (Or.inl rfl) dX6_within_15
  · have hf := it_f hf c1
    refine lv_iload_n S.1 S.2.1 dX6_within_5 rfl (lv_at hl 0 rfl) ?_
    refine lv_iload_n S.1 S.2.1 dX6_within_6 rfl (lv_at hl 2 rfl) ?_
    refine lv_icmp_gt (tgt := 14) S.1 S.2.1 dX6_within_7 (by decide) (fun c2 => ?_) (fun c2 => ?_)
    · have hf := it_t hf c2
      refine lv_iconst (v := 0) S.1 S.2.1 dX6_within_14 (by decide) ?_
      obtain rfl := Option.some.inj hf
      exact mm_zret S hR hS hr hlocks (Or.inl rfl) dX6_within_15
    · have hf := it_f hf c2
      refine lv_iconst (v := 1) S.1 S.2.1 dX6_within_10 (by decide) ?_
      refine lv_goto (tgt := 15) S.1 S.2.1 dX6_within_11 (by decide) ?_
      obtain rfl := Option.some.inj hf
      exact mm_zret S hR hS hr hlocks (Or.inr rfl) dX6_within_15
-- X4_numberAt
def fX4_numberAt (h0 : Nat) (x1 : Int32) (μ : MM) : Option (Int32 × MM) :=
  if x1 < 0 then (some ((-1), μ)) else (if (mI μ h0 1) ≤ x1 then (some ((-1), μ)) else (if mK μ (mP μ h0 0) = 20 then if ¬ (x1 < 0 ∨ mN μ (mP μ h0 0) ≤ x1.toNatClampNeg) then some ((mI μ (mP μ h0 0) x1.toNatClampNeg), μ) else none else none))
set_option maxRecDepth 100000 in
set_option maxHeartbeats 4000000 in
theorem kX4_numberAt_kn {μ : MM} {res : Int32 × MM} {h0 : Nat} {x1 : Int32} (hf : fX4_numberAt h0 x1 μ = some res) : mmKN μ res.2 := by
  have hK : mmKN μ μ := mmKN.rf
  unfold fX4_numberAt at hf
  rcases it_or hf with ⟨c1, hf⟩ | ⟨c1, hf⟩
  · skip
    obtain rfl := Option.some.inj hf
    exact hK
  · skip
    rcases it_or hf with ⟨c2, hf⟩ | ⟨c2, hf⟩
    · skip
      obtain rfl := Option.some.inj hf
      exact hK
    · skip
      obtain ⟨g3, hf⟩ := gd hf
      obtain ⟨g4, hf⟩ := gd hf
      obtain rfl := Option.some.inj hf
      exact hK
abbrev rmX4_numberAt : Room := { frames := 0, cells := 0, slots := 0, locals := 0 }
set_option maxRecDepth 100000 in
set_option maxHeartbeats 4000000 in
theorem kX4_numberAt_c (l : Launch) (G : mmG) (A : Nat → Prop) {μ : MM} {res : Int32 × MM} {h0 : Nat} {x1 : Int32} (hk0 : mK μ h0 = 5) (hf : fX4_numberAt h0 x1 μ = some res) : Met l yX4_numberAt [.code yX4_numberAt cX4_numberAt 2 (some (.int))] rmX4_numberAt (mmPc G A μ [rf h0, .int x1]) (mmQ G A res.2 (some (.int res.1))) 0 0 A := by
  refine mm_ofW (by decide +kernel) (by simp [lg_sl, rf_cat, int_cat]) ?_
  intro p e s m below meth c ls S hR hA hS hr hlocks hl hnm
  have hl : lv_has ls 2 [(0, rf h0), (1, .int x1)] := by simpa [lv_args, rf_cat, int_cat] using hl
  have E0 : mmEnv p m c cX4_numberAt 2 s _ RX4 G A meth (some (.int)) := ⟨S, hA, hr, hlocks⟩
  have hK : mmKN μ μ := mmKN.rf
  unfold fX4_numberAt at hf
  refine lv_iload_n S.1 S.2.1 dX4_numberAt_0 rfl (lv_at hl 1 rfl) ?_
  refine lv_if_lt (tgt := 21) S.1 S.2.1 dX4_numberAt_1 (by decide) (fun c1 => ?_) (fun c1 => ?_)
  · have hf := it_t hf c1
    refine lv_iconst (v := (-1)) S.1 S.2.1 dX4_numberAt_21 (by decide) ?_
    obtain rfl := Option.some.inj hf
    exact mm_iret S hR hS hr hlocks dX4_numberAt_22
  · have hf := it_f hf c1
    refine lv_iload_n S.1 S.2.1 dX4_numberAt_4 rfl (lv_at hl 1 rfl) ?_
    refine mm_aload_n S dX4_numberAt_5 rfl (lv_at hl 0 rfl) ?_
    refine mm_geti S hR fdX4_15 (hK.k hk0) rfl dX4_numberAt_6 ?_
    refine lv_icmp_ge (tgt := 21) S.1 S.2.1 dX4_numberAt_9 (by decide) (fun c2 => ?_) (fun c2 => ?_)
    · have hf := it_t hf c2
      refine lv_iconst (v := (-1)) S.1 S.2.1 dX4_numberAt_21 (by decide) ?_
      obtain rfl := Option.some.inj hf
      exact mm_iret S hR hS hr hlocks dX4_numberAt_22
    · have hf := it_f hf c2
      refine mm_aload_n S dX4_numberAt_12 rfl (lv_at hl 0 rfl) ?_
      refine mm_getp S hR fdX4_9 (hK.k hk0) rfl dX4_numberAt_13 ?_
      refine lv_iload_n S.1 S.2.1 dX4_numberAt_16 rfl (lv_at hl 1 rfl) ?_
      obtain ⟨g3, hf⟩ := gd hf
      obtain ⟨g4, hf⟩ := gd hf
      refine mm_iald S hR (hK.k g3) g4 dX4_numberAt_17 ?_
      refine lv_goto (tgt := 22) S.1 S.2.1 dX4_numberAt_18 (by decide) ?_
      obtain rfl := Option.some.inj hf
      exact mm_iret S hR hS hr hlocks dX4_numberAt_22
-- X4_placeOf
def bX4_placeOf_2 (kk2 : Nat → Int32 → Int32 → MM → Option (Int32 × MM)) (h0 : Nat) (x1 : Int32) (x2 : Int32) (μ : MM) : Option (Int32 × MM) :=
  if mK μ h0 = 5 then if (mI μ h0 1) ≤ x2 then (some ((-1), μ)) else ((fX4_numberAt h0 x2 μ).bind fun y3 => if y3.1 = x1 then (some (x2, y3.2)) else (kk2 h0 x1 (x2 + 1) y3.2)) else none
def lX4_placeOf_2  : Nat → Nat → Int32 → Int32 → MM → Option (Int32 × MM)
  | 0, _, _, _, _ => none
  | n + 1, h0, x1, x2, μ => bX4_placeOf_2  (fun h0 x1 x2 μ => lX4_placeOf_2  n h0 x1 x2 μ) h0 x1 x2 μ
def fX4_placeOf (h0 : Nat) (x1 : Int32) (μ : MM) : Option (Int32 × MM) :=
  lX4_placeOf_2  FU h0 x1 0 μ
set_option maxRecDepth 100000 in
set_option maxHeartbeats 4000000 in
theorem knbX4_placeOf_2 (kk2 : Nat → Int32 → Int32 → MM → Option (Int32 × MM)) (hkk2 : ∀ (h0 : Nat) (x1 : Int32) (x2 : Int32) (μ : MM) (res : Int32 × MM), kk2 h0 x1 x2 μ = some res → mmKN μ res.2) : ∀ (h0 : Nat) (x1 : Int32) (x2 : Int32) (μ : MM) (res : Int32 × MM), bX4_placeOf_2 kk2 h0 x1 x2 μ = some res → mmKN μ res.2 := by
  intro h0 x1 x2 μ res hf
  have hK : mmKN μ μ := mmKN.rf
  unfold bX4_placeOf_2 at hf
  obtain ⟨g1, hf⟩ := gd hf
  rcases it_or hf with ⟨c2, hf⟩ | ⟨c2, hf⟩
  · skip
    obtain rfl := Option.some.inj hf
    exact hK
  · skip
    obtain ⟨y3, hy3, hf⟩ := bd hf
    have hK : mmKN μ y3.2 := hK.tr (kX4_numberAt_kn hy3)
    rcases it_or hf with ⟨c4, hf⟩ | ⟨c4, hf⟩
    · skip
      obtain rfl := Option.some.inj hf
      exact hK
    · skip
      exact hK.tr (hkk2 h0 x1 (x2 + 1) y3.2 _ hf)
theorem knlX4_placeOf_2  : ∀ (n : Nat) (h0 : Nat) (x1 : Int32) (x2 : Int32) (μ : MM) (res : Int32 × MM), lX4_placeOf_2  n h0 x1 x2 μ = some res → mmKN μ res.2 := by
  intro n
  induction n with
  | zero => intro h0 x1 x2 μ res hf; cases hf
  | succ n ih => intro h0 x1 x2 μ res hf; exact knbX4_placeOf_2  _ ih h0 x1 x2 μ res hf
set_option maxRecDepth 100000 in
set_option maxHeartbeats 4000000 in
theorem kX4_placeOf_kn {μ : MM} {res : Int32 × MM} {h0 : Nat} {x1 : Int32} (hf : fX4_placeOf h0 x1 μ = some res) : mmKN μ res.2 := by
  have hK : mmKN μ μ := mmKN.rf
  unfold fX4_placeOf at hf
  exact hK.tr (knlX4_placeOf_2  FU h0 x1 0 μ _ hf)
abbrev rmX4_placeOf : Room := { frames := 1, cells := 0, slots := 0, locals := 21 }
set_option maxRecDepth 100000 in
set_option maxHeartbeats 4000000 in
theorem wbX4_placeOf_2 {p : Program} {l : Launch} {e : Env} {s : State} {m : MethodId} {args : Array Value} {below : List Frame} {meth : Method} {c : Code} {G : mmG} {A : Nat → Prop} {res : Int32 × MM} (E0 : mmEnv p m c cX4_placeOf 3 s args RX4 G A meth (some (.int))) (kk2 : Nat → Int32 → Int32 → MM → Option (Int32 × MM)) (hkk2 : ∀ (h0 : Nat) (x1 : Int32) (x2 : Int32) (μ : MM), kk2 h0 x1 x2 μ = some res → mmGoal p l e rmX4_placeOf s m args below meth c G A 2 3 [(0, rf h0), (1, .int x1), (2, .int x2)] μ (mmQ G A res.2 (some (.int res.1)))) : ∀ (h0 : Nat) (x1 : Int32) (x2 : Int32) (μ : MM), bX4_placeOf_2 kk2 h0 x1 x2 μ = some res → mmGoal p l e rmX4_placeOf s m args below meth c G A 2 3 [(0, rf h0), (1, .int x1), (2, .int x2)] μ (mmQ G A res.2 (some (.int res.1))) := by
  obtain ⟨S, hA, hr, hlocks⟩ := id E0
  intro h0 x1 x2 μ hf H locs ls hR hS hl
  have hK : mmKN μ μ := mmKN.rf
  unfold bX4_placeOf_2 at hf
  refine lv_iload_n S.1 S.2.1 dX4_placeOf_2 rfl (lv_at hl 2 rfl) ?_
  refine mm_aload_n S dX4_placeOf_3 rfl (lv_at hl 0 rfl) ?_
  obtain ⟨g1, hf⟩ := gd hf
  refine mm_geti S hR fdX4_15 (hK.k g1) rfl dX4_placeOf_4 ?_
  refine lv_icmp_ge (tgt := 27) S.1 S.2.1 dX4_placeOf_7 (by decide) (fun c2 => ?_) (fun c2 => ?_)
  · have hf := it_t hf c2
    refine lv_iconst (v := (-1)) S.1 S.2.1 dX4_placeOf_27 (by decide) ?_
    obtain rfl := Option.some.inj hf
    exact mm_iret S hR hS hr hlocks dX4_placeOf_28
  · have hf := it_f hf c2
    refine mm_aload_n S dX4_placeOf_10 rfl (lv_at hl 0 rfl) ?_
    refine lv_iload_n S.1 S.2.1 dX4_placeOf_11 rfl (lv_at hl 2 rfl) ?_
    obtain ⟨y3, hy3, hf⟩ := bd hf
    refine mm_callVi S hR hS hA (As := [.int x2]) (rest := []) cvX4_19 (hK.k g1) (kX4_numberAt_c l G A (hK.k g1) hy3) rfl rfl ⟨Nat.le_of_ble_eq_true rfl, Nat.le_of_ble_eq_true rfl⟩ rfl hl.1 rfl (lv_room (by simp [rf_cat, int_cat])) dX4_placeOf_12 ⟨Nat.le_refl _, Nat.le_refl _⟩ (fun H locs hR hS => ?_)
    have hK : mmKN μ y3.2 := hK.tr (kX4_numberAt_kn hy3)
    refine lv_iload_n S.1 S.2.1 dX4_placeOf_15 rfl (lv_at hl 1 rfl) ?_
    refine lv_icmp_ne (tgt := 21) S.1 S.2.1 dX4_placeOf_16 (by decide) (fun c4 => ?_) (fun c4 => ?_)
    · have hf := it_f hf c4
      refine lv_iinc (v := (x2 + 1)) (lv' := [(2, .int (x2 + 1)), (0, rf h0), (1, .int x1)]) S.1 S.2.1 dX4_placeOf_21 hl (k := 2) rfl (by rfl) (by decide) rfl (fun ls hl => ?_)
      refine lv_goto (tgt := 2) S.1 S.2.1 dX4_placeOf_24 (by decide) ?_
      exact hkk2 h0 x1 (x2 + 1) y3.2 hf _ _ _ hR hS (lv_sub hl [1, 2, 0] rfl)
    · have hf := it_t hf c4
      refine lv_iload_n S.1 S.2.1 dX4_placeOf_19 rfl (lv_at hl 2 rfl) ?_
      obtain rfl := Option.some.inj hf
      exact mm_iret S hR hS hr hlocks dX4_placeOf_20
theorem wlX4_placeOf_2 {p : Program} {l : Launch} {e : Env} {s : State} {m : MethodId} {args : Array Value} {below : List Frame} {meth : Method} {c : Code} {G : mmG} {A : Nat → Prop} {res : Int32 × MM} (E0 : mmEnv p m c cX4_placeOf 3 s args RX4 G A meth (some (.int)))  : ∀ (n : Nat) (h0 : Nat) (x1 : Int32) (x2 : Int32) (μ : MM), lX4_placeOf_2  n h0 x1 x2 μ = some res → mmGoal p l e rmX4_placeOf s m args below meth c G A 2 3 [(0, rf h0), (1, .int x1), (2, .int x2)] μ (mmQ G A res.2 (some (.int res.1))) := by
  intro n
  induction n with
  | zero => intro h0 x1 x2 μ hf; cases hf
  | succ n ih => intro h0 x1 x2 μ hf; exact wbX4_placeOf_2 E0  _ ih h0 x1 x2 μ hf
set_option maxRecDepth 100000 in
set_option maxHeartbeats 4000000 in
theorem kX4_placeOf_c (l : Launch) (G : mmG) (A : Nat → Prop) {μ : MM} {res : Int32 × MM} {h0 : Nat} {x1 : Int32} (hk0 : mK μ h0 = 5) (hf : fX4_placeOf h0 x1 μ = some res) : Met l yX4_placeOf [.code yX4_placeOf cX4_placeOf 3 (some (.int))] rmX4_placeOf (mmPc G A μ [rf h0, .int x1]) (mmQ G A res.2 (some (.int res.1))) 0 0 A := by
  refine mm_ofW (by decide +kernel) (by simp [lg_sl, rf_cat, int_cat]) ?_
  intro p e s m below meth c ls S hR hA hS hr hlocks hl hnm
  have hl : lv_has ls 3 [(0, rf h0), (1, .int x1)] := by simpa [lv_args, rf_cat, int_cat] using hl
  have E0 : mmEnv p m c cX4_placeOf 3 s _ RX4 G A meth (some (.int)) := ⟨S, hA, hr, hlocks⟩
  have hK : mmKN μ μ := mmKN.rf
  unfold fX4_placeOf at hf
  refine lv_iconst (v := 0) S.1 S.2.1 dX4_placeOf_0 (by decide) ?_
  refine lv_istore_n (i := 2) (lv' := [(2, .int 0), (0, rf h0), (1, .int x1)]) S.1 S.2.1 dX4_placeOf_1 rfl hl (by decide) rfl (fun ls hl => ?_)
  exact wlX4_placeOf_2 E0  FU h0 x1 0 μ hf _ _ _ hR hS (lv_sub hl [1, 2, 0] rfl)
-- X4_add
def fX4_add (h0 : Nat) (x1 : Int32) (μ : MM) : Option (MM) :=
  if (mI μ h0 1) < 0 then (some μ) else (if (24 : Int32) ≤ (mI μ h0 1) then (some μ) else (if mK μ (mP μ h0 0) = 20 then if ¬ ((mI μ h0 1) < 0 ∨ mN μ (mP μ h0 0) ≤ (mI μ h0 1).toNatClampNeg) then st (sI μ (mP μ h0 0) (mI μ h0 1).toNatClampNeg x1) fun μ5 => st (sI μ5 h0 1 ((mI μ5 h0 1) + 1)) fun μ6 => some μ6 else none else none))
set_option maxRecDepth 100000 in
set_option maxHeartbeats 4000000 in
theorem kX4_add_kn {μ : MM} {res : MM} {h0 : Nat} {x1 : Int32} (hf : fX4_add h0 x1 μ = some res) : mmKN μ res := by
  have hK : mmKN μ μ := mmKN.rf
  unfold fX4_add at hf
  rcases it_or hf with ⟨c1, hf⟩ | ⟨c1, hf⟩
  · skip
    obtain rfl := Option.some.inj hf
    exact hK
  · skip
    rcases it_or hf with ⟨c2, hf⟩ | ⟨c2, hf⟩
    · skip
      obtain rfl := Option.some.inj hf
      exact hK
    · skip
      obtain ⟨g3, hf⟩ := gd hf
      obtain ⟨g4, hf⟩ := gd hf
      obtain ⟨μ5, e5, hf⟩ := stx hf
      have hK : mmKN μ μ5 := by rw [e5]; exact hK.sI
      obtain ⟨μ6, e6, hf⟩ := stx hf
      have hK : mmKN μ μ6 := by rw [e6]; exact hK.sI
      obtain rfl := Option.some.inj hf
      exact hK
abbrev rmX4_add : Room := { frames := 0, cells := 0, slots := 0, locals := 0 }
set_option maxRecDepth 100000 in
set_option maxHeartbeats 4000000 in
theorem kX4_add_c (l : Launch) (G : mmG) (A : Nat → Prop) {μ : MM} {res : MM} {h0 : Nat} {x1 : Int32} (hk0 : mK μ h0 = 5) (hf : fX4_add h0 x1 μ = some res) : Met l yX4_add [.code yX4_add cX4_add 2 none] rmX4_add (mmPc G A μ [rf h0, .int x1]) (mmQ G A res none) 0 0 A := by
  refine mm_ofW (by decide +kernel) (by simp [lg_sl, rf_cat, int_cat]) ?_
  intro p e s m below meth c ls S hR hA hS hr hlocks hl hnm
  have hl : lv_has ls 2 [(0, rf h0), (1, .int x1)] := by simpa [lv_args, rf_cat, int_cat] using hl
  have E0 : mmEnv p m c cX4_add 2 s _ RX4 G A meth none := ⟨S, hA, hr, hlocks⟩
  have hK : mmKN μ μ := mmKN.rf
  unfold fX4_add at hf
  refine mm_aload_n S dX4_add_0 rfl (lv_at hl 0 rfl) ?_
  refine mm_geti S hR fdX4_15 (hK.k hk0) rfl dX4_add_1 ?_
  refine lv_if_lt (tgt := 36) S.1 S.2.1 dX4_add_4 (by decide) (fun c1 => ?_) (fun c1 => ?_)
  · have hf := it_t hf c1
    obtain rfl := Option.some.inj hf
    exact mm_vret S hR hS hr hlocks dX4_add_36
  · have hf := it_f hf c1
    refine mm_aload_n S dX4_add_7 rfl (lv_at hl 0 rfl) ?_
    refine mm_geti S hR fdX4_15 (hK.k hk0) rfl dX4_add_8 ?_
    refine lv_bipush (v := 24) S.1 S.2.1 dX4_add_11 (by decide) ?_
    refine lv_icmp_ge (tgt := 36) S.1 S.2.1 dX4_add_13 (by decide) (fun c2 => ?_) (fun c2 => ?_)
    · have hf := it_t hf c2
      obtain rfl := Option.some.inj hf
      exact mm_vret S hR hS hr hlocks dX4_add_36
    · have hf := it_f hf c2
      refine mm_aload_n S dX4_add_16 rfl (lv_at hl 0 rfl) ?_
      refine mm_getp S hR fdX4_9 (hK.k hk0) rfl dX4_add_17 ?_
      refine mm_aload_n S dX4_add_20 rfl (lv_at hl 0 rfl) ?_
      refine mm_geti S hR fdX4_15 (hK.k hk0) rfl dX4_add_21 ?_
      refine lv_iload_n S.1 S.2.1 dX4_add_24 rfl (lv_at hl 1 rfl) ?_
      obtain ⟨g3, hf⟩ := gd hf
      obtain ⟨g4, hf⟩ := gd hf
      refine mm_iast S hR hS (hK.k g3) g4 dX4_add_25 (fun H locs hR hS => ?_)
      obtain ⟨μ5, e5, hf⟩ := stx hf
      rw [← e5] at hR
      have hK : mmKN μ μ5 := by rw [e5]; exact hK.sI
      refine mm_aload_n S dX4_add_26 rfl (lv_at hl 0 rfl) ?_
      refine lv_dup S.1 S.2.1 dX4_add_27 (rf_cat _) ?_
      refine mm_geti S hR fdX4_15 (hK.k hk0) rfl dX4_add_28 ?_
      refine lv_iconst (v := 1) S.1 S.2.1 dX4_add_31 (by decide) ?_
      refine lv_iadd S.1 S.2.1 dX4_add_32 ?_
      refine mm_puti S hR hS fpX4_15 (hK.k hk0) rfl rfl rfl dX4_add_33 (fun H locs hR hS => ?_)
      obtain ⟨μ6, e6, hf⟩ := stx hf
      rw [← e6] at hR
      have hK : mmKN μ μ6 := by rw [e6]; exact hK.sI
      obtain rfl := Option.some.inj hf
      exact mm_vret S hR hS hr hlocks dX4_add_36
-- X4_removeAt
def bX4_removeAt_17 (kk17 : Nat → Int32 → MM → Option (MM)) (h0 : Nat) (x2 : Int32) (μ : MM) : Option (MM) :=
  if mK μ h0 = 5 then if (mI μ h0 1) ≤ x2 then (st (sI μ h0 1 ((mI μ h0 1) - 1)) fun μ3 => some μ3) else (if mK μ (mP μ h0 0) = 20 then if ¬ (x2 < 0 ∨ mN μ (mP μ h0 0) ≤ x2.toNatClampNeg) then if ¬ ((x2 - 1) < 0 ∨ mN μ (mP μ h0 0) ≤ (x2 - 1).toNatClampNeg) then st (sI μ (mP μ h0 0) (x2 - 1).toNatClampNeg (mI μ (mP μ h0 0) x2.toNatClampNeg)) fun μ7 => kk17 h0 (x2 + 1) μ7 else none else none else none) else none
def lX4_removeAt_17  : Nat → Nat → Int32 → MM → Option (MM)
  | 0, _, _, _ => none
  | n + 1, h0, x2, μ => bX4_removeAt_17  (fun h0 x2 μ => lX4_removeAt_17  n h0 x2 μ) h0 x2 μ
def fX4_removeAt (h0 : Nat) (x1 : Int32) (μ : MM) : Option (MM) :=
  if x1 < 0 then (some μ) else (if x1 < (mI μ h0 1) then (lX4_removeAt_17  FU h0 (x1 + 1) μ) else (some μ))
set_option maxRecDepth 100000 in
set_option maxHeartbeats 4000000 in
theorem knbX4_removeAt_17 (kk17 : Nat → Int32 → MM → Option (MM)) (hkk17 : ∀ (h0 : Nat) (x2 : Int32) (μ : MM) (res : MM), kk17 h0 x2 μ = some res → mmKN μ res) : ∀ (h0 : Nat) (x2 : Int32) (μ : MM) (res : MM), bX4_removeAt_17 kk17 h0 x2 μ = some res → mmKN μ res := by
  intro h0 x2 μ res hf
  have hK : mmKN μ μ := mmKN.rf
  unfold bX4_removeAt_17 at hf
  obtain ⟨g1, hf⟩ := gd hf
  rcases it_or hf with ⟨c2, hf⟩ | ⟨c2, hf⟩
  · skip
    obtain ⟨μ3, e3, hf⟩ := stx hf
    have hK : mmKN μ μ3 := by rw [e3]; exact hK.sI
    obtain rfl := Option.some.inj hf
    exact hK
  · skip
    obtain ⟨g4, hf⟩ := gd hf
    obtain ⟨g5, hf⟩ := gd hf
    obtain ⟨g6, hf⟩ := gd hf
    obtain ⟨μ7, e7, hf⟩ := stx hf
    have hK : mmKN μ μ7 := by rw [e7]; exact hK.sI
    exact hK.tr (hkk17 h0 (x2 + 1) μ7 _ hf)
theorem knlX4_removeAt_17  : ∀ (n : Nat) (h0 : Nat) (x2 : Int32) (μ : MM) (res : MM), lX4_removeAt_17  n h0 x2 μ = some res → mmKN μ res := by
  intro n
  induction n with
  | zero => intro h0 x2 μ res hf; cases hf
  | succ n ih => intro h0 x2 μ res hf; exact knbX4_removeAt_17  _ ih h0 x2 μ res hf
set_option maxRecDepth 100000 in
set_option maxHeartbeats 4000000 in
theorem kX4_removeAt_kn {μ : MM} {res : MM} {h0 : Nat} {x1 : Int32} (hf : fX4_removeAt h0 x1 μ = some res) : mmKN μ res := by
  have hK : mmKN μ μ := mmKN.rf
  unfold fX4_removeAt at hf
  rcases it_or hf with ⟨c1, hf⟩ | ⟨c1, hf⟩
  · skip
    obtain rfl := Option.some.inj hf
    exact hK
  · skip
    rcases it_or hf with ⟨c2, hf⟩ | ⟨c2, hf⟩
    · skip
      exact hK.tr (knlX4_removeAt_17  FU h0 (x1 + 1) μ _ hf)
    · skip
      obtain rfl := Option.some.inj hf
      exact hK
abbrev rmX4_removeAt : Room := { frames := 0, cells := 0, slots := 0, locals := 0 }
set_option maxRecDepth 100000 in
set_option maxHeartbeats 4000000 in
theorem wbX4_removeAt_17 {p : Program} {l : Launch} {e : Env} {s : State} {m : MethodId} {args : Array Value} {below : List Frame} {meth : Method} {c : Code} {G : mmG} {A : Nat → Prop} {res : MM} (E0 : mmEnv p m c cX4_removeAt 3 s args RX4 G A meth none) (kk17 : Nat → Int32 → MM → Option (MM)) (hkk17 : ∀ (h0 : Nat) (x2 : Int32) (μ : MM), kk17 h0 x2 μ = some res → mmGoal p l e rmX4_removeAt s m args below meth c G A 17 3 [(0, rf h0), (2, .int x2)] μ (mmQ G A res none)) : ∀ (h0 : Nat) (x2 : Int32) (μ : MM), bX4_removeAt_17 kk17 h0 x2 μ = some res → mmGoal p l e rmX4_removeAt s m args below meth c G A 17 3 [(0, rf h0), (2, .int x2)] μ (mmQ G A res none) := by
  obtain ⟨S, hA, hr, hlocks⟩ := id E0
  intro h0 x2 μ hf H locs ls hR hS hl
  have hK : mmKN μ μ := mmKN.rf
  unfold bX4_removeAt_17 at hf
  refine lv_iload_n S.1 S.2.1 dX4_removeAt_17 rfl (lv_at hl 1 rfl) ?_
  refine mm_aload_n S dX4_removeAt_18 rfl (lv_at hl 0 rfl) ?_
  obtain ⟨g1, hf⟩ := gd hf
  refine mm_geti S hR fdX4_15 (hK.k g1) rfl dX4_removeAt_19 ?_
  refine lv_icmp_ge (tgt := 45) S.1 S.2.1 dX4_removeAt_22 (by decide) (fun c2 => ?_) (fun c2 => ?_)
  · have hf := it_t hf c2
    refine mm_aload_n S dX4_removeAt_45 rfl (lv_at hl 0 rfl) ?_
    refine lv_dup S.1 S.2.1 dX4_removeAt_46 (rf_cat _) ?_
    refine mm_geti S hR fdX4_15 (hK.k g1) rfl dX4_removeAt_47 ?_
    refine lv_iconst (v := 1) S.1 S.2.1 dX4_removeAt_50 (by decide) ?_
    refine lv_isub S.1 S.2.1 dX4_removeAt_51 ?_
    refine mm_puti S hR hS fpX4_15 (hK.k g1) rfl rfl rfl dX4_removeAt_52 (fun H locs hR hS => ?_)
    obtain ⟨μ3, e3, hf⟩ := stx hf
    rw [← e3] at hR
    have hK : mmKN μ μ3 := by rw [e3]; exact hK.sI
    obtain rfl := Option.some.inj hf
    exact mm_vret S hR hS hr hlocks dX4_removeAt_55
  · have hf := it_f hf c2
    refine mm_aload_n S dX4_removeAt_25 rfl (lv_at hl 0 rfl) ?_
    refine mm_getp S hR fdX4_9 (hK.k g1) rfl dX4_removeAt_26 ?_
    refine lv_iload_n S.1 S.2.1 dX4_removeAt_29 rfl (lv_at hl 1 rfl) ?_
    refine lv_iconst (v := 1) S.1 S.2.1 dX4_removeAt_30 (by decide) ?_
    refine lv_isub S.1 S.2.1 dX4_removeAt_31 ?_
    refine mm_aload_n S dX4_removeAt_32 rfl (lv_at hl 0 rfl) ?_
    refine mm_getp S hR fdX4_9 (hK.k g1) rfl dX4_removeAt_33 ?_
    refine lv_iload_n S.1 S.2.1 dX4_removeAt_36 rfl (lv_at hl 1 rfl) ?_
    obtain ⟨g4, hf⟩ := gd hf
    obtain ⟨g5, hf⟩ := gd hf
    refine mm_iald S hR (hK.k g4) g5 dX4_removeAt_37 ?_
    obtain ⟨g6, hf⟩ := gd hf
    refine mm_iast S hR hS (hK.k g4) g6 dX4_removeAt_38 (fun H locs hR hS => ?_)
    obtain ⟨μ7, e7, hf⟩ := stx hf
    rw [← e7] at hR
    have hK : mmKN μ μ7 := by rw [e7]; exact hK.sI
    refine lv_iinc (v := (x2 + 1)) (lv' := [(2, .int (x2 + 1)), (0, rf h0)]) S.1 S.2.1 dX4_removeAt_39 hl (k := 1) rfl (by rfl) (by decide) rfl (fun ls hl => ?_)
    refine lv_goto (tgt := 17) S.1 S.2.1 dX4_removeAt_42 (by decide) ?_
    exact hkk17 h0 (x2 + 1) μ7 hf _ _ _ hR hS (lv_sub hl [1, 0] rfl)
theorem wlX4_removeAt_17 {p : Program} {l : Launch} {e : Env} {s : State} {m : MethodId} {args : Array Value} {below : List Frame} {meth : Method} {c : Code} {G : mmG} {A : Nat → Prop} {res : MM} (E0 : mmEnv p m c cX4_removeAt 3 s args RX4 G A meth none)  : ∀ (n : Nat) (h0 : Nat) (x2 : Int32) (μ : MM), lX4_removeAt_17  n h0 x2 μ = some res → mmGoal p l e rmX4_removeAt s m args below meth c G A 17 3 [(0, rf h0), (2, .int x2)] μ (mmQ G A res none) := by
  intro n
  induction n with
  | zero => intro h0 x2 μ hf; cases hf
  | succ n ih => intro h0 x2 μ hf; exact wbX4_removeAt_17 E0  _ ih h0 x2 μ hf
set_option maxRecDepth 100000 in
set_option maxHeartbeats 4000000 in
theorem kX4_removeAt_c (l : Launch) (G : mmG) (A : Nat → Prop) {μ : MM} {res : MM} {h0 : Nat} {x1 : Int32} (hk0 : mK μ h0 = 5) (hf : fX4_removeAt h0 x1 μ = some res) : Met l yX4_removeAt [.code yX4_removeAt cX4_removeAt 3 none] rmX4_removeAt (mmPc G A μ [rf h0, .int x1]) (mmQ G A res none) 0 0 A := by
  refine mm_ofW (by decide +kernel) (by simp [lg_sl, rf_cat, int_cat]) ?_
  intro p e s m below meth c ls S hR hA hS hr hlocks hl hnm
  have hl : lv_has ls 3 [(0, rf h0), (1, .int x1)] := by simpa [lv_args, rf_cat, int_cat] using hl
  have E0 : mmEnv p m c cX4_removeAt 3 s _ RX4 G A meth none := ⟨S, hA, hr, hlocks⟩
  have hK : mmKN μ μ := mmKN.rf
  unfold fX4_removeAt at hf
  refine lv_iload_n S.1 S.2.1 dX4_removeAt_0 rfl (lv_at hl 1 rfl) ?_
  refine lv_if_lt (tgt := 12) S.1 S.2.1 dX4_removeAt_1 (by decide) (fun c1 => ?_) (fun c1 => ?_)
  · have hf := it_t hf c1
    obtain rfl := Option.some.inj hf
    exact mm_vret S hR hS hr hlocks dX4_removeAt_12
  · have hf := it_f hf c1
    refine lv_iload_n S.1 S.2.1 dX4_removeAt_4 rfl (lv_at hl 1 rfl) ?_
    refine mm_aload_n S dX4_removeAt_5 rfl (lv_at hl 0 rfl) ?_
    refine mm_geti S hR fdX4_15 (hK.k hk0) rfl dX4_removeAt_6 ?_
    refine lv_icmp_lt (tgt := 13) S.1 S.2.1 dX4_removeAt_9 (by decide) (fun c2 => ?_) (fun c2 => ?_)
    · have hf := it_t hf c2
      refine lv_iload_n S.1 S.2.1 dX4_removeAt_13 rfl (lv_at hl 1 rfl) ?_
      refine lv_iconst (v := 1) S.1 S.2.1 dX4_removeAt_14 (by decide) ?_
      refine lv_iadd S.1 S.2.1 dX4_removeAt_15 ?_
      refine lv_istore_n (i := 2) (lv' := [(2, .int (x1 + 1)), (0, rf h0), (1, .int x1)]) S.1 S.2.1 dX4_removeAt_16 rfl hl (by decide) rfl (fun ls hl => ?_)
      exact wlX4_removeAt_17 E0  FU h0 (x1 + 1) μ hf _ _ _ hR hS (lv_sub hl [1, 0] rfl)
    · have hf := it_f hf c2
      obtain rfl := Option.some.inj hf
      exact mm_vret S hR hS hr hlocks dX4_removeAt_12
-- X4_copyFrom
def fX4_copyFrom (h0 : Nat) (h1 : Nat) (μ : MM) : Option (MM) :=
  if mK μ h1 = 5 then if mK μ (mP μ h1 0) = 20 then if mK μ (mP μ h0 0) = 20 then if (24 : Int32).toNatClampNeg ≤ mN μ (mP μ h1 0) then if (24 : Int32).toNatClampNeg ≤ mN μ (mP μ h0 0) then st (sC μ (mP μ h1 0) (mP μ h0 0) (24 : Int32).toNatClampNeg) fun μ6 => st (sI μ6 h0 1 (mI μ6 h1 1)) fun μ7 => some μ7 else none else none else none else none else none
set_option maxRecDepth 100000 in
set_option maxHeartbeats 4000000 in
theorem kX4_copyFrom_kn {μ : MM} {res : MM} {h0 : Nat} {h1 : Nat} (hf : fX4_copyFrom h0 h1 μ = some res) : mmKN μ res := by
  have hK : mmKN μ μ := mmKN.rf
  unfold fX4_copyFrom at hf
  obtain ⟨g1, hf⟩ := gd hf
  obtain ⟨g2, hf⟩ := gd hf
  obtain ⟨g3, hf⟩ := gd hf
  obtain ⟨g4, hf⟩ := gd hf
  obtain ⟨g5, hf⟩ := gd hf
  obtain ⟨μ6, e6, hf⟩ := stx hf
  have hK : mmKN μ μ6 := by rw [e6]; exact hK.sC
  obtain ⟨μ7, e7, hf⟩ := stx hf
  have hK : mmKN μ μ7 := by rw [e7]; exact hK.sI
  obtain rfl := Option.some.inj hf
  exact hK
abbrev rmX4_copyFrom : Room := { frames := 1, cells := 0, slots := 0, locals := 26 }
set_option maxRecDepth 100000 in
set_option maxHeartbeats 4000000 in
theorem kX4_copyFrom_c (l : Launch) (G : mmG) (A : Nat → Prop) {μ : MM} {res : MM} {h0 : Nat} {h1 : Nat} (hk0 : mK μ h0 = 5) (hf : fX4_copyFrom h0 h1 μ = some res) : Met l yX4_copyFrom [.code yX4_copyFrom cX4_copyFrom 2 none] rmX4_copyFrom (mmPc G A μ [rf h0, rf h1]) (mmQ G A res none) 0 0 A := by
  refine mm_ofW (by decide +kernel) (by simp [lg_sl, rf_cat, int_cat]) ?_
  intro p e s m below meth c ls S hR hA hS hr hlocks hl hnm
  have hl : lv_has ls 2 [(0, rf h0), (1, rf h1)] := by simpa [lv_args, rf_cat, int_cat] using hl
  have E0 : mmEnv p m c cX4_copyFrom 2 s _ RX4 G A meth none := ⟨S, hA, hr, hlocks⟩
  have hK : mmKN μ μ := mmKN.rf
  unfold fX4_copyFrom at hf
  refine mm_aload_n S dX4_copyFrom_0 rfl (lv_at hl 1 rfl) ?_
  obtain ⟨g1, hf⟩ := gd hf
  refine mm_getp S hR fdX4_9 (hK.k g1) rfl dX4_copyFrom_1 ?_
  refine lv_iconst (v := 0) S.1 S.2.1 dX4_copyFrom_4 (by decide) ?_
  refine mm_aload_n S dX4_copyFrom_5 rfl (lv_at hl 0 rfl) ?_
  refine mm_getp S hR fdX4_9 (hK.k hk0) rfl dX4_copyFrom_6 ?_
  refine lv_iconst (v := 0) S.1 S.2.1 dX4_copyFrom_9 (by decide) ?_
  refine lv_bipush (v := 24) S.1 S.2.1 dX4_copyFrom_10 (by decide) ?_
  obtain ⟨g2, hf⟩ := gd hf
  obtain ⟨g3, hf⟩ := gd hf
  obtain ⟨g4, hf⟩ := gd hf
  obtain ⟨g5, hf⟩ := gd hf
  refine mm_copy S hR hS cpX4_23 (hK.k g2) (hK.k g3) (by decide) g4 g5 hl.1 (Nat.le_of_ble_eq_true rfl) (by simp [rf_cat, int_cat]) dX4_copyFrom_12 (fun H locs hR hS => ?_)
  obtain ⟨μ6, e6, hf⟩ := stx hf
  rw [← e6] at hR
  have hK : mmKN μ μ6 := by rw [e6]; exact hK.sC
  refine mm_aload_n S dX4_copyFrom_15 rfl (lv_at hl 0 rfl) ?_
  refine mm_aload_n S dX4_copyFrom_16 rfl (lv_at hl 1 rfl) ?_
  refine mm_geti S hR fdX4_15 (hK.k g1) rfl dX4_copyFrom_17 ?_
  refine mm_puti S hR hS fpX4_15 (hK.k hk0) rfl rfl rfl dX4_copyFrom_20 (fun H locs hR hS => ?_)
  obtain ⟨μ7, e7, hf⟩ := stx hf
  rw [← e7] at hR
  have hK : mmKN μ μ7 := by rw [e7]; exact hK.sI
  obtain rfl := Option.some.inj hf
  exact mm_vret S hR hS hr hlocks dX4_copyFrom_23
-- X5_has
def fX5_has (h0 : Nat) (x1 : Int32) (μ : MM) : Option (Int32 × MM) :=
  if x1 < 0 then (some (0, μ)) else (if (mI μ h0 2) ≤ x1 then (some (0, μ)) else (some (1, μ)))
set_option maxRecDepth 100000 in
set_option maxHeartbeats 4000000 in
theorem kX5_has_kn {μ : MM} {res : Int32 × MM} {h0 : Nat} {x1 : Int32} (hf : fX5_has h0 x1 μ = some res) : mmKN μ res.2 := by
  have hK : mmKN μ μ := mmKN.rf
  unfold fX5_has at hf
  rcases it_or hf with ⟨c1, hf⟩ | ⟨c1, hf⟩
  · skip
    obtain rfl := Option.some.inj hf
    exact hK
  · skip
    rcases it_or hf with ⟨c2, hf⟩ | ⟨c2, hf⟩
    · skip
      obtain rfl := Option.some.inj hf
      exact hK
    · skip
      obtain rfl := Option.some.inj hf
      exact hK
abbrev rmX5_has : Room := { frames := 0, cells := 0, slots := 0, locals := 0 }
set_option maxRecDepth 100000 in
set_option maxHeartbeats 4000000 in
theorem kX5_has_c (l : Launch) (G : mmG) (A : Nat → Prop) {μ : MM} {res : Int32 × MM} {h0 : Nat} {x1 : Int32} (hk0 : mK μ h0 = 6) (hf : fX5_has h0 x1 μ = some res) : Met l yX5_has [.code yX5_has cX5_has 2 (some (.boolean))] rmX5_has (mmPc G A μ [rf h0, .int x1]) (mmQ G A res.2 (some (.int res.1))) 0 0 A := by
  refine mm_ofW (by decide +kernel) (by simp [lg_sl, rf_cat, int_cat]) ?_
  intro p e s m below meth c ls S hR hA hS hr hlocks hl hnm
  have hl : lv_has ls 2 [(0, rf h0), (1, .int x1)] := by simpa [lv_args, rf_cat, int_cat] using hl
  have E0 : mmEnv p m c cX5_has 2 s _ RX5 G A meth (some (.boolean)) := ⟨S, hA, hr, hlocks⟩
  have hK : mmKN μ μ := mmKN.rf
  unfold fX5_has at hf
  refine lv_iload_n S.1 S.2.1 dX5_has_0 rfl (lv_at hl 1 rfl) ?_
  refine lv_if_lt (tgt := 16) S.1 S.2.1 dX5_has_1 (by decide) (fun c1 => ?_) (fun c1 => ?_)
  · have hf := it_t hf c1
    refine lv_iconst (v := 0) S.1 S.2.1 dX5_has_16 (by decide) ?_
    obtain rfl := Option.some.inj hf
    exact mm_zret S hR hS hr hlocks (Or.inl rfl) dX5_has_17
  · have hf := it_f hf c1
    refine lv_iload_n S.1 S.2.1 dX5_has_4 rfl (lv_at hl 1 rfl) ?_
    refine mm_aload_n S dX5_has_5 rfl (lv_at hl 0 rfl) ?_
    refine mm_geti S hR fdX5_18 (hK.k hk0) rfl dX5_has_6 ?_
    refine lv_icmp_ge (tgt := 16) S.1 S.2.1 dX5_has_9 (by decide) (fun c2 => ?_) (fun c2 => ?_)
    · have hf := it_t hf c2
      refine lv_iconst (v := 0) S.1 S.2.1 dX5_has_16 (by decide) ?_
      obtain rfl := Option.some.inj hf
      exact mm_zret S hR hS hr hlocks (Or.inl rfl) dX5_has_17
    · have hf := it_f hf c2
      refine lv_iconst (v := 1) S.1 S.2.1 dX5_has_12 (by decide) ?_
      refine lv_goto (tgt := 17) S.1 S.2.1 dX5_has_13 (by decide) ?_
      obtain rfl := Option.some.inj hf
      exact mm_zret S hR hS hr hlocks (Or.inr rfl) dX5_has_17
-- X5_isFull
def fX5_isFull (h0 : Nat) (μ : MM) : Option (Int32 × MM) :=
  if (mI μ h0 2) < (6 : Int32) then (some (0, μ)) else (some (1, μ))
set_option maxRecDepth 100000 in
set_option maxHeartbeats 4000000 in
theorem kX5_isFull_kn {μ : MM} {res : Int32 × MM} {h0 : Nat} (hf : fX5_isFull h0 μ = some res) : mmKN μ res.2 := by
  have hK : mmKN μ μ := mmKN.rf
  unfold fX5_isFull at hf
  rcases it_or hf with ⟨c1, hf⟩ | ⟨c1, hf⟩
  · skip
    obtain rfl := Option.some.inj hf
    exact hK
  · skip
    obtain rfl := Option.some.inj hf
    exact hK
abbrev rmX5_isFull : Room := { frames := 0, cells := 0, slots := 0, locals := 0 }
set_option maxRecDepth 100000 in
set_option maxHeartbeats 4000000 in
theorem kX5_isFull_c (l : Launch) (G : mmG) (A : Nat → Prop) {μ : MM} {res : Int32 × MM} {h0 : Nat} (hk0 : mK μ h0 = 6) (hf : fX5_isFull h0 μ = some res) : Met l yX5_isFull [.code yX5_isFull cX5_isFull 1 (some (.boolean))] rmX5_isFull (mmPc G A μ [rf h0]) (mmQ G A res.2 (some (.int res.1))) 0 0 A := by
  refine mm_ofW (by decide +kernel) (by simp [lg_sl, rf_cat, int_cat]) ?_
  intro p e s m below meth c ls S hR hA hS hr hlocks hl hnm
  have hl : lv_has ls 1 [(0, rf h0)] := by simpa [lv_args, rf_cat, int_cat] using hl
  have E0 : mmEnv p m c cX5_isFull 1 s _ RX5 G A meth (some (.boolean)) := ⟨S, hA, hr, hlocks⟩
  have hK : mmKN μ μ := mmKN.rf
  unfold fX5_isFull at hf
  refine mm_aload_n S dX5_isFull_0 rfl (lv_at hl 0 rfl) ?_
  refine mm_geti S hR fdX5_18 (hK.k hk0) rfl dX5_isFull_1 ?_
  refine lv_bipush (v := 6) S.1 S.2.1 dX5_isFull_4 (by decide) ?_
  refine lv_icmp_lt (tgt := 13) S.1 S.2.1 dX5_isFull_6 (by decide) (fun c1 => ?_) (fun c1 => ?_)
  · have hf := it_t hf c1
    refine lv_iconst (v := 0) S.1 S.2.1 dX5_isFull_13 (by decide) ?_
    obtain rfl := Option.some.inj hf
    exact mm_zret S hR hS hr hlocks (Or.inl rfl) dX5_isFull_14
  · have hf := it_f hf c1
    refine lv_iconst (v := 1) S.1 S.2.1 dX5_isFull_9 (by decide) ?_
    refine lv_goto (tgt := 14) S.1 S.2.1 dX5_isFull_10 (by decide) ?_
    obtain rfl := Option.some.inj hf
    exact mm_zret S hR hS hr hlocks (Or.inr rfl) dX5_isFull_14
-- X5_signAt
def fX5_signAt (h0 : Nat) (x1 : Int32) (μ : MM) : Option (Int32 × MM) :=
  (fX5_has h0 x1 μ).bind fun y1 => if y1.1 = 0 then (some (0, y1.2)) else (if mK μ (mP y1.2 h0 0) = 20 then if ¬ (x1 < 0 ∨ mN y1.2 (mP y1.2 h0 0) ≤ x1.toNatClampNeg) then some ((mI y1.2 (mP y1.2 h0 0) x1.toNatClampNeg), y1.2) else none else none)
set_option maxRecDepth 100000 in
set_option maxHeartbeats 4000000 in
theorem kX5_signAt_kn {μ : MM} {res : Int32 × MM} {h0 : Nat} {x1 : Int32} (hf : fX5_signAt h0 x1 μ = some res) : mmKN μ res.2 := by
  have hK : mmKN μ μ := mmKN.rf
  unfold fX5_signAt at hf
  obtain ⟨y1, hy1, hf⟩ := bd hf
  have hK : mmKN μ y1.2 := hK.tr (kX5_has_kn hy1)
  rcases it_or hf with ⟨c2, hf⟩ | ⟨c2, hf⟩
  · skip
    obtain rfl := Option.some.inj hf
    exact hK
  · skip
    obtain ⟨g3, hf⟩ := gd hf
    obtain ⟨g4, hf⟩ := gd hf
    obtain rfl := Option.some.inj hf
    exact hK
abbrev rmX5_signAt : Room := { frames := 1, cells := 0, slots := 0, locals := 21 }
set_option maxRecDepth 100000 in
set_option maxHeartbeats 4000000 in
theorem kX5_signAt_c (l : Launch) (G : mmG) (A : Nat → Prop) {μ : MM} {res : Int32 × MM} {h0 : Nat} {x1 : Int32} (hk0 : mK μ h0 = 6) (hf : fX5_signAt h0 x1 μ = some res) : Met l yX5_signAt [.code yX5_signAt cX5_signAt 2 (some (.int))] rmX5_signAt (mmPc G A μ [rf h0, .int x1]) (mmQ G A res.2 (some (.int res.1))) 0 0 A := by
  refine mm_ofW (by decide +kernel) (by simp [lg_sl, rf_cat, int_cat]) ?_
  intro p e s m below meth c ls S hR hA hS hr hlocks hl hnm
  have hl : lv_has ls 2 [(0, rf h0), (1, .int x1)] := by simpa [lv_args, rf_cat, int_cat] using hl
  have E0 : mmEnv p m c cX5_signAt 2 s _ RX5 G A meth (some (.int)) := ⟨S, hA, hr, hlocks⟩
  have hK : mmKN μ μ := mmKN.rf
  unfold fX5_signAt at hf
  refine mm_aload_n S dX5_signAt_0 rfl (lv_at hl 0 rfl) ?_
  refine lv_iload_n S.1 S.2.1 dX5_signAt_1 rfl (lv_at hl 1 rfl) ?_
  obtain ⟨y1, hy1, hf⟩ := bd hf
  refine mm_callVi S hR hS hA (As := [.int x1]) (rest := []) cvX5_22 (hK.k hk0) (kX5_has_c l G A (hK.k hk0) hy1) rfl rfl ⟨Nat.le_of_ble_eq_true rfl, Nat.le_of_ble_eq_true rfl⟩ rfl hl.1 rfl (lv_room (by simp [rf_cat, int_cat])) dX5_signAt_2 ⟨Nat.le_refl _, Nat.le_refl _⟩ (fun H locs hR hS => ?_)
  have hK : mmKN μ y1.2 := hK.tr (kX5_has_kn hy1)
  refine lv_if_eq (tgt := 17) S.1 S.2.1 dX5_signAt_5 (by decide) (fun c2 => ?_) (fun c2 => ?_)
  · have hf := it_t hf c2
    refine lv_iconst (v := 0) S.1 S.2.1 dX5_signAt_17 (by decide) ?_
    obtain rfl := Option.some.inj hf
    exact mm_iret S hR hS hr hlocks dX5_signAt_18
  · have hf := it_f hf c2
    refine mm_aload_n S dX5_signAt_8 rfl (lv_at hl 0 rfl) ?_
    refine mm_getp S hR fdX5_9 (hK.k hk0) rfl dX5_signAt_9 ?_
    refine lv_iload_n S.1 S.2.1 dX5_signAt_12 rfl (lv_at hl 1 rfl) ?_
    obtain ⟨g3, hf⟩ := gd hf
    obtain ⟨g4, hf⟩ := gd hf
    refine mm_iald S hR (hK.k g3) g4 dX5_signAt_13 ?_
    refine lv_goto (tgt := 18) S.1 S.2.1 dX5_signAt_14 (by decide) ?_
    obtain rfl := Option.some.inj hf
    exact mm_iret S hR hS hr hlocks dX5_signAt_18
-- X5_lastSign
def fX5_lastSign (h0 : Nat) (μ : MM) : Option (Int32 × MM) :=
  if (mI μ h0 2) ≤ 0 then (some (0, μ)) else (if (6 : Int32) < (mI μ h0 2) then (some (0, μ)) else (if mK μ (mP μ h0 0) = 20 then if ¬ (((mI μ h0 2) - 1) < 0 ∨ mN μ (mP μ h0 0) ≤ ((mI μ h0 2) - 1).toNatClampNeg) then some ((mI μ (mP μ h0 0) ((mI μ h0 2) - 1).toNatClampNeg), μ) else none else none))
set_option maxRecDepth 100000 in
set_option maxHeartbeats 4000000 in
theorem kX5_lastSign_kn {μ : MM} {res : Int32 × MM} {h0 : Nat} (hf : fX5_lastSign h0 μ = some res) : mmKN μ res.2 := by
  have hK : mmKN μ μ := mmKN.rf
  unfold fX5_lastSign at hf
  rcases it_or hf with ⟨c1, hf⟩ | ⟨c1, hf⟩
  · skip
    obtain rfl := Option.some.inj hf
    exact hK
  · skip
    rcases it_or hf with ⟨c2, hf⟩ | ⟨c2, hf⟩
    · skip
      obtain rfl := Option.some.inj hf
      exact hK
    · skip
      obtain ⟨g3, hf⟩ := gd hf
      obtain ⟨g4, hf⟩ := gd hf
      obtain rfl := Option.some.inj hf
      exact hK
abbrev rmX5_lastSign : Room := { frames := 0, cells := 0, slots := 0, locals := 0 }
set_option maxRecDepth 100000 in
set_option maxHeartbeats 4000000 in
theorem kX5_lastSign_c (l : Launch) (G : mmG) (A : Nat → Prop) {μ : MM} {res : Int32 × MM} {h0 : Nat} (hk0 : mK μ h0 = 6) (hf : fX5_lastSign h0 μ = some res) : Met l yX5_lastSign [.code yX5_lastSign cX5_lastSign 1 (some (.int))] rmX5_lastSign (mmPc G A μ [rf h0]) (mmQ G A res.2 (some (.int res.1))) 0 0 A := by
  refine mm_ofW (by decide +kernel) (by simp [lg_sl, rf_cat, int_cat]) ?_
  intro p e s m below meth c ls S hR hA hS hr hlocks hl hnm
  have hl : lv_has ls 1 [(0, rf h0)] := by simpa [lv_args, rf_cat, int_cat] using hl
  have E0 : mmEnv p m c cX5_lastSign 1 s _ RX5 G A meth (some (.int)) := ⟨S, hA, hr, hlocks⟩
  have hK : mmKN μ μ := mmKN.rf
  unfold fX5_lastSign at hf
  refine mm_aload_n S dX5_lastSign_0 rfl (lv_at hl 0 rfl) ?_
  refine mm_geti S hR fdX5_18 (hK.k hk0) rfl dX5_lastSign_1 ?_
  refine lv_if_le (tgt := 30) S.1 S.2.1 dX5_lastSign_4 (by decide) (fun c1 => ?_) (fun c1 => ?_)
  · have hf := it_t hf c1
    refine lv_iconst (v := 0) S.1 S.2.1 dX5_lastSign_30 (by decide) ?_
    obtain rfl := Option.some.inj hf
    exact mm_iret S hR hS hr hlocks dX5_lastSign_31
  · have hf := it_f hf c1
    refine mm_aload_n S dX5_lastSign_7 rfl (lv_at hl 0 rfl) ?_
    refine mm_geti S hR fdX5_18 (hK.k hk0) rfl dX5_lastSign_8 ?_
    refine lv_bipush (v := 6) S.1 S.2.1 dX5_lastSign_11 (by decide) ?_
    refine lv_icmp_gt (tgt := 30) S.1 S.2.1 dX5_lastSign_13 (by decide) (fun c2 => ?_) (fun c2 => ?_)
    · have hf := it_t hf c2
      refine lv_iconst (v := 0) S.1 S.2.1 dX5_lastSign_30 (by decide) ?_
      obtain rfl := Option.some.inj hf
      exact mm_iret S hR hS hr hlocks dX5_lastSign_31
    · have hf := it_f hf c2
      refine mm_aload_n S dX5_lastSign_16 rfl (lv_at hl 0 rfl) ?_
      refine mm_getp S hR fdX5_9 (hK.k hk0) rfl dX5_lastSign_17 ?_
      refine mm_aload_n S dX5_lastSign_20 rfl (lv_at hl 0 rfl) ?_
      refine mm_geti S hR fdX5_18 (hK.k hk0) rfl dX5_lastSign_21 ?_
      refine lv_iconst (v := 1) S.1 S.2.1 dX5_lastSign_24 (by decide) ?_
      refine lv_isub S.1 S.2.1 dX5_lastSign_25 ?_
      obtain ⟨g3, hf⟩ := gd hf
      obtain ⟨g4, hf⟩ := gd hf
      refine mm_iald S hR (hK.k g3) g4 dX5_lastSign_26 ?_
      refine lv_goto (tgt := 31) S.1 S.2.1 dX5_lastSign_27 (by decide) ?_
      obtain rfl := Option.some.inj hf
      exact mm_iret S hR hS hr hlocks dX5_lastSign_31
-- X5_lastMark
def fX5_lastMark (h0 : Nat) (μ : MM) : Option (Int32 × MM) :=
  if (mI μ h0 2) ≤ 0 then (some (0, μ)) else (if (6 : Int32) < (mI μ h0 2) then (some (0, μ)) else (if mK μ (mP μ h0 1) = 20 then if ¬ (((mI μ h0 2) - 1) < 0 ∨ mN μ (mP μ h0 1) ≤ ((mI μ h0 2) - 1).toNatClampNeg) then some ((mI μ (mP μ h0 1) ((mI μ h0 2) - 1).toNatClampNeg), μ) else none else none))
set_option maxRecDepth 100000 in
set_option maxHeartbeats 4000000 in
theorem kX5_lastMark_kn {μ : MM} {res : Int32 × MM} {h0 : Nat} (hf : fX5_lastMark h0 μ = some res) : mmKN μ res.2 := by
  have hK : mmKN μ μ := mmKN.rf
  unfold fX5_lastMark at hf
  rcases it_or hf with ⟨c1, hf⟩ | ⟨c1, hf⟩
  · skip
    obtain rfl := Option.some.inj hf
    exact hK
  · skip
    rcases it_or hf with ⟨c2, hf⟩ | ⟨c2, hf⟩
    · skip
      obtain rfl := Option.some.inj hf
      exact hK
    · skip
      obtain ⟨g3, hf⟩ := gd hf
      obtain ⟨g4, hf⟩ := gd hf
      obtain rfl := Option.some.inj hf
      exact hK
abbrev rmX5_lastMark : Room := { frames := 0, cells := 0, slots := 0, locals := 0 }
set_option maxRecDepth 100000 in
set_option maxHeartbeats 4000000 in
theorem kX5_lastMark_c (l : Launch) (G : mmG) (A : Nat → Prop) {μ : MM} {res : Int32 × MM} {h0 : Nat} (hk0 : mK μ h0 = 6) (hf : fX5_lastMark h0 μ = some res) : Met l yX5_lastMark [.code yX5_lastMark cX5_lastMark 1 (some (.int))] rmX5_lastMark (mmPc G A μ [rf h0]) (mmQ G A res.2 (some (.int res.1))) 0 0 A := by
  refine mm_ofW (by decide +kernel) (by simp [lg_sl, rf_cat, int_cat]) ?_
  intro p e s m below meth c ls S hR hA hS hr hlocks hl hnm
  have hl : lv_has ls 1 [(0, rf h0)] := by simpa [lv_args, rf_cat, int_cat] using hl
  have E0 : mmEnv p m c cX5_lastMark 1 s _ RX5 G A meth (some (.int)) := ⟨S, hA, hr, hlocks⟩
  have hK : mmKN μ μ := mmKN.rf
  unfold fX5_lastMark at hf
  refine mm_aload_n S dX5_lastMark_0 rfl (lv_at hl 0 rfl) ?_
  refine mm_geti S hR fdX5_18 (hK.k hk0) rfl dX5_lastMark_1 ?_
  refine lv_if_le (tgt := 30) S.1 S.2.1 dX5_lastMark_4 (by decide) (fun c1 => ?_) (fun c1 => ?_)
  · have hf := it_t hf c1
    refine lv_iconst (v := 0) S.1 S.2.1 dX5_lastMark_30 (by decide) ?_
    obtain rfl := Option.some.inj hf
    exact mm_iret S hR hS hr hlocks dX5_lastMark_31
  · have hf := it_f hf c1
    refine mm_aload_n S dX5_lastMark_7 rfl (lv_at hl 0 rfl) ?_
    refine mm_geti S hR fdX5_18 (hK.k hk0) rfl dX5_lastMark_8 ?_
    refine lv_bipush (v := 6) S.1 S.2.1 dX5_lastMark_11 (by decide) ?_
    refine lv_icmp_gt (tgt := 30) S.1 S.2.1 dX5_lastMark_13 (by decide) (fun c2 => ?_) (fun c2 => ?_)
    · have hf := it_t hf c2
      refine lv_iconst (v := 0) S.1 S.2.1 dX5_lastMark_30 (by decide) ?_
      obtain rfl := Option.some.inj hf
      exact mm_iret S hR hS hr hlocks dX5_lastMark_31
    · have hf := it_f hf c2
      refine mm_aload_n S dX5_lastMark_16 rfl (lv_at hl 0 rfl) ?_
      refine mm_getp S hR fdX5_15 (hK.k hk0) rfl dX5_lastMark_17 ?_
      refine mm_aload_n S dX5_lastMark_20 rfl (lv_at hl 0 rfl) ?_
      refine mm_geti S hR fdX5_18 (hK.k hk0) rfl dX5_lastMark_21 ?_
      refine lv_iconst (v := 1) S.1 S.2.1 dX5_lastMark_24 (by decide) ?_
      refine lv_isub S.1 S.2.1 dX5_lastMark_25 ?_
      obtain ⟨g3, hf⟩ := gd hf
      obtain ⟨g4, hf⟩ := gd hf
      refine mm_iald S hR (hK.k g3) g4 dX5_lastMark_26 ?_
      refine lv_goto (tgt := 31) S.1 S.2.1 dX5_lastMark_27 (by decide) ?_
      obtain rfl := Option.some.inj hf
      exact mm_iret S hR hS hr hlocks dX5_lastMark_31
-- X5_put
def fX5_put (h0 : Nat) (x1 : Int32) (x2 : Int32) (μ : MM) : Option (MM) :=
  if (mI μ h0 2) < 0 then (some μ) else (if (6 : Int32) ≤ (mI μ h0 2) then (some μ) else (if mK μ (mP μ h0 0) = 20 then if ¬ ((mI μ h0 2) < 0 ∨ mN μ (mP μ h0 0) ≤ (mI μ h0 2).toNatClampNeg) then st (sI μ (mP μ h0 0) (mI μ h0 2).toNatClampNeg x1) fun μ5 => if mK μ (mP μ5 h0 1) = 20 then if ¬ ((mI μ5 h0 2) < 0 ∨ mN μ5 (mP μ5 h0 1) ≤ (mI μ5 h0 2).toNatClampNeg) then st (sI μ5 (mP μ5 h0 1) (mI μ5 h0 2).toNatClampNeg x2) fun μ8 => st (sI μ8 h0 2 ((mI μ8 h0 2) + 1)) fun μ9 => some μ9 else none else none else none else none))
set_option maxRecDepth 100000 in
set_option maxHeartbeats 4000000 in
theorem kX5_put_kn {μ : MM} {res : MM} {h0 : Nat} {x1 : Int32} {x2 : Int32} (hf : fX5_put h0 x1 x2 μ = some res) : mmKN μ res := by
  have hK : mmKN μ μ := mmKN.rf
  unfold fX5_put at hf
  rcases it_or hf with ⟨c1, hf⟩ | ⟨c1, hf⟩
  · skip
    obtain rfl := Option.some.inj hf
    exact hK
  · skip
    rcases it_or hf with ⟨c2, hf⟩ | ⟨c2, hf⟩
    · skip
      obtain rfl := Option.some.inj hf
      exact hK
    · skip
      obtain ⟨g3, hf⟩ := gd hf
      obtain ⟨g4, hf⟩ := gd hf
      obtain ⟨μ5, e5, hf⟩ := stx hf
      have hK : mmKN μ μ5 := by rw [e5]; exact hK.sI
      obtain ⟨g6, hf⟩ := gd hf
      obtain ⟨g7, hf⟩ := gd hf
      obtain ⟨μ8, e8, hf⟩ := stx hf
      have hK : mmKN μ μ8 := by rw [e8]; exact hK.sI
      obtain ⟨μ9, e9, hf⟩ := stx hf
      have hK : mmKN μ μ9 := by rw [e9]; exact hK.sI
      obtain rfl := Option.some.inj hf
      exact hK
abbrev rmX5_put : Room := { frames := 0, cells := 0, slots := 0, locals := 0 }
set_option maxRecDepth 100000 in
set_option maxHeartbeats 4000000 in
theorem kX5_put_c (l : Launch) (G : mmG) (A : Nat → Prop) {μ : MM} {res : MM} {h0 : Nat} {x1 : Int32} {x2 : Int32} (hk0 : mK μ h0 = 6) (hf : fX5_put h0 x1 x2 μ = some res) : Met l yX5_put [.code yX5_put cX5_put 3 none] rmX5_put (mmPc G A μ [rf h0, .int x1, .int x2]) (mmQ G A res none) 0 0 A := by
  refine mm_ofW (by decide +kernel) (by simp [lg_sl, rf_cat, int_cat]) ?_
  intro p e s m below meth c ls S hR hA hS hr hlocks hl hnm
  have hl : lv_has ls 3 [(0, rf h0), (1, .int x1), (2, .int x2)] := by simpa [lv_args, rf_cat, int_cat] using hl
  have E0 : mmEnv p m c cX5_put 3 s _ RX5 G A meth none := ⟨S, hA, hr, hlocks⟩
  have hK : mmKN μ μ := mmKN.rf
  unfold fX5_put at hf
  refine mm_aload_n S dX5_put_0 rfl (lv_at hl 0 rfl) ?_
  refine mm_geti S hR fdX5_18 (hK.k hk0) rfl dX5_put_1 ?_
  refine lv_if_lt (tgt := 46) S.1 S.2.1 dX5_put_4 (by decide) (fun c1 => ?_) (fun c1 => ?_)
  · have hf := it_t hf c1
    obtain rfl := Option.some.inj hf
    exact mm_vret S hR hS hr hlocks dX5_put_46
  · have hf := it_f hf c1
    refine mm_aload_n S dX5_put_7 rfl (lv_at hl 0 rfl) ?_
    refine mm_geti S hR fdX5_18 (hK.k hk0) rfl dX5_put_8 ?_
    refine lv_bipush (v := 6) S.1 S.2.1 dX5_put_11 (by decide) ?_
    refine lv_icmp_ge (tgt := 46) S.1 S.2.1 dX5_put_13 (by decide) (fun c2 => ?_) (fun c2 => ?_)
    · have hf := it_t hf c2
      obtain rfl := Option.some.inj hf
      exact mm_vret S hR hS hr hlocks dX5_put_46
    · have hf := it_f hf c2
      refine mm_aload_n S dX5_put_16 rfl (lv_at hl 0 rfl) ?_
      refine mm_getp S hR fdX5_9 (hK.k hk0) rfl dX5_put_17 ?_
      refine mm_aload_n S dX5_put_20 rfl (lv_at hl 0 rfl) ?_
      refine mm_geti S hR fdX5_18 (hK.k hk0) rfl dX5_put_21 ?_
      refine lv_iload_n S.1 S.2.1 dX5_put_24 rfl (lv_at hl 1 rfl) ?_
      obtain ⟨g3, hf⟩ := gd hf
      obtain ⟨g4, hf⟩ := gd hf
      refine mm_iast S hR hS (hK.k g3) g4 dX5_put_25 (fun H locs hR hS => ?_)
      obtain ⟨μ5, e5, hf⟩ := stx hf
      rw [← e5] at hR
      have hK : mmKN μ μ5 := by rw [e5]; exact hK.sI
      refine mm_aload_n S dX5_put_26 rfl (lv_at hl 0 rfl) ?_
      refine mm_getp S hR fdX5_15 (hK.k hk0) rfl dX5_put_27 ?_
      refine mm_aload_n S dX5_put_30 rfl (lv_at hl 0 rfl) ?_
      refine mm_geti S hR fdX5_18 (hK.k hk0) rfl dX5_put_31 ?_
      refine lv_iload_n S.1 S.2.1 dX5_put_34 rfl (lv_at hl 2 rfl) ?_
      obtain ⟨g6, hf⟩ := gd hf
      obtain ⟨g7, hf⟩ := gd hf
      refine mm_iast S hR hS (hK.k g6) g7 dX5_put_35 (fun H locs hR hS => ?_)
      obtain ⟨μ8, e8, hf⟩ := stx hf
      rw [← e8] at hR
      have hK : mmKN μ μ8 := by rw [e8]; exact hK.sI
      refine mm_aload_n S dX5_put_36 rfl (lv_at hl 0 rfl) ?_
      refine lv_dup S.1 S.2.1 dX5_put_37 (rf_cat _) ?_
      refine mm_geti S hR fdX5_18 (hK.k hk0) rfl dX5_put_38 ?_
      refine lv_iconst (v := 1) S.1 S.2.1 dX5_put_41 (by decide) ?_
      refine lv_iadd S.1 S.2.1 dX5_put_42 ?_
      refine mm_puti S hR hS fpX5_18 (hK.k hk0) rfl rfl rfl dX5_put_43 (fun H locs hR hS => ?_)
      obtain ⟨μ9, e9, hf⟩ := stx hf
      rw [← e9] at hR
      have hK : mmKN μ μ9 := by rw [e9]; exact hK.sI
      obtain rfl := Option.some.inj hf
      exact mm_vret S hR hS hr hlocks dX5_put_46
-- X5_takeOff
def fX5_takeOff (h0 : Nat) (μ : MM) : Option (MM) :=
  if (mI μ h0 2) ≤ 0 then (some μ) else (st (sI μ h0 2 ((mI μ h0 2) - 1)) fun μ2 => some μ2)
set_option maxRecDepth 100000 in
set_option maxHeartbeats 4000000 in
theorem kX5_takeOff_kn {μ : MM} {res : MM} {h0 : Nat} (hf : fX5_takeOff h0 μ = some res) : mmKN μ res := by
  have hK : mmKN μ μ := mmKN.rf
  unfold fX5_takeOff at hf
  rcases it_or hf with ⟨c1, hf⟩ | ⟨c1, hf⟩
  · skip
    obtain rfl := Option.some.inj hf
    exact hK
  · skip
    obtain ⟨μ2, e2, hf⟩ := stx hf
    have hK : mmKN μ μ2 := by rw [e2]; exact hK.sI
    obtain rfl := Option.some.inj hf
    exact hK
abbrev rmX5_takeOff : Room := { frames := 0, cells := 0, slots := 0, locals := 0 }
set_option maxRecDepth 100000 in
set_option maxHeartbeats 4000000 in
theorem kX5_takeOff_c (l : Launch) (G : mmG) (A : Nat → Prop) {μ : MM} {res : MM} {h0 : Nat} (hk0 : mK μ h0 = 6) (hf : fX5_takeOff h0 μ = some res) : Met l yX5_takeOff [.code yX5_takeOff cX5_takeOff 1 none] rmX5_takeOff (mmPc G A μ [rf h0]) (mmQ G A res none) 0 0 A := by
  refine mm_ofW (by decide +kernel) (by simp [lg_sl, rf_cat, int_cat]) ?_
  intro p e s m below meth c ls S hR hA hS hr hlocks hl hnm
  have hl : lv_has ls 1 [(0, rf h0)] := by simpa [lv_args, rf_cat, int_cat] using hl
  have E0 : mmEnv p m c cX5_takeOff 1 s _ RX5 G A meth none := ⟨S, hA, hr, hlocks⟩
  have hK : mmKN μ μ := mmKN.rf
  unfold fX5_takeOff at hf
  refine mm_aload_n S dX5_takeOff_0 rfl (lv_at hl 0 rfl) ?_
  refine mm_geti S hR fdX5_18 (hK.k hk0) rfl dX5_takeOff_1 ?_
  refine lv_if_le (tgt := 17) S.1 S.2.1 dX5_takeOff_4 (by decide) (fun c1 => ?_) (fun c1 => ?_)
  · have hf := it_t hf c1
    obtain rfl := Option.some.inj hf
    exact mm_vret S hR hS hr hlocks dX5_takeOff_17
  · have hf := it_f hf c1
    refine mm_aload_n S dX5_takeOff_7 rfl (lv_at hl 0 rfl) ?_
    refine lv_dup S.1 S.2.1 dX5_takeOff_8 (rf_cat _) ?_
    refine mm_geti S hR fdX5_18 (hK.k hk0) rfl dX5_takeOff_9 ?_
    refine lv_iconst (v := 1) S.1 S.2.1 dX5_takeOff_12 (by decide) ?_
    refine lv_isub S.1 S.2.1 dX5_takeOff_13 ?_
    refine mm_puti S hR hS fpX5_18 (hK.k hk0) rfl rfl rfl dX5_takeOff_14 (fun H locs hR hS => ?_)
    obtain ⟨μ2, e2, hf⟩ := stx hf
    rw [← e2] at hR
    have hK : mmKN μ μ2 := by rw [e2]; exact hK.sI
    obtain rfl := Option.some.inj hf
    exact mm_vret S hR hS hr hlocks dX5_takeOff_17
-- X5_copyFrom
def fX5_copyFrom (h0 : Nat) (h1 : Nat) (μ : MM) : Option (MM) :=
  if mK μ h1 = 6 then if mK μ (mP μ h1 0) = 20 then if mK μ (mP μ h0 0) = 20 then if (6 : Int32).toNatClampNeg ≤ mN μ (mP μ h1 0) then if (6 : Int32).toNatClampNeg ≤ mN μ (mP μ h0 0) then st (sC μ (mP μ h1 0) (mP μ h0 0) (6 : Int32).toNatClampNeg) fun μ6 => if mK μ (mP μ6 h1 1) = 20 then if mK μ (mP μ6 h0 1) = 20 then if (6 : Int32).toNatClampNeg ≤ mN μ6 (mP μ6 h1 1) then if (6 : Int32).toNatClampNeg ≤ mN μ6 (mP μ6 h0 1) then st (sC μ6 (mP μ6 h1 1) (mP μ6 h0 1) (6 : Int32).toNatClampNeg) fun μ11 => st (sI μ11 h0 2 (mI μ11 h1 2)) fun μ12 => some μ12 else none else none else none else none else none else none else none else none else none
set_option maxRecDepth 100000 in
set_option maxHeartbeats 4000000 in
theorem kX5_copyFrom_kn {μ : MM} {res : MM} {h0 : Nat} {h1 : Nat} (hf : fX5_copyFrom h0 h1 μ = some res) : mmKN μ res := by
  have hK : mmKN μ μ := mmKN.rf
  unfold fX5_copyFrom at hf
  obtain ⟨g1, hf⟩ := gd hf
  obtain ⟨g2, hf⟩ := gd hf
  obtain ⟨g3, hf⟩ := gd hf
  obtain ⟨g4, hf⟩ := gd hf
  obtain ⟨g5, hf⟩ := gd hf
  obtain ⟨μ6, e6, hf⟩ := stx hf
  have hK : mmKN μ μ6 := by rw [e6]; exact hK.sC
  obtain ⟨g7, hf⟩ := gd hf
  obtain ⟨g8, hf⟩ := gd hf
  obtain ⟨g9, hf⟩ := gd hf
  obtain ⟨g10, hf⟩ := gd hf
  obtain ⟨μ11, e11, hf⟩ := stx hf
  have hK : mmKN μ μ11 := by rw [e11]; exact hK.sC
  obtain ⟨μ12, e12, hf⟩ := stx hf
  have hK : mmKN μ μ12 := by rw [e12]; exact hK.sI
  obtain rfl := Option.some.inj hf
  exact hK
abbrev rmX5_copyFrom : Room := { frames := 1, cells := 0, slots := 0, locals := 26 }
set_option maxRecDepth 100000 in
set_option maxHeartbeats 4000000 in
theorem kX5_copyFrom_c (l : Launch) (G : mmG) (A : Nat → Prop) {μ : MM} {res : MM} {h0 : Nat} {h1 : Nat} (hk0 : mK μ h0 = 6) (hf : fX5_copyFrom h0 h1 μ = some res) : Met l yX5_copyFrom [.code yX5_copyFrom cX5_copyFrom 2 none] rmX5_copyFrom (mmPc G A μ [rf h0, rf h1]) (mmQ G A res none) 0 0 A := by
  refine mm_ofW (by decide +kernel) (by simp [lg_sl, rf_cat, int_cat]) ?_
  intro p e s m below meth c ls S hR hA hS hr hlocks hl hnm
  have hl : lv_has ls 2 [(0, rf h0), (1, rf h1)] := by simpa [lv_args, rf_cat, int_cat] using hl
  have E0 : mmEnv p m c cX5_copyFrom 2 s _ RX5 G A meth none := ⟨S, hA, hr, hlocks⟩
  have hK : mmKN μ μ := mmKN.rf
  unfold fX5_copyFrom at hf
  refine mm_aload_n S dX5_copyFrom_0 rfl (lv_at hl 1 rfl) ?_
  obtain ⟨g1, hf⟩ := gd hf
  refine mm_getp S hR fdX5_9 (hK.k g1) rfl dX5_copyFrom_1 ?_
  refine lv_iconst (v := 0) S.1 S.2.1 dX5_copyFrom_4 (by decide) ?_
  refine mm_aload_n S dX5_copyFrom_5 rfl (lv_at hl 0 rfl) ?_
  refine mm_getp S hR fdX5_9 (hK.k hk0) rfl dX5_copyFrom_6 ?_
  refine lv_iconst (v := 0) S.1 S.2.1 dX5_copyFrom_9 (by decide) ?_
  refine lv_bipush (v := 6) S.1 S.2.1 dX5_copyFrom_10 (by decide) ?_
  obtain ⟨g2, hf⟩ := gd hf
  obtain ⟨g3, hf⟩ := gd hf
  obtain ⟨g4, hf⟩ := gd hf
  obtain ⟨g5, hf⟩ := gd hf
  refine mm_copy S hR hS cpX5_26 (hK.k g2) (hK.k g3) (by decide) g4 g5 hl.1 (Nat.le_of_ble_eq_true rfl) (by simp [rf_cat, int_cat]) dX5_copyFrom_12 (fun H locs hR hS => ?_)
  obtain ⟨μ6, e6, hf⟩ := stx hf
  rw [← e6] at hR
  have hK : mmKN μ μ6 := by rw [e6]; exact hK.sC
  refine mm_aload_n S dX5_copyFrom_15 rfl (lv_at hl 1 rfl) ?_
  refine mm_getp S hR fdX5_15 (hK.k g1) rfl dX5_copyFrom_16 ?_
  refine lv_iconst (v := 0) S.1 S.2.1 dX5_copyFrom_19 (by decide) ?_
  refine mm_aload_n S dX5_copyFrom_20 rfl (lv_at hl 0 rfl) ?_
  refine mm_getp S hR fdX5_15 (hK.k hk0) rfl dX5_copyFrom_21 ?_
  refine lv_iconst (v := 0) S.1 S.2.1 dX5_copyFrom_24 (by decide) ?_
  refine lv_bipush (v := 6) S.1 S.2.1 dX5_copyFrom_25 (by decide) ?_
  obtain ⟨g7, hf⟩ := gd hf
  obtain ⟨g8, hf⟩ := gd hf
  obtain ⟨g9, hf⟩ := gd hf
  obtain ⟨g10, hf⟩ := gd hf
  refine mm_copy S hR hS cpX5_26 (hK.k g7) (hK.k g8) (by decide) g9 g10 hl.1 (Nat.le_of_ble_eq_true rfl) (by simp [rf_cat, int_cat]) dX5_copyFrom_27 (fun H locs hR hS => ?_)
  obtain ⟨μ11, e11, hf⟩ := stx hf
  rw [← e11] at hR
  have hK : mmKN μ μ11 := by rw [e11]; exact hK.sC
  refine mm_aload_n S dX5_copyFrom_30 rfl (lv_at hl 0 rfl) ?_
  refine mm_aload_n S dX5_copyFrom_31 rfl (lv_at hl 1 rfl) ?_
  refine mm_geti S hR fdX5_18 (hK.k g1) rfl dX5_copyFrom_32 ?_
  refine mm_puti S hR hS fpX5_18 (hK.k hk0) rfl rfl rfl dX5_copyFrom_35 (fun H locs hR hS => ?_)
  obtain ⟨μ12, e12, hf⟩ := stx hf
  rw [← e12] at hR
  have hK : mmKN μ μ12 := by rw [e12]; exact hK.sI
  obtain rfl := Option.some.inj hf
  exact mm_vret S hR hS hr hlocks dX5_copyFrom_38
end
section
-- X1_hasLine
def fX1_hasLine (h0 : Nat) (x1 : Int32) (μ : MM) : Option (Int32 × MM) :=
  if x1 < 0 then (some (0, μ)) else (if (mI μ h0 3) ≤ x1 then (some (0, μ)) else (some (1, μ)))
set_option maxRecDepth 100000 in
set_option maxHeartbeats 4000000 in
theorem kX1_hasLine_kn {μ : MM} {res : Int32 × MM} {h0 : Nat} {x1 : Int32} (hf : fX1_hasLine h0 x1 μ = some res) : mmKN μ res.2 := by
  have hK : mmKN μ μ := mmKN.rf
  unfold fX1_hasLine at hf
  rcases it_or hf with ⟨c1, hf⟩ | ⟨c1, hf⟩
  · skip
    obtain rfl := Option.some.inj hf
    exact hK
  · skip
    rcases it_or hf with ⟨c2, hf⟩ | ⟨c2, hf⟩
    · skip
      obtain rfl := Option.some.inj hf
      exact hK
    · skip
      obtain rfl := Option.some.inj hf
      exact hK
abbrev rmX1_hasLine : Room := { frames := 0, cells := 0, slots := 0, locals := 0 }
set_option maxRecDepth 100000 in
set_option maxHeartbeats 4000000 in
theorem kX1_hasLine_c (l : Launch) (G : mmG) (A : Nat → Prop) {μ : MM} {res : Int32 × MM} {h0 : Nat} {x1 : Int32} (hk0 : mK μ h0 = 2) (hf : fX1_hasLine h0 x1 μ = some res) : Met l yX1_hasLine [.code yX1_hasLine cX1_hasLine 2 (some (.boolean))] rmX1_hasLine (mmPc G A μ [rf h0, .int x1]) (mmQ G A res.2 (some (.int res.1))) 0 0 A := by
  refine mm_ofW (by decide +kernel) (by simp [lg_sl, rf_cat, int_cat]) ?_
  intro p e s m below meth c ls S hR hA hS hr hlocks hl hnm
  have hl : lv_has ls 2 [(0, rf h0), (1, .int x1)] := by simpa [lv_args, rf_cat, int_cat] using hl
  have E0 : mmEnv p m c cX1_hasLine 2 s _ RX1 G A meth (some (.boolean)) := ⟨S, hA, hr, hlocks⟩
  have hK : mmKN μ μ := mmKN.rf
  unfold fX1_hasLine at hf
  refine lv_iload_n S.1 S.2.1 dX1_hasLine_0 rfl (lv_at hl 1 rfl) ?_
  refine lv_if_lt (tgt := 16) S.1 S.2.1 dX1_hasLine_1 (by decide) (fun c1 => ?_) (fun c1 => ?_)
  · have hf := it_t hf c1
    refine lv_iconst (v := 0) S.1 S.2.1 dX1_hasLine_16 (by decide) ?_
    obtain rfl := Option.some.inj hf
    exact mm_zret S hR hS hr hlocks (Or.inl rfl) dX1_hasLine_17
  · have hf := it_f hf c1
    refine lv_iload_n S.1 S.2.1 dX1_hasLine_4 rfl (lv_at hl 1 rfl) ?_
    refine mm_aload_n S dX1_hasLine_5 rfl (lv_at hl 0 rfl) ?_
    refine mm_geti S hR fdX1_21 (hK.k hk0) rfl dX1_hasLine_6 ?_
    refine lv_icmp_ge (tgt := 16) S.1 S.2.1 dX1_hasLine_9 (by decide) (fun c2 => ?_) (fun c2 => ?_)
    · have hf := it_t hf c2
      refine lv_iconst (v := 0) S.1 S.2.1 dX1_hasLine_16 (by decide) ?_
      obtain rfl := Option.some.inj hf
      exact mm_zret S hR hS hr hlocks (Or.inl rfl) dX1_hasLine_17
    · have hf := it_f hf c2
      refine lv_iconst (v := 1) S.1 S.2.1 dX1_hasLine_12 (by decide) ?_
      refine lv_goto (tgt := 17) S.1 S.2.1 dX1_hasLine_13 (by decide) ?_
      obtain rfl := Option.some.inj hf
      exact mm_zret S hR hS hr hlocks (Or.inr rfl) dX1_hasLine_17
-- X1_kindAt
def fX1_kindAt (h0 : Nat) (x1 : Int32) (μ : MM) : Option (Int32 × MM) :=
  (fX1_hasLine h0 x1 μ).bind fun y1 => if y1.1 = 0 then (some (11, y1.2)) else (if mK μ (mP y1.2 h0 0) = 20 then if ¬ (x1 < 0 ∨ mN y1.2 (mP y1.2 h0 0) ≤ x1.toNatClampNeg) then some ((mI y1.2 (mP y1.2 h0 0) x1.toNatClampNeg), y1.2) else none else none)
set_option maxRecDepth 100000 in
set_option maxHeartbeats 4000000 in
theorem kX1_kindAt_kn {μ : MM} {res : Int32 × MM} {h0 : Nat} {x1 : Int32} (hf : fX1_kindAt h0 x1 μ = some res) : mmKN μ res.2 := by
  have hK : mmKN μ μ := mmKN.rf
  unfold fX1_kindAt at hf
  obtain ⟨y1, hy1, hf⟩ := bd hf
  have hK : mmKN μ y1.2 := hK.tr (kX1_hasLine_kn hy1)
  rcases it_or hf with ⟨c2, hf⟩ | ⟨c2, hf⟩
  · skip
    obtain rfl := Option.some.inj hf
    exact hK
  · skip
    obtain ⟨g3, hf⟩ := gd hf
    obtain ⟨g4, hf⟩ := gd hf
    obtain rfl := Option.some.inj hf
    exact hK
abbrev rmX1_kindAt : Room := { frames := 1, cells := 0, slots := 0, locals := 21 }
set_option maxRecDepth 100000 in
set_option maxHeartbeats 4000000 in
theorem kX1_kindAt_c (l : Launch) (G : mmG) (A : Nat → Prop) {μ : MM} {res : Int32 × MM} {h0 : Nat} {x1 : Int32} (hk0 : mK μ h0 = 2) (hf : fX1_kindAt h0 x1 μ = some res) : Met l yX1_kindAt [.code yX1_kindAt cX1_kindAt 2 (some (.int))] rmX1_kindAt (mmPc G A μ [rf h0, .int x1]) (mmQ G A res.2 (some (.int res.1))) 0 0 A := by
  refine mm_ofW (by decide +kernel) (by simp [lg_sl, rf_cat, int_cat]) ?_
  intro p e s m below meth c ls S hR hA hS hr hlocks hl hnm
  have hl : lv_has ls 2 [(0, rf h0), (1, .int x1)] := by simpa [lv_args, rf_cat, int_cat] using hl
  have E0 : mmEnv p m c cX1_kindAt 2 s _ RX1 G A meth (some (.int)) := ⟨S, hA, hr, hlocks⟩
  have hK : mmKN μ μ := mmKN.rf
  unfold fX1_kindAt at hf
  refine mm_aload_n S dX1_kindAt_0 rfl (lv_at hl 0 rfl) ?_
  refine lv_iload_n S.1 S.2.1 dX1_kindAt_1 rfl (lv_at hl 1 rfl) ?_
  obtain ⟨y1, hy1, hf⟩ := bd hf
  refine mm_callVi S hR hS hA (As := [.int x1]) (rest := []) cvX1_25 (hK.k hk0) (kX1_hasLine_c l G A (hK.k hk0) hy1) rfl rfl ⟨Nat.le_of_ble_eq_true rfl, Nat.le_of_ble_eq_true rfl⟩ rfl hl.1 rfl (lv_room (by simp [rf_cat, int_cat])) dX1_kindAt_2 ⟨Nat.le_refl _, Nat.le_refl _⟩ (fun H locs hR hS => ?_)
  have hK : mmKN μ y1.2 := hK.tr (kX1_hasLine_kn hy1)
  refine lv_if_eq (tgt := 17) S.1 S.2.1 dX1_kindAt_5 (by decide) (fun c2 => ?_) (fun c2 => ?_)
  · have hf := it_t hf c2
    refine lv_bipush (v := 11) S.1 S.2.1 dX1_kindAt_17 (by decide) ?_
    obtain rfl := Option.some.inj hf
    exact mm_iret S hR hS hr hlocks dX1_kindAt_19
  · have hf := it_f hf c2
    refine mm_aload_n S dX1_kindAt_8 rfl (lv_at hl 0 rfl) ?_
    refine mm_getp S hR fdX1_9 (hK.k hk0) rfl dX1_kindAt_9 ?_
    refine lv_iload_n S.1 S.2.1 dX1_kindAt_12 rfl (lv_at hl 1 rfl) ?_
    obtain ⟨g3, hf⟩ := gd hf
    obtain ⟨g4, hf⟩ := gd hf
    refine mm_iald S hR (hK.k g3) g4 dX1_kindAt_13 ?_
    refine lv_goto (tgt := 19) S.1 S.2.1 dX1_kindAt_14 (by decide) ?_
    obtain rfl := Option.some.inj hf
    exact mm_iret S hR hS hr hlocks dX1_kindAt_19
-- X1_aAt
def fX1_aAt (h0 : Nat) (x1 : Int32) (μ : MM) : Option (Int32 × MM) :=
  (fX1_hasLine h0 x1 μ).bind fun y1 => if y1.1 = 0 then (some (0, y1.2)) else (if mK μ (mP y1.2 h0 1) = 20 then if ¬ (x1 < 0 ∨ mN y1.2 (mP y1.2 h0 1) ≤ x1.toNatClampNeg) then some ((mI y1.2 (mP y1.2 h0 1) x1.toNatClampNeg), y1.2) else none else none)
set_option maxRecDepth 100000 in
set_option maxHeartbeats 4000000 in
theorem kX1_aAt_kn {μ : MM} {res : Int32 × MM} {h0 : Nat} {x1 : Int32} (hf : fX1_aAt h0 x1 μ = some res) : mmKN μ res.2 := by
  have hK : mmKN μ μ := mmKN.rf
  unfold fX1_aAt at hf
  obtain ⟨y1, hy1, hf⟩ := bd hf
  have hK : mmKN μ y1.2 := hK.tr (kX1_hasLine_kn hy1)
  rcases it_or hf with ⟨c2, hf⟩ | ⟨c2, hf⟩
  · skip
    obtain rfl := Option.some.inj hf
    exact hK
  · skip
    obtain ⟨g3, hf⟩ := gd hf
    obtain ⟨g4, hf⟩ := gd hf
    obtain rfl := Option.some.inj hf
    exact hK
abbrev rmX1_aAt : Room := { frames := 1, cells := 0, slots := 0, locals := 21 }
set_option maxRecDepth 100000 in
set_option maxHeartbeats 4000000 in
theorem kX1_aAt_c (l : Launch) (G : mmG) (A : Nat → Prop) {μ : MM} {res : Int32 × MM} {h0 : Nat} {x1 : Int32} (hk0 : mK μ h0 = 2) (hf : fX1_aAt h0 x1 μ = some res) : Met l yX1_aAt [.code yX1_aAt cX1_aAt 2 (some (.int))] rmX1_aAt (mmPc G A μ [rf h0, .int x1]) (mmQ G A res.2 (some (.int res.1))) 0 0 A := by
  refine mm_ofW (by decide +kernel) (by simp [lg_sl, rf_cat, int_cat]) ?_
  intro p e s m below meth c ls S hR hA hS hr hlocks hl hnm
  have hl : lv_has ls 2 [(0, rf h0), (1, .int x1)] := by simpa [lv_args, rf_cat, int_cat] using hl
  have E0 : mmEnv p m c cX1_aAt 2 s _ RX1 G A meth (some (.int)) := ⟨S, hA, hr, hlocks⟩
  have hK : mmKN μ μ := mmKN.rf
  unfold fX1_aAt at hf
  refine mm_aload_n S dX1_aAt_0 rfl (lv_at hl 0 rfl) ?_
  refine lv_iload_n S.1 S.2.1 dX1_aAt_1 rfl (lv_at hl 1 rfl) ?_
  obtain ⟨y1, hy1, hf⟩ := bd hf
  refine mm_callVi S hR hS hA (As := [.int x1]) (rest := []) cvX1_25 (hK.k hk0) (kX1_hasLine_c l G A (hK.k hk0) hy1) rfl rfl ⟨Nat.le_of_ble_eq_true rfl, Nat.le_of_ble_eq_true rfl⟩ rfl hl.1 rfl (lv_room (by simp [rf_cat, int_cat])) dX1_aAt_2 ⟨Nat.le_refl _, Nat.le_refl _⟩ (fun H locs hR hS => ?_)
  have hK : mmKN μ y1.2 := hK.tr (kX1_hasLine_kn hy1)
  refine lv_if_eq (tgt := 17) S.1 S.2.1 dX1_aAt_5 (by decide) (fun c2 => ?_) (fun c2 => ?_)
  · have hf := it_t hf c2
    refine lv_iconst (v := 0) S.1 S.2.1 dX1_aAt_17 (by decide) ?_
    obtain rfl := Option.some.inj hf
    exact mm_iret S hR hS hr hlocks dX1_aAt_18
  · have hf := it_f hf c2
    refine mm_aload_n S dX1_aAt_8 rfl (lv_at hl 0 rfl) ?_
    refine mm_getp S hR fdX1_15 (hK.k hk0) rfl dX1_aAt_9 ?_
    refine lv_iload_n S.1 S.2.1 dX1_aAt_12 rfl (lv_at hl 1 rfl) ?_
    obtain ⟨g3, hf⟩ := gd hf
    obtain ⟨g4, hf⟩ := gd hf
    refine mm_iald S hR (hK.k g3) g4 dX1_aAt_13 ?_
    refine lv_goto (tgt := 18) S.1 S.2.1 dX1_aAt_14 (by decide) ?_
    obtain rfl := Option.some.inj hf
    exact mm_iret S hR hS hr hlocks dX1_aAt_18
-- X1_bAt
def fX1_bAt (h0 : Nat) (x1 : Int32) (μ : MM) : Option (Int32 × MM) :=
  (fX1_hasLine h0 x1 μ).bind fun y1 => if y1.1 = 0 then (some (0, y1.2)) else (if mK μ (mP y1.2 h0 2) = 20 then if ¬ (x1 < 0 ∨ mN y1.2 (mP y1.2 h0 2) ≤ x1.toNatClampNeg) then some ((mI y1.2 (mP y1.2 h0 2) x1.toNatClampNeg), y1.2) else none else none)
set_option maxRecDepth 100000 in
set_option maxHeartbeats 4000000 in
theorem kX1_bAt_kn {μ : MM} {res : Int32 × MM} {h0 : Nat} {x1 : Int32} (hf : fX1_bAt h0 x1 μ = some res) : mmKN μ res.2 := by
  have hK : mmKN μ μ := mmKN.rf
  unfold fX1_bAt at hf
  obtain ⟨y1, hy1, hf⟩ := bd hf
  have hK : mmKN μ y1.2 := hK.tr (kX1_hasLine_kn hy1)
  rcases it_or hf with ⟨c2, hf⟩ | ⟨c2, hf⟩
  · skip
    obtain rfl := Option.some.inj hf
    exact hK
  · skip
    obtain ⟨g3, hf⟩ := gd hf
    obtain ⟨g4, hf⟩ := gd hf
    obtain rfl := Option.some.inj hf
    exact hK
abbrev rmX1_bAt : Room := { frames := 1, cells := 0, slots := 0, locals := 21 }
set_option maxRecDepth 100000 in
set_option maxHeartbeats 4000000 in
theorem kX1_bAt_c (l : Launch) (G : mmG) (A : Nat → Prop) {μ : MM} {res : Int32 × MM} {h0 : Nat} {x1 : Int32} (hk0 : mK μ h0 = 2) (hf : fX1_bAt h0 x1 μ = some res) : Met l yX1_bAt [.code yX1_bAt cX1_bAt 2 (some (.int))] rmX1_bAt (mmPc G A μ [rf h0, .int x1]) (mmQ G A res.2 (some (.int res.1))) 0 0 A := by
  refine mm_ofW (by decide +kernel) (by simp [lg_sl, rf_cat, int_cat]) ?_
  intro p e s m below meth c ls S hR hA hS hr hlocks hl hnm
  have hl : lv_has ls 2 [(0, rf h0), (1, .int x1)] := by simpa [lv_args, rf_cat, int_cat] using hl
  have E0 : mmEnv p m c cX1_bAt 2 s _ RX1 G A meth (some (.int)) := ⟨S, hA, hr, hlocks⟩
  have hK : mmKN μ μ := mmKN.rf
  unfold fX1_bAt at hf
  refine mm_aload_n S dX1_bAt_0 rfl (lv_at hl 0 rfl) ?_
  refine lv_iload_n S.1 S.2.1 dX1_bAt_1 rfl (lv_at hl 1 rfl) ?_
  obtain ⟨y1, hy1, hf⟩ := bd hf
  refine mm_callVi S hR hS hA (As := [.int x1]) (rest := []) cvX1_25 (hK.k hk0) (kX1_hasLine_c l G A (hK.k hk0) hy1) rfl rfl ⟨Nat.le_of_ble_eq_true rfl, Nat.le_of_ble_eq_true rfl⟩ rfl hl.1 rfl (lv_room (by simp [rf_cat, int_cat])) dX1_bAt_2 ⟨Nat.le_refl _, Nat.le_refl _⟩ (fun H locs hR hS => ?_)
  have hK : mmKN μ y1.2 := hK.tr (kX1_hasLine_kn hy1)
  refine lv_if_eq (tgt := 17) S.1 S.2.1 dX1_bAt_5 (by decide) (fun c2 => ?_) (fun c2 => ?_)
  · have hf := it_t hf c2
    refine lv_iconst (v := 0) S.1 S.2.1 dX1_bAt_17 (by decide) ?_
    obtain rfl := Option.some.inj hf
    exact mm_iret S hR hS hr hlocks dX1_bAt_18
  · have hf := it_f hf c2
    refine mm_aload_n S dX1_bAt_8 rfl (lv_at hl 0 rfl) ?_
    refine mm_getp S hR fdX1_18 (hK.k hk0) rfl dX1_bAt_9 ?_
    refine lv_iload_n S.1 S.2.1 dX1_bAt_12 rfl (lv_at hl 1 rfl) ?_
    obtain ⟨g3, hf⟩ := gd hf
    obtain ⟨g4, hf⟩ := gd hf
    refine mm_iald S hR (hK.k g3) g4 dX1_bAt_13 ?_
    refine lv_goto (tgt := 18) S.1 S.2.1 dX1_bAt_14 (by decide) ?_
    obtain rfl := Option.some.inj hf
    exact mm_iret S hR hS hr hlocks dX1_bAt_18
-- X1_fits
def fX1_fits (h0 : Nat) (x1 : Int32) (x2 : Int32) (x3 : Int32) (μ : MM) : Option (Int32 × MM) :=
  if x1 = 0 then ((fX6_within x2 (-99) 99 μ).bind fun y2 => if y2.1 = 0 then (some (0, y2.2)) else (if x3 = 0 then (some (1, y2.2)) else (some (0, y2.2)))) else (if x1 = 1 ∨ x1 = 2 then ((fX6_within x2 0 3 μ).bind fun y6 => if y6.1 = 0 then (some (0, y6.2)) else (if x3 = 0 then (some (1, y6.2)) else (some (0, y6.2)))) else (if x1 = 3 ∨ x1 = 8 ∨ x1 = 11 ∨ x1 = 13 then (if x2 = 0 then (if x3 = 0 then (some (1, μ)) else (some (0, μ))) else (some (0, μ))) else (if x1 = 4 then ((fX6_within x2 0 3 μ).bind fun y13 => if y13.1 = 0 then (some (0, y13.2)) else ((fX6_within x3 0 (mI y13.2 h0 3) y13.2).bind fun y15 => if y15.1 = 0 then (some (0, y15.2)) else (some (1, y15.2)))) else (if x1 = 5 ∨ x1 = 7 then (if x2 = 0 then ((fX6_within x3 ((mI μ h0 3) + 1) 12 μ).bind fun y19 => if y19.1 = 0 then (some (0, y19.2)) else (some (1, y19.2))) else (some (0, μ))) else (if x1 = 6 then ((fX6_within x2 0 1 μ).bind fun y22 => if y22.1 = 0 then (some (0, y22.2)) else ((fX6_within x3 ((mI y22.2 h0 3) + 1) 12 y22.2).bind fun y24 => if y24.1 = 0 then (some (0, y24.2)) else (some (1, y24.2)))) else (if x1 = 9 then ((fX6_within x2 1 7 μ).bind fun y27 => if y27.1 = 0 then (some (0, y27.2)) else (if x3 = 0 then (some (1, y27.2)) else (some (0, y27.2)))) else (if x1 = 10 ∨ x1 = 14 then ((fX6_within x2 0 7 μ).bind fun y31 => if y31.1 = 0 then (some (0, y31.2)) else (if x3 = 0 then (some (1, y31.2)) else (some (0, y31.2)))) else (if x1 = 12 then ((fX6_within x2 1 9 μ).bind fun y35 => if y35.1 = 0 then (some (0, y35.2)) else (if x3 = 0 then (some (1, y35.2)) else (some (0, y35.2)))) else (if x1 = 15 then ((fX6_within x2 0 1 μ).bind fun y39 => if y39.1 = 0 then (some (0, y39.2)) else (if x3 = 0 then (some (1, y39.2)) else (some (0, y39.2)))) else (some (0, μ)))))))))))
set_option maxRecDepth 100000 in
set_option maxHeartbeats 4000000 in
theorem kX1_fits_kn {μ : MM} {res : Int32 × MM} {h0 : Nat} {x1 : Int32} {x2 : Int32} {x3 : Int32} (hf : fX1_fits h0 x1 x2 x3 μ = some res) : mmKN μ res.2 := by
  have hK : mmKN μ μ := mmKN.rf
  unfold fX1_fits at hf
  rcases it_or hf with ⟨c1, hf⟩ | ⟨c1, hf⟩
  · skip
    obtain ⟨y2, hy2, hf⟩ := bd hf
    have hK : mmKN μ y2.2 := hK.tr (kX6_within_kn hy2)
    rcases it_or hf with ⟨c3, hf⟩ | ⟨c3, hf⟩
    · skip
      obtain rfl := Option.some.inj hf
      exact hK
    · skip
      rcases it_or hf with ⟨c4, hf⟩ | ⟨c4, hf⟩
      · skip
        obtain rfl := Option.some.inj hf
        exact hK
      · skip
        obtain rfl := Option.some.inj hf
        exact hK
  rcases it_or hf with ⟨c5, hf⟩ | ⟨c5, hf⟩
  · skip
    obtain ⟨y6, hy6, hf⟩ := bd hf
    have hK : mmKN μ y6.2 := hK.tr (kX6_within_kn hy6)
    rcases it_or hf with ⟨c7, hf⟩ | ⟨c7, hf⟩
    · skip
      obtain rfl := Option.some.inj hf
      exact hK
    · skip
      rcases it_or hf with ⟨c8, hf⟩ | ⟨c8, hf⟩
      · skip
        obtain rfl := Option.some.inj hf
        exact hK
      · skip
        obtain rfl := Option.some.inj hf
        exact hK
  rcases it_or hf with ⟨c9, hf⟩ | ⟨c9, hf⟩
  · skip
    rcases it_or hf with ⟨c10, hf⟩ | ⟨c10, hf⟩
    · skip
      rcases it_or hf with ⟨c11, hf⟩ | ⟨c11, hf⟩
      · skip
        obtain rfl := Option.some.inj hf
        exact hK
      · skip
        obtain rfl := Option.some.inj hf
        exact hK
    · skip
      obtain rfl := Option.some.inj hf
      exact hK
  rcases it_or hf with ⟨c12, hf⟩ | ⟨c12, hf⟩
  · skip
    obtain ⟨y13, hy13, hf⟩ := bd hf
    have hK : mmKN μ y13.2 := hK.tr (kX6_within_kn hy13)
    rcases it_or hf with ⟨c14, hf⟩ | ⟨c14, hf⟩
    · skip
      obtain rfl := Option.some.inj hf
      exact hK
    · skip
      obtain ⟨y15, hy15, hf⟩ := bd hf
      have hK : mmKN μ y15.2 := hK.tr (kX6_within_kn hy15)
      rcases it_or hf with ⟨c16, hf⟩ | ⟨c16, hf⟩
      · skip
        obtain rfl := Option.some.inj hf
        exact hK
      · skip
        obtain rfl := Option.some.inj hf
        exact hK
  rcases it_or hf with ⟨c17, hf⟩ | ⟨c17, hf⟩
  · skip
    rcases it_or hf with ⟨c18, hf⟩ | ⟨c18, hf⟩
    · skip
      obtain ⟨y19, hy19, hf⟩ := bd hf
      have hK : mmKN μ y19.2 := hK.tr (kX6_within_kn hy19)
      rcases it_or hf with ⟨c20, hf⟩ | ⟨c20, hf⟩
      · skip
        obtain rfl := Option.some.inj hf
        exact hK
      · skip
        obtain rfl := Option.some.inj hf
        exact hK
    · skip
      obtain rfl := Option.some.inj hf
      exact hK
  rcases it_or hf with ⟨c21, hf⟩ | ⟨c21, hf⟩
  · skip
    obtain ⟨y22, hy22, hf⟩ := bd hf
    have hK : mmKN μ y22.2 := hK.tr (kX6_within_kn hy22)
    rcases it_or hf with ⟨c23, hf⟩ | ⟨c23, hf⟩
    · skip
      obtain rfl := Option.some.inj hf
      exact hK
    · skip
      obtain ⟨y24, hy24, hf⟩ := bd hf
      have hK : mmKN μ y24.2 := hK.tr (kX6_within_kn hy24)
      rcases it_or hf with ⟨c25, hf⟩ | ⟨c25, hf⟩
      · skip
        obtain rfl := Option.some.inj hf
        exact hK
      · skip
        obtain rfl := Option.some.inj hf
        exact hK
  rcases it_or hf with ⟨c26, hf⟩ | ⟨c26, hf⟩
  · skip
    obtain ⟨y27, hy27, hf⟩ := bd hf
    have hK : mmKN μ y27.2 := hK.tr (kX6_within_kn hy27)
    rcases it_or hf with ⟨c28, hf⟩ | ⟨c28, hf⟩
    · skip
      obtain rfl := Option.some.inj hf
      exact hK
    · skip
      rcases it_or hf with ⟨c29, hf⟩ | ⟨c29, hf⟩
      · skip
        obtain rfl := Option.some.inj hf
        exact hK
      · skip
        obtain rfl := Option.some.inj hf
        exact hK
  rcases it_or hf with ⟨c30, hf⟩ | ⟨c30, hf⟩
  · skip
    obtain ⟨y31, hy31, hf⟩ := bd hf
    have hK : mmKN μ y31.2 := hK.tr (kX6_within_kn hy31)
    rcases it_or hf with ⟨c32, hf⟩ | ⟨c32, hf⟩
    · skip
      obtain rfl := Option.some.inj hf
      exact hK
    · skip
      rcases it_or hf with ⟨c33, hf⟩ | ⟨c33, hf⟩
      · skip
        obtain rfl := Option.some.inj hf
        exact hK
      · skip
        obtain rfl := Option.some.inj hf
        exact hK
  rcases it_or hf with ⟨c34, hf⟩ | ⟨c34, hf⟩
  · skip
    obtain ⟨y35, hy35, hf⟩ := bd hf
    have hK : mmKN μ y35.2 := hK.tr (kX6_within_kn hy35)
    rcases it_or hf with ⟨c36, hf⟩ | ⟨c36, hf⟩
    · skip
      obtain rfl := Option.some.inj hf
      exact hK
    · skip
      rcases it_or hf with ⟨c37, hf⟩ | ⟨c37, hf⟩
      · skip
        obtain rfl := Option.some.inj hf
        exact hK
      · skip
        obtain rfl := Option.some.inj hf
        exact hK
  rcases it_or hf with ⟨c38, hf⟩ | ⟨c38, hf⟩
  · skip
    obtain ⟨y39, hy39, hf⟩ := bd hf
    have hK : mmKN μ y39.2 := hK.tr (kX6_within_kn hy39)
    rcases it_or hf with ⟨c40, hf⟩ | ⟨c40, hf⟩
    · skip
      obtain rfl := Option.some.inj hf
      exact hK
    · skip
      rcases it_or hf with ⟨c41, hf⟩ | ⟨c41, hf⟩
      · skip
        obtain rfl := Option.some.inj hf
        exact hK
      · skip
        obtain rfl := Option.some.inj hf
        exact hK
  obtain rfl := Option.some.inj hf
  exact hK
abbrev rmX1_fits : Room := { frames := 1, cells := 0, slots := 0, locals := 22 }
set_option maxRecDepth 100000 in
set_option maxHeartbeats 4000000 in
theorem kX1_fits_c (l : Launch) (G : mmG) (A : Nat → Prop) {μ : MM} {res : Int32 × MM} {h0 : Nat} {x1 : Int32} {x2 : Int32} {x3 : Int32} (hk0 : mK μ h0 = 2) (hf : fX1_fits h0 x1 x2 x3 μ = some res) : Met l yX1_fits [.code yX1_fits cX1_fits 4 (some (.boolean))] rmX1_fits (mmPc G A μ [rf h0, .int x1, .int x2, .int x3]) (mmQ G A res.2 (some (.int res.1))) 0 0 A := by
  refine mm_ofW (by decide +kernel) (by simp [lg_sl, rf_cat, int_cat]) ?_
  intro p e s m below meth c ls S hR hA hS hr hlocks hl hnm
  have hl : lv_has ls 4 [(0, rf h0), (1, .int x1), (2, .int x2), (3, .int x3)] := by simpa [lv_args, rf_cat, int_cat] using hl
  have E0 : mmEnv p m c cX1_fits 4 s _ RX1 G A meth (some (.boolean)) := ⟨S, hA, hr, hlocks⟩
  have hK : mmKN μ μ := mmKN.rf
  unfold fX1_fits at hf
  refine lv_iload_n S.1 S.2.1 dX1_fits_0 rfl (lv_at hl 1 rfl) ?_
  rcases it_or hf with ⟨c1, hf⟩ | ⟨c1, hf⟩
  · refine mm_swL (tgt := 80) (off := 79) S [0] dX1_fits_1 (by simpa using c1) (by decide) (by decide) ?_
    refine lv_iload_n S.1 S.2.1 dX1_fits_80 rfl (lv_at hl 2 rfl) ?_
    refine lv_bipush (v := (-99)) S.1 S.2.1 dX1_fits_81 (by decide) ?_
    refine lv_bipush (v := 99) S.1 S.2.1 dX1_fits_83 (by decide) ?_
    obtain ⟨y2, hy2, hf⟩ := bd hf
    refine mm_callNi S hR hS hA (As := [.int x2, .int (-99), .int 99]) (rest := []) csX1_29 (kX6_within_c l G A hy2) rfl rfl ⟨Nat.le_of_ble_eq_true rfl, Nat.le_of_ble_eq_true rfl⟩ rfl hl.1 rfl (lv_room (by simp [rf_cat, int_cat])) dX1_fits_85 ⟨Nat.le_refl _, Nat.le_refl _⟩ (fun H locs hR hS => ?_)
    have hK : mmKN μ y2.2 := hK.tr (kX6_within_kn hy2)
    refine lv_if_eq (tgt := 99) S.1 S.2.1 dX1_fits_88 (by decide) (fun c3 => ?_) (fun c3 => ?_)
    · have hf := it_t hf c3
      refine lv_iconst (v := 0) S.1 S.2.1 dX1_fits_99 (by decide) ?_
      obtain rfl := Option.some.inj hf
      exact mm_zret S hR hS hr hlocks (Or.inl rfl) dX1_fits_100
    · have hf := it_f hf c3
      refine lv_iload_n S.1 S.2.1 dX1_fits_91 rfl (lv_at hl 3 rfl) ?_
      refine lv_if_ne (tgt := 99) S.1 S.2.1 dX1_fits_92 (by decide) (fun c4 => ?_) (fun c4 => ?_)
      · have hf := it_f hf c4
        refine lv_iconst (v := 0) S.1 S.2.1 dX1_fits_99 (by decide) ?_
        obtain rfl := Option.some.inj hf
        exact mm_zret S hR hS hr hlocks (Or.inl rfl) dX1_fits_100
      · have hf := it_t hf c4
        refine lv_iconst (v := 1) S.1 S.2.1 dX1_fits_95 (by decide) ?_
        refine lv_goto (tgt := 100) S.1 S.2.1 dX1_fits_96 (by decide) ?_
        obtain rfl := Option.some.inj hf
        exact mm_zret S hR hS hr hlocks (Or.inr rfl) dX1_fits_100
  rcases it_or hf with ⟨c5, hf⟩ | ⟨c5, hf⟩
  · refine mm_swL (tgt := 101) (off := 100) S [1, 2] dX1_fits_1 (by simpa using c5) (by decide) (by decide) ?_
    refine lv_iload_n S.1 S.2.1 dX1_fits_101 rfl (lv_at hl 2 rfl) ?_
    refine lv_iconst (v := 0) S.1 S.2.1 dX1_fits_102 (by decide) ?_
    refine lv_iconst (v := 3) S.1 S.2.1 dX1_fits_103 (by decide) ?_
    obtain ⟨y6, hy6, hf⟩ := bd hf
    refine mm_callNi S hR hS hA (As := [.int x2, .int 0, .int 3]) (rest := []) csX1_29 (kX6_within_c l G A hy6) rfl rfl ⟨Nat.le_of_ble_eq_true rfl, Nat.le_of_ble_eq_true rfl⟩ rfl hl.1 rfl (lv_room (by simp [rf_cat, int_cat])) dX1_fits_104 ⟨Nat.le_refl _, Nat.le_refl _⟩ (fun H locs hR hS => ?_)
    have hK : mmKN μ y6.2 := hK.tr (kX6_within_kn hy6)
    refine lv_if_eq (tgt := 118) S.1 S.2.1 dX1_fits_107 (by decide) (fun c7 => ?_) (fun c7 => ?_)
    · have hf := it_t hf c7
      refine lv_iconst (v := 0) S.1 S.2.1 dX1_fits_118 (by decide) ?_
      obtain rfl := Option.some.inj hf
      exact mm_zret S hR hS hr hlocks (Or.inl rfl) dX1_fits_119
    · have hf := it_f hf c7
      refine lv_iload_n S.1 S.2.1 dX1_fits_110 rfl (lv_at hl 3 rfl) ?_
      refine lv_if_ne (tgt := 118) S.1 S.2.1 dX1_fits_111 (by decide) (fun c8 => ?_) (fun c8 => ?_)
      · have hf := it_f hf c8
        refine lv_iconst (v := 0) S.1 S.2.1 dX1_fits_118 (by decide) ?_
        obtain rfl := Option.some.inj hf
        exact mm_zret S hR hS hr hlocks (Or.inl rfl) dX1_fits_119
      · have hf := it_t hf c8
        refine lv_iconst (v := 1) S.1 S.2.1 dX1_fits_114 (by decide) ?_
        refine lv_goto (tgt := 119) S.1 S.2.1 dX1_fits_115 (by decide) ?_
        obtain rfl := Option.some.inj hf
        exact mm_zret S hR hS hr hlocks (Or.inr rfl) dX1_fits_119
  rcases it_or hf with ⟨c9, hf⟩ | ⟨c9, hf⟩
  · refine mm_swL (tgt := 281) (off := 280) S [3, 8, 11, 13] dX1_fits_1 (by simpa using c9) (by decide) (by decide) ?_
    refine lv_iload_n S.1 S.2.1 dX1_fits_281 rfl (lv_at hl 2 rfl) ?_
    refine lv_if_ne (tgt := 293) S.1 S.2.1 dX1_fits_282 (by decide) (fun c10 => ?_) (fun c10 => ?_)
    · have hf := it_f hf c10
      refine lv_iconst (v := 0) S.1 S.2.1 dX1_fits_293 (by decide) ?_
      obtain rfl := Option.some.inj hf
      exact mm_zret S hR hS hr hlocks (Or.inl rfl) dX1_fits_294
    · have hf := it_t hf c10
      refine lv_iload_n S.1 S.2.1 dX1_fits_285 rfl (lv_at hl 3 rfl) ?_
      refine lv_if_ne (tgt := 293) S.1 S.2.1 dX1_fits_286 (by decide) (fun c11 => ?_) (fun c11 => ?_)
      · have hf := it_f hf c11
        refine lv_iconst (v := 0) S.1 S.2.1 dX1_fits_293 (by decide) ?_
        obtain rfl := Option.some.inj hf
        exact mm_zret S hR hS hr hlocks (Or.inl rfl) dX1_fits_294
      · have hf := it_t hf c11
        refine lv_iconst (v := 1) S.1 S.2.1 dX1_fits_289 (by decide) ?_
        refine lv_goto (tgt := 294) S.1 S.2.1 dX1_fits_290 (by decide) ?_
        obtain rfl := Option.some.inj hf
        exact mm_zret S hR hS hr hlocks (Or.inr rfl) dX1_fits_294
  rcases it_or hf with ⟨c12, hf⟩ | ⟨c12, hf⟩
  · refine mm_swL (tgt := 120) (off := 119) S [4] dX1_fits_1 (by simpa using c12) (by decide) (by decide) ?_
    refine lv_iload_n S.1 S.2.1 dX1_fits_120 rfl (lv_at hl 2 rfl) ?_
    refine lv_iconst (v := 0) S.1 S.2.1 dX1_fits_121 (by decide) ?_
    refine lv_iconst (v := 3) S.1 S.2.1 dX1_fits_122 (by decide) ?_
    obtain ⟨y13, hy13, hf⟩ := bd hf
    refine mm_callNi S hR hS hA (As := [.int x2, .int 0, .int 3]) (rest := []) csX1_29 (kX6_within_c l G A hy13) rfl rfl ⟨Nat.le_of_ble_eq_true rfl, Nat.le_of_ble_eq_true rfl⟩ rfl hl.1 rfl (lv_room (by simp [rf_cat, int_cat])) dX1_fits_123 ⟨Nat.le_refl _, Nat.le_refl _⟩ (fun H locs hR hS => ?_)
    have hK : mmKN μ y13.2 := hK.tr (kX6_within_kn hy13)
    refine lv_if_eq (tgt := 145) S.1 S.2.1 dX1_fits_126 (by decide) (fun c14 => ?_) (fun c14 => ?_)
    · have hf := it_t hf c14
      refine lv_iconst (v := 0) S.1 S.2.1 dX1_fits_145 (by decide) ?_
      obtain rfl := Option.some.inj hf
      exact mm_zret S hR hS hr hlocks (Or.inl rfl) dX1_fits_146
    · have hf := it_f hf c14
      refine lv_iload_n S.1 S.2.1 dX1_fits_129 rfl (lv_at hl 3 rfl) ?_
      refine lv_iconst (v := 0) S.1 S.2.1 dX1_fits_130 (by decide) ?_
      refine mm_aload_n S dX1_fits_131 rfl (lv_at hl 0 rfl) ?_
      refine mm_geti S hR fdX1_21 (hK.k hk0) rfl dX1_fits_132 ?_
      obtain ⟨y15, hy15, hf⟩ := bd hf
      refine mm_callNi S hR hS hA (As := [.int x3, .int 0, .int (mI y13.2 h0 3)]) (rest := []) csX1_29 (kX6_within_c l G A hy15) rfl rfl ⟨Nat.le_of_ble_eq_true rfl, Nat.le_of_ble_eq_true rfl⟩ rfl hl.1 rfl (lv_room (by simp [rf_cat, int_cat])) dX1_fits_135 ⟨Nat.le_refl _, Nat.le_refl _⟩ (fun H locs hR hS => ?_)
      have hK : mmKN μ y15.2 := hK.tr (kX6_within_kn hy15)
      refine lv_if_eq (tgt := 145) S.1 S.2.1 dX1_fits_138 (by decide) (fun c16 => ?_) (fun c16 => ?_)
      · have hf := it_t hf c16
        refine lv_iconst (v := 0) S.1 S.2.1 dX1_fits_145 (by decide) ?_
        obtain rfl := Option.some.inj hf
        exact mm_zret S hR hS hr hlocks (Or.inl rfl) dX1_fits_146
      · have hf := it_f hf c16
        refine lv_iconst (v := 1) S.1 S.2.1 dX1_fits_141 (by decide) ?_
        refine lv_goto (tgt := 146) S.1 S.2.1 dX1_fits_142 (by decide) ?_
        obtain rfl := Option.some.inj hf
        exact mm_zret S hR hS hr hlocks (Or.inr rfl) dX1_fits_146
  rcases it_or hf with ⟨c17, hf⟩ | ⟨c17, hf⟩
  · refine mm_swL (tgt := 147) (off := 146) S [5, 7] dX1_fits_1 (by simpa using c17) (by decide) (by decide) ?_
    refine lv_iload_n S.1 S.2.1 dX1_fits_147 rfl (lv_at hl 2 rfl) ?_
    refine lv_if_ne (tgt := 170) S.1 S.2.1 dX1_fits_148 (by decide) (fun c18 => ?_) (fun c18 => ?_)
    · have hf := it_f hf c18
      refine lv_iconst (v := 0) S.1 S.2.1 dX1_fits_170 (by decide) ?_
      obtain rfl := Option.some.inj hf
      exact mm_zret S hR hS hr hlocks (Or.inl rfl) dX1_fits_171
    · have hf := it_t hf c18
      refine lv_iload_n S.1 S.2.1 dX1_fits_151 rfl (lv_at hl 3 rfl) ?_
      refine mm_aload_n S dX1_fits_152 rfl (lv_at hl 0 rfl) ?_
      refine mm_geti S hR fdX1_21 (hK.k hk0) rfl dX1_fits_153 ?_
      refine lv_iconst (v := 1) S.1 S.2.1 dX1_fits_156 (by decide) ?_
      refine lv_iadd S.1 S.2.1 dX1_fits_157 ?_
      refine lv_bipush (v := 12) S.1 S.2.1 dX1_fits_158 (by decide) ?_
      obtain ⟨y19, hy19, hf⟩ := bd hf
      refine mm_callNi S hR hS hA (As := [.int x3, .int ((mI μ h0 3) + 1), .int 12]) (rest := []) csX1_29 (kX6_within_c l G A hy19) rfl rfl ⟨Nat.le_of_ble_eq_true rfl, Nat.le_of_ble_eq_true rfl⟩ rfl hl.1 rfl (lv_room (by simp [rf_cat, int_cat])) dX1_fits_160 ⟨Nat.le_refl _, Nat.le_refl _⟩ (fun H locs hR hS => ?_)
      have hK : mmKN μ y19.2 := hK.tr (kX6_within_kn hy19)
      refine lv_if_eq (tgt := 170) S.1 S.2.1 dX1_fits_163 (by decide) (fun c20 => ?_) (fun c20 => ?_)
      · have hf := it_t hf c20
        refine lv_iconst (v := 0) S.1 S.2.1 dX1_fits_170 (by decide) ?_
        obtain rfl := Option.some.inj hf
        exact mm_zret S hR hS hr hlocks (Or.inl rfl) dX1_fits_171
      · have hf := it_f hf c20
        refine lv_iconst (v := 1) S.1 S.2.1 dX1_fits_166 (by decide) ?_
        refine lv_goto (tgt := 171) S.1 S.2.1 dX1_fits_167 (by decide) ?_
        obtain rfl := Option.some.inj hf
        exact mm_zret S hR hS hr hlocks (Or.inr rfl) dX1_fits_171
  rcases it_or hf with ⟨c21, hf⟩ | ⟨c21, hf⟩
  · refine mm_swL (tgt := 172) (off := 171) S [6] dX1_fits_1 (by simpa using c21) (by decide) (by decide) ?_
    refine lv_iload_n S.1 S.2.1 dX1_fits_172 rfl (lv_at hl 2 rfl) ?_
    refine lv_iconst (v := 0) S.1 S.2.1 dX1_fits_173 (by decide) ?_
    refine lv_iconst (v := 1) S.1 S.2.1 dX1_fits_174 (by decide) ?_
    obtain ⟨y22, hy22, hf⟩ := bd hf
    refine mm_callNi S hR hS hA (As := [.int x2, .int 0, .int 1]) (rest := []) csX1_29 (kX6_within_c l G A hy22) rfl rfl ⟨Nat.le_of_ble_eq_true rfl, Nat.le_of_ble_eq_true rfl⟩ rfl hl.1 rfl (lv_room (by simp [rf_cat, int_cat])) dX1_fits_175 ⟨Nat.le_refl _, Nat.le_refl _⟩ (fun H locs hR hS => ?_)
    have hK : mmKN μ y22.2 := hK.tr (kX6_within_kn hy22)
    refine lv_if_eq (tgt := 200) S.1 S.2.1 dX1_fits_178 (by decide) (fun c23 => ?_) (fun c23 => ?_)
    · have hf := it_t hf c23
      refine lv_iconst (v := 0) S.1 S.2.1 dX1_fits_200 (by decide) ?_
      obtain rfl := Option.some.inj hf
      exact mm_zret S hR hS hr hlocks (Or.inl rfl) dX1_fits_201
    · have hf := it_f hf c23
      refine lv_iload_n S.1 S.2.1 dX1_fits_181 rfl (lv_at hl 3 rfl) ?_
      refine mm_aload_n S dX1_fits_182 rfl (lv_at hl 0 rfl) ?_
      refine mm_geti S hR fdX1_21 (hK.k hk0) rfl dX1_fits_183 ?_
      refine lv_iconst (v := 1) S.1 S.2.1 dX1_fits_186 (by decide) ?_
      refine lv_iadd S.1 S.2.1 dX1_fits_187 ?_
      refine lv_bipush (v := 12) S.1 S.2.1 dX1_fits_188 (by decide) ?_
      obtain ⟨y24, hy24, hf⟩ := bd hf
      refine mm_callNi S hR hS hA (As := [.int x3, .int ((mI y22.2 h0 3) + 1), .int 12]) (rest := []) csX1_29 (kX6_within_c l G A hy24) rfl rfl ⟨Nat.le_of_ble_eq_true rfl, Nat.le_of_ble_eq_true rfl⟩ rfl hl.1 rfl (lv_room (by simp [rf_cat, int_cat])) dX1_fits_190 ⟨Nat.le_refl _, Nat.le_refl _⟩ (fun H locs hR hS => ?_)
      have hK : mmKN μ y24.2 := hK.tr (kX6_within_kn hy24)
      refine lv_if_eq (tgt := 200) S.1 S.2.1 dX1_fits_193 (by decide) (fun c25 => ?_) (fun c25 => ?_)
      · have hf := it_t hf c25
        refine lv_iconst (v := 0) S.1 S.2.1 dX1_fits_200 (by decide) ?_
        obtain rfl := Option.some.inj hf
        exact mm_zret S hR hS hr hlocks (Or.inl rfl) dX1_fits_201
      · have hf := it_f hf c25
        refine lv_iconst (v := 1) S.1 S.2.1 dX1_fits_196 (by decide) ?_
        refine lv_goto (tgt := 201) S.1 S.2.1 dX1_fits_197 (by decide) ?_
        obtain rfl := Option.some.inj hf
        exact mm_zret S hR hS hr hlocks (Or.inr rfl) dX1_fits_201
  rcases it_or hf with ⟨c26, hf⟩ | ⟨c26, hf⟩
  · refine mm_swL (tgt := 202) (off := 201) S [9] dX1_fits_1 (by simpa using c26) (by decide) (by decide) ?_
    refine lv_iload_n S.1 S.2.1 dX1_fits_202 rfl (lv_at hl 2 rfl) ?_
    refine lv_iconst (v := 1) S.1 S.2.1 dX1_fits_203 (by decide) ?_
    refine lv_bipush (v := 7) S.1 S.2.1 dX1_fits_204 (by decide) ?_
    obtain ⟨y27, hy27, hf⟩ := bd hf
    refine mm_callNi S hR hS hA (As := [.int x2, .int 1, .int 7]) (rest := []) csX1_29 (kX6_within_c l G A hy27) rfl rfl ⟨Nat.le_of_ble_eq_true rfl, Nat.le_of_ble_eq_true rfl⟩ rfl hl.1 rfl (lv_room (by simp [rf_cat, int_cat])) dX1_fits_206 ⟨Nat.le_refl _, Nat.le_refl _⟩ (fun H locs hR hS => ?_)
    have hK : mmKN μ y27.2 := hK.tr (kX6_within_kn hy27)
    refine lv_if_eq (tgt := 220) S.1 S.2.1 dX1_fits_209 (by decide) (fun c28 => ?_) (fun c28 => ?_)
    · have hf := it_t hf c28
      refine lv_iconst (v := 0) S.1 S.2.1 dX1_fits_220 (by decide) ?_
      obtain rfl := Option.some.inj hf
      exact mm_zret S hR hS hr hlocks (Or.inl rfl) dX1_fits_221
    · have hf := it_f hf c28
      refine lv_iload_n S.1 S.2.1 dX1_fits_212 rfl (lv_at hl 3 rfl) ?_
      refine lv_if_ne (tgt := 220) S.1 S.2.1 dX1_fits_213 (by decide) (fun c29 => ?_) (fun c29 => ?_)
      · have hf := it_f hf c29
        refine lv_iconst (v := 0) S.1 S.2.1 dX1_fits_220 (by decide) ?_
        obtain rfl := Option.some.inj hf
        exact mm_zret S hR hS hr hlocks (Or.inl rfl) dX1_fits_221
      · have hf := it_t hf c29
        refine lv_iconst (v := 1) S.1 S.2.1 dX1_fits_216 (by decide) ?_
        refine lv_goto (tgt := 221) S.1 S.2.1 dX1_fits_217 (by decide) ?_
        obtain rfl := Option.some.inj hf
        exact mm_zret S hR hS hr hlocks (Or.inr rfl) dX1_fits_221
  rcases it_or hf with ⟨c30, hf⟩ | ⟨c30, hf⟩
  · refine mm_swL (tgt := 222) (off := 221) S [10, 14] dX1_fits_1 (by simpa using c30) (by decide) (by decide) ?_
    refine lv_iload_n S.1 S.2.1 dX1_fits_222 rfl (lv_at hl 2 rfl) ?_
    refine lv_iconst (v := 0) S.1 S.2.1 dX1_fits_223 (by decide) ?_
    refine lv_bipush (v := 7) S.1 S.2.1 dX1_fits_224 (by decide) ?_
    obtain ⟨y31, hy31, hf⟩ := bd hf
    refine mm_callNi S hR hS hA (As := [.int x2, .int 0, .int 7]) (rest := []) csX1_29 (kX6_within_c l G A hy31) rfl rfl ⟨Nat.le_of_ble_eq_true rfl, Nat.le_of_ble_eq_true rfl⟩ rfl hl.1 rfl (lv_room (by simp [rf_cat, int_cat])) dX1_fits_226 ⟨Nat.le_refl _, Nat.le_refl _⟩ (fun H locs hR hS => ?_)
    have hK : mmKN μ y31.2 := hK.tr (kX6_within_kn hy31)
    refine lv_if_eq (tgt := 240) S.1 S.2.1 dX1_fits_229 (by decide) (fun c32 => ?_) (fun c32 => ?_)
    · have hf := it_t hf c32
      refine lv_iconst (v := 0) S.1 S.2.1 dX1_fits_240 (by decide) ?_
      obtain rfl := Option.some.inj hf
      exact mm_zret S hR hS hr hlocks (Or.inl rfl) dX1_fits_241
    · have hf := it_f hf c32
      refine lv_iload_n S.1 S.2.1 dX1_fits_232 rfl (lv_at hl 3 rfl) ?_
      refine lv_if_ne (tgt := 240) S.1 S.2.1 dX1_fits_233 (by decide) (fun c33 => ?_) (fun c33 => ?_)
      · have hf := it_f hf c33
        refine lv_iconst (v := 0) S.1 S.2.1 dX1_fits_240 (by decide) ?_
        obtain rfl := Option.some.inj hf
        exact mm_zret S hR hS hr hlocks (Or.inl rfl) dX1_fits_241
      · have hf := it_t hf c33
        refine lv_iconst (v := 1) S.1 S.2.1 dX1_fits_236 (by decide) ?_
        refine lv_goto (tgt := 241) S.1 S.2.1 dX1_fits_237 (by decide) ?_
        obtain rfl := Option.some.inj hf
        exact mm_zret S hR hS hr hlocks (Or.inr rfl) dX1_fits_241
  rcases it_or hf with ⟨c34, hf⟩ | ⟨c34, hf⟩
  · refine mm_swL (tgt := 242) (off := 241) S [12] dX1_fits_1 (by simpa using c34) (by decide) (by decide) ?_
    refine lv_iload_n S.1 S.2.1 dX1_fits_242 rfl (lv_at hl 2 rfl) ?_
    refine lv_iconst (v := 1) S.1 S.2.1 dX1_fits_243 (by decide) ?_
    refine lv_bipush (v := 9) S.1 S.2.1 dX1_fits_244 (by decide) ?_
    obtain ⟨y35, hy35, hf⟩ := bd hf
    refine mm_callNi S hR hS hA (As := [.int x2, .int 1, .int 9]) (rest := []) csX1_29 (kX6_within_c l G A hy35) rfl rfl ⟨Nat.le_of_ble_eq_true rfl, Nat.le_of_ble_eq_true rfl⟩ rfl hl.1 rfl (lv_room (by simp [rf_cat, int_cat])) dX1_fits_246 ⟨Nat.le_refl _, Nat.le_refl _⟩ (fun H locs hR hS => ?_)
    have hK : mmKN μ y35.2 := hK.tr (kX6_within_kn hy35)
    refine lv_if_eq (tgt := 260) S.1 S.2.1 dX1_fits_249 (by decide) (fun c36 => ?_) (fun c36 => ?_)
    · have hf := it_t hf c36
      refine lv_iconst (v := 0) S.1 S.2.1 dX1_fits_260 (by decide) ?_
      obtain rfl := Option.some.inj hf
      exact mm_zret S hR hS hr hlocks (Or.inl rfl) dX1_fits_261
    · have hf := it_f hf c36
      refine lv_iload_n S.1 S.2.1 dX1_fits_252 rfl (lv_at hl 3 rfl) ?_
      refine lv_if_ne (tgt := 260) S.1 S.2.1 dX1_fits_253 (by decide) (fun c37 => ?_) (fun c37 => ?_)
      · have hf := it_f hf c37
        refine lv_iconst (v := 0) S.1 S.2.1 dX1_fits_260 (by decide) ?_
        obtain rfl := Option.some.inj hf
        exact mm_zret S hR hS hr hlocks (Or.inl rfl) dX1_fits_261
      · have hf := it_t hf c37
        refine lv_iconst (v := 1) S.1 S.2.1 dX1_fits_256 (by decide) ?_
        refine lv_goto (tgt := 261) S.1 S.2.1 dX1_fits_257 (by decide) ?_
        obtain rfl := Option.some.inj hf
        exact mm_zret S hR hS hr hlocks (Or.inr rfl) dX1_fits_261
  rcases it_or hf with ⟨c38, hf⟩ | ⟨c38, hf⟩
  · refine mm_swL (tgt := 262) (off := 261) S [15] dX1_fits_1 (by simpa using c38) (by decide) (by decide) ?_
    refine lv_iload_n S.1 S.2.1 dX1_fits_262 rfl (lv_at hl 2 rfl) ?_
    refine lv_iconst (v := 0) S.1 S.2.1 dX1_fits_263 (by decide) ?_
    refine lv_iconst (v := 1) S.1 S.2.1 dX1_fits_264 (by decide) ?_
    obtain ⟨y39, hy39, hf⟩ := bd hf
    refine mm_callNi S hR hS hA (As := [.int x2, .int 0, .int 1]) (rest := []) csX1_29 (kX6_within_c l G A hy39) rfl rfl ⟨Nat.le_of_ble_eq_true rfl, Nat.le_of_ble_eq_true rfl⟩ rfl hl.1 rfl (lv_room (by simp [rf_cat, int_cat])) dX1_fits_265 ⟨Nat.le_refl _, Nat.le_refl _⟩ (fun H locs hR hS => ?_)
    have hK : mmKN μ y39.2 := hK.tr (kX6_within_kn hy39)
    refine lv_if_eq (tgt := 279) S.1 S.2.1 dX1_fits_268 (by decide) (fun c40 => ?_) (fun c40 => ?_)
    · have hf := it_t hf c40
      refine lv_iconst (v := 0) S.1 S.2.1 dX1_fits_279 (by decide) ?_
      obtain rfl := Option.some.inj hf
      exact mm_zret S hR hS hr hlocks (Or.inl rfl) dX1_fits_280
    · have hf := it_f hf c40
      refine lv_iload_n S.1 S.2.1 dX1_fits_271 rfl (lv_at hl 3 rfl) ?_
      refine lv_if_ne (tgt := 279) S.1 S.2.1 dX1_fits_272 (by decide) (fun c41 => ?_) (fun c41 => ?_)
      · have hf := it_f hf c41
        refine lv_iconst (v := 0) S.1 S.2.1 dX1_fits_279 (by decide) ?_
        obtain rfl := Option.some.inj hf
        exact mm_zret S hR hS hr hlocks (Or.inl rfl) dX1_fits_280
      · have hf := it_t hf c41
        refine lv_iconst (v := 1) S.1 S.2.1 dX1_fits_275 (by decide) ?_
        refine lv_goto (tgt := 280) S.1 S.2.1 dX1_fits_276 (by decide) ?_
        obtain rfl := Option.some.inj hf
        exact mm_zret S hR hS hr hlocks (Or.inr rfl) dX1_fits_280
  refine mm_swD (tgt := 295) S [0, 1, 2, 3, 8, 11, 13, 4, 5, 7, 6, 9, 10, 14, 12, 15] dX1_fits_1 (by simp only [List.forall_mem_cons, List.not_mem_nil, false_imp_iff, implies_true, and_true]; (try simp only [not_or] at c1 c5 c9 c12 c17 c21 c26 c30 c34 c38); simp only [c1, c5, c9, c12, c17, c21, c26, c30, c34, c38, not_false_eq_true, and_self, and_true, true_and]) (by decide) (by decide) ?_
  refine lv_iconst (v := 0) S.1 S.2.1 dX1_fits_295 (by decide) ?_
  obtain rfl := Option.some.inj hf
  exact mm_zret S hR hS hr hlocks (Or.inl rfl) dX1_fits_296
-- X1_addLine
def fX1_addLine (h0 : Nat) (x1 : Int32) (x2 : Int32) (x3 : Int32) (μ : MM) : Option (Int32 × MM) :=
  if (12 : Int32) ≤ (mI μ h0 3) then (some ((mI μ h0 3), μ)) else (if mK μ (mP μ h0 0) = 20 then if ¬ ((mI μ h0 3) < 0 ∨ mN μ (mP μ h0 0) ≤ (mI μ h0 3).toNatClampNeg) then st (sI μ (mP μ h0 0) (mI μ h0 3).toNatClampNeg x1) fun μ4 => if mK μ (mP μ4 h0 1) = 20 then if ¬ ((mI μ h0 3) < 0 ∨ mN μ4 (mP μ4 h0 1) ≤ (mI μ h0 3).toNatClampNeg) then st (sI μ4 (mP μ4 h0 1) (mI μ h0 3).toNatClampNeg x2) fun μ7 => if mK μ (mP μ7 h0 2) = 20 then if ¬ ((mI μ h0 3) < 0 ∨ mN μ7 (mP μ7 h0 2) ≤ (mI μ h0 3).toNatClampNeg) then st (sI μ7 (mP μ7 h0 2) (mI μ h0 3).toNatClampNeg x3) fun μ10 => st (sI μ10 h0 3 ((mI μ h0 3) + 1)) fun μ11 => some ((mI μ h0 3), μ11) else none else none else none else none else none else none)
set_option maxRecDepth 100000 in
set_option maxHeartbeats 4000000 in
theorem kX1_addLine_kn {μ : MM} {res : Int32 × MM} {h0 : Nat} {x1 : Int32} {x2 : Int32} {x3 : Int32} (hf : fX1_addLine h0 x1 x2 x3 μ = some res) : mmKN μ res.2 := by
  have hK : mmKN μ μ := mmKN.rf
  unfold fX1_addLine at hf
  rcases it_or hf with ⟨c1, hf⟩ | ⟨c1, hf⟩
  · skip
    obtain rfl := Option.some.inj hf
    exact hK
  · skip
    obtain ⟨g2, hf⟩ := gd hf
    obtain ⟨g3, hf⟩ := gd hf
    obtain ⟨μ4, e4, hf⟩ := stx hf
    have hK : mmKN μ μ4 := by rw [e4]; exact hK.sI
    obtain ⟨g5, hf⟩ := gd hf
    obtain ⟨g6, hf⟩ := gd hf
    obtain ⟨μ7, e7, hf⟩ := stx hf
    have hK : mmKN μ μ7 := by rw [e7]; exact hK.sI
    obtain ⟨g8, hf⟩ := gd hf
    obtain ⟨g9, hf⟩ := gd hf
    obtain ⟨μ10, e10, hf⟩ := stx hf
    have hK : mmKN μ μ10 := by rw [e10]; exact hK.sI
    obtain ⟨μ11, e11, hf⟩ := stx hf
    have hK : mmKN μ μ11 := by rw [e11]; exact hK.sI
    obtain rfl := Option.some.inj hf
    exact hK
abbrev rmX1_addLine : Room := { frames := 0, cells := 0, slots := 0, locals := 0 }
set_option maxRecDepth 100000 in
set_option maxHeartbeats 4000000 in
theorem kX1_addLine_c (l : Launch) (G : mmG) (A : Nat → Prop) {μ : MM} {res : Int32 × MM} {h0 : Nat} {x1 : Int32} {x2 : Int32} {x3 : Int32} (hk0 : mK μ h0 = 2) (hf : fX1_addLine h0 x1 x2 x3 μ = some res) : Met l yX1_addLine [.code yX1_addLine cX1_addLine 5 (some (.int))] rmX1_addLine (mmPc G A μ [rf h0, .int x1, .int x2, .int x3]) (mmQ G A res.2 (some (.int res.1))) 0 0 A := by
  refine mm_ofW (by decide +kernel) (by simp [lg_sl, rf_cat, int_cat]) ?_
  intro p e s m below meth c ls S hR hA hS hr hlocks hl hnm
  have hl : lv_has ls 5 [(0, rf h0), (1, .int x1), (2, .int x2), (3, .int x3)] := by simpa [lv_args, rf_cat, int_cat] using hl
  have E0 : mmEnv p m c cX1_addLine 5 s _ RX1 G A meth (some (.int)) := ⟨S, hA, hr, hlocks⟩
  have hK : mmKN μ μ := mmKN.rf
  unfold fX1_addLine at hf
  refine mm_aload_n S dX1_addLine_0 rfl (lv_at hl 0 rfl) ?_
  refine mm_geti S hR fdX1_21 (hK.k hk0) rfl dX1_addLine_1 ?_
  refine lv_istore (i := 4) (lv' := [(4, .int (mI μ h0 3)), (0, rf h0), (1, .int x1), (2, .int x2), (3, .int x3)]) S.1 S.2.1 dX1_addLine_4 hl (by decide) rfl (fun ls hl => ?_)
  refine lv_iload S.1 S.2.1 dX1_addLine_6 (lv_at hl 0 rfl) ?_
  refine lv_bipush (v := 12) S.1 S.2.1 dX1_addLine_8 (by decide) ?_
  refine lv_icmp_ge (tgt := 45) S.1 S.2.1 dX1_addLine_10 (by decide) (fun c1 => ?_) (fun c1 => ?_)
  · have hf := it_t hf c1
    refine lv_iload S.1 S.2.1 dX1_addLine_45 (lv_at hl 0 rfl) ?_
    obtain rfl := Option.some.inj hf
    exact mm_iret S hR hS hr hlocks dX1_addLine_47
  · have hf := it_f hf c1
    refine mm_aload_n S dX1_addLine_13 rfl (lv_at hl 1 rfl) ?_
    refine mm_getp S hR fdX1_9 (hK.k hk0) rfl dX1_addLine_14 ?_
    refine lv_iload S.1 S.2.1 dX1_addLine_17 (lv_at hl 0 rfl) ?_
    refine lv_iload_n S.1 S.2.1 dX1_addLine_19 rfl (lv_at hl 2 rfl) ?_
    obtain ⟨g2, hf⟩ := gd hf
    obtain ⟨g3, hf⟩ := gd hf
    refine mm_iast S hR hS (hK.k g2) g3 dX1_addLine_20 (fun H locs hR hS => ?_)
    obtain ⟨μ4, e4, hf⟩ := stx hf
    rw [← e4] at hR
    have hK : mmKN μ μ4 := by rw [e4]; exact hK.sI
    refine mm_aload_n S dX1_addLine_21 rfl (lv_at hl 1 rfl) ?_
    refine mm_getp S hR fdX1_15 (hK.k hk0) rfl dX1_addLine_22 ?_
    refine lv_iload S.1 S.2.1 dX1_addLine_25 (lv_at hl 0 rfl) ?_
    refine lv_iload_n S.1 S.2.1 dX1_addLine_27 rfl (lv_at hl 3 rfl) ?_
    obtain ⟨g5, hf⟩ := gd hf
    obtain ⟨g6, hf⟩ := gd hf
    refine mm_iast S hR hS (hK.k g5) g6 dX1_addLine_28 (fun H locs hR hS => ?_)
    obtain ⟨μ7, e7, hf⟩ := stx hf
    rw [← e7] at hR
    have hK : mmKN μ μ7 := by rw [e7]; exact hK.sI
    refine mm_aload_n S dX1_addLine_29 rfl (lv_at hl 1 rfl) ?_
    refine mm_getp S hR fdX1_18 (hK.k hk0) rfl dX1_addLine_30 ?_
    refine lv_iload S.1 S.2.1 dX1_addLine_33 (lv_at hl 0 rfl) ?_
    refine lv_iload_n S.1 S.2.1 dX1_addLine_35 rfl (lv_at hl 4 rfl) ?_
    obtain ⟨g8, hf⟩ := gd hf
    obtain ⟨g9, hf⟩ := gd hf
    refine mm_iast S hR hS (hK.k g8) g9 dX1_addLine_36 (fun H locs hR hS => ?_)
    obtain ⟨μ10, e10, hf⟩ := stx hf
    rw [← e10] at hR
    have hK : mmKN μ μ10 := by rw [e10]; exact hK.sI
    refine mm_aload_n S dX1_addLine_37 rfl (lv_at hl 1 rfl) ?_
    refine lv_iload S.1 S.2.1 dX1_addLine_38 (lv_at hl 0 rfl) ?_
    refine lv_iconst (v := 1) S.1 S.2.1 dX1_addLine_40 (by decide) ?_
    refine lv_iadd S.1 S.2.1 dX1_addLine_41 ?_
    refine mm_puti S hR hS fpX1_21 (hK.k hk0) rfl rfl rfl dX1_addLine_42 (fun H locs hR hS => ?_)
    obtain ⟨μ11, e11, hf⟩ := stx hf
    rw [← e11] at hR
    have hK : mmKN μ μ11 := by rw [e11]; exact hK.sI
    refine lv_iload S.1 S.2.1 dX1_addLine_45 (lv_at hl 0 rfl) ?_
    obtain rfl := Option.some.inj hf
    exact mm_iret S hR hS hr hlocks dX1_addLine_47
-- X1_isWait
def fX1_isWait (x0 : Int32) (μ : MM) : Option (Int32 × MM) :=
  if x0 = (3 : Int32) then (some (1, μ)) else (if x0 = (10 : Int32) then (some (1, μ)) else (if x0 = (12 : Int32) then (some (1, μ)) else (if x0 = (13 : Int32) then (some (1, μ)) else (some (0, μ)))))
set_option maxRecDepth 100000 in
set_option maxHeartbeats 4000000 in
theorem kX1_isWait_kn {μ : MM} {res : Int32 × MM} {x0 : Int32} (hf : fX1_isWait x0 μ = some res) : mmKN μ res.2 := by
  have hK : mmKN μ μ := mmKN.rf
  unfold fX1_isWait at hf
  rcases it_or hf with ⟨c1, hf⟩ | ⟨c1, hf⟩
  · skip
    obtain rfl := Option.some.inj hf
    exact hK
  · skip
    rcases it_or hf with ⟨c2, hf⟩ | ⟨c2, hf⟩
    · skip
      obtain rfl := Option.some.inj hf
      exact hK
    · skip
      rcases it_or hf with ⟨c3, hf⟩ | ⟨c3, hf⟩
      · skip
        obtain rfl := Option.some.inj hf
        exact hK
      · skip
        rcases it_or hf with ⟨c4, hf⟩ | ⟨c4, hf⟩
        · skip
          obtain rfl := Option.some.inj hf
          exact hK
        · skip
          obtain rfl := Option.some.inj hf
          exact hK
abbrev rmX1_isWait : Room := { frames := 0, cells := 0, slots := 0, locals := 0 }
set_option maxRecDepth 100000 in
set_option maxHeartbeats 4000000 in
theorem kX1_isWait_c (l : Launch) (G : mmG) (A : Nat → Prop) {μ : MM} {res : Int32 × MM} {x0 : Int32} (hf : fX1_isWait x0 μ = some res) : Met l yX1_isWait [.code yX1_isWait cX1_isWait 1 (some (.boolean))] rmX1_isWait (mmPc G A μ [.int x0]) (mmQ G A res.2 (some (.int res.1))) 0 0 A := by
  refine mm_ofW (by decide +kernel) (by simp [lg_sl, rf_cat, int_cat]) ?_
  intro p e s m below meth c ls S hR hA hS hr hlocks hl hnm
  have hl : lv_has ls 1 [(0, .int x0)] := by simpa [lv_args, rf_cat, int_cat] using hl
  have E0 : mmEnv p m c cX1_isWait 1 s _ RX1 G A meth (some (.boolean)) := ⟨S, hA, hr, hlocks⟩
  have hK : mmKN μ μ := mmKN.rf
  unfold fX1_isWait at hf
  refine lv_iload_n S.1 S.2.1 dX1_isWait_0 rfl (lv_at hl 0 rfl) ?_
  refine lv_iconst (v := 3) S.1 S.2.1 dX1_isWait_1 (by decide) ?_
  refine lv_icmp_eq (tgt := 23) S.1 S.2.1 dX1_isWait_2 (by decide) (fun c1 => ?_) (fun c1 => ?_)
  · have hf := it_t hf c1
    refine lv_iconst (v := 1) S.1 S.2.1 dX1_isWait_23 (by decide) ?_
    refine lv_goto (tgt := 28) S.1 S.2.1 dX1_isWait_24 (by decide) ?_
    obtain rfl := Option.some.inj hf
    exact mm_zret S hR hS hr hlocks (Or.inr rfl) dX1_isWait_28
  · have hf := it_f hf c1
    refine lv_iload_n S.1 S.2.1 dX1_isWait_5 rfl (lv_at hl 0 rfl) ?_
    refine lv_bipush (v := 10) S.1 S.2.1 dX1_isWait_6 (by decide) ?_
    refine lv_icmp_eq (tgt := 23) S.1 S.2.1 dX1_isWait_8 (by decide) (fun c2 => ?_) (fun c2 => ?_)
    · have hf := it_t hf c2
      refine lv_iconst (v := 1) S.1 S.2.1 dX1_isWait_23 (by decide) ?_
      refine lv_goto (tgt := 28) S.1 S.2.1 dX1_isWait_24 (by decide) ?_
      obtain rfl := Option.some.inj hf
      exact mm_zret S hR hS hr hlocks (Or.inr rfl) dX1_isWait_28
    · have hf := it_f hf c2
      refine lv_iload_n S.1 S.2.1 dX1_isWait_11 rfl (lv_at hl 0 rfl) ?_
      refine lv_bipush (v := 12) S.1 S.2.1 dX1_isWait_12 (by decide) ?_
      refine lv_icmp_eq (tgt := 23) S.1 S.2.1 dX1_isWait_14 (by decide) (fun c3 => ?_) (fun c3 => ?_)
      · have hf := it_t hf c3
        refine lv_iconst (v := 1) S.1 S.2.1 dX1_isWait_23 (by decide) ?_
        refine lv_goto (tgt := 28) S.1 S.2.1 dX1_isWait_24 (by decide) ?_
        obtain rfl := Option.some.inj hf
        exact mm_zret S hR hS hr hlocks (Or.inr rfl) dX1_isWait_28
      · have hf := it_f hf c3
        refine lv_iload_n S.1 S.2.1 dX1_isWait_17 rfl (lv_at hl 0 rfl) ?_
        refine lv_bipush (v := 13) S.1 S.2.1 dX1_isWait_18 (by decide) ?_
        refine lv_icmp_ne (tgt := 27) S.1 S.2.1 dX1_isWait_20 (by decide) (fun c4 => ?_) (fun c4 => ?_)
        · have hf := it_f hf c4
          refine lv_iconst (v := 0) S.1 S.2.1 dX1_isWait_27 (by decide) ?_
          obtain rfl := Option.some.inj hf
          exact mm_zret S hR hS hr hlocks (Or.inl rfl) dX1_isWait_28
        · have hf := it_t hf c4
          refine lv_iconst (v := 1) S.1 S.2.1 dX1_isWait_23 (by decide) ?_
          refine lv_goto (tgt := 28) S.1 S.2.1 dX1_isWait_24 (by decide) ?_
          obtain rfl := Option.some.inj hf
          exact mm_zret S hR hS hr hlocks (Or.inr rfl) dX1_isWait_28
-- X1_nextOf
def fX1_nextOf (h0 : Nat) (x1 : Int32) (μ : MM) : Option (Int32 × MM) :=
  (fX1_kindAt h0 x1 μ).bind fun y1 => if y1.1 = 4 ∨ y1.1 = 5 ∨ y1.1 = 6 then ((fX1_bAt h0 x1 y1.2).bind fun y3 => some (((1 <<< ((x1 + 1) &&& 31)) ||| (1 <<< (y3.1 &&& 31))), y3.2)) else (if y1.1 = 7 then ((fX1_bAt h0 x1 y1.2).bind fun y5 => some ((1 <<< (y5.1 &&& 31)), y5.2)) else (if y1.1 = 9 ∨ y1.1 = 11 then (some (0, y1.2)) else (some ((1 <<< ((x1 + 1) &&& 31)), y1.2))))
set_option maxRecDepth 100000 in
set_option maxHeartbeats 4000000 in
theorem kX1_nextOf_kn {μ : MM} {res : Int32 × MM} {h0 : Nat} {x1 : Int32} (hf : fX1_nextOf h0 x1 μ = some res) : mmKN μ res.2 := by
  have hK : mmKN μ μ := mmKN.rf
  unfold fX1_nextOf at hf
  obtain ⟨y1, hy1, hf⟩ := bd hf
  have hK : mmKN μ y1.2 := hK.tr (kX1_kindAt_kn hy1)
  rcases it_or hf with ⟨c2, hf⟩ | ⟨c2, hf⟩
  · skip
    obtain ⟨y3, hy3, hf⟩ := bd hf
    have hK : mmKN μ y3.2 := hK.tr (kX1_bAt_kn hy3)
    obtain rfl := Option.some.inj hf
    exact hK
  rcases it_or hf with ⟨c4, hf⟩ | ⟨c4, hf⟩
  · skip
    obtain ⟨y5, hy5, hf⟩ := bd hf
    have hK : mmKN μ y5.2 := hK.tr (kX1_bAt_kn hy5)
    obtain rfl := Option.some.inj hf
    exact hK
  rcases it_or hf with ⟨c6, hf⟩ | ⟨c6, hf⟩
  · skip
    obtain rfl := Option.some.inj hf
    exact hK
  obtain rfl := Option.some.inj hf
  exact hK
abbrev rmX1_nextOf : Room := { frames := 2, cells := 0, slots := 0, locals := 42 }
set_option maxRecDepth 100000 in
set_option maxHeartbeats 4000000 in
theorem kX1_nextOf_c (l : Launch) (G : mmG) (A : Nat → Prop) {μ : MM} {res : Int32 × MM} {h0 : Nat} {x1 : Int32} (hk0 : mK μ h0 = 2) (hf : fX1_nextOf h0 x1 μ = some res) : Met l yX1_nextOf [.code yX1_nextOf cX1_nextOf 3 (some (.int))] rmX1_nextOf (mmPc G A μ [rf h0, .int x1]) (mmQ G A res.2 (some (.int res.1))) 0 0 A := by
  refine mm_ofW (by decide +kernel) (by simp [lg_sl, rf_cat, int_cat]) ?_
  intro p e s m below meth c ls S hR hA hS hr hlocks hl hnm
  have hl : lv_has ls 3 [(0, rf h0), (1, .int x1)] := by simpa [lv_args, rf_cat, int_cat] using hl
  have E0 : mmEnv p m c cX1_nextOf 3 s _ RX1 G A meth (some (.int)) := ⟨S, hA, hr, hlocks⟩
  have hK : mmKN μ μ := mmKN.rf
  unfold fX1_nextOf at hf
  refine lv_iconst (v := 1) S.1 S.2.1 dX1_nextOf_0 (by decide) ?_
  refine lv_iload_n S.1 S.2.1 dX1_nextOf_1 rfl (lv_at hl 1 rfl) ?_
  refine lv_iconst (v := 1) S.1 S.2.1 dX1_nextOf_2 (by decide) ?_
  refine lv_iadd S.1 S.2.1 dX1_nextOf_3 ?_
  refine lv_ishl S.1 S.2.1 dX1_nextOf_4 ?_
  refine lv_istore_n (i := 2) (lv' := [(2, .int (1 <<< ((x1 + 1) &&& 31))), (0, rf h0), (1, .int x1)]) S.1 S.2.1 dX1_nextOf_5 rfl hl (by decide) rfl (fun ls hl => ?_)
  refine mm_aload_n S dX1_nextOf_6 rfl (lv_at hl 1 rfl) ?_
  refine lv_iload_n S.1 S.2.1 dX1_nextOf_7 rfl (lv_at hl 2 rfl) ?_
  obtain ⟨y1, hy1, hf⟩ := bd hf
  refine mm_callVi S hR hS hA (As := [.int x1]) (rest := []) cvX1_37 (hK.k hk0) (kX1_kindAt_c l G A (hK.k hk0) hy1) rfl rfl ⟨Nat.le_of_ble_eq_true rfl, Nat.le_of_ble_eq_true rfl⟩ rfl hl.1 rfl (lv_room (by simp [rf_cat, int_cat])) dX1_nextOf_8 ⟨Nat.le_refl _, Nat.le_refl _⟩ (fun H locs hR hS => ?_)
  have hK : mmKN μ y1.2 := hK.tr (kX1_kindAt_kn hy1)
  rcases it_or hf with ⟨c2, hf⟩ | ⟨c2, hf⟩
  · refine mm_swL (tgt := 56) (off := 45) S [4, 5, 6] dX1_nextOf_11 (by simpa using c2) (by decide) (by decide) ?_
    refine lv_iload_n S.1 S.2.1 dX1_nextOf_56 rfl (lv_at hl 0 rfl) ?_
    refine lv_iconst (v := 1) S.1 S.2.1 dX1_nextOf_57 (by decide) ?_
    refine mm_aload_n S dX1_nextOf_58 rfl (lv_at hl 1 rfl) ?_
    refine lv_iload_n S.1 S.2.1 dX1_nextOf_59 rfl (lv_at hl 2 rfl) ?_
    obtain ⟨y3, hy3, hf⟩ := bd hf
    refine mm_callVi S hR hS hA (As := [.int x1]) (rest := [.int 1, .int (1 <<< ((x1 + 1) &&& 31))]) cvX1_43 (hK.k hk0) (kX1_bAt_c l G A (hK.k hk0) hy3) rfl rfl ⟨Nat.le_of_ble_eq_true rfl, Nat.le_of_ble_eq_true rfl⟩ rfl hl.1 rfl (lv_room (by simp [rf_cat, int_cat])) dX1_nextOf_60 ⟨Nat.le_refl _, Nat.le_refl _⟩ (fun H locs hR hS => ?_)
    have hK : mmKN μ y3.2 := hK.tr (kX1_bAt_kn hy3)
    refine lv_ishl S.1 S.2.1 dX1_nextOf_63 ?_
    refine lv_ior S.1 S.2.1 dX1_nextOf_64 ?_
    obtain rfl := Option.some.inj hf
    exact mm_iret S hR hS hr hlocks dX1_nextOf_65
  rcases it_or hf with ⟨c4, hf⟩ | ⟨c4, hf⟩
  · refine mm_swL (tgt := 66) (off := 55) S [7] dX1_nextOf_11 (by simpa using c4) (by decide) (by decide) ?_
    refine lv_iconst (v := 1) S.1 S.2.1 dX1_nextOf_66 (by decide) ?_
    refine mm_aload_n S dX1_nextOf_67 rfl (lv_at hl 1 rfl) ?_
    refine lv_iload_n S.1 S.2.1 dX1_nextOf_68 rfl (lv_at hl 2 rfl) ?_
    obtain ⟨y5, hy5, hf⟩ := bd hf
    refine mm_callVi S hR hS hA (As := [.int x1]) (rest := [.int 1]) cvX1_43 (hK.k hk0) (kX1_bAt_c l G A (hK.k hk0) hy5) rfl rfl ⟨Nat.le_of_ble_eq_true rfl, Nat.le_of_ble_eq_true rfl⟩ rfl hl.1 rfl (lv_room (by simp [rf_cat, int_cat])) dX1_nextOf_69 ⟨Nat.le_refl _, Nat.le_refl _⟩ (fun H locs hR hS => ?_)
    have hK : mmKN μ y5.2 := hK.tr (kX1_bAt_kn hy5)
    refine lv_ishl S.1 S.2.1 dX1_nextOf_72 ?_
    obtain rfl := Option.some.inj hf
    exact mm_iret S hR hS hr hlocks dX1_nextOf_73
  rcases it_or hf with ⟨c6, hf⟩ | ⟨c6, hf⟩
  · refine mm_swL (tgt := 74) (off := 63) S [9, 11] dX1_nextOf_11 (by simpa using c6) (by decide) (by decide) ?_
    refine lv_iconst (v := 0) S.1 S.2.1 dX1_nextOf_74 (by decide) ?_
    obtain rfl := Option.some.inj hf
    exact mm_iret S hR hS hr hlocks dX1_nextOf_75
  refine mm_swD (tgt := 76) S [4, 5, 6, 7, 9, 11] dX1_nextOf_11 (by simp only [List.forall_mem_cons, List.not_mem_nil, false_imp_iff, implies_true, and_true]; (try simp only [not_or] at c2 c4 c6); simp only [c2, c4, c6, not_false_eq_true, and_self, and_true, true_and]) (by decide) (by decide) ?_
  refine lv_iload_n S.1 S.2.1 dX1_nextOf_76 rfl (lv_at hl 0 rfl) ?_
  obtain rfl := Option.some.inj hf
  exact mm_iret S hR hS hr hlocks dX1_nextOf_77
-- X1_howManyWaits
def bX1_howManyWaits_52 (kk52 : Nat → Int32 → Int32 → Int32 → MM → Option (Int32 × MM)) (h0 : Nat) (x1 : Int32) (x2 : Int32) (x3 : Int32) (μ : MM) : Option (Int32 × MM) :=
  if mK μ h0 = 2 then if (mI μ h0 3) ≤ x3 then (some (x2, μ)) else (if ((x1 >>> (x3 &&& 31)) &&& 1) = 0 then (kk52 h0 x1 x2 (x3 + 1) μ) else ((fX1_kindAt h0 x3 μ).bind fun y4 => (fX1_isWait y4.1 y4.2).bind fun y5 => if y5.1 = 0 then (kk52 h0 x1 x2 (x3 + 1) y5.2) else (kk52 h0 x1 (x2 + 1) (x3 + 1) y5.2))) else none
def lX1_howManyWaits_52  : Nat → Nat → Int32 → Int32 → Int32 → MM → Option (Int32 × MM)
  | 0, _, _, _, _, _ => none
  | n + 1, h0, x1, x2, x3, μ => bX1_howManyWaits_52  (fun h0 x1 x2 x3 μ => lX1_howManyWaits_52  n h0 x1 x2 x3 μ) h0 x1 x2 x3 μ
def bX1_howManyWaits_12 (kk4 : Nat → Int32 → Int32 → MM → Option (Int32 × MM)) (kk12 : Nat → Int32 → Int32 → Int32 → MM → Option (Int32 × MM)) (h0 : Nat) (x1 : Int32) (x2 : Int32) (x3 : Int32) (μ : MM) : Option (Int32 × MM) :=
  if mK μ h0 = 2 then if (mI μ h0 3) ≤ x3 then (kk4 h0 x1 (x2 + 1) μ) else (if ((x1 >>> (x3 &&& 31)) &&& 1) = 0 then (kk12 h0 x1 x2 (x3 + 1) μ) else ((fX1_nextOf h0 x3 μ).bind fun y4 => kk12 h0 (x1 ||| y4.1) x2 (x3 + 1) y4.2)) else none
def lX1_howManyWaits_12 (kk4 : Nat → Int32 → Int32 → MM → Option (Int32 × MM)) : Nat → Nat → Int32 → Int32 → Int32 → MM → Option (Int32 × MM)
  | 0, _, _, _, _, _ => none
  | n + 1, h0, x1, x2, x3, μ => bX1_howManyWaits_12 kk4 (fun h0 x1 x2 x3 μ => lX1_howManyWaits_12 kk4 n h0 x1 x2 x3 μ) h0 x1 x2 x3 μ
def bX1_howManyWaits_4 (kk4 : Nat → Int32 → Int32 → MM → Option (Int32 × MM)) (h0 : Nat) (x1 : Int32) (x2 : Int32) (μ : MM) : Option (Int32 × MM) :=
  if (12 : Int32) ≤ x2 then (lX1_howManyWaits_52  FU h0 x1 0 0 μ) else (lX1_howManyWaits_12 kk4 FU h0 x1 x2 0 μ)
def lX1_howManyWaits_4  : Nat → Nat → Int32 → Int32 → MM → Option (Int32 × MM)
  | 0, _, _, _, _ => none
  | n + 1, h0, x1, x2, μ => bX1_howManyWaits_4  (fun h0 x1 x2 μ => lX1_howManyWaits_4  n h0 x1 x2 μ) h0 x1 x2 μ
def fX1_howManyWaits (h0 : Nat) (μ : MM) : Option (Int32 × MM) :=
  lX1_howManyWaits_4  FU h0 1 0 μ
set_option maxRecDepth 100000 in
set_option maxHeartbeats 4000000 in
theorem knbX1_howManyWaits_52 (kk52 : Nat → Int32 → Int32 → Int32 → MM → Option (Int32 × MM)) (hkk52 : ∀ (h0 : Nat) (x1 : Int32) (x2 : Int32) (x3 : Int32) (μ : MM) (res : Int32 × MM), kk52 h0 x1 x2 x3 μ = some res → mmKN μ res.2) : ∀ (h0 : Nat) (x1 : Int32) (x2 : Int32) (x3 : Int32) (μ : MM) (res : Int32 × MM), bX1_howManyWaits_52 kk52 h0 x1 x2 x3 μ = some res → mmKN μ res.2 := by
  intro h0 x1 x2 x3 μ res hf
  have hK : mmKN μ μ := mmKN.rf
  unfold bX1_howManyWaits_52 at hf
  obtain ⟨g1, hf⟩ := gd hf
  rcases it_or hf with ⟨c2, hf⟩ | ⟨c2, hf⟩
  · skip
    obtain rfl := Option.some.inj hf
    exact hK
  · skip
    rcases it_or hf with ⟨c3, hf⟩ | ⟨c3, hf⟩
    · skip
      exact hK.tr (hkk52 h0 x1 x2 (x3 + 1) μ _ hf)
    · skip
      obtain ⟨y4, hy4, hf⟩ := bd hf
      have hK : mmKN μ y4.2 := hK.tr (kX1_kindAt_kn hy4)
      obtain ⟨y5, hy5, hf⟩ := bd hf
      have hK : mmKN μ y5.2 := hK.tr (kX1_isWait_kn hy5)
      rcases it_or hf with ⟨c6, hf⟩ | ⟨c6, hf⟩
      · skip
        exact hK.tr (hkk52 h0 x1 x2 (x3 + 1) y5.2 _ hf)
      · skip
        exact hK.tr (hkk52 h0 x1 (x2 + 1) (x3 + 1) y5.2 _ hf)
theorem knlX1_howManyWaits_52  : ∀ (n : Nat) (h0 : Nat) (x1 : Int32) (x2 : Int32) (x3 : Int32) (μ : MM) (res : Int32 × MM), lX1_howManyWaits_52  n h0 x1 x2 x3 μ = some res → mmKN μ res.2 := by
  intro n
  induction n with
  | zero => intro h0 x1 x2 x3 μ res hf; cases hf
  | succ n ih => intro h0 x1 x2 x3 μ res hf; exact knbX1_howManyWaits_52  _ ih h0 x1 x2 x3 μ res hf
set_option maxRecDepth 100000 in
set_option maxHeartbeats 4000000 in
theorem knbX1_howManyWaits_12 (kk4 : Nat → Int32 → Int32 → MM → Option (Int32 × MM)) (hkk4 : ∀ (h0 : Nat) (x1 : Int32) (x2 : Int32) (μ : MM) (res : Int32 × MM), kk4 h0 x1 x2 μ = some res → mmKN μ res.2) (kk12 : Nat → Int32 → Int32 → Int32 → MM → Option (Int32 × MM)) (hkk12 : ∀ (h0 : Nat) (x1 : Int32) (x2 : Int32) (x3 : Int32) (μ : MM) (res : Int32 × MM), kk12 h0 x1 x2 x3 μ = some res → mmKN μ res.2) : ∀ (h0 : Nat) (x1 : Int32) (x2 : Int32) (x3 : Int32) (μ : MM) (res : Int32 × MM), bX1_howManyWaits_12 kk4 kk12 h0 x1 x2 x3 μ = some res → mmKN μ res.2 := by
  intro h0 x1 x2 x3 μ res hf
  have hK : mmKN μ μ := mmKN.rf
  unfold bX1_howManyWaits_12 at hf
  obtain ⟨g1, hf⟩ := gd hf
  rcases it_or hf with ⟨c2, hf⟩ | ⟨c2, hf⟩
  · skip
    exact hK.tr (hkk4 h0 x1 (x2 + 1) μ _ hf)
  · skip
    rcases it_or hf with ⟨c3, hf⟩ | ⟨c3, hf⟩
    · skip
      exact hK.tr (hkk12 h0 x1 x2 (x3 + 1) μ _ hf)
    · skip
      obtain ⟨y4, hy4, hf⟩ := bd hf
      have hK : mmKN μ y4.2 := hK.tr (kX1_nextOf_kn hy4)
      exact hK.tr (hkk12 h0 (x1 ||| y4.1) x2 (x3 + 1) y4.2 _ hf)
theorem knlX1_howManyWaits_12 (kk4 : Nat → Int32 → Int32 → MM → Option (Int32 × MM)) (hkk4 : ∀ (h0 : Nat) (x1 : Int32) (x2 : Int32) (μ : MM) (res : Int32 × MM), kk4 h0 x1 x2 μ = some res → mmKN μ res.2) : ∀ (n : Nat) (h0 : Nat) (x1 : Int32) (x2 : Int32) (x3 : Int32) (μ : MM) (res : Int32 × MM), lX1_howManyWaits_12 kk4 n h0 x1 x2 x3 μ = some res → mmKN μ res.2 := by
  intro n
  induction n with
  | zero => intro h0 x1 x2 x3 μ res hf; cases hf
  | succ n ih => intro h0 x1 x2 x3 μ res hf; exact knbX1_howManyWaits_12 kk4 hkk4 _ ih h0 x1 x2 x3 μ res hf
set_option maxRecDepth 100000 in
set_option maxHeartbeats 4000000 in
theorem knbX1_howManyWaits_4 (kk4 : Nat → Int32 → Int32 → MM → Option (Int32 × MM)) (hkk4 : ∀ (h0 : Nat) (x1 : Int32) (x2 : Int32) (μ : MM) (res : Int32 × MM), kk4 h0 x1 x2 μ = some res → mmKN μ res.2) : ∀ (h0 : Nat) (x1 : Int32) (x2 : Int32) (μ : MM) (res : Int32 × MM), bX1_howManyWaits_4 kk4 h0 x1 x2 μ = some res → mmKN μ res.2 := by
  intro h0 x1 x2 μ res hf
  have hK : mmKN μ μ := mmKN.rf
  unfold bX1_howManyWaits_4 at hf
  rcases it_or hf with ⟨c1, hf⟩ | ⟨c1, hf⟩
  · skip
    exact hK.tr (knlX1_howManyWaits_52  FU h0 x1 0 0 μ _ hf)
  · skip
    exact hK.tr (knlX1_howManyWaits_12 kk4 hkk4 FU h0 x1 x2 0 μ _ hf)
theorem knlX1_howManyWaits_4  : ∀ (n : Nat) (h0 : Nat) (x1 : Int32) (x2 : Int32) (μ : MM) (res : Int32 × MM), lX1_howManyWaits_4  n h0 x1 x2 μ = some res → mmKN μ res.2 := by
  intro n
  induction n with
  | zero => intro h0 x1 x2 μ res hf; cases hf
  | succ n ih => intro h0 x1 x2 μ res hf; exact knbX1_howManyWaits_4  _ ih h0 x1 x2 μ res hf
set_option maxRecDepth 100000 in
set_option maxHeartbeats 4000000 in
theorem kX1_howManyWaits_kn {μ : MM} {res : Int32 × MM} {h0 : Nat} (hf : fX1_howManyWaits h0 μ = some res) : mmKN μ res.2 := by
  have hK : mmKN μ μ := mmKN.rf
  unfold fX1_howManyWaits at hf
  exact hK.tr (knlX1_howManyWaits_4  FU h0 1 0 μ _ hf)
abbrev rmX1_howManyWaits : Room := { frames := 3, cells := 0, slots := 0, locals := 64 }
set_option maxRecDepth 100000 in
set_option maxHeartbeats 4000000 in
theorem wbX1_howManyWaits_52 {p : Program} {l : Launch} {e : Env} {s : State} {m : MethodId} {args : Array Value} {below : List Frame} {meth : Method} {c : Code} {G : mmG} {A : Nat → Prop} {res : Int32 × MM} (E0 : mmEnv p m c cX1_howManyWaits 4 s args RX1 G A meth (some (.int))) (kk52 : Nat → Int32 → Int32 → Int32 → MM → Option (Int32 × MM)) (hkk52 : ∀ (h0 : Nat) (x1 : Int32) (x2 : Int32) (x3 : Int32) (μ : MM), kk52 h0 x1 x2 x3 μ = some res → mmGoal p l e rmX1_howManyWaits s m args below meth c G A 52 4 [(0, rf h0), (1, .int x1), (2, .int x2), (3, .int x3)] μ (mmQ G A res.2 (some (.int res.1)))) : ∀ (h0 : Nat) (x1 : Int32) (x2 : Int32) (x3 : Int32) (μ : MM), bX1_howManyWaits_52 kk52 h0 x1 x2 x3 μ = some res → mmGoal p l e rmX1_howManyWaits s m args below meth c G A 52 4 [(0, rf h0), (1, .int x1), (2, .int x2), (3, .int x3)] μ (mmQ G A res.2 (some (.int res.1))) := by
  obtain ⟨S, hA, hr, hlocks⟩ := id E0
  intro h0 x1 x2 x3 μ hf H locs ls hR hS hl
  have hK : mmKN μ μ := mmKN.rf
  unfold bX1_howManyWaits_52 at hf
  refine lv_iload_n S.1 S.2.1 dX1_howManyWaits_52 rfl (lv_at hl 3 rfl) ?_
  refine mm_aload_n S dX1_howManyWaits_53 rfl (lv_at hl 0 rfl) ?_
  obtain ⟨g1, hf⟩ := gd hf
  refine mm_geti S hR fdX1_21 (hK.k g1) rfl dX1_howManyWaits_54 ?_
  refine lv_icmp_ge (tgt := 88) S.1 S.2.1 dX1_howManyWaits_57 (by decide) (fun c2 => ?_) (fun c2 => ?_)
  · have hf := it_t hf c2
    refine lv_iload_n S.1 S.2.1 dX1_howManyWaits_88 rfl (lv_at hl 2 rfl) ?_
    obtain rfl := Option.some.inj hf
    exact mm_iret S hR hS hr hlocks dX1_howManyWaits_89
  · have hf := it_f hf c2
    refine lv_iload_n S.1 S.2.1 dX1_howManyWaits_60 rfl (lv_at hl 1 rfl) ?_
    refine lv_iload_n S.1 S.2.1 dX1_howManyWaits_61 rfl (lv_at hl 3 rfl) ?_
    refine lv_ishr S.1 S.2.1 dX1_howManyWaits_62 ?_
    refine lv_iconst (v := 1) S.1 S.2.1 dX1_howManyWaits_63 (by decide) ?_
    refine lv_iand S.1 S.2.1 dX1_howManyWaits_64 ?_
    refine lv_if_eq (tgt := 82) S.1 S.2.1 dX1_howManyWaits_65 (by decide) (fun c3 => ?_) (fun c3 => ?_)
    · have hf := it_t hf c3
      refine lv_iinc (v := (x3 + 1)) (lv' := [(3, .int (x3 + 1)), (0, rf h0), (1, .int x1), (2, .int x2)]) S.1 S.2.1 dX1_howManyWaits_82 hl (k := 3) rfl (by rfl) (by decide) rfl (fun ls hl => ?_)
      refine lv_goto (tgt := 52) S.1 S.2.1 dX1_howManyWaits_85 (by decide) ?_
      exact hkk52 h0 x1 x2 (x3 + 1) μ hf _ _ _ hR hS (lv_sub hl [1, 2, 3, 0] rfl)
    · have hf := it_f hf c3
      refine mm_aload_n S dX1_howManyWaits_68 rfl (lv_at hl 0 rfl) ?_
      refine lv_iload_n S.1 S.2.1 dX1_howManyWaits_69 rfl (lv_at hl 3 rfl) ?_
      obtain ⟨y4, hy4, hf⟩ := bd hf
      refine mm_callVi S hR hS hA (As := [.int x3]) (rest := []) cvX1_37 (hK.k g1) (kX1_kindAt_c l G A (hK.k g1) hy4) rfl rfl ⟨Nat.le_of_ble_eq_true rfl, Nat.le_of_ble_eq_true rfl⟩ rfl hl.1 rfl (lv_room (by simp [rf_cat, int_cat])) dX1_howManyWaits_70 ⟨Nat.le_refl _, Nat.le_refl _⟩ (fun H locs hR hS => ?_)
      have hK : mmKN μ y4.2 := hK.tr (kX1_kindAt_kn hy4)
      obtain ⟨y5, hy5, hf⟩ := bd hf
      refine mm_callSi S hR hS hA (As := [.int y4.1]) (rest := []) csX1_40 (kX1_isWait_c l G A hy5) rfl rfl ⟨Nat.le_of_ble_eq_true rfl, Nat.le_of_ble_eq_true rfl⟩ rfl hl.1 rfl (lv_room (by simp [rf_cat, int_cat])) dX1_howManyWaits_73 ⟨Nat.le_refl _, Nat.le_refl _⟩ (fun H locs hR hS => ?_)
      have hK : mmKN μ y5.2 := hK.tr (kX1_isWait_kn hy5)
      refine lv_if_eq (tgt := 82) S.1 S.2.1 dX1_howManyWaits_76 (by decide) (fun c6 => ?_) (fun c6 => ?_)
      · have hf := it_t hf c6
        refine lv_iinc (v := (x3 + 1)) (lv' := [(3, .int (x3 + 1)), (0, rf h0), (1, .int x1), (2, .int x2)]) S.1 S.2.1 dX1_howManyWaits_82 hl (k := 3) rfl (by rfl) (by decide) rfl (fun ls hl => ?_)
        refine lv_goto (tgt := 52) S.1 S.2.1 dX1_howManyWaits_85 (by decide) ?_
        exact hkk52 h0 x1 x2 (x3 + 1) y5.2 hf _ _ _ hR hS (lv_sub hl [1, 2, 3, 0] rfl)
      · have hf := it_f hf c6
        refine lv_iinc (v := (x2 + 1)) (lv' := [(2, .int (x2 + 1)), (0, rf h0), (1, .int x1), (3, .int x3)]) S.1 S.2.1 dX1_howManyWaits_79 hl (k := 2) rfl (by rfl) (by decide) rfl (fun ls hl => ?_)
        refine lv_iinc (v := (x3 + 1)) (lv' := [(3, .int (x3 + 1)), (2, .int (x2 + 1)), (0, rf h0), (1, .int x1)]) S.1 S.2.1 dX1_howManyWaits_82 hl (k := 3) rfl (by rfl) (by decide) rfl (fun ls hl => ?_)
        refine lv_goto (tgt := 52) S.1 S.2.1 dX1_howManyWaits_85 (by decide) ?_
        exact hkk52 h0 x1 (x2 + 1) (x3 + 1) y5.2 hf _ _ _ hR hS (lv_sub hl [2, 3, 1, 0] rfl)
theorem wlX1_howManyWaits_52 {p : Program} {l : Launch} {e : Env} {s : State} {m : MethodId} {args : Array Value} {below : List Frame} {meth : Method} {c : Code} {G : mmG} {A : Nat → Prop} {res : Int32 × MM} (E0 : mmEnv p m c cX1_howManyWaits 4 s args RX1 G A meth (some (.int)))  : ∀ (n : Nat) (h0 : Nat) (x1 : Int32) (x2 : Int32) (x3 : Int32) (μ : MM), lX1_howManyWaits_52  n h0 x1 x2 x3 μ = some res → mmGoal p l e rmX1_howManyWaits s m args below meth c G A 52 4 [(0, rf h0), (1, .int x1), (2, .int x2), (3, .int x3)] μ (mmQ G A res.2 (some (.int res.1))) := by
  intro n
  induction n with
  | zero => intro h0 x1 x2 x3 μ hf; cases hf
  | succ n ih => intro h0 x1 x2 x3 μ hf; exact wbX1_howManyWaits_52 E0  _ ih h0 x1 x2 x3 μ hf
set_option maxRecDepth 100000 in
set_option maxHeartbeats 4000000 in
theorem wbX1_howManyWaits_12 {p : Program} {l : Launch} {e : Env} {s : State} {m : MethodId} {args : Array Value} {below : List Frame} {meth : Method} {c : Code} {G : mmG} {A : Nat → Prop} {res : Int32 × MM} (E0 : mmEnv p m c cX1_howManyWaits 4 s args RX1 G A meth (some (.int))) (kk4 : Nat → Int32 → Int32 → MM → Option (Int32 × MM)) (hkk4 : ∀ (h0 : Nat) (x1 : Int32) (x2 : Int32) (μ : MM), kk4 h0 x1 x2 μ = some res → mmGoal p l e rmX1_howManyWaits s m args below meth c G A 4 4 [(0, rf h0), (1, .int x1), (2, .int x2)] μ (mmQ G A res.2 (some (.int res.1)))) (kk12 : Nat → Int32 → Int32 → Int32 → MM → Option (Int32 × MM)) (hkk12 : ∀ (h0 : Nat) (x1 : Int32) (x2 : Int32) (x3 : Int32) (μ : MM), kk12 h0 x1 x2 x3 μ = some res → mmGoal p l e rmX1_howManyWaits s m args below meth c G A 12 4 [(0, rf h0), (1, .int x1), (2, .int x2), (3, .int x3)] μ (mmQ G A res.2 (some (.int res.1)))) : ∀ (h0 : Nat) (x1 : Int32) (x2 : Int32) (x3 : Int32) (μ : MM), bX1_howManyWaits_12 kk4 kk12 h0 x1 x2 x3 μ = some res → mmGoal p l e rmX1_howManyWaits s m args below meth c G A 12 4 [(0, rf h0), (1, .int x1), (2, .int x2), (3, .int x3)] μ (mmQ G A res.2 (some (.int res.1))) := by
  obtain ⟨S, hA, hr, hlocks⟩ := id E0
  intro h0 x1 x2 x3 μ hf H locs ls hR hS hl
  have hK : mmKN μ μ := mmKN.rf
  unfold bX1_howManyWaits_12 at hf
  refine lv_iload_n S.1 S.2.1 dX1_howManyWaits_12 rfl (lv_at hl 3 rfl) ?_
  refine mm_aload_n S dX1_howManyWaits_13 rfl (lv_at hl 0 rfl) ?_
  obtain ⟨g1, hf⟩ := gd hf
  refine mm_geti S hR fdX1_21 (hK.k g1) rfl dX1_howManyWaits_14 ?_
  refine lv_icmp_ge (tgt := 42) S.1 S.2.1 dX1_howManyWaits_17 (by decide) (fun c2 => ?_) (fun c2 => ?_)
  · have hf := it_t hf c2
    refine lv_iinc (v := (x2 + 1)) (lv' := [(2, .int (x2 + 1)), (0, rf h0), (1, .int x1), (3, .int x3)]) S.1 S.2.1 dX1_howManyWaits_42 hl (k := 2) rfl (by rfl) (by decide) rfl (fun ls hl => ?_)
    refine lv_goto (tgt := 4) S.1 S.2.1 dX1_howManyWaits_45 (by decide) ?_
    exact hkk4 h0 x1 (x2 + 1) μ hf _ _ _ hR hS (lv_sub hl [1, 2, 0] rfl)
  · have hf := it_f hf c2
    refine lv_iload_n S.1 S.2.1 dX1_howManyWaits_20 rfl (lv_at hl 1 rfl) ?_
    refine lv_iload_n S.1 S.2.1 dX1_howManyWaits_21 rfl (lv_at hl 3 rfl) ?_
    refine lv_ishr S.1 S.2.1 dX1_howManyWaits_22 ?_
    refine lv_iconst (v := 1) S.1 S.2.1 dX1_howManyWaits_23 (by decide) ?_
    refine lv_iand S.1 S.2.1 dX1_howManyWaits_24 ?_
    refine lv_if_eq (tgt := 36) S.1 S.2.1 dX1_howManyWaits_25 (by decide) (fun c3 => ?_) (fun c3 => ?_)
    · have hf := it_t hf c3
      refine lv_iinc (v := (x3 + 1)) (lv' := [(3, .int (x3 + 1)), (0, rf h0), (1, .int x1), (2, .int x2)]) S.1 S.2.1 dX1_howManyWaits_36 hl (k := 3) rfl (by rfl) (by decide) rfl (fun ls hl => ?_)
      refine lv_goto (tgt := 12) S.1 S.2.1 dX1_howManyWaits_39 (by decide) ?_
      exact hkk12 h0 x1 x2 (x3 + 1) μ hf _ _ _ hR hS (lv_sub hl [1, 2, 3, 0] rfl)
    · have hf := it_f hf c3
      refine lv_iload_n S.1 S.2.1 dX1_howManyWaits_28 rfl (lv_at hl 1 rfl) ?_
      refine mm_aload_n S dX1_howManyWaits_29 rfl (lv_at hl 0 rfl) ?_
      refine lv_iload_n S.1 S.2.1 dX1_howManyWaits_30 rfl (lv_at hl 3 rfl) ?_
      obtain ⟨y4, hy4, hf⟩ := bd hf
      refine mm_callVi S hR hS hA (As := [.int x3]) (rest := [.int x1]) cvX1_33 (hK.k g1) (kX1_nextOf_c l G A (hK.k g1) hy4) rfl rfl ⟨Nat.le_of_ble_eq_true rfl, Nat.le_of_ble_eq_true rfl⟩ rfl hl.1 rfl (lv_room (by simp [rf_cat, int_cat])) dX1_howManyWaits_31 ⟨Nat.le_refl _, Nat.le_refl _⟩ (fun H locs hR hS => ?_)
      have hK : mmKN μ y4.2 := hK.tr (kX1_nextOf_kn hy4)
      refine lv_ior S.1 S.2.1 dX1_howManyWaits_34 ?_
      refine lv_istore_n (i := 1) (lv' := [(1, .int (x1 ||| y4.1)), (0, rf h0), (2, .int x2), (3, .int x3)]) S.1 S.2.1 dX1_howManyWaits_35 rfl hl (by decide) (by simp [rf_cat]) (fun ls hl => ?_)
      refine lv_iinc (v := (x3 + 1)) (lv' := [(3, .int (x3 + 1)), (1, .int (x1 ||| y4.1)), (0, rf h0), (2, .int x2)]) S.1 S.2.1 dX1_howManyWaits_36 hl (k := 3) rfl (by rfl) (by decide) rfl (fun ls hl => ?_)
      refine lv_goto (tgt := 12) S.1 S.2.1 dX1_howManyWaits_39 (by decide) ?_
      exact hkk12 h0 (x1 ||| y4.1) x2 (x3 + 1) y4.2 hf _ _ _ hR hS (lv_sub hl [2, 1, 3, 0] rfl)
theorem wlX1_howManyWaits_12 {p : Program} {l : Launch} {e : Env} {s : State} {m : MethodId} {args : Array Value} {below : List Frame} {meth : Method} {c : Code} {G : mmG} {A : Nat → Prop} {res : Int32 × MM} (E0 : mmEnv p m c cX1_howManyWaits 4 s args RX1 G A meth (some (.int))) (kk4 : Nat → Int32 → Int32 → MM → Option (Int32 × MM)) (hkk4 : ∀ (h0 : Nat) (x1 : Int32) (x2 : Int32) (μ : MM), kk4 h0 x1 x2 μ = some res → mmGoal p l e rmX1_howManyWaits s m args below meth c G A 4 4 [(0, rf h0), (1, .int x1), (2, .int x2)] μ (mmQ G A res.2 (some (.int res.1)))) : ∀ (n : Nat) (h0 : Nat) (x1 : Int32) (x2 : Int32) (x3 : Int32) (μ : MM), lX1_howManyWaits_12 kk4 n h0 x1 x2 x3 μ = some res → mmGoal p l e rmX1_howManyWaits s m args below meth c G A 12 4 [(0, rf h0), (1, .int x1), (2, .int x2), (3, .int x3)] μ (mmQ G A res.2 (some (.int res.1))) := by
  intro n
  induction n with
  | zero => intro h0 x1 x2 x3 μ hf; cases hf
  | succ n ih => intro h0 x1 x2 x3 μ hf; exact wbX1_howManyWaits_12 E0 kk4 hkk4 _ ih h0 x1 x2 x3 μ hf
set_option maxRecDepth 100000 in
set_option maxHeartbeats 4000000 in
theorem wbX1_howManyWaits_4 {p : Program} {l : Launch} {e : Env} {s : State} {m : MethodId} {args : Array Value} {below : List Frame} {meth : Method} {c : Code} {G : mmG} {A : Nat → Prop} {res : Int32 × MM} (E0 : mmEnv p m c cX1_howManyWaits 4 s args RX1 G A meth (some (.int))) (kk4 : Nat → Int32 → Int32 → MM → Option (Int32 × MM)) (hkk4 : ∀ (h0 : Nat) (x1 : Int32) (x2 : Int32) (μ : MM), kk4 h0 x1 x2 μ = some res → mmGoal p l e rmX1_howManyWaits s m args below meth c G A 4 4 [(0, rf h0), (1, .int x1), (2, .int x2)] μ (mmQ G A res.2 (some (.int res.1)))) : ∀ (h0 : Nat) (x1 : Int32) (x2 : Int32) (μ : MM), bX1_howManyWaits_4 kk4 h0 x1 x2 μ = some res → mmGoal p l e rmX1_howManyWaits s m args below meth c G A 4 4 [(0, rf h0), (1, .int x1), (2, .int x2)] μ (mmQ G A res.2 (some (.int res.1))) := by
  obtain ⟨S, hA, hr, hlocks⟩ := id E0
  intro h0 x1 x2 μ hf H locs ls hR hS hl
  have hK : mmKN μ μ := mmKN.rf
  unfold bX1_howManyWaits_4 at hf
  refine lv_iload_n S.1 S.2.1 dX1_howManyWaits_4 rfl (lv_at hl 2 rfl) ?_
  refine lv_bipush (v := 12) S.1 S.2.1 dX1_howManyWaits_5 (by decide) ?_
  refine lv_icmp_ge (tgt := 48) S.1 S.2.1 dX1_howManyWaits_7 (by decide) (fun c1 => ?_) (fun c1 => ?_)
  · have hf := it_t hf c1
    refine lv_iconst (v := 0) S.1 S.2.1 dX1_howManyWaits_48 (by decide) ?_
    refine lv_istore_n (i := 2) (lv' := [(2, .int 0), (0, rf h0), (1, .int x1)]) S.1 S.2.1 dX1_howManyWaits_49 rfl hl (by decide) rfl (fun ls hl => ?_)
    refine lv_iconst (v := 0) S.1 S.2.1 dX1_howManyWaits_50 (by decide) ?_
    refine lv_istore_n (i := 3) (lv' := [(3, .int 0), (2, .int 0), (0, rf h0), (1, .int x1)]) S.1 S.2.1 dX1_howManyWaits_51 rfl hl (by decide) rfl (fun ls hl => ?_)
    exact wlX1_howManyWaits_52 E0  FU h0 x1 0 0 μ hf _ _ _ hR hS (lv_sub hl [2, 3, 1, 0] rfl)
  · have hf := it_f hf c1
    refine lv_iconst (v := 0) S.1 S.2.1 dX1_howManyWaits_10 (by decide) ?_
    refine lv_istore_n (i := 3) (lv' := [(3, .int 0), (0, rf h0), (1, .int x1), (2, .int x2)]) S.1 S.2.1 dX1_howManyWaits_11 rfl hl (by decide) rfl (fun ls hl => ?_)
    exact wlX1_howManyWaits_12 E0 kk4 hkk4 FU h0 x1 x2 0 μ hf _ _ _ hR hS (lv_sub hl [1, 2, 3, 0] rfl)
theorem wlX1_howManyWaits_4 {p : Program} {l : Launch} {e : Env} {s : State} {m : MethodId} {args : Array Value} {below : List Frame} {meth : Method} {c : Code} {G : mmG} {A : Nat → Prop} {res : Int32 × MM} (E0 : mmEnv p m c cX1_howManyWaits 4 s args RX1 G A meth (some (.int)))  : ∀ (n : Nat) (h0 : Nat) (x1 : Int32) (x2 : Int32) (μ : MM), lX1_howManyWaits_4  n h0 x1 x2 μ = some res → mmGoal p l e rmX1_howManyWaits s m args below meth c G A 4 4 [(0, rf h0), (1, .int x1), (2, .int x2)] μ (mmQ G A res.2 (some (.int res.1))) := by
  intro n
  induction n with
  | zero => intro h0 x1 x2 μ hf; cases hf
  | succ n ih => intro h0 x1 x2 μ hf; exact wbX1_howManyWaits_4 E0  _ ih h0 x1 x2 μ hf
set_option maxRecDepth 100000 in
set_option maxHeartbeats 4000000 in
theorem kX1_howManyWaits_c (l : Launch) (G : mmG) (A : Nat → Prop) {μ : MM} {res : Int32 × MM} {h0 : Nat} (hk0 : mK μ h0 = 2) (hf : fX1_howManyWaits h0 μ = some res) : Met l yX1_howManyWaits [.code yX1_howManyWaits cX1_howManyWaits 4 (some (.int))] rmX1_howManyWaits (mmPc G A μ [rf h0]) (mmQ G A res.2 (some (.int res.1))) 0 0 A := by
  refine mm_ofW (by decide +kernel) (by simp [lg_sl, rf_cat, int_cat]) ?_
  intro p e s m below meth c ls S hR hA hS hr hlocks hl hnm
  have hl : lv_has ls 4 [(0, rf h0)] := by simpa [lv_args, rf_cat, int_cat] using hl
  have E0 : mmEnv p m c cX1_howManyWaits 4 s _ RX1 G A meth (some (.int)) := ⟨S, hA, hr, hlocks⟩
  have hK : mmKN μ μ := mmKN.rf
  unfold fX1_howManyWaits at hf
  refine lv_iconst (v := 1) S.1 S.2.1 dX1_howManyWaits_0 (by decide) ?_
  refine lv_istore_n (i := 1) (lv' := [(1, .int 1), (0, rf h0)]) S.1 S.2.1 dX1_howManyWaits_1 rfl hl (by decide) (by simp [rf_cat]) (fun ls hl => ?_)
  refine lv_iconst (v := 0) S.1 S.2.1 dX1_howManyWaits_2 (by decide) ?_
  refine lv_istore_n (i := 2) (lv' := [(2, .int 0), (1, .int 1), (0, rf h0)]) S.1 S.2.1 dX1_howManyWaits_3 rfl hl (by decide) rfl (fun ls hl => ?_)
  exact wlX1_howManyWaits_4 E0  FU h0 1 0 μ hf _ _ _ hR hS (lv_sub hl [2, 1, 0] rfl)
-- X0_has
def fX0_has (h0 : Nat) (x1 : Int32) (μ : MM) : Option (Int32 × MM) :=
  if x1 < 0 then (some (0, μ)) else (if (mI μ h0 2) ≤ x1 then (some (0, μ)) else (some (1, μ)))
set_option maxRecDepth 100000 in
set_option maxHeartbeats 4000000 in
theorem kX0_has_kn {μ : MM} {res : Int32 × MM} {h0 : Nat} {x1 : Int32} (hf : fX0_has h0 x1 μ = some res) : mmKN μ res.2 := by
  have hK : mmKN μ μ := mmKN.rf
  unfold fX0_has at hf
  rcases it_or hf with ⟨c1, hf⟩ | ⟨c1, hf⟩
  · skip
    obtain rfl := Option.some.inj hf
    exact hK
  · skip
    rcases it_or hf with ⟨c2, hf⟩ | ⟨c2, hf⟩
    · skip
      obtain rfl := Option.some.inj hf
      exact hK
    · skip
      obtain rfl := Option.some.inj hf
      exact hK
abbrev rmX0_has : Room := { frames := 0, cells := 0, slots := 0, locals := 0 }
set_option maxRecDepth 100000 in
set_option maxHeartbeats 4000000 in
theorem kX0_has_c (l : Launch) (G : mmG) (A : Nat → Prop) {μ : MM} {res : Int32 × MM} {h0 : Nat} {x1 : Int32} (hk0 : mK μ h0 = 1) (hf : fX0_has h0 x1 μ = some res) : Met l yX0_has [.code yX0_has cX0_has 2 (some (.boolean))] rmX0_has (mmPc G A μ [rf h0, .int x1]) (mmQ G A res.2 (some (.int res.1))) 0 0 A := by
  refine mm_ofW (by decide +kernel) (by simp [lg_sl, rf_cat, int_cat]) ?_
  intro p e s m below meth c ls S hR hA hS hr hlocks hl hnm
  have hl : lv_has ls 2 [(0, rf h0), (1, .int x1)] := by simpa [lv_args, rf_cat, int_cat] using hl
  have E0 : mmEnv p m c cX0_has 2 s _ RX0 G A meth (some (.boolean)) := ⟨S, hA, hr, hlocks⟩
  have hK : mmKN μ μ := mmKN.rf
  unfold fX0_has at hf
  refine lv_iload_n S.1 S.2.1 dX0_has_0 rfl (lv_at hl 1 rfl) ?_
  refine lv_if_lt (tgt := 16) S.1 S.2.1 dX0_has_1 (by decide) (fun c1 => ?_) (fun c1 => ?_)
  · have hf := it_t hf c1
    refine lv_iconst (v := 0) S.1 S.2.1 dX0_has_16 (by decide) ?_
    obtain rfl := Option.some.inj hf
    exact mm_zret S hR hS hr hlocks (Or.inl rfl) dX0_has_17
  · have hf := it_f hf c1
    refine lv_iload_n S.1 S.2.1 dX0_has_4 rfl (lv_at hl 1 rfl) ?_
    refine mm_aload_n S dX0_has_5 rfl (lv_at hl 0 rfl) ?_
    refine mm_geti S hR fdX0_22 (hK.k hk0) rfl dX0_has_6 ?_
    refine lv_icmp_ge (tgt := 16) S.1 S.2.1 dX0_has_9 (by decide) (fun c2 => ?_) (fun c2 => ?_)
    · have hf := it_t hf c2
      refine lv_iconst (v := 0) S.1 S.2.1 dX0_has_16 (by decide) ?_
      obtain rfl := Option.some.inj hf
      exact mm_zret S hR hS hr hlocks (Or.inl rfl) dX0_has_17
    · have hf := it_f hf c2
      refine lv_iconst (v := 1) S.1 S.2.1 dX0_has_12 (by decide) ?_
      refine lv_goto (tgt := 17) S.1 S.2.1 dX0_has_13 (by decide) ?_
      obtain rfl := Option.some.inj hf
      exact mm_zret S hR hS hr hlocks (Or.inr rfl) dX0_has_17
-- X0_at
def fX0_at (h0 : Nat) (x1 : Int32) (μ : MM) : Option (Nat × MM) :=
  if x1 < 0 then (some ((mP μ h0 1), μ)) else (if (8 : Int32) ≤ x1 then (some ((mP μ h0 1), μ)) else (if mK μ (mP μ h0 0) = 21 then if ¬ (x1 < 0 ∨ mN μ (mP μ h0 0) ≤ x1.toNatClampNeg) then some ((mP μ (mP μ h0 0) x1.toNatClampNeg), μ) else none else none))
set_option maxRecDepth 100000 in
set_option maxHeartbeats 4000000 in
theorem kX0_at_kn {μ : MM} {res : Nat × MM} {h0 : Nat} {x1 : Int32} (hf : fX0_at h0 x1 μ = some res) : mmKN μ res.2 := by
  have hK : mmKN μ μ := mmKN.rf
  unfold fX0_at at hf
  rcases it_or hf with ⟨c1, hf⟩ | ⟨c1, hf⟩
  · skip
    obtain rfl := Option.some.inj hf
    exact hK
  · skip
    rcases it_or hf with ⟨c2, hf⟩ | ⟨c2, hf⟩
    · skip
      obtain rfl := Option.some.inj hf
      exact hK
    · skip
      obtain ⟨g3, hf⟩ := gd hf
      obtain ⟨g4, hf⟩ := gd hf
      obtain rfl := Option.some.inj hf
      exact hK
abbrev rmX0_at : Room := { frames := 0, cells := 0, slots := 0, locals := 0 }
set_option maxRecDepth 100000 in
set_option maxHeartbeats 4000000 in
theorem kX0_at_c (l : Launch) (G : mmG) (A : Nat → Prop) {μ : MM} {res : Nat × MM} {h0 : Nat} {x1 : Int32} (hk0 : mK μ h0 = 1) (hf : fX0_at h0 x1 μ = some res) : Met l yX0_at [.code yX0_at cX0_at 2 (some (.object "YieldMoor$Body"))] rmX0_at (mmPc G A μ [rf h0, .int x1]) (mmQ G A res.2 (some (rf res.1))) 0 0 A := by
  refine mm_ofW (by decide +kernel) (by simp [lg_sl, rf_cat, int_cat]) ?_
  intro p e s m below meth c ls S hR hA hS hr hlocks hl hnm
  have hl : lv_has ls 2 [(0, rf h0), (1, .int x1)] := by simpa [lv_args, rf_cat, int_cat] using hl
  have E0 : mmEnv p m c cX0_at 2 s _ RX0 G A meth (some (.object "YieldMoor$Body")) := ⟨S, hA, hr, hlocks⟩
  have hK : mmKN μ μ := mmKN.rf
  unfold fX0_at at hf
  refine lv_iload_n S.1 S.2.1 dX0_at_0 rfl (lv_at hl 1 rfl) ?_
  refine lv_if_lt (tgt := 19) S.1 S.2.1 dX0_at_1 (by decide) (fun c1 => ?_) (fun c1 => ?_)
  · have hf := it_t hf c1
    refine mm_aload_n S dX0_at_19 rfl (lv_at hl 0 rfl) ?_
    refine mm_getp S hR fdX0_18 (hK.k hk0) rfl dX0_at_20 ?_
    obtain rfl := Option.some.inj hf
    exact mm_aret S hR hS hr hlocks dX0_at_23
  · have hf := it_f hf c1
    refine lv_iload_n S.1 S.2.1 dX0_at_4 rfl (lv_at hl 1 rfl) ?_
    refine lv_bipush (v := 8) S.1 S.2.1 dX0_at_5 (by decide) ?_
    refine lv_icmp_ge (tgt := 19) S.1 S.2.1 dX0_at_7 (by decide) (fun c2 => ?_) (fun c2 => ?_)
    · have hf := it_t hf c2
      refine mm_aload_n S dX0_at_19 rfl (lv_at hl 0 rfl) ?_
      refine mm_getp S hR fdX0_18 (hK.k hk0) rfl dX0_at_20 ?_
      obtain rfl := Option.some.inj hf
      exact mm_aret S hR hS hr hlocks dX0_at_23
    · have hf := it_f hf c2
      refine mm_aload_n S dX0_at_10 rfl (lv_at hl 0 rfl) ?_
      refine mm_getp S hR fdX0_11 (hK.k hk0) rfl dX0_at_11 ?_
      refine lv_iload_n S.1 S.2.1 dX0_at_14 rfl (lv_at hl 1 rfl) ?_
      obtain ⟨g3, hf⟩ := gd hf
      obtain ⟨g4, hf⟩ := gd hf
      refine mm_aald21 S hR (hK.k g3) g4 dX0_at_15 ?_
      refine lv_goto (tgt := 23) S.1 S.2.1 dX0_at_16 (by decide) ?_
      obtain rfl := Option.some.inj hf
      exact mm_aret S hR hS hr hlocks dX0_at_23
-- X0_addBody
def fX0_addBody (h0 : Nat) (μ : MM) : Option (Int32 × MM) :=
  st (sI μ h0 2 ((mI μ h0 2) + 1)) fun μ1 => some ((mI μ h0 2), μ1)
set_option maxRecDepth 100000 in
set_option maxHeartbeats 4000000 in
theorem kX0_addBody_kn {μ : MM} {res : Int32 × MM} {h0 : Nat} (hf : fX0_addBody h0 μ = some res) : mmKN μ res.2 := by
  have hK : mmKN μ μ := mmKN.rf
  unfold fX0_addBody at hf
  obtain ⟨μ1, e1, hf⟩ := stx hf
  have hK : mmKN μ μ1 := by rw [e1]; exact hK.sI
  obtain rfl := Option.some.inj hf
  exact hK
abbrev rmX0_addBody : Room := { frames := 0, cells := 0, slots := 0, locals := 0 }
set_option maxRecDepth 100000 in
set_option maxHeartbeats 4000000 in
theorem kX0_addBody_c (l : Launch) (G : mmG) (A : Nat → Prop) {μ : MM} {res : Int32 × MM} {h0 : Nat} (hk0 : mK μ h0 = 1) (hf : fX0_addBody h0 μ = some res) : Met l yX0_addBody [.code yX0_addBody cX0_addBody 2 (some (.int))] rmX0_addBody (mmPc G A μ [rf h0]) (mmQ G A res.2 (some (.int res.1))) 0 0 A := by
  refine mm_ofW (by decide +kernel) (by simp [lg_sl, rf_cat, int_cat]) ?_
  intro p e s m below meth c ls S hR hA hS hr hlocks hl hnm
  have hl : lv_has ls 2 [(0, rf h0)] := by simpa [lv_args, rf_cat, int_cat] using hl
  have E0 : mmEnv p m c cX0_addBody 2 s _ RX0 G A meth (some (.int)) := ⟨S, hA, hr, hlocks⟩
  have hK : mmKN μ μ := mmKN.rf
  unfold fX0_addBody at hf
  refine mm_aload_n S dX0_addBody_0 rfl (lv_at hl 0 rfl) ?_
  refine mm_geti S hR fdX0_22 (hK.k hk0) rfl dX0_addBody_1 ?_
  refine lv_istore_n (i := 1) (lv' := [(1, .int (mI μ h0 2)), (0, rf h0)]) S.1 S.2.1 dX0_addBody_4 rfl hl (by decide) (by simp [rf_cat]) (fun ls hl => ?_)
  refine mm_aload_n S dX0_addBody_5 rfl (lv_at hl 1 rfl) ?_
  refine lv_iload_n S.1 S.2.1 dX0_addBody_6 rfl (lv_at hl 0 rfl) ?_
  refine lv_iconst (v := 1) S.1 S.2.1 dX0_addBody_7 (by decide) ?_
  refine lv_iadd S.1 S.2.1 dX0_addBody_8 ?_
  refine mm_puti S hR hS fpX0_22 (hK.k hk0) rfl rfl rfl dX0_addBody_9 (fun H locs hR hS => ?_)
  obtain ⟨μ1, e1, hf⟩ := stx hf
  rw [← e1] at hR
  have hK : mmKN μ μ1 := by rw [e1]; exact hK.sI
  refine lv_iload_n S.1 S.2.1 dX0_addBody_12 rfl (lv_at hl 0 rfl) ?_
  obtain rfl := Option.some.inj hf
  exact mm_iret S hR hS hr hlocks dX0_addBody_13
end
section
-- X2_becomeNew
def bX2_becomeNew_3 (kk3 : Nat → Int32 → Int32 → Int32 → Int32 → MM → Option (MM)) (h0 : Nat) (x1 : Int32) (x2 : Int32) (x3 : Int32) (x4 : Int32) (μ : MM) : Option (MM) :=
  if (4 : Int32) ≤ x4 then (if mK μ h0 = 3 then if mK μ (mP μ h0 2) = 6 then st (sI μ (mP μ h0 2) 2 0) fun μ4 => st (sI μ4 h0 3 x1) fun μ5 => st (sI μ5 h0 4 x2) fun μ6 => st (sI μ6 h0 5 0) fun μ7 => st (sI μ7 h0 6 0) fun μ8 => st (sI μ8 h0 7 0) fun μ9 => st (sI μ9 h0 9 (-1)) fun μ10 => st (sI μ10 h0 10 (-1)) fun μ11 => st (sI μ11 h0 11 0) fun μ12 => st (sI μ12 h0 12 (-1)) fun μ13 => st (sI μ13 h0 13 (-1)) fun μ14 => st (sI μ14 h0 14 0) fun μ15 => st (sI μ15 h0 15 0) fun μ16 => st (sI μ16 h0 16 x3) fun μ17 => some μ17 else none else none) else (if mK μ h0 = 3 then if mK μ (mP μ h0 1) = 20 then if ¬ (x4 < 0 ∨ mN μ (mP μ h0 1) ≤ x4.toNatClampNeg) then st (sI μ (mP μ h0 1) x4.toNatClampNeg 0) fun μ21 => kk3 h0 x1 x2 x3 (x4 + 1) μ21 else none else none else none)
def lX2_becomeNew_3  : Nat → Nat → Int32 → Int32 → Int32 → Int32 → MM → Option (MM)
  | 0, _, _, _, _, _, _ => none
  | n + 1, h0, x1, x2, x3, x4, μ => bX2_becomeNew_3  (fun h0 x1 x2 x3 x4 μ => lX2_becomeNew_3  n h0 x1 x2 x3 x4 μ) h0 x1 x2 x3 x4 μ
def fX2_becomeNew (h0 : Nat) (x1 : Int32) (x2 : Int32) (x3 : Int32) (μ : MM) : Option (MM) :=
  lX2_becomeNew_3  FU h0 x1 x2 x3 0 μ
set_option maxRecDepth 100000 in
set_option maxHeartbeats 4000000 in
theorem knbX2_becomeNew_3 (kk3 : Nat → Int32 → Int32 → Int32 → Int32 → MM → Option (MM)) (hkk3 : ∀ (h0 : Nat) (x1 : Int32) (x2 : Int32) (x3 : Int32) (x4 : Int32) (μ : MM) (res : MM), kk3 h0 x1 x2 x3 x4 μ = some res → mmKN μ res) : ∀ (h0 : Nat) (x1 : Int32) (x2 : Int32) (x3 : Int32) (x4 : Int32) (μ : MM) (res : MM), bX2_becomeNew_3 kk3 h0 x1 x2 x3 x4 μ = some res → mmKN μ res := by
  intro h0 x1 x2 x3 x4 μ res hf
  have hK : mmKN μ μ := mmKN.rf
  unfold bX2_becomeNew_3 at hf
  rcases it_or hf with ⟨c1, hf⟩ | ⟨c1, hf⟩
  · skip
    obtain ⟨g2, hf⟩ := gd hf
    obtain ⟨g3, hf⟩ := gd hf
    obtain ⟨μ4, e4, hf⟩ := stx hf
    have hK : mmKN μ μ4 := by rw [e4]; exact hK.sI
    obtain ⟨μ5, e5, hf⟩ := stx hf
    have hK : mmKN μ μ5 := by rw [e5]; exact hK.sI
    obtain ⟨μ6, e6, hf⟩ := stx hf
    have hK : mmKN μ μ6 := by rw [e6]; exact hK.sI
    obtain ⟨μ7, e7, hf⟩ := stx hf
    have hK : mmKN μ μ7 := by rw [e7]; exact hK.sI
    obtain ⟨μ8, e8, hf⟩ := stx hf
    have hK : mmKN μ μ8 := by rw [e8]; exact hK.sI
    obtain ⟨μ9, e9, hf⟩ := stx hf
    have hK : mmKN μ μ9 := by rw [e9]; exact hK.sI
    obtain ⟨μ10, e10, hf⟩ := stx hf
    have hK : mmKN μ μ10 := by rw [e10]; exact hK.sI
    obtain ⟨μ11, e11, hf⟩ := stx hf
    have hK : mmKN μ μ11 := by rw [e11]; exact hK.sI
    obtain ⟨μ12, e12, hf⟩ := stx hf
    have hK : mmKN μ μ12 := by rw [e12]; exact hK.sI
    obtain ⟨μ13, e13, hf⟩ := stx hf
    have hK : mmKN μ μ13 := by rw [e13]; exact hK.sI
    obtain ⟨μ14, e14, hf⟩ := stx hf
    have hK : mmKN μ μ14 := by rw [e14]; exact hK.sI
    obtain ⟨μ15, e15, hf⟩ := stx hf
    have hK : mmKN μ μ15 := by rw [e15]; exact hK.sI
    obtain ⟨μ16, e16, hf⟩ := stx hf
    have hK : mmKN μ μ16 := by rw [e16]; exact hK.sI
    obtain ⟨μ17, e17, hf⟩ := stx hf
    have hK : mmKN μ μ17 := by rw [e17]; exact hK.sI
    obtain rfl := Option.some.inj hf
    exact hK
  · skip
    obtain ⟨g18, hf⟩ := gd hf
    obtain ⟨g19, hf⟩ := gd hf
    obtain ⟨g20, hf⟩ := gd hf
    obtain ⟨μ21, e21, hf⟩ := stx hf
    have hK : mmKN μ μ21 := by rw [e21]; exact hK.sI
    exact hK.tr (hkk3 h0 x1 x2 x3 (x4 + 1) μ21 _ hf)
theorem knlX2_becomeNew_3  : ∀ (n : Nat) (h0 : Nat) (x1 : Int32) (x2 : Int32) (x3 : Int32) (x4 : Int32) (μ : MM) (res : MM), lX2_becomeNew_3  n h0 x1 x2 x3 x4 μ = some res → mmKN μ res := by
  intro n
  induction n with
  | zero => intro h0 x1 x2 x3 x4 μ res hf; cases hf
  | succ n ih => intro h0 x1 x2 x3 x4 μ res hf; exact knbX2_becomeNew_3  _ ih h0 x1 x2 x3 x4 μ res hf
set_option maxRecDepth 100000 in
set_option maxHeartbeats 4000000 in
theorem kX2_becomeNew_kn {μ : MM} {res : MM} {h0 : Nat} {x1 : Int32} {x2 : Int32} {x3 : Int32} (hf : fX2_becomeNew h0 x1 x2 x3 μ = some res) : mmKN μ res := by
  have hK : mmKN μ μ := mmKN.rf
  unfold fX2_becomeNew at hf
  exact hK.tr (knlX2_becomeNew_3  FU h0 x1 x2 x3 0 μ _ hf)
abbrev rmX2_becomeNew : Room := { frames := 0, cells := 0, slots := 0, locals := 0 }
set_option maxRecDepth 100000 in
set_option maxHeartbeats 4000000 in
theorem wbX2_becomeNew_3 {p : Program} {l : Launch} {e : Env} {s : State} {m : MethodId} {args : Array Value} {below : List Frame} {meth : Method} {c : Code} {G : mmG} {A : Nat → Prop} {res : MM} (E0 : mmEnv p m c cX2_becomeNew 5 s args RX2 G A meth none) (kk3 : Nat → Int32 → Int32 → Int32 → Int32 → MM → Option (MM)) (hkk3 : ∀ (h0 : Nat) (x1 : Int32) (x2 : Int32) (x3 : Int32) (x4 : Int32) (μ : MM), kk3 h0 x1 x2 x3 x4 μ = some res → mmGoal p l e rmX2_becomeNew s m args below meth c G A 3 5 [(0, rf h0), (1, .int x1), (2, .int x2), (3, .int x3), (4, .int x4)] μ (mmQ G A res none)) : ∀ (h0 : Nat) (x1 : Int32) (x2 : Int32) (x3 : Int32) (x4 : Int32) (μ : MM), bX2_becomeNew_3 kk3 h0 x1 x2 x3 x4 μ = some res → mmGoal p l e rmX2_becomeNew s m args below meth c G A 3 5 [(0, rf h0), (1, .int x1), (2, .int x2), (3, .int x3), (4, .int x4)] μ (mmQ G A res none) := by
  obtain ⟨S, hA, hr, hlocks⟩ := id E0
  intro h0 x1 x2 x3 x4 μ hf H locs ls hR hS hl
  have hK : mmKN μ μ := mmKN.rf
  unfold bX2_becomeNew_3 at hf
  refine lv_iload S.1 S.2.1 dX2_becomeNew_3 (lv_at hl 4 rfl) ?_
  refine lv_iconst (v := 4) S.1 S.2.1 dX2_becomeNew_5 (by decide) ?_
  refine lv_icmp_ge (tgt := 23) S.1 S.2.1 dX2_becomeNew_6 (by decide) (fun c1 => ?_) (fun c1 => ?_)
  · have hf := it_t hf c1
    refine mm_aload_n S dX2_becomeNew_23 rfl (lv_at hl 0 rfl) ?_
    obtain ⟨g2, hf⟩ := gd hf
    refine mm_getp S hR fdX2_18 (hK.k g2) rfl dX2_becomeNew_24 ?_
    refine lv_iconst (v := 0) S.1 S.2.1 dX2_becomeNew_27 (by decide) ?_
    obtain ⟨g3, hf⟩ := gd hf
    refine mm_puti S hR hS fpX2_26 (hK.k g3) rfl rfl rfl dX2_becomeNew_28 (fun H locs hR hS => ?_)
    obtain ⟨μ4, e4, hf⟩ := stx hf
    rw [← e4] at hR
    have hK : mmKN μ μ4 := by rw [e4]; exact hK.sI
    refine mm_aload_n S dX2_becomeNew_31 rfl (lv_at hl 0 rfl) ?_
    refine lv_iload_n S.1 S.2.1 dX2_becomeNew_32 rfl (lv_at hl 1 rfl) ?_
    refine mm_puti S hR hS fpX2_29 (hK.k g2) rfl rfl rfl dX2_becomeNew_33 (fun H locs hR hS => ?_)
    obtain ⟨μ5, e5, hf⟩ := stx hf
    rw [← e5] at hR
    have hK : mmKN μ μ5 := by rw [e5]; exact hK.sI
    refine mm_aload_n S dX2_becomeNew_36 rfl (lv_at hl 0 rfl) ?_
    refine lv_iload_n S.1 S.2.1 dX2_becomeNew_37 rfl (lv_at hl 2 rfl) ?_
    refine mm_puti S hR hS fpX2_32 (hK.k g2) rfl rfl rfl dX2_becomeNew_38 (fun H locs hR hS => ?_)
    obtain ⟨μ6, e6, hf⟩ := stx hf
    rw [← e6] at hR
    have hK : mmKN μ μ6 := by rw [e6]; exact hK.sI
    refine mm_aload_n S dX2_becomeNew_41 rfl (lv_at hl 0 rfl) ?_
    refine lv_iconst (v := 0) S.1 S.2.1 dX2_becomeNew_42 (by decide) ?_
    refine mm_puti S hR hS fpX2_35 (hK.k g2) rfl rfl rfl dX2_becomeNew_43 (fun H locs hR hS => ?_)
    obtain ⟨μ7, e7, hf⟩ := stx hf
    rw [← e7] at hR
    have hK : mmKN μ μ7 := by rw [e7]; exact hK.sI
    refine mm_aload_n S dX2_becomeNew_46 rfl (lv_at hl 0 rfl) ?_
    refine lv_iconst (v := 0) S.1 S.2.1 dX2_becomeNew_47 (by decide) ?_
    refine mm_puti S hR hS fpX2_38 (hK.k g2) rfl rfl rfl dX2_becomeNew_48 (fun H locs hR hS => ?_)
    obtain ⟨μ8, e8, hf⟩ := stx hf
    rw [← e8] at hR
    have hK : mmKN μ μ8 := by rw [e8]; exact hK.sI
    refine mm_aload_n S dX2_becomeNew_51 rfl (lv_at hl 0 rfl) ?_
    refine lv_iconst (v := 0) S.1 S.2.1 dX2_becomeNew_52 (by decide) ?_
    refine mm_puti S hR hS fpX2_41 (hK.k g2) rfl rfl rfl dX2_becomeNew_53 (fun H locs hR hS => ?_)
    obtain ⟨μ9, e9, hf⟩ := stx hf
    rw [← e9] at hR
    have hK : mmKN μ μ9 := by rw [e9]; exact hK.sI
    refine mm_aload_n S dX2_becomeNew_56 rfl (lv_at hl 0 rfl) ?_
    refine lv_iconst (v := (-1)) S.1 S.2.1 dX2_becomeNew_57 (by decide) ?_
    refine mm_puti S hR hS fpX2_44 (hK.k g2) rfl rfl rfl dX2_becomeNew_58 (fun H locs hR hS => ?_)
    obtain ⟨μ10, e10, hf⟩ := stx hf
    rw [← e10] at hR
    have hK : mmKN μ μ10 := by rw [e10]; exact hK.sI
    refine mm_aload_n S dX2_becomeNew_61 rfl (lv_at hl 0 rfl) ?_
    refine lv_iconst (v := (-1)) S.1 S.2.1 dX2_becomeNew_62 (by decide) ?_
    refine mm_puti S hR hS fpX2_47 (hK.k g2) rfl rfl rfl dX2_becomeNew_63 (fun H locs hR hS => ?_)
    obtain ⟨μ11, e11, hf⟩ := stx hf
    rw [← e11] at hR
    have hK : mmKN μ μ11 := by rw [e11]; exact hK.sI
    refine mm_aload_n S dX2_becomeNew_66 rfl (lv_at hl 0 rfl) ?_
    refine lv_iconst (v := 0) S.1 S.2.1 dX2_becomeNew_67 (by decide) ?_
    refine mm_puti S hR hS fpX2_50 (hK.k g2) rfl rfl rfl dX2_becomeNew_68 (fun H locs hR hS => ?_)
    obtain ⟨μ12, e12, hf⟩ := stx hf
    rw [← e12] at hR
    have hK : mmKN μ μ12 := by rw [e12]; exact hK.sI
    refine mm_aload_n S dX2_becomeNew_71 rfl (lv_at hl 0 rfl) ?_
    refine lv_iconst (v := (-1)) S.1 S.2.1 dX2_becomeNew_72 (by decide) ?_
    refine mm_puti S hR hS fpX2_53 (hK.k g2) rfl rfl rfl dX2_becomeNew_73 (fun H locs hR hS => ?_)
    obtain ⟨μ13, e13, hf⟩ := stx hf
    rw [← e13] at hR
    have hK : mmKN μ μ13 := by rw [e13]; exact hK.sI
    refine mm_aload_n S dX2_becomeNew_76 rfl (lv_at hl 0 rfl) ?_
    refine lv_iconst (v := (-1)) S.1 S.2.1 dX2_becomeNew_77 (by decide) ?_
    refine mm_puti S hR hS fpX2_56 (hK.k g2) rfl rfl rfl dX2_becomeNew_78 (fun H locs hR hS => ?_)
    obtain ⟨μ14, e14, hf⟩ := stx hf
    rw [← e14] at hR
    have hK : mmKN μ μ14 := by rw [e14]; exact hK.sI
    refine mm_aload_n S dX2_becomeNew_81 rfl (lv_at hl 0 rfl) ?_
    refine lv_iconst (v := 0) S.1 S.2.1 dX2_becomeNew_82 (by decide) ?_
    refine mm_puti S hR hS fpX2_59 (hK.k g2) rfl rfl rfl dX2_becomeNew_83 (fun H locs hR hS => ?_)
    obtain ⟨μ15, e15, hf⟩ := stx hf
    rw [← e15] at hR
    have hK : mmKN μ μ15 := by rw [e15]; exact hK.sI
    refine mm_aload_n S dX2_becomeNew_86 rfl (lv_at hl 0 rfl) ?_
    refine lv_iconst (v := 0) S.1 S.2.1 dX2_becomeNew_87 (by decide) ?_
    refine mm_puti S hR hS fpX2_62 (hK.k g2) rfl rfl rfl dX2_becomeNew_88 (fun H locs hR hS => ?_)
    obtain ⟨μ16, e16, hf⟩ := stx hf
    rw [← e16] at hR
    have hK : mmKN μ μ16 := by rw [e16]; exact hK.sI
    refine mm_aload_n S dX2_becomeNew_91 rfl (lv_at hl 0 rfl) ?_
    refine lv_iload_n S.1 S.2.1 dX2_becomeNew_92 rfl (lv_at hl 3 rfl) ?_
    refine mm_puti S hR hS fpX2_66 (hK.k g2) rfl rfl rfl dX2_becomeNew_93 (fun H locs hR hS => ?_)
    obtain ⟨μ17, e17, hf⟩ := stx hf
    rw [← e17] at hR
    have hK : mmKN μ μ17 := by rw [e17]; exact hK.sI
    obtain rfl := Option.some.inj hf
    exact mm_vret S hR hS hr hlocks dX2_becomeNew_96
  · have hf := it_f hf c1
    refine mm_aload_n S dX2_becomeNew_9 rfl (lv_at hl 0 rfl) ?_
    obtain ⟨g18, hf⟩ := gd hf
    refine mm_getp S hR fdX2_9 (hK.k g18) rfl dX2_becomeNew_10 ?_
    refine lv_iload S.1 S.2.1 dX2_becomeNew_13 (lv_at hl 4 rfl) ?_
    refine lv_iconst (v := 0) S.1 S.2.1 dX2_becomeNew_15 (by decide) ?_
    obtain ⟨g19, hf⟩ := gd hf
    obtain ⟨g20, hf⟩ := gd hf
    refine mm_iast S hR hS (hK.k g19) g20 dX2_becomeNew_16 (fun H locs hR hS => ?_)
    obtain ⟨μ21, e21, hf⟩ := stx hf
    rw [← e21] at hR
    have hK : mmKN μ μ21 := by rw [e21]; exact hK.sI
    refine lv_iinc (v := (x4 + 1)) (lv' := [(4, .int (x4 + 1)), (0, rf h0), (1, .int x1), (2, .int x2), (3, .int x3)]) S.1 S.2.1 dX2_becomeNew_17 hl (k := 4) rfl (by rfl) (by decide) rfl (fun ls hl => ?_)
    refine lv_goto (tgt := 3) S.1 S.2.1 dX2_becomeNew_20 (by decide) ?_
    exact hkk3 h0 x1 x2 x3 (x4 + 1) μ21 hf _ _ _ hR hS (lv_sub hl [1, 2, 3, 4, 0] rfl)
theorem wlX2_becomeNew_3 {p : Program} {l : Launch} {e : Env} {s : State} {m : MethodId} {args : Array Value} {below : List Frame} {meth : Method} {c : Code} {G : mmG} {A : Nat → Prop} {res : MM} (E0 : mmEnv p m c cX2_becomeNew 5 s args RX2 G A meth none)  : ∀ (n : Nat) (h0 : Nat) (x1 : Int32) (x2 : Int32) (x3 : Int32) (x4 : Int32) (μ : MM), lX2_becomeNew_3  n h0 x1 x2 x3 x4 μ = some res → mmGoal p l e rmX2_becomeNew s m args below meth c G A 3 5 [(0, rf h0), (1, .int x1), (2, .int x2), (3, .int x3), (4, .int x4)] μ (mmQ G A res none) := by
  intro n
  induction n with
  | zero => intro h0 x1 x2 x3 x4 μ hf; cases hf
  | succ n ih => intro h0 x1 x2 x3 x4 μ hf; exact wbX2_becomeNew_3 E0  _ ih h0 x1 x2 x3 x4 μ hf
set_option maxRecDepth 100000 in
set_option maxHeartbeats 4000000 in
theorem kX2_becomeNew_c (l : Launch) (G : mmG) (A : Nat → Prop) {μ : MM} {res : MM} {h0 : Nat} {x1 : Int32} {x2 : Int32} {x3 : Int32} (hk0 : mK μ h0 = 3) (hf : fX2_becomeNew h0 x1 x2 x3 μ = some res) : Met l yX2_becomeNew [.code yX2_becomeNew cX2_becomeNew 5 none] rmX2_becomeNew (mmPc G A μ [rf h0, .int x1, .int x2, .int x3]) (mmQ G A res none) 0 0 A := by
  refine mm_ofW (by decide +kernel) (by simp [lg_sl, rf_cat, int_cat]) ?_
  intro p e s m below meth c ls S hR hA hS hr hlocks hl hnm
  have hl : lv_has ls 5 [(0, rf h0), (1, .int x1), (2, .int x2), (3, .int x3)] := by simpa [lv_args, rf_cat, int_cat] using hl
  have E0 : mmEnv p m c cX2_becomeNew 5 s _ RX2 G A meth none := ⟨S, hA, hr, hlocks⟩
  have hK : mmKN μ μ := mmKN.rf
  unfold fX2_becomeNew at hf
  refine lv_iconst (v := 0) S.1 S.2.1 dX2_becomeNew_0 (by decide) ?_
  refine lv_istore (i := 4) (lv' := [(4, .int 0), (0, rf h0), (1, .int x1), (2, .int x2), (3, .int x3)]) S.1 S.2.1 dX2_becomeNew_1 hl (by decide) rfl (fun ls hl => ?_)
  exact wlX2_becomeNew_3 E0  FU h0 x1 x2 x3 0 μ hf _ _ _ hR hS (lv_sub hl [1, 2, 3, 4, 0] rfl)
-- X2_copyFrom
def fX2_copyFrom (h0 : Nat) (h1 : Nat) (μ : MM) : Option (MM) :=
  if mK μ h1 = 3 then if mK μ (mP μ h1 1) = 20 then if mK μ (mP μ h0 1) = 20 then if (4 : Int32).toNatClampNeg ≤ mN μ (mP μ h1 1) then if (4 : Int32).toNatClampNeg ≤ mN μ (mP μ h0 1) then st (sC μ (mP μ h1 1) (mP μ h0 1) (4 : Int32).toNatClampNeg) fun μ6 => if mK μ (mP μ6 h0 2) = 6 then (fX5_copyFrom (mP μ6 h0 2) (mP μ6 h1 2) μ6).bind fun y7 => st (sI y7 h0 3 (mI y7 h1 3)) fun μ9 => st (sI μ9 h0 4 (mI μ9 h1 4)) fun μ10 => st (sI μ10 h0 5 (mI μ10 h1 5)) fun μ11 => st (sI μ11 h0 6 (mI μ11 h1 6)) fun μ12 => st (sI μ12 h0 7 (mI μ12 h1 7)) fun μ13 => st (sI μ13 h0 9 (mI μ13 h1 9)) fun μ14 => st (sI μ14 h0 10 (mI μ14 h1 10)) fun μ15 => st (sI μ15 h0 11 (mI μ15 h1 11)) fun μ16 => st (sI μ16 h0 12 (mI μ16 h1 12)) fun μ17 => st (sI μ17 h0 13 (mI μ17 h1 13)) fun μ18 => st (sI μ18 h0 14 (mI μ18 h1 14)) fun μ19 => if (mI μ19 h1 15) = 0 ∨ (mI μ19 h1 15) = 1 then st (sI μ19 h0 15 (mI μ19 h1 15)) fun μ20 => st (sI μ20 h0 16 (mI μ20 h1 16)) fun μ21 => some μ21 else none else none else none else none else none else none else none
set_option maxRecDepth 100000 in
set_option maxHeartbeats 4000000 in
theorem kX2_copyFrom_kn {μ : MM} {res : MM} {h0 : Nat} {h1 : Nat} (hf : fX2_copyFrom h0 h1 μ = some res) : mmKN μ res := by
  have hK : mmKN μ μ := mmKN.rf
  unfold fX2_copyFrom at hf
  obtain ⟨g1, hf⟩ := gd hf
  obtain ⟨g2, hf⟩ := gd hf
  obtain ⟨g3, hf⟩ := gd hf
  obtain ⟨g4, hf⟩ := gd hf
  obtain ⟨g5, hf⟩ := gd hf
  obtain ⟨μ6, e6, hf⟩ := stx hf
  have hK : mmKN μ μ6 := by rw [e6]; exact hK.sC
  obtain ⟨g8, hf⟩ := gd hf
  obtain ⟨y7, hy7, hf⟩ := bd hf
  have hK : mmKN μ y7 := hK.tr (kX5_copyFrom_kn hy7)
  obtain ⟨μ9, e9, hf⟩ := stx hf
  have hK : mmKN μ μ9 := by rw [e9]; exact hK.sI
  obtain ⟨μ10, e10, hf⟩ := stx hf
  have hK : mmKN μ μ10 := by rw [e10]; exact hK.sI
  obtain ⟨μ11, e11, hf⟩ := stx hf
  have hK : mmKN μ μ11 := by rw [e11]; exact hK.sI
  obtain ⟨μ12, e12, hf⟩ := stx hf
  have hK : mmKN μ μ12 := by rw [e12]; exact hK.sI
  obtain ⟨μ13, e13, hf⟩ := stx hf
  have hK : mmKN μ μ13 := by rw [e13]; exact hK.sI
  obtain ⟨μ14, e14, hf⟩ := stx hf
  have hK : mmKN μ μ14 := by rw [e14]; exact hK.sI
  obtain ⟨μ15, e15, hf⟩ := stx hf
  have hK : mmKN μ μ15 := by rw [e15]; exact hK.sI
  obtain ⟨μ16, e16, hf⟩ := stx hf
  have hK : mmKN μ μ16 := by rw [e16]; exact hK.sI
  obtain ⟨μ17, e17, hf⟩ := stx hf
  have hK : mmKN μ μ17 := by rw [e17]; exact hK.sI
  obtain ⟨μ18, e18, hf⟩ := stx hf
  have hK : mmKN μ μ18 := by rw [e18]; exact hK.sI
  obtain ⟨μ19, e19, hf⟩ := stx hf
  have hK : mmKN μ μ19 := by rw [e19]; exact hK.sI
  obtain ⟨g22, hf⟩ := gd hf
  obtain ⟨μ20, e20, hf⟩ := stx hf
  have hK : mmKN μ μ20 := by rw [e20]; exact hK.sI
  obtain ⟨μ21, e21, hf⟩ := stx hf
  have hK : mmKN μ μ21 := by rw [e21]; exact hK.sI
  obtain rfl := Option.some.inj hf
  exact hK
abbrev rmX2_copyFrom : Room := { frames := 2, cells := 0, slots := 0, locals := 47 }
set_option maxRecDepth 100000 in
set_option maxHeartbeats 4000000 in
theorem kX2_copyFrom_c (l : Launch) (G : mmG) (A : Nat → Prop) {μ : MM} {res : MM} {h0 : Nat} {h1 : Nat} (hk0 : mK μ h0 = 3) (hf : fX2_copyFrom h0 h1 μ = some res) : Met l yX2_copyFrom [.code yX2_copyFrom cX2_copyFrom 2 none] rmX2_copyFrom (mmPc G A μ [rf h0, rf h1]) (mmQ G A res none) 0 0 A := by
  refine mm_ofW (by decide +kernel) (by simp [lg_sl, rf_cat, int_cat]) ?_
  intro p e s m below meth c ls S hR hA hS hr hlocks hl hnm
  have hl : lv_has ls 2 [(0, rf h0), (1, rf h1)] := by simpa [lv_args, rf_cat, int_cat] using hl
  have E0 : mmEnv p m c cX2_copyFrom 2 s _ RX2 G A meth none := ⟨S, hA, hr, hlocks⟩
  have hK : mmKN μ μ := mmKN.rf
  unfold fX2_copyFrom at hf
  refine mm_aload_n S dX2_copyFrom_0 rfl (lv_at hl 1 rfl) ?_
  obtain ⟨g1, hf⟩ := gd hf
  refine mm_getp S hR fdX2_9 (hK.k g1) rfl dX2_copyFrom_1 ?_
  refine lv_iconst (v := 0) S.1 S.2.1 dX2_copyFrom_4 (by decide) ?_
  refine mm_aload_n S dX2_copyFrom_5 rfl (lv_at hl 0 rfl) ?_
  refine mm_getp S hR fdX2_9 (hK.k hk0) rfl dX2_copyFrom_6 ?_
  refine lv_iconst (v := 0) S.1 S.2.1 dX2_copyFrom_9 (by decide) ?_
  refine lv_iconst (v := 4) S.1 S.2.1 dX2_copyFrom_10 (by decide) ?_
  obtain ⟨g2, hf⟩ := gd hf
  obtain ⟨g3, hf⟩ := gd hf
  obtain ⟨g4, hf⟩ := gd hf
  obtain ⟨g5, hf⟩ := gd hf
  refine mm_copy S hR hS cpX2_69 (hK.k g2) (hK.k g3) (by decide) g4 g5 hl.1 (Nat.le_of_ble_eq_true rfl) (by simp [rf_cat, int_cat]) dX2_copyFrom_11 (fun H locs hR hS => ?_)
  obtain ⟨μ6, e6, hf⟩ := stx hf
  rw [← e6] at hR
  have hK : mmKN μ μ6 := by rw [e6]; exact hK.sC
  refine mm_aload_n S dX2_copyFrom_14 rfl (lv_at hl 0 rfl) ?_
  refine mm_getp S hR fdX2_18 (hK.k hk0) rfl dX2_copyFrom_15 ?_
  refine mm_aload_n S dX2_copyFrom_18 rfl (lv_at hl 1 rfl) ?_
  refine mm_getp S hR fdX2_18 (hK.k g1) rfl dX2_copyFrom_19 ?_
  obtain ⟨g8, hf⟩ := gd hf
  obtain ⟨y7, hy7, hf⟩ := bd hf
  refine mm_callVv S hR hS hA (As := [rf (mP μ6 h1 2)]) (rest := []) cvX2_75 (hK.k g8) (kX5_copyFrom_c l G A (hK.k g8) hy7) rfl rfl ⟨Nat.le_of_ble_eq_true rfl, Nat.le_of_ble_eq_true rfl⟩ rfl hl.1 rfl (lv_room (by simp [rf_cat, int_cat])) dX2_copyFrom_22 ⟨Nat.le_refl _, Nat.le_refl _⟩ (fun H locs hR hS => ?_)
  have hK : mmKN μ y7 := hK.tr (kX5_copyFrom_kn hy7)
  refine mm_aload_n S dX2_copyFrom_25 rfl (lv_at hl 0 rfl) ?_
  refine mm_aload_n S dX2_copyFrom_26 rfl (lv_at hl 1 rfl) ?_
  refine mm_geti S hR fdX2_29 (hK.k g1) rfl dX2_copyFrom_27 ?_
  refine mm_puti S hR hS fpX2_29 (hK.k hk0) rfl rfl rfl dX2_copyFrom_30 (fun H locs hR hS => ?_)
  obtain ⟨μ9, e9, hf⟩ := stx hf
  rw [← e9] at hR
  have hK : mmKN μ μ9 := by rw [e9]; exact hK.sI
  refine mm_aload_n S dX2_copyFrom_33 rfl (lv_at hl 0 rfl) ?_
  refine mm_aload_n S dX2_copyFrom_34 rfl (lv_at hl 1 rfl) ?_
  refine mm_geti S hR fdX2_32 (hK.k g1) rfl dX2_copyFrom_35 ?_
  refine mm_puti S hR hS fpX2_32 (hK.k hk0) rfl rfl rfl dX2_copyFrom_38 (fun H locs hR hS => ?_)
  obtain ⟨μ10, e10, hf⟩ := stx hf
  rw [← e10] at hR
  have hK : mmKN μ μ10 := by rw [e10]; exact hK.sI
  refine mm_aload_n S dX2_copyFrom_41 rfl (lv_at hl 0 rfl) ?_
  refine mm_aload_n S dX2_copyFrom_42 rfl (lv_at hl 1 rfl) ?_
  refine mm_geti S hR fdX2_35 (hK.k g1) rfl dX2_copyFrom_43 ?_
  refine mm_puti S hR hS fpX2_35 (hK.k hk0) rfl rfl rfl dX2_copyFrom_46 (fun H locs hR hS => ?_)
  obtain ⟨μ11, e11, hf⟩ := stx hf
  rw [← e11] at hR
  have hK : mmKN μ μ11 := by rw [e11]; exact hK.sI
  refine mm_aload_n S dX2_copyFrom_49 rfl (lv_at hl 0 rfl) ?_
  refine mm_aload_n S dX2_copyFrom_50 rfl (lv_at hl 1 rfl) ?_
  refine mm_geti S hR fdX2_38 (hK.k g1) rfl dX2_copyFrom_51 ?_
  refine mm_puti S hR hS fpX2_38 (hK.k hk0) rfl rfl rfl dX2_copyFrom_54 (fun H locs hR hS => ?_)
  obtain ⟨μ12, e12, hf⟩ := stx hf
  rw [← e12] at hR
  have hK : mmKN μ μ12 := by rw [e12]; exact hK.sI
  refine mm_aload_n S dX2_copyFrom_57 rfl (lv_at hl 0 rfl) ?_
  refine mm_aload_n S dX2_copyFrom_58 rfl (lv_at hl 1 rfl) ?_
  refine mm_geti S hR fdX2_41 (hK.k g1) rfl dX2_copyFrom_59 ?_
  refine mm_puti S hR hS fpX2_41 (hK.k hk0) rfl rfl rfl dX2_copyFrom_62 (fun H locs hR hS => ?_)
  obtain ⟨μ13, e13, hf⟩ := stx hf
  rw [← e13] at hR
  have hK : mmKN μ μ13 := by rw [e13]; exact hK.sI
  refine mm_aload_n S dX2_copyFrom_65 rfl (lv_at hl 0 rfl) ?_
  refine mm_aload_n S dX2_copyFrom_66 rfl (lv_at hl 1 rfl) ?_
  refine mm_geti S hR fdX2_44 (hK.k g1) rfl dX2_copyFrom_67 ?_
  refine mm_puti S hR hS fpX2_44 (hK.k hk0) rfl rfl rfl dX2_copyFrom_70 (fun H locs hR hS => ?_)
  obtain ⟨μ14, e14, hf⟩ := stx hf
  rw [← e14] at hR
  have hK : mmKN μ μ14 := by rw [e14]; exact hK.sI
  refine mm_aload_n S dX2_copyFrom_73 rfl (lv_at hl 0 rfl) ?_
  refine mm_aload_n S dX2_copyFrom_74 rfl (lv_at hl 1 rfl) ?_
  refine mm_geti S hR fdX2_47 (hK.k g1) rfl dX2_copyFrom_75 ?_
  refine mm_puti S hR hS fpX2_47 (hK.k hk0) rfl rfl rfl dX2_copyFrom_78 (fun H locs hR hS => ?_)
  obtain ⟨μ15, e15, hf⟩ := stx hf
  rw [← e15] at hR
  have hK : mmKN μ μ15 := by rw [e15]; exact hK.sI
  refine mm_aload_n S dX2_copyFrom_81 rfl (lv_at hl 0 rfl) ?_
  refine mm_aload_n S dX2_copyFrom_82 rfl (lv_at hl 1 rfl) ?_
  refine mm_geti S hR fdX2_50 (hK.k g1) rfl dX2_copyFrom_83 ?_
  refine mm_puti S hR hS fpX2_50 (hK.k hk0) rfl rfl rfl dX2_copyFrom_86 (fun H locs hR hS => ?_)
  obtain ⟨μ16, e16, hf⟩ := stx hf
  rw [← e16] at hR
  have hK : mmKN μ μ16 := by rw [e16]; exact hK.sI
  refine mm_aload_n S dX2_copyFrom_89 rfl (lv_at hl 0 rfl) ?_
  refine mm_aload_n S dX2_copyFrom_90 rfl (lv_at hl 1 rfl) ?_
  refine mm_geti S hR fdX2_53 (hK.k g1) rfl dX2_copyFrom_91 ?_
  refine mm_puti S hR hS fpX2_53 (hK.k hk0) rfl rfl rfl dX2_copyFrom_94 (fun H locs hR hS => ?_)
  obtain ⟨μ17, e17, hf⟩ := stx hf
  rw [← e17] at hR
  have hK : mmKN μ μ17 := by rw [e17]; exact hK.sI
  refine mm_aload_n S dX2_copyFrom_97 rfl (lv_at hl 0 rfl) ?_
  refine mm_aload_n S dX2_copyFrom_98 rfl (lv_at hl 1 rfl) ?_
  refine mm_geti S hR fdX2_56 (hK.k g1) rfl dX2_copyFrom_99 ?_
  refine mm_puti S hR hS fpX2_56 (hK.k hk0) rfl rfl rfl dX2_copyFrom_102 (fun H locs hR hS => ?_)
  obtain ⟨μ18, e18, hf⟩ := stx hf
  rw [← e18] at hR
  have hK : mmKN μ μ18 := by rw [e18]; exact hK.sI
  refine mm_aload_n S dX2_copyFrom_105 rfl (lv_at hl 0 rfl) ?_
  refine mm_aload_n S dX2_copyFrom_106 rfl (lv_at hl 1 rfl) ?_
  refine mm_geti S hR fdX2_59 (hK.k g1) rfl dX2_copyFrom_107 ?_
  refine mm_puti S hR hS fpX2_59 (hK.k hk0) rfl rfl rfl dX2_copyFrom_110 (fun H locs hR hS => ?_)
  obtain ⟨μ19, e19, hf⟩ := stx hf
  rw [← e19] at hR
  have hK : mmKN μ μ19 := by rw [e19]; exact hK.sI
  refine mm_aload_n S dX2_copyFrom_113 rfl (lv_at hl 0 rfl) ?_
  refine mm_aload_n S dX2_copyFrom_114 rfl (lv_at hl 1 rfl) ?_
  refine mm_geti S hR fdX2_62 (hK.k g1) rfl dX2_copyFrom_115 ?_
  obtain ⟨g22, hf⟩ := gd hf
  refine mm_puti S hR hS fpX2_62 (hK.k hk0) rfl (nb_ok g22) (fb_ok g22) dX2_copyFrom_118 (fun H locs hR hS => ?_)
  obtain ⟨μ20, e20, hf⟩ := stx hf
  rw [← e20] at hR
  have hK : mmKN μ μ20 := by rw [e20]; exact hK.sI
  refine mm_aload_n S dX2_copyFrom_121 rfl (lv_at hl 0 rfl) ?_
  refine mm_aload_n S dX2_copyFrom_122 rfl (lv_at hl 1 rfl) ?_
  refine mm_geti S hR fdX2_66 (hK.k g1) rfl dX2_copyFrom_123 ?_
  refine mm_puti S hR hS fpX2_66 (hK.k hk0) rfl rfl rfl dX2_copyFrom_126 (fun H locs hR hS => ?_)
  obtain ⟨μ21, e21, hf⟩ := stx hf
  rw [← e21] at hR
  have hK : mmKN μ μ21 := by rw [e21]; exact hK.sI
  obtain rfl := Option.some.inj hf
  exact mm_vret S hR hS hr hlocks dX2_copyFrom_129
-- X2_isOver
def fX2_isOver (h0 : Nat) (μ : MM) : Option (Int32 × MM) :=
  if (mI μ h0 5) = (3 : Int32) then (some (1, μ)) else (if (mI μ h0 5) = (4 : Int32) then (some (1, μ)) else (some (0, μ)))
set_option maxRecDepth 100000 in
set_option maxHeartbeats 4000000 in
theorem kX2_isOver_kn {μ : MM} {res : Int32 × MM} {h0 : Nat} (hf : fX2_isOver h0 μ = some res) : mmKN μ res.2 := by
  have hK : mmKN μ μ := mmKN.rf
  unfold fX2_isOver at hf
  rcases it_or hf with ⟨c1, hf⟩ | ⟨c1, hf⟩
  · skip
    obtain rfl := Option.some.inj hf
    exact hK
  · skip
    rcases it_or hf with ⟨c2, hf⟩ | ⟨c2, hf⟩
    · skip
      obtain rfl := Option.some.inj hf
      exact hK
    · skip
      obtain rfl := Option.some.inj hf
      exact hK
abbrev rmX2_isOver : Room := { frames := 0, cells := 0, slots := 0, locals := 0 }
set_option maxRecDepth 100000 in
set_option maxHeartbeats 4000000 in
theorem kX2_isOver_c (l : Launch) (G : mmG) (A : Nat → Prop) {μ : MM} {res : Int32 × MM} {h0 : Nat} (hk0 : mK μ h0 = 3) (hf : fX2_isOver h0 μ = some res) : Met l yX2_isOver [.code yX2_isOver cX2_isOver 1 (some (.boolean))] rmX2_isOver (mmPc G A μ [rf h0]) (mmQ G A res.2 (some (.int res.1))) 0 0 A := by
  refine mm_ofW (by decide +kernel) (by simp [lg_sl, rf_cat, int_cat]) ?_
  intro p e s m below meth c ls S hR hA hS hr hlocks hl hnm
  have hl : lv_has ls 1 [(0, rf h0)] := by simpa [lv_args, rf_cat, int_cat] using hl
  have E0 : mmEnv p m c cX2_isOver 1 s _ RX2 G A meth (some (.boolean)) := ⟨S, hA, hr, hlocks⟩
  have hK : mmKN μ μ := mmKN.rf
  unfold fX2_isOver at hf
  refine mm_aload_n S dX2_isOver_0 rfl (lv_at hl 0 rfl) ?_
  refine mm_geti S hR fdX2_35 (hK.k hk0) rfl dX2_isOver_1 ?_
  refine lv_iconst (v := 3) S.1 S.2.1 dX2_isOver_4 (by decide) ?_
  refine lv_icmp_eq (tgt := 16) S.1 S.2.1 dX2_isOver_5 (by decide) (fun c1 => ?_) (fun c1 => ?_)
  · have hf := it_t hf c1
    refine lv_iconst (v := 1) S.1 S.2.1 dX2_isOver_16 (by decide) ?_
    refine lv_goto (tgt := 21) S.1 S.2.1 dX2_isOver_17 (by decide) ?_
    obtain rfl := Option.some.inj hf
    exact mm_zret S hR hS hr hlocks (Or.inr rfl) dX2_isOver_21
  · have hf := it_f hf c1
    refine mm_aload_n S dX2_isOver_8 rfl (lv_at hl 0 rfl) ?_
    refine mm_geti S hR fdX2_35 (hK.k hk0) rfl dX2_isOver_9 ?_
    refine lv_iconst (v := 4) S.1 S.2.1 dX2_isOver_12 (by decide) ?_
    refine lv_icmp_ne (tgt := 20) S.1 S.2.1 dX2_isOver_13 (by decide) (fun c2 => ?_) (fun c2 => ?_)
    · have hf := it_f hf c2
      refine lv_iconst (v := 0) S.1 S.2.1 dX2_isOver_20 (by decide) ?_
      obtain rfl := Option.some.inj hf
      exact mm_zret S hR hS hr hlocks (Or.inl rfl) dX2_isOver_21
    · have hf := it_t hf c2
      refine lv_iconst (v := 1) S.1 S.2.1 dX2_isOver_16 (by decide) ?_
      refine lv_goto (tgt := 21) S.1 S.2.1 dX2_isOver_17 (by decide) ?_
      obtain rfl := Option.some.inj hf
      exact mm_zret S hR hS hr hlocks (Or.inr rfl) dX2_isOver_21
-- X2_localAt
def fX2_localAt (h0 : Nat) (x1 : Int32) (μ : MM) : Option (Int32 × MM) :=
  if x1 < 0 then (some (0, μ)) else (if (4 : Int32) ≤ x1 then (some (0, μ)) else (if mK μ (mP μ h0 1) = 20 then if ¬ (x1 < 0 ∨ mN μ (mP μ h0 1) ≤ x1.toNatClampNeg) then some ((mI μ (mP μ h0 1) x1.toNatClampNeg), μ) else none else none))
set_option maxRecDepth 100000 in
set_option maxHeartbeats 4000000 in
theorem kX2_localAt_kn {μ : MM} {res : Int32 × MM} {h0 : Nat} {x1 : Int32} (hf : fX2_localAt h0 x1 μ = some res) : mmKN μ res.2 := by
  have hK : mmKN μ μ := mmKN.rf
  unfold fX2_localAt at hf
  rcases it_or hf with ⟨c1, hf⟩ | ⟨c1, hf⟩
  · skip
    obtain rfl := Option.some.inj hf
    exact hK
  · skip
    rcases it_or hf with ⟨c2, hf⟩ | ⟨c2, hf⟩
    · skip
      obtain rfl := Option.some.inj hf
      exact hK
    · skip
      obtain ⟨g3, hf⟩ := gd hf
      obtain ⟨g4, hf⟩ := gd hf
      obtain rfl := Option.some.inj hf
      exact hK
abbrev rmX2_localAt : Room := { frames := 0, cells := 0, slots := 0, locals := 0 }
set_option maxRecDepth 100000 in
set_option maxHeartbeats 4000000 in
theorem kX2_localAt_c (l : Launch) (G : mmG) (A : Nat → Prop) {μ : MM} {res : Int32 × MM} {h0 : Nat} {x1 : Int32} (hk0 : mK μ h0 = 3) (hf : fX2_localAt h0 x1 μ = some res) : Met l yX2_localAt [.code yX2_localAt cX2_localAt 2 (some (.int))] rmX2_localAt (mmPc G A μ [rf h0, .int x1]) (mmQ G A res.2 (some (.int res.1))) 0 0 A := by
  refine mm_ofW (by decide +kernel) (by simp [lg_sl, rf_cat, int_cat]) ?_
  intro p e s m below meth c ls S hR hA hS hr hlocks hl hnm
  have hl : lv_has ls 2 [(0, rf h0), (1, .int x1)] := by simpa [lv_args, rf_cat, int_cat] using hl
  have E0 : mmEnv p m c cX2_localAt 2 s _ RX2 G A meth (some (.int)) := ⟨S, hA, hr, hlocks⟩
  have hK : mmKN μ μ := mmKN.rf
  unfold fX2_localAt at hf
  refine lv_iload_n S.1 S.2.1 dX2_localAt_0 rfl (lv_at hl 1 rfl) ?_
  refine lv_if_lt (tgt := 18) S.1 S.2.1 dX2_localAt_1 (by decide) (fun c1 => ?_) (fun c1 => ?_)
  · have hf := it_t hf c1
    refine lv_iconst (v := 0) S.1 S.2.1 dX2_localAt_18 (by decide) ?_
    obtain rfl := Option.some.inj hf
    exact mm_iret S hR hS hr hlocks dX2_localAt_19
  · have hf := it_f hf c1
    refine lv_iload_n S.1 S.2.1 dX2_localAt_4 rfl (lv_at hl 1 rfl) ?_
    refine lv_iconst (v := 4) S.1 S.2.1 dX2_localAt_5 (by decide) ?_
    refine lv_icmp_ge (tgt := 18) S.1 S.2.1 dX2_localAt_6 (by decide) (fun c2 => ?_) (fun c2 => ?_)
    · have hf := it_t hf c2
      refine lv_iconst (v := 0) S.1 S.2.1 dX2_localAt_18 (by decide) ?_
      obtain rfl := Option.some.inj hf
      exact mm_iret S hR hS hr hlocks dX2_localAt_19
    · have hf := it_f hf c2
      refine mm_aload_n S dX2_localAt_9 rfl (lv_at hl 0 rfl) ?_
      refine mm_getp S hR fdX2_9 (hK.k hk0) rfl dX2_localAt_10 ?_
      refine lv_iload_n S.1 S.2.1 dX2_localAt_13 rfl (lv_at hl 1 rfl) ?_
      obtain ⟨g3, hf⟩ := gd hf
      obtain ⟨g4, hf⟩ := gd hf
      refine mm_iald S hR (hK.k g3) g4 dX2_localAt_14 ?_
      refine lv_goto (tgt := 19) S.1 S.2.1 dX2_localAt_15 (by decide) ?_
      obtain rfl := Option.some.inj hf
      exact mm_iret S hR hS hr hlocks dX2_localAt_19
-- X2_setLocal
def fX2_setLocal (h0 : Nat) (x1 : Int32) (x2 : Int32) (μ : MM) : Option (MM) :=
  if x1 < 0 then (some μ) else (if (4 : Int32) ≤ x1 then (some μ) else (if mK μ (mP μ h0 1) = 20 then if ¬ (x1 < 0 ∨ mN μ (mP μ h0 1) ≤ x1.toNatClampNeg) then st (sI μ (mP μ h0 1) x1.toNatClampNeg x2) fun μ5 => some μ5 else none else none))
set_option maxRecDepth 100000 in
set_option maxHeartbeats 4000000 in
theorem kX2_setLocal_kn {μ : MM} {res : MM} {h0 : Nat} {x1 : Int32} {x2 : Int32} (hf : fX2_setLocal h0 x1 x2 μ = some res) : mmKN μ res := by
  have hK : mmKN μ μ := mmKN.rf
  unfold fX2_setLocal at hf
  rcases it_or hf with ⟨c1, hf⟩ | ⟨c1, hf⟩
  · skip
    obtain rfl := Option.some.inj hf
    exact hK
  · skip
    rcases it_or hf with ⟨c2, hf⟩ | ⟨c2, hf⟩
    · skip
      obtain rfl := Option.some.inj hf
      exact hK
    · skip
      obtain ⟨g3, hf⟩ := gd hf
      obtain ⟨g4, hf⟩ := gd hf
      obtain ⟨μ5, e5, hf⟩ := stx hf
      have hK : mmKN μ μ5 := by rw [e5]; exact hK.sI
      obtain rfl := Option.some.inj hf
      exact hK
abbrev rmX2_setLocal : Room := { frames := 0, cells := 0, slots := 0, locals := 0 }
set_option maxRecDepth 100000 in
set_option maxHeartbeats 4000000 in
theorem kX2_setLocal_c (l : Launch) (G : mmG) (A : Nat → Prop) {μ : MM} {res : MM} {h0 : Nat} {x1 : Int32} {x2 : Int32} (hk0 : mK μ h0 = 3) (hf : fX2_setLocal h0 x1 x2 μ = some res) : Met l yX2_setLocal [.code yX2_setLocal cX2_setLocal 3 none] rmX2_setLocal (mmPc G A μ [rf h0, .int x1, .int x2]) (mmQ G A res none) 0 0 A := by
  refine mm_ofW (by decide +kernel) (by simp [lg_sl, rf_cat, int_cat]) ?_
  intro p e s m below meth c ls S hR hA hS hr hlocks hl hnm
  have hl : lv_has ls 3 [(0, rf h0), (1, .int x1), (2, .int x2)] := by simpa [lv_args, rf_cat, int_cat] using hl
  have E0 : mmEnv p m c cX2_setLocal 3 s _ RX2 G A meth none := ⟨S, hA, hr, hlocks⟩
  have hK : mmKN μ μ := mmKN.rf
  unfold fX2_setLocal at hf
  refine lv_iload_n S.1 S.2.1 dX2_setLocal_0 rfl (lv_at hl 1 rfl) ?_
  refine lv_if_lt (tgt := 16) S.1 S.2.1 dX2_setLocal_1 (by decide) (fun c1 => ?_) (fun c1 => ?_)
  · have hf := it_t hf c1
    obtain rfl := Option.some.inj hf
    exact mm_vret S hR hS hr hlocks dX2_setLocal_16
  · have hf := it_f hf c1
    refine lv_iload_n S.1 S.2.1 dX2_setLocal_4 rfl (lv_at hl 1 rfl) ?_
    refine lv_iconst (v := 4) S.1 S.2.1 dX2_setLocal_5 (by decide) ?_
    refine lv_icmp_ge (tgt := 16) S.1 S.2.1 dX2_setLocal_6 (by decide) (fun c2 => ?_) (fun c2 => ?_)
    · have hf := it_t hf c2
      obtain rfl := Option.some.inj hf
      exact mm_vret S hR hS hr hlocks dX2_setLocal_16
    · have hf := it_f hf c2
      refine mm_aload_n S dX2_setLocal_9 rfl (lv_at hl 0 rfl) ?_
      refine mm_getp S hR fdX2_9 (hK.k hk0) rfl dX2_setLocal_10 ?_
      refine lv_iload_n S.1 S.2.1 dX2_setLocal_13 rfl (lv_at hl 1 rfl) ?_
      refine lv_iload_n S.1 S.2.1 dX2_setLocal_14 rfl (lv_at hl 2 rfl) ?_
      obtain ⟨g3, hf⟩ := gd hf
      obtain ⟨g4, hf⟩ := gd hf
      refine mm_iast S hR hS (hK.k g3) g4 dX2_setLocal_15 (fun H locs hR hS => ?_)
      obtain ⟨μ5, e5, hf⟩ := stx hf
      rw [← e5] at hR
      have hK : mmKN μ μ5 := by rw [e5]; exact hK.sI
      obtain rfl := Option.some.inj hf
      exact mm_vret S hR hS hr hlocks dX2_setLocal_16
-- X2_goOnAt
def fX2_goOnAt (h0 : Nat) (x1 : Int32) (μ : MM) : Option (MM) :=
  st (sI μ h0 5 2) fun μ1 => st (sI μ1 h0 6 x1) fun μ2 => some μ2
set_option maxRecDepth 100000 in
set_option maxHeartbeats 4000000 in
theorem kX2_goOnAt_kn {μ : MM} {res : MM} {h0 : Nat} {x1 : Int32} (hf : fX2_goOnAt h0 x1 μ = some res) : mmKN μ res := by
  have hK : mmKN μ μ := mmKN.rf
  unfold fX2_goOnAt at hf
  obtain ⟨μ1, e1, hf⟩ := stx hf
  have hK : mmKN μ μ1 := by rw [e1]; exact hK.sI
  obtain ⟨μ2, e2, hf⟩ := stx hf
  have hK : mmKN μ μ2 := by rw [e2]; exact hK.sI
  obtain rfl := Option.some.inj hf
  exact hK
abbrev rmX2_goOnAt : Room := { frames := 0, cells := 0, slots := 0, locals := 0 }
set_option maxRecDepth 100000 in
set_option maxHeartbeats 4000000 in
theorem kX2_goOnAt_c (l : Launch) (G : mmG) (A : Nat → Prop) {μ : MM} {res : MM} {h0 : Nat} {x1 : Int32} (hk0 : mK μ h0 = 3) (hf : fX2_goOnAt h0 x1 μ = some res) : Met l yX2_goOnAt [.code yX2_goOnAt cX2_goOnAt 2 none] rmX2_goOnAt (mmPc G A μ [rf h0, .int x1]) (mmQ G A res none) 0 0 A := by
  refine mm_ofW (by decide +kernel) (by simp [lg_sl, rf_cat, int_cat]) ?_
  intro p e s m below meth c ls S hR hA hS hr hlocks hl hnm
  have hl : lv_has ls 2 [(0, rf h0), (1, .int x1)] := by simpa [lv_args, rf_cat, int_cat] using hl
  have E0 : mmEnv p m c cX2_goOnAt 2 s _ RX2 G A meth none := ⟨S, hA, hr, hlocks⟩
  have hK : mmKN μ μ := mmKN.rf
  unfold fX2_goOnAt at hf
  refine mm_aload_n S dX2_goOnAt_0 rfl (lv_at hl 0 rfl) ?_
  refine lv_iconst (v := 2) S.1 S.2.1 dX2_goOnAt_1 (by decide) ?_
  refine mm_puti S hR hS fpX2_35 (hK.k hk0) rfl rfl rfl dX2_goOnAt_2 (fun H locs hR hS => ?_)
  obtain ⟨μ1, e1, hf⟩ := stx hf
  rw [← e1] at hR
  have hK : mmKN μ μ1 := by rw [e1]; exact hK.sI
  refine mm_aload_n S dX2_goOnAt_5 rfl (lv_at hl 0 rfl) ?_
  refine lv_iload_n S.1 S.2.1 dX2_goOnAt_6 rfl (lv_at hl 1 rfl) ?_
  refine mm_puti S hR hS fpX2_38 (hK.k hk0) rfl rfl rfl dX2_goOnAt_7 (fun H locs hR hS => ?_)
  obtain ⟨μ2, e2, hf⟩ := stx hf
  rw [← e2] at hR
  have hK : mmKN μ μ2 := by rw [e2]; exact hK.sI
  obtain rfl := Option.some.inj hf
  exact mm_vret S hR hS hr hlocks dX2_goOnAt_10
-- X2_end
def fX2_end (h0 : Nat) (x1 : Int32) (x2 : Int32) (μ : MM) : Option (MM) :=
  st (sI μ h0 5 x1) fun μ1 => st (sI μ1 h0 7 x2) fun μ2 => some μ2
set_option maxRecDepth 100000 in
set_option maxHeartbeats 4000000 in
theorem kX2_end_kn {μ : MM} {res : MM} {h0 : Nat} {x1 : Int32} {x2 : Int32} (hf : fX2_end h0 x1 x2 μ = some res) : mmKN μ res := by
  have hK : mmKN μ μ := mmKN.rf
  unfold fX2_end at hf
  obtain ⟨μ1, e1, hf⟩ := stx hf
  have hK : mmKN μ μ1 := by rw [e1]; exact hK.sI
  obtain ⟨μ2, e2, hf⟩ := stx hf
  have hK : mmKN μ μ2 := by rw [e2]; exact hK.sI
  obtain rfl := Option.some.inj hf
  exact hK
abbrev rmX2_end : Room := { frames := 0, cells := 0, slots := 0, locals := 0 }
set_option maxRecDepth 100000 in
set_option maxHeartbeats 4000000 in
theorem kX2_end_c (l : Launch) (G : mmG) (A : Nat → Prop) {μ : MM} {res : MM} {h0 : Nat} {x1 : Int32} {x2 : Int32} (hk0 : mK μ h0 = 3) (hf : fX2_end h0 x1 x2 μ = some res) : Met l yX2_end [.code yX2_end cX2_end 3 none] rmX2_end (mmPc G A μ [rf h0, .int x1, .int x2]) (mmQ G A res none) 0 0 A := by
  refine mm_ofW (by decide +kernel) (by simp [lg_sl, rf_cat, int_cat]) ?_
  intro p e s m below meth c ls S hR hA hS hr hlocks hl hnm
  have hl : lv_has ls 3 [(0, rf h0), (1, .int x1), (2, .int x2)] := by simpa [lv_args, rf_cat, int_cat] using hl
  have E0 : mmEnv p m c cX2_end 3 s _ RX2 G A meth none := ⟨S, hA, hr, hlocks⟩
  have hK : mmKN μ μ := mmKN.rf
  unfold fX2_end at hf
  refine mm_aload_n S dX2_end_0 rfl (lv_at hl 0 rfl) ?_
  refine lv_iload_n S.1 S.2.1 dX2_end_1 rfl (lv_at hl 1 rfl) ?_
  refine mm_puti S hR hS fpX2_35 (hK.k hk0) rfl rfl rfl dX2_end_2 (fun H locs hR hS => ?_)
  obtain ⟨μ1, e1, hf⟩ := stx hf
  rw [← e1] at hR
  have hK : mmKN μ μ1 := by rw [e1]; exact hK.sI
  refine mm_aload_n S dX2_end_5 rfl (lv_at hl 0 rfl) ?_
  refine lv_iload_n S.1 S.2.1 dX2_end_6 rfl (lv_at hl 2 rfl) ?_
  refine mm_puti S hR hS fpX2_41 (hK.k hk0) rfl rfl rfl dX2_end_7 (fun H locs hR hS => ?_)
  obtain ⟨μ2, e2, hf⟩ := stx hf
  rw [← e2] at hR
  have hK : mmKN μ μ2 := by rw [e2]; exact hK.sI
  obtain rfl := Option.some.inj hf
  exact mm_vret S hR hS hr hlocks dX2_end_10
-- X2_beginReturn
def fX2_beginReturn (h0 : Nat) (μ : MM) : Option (Int32 × MM) :=
  st (sI μ h0 8 (mI μ h0 7)) fun μ1 => some ((-4), μ1)
set_option maxRecDepth 100000 in
set_option maxHeartbeats 4000000 in
theorem kX2_beginReturn_kn {μ : MM} {res : Int32 × MM} {h0 : Nat} (hf : fX2_beginReturn h0 μ = some res) : mmKN μ res.2 := by
  have hK : mmKN μ μ := mmKN.rf
  unfold fX2_beginReturn at hf
  obtain ⟨μ1, e1, hf⟩ := stx hf
  have hK : mmKN μ μ1 := by rw [e1]; exact hK.sI
  obtain rfl := Option.some.inj hf
  exact hK
abbrev rmX2_beginReturn : Room := { frames := 0, cells := 0, slots := 0, locals := 0 }
set_option maxRecDepth 100000 in
set_option maxHeartbeats 4000000 in
theorem kX2_beginReturn_c (l : Launch) (G : mmG) (A : Nat → Prop) {μ : MM} {res : Int32 × MM} {h0 : Nat} (hk0 : mK μ h0 = 3) (hf : fX2_beginReturn h0 μ = some res) : Met l yX2_beginReturn [.code yX2_beginReturn cX2_beginReturn 1 (some (.int))] rmX2_beginReturn (mmPc G A μ [rf h0]) (mmQ G A res.2 (some (.int res.1))) 0 0 A := by
  refine mm_ofW (by decide +kernel) (by simp [lg_sl, rf_cat, int_cat]) ?_
  intro p e s m below meth c ls S hR hA hS hr hlocks hl hnm
  have hl : lv_has ls 1 [(0, rf h0)] := by simpa [lv_args, rf_cat, int_cat] using hl
  have E0 : mmEnv p m c cX2_beginReturn 1 s _ RX2 G A meth (some (.int)) := ⟨S, hA, hr, hlocks⟩
  have hK : mmKN μ μ := mmKN.rf
  unfold fX2_beginReturn at hf
  refine mm_aload_n S dX2_beginReturn_0 rfl (lv_at hl 0 rfl) ?_
  refine mm_aload_n S dX2_beginReturn_1 rfl (lv_at hl 0 rfl) ?_
  refine mm_geti S hR fdX2_41 (hK.k hk0) rfl dX2_beginReturn_2 ?_
  refine mm_puti S hR hS fpX2_79 (hK.k hk0) rfl rfl rfl dX2_beginReturn_5 (fun H locs hR hS => ?_)
  obtain ⟨μ1, e1, hf⟩ := stx hf
  rw [← e1] at hR
  have hK : mmKN μ μ1 := by rw [e1]; exact hK.sI
  refine lv_bipush (v := (-4)) S.1 S.2.1 dX2_beginReturn_8 (by decide) ?_
  obtain rfl := Option.some.inj hf
  exact mm_iret S hR hS hr hlocks dX2_beginReturn_10
-- X2_leave
def bX2_leave_8 (kk8 : Nat → Int32 → Int32 → MM → Option (MM)) (h0 : Nat) (x1 : Int32) (x2 : Int32) (μ : MM) : Option (MM) :=
  if x2 ≤ 0 then (if x1 = ((-4) : Int32) then (if mK μ h0 = 3 then (fX2_end h0 3 (mI μ h0 8) μ).bind fun y6 => some y6 else none) else (if mK μ h0 = 3 then (fX2_end h0 4 x1 μ).bind fun y3 => some y3 else none)) else (if mK μ h0 = 3 then if mK μ (mP μ h0 2) = 6 then (fX5_lastSign (mP μ h0 2) μ).bind fun y8 => if mK μ (mP y8.2 h0 2) = 6 then (fX5_lastMark (mP y8.2 h0 2) y8.2).bind fun y10 => if mK μ (mP y10.2 h0 2) = 6 then (fX5_takeOff (mP y10.2 h0 2) y10.2).bind fun y12 => if y8.1 = ((-2) : Int32) then (if mK μ (mP y12 h0 2) = 6 then (fX5_put (mP y12 h0 2) x1 (mI y12 h0 8) y12).bind fun y20 => (fX2_goOnAt h0 y10.1 y20).bind fun y22 => some y22 else none) else (if y8.1 = ((-1) : Int32) then ((fX6_within x1 1 9 y12).bind fun y16 => if y16.1 = 0 then (kk8 h0 x1 (x2 + (-1)) y16.2) else (st (sI y16.2 h0 7 x1) fun μ18 => (fX2_goOnAt h0 y10.1 μ18).bind fun y19 => some y19)) else (kk8 h0 x1 (x2 + (-1)) y12)) else none else none else none else none)
def lX2_leave_8  : Nat → Nat → Int32 → Int32 → MM → Option (MM)
  | 0, _, _, _, _ => none
  | n + 1, h0, x1, x2, μ => bX2_leave_8  (fun h0 x1 x2 μ => lX2_leave_8  n h0 x1 x2 μ) h0 x1 x2 μ
def fX2_leave (h0 : Nat) (x1 : Int32) (μ : MM) : Option (MM) :=
  if mK μ (mP μ h0 2) = 6 then lX2_leave_8  FU h0 x1 (mI μ (mP μ h0 2) 2) μ else none
set_option maxRecDepth 100000 in
set_option maxHeartbeats 4000000 in
theorem knbX2_leave_8 (kk8 : Nat → Int32 → Int32 → MM → Option (MM)) (hkk8 : ∀ (h0 : Nat) (x1 : Int32) (x2 : Int32) (μ : MM) (res : MM), kk8 h0 x1 x2 μ = some res → mmKN μ res) : ∀ (h0 : Nat) (x1 : Int32) (x2 : Int32) (μ : MM) (res : MM), bX2_leave_8 kk8 h0 x1 x2 μ = some res → mmKN μ res := by
  intro h0 x1 x2 μ res hf
  have hK : mmKN μ μ := mmKN.rf
  unfold bX2_leave_8 at hf
  rcases it_or hf with ⟨c1, hf⟩ | ⟨c1, hf⟩
  · skip
    rcases it_or hf with ⟨c2, hf⟩ | ⟨c2, hf⟩
    · skip
      obtain ⟨g5, hf⟩ := gd hf
      obtain ⟨y6, hy6, hf⟩ := bd hf
      have hK : mmKN μ y6 := hK.tr (kX2_end_kn hy6)
      obtain rfl := Option.some.inj hf
      exact hK
    · skip
      obtain ⟨g4, hf⟩ := gd hf
      obtain ⟨y3, hy3, hf⟩ := bd hf
      have hK : mmKN μ y3 := hK.tr (kX2_end_kn hy3)
      obtain rfl := Option.some.inj hf
      exact hK
  · skip
    obtain ⟨g7, hf⟩ := gd hf
    obtain ⟨g9, hf⟩ := gd hf
    obtain ⟨y8, hy8, hf⟩ := bd hf
    have hK : mmKN μ y8.2 := hK.tr (kX5_lastSign_kn hy8)
    obtain ⟨g11, hf⟩ := gd hf
    obtain ⟨y10, hy10, hf⟩ := bd hf
    have hK : mmKN μ y10.2 := hK.tr (kX5_lastMark_kn hy10)
    obtain ⟨g13, hf⟩ := gd hf
    obtain ⟨y12, hy12, hf⟩ := bd hf
    have hK : mmKN μ y12 := hK.tr (kX5_takeOff_kn hy12)
    rcases it_or hf with ⟨c14, hf⟩ | ⟨c14, hf⟩
    · skip
      obtain ⟨g21, hf⟩ := gd hf
      obtain ⟨y20, hy20, hf⟩ := bd hf
      have hK : mmKN μ y20 := hK.tr (kX5_put_kn hy20)
      obtain ⟨y22, hy22, hf⟩ := bd hf
      have hK : mmKN μ y22 := hK.tr (kX2_goOnAt_kn hy22)
      obtain rfl := Option.some.inj hf
      exact hK
    · skip
      rcases it_or hf with ⟨c15, hf⟩ | ⟨c15, hf⟩
      · skip
        obtain ⟨y16, hy16, hf⟩ := bd hf
        have hK : mmKN μ y16.2 := hK.tr (kX6_within_kn hy16)
        rcases it_or hf with ⟨c17, hf⟩ | ⟨c17, hf⟩
        · skip
          exact hK.tr (hkk8 h0 x1 (x2 + (-1)) y16.2 _ hf)
        · skip
          obtain ⟨μ18, e18, hf⟩ := stx hf
          have hK : mmKN μ μ18 := by rw [e18]; exact hK.sI
          obtain ⟨y19, hy19, hf⟩ := bd hf
          have hK : mmKN μ y19 := hK.tr (kX2_goOnAt_kn hy19)
          obtain rfl := Option.some.inj hf
          exact hK
      · skip
        exact hK.tr (hkk8 h0 x1 (x2 + (-1)) y12 _ hf)
theorem knlX2_leave_8  : ∀ (n : Nat) (h0 : Nat) (x1 : Int32) (x2 : Int32) (μ : MM) (res : MM), lX2_leave_8  n h0 x1 x2 μ = some res → mmKN μ res := by
  intro n
  induction n with
  | zero => intro h0 x1 x2 μ res hf; cases hf
  | succ n ih => intro h0 x1 x2 μ res hf; exact knbX2_leave_8  _ ih h0 x1 x2 μ res hf
set_option maxRecDepth 100000 in
set_option maxHeartbeats 4000000 in
theorem kX2_leave_kn {μ : MM} {res : MM} {h0 : Nat} {x1 : Int32} (hf : fX2_leave h0 x1 μ = some res) : mmKN μ res := by
  have hK : mmKN μ μ := mmKN.rf
  unfold fX2_leave at hf
  obtain ⟨g1, hf⟩ := gd hf
  exact hK.tr (knlX2_leave_8  FU h0 x1 (mI μ (mP μ h0 2) 2) μ _ hf)
abbrev rmX2_leave : Room := { frames := 1, cells := 0, slots := 0, locals := 22 }
set_option maxRecDepth 100000 in
set_option maxHeartbeats 4000000 in
theorem wbX2_leave_8 {p : Program} {l : Launch} {e : Env} {s : State} {m : MethodId} {args : Array Value} {below : List Frame} {meth : Method} {c : Code} {G : mmG} {A : Nat → Prop} {res : MM} (E0 : mmEnv p m c cX2_leave 5 s args RX2 G A meth none) (kk8 : Nat → Int32 → Int32 → MM → Option (MM)) (hkk8 : ∀ (h0 : Nat) (x1 : Int32) (x2 : Int32) (μ : MM), kk8 h0 x1 x2 μ = some res → mmGoal p l e rmX2_leave s m args below meth c G A 8 5 [(0, rf h0), (1, .int x1), (2, .int x2)] μ (mmQ G A res none)) : ∀ (h0 : Nat) (x1 : Int32) (x2 : Int32) (μ : MM), bX2_leave_8 kk8 h0 x1 x2 μ = some res → mmGoal p l e rmX2_leave s m args below meth c G A 8 5 [(0, rf h0), (1, .int x1), (2, .int x2)] μ (mmQ G A res none) := by
  obtain ⟨S, hA, hr, hlocks⟩ := id E0
  intro h0 x1 x2 μ hf H locs ls hR hS hl
  have hK : mmKN μ μ := mmKN.rf
  unfold bX2_leave_8 at hf
  refine lv_iload_n S.1 S.2.1 dX2_leave_8 rfl (lv_at hl 2 rfl) ?_
  refine lv_if_le (tgt := 94) S.1 S.2.1 dX2_leave_9 (by decide) (fun c1 => ?_) (fun c1 => ?_)
  · have hf := it_t hf c1
    refine lv_iload_n S.1 S.2.1 dX2_leave_94 rfl (lv_at hl 1 rfl) ?_
    refine lv_bipush (v := (-4)) S.1 S.2.1 dX2_leave_95 (by decide) ?_
    refine lv_icmp_ne (tgt := 112) S.1 S.2.1 dX2_leave_97 (by decide) (fun c2 => ?_) (fun c2 => ?_)
    · have hf := it_f hf c2
      refine mm_aload_n S dX2_leave_112 rfl (lv_at hl 0 rfl) ?_
      refine lv_iconst (v := 4) S.1 S.2.1 dX2_leave_113 (by decide) ?_
      refine lv_iload_n S.1 S.2.1 dX2_leave_114 rfl (lv_at hl 1 rfl) ?_
      obtain ⟨g4, hf⟩ := gd hf
      obtain ⟨y3, hy3, hf⟩ := bd hf
      refine mm_callVv S hR hS hA (As := [.int 4, .int x1]) (rest := []) cvX2_104 (hK.k g4) (kX2_end_c l G A (hK.k g4) hy3) rfl rfl ⟨Nat.le_of_ble_eq_true rfl, Nat.le_of_ble_eq_true rfl⟩ rfl hl.1 rfl (lv_room (by simp [rf_cat, int_cat])) dX2_leave_115 ⟨Nat.le_refl _, Nat.le_refl _⟩ (fun H locs hR hS => ?_)
      have hK : mmKN μ y3 := hK.tr (kX2_end_kn hy3)
      obtain rfl := Option.some.inj hf
      exact mm_vret S hR hS hr hlocks dX2_leave_118
    · have hf := it_t hf c2
      refine mm_aload_n S dX2_leave_100 rfl (lv_at hl 0 rfl) ?_
      refine lv_iconst (v := 3) S.1 S.2.1 dX2_leave_101 (by decide) ?_
      refine mm_aload_n S dX2_leave_102 rfl (lv_at hl 0 rfl) ?_
      obtain ⟨g5, hf⟩ := gd hf
      refine mm_geti S hR fdX2_79 (hK.k g5) rfl dX2_leave_103 ?_
      obtain ⟨y6, hy6, hf⟩ := bd hf
      refine mm_callVv S hR hS hA (As := [.int 3, .int (mI μ h0 8)]) (rest := []) cvX2_104 (hK.k g5) (kX2_end_c l G A (hK.k g5) hy6) rfl rfl ⟨Nat.le_of_ble_eq_true rfl, Nat.le_of_ble_eq_true rfl⟩ rfl hl.1 rfl (lv_room (by simp [rf_cat, int_cat])) dX2_leave_106 ⟨Nat.le_refl _, Nat.le_refl _⟩ (fun H locs hR hS => ?_)
      have hK : mmKN μ y6 := hK.tr (kX2_end_kn hy6)
      refine lv_goto (tgt := 118) S.1 S.2.1 dX2_leave_109 (by decide) ?_
      obtain rfl := Option.some.inj hf
      exact mm_vret S hR hS hr hlocks dX2_leave_118
  · have hf := it_f hf c1
    refine mm_aload_n S dX2_leave_12 rfl (lv_at hl 0 rfl) ?_
    obtain ⟨g7, hf⟩ := gd hf
    refine mm_getp S hR fdX2_18 (hK.k g7) rfl dX2_leave_13 ?_
    obtain ⟨g9, hf⟩ := gd hf
    obtain ⟨y8, hy8, hf⟩ := bd hf
    refine mm_callVi S hR hS hA (As := []) (rest := []) cvX2_82 (hK.k g9) (kX5_lastSign_c l G A (hK.k g9) hy8) rfl rfl ⟨Nat.le_of_ble_eq_true rfl, Nat.le_of_ble_eq_true rfl⟩ rfl hl.1 rfl (lv_room (by simp [rf_cat, int_cat])) dX2_leave_16 ⟨Nat.le_refl _, Nat.le_refl _⟩ (fun H locs hR hS => ?_)
    have hK : mmKN μ y8.2 := hK.tr (kX5_lastSign_kn hy8)
    refine lv_istore_n (i := 3) (lv' := [(3, .int y8.1), (0, rf h0), (1, .int x1), (2, .int x2)]) S.1 S.2.1 dX2_leave_19 rfl hl (by decide) rfl (fun ls hl => ?_)
    refine mm_aload_n S dX2_leave_20 rfl (lv_at hl 1 rfl) ?_
    refine mm_getp S hR fdX2_18 (hK.k g7) rfl dX2_leave_21 ?_
    obtain ⟨g11, hf⟩ := gd hf
    obtain ⟨y10, hy10, hf⟩ := bd hf
    refine mm_callVi S hR hS hA (As := []) (rest := []) cvX2_86 (hK.k g11) (kX5_lastMark_c l G A (hK.k g11) hy10) rfl rfl ⟨Nat.le_of_ble_eq_true rfl, Nat.le_of_ble_eq_true rfl⟩ rfl hl.1 rfl (lv_room (by simp [rf_cat, int_cat])) dX2_leave_24 ⟨Nat.le_refl _, Nat.le_refl _⟩ (fun H locs hR hS => ?_)
    have hK : mmKN μ y10.2 := hK.tr (kX5_lastMark_kn hy10)
    refine lv_istore (i := 4) (lv' := [(4, .int y10.1), (3, .int y8.1), (0, rf h0), (1, .int x1), (2, .int x2)]) S.1 S.2.1 dX2_leave_27 hl (by decide) rfl (fun ls hl => ?_)
    refine mm_aload_n S dX2_leave_29 rfl (lv_at hl 2 rfl) ?_
    refine mm_getp S hR fdX2_18 (hK.k g7) rfl dX2_leave_30 ?_
    obtain ⟨g13, hf⟩ := gd hf
    obtain ⟨y12, hy12, hf⟩ := bd hf
    refine mm_callVv S hR hS hA (As := []) (rest := []) cvX2_89 (hK.k g13) (kX5_takeOff_c l G A (hK.k g13) hy12) rfl rfl ⟨Nat.le_of_ble_eq_true rfl, Nat.le_of_ble_eq_true rfl⟩ rfl hl.1 rfl (lv_room (by simp [rf_cat, int_cat])) dX2_leave_33 ⟨Nat.le_refl _, Nat.le_refl _⟩ (fun H locs hR hS => ?_)
    have hK : mmKN μ y12 := hK.tr (kX5_takeOff_kn hy12)
    refine lv_iload_n S.1 S.2.1 dX2_leave_36 rfl (lv_at hl 1 rfl) ?_
    refine lv_bipush (v := (-2)) S.1 S.2.1 dX2_leave_37 (by decide) ?_
    refine lv_icmp_ne (tgt := 61) S.1 S.2.1 dX2_leave_39 (by decide) (fun c14 => ?_) (fun c14 => ?_)
    · have hf := it_f hf c14
      refine lv_iload_n S.1 S.2.1 dX2_leave_61 rfl (lv_at hl 1 rfl) ?_
      refine lv_iconst (v := (-1)) S.1 S.2.1 dX2_leave_62 (by decide) ?_
      refine lv_icmp_ne (tgt := 88) S.1 S.2.1 dX2_leave_63 (by decide) (fun c15 => ?_) (fun c15 => ?_)
      · have hf := it_f hf c15
        refine lv_iinc (v := (x2 + (-1))) (lv' := [(2, .int (x2 + (-1))), (4, .int y10.1), (3, .int y8.1), (0, rf h0), (1, .int x1)]) S.1 S.2.1 dX2_leave_88 hl (k := 4) rfl (by rfl) (by decide) rfl (fun ls hl => ?_)
        refine lv_goto (tgt := 8) S.1 S.2.1 dX2_leave_91 (by decide) ?_
        exact hkk8 h0 x1 (x2 + (-1)) y12 hf _ _ _ hR hS (lv_sub hl [3, 4, 0] rfl)
      · have hf := it_t hf c15
        refine lv_iload_n S.1 S.2.1 dX2_leave_66 rfl (lv_at hl 3 rfl) ?_
        refine lv_iconst (v := 1) S.1 S.2.1 dX2_leave_67 (by decide) ?_
        refine lv_bipush (v := 9) S.1 S.2.1 dX2_leave_68 (by decide) ?_
        obtain ⟨y16, hy16, hf⟩ := bd hf
        refine mm_callNi S hR hS hA (As := [.int x1, .int 1, .int 9]) (rest := []) csX2_100 (kX6_within_c l G A hy16) rfl rfl ⟨Nat.le_of_ble_eq_true rfl, Nat.le_of_ble_eq_true rfl⟩ rfl hl.1 rfl (lv_room (by simp [rf_cat, int_cat])) dX2_leave_70 ⟨Nat.le_refl _, Nat.le_refl _⟩ (fun H locs hR hS => ?_)
        have hK : mmKN μ y16.2 := hK.tr (kX6_within_kn hy16)
        refine lv_if_eq (tgt := 88) S.1 S.2.1 dX2_leave_73 (by decide) (fun c17 => ?_) (fun c17 => ?_)
        · have hf := it_t hf c17
          refine lv_iinc (v := (x2 + (-1))) (lv' := [(2, .int (x2 + (-1))), (4, .int y10.1), (3, .int y8.1), (0, rf h0), (1, .int x1)]) S.1 S.2.1 dX2_leave_88 hl (k := 4) rfl (by rfl) (by decide) rfl (fun ls hl => ?_)
          refine lv_goto (tgt := 8) S.1 S.2.1 dX2_leave_91 (by decide) ?_
          exact hkk8 h0 x1 (x2 + (-1)) y16.2 hf _ _ _ hR hS (lv_sub hl [3, 4, 0] rfl)
        · have hf := it_f hf c17
          refine mm_aload_n S dX2_leave_76 rfl (lv_at hl 2 rfl) ?_
          refine lv_iload_n S.1 S.2.1 dX2_leave_77 rfl (lv_at hl 3 rfl) ?_
          refine mm_puti S hR hS fpX2_41 (hK.k g7) rfl rfl rfl dX2_leave_78 (fun H locs hR hS => ?_)
          obtain ⟨μ18, e18, hf⟩ := stx hf
          rw [← e18] at hR
          have hK : mmKN μ μ18 := by rw [e18]; exact hK.sI
          refine mm_aload_n S dX2_leave_81 rfl (lv_at hl 2 rfl) ?_
          refine lv_iload S.1 S.2.1 dX2_leave_82 (lv_at hl 0 rfl) ?_
          obtain ⟨y19, hy19, hf⟩ := bd hf
          refine mm_callVv S hR hS hA (As := [.int y10.1]) (rest := []) cvX2_96 (hK.k g7) (kX2_goOnAt_c l G A (hK.k g7) hy19) rfl rfl ⟨Nat.le_of_ble_eq_true rfl, Nat.le_of_ble_eq_true rfl⟩ rfl hl.1 rfl (lv_room (by simp [rf_cat, int_cat])) dX2_leave_84 ⟨Nat.le_refl _, Nat.le_refl _⟩ (fun H locs hR hS => ?_)
          have hK : mmKN μ y19 := hK.tr (kX2_goOnAt_kn hy19)
          obtain rfl := Option.some.inj hf
          exact mm_vret S hR hS hr hlocks dX2_leave_87
    · have hf := it_t hf c14
      refine mm_aload_n S dX2_leave_42 rfl (lv_at hl 2 rfl) ?_
      refine mm_getp S hR fdX2_18 (hK.k g7) rfl dX2_leave_43 ?_
      refine lv_iload_n S.1 S.2.1 dX2_leave_46 rfl (lv_at hl 3 rfl) ?_
      refine mm_aload_n S dX2_leave_47 rfl (lv_at hl 2 rfl) ?_
      refine mm_geti S hR fdX2_79 (hK.k g7) rfl dX2_leave_48 ?_
      obtain ⟨g21, hf⟩ := gd hf
      obtain ⟨y20, hy20, hf⟩ := bd hf
      refine mm_callVv S hR hS hA (As := [.int x1, .int (mI y12 h0 8)]) (rest := []) cvX2_92 (hK.k g21) (kX5_put_c l G A (hK.k g21) hy20) rfl rfl ⟨Nat.le_of_ble_eq_true rfl, Nat.le_of_ble_eq_true rfl⟩ rfl hl.1 rfl (lv_room (by simp [rf_cat, int_cat])) dX2_leave_51 ⟨Nat.le_refl _, Nat.le_refl _⟩ (fun H locs hR hS => ?_)
      have hK : mmKN μ y20 := hK.tr (kX5_put_kn hy20)
      refine mm_aload_n S dX2_leave_54 rfl (lv_at hl 2 rfl) ?_
      refine lv_iload S.1 S.2.1 dX2_leave_55 (lv_at hl 0 rfl) ?_
      obtain ⟨y22, hy22, hf⟩ := bd hf
      refine mm_callVv S hR hS hA (As := [.int y10.1]) (rest := []) cvX2_96 (hK.k g7) (kX2_goOnAt_c l G A (hK.k g7) hy22) rfl rfl ⟨Nat.le_of_ble_eq_true rfl, Nat.le_of_ble_eq_true rfl⟩ rfl hl.1 rfl (lv_room (by simp [rf_cat, int_cat])) dX2_leave_57 ⟨Nat.le_refl _, Nat.le_refl _⟩ (fun H locs hR hS => ?_)
      have hK : mmKN μ y22 := hK.tr (kX2_goOnAt_kn hy22)
      obtain rfl := Option.some.inj hf
      exact mm_vret S hR hS hr hlocks dX2_leave_60
theorem wlX2_leave_8 {p : Program} {l : Launch} {e : Env} {s : State} {m : MethodId} {args : Array Value} {below : List Frame} {meth : Method} {c : Code} {G : mmG} {A : Nat → Prop} {res : MM} (E0 : mmEnv p m c cX2_leave 5 s args RX2 G A meth none)  : ∀ (n : Nat) (h0 : Nat) (x1 : Int32) (x2 : Int32) (μ : MM), lX2_leave_8  n h0 x1 x2 μ = some res → mmGoal p l e rmX2_leave s m args below meth c G A 8 5 [(0, rf h0), (1, .int x1), (2, .int x2)] μ (mmQ G A res none) := by
  intro n
  induction n with
  | zero => intro h0 x1 x2 μ hf; cases hf
  | succ n ih => intro h0 x1 x2 μ hf; exact wbX2_leave_8 E0  _ ih h0 x1 x2 μ hf
set_option maxRecDepth 100000 in
set_option maxHeartbeats 4000000 in
theorem kX2_leave_c (l : Launch) (G : mmG) (A : Nat → Prop) {μ : MM} {res : MM} {h0 : Nat} {x1 : Int32} (hk0 : mK μ h0 = 3) (hf : fX2_leave h0 x1 μ = some res) : Met l yX2_leave [.code yX2_leave cX2_leave 5 none] rmX2_leave (mmPc G A μ [rf h0, .int x1]) (mmQ G A res none) 0 0 A := by
  refine mm_ofW (by decide +kernel) (by simp [lg_sl, rf_cat, int_cat]) ?_
  intro p e s m below meth c ls S hR hA hS hr hlocks hl hnm
  have hl : lv_has ls 5 [(0, rf h0), (1, .int x1)] := by simpa [lv_args, rf_cat, int_cat] using hl
  have E0 : mmEnv p m c cX2_leave 5 s _ RX2 G A meth none := ⟨S, hA, hr, hlocks⟩
  have hK : mmKN μ μ := mmKN.rf
  unfold fX2_leave at hf
  refine mm_aload_n S dX2_leave_0 rfl (lv_at hl 0 rfl) ?_
  refine mm_getp S hR fdX2_18 (hK.k hk0) rfl dX2_leave_1 ?_
  obtain ⟨g1, hf⟩ := gd hf
  refine mm_geti S hR fdX2_26 (hK.k g1) rfl dX2_leave_4 ?_
  refine lv_istore_n (i := 2) (lv' := [(2, .int (mI μ (mP μ h0 2) 2)), (0, rf h0), (1, .int x1)]) S.1 S.2.1 dX2_leave_7 rfl hl (by decide) rfl (fun ls hl => ?_)
  exact wlX2_leave_8 E0  FU h0 x1 (mI μ (mP μ h0 2) 2) μ hf _ _ _ hR hS (lv_sub hl [1, 2, 0] rfl)
-- X2_doDone
def bX2_doDone_21  (h0 : Nat) (x1 : Int32) (x2 : Int32) (μ : MM) : Option (Int32 × MM) :=
  if mK μ h0 = 3 then if mK μ (mP μ h0 2) = 6 then (fX5_lastMark (mP μ h0 2) μ).bind fun y2 => if mK μ (mP y2.2 h0 2) = 6 then (fX5_takeOff (mP y2.2 h0 2) y2.2).bind fun y4 => if x2 = ((-1) : Int32) then (some (x1, y4)) else (if mK μ (mP y4 h0 2) = 6 then (fX5_put (mP y4 h0 2) (-3) x1 y4).bind fun y7 => some (y2.1, y7) else none) else none else none else none
def fX2_doDone (h0 : Nat) (x1 : Int32) (μ : MM) : Option (Int32 × MM) :=
  if mK μ (mP μ h0 2) = 6 then (fX5_lastSign (mP μ h0 2) μ).bind fun y1 => if y1.1 = ((-1) : Int32) then (bX2_doDone_21  h0 x1 y1.1 y1.2) else (if y1.1 = ((-2) : Int32) then (bX2_doDone_21  h0 x1 y1.1 y1.2) else (some (x1, y1.2))) else none
set_option maxRecDepth 100000 in
set_option maxHeartbeats 4000000 in
theorem knbX2_doDone_21  : ∀ (h0 : Nat) (x1 : Int32) (x2 : Int32) (μ : MM) (res : Int32 × MM), bX2_doDone_21  h0 x1 x2 μ = some res → mmKN μ res.2 := by
  intro h0 x1 x2 μ res hf
  have hK : mmKN μ μ := mmKN.rf
  unfold bX2_doDone_21 at hf
  obtain ⟨g1, hf⟩ := gd hf
  obtain ⟨g3, hf⟩ := gd hf
  obtain ⟨y2, hy2, hf⟩ := bd hf
  have hK : mmKN μ y2.2 := hK.tr (kX5_lastMark_kn hy2)
  obtain ⟨g5, hf⟩ := gd hf
  obtain ⟨y4, hy4, hf⟩ := bd hf
  have hK : mmKN μ y4 := hK.tr (kX5_takeOff_kn hy4)
  rcases it_or hf with ⟨c6, hf⟩ | ⟨c6, hf⟩
  · skip
    obtain rfl := Option.some.inj hf
    exact hK
  · skip
    obtain ⟨g8, hf⟩ := gd hf
    obtain ⟨y7, hy7, hf⟩ := bd hf
    have hK : mmKN μ y7 := hK.tr (kX5_put_kn hy7)
    obtain rfl := Option.some.inj hf
    exact hK
set_option maxRecDepth 100000 in
set_option maxHeartbeats 4000000 in
theorem kX2_doDone_kn {μ : MM} {res : Int32 × MM} {h0 : Nat} {x1 : Int32} (hf : fX2_doDone h0 x1 μ = some res) : mmKN μ res.2 := by
  have hK : mmKN μ μ := mmKN.rf
  unfold fX2_doDone at hf
  obtain ⟨g2, hf⟩ := gd hf
  obtain ⟨y1, hy1, hf⟩ := bd hf
  have hK : mmKN μ y1.2 := hK.tr (kX5_lastSign_kn hy1)
  rcases it_or hf with ⟨c3, hf⟩ | ⟨c3, hf⟩
  · skip
    exact hK.tr (knbX2_doDone_21  h0 x1 y1.1 y1.2 _ hf)
  · skip
    rcases it_or hf with ⟨c4, hf⟩ | ⟨c4, hf⟩
    · skip
      exact hK.tr (knbX2_doDone_21  h0 x1 y1.1 y1.2 _ hf)
    · skip
      obtain rfl := Option.some.inj hf
      exact hK
abbrev rmX2_doDone : Room := { frames := 1, cells := 0, slots := 0, locals := 22 }
set_option maxRecDepth 100000 in
set_option maxHeartbeats 4000000 in
theorem wbX2_doDone_21 {p : Program} {l : Launch} {e : Env} {s : State} {m : MethodId} {args : Array Value} {below : List Frame} {meth : Method} {c : Code} {G : mmG} {A : Nat → Prop} {res : Int32 × MM} (E0 : mmEnv p m c cX2_doDone 4 s args RX2 G A meth (some (.int)))  : ∀ (h0 : Nat) (x1 : Int32) (x2 : Int32) (μ : MM), bX2_doDone_21  h0 x1 x2 μ = some res → mmGoal p l e rmX2_doDone s m args below meth c G A 21 4 [(0, rf h0), (1, .int x1), (2, .int x2)] μ (mmQ G A res.2 (some (.int res.1))) := by
  obtain ⟨S, hA, hr, hlocks⟩ := id E0
  intro h0 x1 x2 μ hf H locs ls hR hS hl
  have hK : mmKN μ μ := mmKN.rf
  unfold bX2_doDone_21 at hf
  refine mm_aload_n S dX2_doDone_21 rfl (lv_at hl 0 rfl) ?_
  obtain ⟨g1, hf⟩ := gd hf
  refine mm_getp S hR fdX2_18 (hK.k g1) rfl dX2_doDone_22 ?_
  obtain ⟨g3, hf⟩ := gd hf
  obtain ⟨y2, hy2, hf⟩ := bd hf
  refine mm_callVi S hR hS hA (As := []) (rest := []) cvX2_86 (hK.k g3) (kX5_lastMark_c l G A (hK.k g3) hy2) rfl rfl ⟨Nat.le_of_ble_eq_true rfl, Nat.le_of_ble_eq_true rfl⟩ rfl hl.1 rfl (lv_room (by simp [rf_cat, int_cat])) dX2_doDone_25 ⟨Nat.le_refl _, Nat.le_refl _⟩ (fun H locs hR hS => ?_)
  have hK : mmKN μ y2.2 := hK.tr (kX5_lastMark_kn hy2)
  refine lv_istore_n (i := 3) (lv' := [(3, .int y2.1), (0, rf h0), (1, .int x1), (2, .int x2)]) S.1 S.2.1 dX2_doDone_28 rfl hl (by decide) rfl (fun ls hl => ?_)
  refine mm_aload_n S dX2_doDone_29 rfl (lv_at hl 1 rfl) ?_
  refine mm_getp S hR fdX2_18 (hK.k g1) rfl dX2_doDone_30 ?_
  obtain ⟨g5, hf⟩ := gd hf
  obtain ⟨y4, hy4, hf⟩ := bd hf
  refine mm_callVv S hR hS hA (As := []) (rest := []) cvX2_89 (hK.k g5) (kX5_takeOff_c l G A (hK.k g5) hy4) rfl rfl ⟨Nat.le_of_ble_eq_true rfl, Nat.le_of_ble_eq_true rfl⟩ rfl hl.1 rfl (lv_room (by simp [rf_cat, int_cat])) dX2_doDone_33 ⟨Nat.le_refl _, Nat.le_refl _⟩ (fun H locs hR hS => ?_)
  have hK : mmKN μ y4 := hK.tr (kX5_takeOff_kn hy4)
  refine lv_iload_n S.1 S.2.1 dX2_doDone_36 rfl (lv_at hl 3 rfl) ?_
  refine lv_iconst (v := (-1)) S.1 S.2.1 dX2_doDone_37 (by decide) ?_
  refine lv_icmp_ne (tgt := 43) S.1 S.2.1 dX2_doDone_38 (by decide) (fun c6 => ?_) (fun c6 => ?_)
  · have hf := it_f hf c6
    refine mm_aload_n S dX2_doDone_43 rfl (lv_at hl 1 rfl) ?_
    refine mm_getp S hR fdX2_18 (hK.k g1) rfl dX2_doDone_44 ?_
    refine lv_bipush (v := (-3)) S.1 S.2.1 dX2_doDone_47 (by decide) ?_
    refine lv_iload_n S.1 S.2.1 dX2_doDone_49 rfl (lv_at hl 2 rfl) ?_
    obtain ⟨g8, hf⟩ := gd hf
    obtain ⟨y7, hy7, hf⟩ := bd hf
    refine mm_callVv S hR hS hA (As := [.int (-3), .int x1]) (rest := []) cvX2_92 (hK.k g8) (kX5_put_c l G A (hK.k g8) hy7) rfl rfl ⟨Nat.le_of_ble_eq_true rfl, Nat.le_of_ble_eq_true rfl⟩ rfl hl.1 rfl (lv_room (by simp [rf_cat, int_cat])) dX2_doDone_50 ⟨Nat.le_refl _, Nat.le_refl _⟩ (fun H locs hR hS => ?_)
    have hK : mmKN μ y7 := hK.tr (kX5_put_kn hy7)
    refine lv_iload_n S.1 S.2.1 dX2_doDone_53 rfl (lv_at hl 0 rfl) ?_
    obtain rfl := Option.some.inj hf
    exact mm_iret S hR hS hr hlocks dX2_doDone_54
  · have hf := it_t hf c6
    refine lv_iload_n S.1 S.2.1 dX2_doDone_41 rfl (lv_at hl 2 rfl) ?_
    obtain rfl := Option.some.inj hf
    exact mm_iret S hR hS hr hlocks dX2_doDone_42
set_option maxRecDepth 100000 in
set_option maxHeartbeats 4000000 in
theorem kX2_doDone_c (l : Launch) (G : mmG) (A : Nat → Prop) {μ : MM} {res : Int32 × MM} {h0 : Nat} {x1 : Int32} (hk0 : mK μ h0 = 3) (hf : fX2_doDone h0 x1 μ = some res) : Met l yX2_doDone [.code yX2_doDone cX2_doDone 4 (some (.int))] rmX2_doDone (mmPc G A μ [rf h0, .int x1]) (mmQ G A res.2 (some (.int res.1))) 0 0 A := by
  refine mm_ofW (by decide +kernel) (by simp [lg_sl, rf_cat, int_cat]) ?_
  intro p e s m below meth c ls S hR hA hS hr hlocks hl hnm
  have hl : lv_has ls 4 [(0, rf h0), (1, .int x1)] := by simpa [lv_args, rf_cat, int_cat] using hl
  have E0 : mmEnv p m c cX2_doDone 4 s _ RX2 G A meth (some (.int)) := ⟨S, hA, hr, hlocks⟩
  have hK : mmKN μ μ := mmKN.rf
  unfold fX2_doDone at hf
  refine mm_aload_n S dX2_doDone_0 rfl (lv_at hl 0 rfl) ?_
  refine mm_getp S hR fdX2_18 (hK.k hk0) rfl dX2_doDone_1 ?_
  obtain ⟨g2, hf⟩ := gd hf
  obtain ⟨y1, hy1, hf⟩ := bd hf
  refine mm_callVi S hR hS hA (As := []) (rest := []) cvX2_82 (hK.k g2) (kX5_lastSign_c l G A (hK.k g2) hy1) rfl rfl ⟨Nat.le_of_ble_eq_true rfl, Nat.le_of_ble_eq_true rfl⟩ rfl hl.1 rfl (lv_room (by simp [rf_cat, int_cat])) dX2_doDone_4 ⟨Nat.le_refl _, Nat.le_refl _⟩ (fun H locs hR hS => ?_)
  have hK : mmKN μ y1.2 := hK.tr (kX5_lastSign_kn hy1)
  refine lv_istore_n (i := 2) (lv' := [(2, .int y1.1), (0, rf h0), (1, .int x1)]) S.1 S.2.1 dX2_doDone_7 rfl hl (by decide) rfl (fun ls hl => ?_)
  refine lv_iload_n S.1 S.2.1 dX2_doDone_8 rfl (lv_at hl 0 rfl) ?_
  refine lv_iconst (v := (-1)) S.1 S.2.1 dX2_doDone_9 (by decide) ?_
  refine lv_icmp_eq (tgt := 21) S.1 S.2.1 dX2_doDone_10 (by decide) (fun c3 => ?_) (fun c3 => ?_)
  · have hf := it_t hf c3
    exact wbX2_doDone_21 E0  h0 x1 y1.1 y1.2 hf _ _ _ hR hS (lv_sub hl [1, 2, 0] rfl)
  · have hf := it_f hf c3
    refine lv_iload_n S.1 S.2.1 dX2_doDone_13 rfl (lv_at hl 0 rfl) ?_
    refine lv_bipush (v := (-2)) S.1 S.2.1 dX2_doDone_14 (by decide) ?_
    refine lv_icmp_eq (tgt := 21) S.1 S.2.1 dX2_doDone_16 (by decide) (fun c4 => ?_) (fun c4 => ?_)
    · have hf := it_t hf c4
      exact wbX2_doDone_21 E0  h0 x1 y1.1 y1.2 hf _ _ _ hR hS (lv_sub hl [1, 2, 0] rfl)
    · have hf := it_f hf c4
      refine lv_iload_n S.1 S.2.1 dX2_doDone_19 rfl (lv_at hl 2 rfl) ?_
      obtain rfl := Option.some.inj hf
      exact mm_iret S hR hS hr hlocks dX2_doDone_20
-- X2_doLast
def fX2_doLast (h0 : Nat) (μ : MM) : Option (Int32 × MM) :=
  if mK μ (mP μ h0 2) = 6 then (fX5_lastSign (mP μ h0 2) μ).bind fun y1 => if y1.1 = 0 then (st (sI y1.2 h0 6 ((mI y1.2 h0 6) + 1)) fun μ4 => some (0, μ4)) else (if y1.1 = ((-1) : Int32) then (st (sI y1.2 h0 6 ((mI y1.2 h0 6) + 1)) fun μ6 => some (0, μ6)) else (if y1.1 = ((-2) : Int32) then (st (sI y1.2 h0 6 ((mI y1.2 h0 6) + 1)) fun μ15 => some (0, μ15)) else (if mK μ (mP y1.2 h0 2) = 6 then (fX5_lastMark (mP y1.2 h0 2) y1.2).bind fun y8 => if mK μ (mP y8.2 h0 2) = 6 then (fX5_takeOff (mP y8.2 h0 2) y8.2).bind fun y10 => if y1.1 = ((-3) : Int32) then (st (sI y10 h0 6 y8.1) fun μ14 => some (0, μ14)) else (st (sI y10 h0 8 y8.1) fun μ13 => some (y1.1, μ13)) else none else none))) else none
set_option maxRecDepth 100000 in
set_option maxHeartbeats 4000000 in
theorem kX2_doLast_kn {μ : MM} {res : Int32 × MM} {h0 : Nat} (hf : fX2_doLast h0 μ = some res) : mmKN μ res.2 := by
  have hK : mmKN μ μ := mmKN.rf
  unfold fX2_doLast at hf
  obtain ⟨g2, hf⟩ := gd hf
  obtain ⟨y1, hy1, hf⟩ := bd hf
  have hK : mmKN μ y1.2 := hK.tr (kX5_lastSign_kn hy1)
  rcases it_or hf with ⟨c3, hf⟩ | ⟨c3, hf⟩
  · skip
    obtain ⟨μ4, e4, hf⟩ := stx hf
    have hK : mmKN μ μ4 := by rw [e4]; exact hK.sI
    obtain rfl := Option.some.inj hf
    exact hK
  · skip
    rcases it_or hf with ⟨c5, hf⟩ | ⟨c5, hf⟩
    · skip
      obtain ⟨μ6, e6, hf⟩ := stx hf
      have hK : mmKN μ μ6 := by rw [e6]; exact hK.sI
      obtain rfl := Option.some.inj hf
      exact hK
    · skip
      rcases it_or hf with ⟨c7, hf⟩ | ⟨c7, hf⟩
      · skip
        obtain ⟨μ15, e15, hf⟩ := stx hf
        have hK : mmKN μ μ15 := by rw [e15]; exact hK.sI
        obtain rfl := Option.some.inj hf
        exact hK
      · skip
        obtain ⟨g9, hf⟩ := gd hf
        obtain ⟨y8, hy8, hf⟩ := bd hf
        have hK : mmKN μ y8.2 := hK.tr (kX5_lastMark_kn hy8)
        obtain ⟨g11, hf⟩ := gd hf
        obtain ⟨y10, hy10, hf⟩ := bd hf
        have hK : mmKN μ y10 := hK.tr (kX5_takeOff_kn hy10)
        rcases it_or hf with ⟨c12, hf⟩ | ⟨c12, hf⟩
        · skip
          obtain ⟨μ14, e14, hf⟩ := stx hf
          have hK : mmKN μ μ14 := by rw [e14]; exact hK.sI
          obtain rfl := Option.some.inj hf
          exact hK
        · skip
          obtain ⟨μ13, e13, hf⟩ := stx hf
          have hK : mmKN μ μ13 := by rw [e13]; exact hK.sI
          obtain rfl := Option.some.inj hf
          exact hK
abbrev rmX2_doLast : Room := { frames := 1, cells := 0, slots := 0, locals := 20 }
set_option maxRecDepth 100000 in
set_option maxHeartbeats 4000000 in
theorem kX2_doLast_c (l : Launch) (G : mmG) (A : Nat → Prop) {μ : MM} {res : Int32 × MM} {h0 : Nat} (hk0 : mK μ h0 = 3) (hf : fX2_doLast h0 μ = some res) : Met l yX2_doLast [.code yX2_doLast cX2_doLast 3 (some (.int))] rmX2_doLast (mmPc G A μ [rf h0]) (mmQ G A res.2 (some (.int res.1))) 0 0 A := by
  refine mm_ofW (by decide +kernel) (by simp [lg_sl, rf_cat, int_cat]) ?_
  intro p e s m below meth c ls S hR hA hS hr hlocks hl hnm
  have hl : lv_has ls 3 [(0, rf h0)] := by simpa [lv_args, rf_cat, int_cat] using hl
  have E0 : mmEnv p m c cX2_doLast 3 s _ RX2 G A meth (some (.int)) := ⟨S, hA, hr, hlocks⟩
  have hK : mmKN μ μ := mmKN.rf
  unfold fX2_doLast at hf
  refine mm_aload_n S dX2_doLast_0 rfl (lv_at hl 0 rfl) ?_
  refine mm_getp S hR fdX2_18 (hK.k hk0) rfl dX2_doLast_1 ?_
  obtain ⟨g2, hf⟩ := gd hf
  obtain ⟨y1, hy1, hf⟩ := bd hf
  refine mm_callVi S hR hS hA (As := []) (rest := []) cvX2_82 (hK.k g2) (kX5_lastSign_c l G A (hK.k g2) hy1) rfl rfl ⟨Nat.le_of_ble_eq_true rfl, Nat.le_of_ble_eq_true rfl⟩ rfl hl.1 rfl (lv_room (by simp [rf_cat, int_cat])) dX2_doLast_4 ⟨Nat.le_refl _, Nat.le_refl _⟩ (fun H locs hR hS => ?_)
  have hK : mmKN μ y1.2 := hK.tr (kX5_lastSign_kn hy1)
  refine lv_istore_n (i := 1) (lv' := [(1, .int y1.1), (0, rf h0)]) S.1 S.2.1 dX2_doLast_7 rfl hl (by decide) (by simp [rf_cat]) (fun ls hl => ?_)
  refine lv_iload_n S.1 S.2.1 dX2_doLast_8 rfl (lv_at hl 0 rfl) ?_
  refine lv_if_eq (tgt := 23) S.1 S.2.1 dX2_doLast_9 (by decide) (fun c3 => ?_) (fun c3 => ?_)
  · have hf := it_t hf c3
    refine mm_aload_n S dX2_doLast_23 rfl (lv_at hl 1 rfl) ?_
    refine lv_dup S.1 S.2.1 dX2_doLast_24 (rf_cat _) ?_
    refine mm_geti S hR fdX2_38 (hK.k hk0) rfl dX2_doLast_25 ?_
    refine lv_iconst (v := 1) S.1 S.2.1 dX2_doLast_28 (by decide) ?_
    refine lv_iadd S.1 S.2.1 dX2_doLast_29 ?_
    refine mm_puti S hR hS fpX2_38 (hK.k hk0) rfl rfl rfl dX2_doLast_30 (fun H locs hR hS => ?_)
    obtain ⟨μ4, e4, hf⟩ := stx hf
    rw [← e4] at hR
    have hK : mmKN μ μ4 := by rw [e4]; exact hK.sI
    refine lv_iconst (v := 0) S.1 S.2.1 dX2_doLast_33 (by decide) ?_
    obtain rfl := Option.some.inj hf
    exact mm_iret S hR hS hr hlocks dX2_doLast_34
  · have hf := it_f hf c3
    refine lv_iload_n S.1 S.2.1 dX2_doLast_12 rfl (lv_at hl 0 rfl) ?_
    refine lv_iconst (v := (-1)) S.1 S.2.1 dX2_doLast_13 (by decide) ?_
    refine lv_icmp_eq (tgt := 23) S.1 S.2.1 dX2_doLast_14 (by decide) (fun c5 => ?_) (fun c5 => ?_)
    · have hf := it_t hf c5
      refine mm_aload_n S dX2_doLast_23 rfl (lv_at hl 1 rfl) ?_
      refine lv_dup S.1 S.2.1 dX2_doLast_24 (rf_cat _) ?_
      refine mm_geti S hR fdX2_38 (hK.k hk0) rfl dX2_doLast_25 ?_
      refine lv_iconst (v := 1) S.1 S.2.1 dX2_doLast_28 (by decide) ?_
      refine lv_iadd S.1 S.2.1 dX2_doLast_29 ?_
      refine mm_puti S hR hS fpX2_38 (hK.k hk0) rfl rfl rfl dX2_doLast_30 (fun H locs hR hS => ?_)
      obtain ⟨μ6, e6, hf⟩ := stx hf
      rw [← e6] at hR
      have hK : mmKN μ μ6 := by rw [e6]; exact hK.sI
      refine lv_iconst (v := 0) S.1 S.2.1 dX2_doLast_33 (by decide) ?_
      obtain rfl := Option.some.inj hf
      exact mm_iret S hR hS hr hlocks dX2_doLast_34
    · have hf := it_f hf c5
      refine lv_iload_n S.1 S.2.1 dX2_doLast_17 rfl (lv_at hl 0 rfl) ?_
      refine lv_bipush (v := (-2)) S.1 S.2.1 dX2_doLast_18 (by decide) ?_
      refine lv_icmp_ne (tgt := 35) S.1 S.2.1 dX2_doLast_20 (by decide) (fun c7 => ?_) (fun c7 => ?_)
      · have hf := it_f hf c7
        refine mm_aload_n S dX2_doLast_35 rfl (lv_at hl 1 rfl) ?_
        refine mm_getp S hR fdX2_18 (hK.k hk0) rfl dX2_doLast_36 ?_
        obtain ⟨g9, hf⟩ := gd hf
        obtain ⟨y8, hy8, hf⟩ := bd hf
        refine mm_callVi S hR hS hA (As := []) (rest := []) cvX2_86 (hK.k g9) (kX5_lastMark_c l G A (hK.k g9) hy8) rfl rfl ⟨Nat.le_of_ble_eq_true rfl, Nat.le_of_ble_eq_true rfl⟩ rfl hl.1 rfl (lv_room (by simp [rf_cat, int_cat])) dX2_doLast_39 ⟨Nat.le_refl _, Nat.le_refl _⟩ (fun H locs hR hS => ?_)
        have hK : mmKN μ y8.2 := hK.tr (kX5_lastMark_kn hy8)
        refine lv_istore_n (i := 2) (lv' := [(2, .int y8.1), (1, .int y1.1), (0, rf h0)]) S.1 S.2.1 dX2_doLast_42 rfl hl (by decide) rfl (fun ls hl => ?_)
        refine mm_aload_n S dX2_doLast_43 rfl (lv_at hl 2 rfl) ?_
        refine mm_getp S hR fdX2_18 (hK.k hk0) rfl dX2_doLast_44 ?_
        obtain ⟨g11, hf⟩ := gd hf
        obtain ⟨y10, hy10, hf⟩ := bd hf
        refine mm_callVv S hR hS hA (As := []) (rest := []) cvX2_89 (hK.k g11) (kX5_takeOff_c l G A (hK.k g11) hy10) rfl rfl ⟨Nat.le_of_ble_eq_true rfl, Nat.le_of_ble_eq_true rfl⟩ rfl hl.1 rfl (lv_room (by simp [rf_cat, int_cat])) dX2_doLast_47 ⟨Nat.le_refl _, Nat.le_refl _⟩ (fun H locs hR hS => ?_)
        have hK : mmKN μ y10 := hK.tr (kX5_takeOff_kn hy10)
        refine lv_iload_n S.1 S.2.1 dX2_doLast_50 rfl (lv_at hl 1 rfl) ?_
        refine lv_bipush (v := (-3)) S.1 S.2.1 dX2_doLast_51 (by decide) ?_
        refine lv_icmp_ne (tgt := 63) S.1 S.2.1 dX2_doLast_53 (by decide) (fun c12 => ?_) (fun c12 => ?_)
        · have hf := it_f hf c12
          refine mm_aload_n S dX2_doLast_63 rfl (lv_at hl 2 rfl) ?_
          refine lv_iload_n S.1 S.2.1 dX2_doLast_64 rfl (lv_at hl 0 rfl) ?_
          refine mm_puti S hR hS fpX2_79 (hK.k hk0) rfl rfl rfl dX2_doLast_65 (fun H locs hR hS => ?_)
          obtain ⟨μ13, e13, hf⟩ := stx hf
          rw [← e13] at hR
          have hK : mmKN μ μ13 := by rw [e13]; exact hK.sI
          refine lv_iload_n S.1 S.2.1 dX2_doLast_68 rfl (lv_at hl 1 rfl) ?_
          obtain rfl := Option.some.inj hf
          exact mm_iret S hR hS hr hlocks dX2_doLast_69
        · have hf := it_t hf c12
          refine mm_aload_n S dX2_doLast_56 rfl (lv_at hl 2 rfl) ?_
          refine lv_iload_n S.1 S.2.1 dX2_doLast_57 rfl (lv_at hl 0 rfl) ?_
          refine mm_puti S hR hS fpX2_38 (hK.k hk0) rfl rfl rfl dX2_doLast_58 (fun H locs hR hS => ?_)
          obtain ⟨μ14, e14, hf⟩ := stx hf
          rw [← e14] at hR
          have hK : mmKN μ μ14 := by rw [e14]; exact hK.sI
          refine lv_iconst (v := 0) S.1 S.2.1 dX2_doLast_61 (by decide) ?_
          obtain rfl := Option.some.inj hf
          exact mm_iret S hR hS hr hlocks dX2_doLast_62
      · have hf := it_t hf c7
        refine mm_aload_n S dX2_doLast_23 rfl (lv_at hl 1 rfl) ?_
        refine lv_dup S.1 S.2.1 dX2_doLast_24 (rf_cat _) ?_
        refine mm_geti S hR fdX2_38 (hK.k hk0) rfl dX2_doLast_25 ?_
        refine lv_iconst (v := 1) S.1 S.2.1 dX2_doLast_28 (by decide) ?_
        refine lv_iadd S.1 S.2.1 dX2_doLast_29 ?_
        refine mm_puti S hR hS fpX2_38 (hK.k hk0) rfl rfl rfl dX2_doLast_30 (fun H locs hR hS => ?_)
        obtain ⟨μ15, e15, hf⟩ := stx hf
        rw [← e15] at hR
        have hK : mmKN μ μ15 := by rw [e15]; exact hK.sI
        refine lv_iconst (v := 0) S.1 S.2.1 dX2_doLast_33 (by decide) ?_
        obtain rfl := Option.some.inj hf
        exact mm_iret S hR hS hr hlocks dX2_doLast_34
-- X2_doPlain
def fX2_doPlain (h0 : Nat) (x1 : Int32) (x2 : Int32) (x3 : Int32) (μ : MM) : Option (Int32 × MM) :=
  if x1 = 0 then (st (sI μ h0 7 (jmax (-9999) (jmin 9999 ((mI μ h0 7) + x2)))) fun μ3 => st (sI μ3 h0 6 ((mI μ h0 6) + 1)) fun μ4 => some (0, μ4)) else (if x1 = 1 then ((fX2_localAt h0 x2 μ).bind fun y6 => st (sI y6.2 h0 7 y6.1) fun μ7 => st (sI μ7 h0 6 ((mI μ h0 6) + 1)) fun μ8 => some (0, μ8)) else (if x1 = 2 then ((fX2_setLocal h0 x2 (mI μ h0 7) μ).bind fun y10 => st (sI y10 h0 6 ((mI μ h0 6) + 1)) fun μ11 => some (0, μ11)) else (if x1 = 4 then ((fX2_localAt h0 x2 μ).bind fun y13 => if y13.1 ≤ 0 then (st (sI y13.2 h0 6 ((mI μ h0 6) + 1)) fun μ15 => some (0, μ15)) else ((fX2_localAt h0 x2 y13.2).bind fun y16 => (fX2_setLocal h0 x2 (y16.1 - 1) y16.2).bind fun y17 => st (sI y17 h0 6 x3) fun μ18 => some (0, μ18))) else (if x1 = 5 then (if 0 < (mI μ h0 7) then (st (sI μ h0 6 ((mI μ h0 6) + 1)) fun μ21 => some (0, μ21)) else (st (sI μ h0 6 x3) fun μ22 => some (0, μ22))) else (if x1 = 6 then (if mK μ (mP μ h0 2) = 6 then (fX5_isFull (mP μ h0 2) μ).bind fun y24 => if y24.1 = 0 then (if x2 = 0 then (if mK μ (mP y24.2 h0 2) = 6 then (fX5_put (mP y24.2 h0 2) (-1) x3 y24.2).bind fun y31 => st (sI y31 h0 6 ((mI μ h0 6) + 1)) fun μ33 => some (0, μ33) else none) else (if mK μ (mP y24.2 h0 2) = 6 then (fX5_put (mP y24.2 h0 2) (-2) x3 y24.2).bind fun y28 => st (sI y28 h0 6 ((mI μ h0 6) + 1)) fun μ30 => some (0, μ30) else none)) else (some (5, y24.2)) else none) else (if x1 = 7 then ((fX2_doDone h0 x3 μ).bind fun y35 => st (sI y35.2 h0 6 y35.1) fun μ36 => some (0, μ36)) else (if x1 = 8 then ((fX2_doLast h0 μ).bind fun y38 => some (y38.1, y38.2)) else (if x1 = 9 then (some (x2, μ)) else (if x1 = 11 then ((fX2_beginReturn h0 μ).bind fun y41 => some (y41.1, y41.2)) else (st (sI μ h0 6 ((mI μ h0 6) + 1)) fun μ1 => some (0, μ1)))))))))))
set_option maxRecDepth 100000 in
set_option maxHeartbeats 4000000 in
theorem kX2_doPlain_kn {μ : MM} {res : Int32 × MM} {h0 : Nat} {x1 : Int32} {x2 : Int32} {x3 : Int32} (hf : fX2_doPlain h0 x1 x2 x3 μ = some res) : mmKN μ res.2 := by
  have hK : mmKN μ μ := mmKN.rf
  unfold fX2_doPlain at hf
  rcases it_or hf with ⟨c2, hf⟩ | ⟨c2, hf⟩
  · skip
    obtain ⟨μ3, e3, hf⟩ := stx hf
    have hK : mmKN μ μ3 := by rw [e3]; exact hK.sI
    obtain ⟨μ4, e4, hf⟩ := stx hf
    have hK : mmKN μ μ4 := by rw [e4]; exact hK.sI
    obtain rfl := Option.some.inj hf
    exact hK
  rcases it_or hf with ⟨c5, hf⟩ | ⟨c5, hf⟩
  · skip
    obtain ⟨y6, hy6, hf⟩ := bd hf
    have hK : mmKN μ y6.2 := hK.tr (kX2_localAt_kn hy6)
    obtain ⟨μ7, e7, hf⟩ := stx hf
    have hK : mmKN μ μ7 := by rw [e7]; exact hK.sI
    obtain ⟨μ8, e8, hf⟩ := stx hf
    have hK : mmKN μ μ8 := by rw [e8]; exact hK.sI
    obtain rfl := Option.some.inj hf
    exact hK
  rcases it_or hf with ⟨c9, hf⟩ | ⟨c9, hf⟩
  · skip
    obtain ⟨y10, hy10, hf⟩ := bd hf
    have hK : mmKN μ y10 := hK.tr (kX2_setLocal_kn hy10)
    obtain ⟨μ11, e11, hf⟩ := stx hf
    have hK : mmKN μ μ11 := by rw [e11]; exact hK.sI
    obtain rfl := Option.some.inj hf
    exact hK
  rcases it_or hf with ⟨c12, hf⟩ | ⟨c12, hf⟩
  · skip
    obtain ⟨y13, hy13, hf⟩ := bd hf
    have hK : mmKN μ y13.2 := hK.tr (kX2_localAt_kn hy13)
    rcases it_or hf with ⟨c14, hf⟩ | ⟨c14, hf⟩
    · skip
      obtain ⟨μ15, e15, hf⟩ := stx hf
      have hK : mmKN μ μ15 := by rw [e15]; exact hK.sI
      obtain rfl := Option.some.inj hf
      exact hK
    · skip
      obtain ⟨y16, hy16, hf⟩ := bd hf
      have hK : mmKN μ y16.2 := hK.tr (kX2_localAt_kn hy16)
      obtain ⟨y17, hy17, hf⟩ := bd hf
      have hK : mmKN μ y17 := hK.tr (kX2_setLocal_kn hy17)
      obtain ⟨μ18, e18, hf⟩ := stx hf
      have hK : mmKN μ μ18 := by rw [e18]; exact hK.sI
      obtain rfl := Option.some.inj hf
      exact hK
  rcases it_or hf with ⟨c19, hf⟩ | ⟨c19, hf⟩
  · skip
    rcases it_or hf with ⟨c20, hf⟩ | ⟨c20, hf⟩
    · skip
      obtain ⟨μ21, e21, hf⟩ := stx hf
      have hK : mmKN μ μ21 := by rw [e21]; exact hK.sI
      obtain rfl := Option.some.inj hf
      exact hK
    · skip
      obtain ⟨μ22, e22, hf⟩ := stx hf
      have hK : mmKN μ μ22 := by rw [e22]; exact hK.sI
      obtain rfl := Option.some.inj hf
      exact hK
  rcases it_or hf with ⟨c23, hf⟩ | ⟨c23, hf⟩
  · skip
    obtain ⟨g25, hf⟩ := gd hf
    obtain ⟨y24, hy24, hf⟩ := bd hf
    have hK : mmKN μ y24.2 := hK.tr (kX5_isFull_kn hy24)
    rcases it_or hf with ⟨c26, hf⟩ | ⟨c26, hf⟩
    · skip
      rcases it_or hf with ⟨c27, hf⟩ | ⟨c27, hf⟩
      · skip
        obtain ⟨g32, hf⟩ := gd hf
        obtain ⟨y31, hy31, hf⟩ := bd hf
        have hK : mmKN μ y31 := hK.tr (kX5_put_kn hy31)
        obtain ⟨μ33, e33, hf⟩ := stx hf
        have hK : mmKN μ μ33 := by rw [e33]; exact hK.sI
        obtain rfl := Option.some.inj hf
        exact hK
      · skip
        obtain ⟨g29, hf⟩ := gd hf
        obtain ⟨y28, hy28, hf⟩ := bd hf
        have hK : mmKN μ y28 := hK.tr (kX5_put_kn hy28)
        obtain ⟨μ30, e30, hf⟩ := stx hf
        have hK : mmKN μ μ30 := by rw [e30]; exact hK.sI
        obtain rfl := Option.some.inj hf
        exact hK
    · skip
      obtain rfl := Option.some.inj hf
      exact hK
  rcases it_or hf with ⟨c34, hf⟩ | ⟨c34, hf⟩
  · skip
    obtain ⟨y35, hy35, hf⟩ := bd hf
    have hK : mmKN μ y35.2 := hK.tr (kX2_doDone_kn hy35)
    obtain ⟨μ36, e36, hf⟩ := stx hf
    have hK : mmKN μ μ36 := by rw [e36]; exact hK.sI
    obtain rfl := Option.some.inj hf
    exact hK
  rcases it_or hf with ⟨c37, hf⟩ | ⟨c37, hf⟩
  · skip
    obtain ⟨y38, hy38, hf⟩ := bd hf
    have hK : mmKN μ y38.2 := hK.tr (kX2_doLast_kn hy38)
    obtain rfl := Option.some.inj hf
    exact hK
  rcases it_or hf with ⟨c39, hf⟩ | ⟨c39, hf⟩
  · skip
    obtain rfl := Option.some.inj hf
    exact hK
  rcases it_or hf with ⟨c40, hf⟩ | ⟨c40, hf⟩
  · skip
    obtain ⟨y41, hy41, hf⟩ := bd hf
    have hK : mmKN μ y41.2 := hK.tr (kX2_beginReturn_kn hy41)
    obtain rfl := Option.some.inj hf
    exact hK
  obtain ⟨μ1, e1, hf⟩ := stx hf
  have hK : mmKN μ μ1 := by rw [e1]; exact hK.sI
  obtain rfl := Option.some.inj hf
  exact hK
abbrev rmX2_doPlain : Room := { frames := 2, cells := 0, slots := 0, locals := 45 }
set_option maxRecDepth 100000 in
set_option maxHeartbeats 4000000 in
theorem kX2_doPlain_c (l : Launch) (G : mmG) (A : Nat → Prop) {μ : MM} {res : Int32 × MM} {h0 : Nat} {x1 : Int32} {x2 : Int32} {x3 : Int32} (hk0 : mK μ h0 = 3) (hf : fX2_doPlain h0 x1 x2 x3 μ = some res) : Met l yX2_doPlain [.code yX2_doPlain cX2_doPlain 5 (some (.int))] rmX2_doPlain (mmPc G A μ [rf h0, .int x1, .int x2, .int x3]) (mmQ G A res.2 (some (.int res.1))) 0 0 A := by
  refine mm_ofW (by decide +kernel) (by simp [lg_sl, rf_cat, int_cat]) ?_
  intro p e s m below meth c ls S hR hA hS hr hlocks hl hnm
  have hl : lv_has ls 5 [(0, rf h0), (1, .int x1), (2, .int x2), (3, .int x3)] := by simpa [lv_args, rf_cat, int_cat] using hl
  have E0 : mmEnv p m c cX2_doPlain 5 s _ RX2 G A meth (some (.int)) := ⟨S, hA, hr, hlocks⟩
  have hK : mmKN μ μ := mmKN.rf
  unfold fX2_doPlain at hf
  refine mm_aload_n S dX2_doPlain_0 rfl (lv_at hl 0 rfl) ?_
  refine mm_geti S hR fdX2_38 (hK.k hk0) rfl dX2_doPlain_1 ?_
  refine lv_iconst (v := 1) S.1 S.2.1 dX2_doPlain_4 (by decide) ?_
  refine lv_iadd S.1 S.2.1 dX2_doPlain_5 ?_
  refine lv_istore (i := 4) (lv' := [(4, .int ((mI μ h0 6) + 1)), (0, rf h0), (1, .int x1), (2, .int x2), (3, .int x3)]) S.1 S.2.1 dX2_doPlain_6 hl (by decide) rfl (fun ls hl => ?_)
  refine lv_iload_n S.1 S.2.1 dX2_doPlain_8 rfl (lv_at hl 2 rfl) ?_
  rcases it_or hf with ⟨c2, hf⟩ | ⟨c2, hf⟩
  · refine mm_swL (tgt := 72) (off := 63) S [0] dX2_doPlain_9 (by simpa using c2) (by decide) (by decide) ?_
    refine mm_aload_n S dX2_doPlain_72 rfl (lv_at hl 1 rfl) ?_
    refine lv_sipush (v := (-9999)) S.1 S.2.1 dX2_doPlain_73 (by decide) ?_
    refine lv_sipush (v := 9999) S.1 S.2.1 dX2_doPlain_76 (by decide) ?_
    refine mm_aload_n S dX2_doPlain_79 rfl (lv_at hl 1 rfl) ?_
    refine mm_geti S hR fdX2_41 (hK.k hk0) rfl dX2_doPlain_80 ?_
    refine lv_iload_n S.1 S.2.1 dX2_doPlain_83 rfl (lv_at hl 3 rfl) ?_
    refine lv_iadd S.1 S.2.1 dX2_doPlain_84 ?_
    refine mm_min S mnX2_107 hl.1 (Nat.le_of_ble_eq_true rfl) (by simp [rf_cat, int_cat]) ⟨Nat.le_refl _, Nat.le_refl _⟩ dX2_doPlain_85 ?_
    refine mm_max S mnX2_113 hl.1 (Nat.le_of_ble_eq_true rfl) (by simp [rf_cat, int_cat]) ⟨Nat.le_refl _, Nat.le_refl _⟩ dX2_doPlain_88 ?_
    refine mm_puti S hR hS fpX2_41 (hK.k hk0) rfl rfl rfl dX2_doPlain_91 (fun H locs hR hS => ?_)
    obtain ⟨μ3, e3, hf⟩ := stx hf
    rw [← e3] at hR
    have hK : mmKN μ μ3 := by rw [e3]; exact hK.sI
    refine lv_goto (tgt := 220) S.1 S.2.1 dX2_doPlain_94 (by decide) ?_
    refine mm_aload_n S dX2_doPlain_220 rfl (lv_at hl 1 rfl) ?_
    refine lv_iload S.1 S.2.1 dX2_doPlain_221 (lv_at hl 0 rfl) ?_
    refine mm_puti S hR hS fpX2_38 (hK.k hk0) rfl rfl rfl dX2_doPlain_223 (fun H locs hR hS => ?_)
    obtain ⟨μ4, e4, hf⟩ := stx hf
    rw [← e4] at hR
    have hK : mmKN μ μ4 := by rw [e4]; exact hK.sI
    refine lv_iconst (v := 0) S.1 S.2.1 dX2_doPlain_226 (by decide) ?_
    obtain rfl := Option.some.inj hf
    exact mm_iret S hR hS hr hlocks dX2_doPlain_227
  rcases it_or hf with ⟨c5, hf⟩ | ⟨c5, hf⟩
  · refine mm_swL (tgt := 97) (off := 88) S [1] dX2_doPlain_9 (by simpa using c5) (by decide) (by decide) ?_
    refine mm_aload_n S dX2_doPlain_97 rfl (lv_at hl 1 rfl) ?_
    refine mm_aload_n S dX2_doPlain_98 rfl (lv_at hl 1 rfl) ?_
    refine lv_iload_n S.1 S.2.1 dX2_doPlain_99 rfl (lv_at hl 3 rfl) ?_
    obtain ⟨y6, hy6, hf⟩ := bd hf
    refine mm_callVi S hR hS hA (As := [.int x2]) (rest := [rf h0]) cvX2_116 (hK.k hk0) (kX2_localAt_c l G A (hK.k hk0) hy6) rfl rfl ⟨Nat.le_of_ble_eq_true rfl, Nat.le_of_ble_eq_true rfl⟩ rfl hl.1 rfl (lv_room (by simp [rf_cat, int_cat])) dX2_doPlain_100 ⟨Nat.le_refl _, Nat.le_refl _⟩ (fun H locs hR hS => ?_)
    have hK : mmKN μ y6.2 := hK.tr (kX2_localAt_kn hy6)
    refine mm_puti S hR hS fpX2_41 (hK.k hk0) rfl rfl rfl dX2_doPlain_103 (fun H locs hR hS => ?_)
    obtain ⟨μ7, e7, hf⟩ := stx hf
    rw [← e7] at hR
    have hK : mmKN μ μ7 := by rw [e7]; exact hK.sI
    refine lv_goto (tgt := 220) S.1 S.2.1 dX2_doPlain_106 (by decide) ?_
    refine mm_aload_n S dX2_doPlain_220 rfl (lv_at hl 1 rfl) ?_
    refine lv_iload S.1 S.2.1 dX2_doPlain_221 (lv_at hl 0 rfl) ?_
    refine mm_puti S hR hS fpX2_38 (hK.k hk0) rfl rfl rfl dX2_doPlain_223 (fun H locs hR hS => ?_)
    obtain ⟨μ8, e8, hf⟩ := stx hf
    rw [← e8] at hR
    have hK : mmKN μ μ8 := by rw [e8]; exact hK.sI
    refine lv_iconst (v := 0) S.1 S.2.1 dX2_doPlain_226 (by decide) ?_
    obtain rfl := Option.some.inj hf
    exact mm_iret S hR hS hr hlocks dX2_doPlain_227
  rcases it_or hf with ⟨c9, hf⟩ | ⟨c9, hf⟩
  · refine mm_swL (tgt := 109) (off := 100) S [2] dX2_doPlain_9 (by simpa using c9) (by decide) (by decide) ?_
    refine mm_aload_n S dX2_doPlain_109 rfl (lv_at hl 1 rfl) ?_
    refine lv_iload_n S.1 S.2.1 dX2_doPlain_110 rfl (lv_at hl 3 rfl) ?_
    refine mm_aload_n S dX2_doPlain_111 rfl (lv_at hl 1 rfl) ?_
    refine mm_geti S hR fdX2_41 (hK.k hk0) rfl dX2_doPlain_112 ?_
    obtain ⟨y10, hy10, hf⟩ := bd hf
    refine mm_callVv S hR hS hA (As := [.int x2, .int (mI μ h0 7)]) (rest := []) cvX2_120 (hK.k hk0) (kX2_setLocal_c l G A (hK.k hk0) hy10) rfl rfl ⟨Nat.le_of_ble_eq_true rfl, Nat.le_of_ble_eq_true rfl⟩ rfl hl.1 rfl (lv_room (by simp [rf_cat, int_cat])) dX2_doPlain_115 ⟨Nat.le_refl _, Nat.le_refl _⟩ (fun H locs hR hS => ?_)
    have hK : mmKN μ y10 := hK.tr (kX2_setLocal_kn hy10)
    refine lv_goto (tgt := 220) S.1 S.2.1 dX2_doPlain_118 (by decide) ?_
    refine mm_aload_n S dX2_doPlain_220 rfl (lv_at hl 1 rfl) ?_
    refine lv_iload S.1 S.2.1 dX2_doPlain_221 (lv_at hl 0 rfl) ?_
    refine mm_puti S hR hS fpX2_38 (hK.k hk0) rfl rfl rfl dX2_doPlain_223 (fun H locs hR hS => ?_)
    obtain ⟨μ11, e11, hf⟩ := stx hf
    rw [← e11] at hR
    have hK : mmKN μ μ11 := by rw [e11]; exact hK.sI
    refine lv_iconst (v := 0) S.1 S.2.1 dX2_doPlain_226 (by decide) ?_
    obtain rfl := Option.some.inj hf
    exact mm_iret S hR hS hr hlocks dX2_doPlain_227
  rcases it_or hf with ⟨c12, hf⟩ | ⟨c12, hf⟩
  · refine mm_swL (tgt := 121) (off := 112) S [4] dX2_doPlain_9 (by simpa using c12) (by decide) (by decide) ?_
    refine mm_aload_n S dX2_doPlain_121 rfl (lv_at hl 1 rfl) ?_
    refine lv_iload_n S.1 S.2.1 dX2_doPlain_122 rfl (lv_at hl 3 rfl) ?_
    obtain ⟨y13, hy13, hf⟩ := bd hf
    refine mm_callVi S hR hS hA (As := [.int x2]) (rest := []) cvX2_116 (hK.k hk0) (kX2_localAt_c l G A (hK.k hk0) hy13) rfl rfl ⟨Nat.le_of_ble_eq_true rfl, Nat.le_of_ble_eq_true rfl⟩ rfl hl.1 rfl (lv_room (by simp [rf_cat, int_cat])) dX2_doPlain_123 ⟨Nat.le_refl _, Nat.le_refl _⟩ (fun H locs hR hS => ?_)
    have hK : mmKN μ y13.2 := hK.tr (kX2_localAt_kn hy13)
    refine lv_if_le (tgt := 220) S.1 S.2.1 dX2_doPlain_126 (by decide) (fun c14 => ?_) (fun c14 => ?_)
    · have hf := it_t hf c14
      refine mm_aload_n S dX2_doPlain_220 rfl (lv_at hl 1 rfl) ?_
      refine lv_iload S.1 S.2.1 dX2_doPlain_221 (lv_at hl 0 rfl) ?_
      refine mm_puti S hR hS fpX2_38 (hK.k hk0) rfl rfl rfl dX2_doPlain_223 (fun H locs hR hS => ?_)
      obtain ⟨μ15, e15, hf⟩ := stx hf
      rw [← e15] at hR
      have hK : mmKN μ μ15 := by rw [e15]; exact hK.sI
      refine lv_iconst (v := 0) S.1 S.2.1 dX2_doPlain_226 (by decide) ?_
      obtain rfl := Option.some.inj hf
      exact mm_iret S hR hS hr hlocks dX2_doPlain_227
    · have hf := it_f hf c14
      refine mm_aload_n S dX2_doPlain_129 rfl (lv_at hl 1 rfl) ?_
      refine lv_iload_n S.1 S.2.1 dX2_doPlain_130 rfl (lv_at hl 3 rfl) ?_
      refine mm_aload_n S dX2_doPlain_131 rfl (lv_at hl 1 rfl) ?_
      refine lv_iload_n S.1 S.2.1 dX2_doPlain_132 rfl (lv_at hl 3 rfl) ?_
      obtain ⟨y16, hy16, hf⟩ := bd hf
      refine mm_callVi S hR hS hA (As := [.int x2]) (rest := [.int x2, rf h0]) cvX2_116 (hK.k hk0) (kX2_localAt_c l G A (hK.k hk0) hy16) rfl rfl ⟨Nat.le_of_ble_eq_true rfl, Nat.le_of_ble_eq_true rfl⟩ rfl hl.1 rfl (lv_room (by simp [rf_cat, int_cat])) dX2_doPlain_133 ⟨Nat.le_refl _, Nat.le_refl _⟩ (fun H locs hR hS => ?_)
      have hK : mmKN μ y16.2 := hK.tr (kX2_localAt_kn hy16)
      refine lv_iconst (v := 1) S.1 S.2.1 dX2_doPlain_136 (by decide) ?_
      refine lv_isub S.1 S.2.1 dX2_doPlain_137 ?_
      obtain ⟨y17, hy17, hf⟩ := bd hf
      refine mm_callVv S hR hS hA (As := [.int x2, .int (y16.1 - 1)]) (rest := []) cvX2_120 (hK.k hk0) (kX2_setLocal_c l G A (hK.k hk0) hy17) rfl rfl ⟨Nat.le_of_ble_eq_true rfl, Nat.le_of_ble_eq_true rfl⟩ rfl hl.1 rfl (lv_room (by simp [rf_cat, int_cat])) dX2_doPlain_138 ⟨Nat.le_refl _, Nat.le_refl _⟩ (fun H locs hR hS => ?_)
      have hK : mmKN μ y17 := hK.tr (kX2_setLocal_kn hy17)
      refine lv_iload_n S.1 S.2.1 dX2_doPlain_141 rfl (lv_at hl 4 rfl) ?_
      refine lv_istore (i := 4) (lv' := [(4, .int x3), (0, rf h0), (1, .int x1), (2, .int x2), (3, .int x3)]) S.1 S.2.1 dX2_doPlain_142 hl (by decide) rfl (fun ls hl => ?_)
      refine lv_goto (tgt := 220) S.1 S.2.1 dX2_doPlain_144 (by decide) ?_
      refine mm_aload_n S dX2_doPlain_220 rfl (lv_at hl 1 rfl) ?_
      refine lv_iload S.1 S.2.1 dX2_doPlain_221 (lv_at hl 0 rfl) ?_
      refine mm_puti S hR hS fpX2_38 (hK.k hk0) rfl rfl rfl dX2_doPlain_223 (fun H locs hR hS => ?_)
      obtain ⟨μ18, e18, hf⟩ := stx hf
      rw [← e18] at hR
      have hK : mmKN μ μ18 := by rw [e18]; exact hK.sI
      refine lv_iconst (v := 0) S.1 S.2.1 dX2_doPlain_226 (by decide) ?_
      obtain rfl := Option.some.inj hf
      exact mm_iret S hR hS hr hlocks dX2_doPlain_227
  rcases it_or hf with ⟨c19, hf⟩ | ⟨c19, hf⟩
  · refine mm_swL (tgt := 147) (off := 138) S [5] dX2_doPlain_9 (by simpa using c19) (by decide) (by decide) ?_
    refine mm_aload_n S dX2_doPlain_147 rfl (lv_at hl 1 rfl) ?_
    refine mm_geti S hR fdX2_41 (hK.k hk0) rfl dX2_doPlain_148 ?_
    refine lv_if_gt (tgt := 158) S.1 S.2.1 dX2_doPlain_151 (by decide) (fun c20 => ?_) (fun c20 => ?_)
    · have hf := it_t hf c20
      refine lv_iload S.1 S.2.1 dX2_doPlain_158 (lv_at hl 0 rfl) ?_
      refine lv_istore (i := 4) (lv' := [(4, .int ((mI μ h0 6) + 1)), (0, rf h0), (1, .int x1), (2, .int x2), (3, .int x3)]) S.1 S.2.1 dX2_doPlain_160 hl (by decide) rfl (fun ls hl => ?_)
      refine lv_goto (tgt := 220) S.1 S.2.1 dX2_doPlain_162 (by decide) ?_
      refine mm_aload_n S dX2_doPlain_220 rfl (lv_at hl 1 rfl) ?_
      refine lv_iload S.1 S.2.1 dX2_doPlain_221 (lv_at hl 0 rfl) ?_
      refine mm_puti S hR hS fpX2_38 (hK.k hk0) rfl rfl rfl dX2_doPlain_223 (fun H locs hR hS => ?_)
      obtain ⟨μ21, e21, hf⟩ := stx hf
      rw [← e21] at hR
      have hK : mmKN μ μ21 := by rw [e21]; exact hK.sI
      refine lv_iconst (v := 0) S.1 S.2.1 dX2_doPlain_226 (by decide) ?_
      obtain rfl := Option.some.inj hf
      exact mm_iret S hR hS hr hlocks dX2_doPlain_227
    · have hf := it_f hf c20
      refine lv_iload_n S.1 S.2.1 dX2_doPlain_154 rfl (lv_at hl 4 rfl) ?_
      refine lv_goto (tgt := 160) S.1 S.2.1 dX2_doPlain_155 (by decide) ?_
      refine lv_istore (i := 4) (lv' := [(4, .int x3), (0, rf h0), (1, .int x1), (2, .int x2), (3, .int x3)]) S.1 S.2.1 dX2_doPlain_160 hl (by decide) rfl (fun ls hl => ?_)
      refine lv_goto (tgt := 220) S.1 S.2.1 dX2_doPlain_162 (by decide) ?_
      refine mm_aload_n S dX2_doPlain_220 rfl (lv_at hl 1 rfl) ?_
      refine lv_iload S.1 S.2.1 dX2_doPlain_221 (lv_at hl 0 rfl) ?_
      refine mm_puti S hR hS fpX2_38 (hK.k hk0) rfl rfl rfl dX2_doPlain_223 (fun H locs hR hS => ?_)
      obtain ⟨μ22, e22, hf⟩ := stx hf
      rw [← e22] at hR
      have hK : mmKN μ μ22 := by rw [e22]; exact hK.sI
      refine lv_iconst (v := 0) S.1 S.2.1 dX2_doPlain_226 (by decide) ?_
      obtain rfl := Option.some.inj hf
      exact mm_iret S hR hS hr hlocks dX2_doPlain_227
  rcases it_or hf with ⟨c23, hf⟩ | ⟨c23, hf⟩
  · refine mm_swL (tgt := 165) (off := 156) S [6] dX2_doPlain_9 (by simpa using c23) (by decide) (by decide) ?_
    refine mm_aload_n S dX2_doPlain_165 rfl (lv_at hl 1 rfl) ?_
    refine mm_getp S hR fdX2_18 (hK.k hk0) rfl dX2_doPlain_166 ?_
    obtain ⟨g25, hf⟩ := gd hf
    obtain ⟨y24, hy24, hf⟩ := bd hf
    refine mm_callVi S hR hS hA (As := []) (rest := []) cvX2_123 (hK.k g25) (kX5_isFull_c l G A (hK.k g25) hy24) rfl rfl ⟨Nat.le_of_ble_eq_true rfl, Nat.le_of_ble_eq_true rfl⟩ rfl hl.1 rfl (lv_room (by simp [rf_cat, int_cat])) dX2_doPlain_169 ⟨Nat.le_refl _, Nat.le_refl _⟩ (fun H locs hR hS => ?_)
    have hK : mmKN μ y24.2 := hK.tr (kX5_isFull_kn hy24)
    refine lv_if_eq (tgt := 177) S.1 S.2.1 dX2_doPlain_172 (by decide) (fun c26 => ?_) (fun c26 => ?_)
    · have hf := it_t hf c26
      refine mm_aload_n S dX2_doPlain_177 rfl (lv_at hl 1 rfl) ?_
      refine mm_getp S hR fdX2_18 (hK.k hk0) rfl dX2_doPlain_178 ?_
      refine lv_iload_n S.1 S.2.1 dX2_doPlain_181 rfl (lv_at hl 3 rfl) ?_
      refine lv_if_ne (tgt := 189) S.1 S.2.1 dX2_doPlain_182 (by decide) (fun c27 => ?_) (fun c27 => ?_)
      · have hf := it_f hf c27
        refine lv_bipush (v := (-2)) S.1 S.2.1 dX2_doPlain_189 (by decide) ?_
        refine lv_iload_n S.1 S.2.1 dX2_doPlain_191 rfl (lv_at hl 4 rfl) ?_
        obtain ⟨g29, hf⟩ := gd hf
        obtain ⟨y28, hy28, hf⟩ := bd hf
        refine mm_callVv S hR hS hA (As := [.int (-2), .int x3]) (rest := []) cvX2_92 (hK.k g29) (kX5_put_c l G A (hK.k g29) hy28) rfl rfl ⟨Nat.le_of_ble_eq_true rfl, Nat.le_of_ble_eq_true rfl⟩ rfl hl.1 rfl (lv_room (by simp [rf_cat, int_cat])) dX2_doPlain_192 ⟨Nat.le_refl _, Nat.le_refl _⟩ (fun H locs hR hS => ?_)
        have hK : mmKN μ y28 := hK.tr (kX5_put_kn hy28)
        refine lv_goto (tgt := 220) S.1 S.2.1 dX2_doPlain_195 (by decide) ?_
        refine mm_aload_n S dX2_doPlain_220 rfl (lv_at hl 1 rfl) ?_
        refine lv_iload S.1 S.2.1 dX2_doPlain_221 (lv_at hl 0 rfl) ?_
        refine mm_puti S hR hS fpX2_38 (hK.k hk0) rfl rfl rfl dX2_doPlain_223 (fun H locs hR hS => ?_)
        obtain ⟨μ30, e30, hf⟩ := stx hf
        rw [← e30] at hR
        have hK : mmKN μ μ30 := by rw [e30]; exact hK.sI
        refine lv_iconst (v := 0) S.1 S.2.1 dX2_doPlain_226 (by decide) ?_
        obtain rfl := Option.some.inj hf
        exact mm_iret S hR hS hr hlocks dX2_doPlain_227
      · have hf := it_t hf c27
        refine lv_iconst (v := (-1)) S.1 S.2.1 dX2_doPlain_185 (by decide) ?_
        refine lv_goto (tgt := 191) S.1 S.2.1 dX2_doPlain_186 (by decide) ?_
        refine lv_iload_n S.1 S.2.1 dX2_doPlain_191 rfl (lv_at hl 4 rfl) ?_
        obtain ⟨g32, hf⟩ := gd hf
        obtain ⟨y31, hy31, hf⟩ := bd hf
        refine mm_callVv S hR hS hA (As := [.int (-1), .int x3]) (rest := []) cvX2_92 (hK.k g32) (kX5_put_c l G A (hK.k g32) hy31) rfl rfl ⟨Nat.le_of_ble_eq_true rfl, Nat.le_of_ble_eq_true rfl⟩ rfl hl.1 rfl (lv_room (by simp [rf_cat, int_cat])) dX2_doPlain_192 ⟨Nat.le_refl _, Nat.le_refl _⟩ (fun H locs hR hS => ?_)
        have hK : mmKN μ y31 := hK.tr (kX5_put_kn hy31)
        refine lv_goto (tgt := 220) S.1 S.2.1 dX2_doPlain_195 (by decide) ?_
        refine mm_aload_n S dX2_doPlain_220 rfl (lv_at hl 1 rfl) ?_
        refine lv_iload S.1 S.2.1 dX2_doPlain_221 (lv_at hl 0 rfl) ?_
        refine mm_puti S hR hS fpX2_38 (hK.k hk0) rfl rfl rfl dX2_doPlain_223 (fun H locs hR hS => ?_)
        obtain ⟨μ33, e33, hf⟩ := stx hf
        rw [← e33] at hR
        have hK : mmKN μ μ33 := by rw [e33]; exact hK.sI
        refine lv_iconst (v := 0) S.1 S.2.1 dX2_doPlain_226 (by decide) ?_
        obtain rfl := Option.some.inj hf
        exact mm_iret S hR hS hr hlocks dX2_doPlain_227
    · have hf := it_f hf c26
      refine lv_iconst (v := 5) S.1 S.2.1 dX2_doPlain_175 (by decide) ?_
      obtain rfl := Option.some.inj hf
      exact mm_iret S hR hS hr hlocks dX2_doPlain_176
  rcases it_or hf with ⟨c34, hf⟩ | ⟨c34, hf⟩
  · refine mm_swL (tgt := 198) (off := 189) S [7] dX2_doPlain_9 (by simpa using c34) (by decide) (by decide) ?_
    refine mm_aload_n S dX2_doPlain_198 rfl (lv_at hl 1 rfl) ?_
    refine lv_iload_n S.1 S.2.1 dX2_doPlain_199 rfl (lv_at hl 4 rfl) ?_
    obtain ⟨y35, hy35, hf⟩ := bd hf
    refine mm_callVi S hR hS hA (As := [.int x3]) (rest := []) cvX2_127 (hK.k hk0) (kX2_doDone_c l G A (hK.k hk0) hy35) rfl rfl ⟨Nat.le_of_ble_eq_true rfl, Nat.le_of_ble_eq_true rfl⟩ rfl hl.1 rfl (lv_room (by simp [rf_cat, int_cat])) dX2_doPlain_200 ⟨Nat.le_refl _, Nat.le_refl _⟩ (fun H locs hR hS => ?_)
    have hK : mmKN μ y35.2 := hK.tr (kX2_doDone_kn hy35)
    refine lv_istore (i := 4) (lv' := [(4, .int y35.1), (0, rf h0), (1, .int x1), (2, .int x2), (3, .int x3)]) S.1 S.2.1 dX2_doPlain_203 hl (by decide) rfl (fun ls hl => ?_)
    refine lv_goto (tgt := 220) S.1 S.2.1 dX2_doPlain_205 (by decide) ?_
    refine mm_aload_n S dX2_doPlain_220 rfl (lv_at hl 1 rfl) ?_
    refine lv_iload S.1 S.2.1 dX2_doPlain_221 (lv_at hl 0 rfl) ?_
    refine mm_puti S hR hS fpX2_38 (hK.k hk0) rfl rfl rfl dX2_doPlain_223 (fun H locs hR hS => ?_)
    obtain ⟨μ36, e36, hf⟩ := stx hf
    rw [← e36] at hR
    have hK : mmKN μ μ36 := by rw [e36]; exact hK.sI
    refine lv_iconst (v := 0) S.1 S.2.1 dX2_doPlain_226 (by decide) ?_
    obtain rfl := Option.some.inj hf
    exact mm_iret S hR hS hr hlocks dX2_doPlain_227
  rcases it_or hf with ⟨c37, hf⟩ | ⟨c37, hf⟩
  · refine mm_swL (tgt := 208) (off := 199) S [8] dX2_doPlain_9 (by simpa using c37) (by decide) (by decide) ?_
    refine mm_aload_n S dX2_doPlain_208 rfl (lv_at hl 1 rfl) ?_
    obtain ⟨y38, hy38, hf⟩ := bd hf
    refine mm_callVi S hR hS hA (As := []) (rest := []) cvX2_130 (hK.k hk0) (kX2_doLast_c l G A (hK.k hk0) hy38) rfl rfl ⟨Nat.le_of_ble_eq_true rfl, Nat.le_of_ble_eq_true rfl⟩ rfl hl.1 rfl (lv_room (by simp [rf_cat, int_cat])) dX2_doPlain_209 ⟨Nat.le_refl _, Nat.le_refl _⟩ (fun H locs hR hS => ?_)
    have hK : mmKN μ y38.2 := hK.tr (kX2_doLast_kn hy38)
    obtain rfl := Option.some.inj hf
    exact mm_iret S hR hS hr hlocks dX2_doPlain_212
  rcases it_or hf with ⟨c39, hf⟩ | ⟨c39, hf⟩
  · refine mm_swL (tgt := 213) (off := 204) S [9] dX2_doPlain_9 (by simpa using c39) (by decide) (by decide) ?_
    refine lv_iload_n S.1 S.2.1 dX2_doPlain_213 rfl (lv_at hl 3 rfl) ?_
    obtain rfl := Option.some.inj hf
    exact mm_iret S hR hS hr hlocks dX2_doPlain_214
  rcases it_or hf with ⟨c40, hf⟩ | ⟨c40, hf⟩
  · refine mm_swL (tgt := 215) (off := 206) S [11] dX2_doPlain_9 (by simpa using c40) (by decide) (by decide) ?_
    refine mm_aload_n S dX2_doPlain_215 rfl (lv_at hl 1 rfl) ?_
    obtain ⟨y41, hy41, hf⟩ := bd hf
    refine mm_callVi S hR hS hA (As := []) (rest := []) cvX2_133 (hK.k hk0) (kX2_beginReturn_c l G A (hK.k hk0) hy41) rfl rfl ⟨Nat.le_of_ble_eq_true rfl, Nat.le_of_ble_eq_true rfl⟩ rfl hl.1 rfl (lv_room (by simp [rf_cat, int_cat])) dX2_doPlain_216 ⟨Nat.le_refl _, Nat.le_refl _⟩ (fun H locs hR hS => ?_)
    have hK : mmKN μ y41.2 := hK.tr (kX2_beginReturn_kn hy41)
    obtain rfl := Option.some.inj hf
    exact mm_iret S hR hS hr hlocks dX2_doPlain_219
  refine mm_swD (tgt := 220) S [0, 1, 2, 4, 5, 6, 7, 8, 9, 11] dX2_doPlain_9 (by simp only [List.forall_mem_cons, List.not_mem_nil, false_imp_iff, implies_true, and_true]; (try simp only [not_or] at c2 c5 c9 c12 c19 c23 c34 c37 c39 c40); simp only [c2, c5, c9, c12, c19, c23, c34, c37, c39, c40, not_false_eq_true, and_self, and_true, true_and]) (by decide) (by decide) ?_
  refine mm_aload_n S dX2_doPlain_220 rfl (lv_at hl 1 rfl) ?_
  refine lv_iload S.1 S.2.1 dX2_doPlain_221 (lv_at hl 0 rfl) ?_
  refine mm_puti S hR hS fpX2_38 (hK.k hk0) rfl rfl rfl dX2_doPlain_223 (fun H locs hR hS => ?_)
  obtain ⟨μ1, e1, hf⟩ := stx hf
  rw [← e1] at hR
  have hK : mmKN μ μ1 := by rw [e1]; exact hK.sI
  refine lv_iconst (v := 0) S.1 S.2.1 dX2_doPlain_226 (by decide) ?_
  obtain rfl := Option.some.inj hf
  exact mm_iret S hR hS hr hlocks dX2_doPlain_227
end
section
-- X3_at
def fX3_at (h0 : Nat) (x1 : Int32) (μ : MM) : Option (Nat × MM) :=
  if x1 < 0 then (some ((mP μ h0 2), μ)) else (if (24 : Int32) ≤ x1 then (some ((mP μ h0 2), μ)) else (if mK μ (mP μ h0 1) = 22 then if ¬ (x1 < 0 ∨ mN μ (mP μ h0 1) ≤ x1.toNatClampNeg) then some ((mP μ (mP μ h0 1) x1.toNatClampNeg), μ) else none else none))
set_option maxRecDepth 100000 in
set_option maxHeartbeats 4000000 in
theorem kX3_at_kn {μ : MM} {res : Nat × MM} {h0 : Nat} {x1 : Int32} (hf : fX3_at h0 x1 μ = some res) : mmKN μ res.2 := by
  have hK : mmKN μ μ := mmKN.rf
  unfold fX3_at at hf
  rcases it_or hf with ⟨c1, hf⟩ | ⟨c1, hf⟩
  · skip
    obtain rfl := Option.some.inj hf
    exact hK
  · skip
    rcases it_or hf with ⟨c2, hf⟩ | ⟨c2, hf⟩
    · skip
      obtain rfl := Option.some.inj hf
      exact hK
    · skip
      obtain ⟨g3, hf⟩ := gd hf
      obtain ⟨g4, hf⟩ := gd hf
      obtain rfl := Option.some.inj hf
      exact hK
abbrev rmX3_at : Room := { frames := 0, cells := 0, slots := 0, locals := 0 }
set_option maxRecDepth 100000 in
set_option maxHeartbeats 4000000 in
theorem kX3_at_c (l : Launch) (G : mmG) (A : Nat → Prop) {μ : MM} {res : Nat × MM} {h0 : Nat} {x1 : Int32} (hk0 : mK μ h0 = 4) (hf : fX3_at h0 x1 μ = some res) : Met l yX3_at [.code yX3_at cX3_at 2 (some (.object "YieldMoor$Coroutine"))] rmX3_at (mmPc G A μ [rf h0, .int x1]) (mmQ G A res.2 (some (rf res.1))) 0 0 A := by
  refine mm_ofW (by decide +kernel) (by simp [lg_sl, rf_cat, int_cat]) ?_
  intro p e s m below meth c ls S hR hA hS hr hlocks hl hnm
  have hl : lv_has ls 2 [(0, rf h0), (1, .int x1)] := by simpa [lv_args, rf_cat, int_cat] using hl
  have E0 : mmEnv p m c cX3_at 2 s _ RX3 G A meth (some (.object "YieldMoor$Coroutine")) := ⟨S, hA, hr, hlocks⟩
  have hK : mmKN μ μ := mmKN.rf
  unfold fX3_at at hf
  refine lv_iload_n S.1 S.2.1 dX3_at_0 rfl (lv_at hl 1 rfl) ?_
  refine lv_if_lt (tgt := 19) S.1 S.2.1 dX3_at_1 (by decide) (fun c1 => ?_) (fun c1 => ?_)
  · have hf := it_t hf c1
    refine mm_aload_n S dX3_at_19 rfl (lv_at hl 0 rfl) ?_
    refine mm_getp S hR fdX3_20 (hK.k hk0) rfl dX3_at_20 ?_
    obtain rfl := Option.some.inj hf
    exact mm_aret S hR hS hr hlocks dX3_at_23
  · have hf := it_f hf c1
    refine lv_iload_n S.1 S.2.1 dX3_at_4 rfl (lv_at hl 1 rfl) ?_
    refine lv_bipush (v := 24) S.1 S.2.1 dX3_at_5 (by decide) ?_
    refine lv_icmp_ge (tgt := 19) S.1 S.2.1 dX3_at_7 (by decide) (fun c2 => ?_) (fun c2 => ?_)
    · have hf := it_t hf c2
      refine mm_aload_n S dX3_at_19 rfl (lv_at hl 0 rfl) ?_
      refine mm_getp S hR fdX3_20 (hK.k hk0) rfl dX3_at_20 ?_
      obtain rfl := Option.some.inj hf
      exact mm_aret S hR hS hr hlocks dX3_at_23
    · have hf := it_f hf c2
      refine mm_aload_n S dX3_at_10 rfl (lv_at hl 0 rfl) ?_
      refine mm_getp S hR fdX3_11 (hK.k hk0) rfl dX3_at_11 ?_
      refine lv_iload_n S.1 S.2.1 dX3_at_14 rfl (lv_at hl 1 rfl) ?_
      obtain ⟨g3, hf⟩ := gd hf
      obtain ⟨g4, hf⟩ := gd hf
      refine mm_aald22 S hR (hK.k g3) g4 dX3_at_15 ?_
      refine lv_goto (tgt := 23) S.1 S.2.1 dX3_at_16 (by decide) ?_
      obtain rfl := Option.some.inj hf
      exact mm_aret S hR hS hr hlocks dX3_at_23
-- X3_isMade
def fX3_isMade (h0 : Nat) (x1 : Int32) (μ : MM) : Option (Int32 × MM) :=
  if x1 < 0 then (some (0, μ)) else (if (mI μ h0 5) ≤ x1 then (some (0, μ)) else (some (1, μ)))
set_option maxRecDepth 100000 in
set_option maxHeartbeats 4000000 in
theorem kX3_isMade_kn {μ : MM} {res : Int32 × MM} {h0 : Nat} {x1 : Int32} (hf : fX3_isMade h0 x1 μ = some res) : mmKN μ res.2 := by
  have hK : mmKN μ μ := mmKN.rf
  unfold fX3_isMade at hf
  rcases it_or hf with ⟨c1, hf⟩ | ⟨c1, hf⟩
  · skip
    obtain rfl := Option.some.inj hf
    exact hK
  · skip
    rcases it_or hf with ⟨c2, hf⟩ | ⟨c2, hf⟩
    · skip
      obtain rfl := Option.some.inj hf
      exact hK
    · skip
      obtain rfl := Option.some.inj hf
      exact hK
abbrev rmX3_isMade : Room := { frames := 0, cells := 0, slots := 0, locals := 0 }
set_option maxRecDepth 100000 in
set_option maxHeartbeats 4000000 in
theorem kX3_isMade_c (l : Launch) (G : mmG) (A : Nat → Prop) {μ : MM} {res : Int32 × MM} {h0 : Nat} {x1 : Int32} (hk0 : mK μ h0 = 4) (hf : fX3_isMade h0 x1 μ = some res) : Met l yX3_isMade [.code yX3_isMade cX3_isMade 2 (some (.boolean))] rmX3_isMade (mmPc G A μ [rf h0, .int x1]) (mmQ G A res.2 (some (.int res.1))) 0 0 A := by
  refine mm_ofW (by decide +kernel) (by simp [lg_sl, rf_cat, int_cat]) ?_
  intro p e s m below meth c ls S hR hA hS hr hlocks hl hnm
  have hl : lv_has ls 2 [(0, rf h0), (1, .int x1)] := by simpa [lv_args, rf_cat, int_cat] using hl
  have E0 : mmEnv p m c cX3_isMade 2 s _ RX3 G A meth (some (.boolean)) := ⟨S, hA, hr, hlocks⟩
  have hK : mmKN μ μ := mmKN.rf
  unfold fX3_isMade at hf
  refine lv_iload_n S.1 S.2.1 dX3_isMade_0 rfl (lv_at hl 1 rfl) ?_
  refine lv_if_lt (tgt := 16) S.1 S.2.1 dX3_isMade_1 (by decide) (fun c1 => ?_) (fun c1 => ?_)
  · have hf := it_t hf c1
    refine lv_iconst (v := 0) S.1 S.2.1 dX3_isMade_16 (by decide) ?_
    obtain rfl := Option.some.inj hf
    exact mm_zret S hR hS hr hlocks (Or.inl rfl) dX3_isMade_17
  · have hf := it_f hf c1
    refine lv_iload_n S.1 S.2.1 dX3_isMade_4 rfl (lv_at hl 1 rfl) ?_
    refine mm_aload_n S dX3_isMade_5 rfl (lv_at hl 0 rfl) ?_
    refine mm_geti S hR fdX3_41 (hK.k hk0) rfl dX3_isMade_6 ?_
    refine lv_icmp_ge (tgt := 16) S.1 S.2.1 dX3_isMade_9 (by decide) (fun c2 => ?_) (fun c2 => ?_)
    · have hf := it_t hf c2
      refine lv_iconst (v := 0) S.1 S.2.1 dX3_isMade_16 (by decide) ?_
      obtain rfl := Option.some.inj hf
      exact mm_zret S hR hS hr hlocks (Or.inl rfl) dX3_isMade_17
    · have hf := it_f hf c2
      refine lv_iconst (v := 1) S.1 S.2.1 dX3_isMade_12 (by decide) ?_
      refine lv_goto (tgt := 17) S.1 S.2.1 dX3_isMade_13 (by decide) ?_
      obtain rfl := Option.some.inj hf
      exact mm_zret S hR hS hr hlocks (Or.inr rfl) dX3_isMade_17
-- X3_has
def fX3_has (h0 : Nat) (x1 : Int32) (x2 : Int32) (μ : MM) : Option (Int32 × MM) :=
  if x1 < 0 then (some (0, μ)) else (if (mI μ h0 5) ≤ x1 then (some (0, μ)) else ((fX3_at h0 x1 μ).bind fun y3 => if mK μ y3.1 = 3 then if (mI y3.2 y3.1 4) = x2 then (some (1, y3.2)) else (some (0, y3.2)) else none))
set_option maxRecDepth 100000 in
set_option maxHeartbeats 4000000 in
theorem kX3_has_kn {μ : MM} {res : Int32 × MM} {h0 : Nat} {x1 : Int32} {x2 : Int32} (hf : fX3_has h0 x1 x2 μ = some res) : mmKN μ res.2 := by
  have hK : mmKN μ μ := mmKN.rf
  unfold fX3_has at hf
  rcases it_or hf with ⟨c1, hf⟩ | ⟨c1, hf⟩
  · skip
    obtain rfl := Option.some.inj hf
    exact hK
  · skip
    rcases it_or hf with ⟨c2, hf⟩ | ⟨c2, hf⟩
    · skip
      obtain rfl := Option.some.inj hf
      exact hK
    · skip
      obtain ⟨y3, hy3, hf⟩ := bd hf
      have hK : mmKN μ y3.2 := hK.tr (kX3_at_kn hy3)
      obtain ⟨g4, hf⟩ := gd hf
      rcases it_or hf with ⟨c5, hf⟩ | ⟨c5, hf⟩
      · skip
        obtain rfl := Option.some.inj hf
        exact hK
      · skip
        obtain rfl := Option.some.inj hf
        exact hK
abbrev rmX3_has : Room := { frames := 1, cells := 0, slots := 0, locals := 21 }
set_option maxRecDepth 100000 in
set_option maxHeartbeats 4000000 in
theorem kX3_has_c (l : Launch) (G : mmG) (A : Nat → Prop) {μ : MM} {res : Int32 × MM} {h0 : Nat} {x1 : Int32} {x2 : Int32} (hk0 : mK μ h0 = 4) (hf : fX3_has h0 x1 x2 μ = some res) : Met l yX3_has [.code yX3_has cX3_has 3 (some (.boolean))] rmX3_has (mmPc G A μ [rf h0, .int x1, .int x2]) (mmQ G A res.2 (some (.int res.1))) 0 0 A := by
  refine mm_ofW (by decide +kernel) (by simp [lg_sl, rf_cat, int_cat]) ?_
  intro p e s m below meth c ls S hR hA hS hr hlocks hl hnm
  have hl : lv_has ls 3 [(0, rf h0), (1, .int x1), (2, .int x2)] := by simpa [lv_args, rf_cat, int_cat] using hl
  have E0 : mmEnv p m c cX3_has 3 s _ RX3 G A meth (some (.boolean)) := ⟨S, hA, hr, hlocks⟩
  have hK : mmKN μ μ := mmKN.rf
  unfold fX3_has at hf
  refine lv_iload_n S.1 S.2.1 dX3_has_0 rfl (lv_at hl 1 rfl) ?_
  refine lv_if_lt (tgt := 28) S.1 S.2.1 dX3_has_1 (by decide) (fun c1 => ?_) (fun c1 => ?_)
  · have hf := it_t hf c1
    refine lv_iconst (v := 0) S.1 S.2.1 dX3_has_28 (by decide) ?_
    obtain rfl := Option.some.inj hf
    exact mm_zret S hR hS hr hlocks (Or.inl rfl) dX3_has_29
  · have hf := it_f hf c1
    refine lv_iload_n S.1 S.2.1 dX3_has_4 rfl (lv_at hl 1 rfl) ?_
    refine mm_aload_n S dX3_has_5 rfl (lv_at hl 0 rfl) ?_
    refine mm_geti S hR fdX3_41 (hK.k hk0) rfl dX3_has_6 ?_
    refine lv_icmp_ge (tgt := 28) S.1 S.2.1 dX3_has_9 (by decide) (fun c2 => ?_) (fun c2 => ?_)
    · have hf := it_t hf c2
      refine lv_iconst (v := 0) S.1 S.2.1 dX3_has_28 (by decide) ?_
      obtain rfl := Option.some.inj hf
      exact mm_zret S hR hS hr hlocks (Or.inl rfl) dX3_has_29
    · have hf := it_f hf c2
      refine mm_aload_n S dX3_has_12 rfl (lv_at hl 0 rfl) ?_
      refine lv_iload_n S.1 S.2.1 dX3_has_13 rfl (lv_at hl 1 rfl) ?_
      obtain ⟨y3, hy3, hf⟩ := bd hf
      refine mm_callVh S hR hS hA (As := [.int x1]) (rest := []) cvX3_55 (hK.k hk0) (kX3_at_c l G A (hK.k hk0) hy3) rfl rfl ⟨Nat.le_of_ble_eq_true rfl, Nat.le_of_ble_eq_true rfl⟩ rfl hl.1 rfl (lv_room (by simp [rf_cat, int_cat])) dX3_has_14 ⟨Nat.le_refl _, Nat.le_refl _⟩ (fun H locs hR hS => ?_)
      have hK : mmKN μ y3.2 := hK.tr (kX3_at_kn hy3)
      obtain ⟨g4, hf⟩ := gd hf
      refine mm_geti S hR fdX3_62 (hK.k g4) rfl dX3_has_17 ?_
      refine lv_iload_n S.1 S.2.1 dX3_has_20 rfl (lv_at hl 2 rfl) ?_
      refine lv_icmp_ne (tgt := 28) S.1 S.2.1 dX3_has_21 (by decide) (fun c5 => ?_) (fun c5 => ?_)
      · have hf := it_f hf c5
        refine lv_iconst (v := 0) S.1 S.2.1 dX3_has_28 (by decide) ?_
        obtain rfl := Option.some.inj hf
        exact mm_zret S hR hS hr hlocks (Or.inl rfl) dX3_has_29
      · have hf := it_t hf c5
        refine lv_iconst (v := 1) S.1 S.2.1 dX3_has_24 (by decide) ?_
        refine lv_goto (tgt := 29) S.1 S.2.1 dX3_has_25 (by decide) ?_
        obtain rfl := Option.some.inj hf
        exact mm_zret S hR hS hr hlocks (Or.inr rfl) dX3_has_29
-- X3_isFull
def fX3_isFull (h0 : Nat) (μ : MM) : Option (Int32 × MM) :=
  if (mI μ h0 5) < (24 : Int32) then (some (0, μ)) else (some (1, μ))
set_option maxRecDepth 100000 in
set_option maxHeartbeats 4000000 in
theorem kX3_isFull_kn {μ : MM} {res : Int32 × MM} {h0 : Nat} (hf : fX3_isFull h0 μ = some res) : mmKN μ res.2 := by
  have hK : mmKN μ μ := mmKN.rf
  unfold fX3_isFull at hf
  rcases it_or hf with ⟨c1, hf⟩ | ⟨c1, hf⟩
  · skip
    obtain rfl := Option.some.inj hf
    exact hK
  · skip
    obtain rfl := Option.some.inj hf
    exact hK
abbrev rmX3_isFull : Room := { frames := 0, cells := 0, slots := 0, locals := 0 }
set_option maxRecDepth 100000 in
set_option maxHeartbeats 4000000 in
theorem kX3_isFull_c (l : Launch) (G : mmG) (A : Nat → Prop) {μ : MM} {res : Int32 × MM} {h0 : Nat} (hk0 : mK μ h0 = 4) (hf : fX3_isFull h0 μ = some res) : Met l yX3_isFull [.code yX3_isFull cX3_isFull 1 (some (.boolean))] rmX3_isFull (mmPc G A μ [rf h0]) (mmQ G A res.2 (some (.int res.1))) 0 0 A := by
  refine mm_ofW (by decide +kernel) (by simp [lg_sl, rf_cat, int_cat]) ?_
  intro p e s m below meth c ls S hR hA hS hr hlocks hl hnm
  have hl : lv_has ls 1 [(0, rf h0)] := by simpa [lv_args, rf_cat, int_cat] using hl
  have E0 : mmEnv p m c cX3_isFull 1 s _ RX3 G A meth (some (.boolean)) := ⟨S, hA, hr, hlocks⟩
  have hK : mmKN μ μ := mmKN.rf
  unfold fX3_isFull at hf
  refine mm_aload_n S dX3_isFull_0 rfl (lv_at hl 0 rfl) ?_
  refine mm_geti S hR fdX3_41 (hK.k hk0) rfl dX3_isFull_1 ?_
  refine lv_bipush (v := 24) S.1 S.2.1 dX3_isFull_4 (by decide) ?_
  refine lv_icmp_lt (tgt := 13) S.1 S.2.1 dX3_isFull_6 (by decide) (fun c1 => ?_) (fun c1 => ?_)
  · have hf := it_t hf c1
    refine lv_iconst (v := 0) S.1 S.2.1 dX3_isFull_13 (by decide) ?_
    obtain rfl := Option.some.inj hf
    exact mm_zret S hR hS hr hlocks (Or.inl rfl) dX3_isFull_14
  · have hf := it_f hf c1
    refine lv_iconst (v := 1) S.1 S.2.1 dX3_isFull_9 (by decide) ?_
    refine lv_goto (tgt := 14) S.1 S.2.1 dX3_isFull_10 (by decide) ?_
    obtain rfl := Option.some.inj hf
    exact mm_zret S hR hS hr hlocks (Or.inr rfl) dX3_isFull_14
-- X3_howManyMadeOf
def bX3_howManyMadeOf_4 (kk4 : Nat → Int32 → Int32 → Int32 → MM → Option (Int32 × MM)) (h0 : Nat) (x1 : Int32) (x2 : Int32) (x3 : Int32) (μ : MM) : Option (Int32 × MM) :=
  if mK μ h0 = 4 then if (mI μ h0 5) ≤ x3 then (some (x2, μ)) else ((fX3_at h0 x3 μ).bind fun y3 => if mK μ y3.1 = 3 then if (mI y3.2 y3.1 3) = x1 then (kk4 h0 x1 (x2 + 1) (x3 + 1) y3.2) else (kk4 h0 x1 (x2 + 0) (x3 + 1) y3.2) else none) else none
def lX3_howManyMadeOf_4  : Nat → Nat → Int32 → Int32 → Int32 → MM → Option (Int32 × MM)
  | 0, _, _, _, _, _ => none
  | n + 1, h0, x1, x2, x3, μ => bX3_howManyMadeOf_4  (fun h0 x1 x2 x3 μ => lX3_howManyMadeOf_4  n h0 x1 x2 x3 μ) h0 x1 x2 x3 μ
def fX3_howManyMadeOf (h0 : Nat) (x1 : Int32) (μ : MM) : Option (Int32 × MM) :=
  lX3_howManyMadeOf_4  FU h0 x1 0 0 μ
set_option maxRecDepth 100000 in
set_option maxHeartbeats 4000000 in
theorem knbX3_howManyMadeOf_4 (kk4 : Nat → Int32 → Int32 → Int32 → MM → Option (Int32 × MM)) (hkk4 : ∀ (h0 : Nat) (x1 : Int32) (x2 : Int32) (x3 : Int32) (μ : MM) (res : Int32 × MM), kk4 h0 x1 x2 x3 μ = some res → mmKN μ res.2) : ∀ (h0 : Nat) (x1 : Int32) (x2 : Int32) (x3 : Int32) (μ : MM) (res : Int32 × MM), bX3_howManyMadeOf_4 kk4 h0 x1 x2 x3 μ = some res → mmKN μ res.2 := by
  intro h0 x1 x2 x3 μ res hf
  have hK : mmKN μ μ := mmKN.rf
  unfold bX3_howManyMadeOf_4 at hf
  obtain ⟨g1, hf⟩ := gd hf
  rcases it_or hf with ⟨c2, hf⟩ | ⟨c2, hf⟩
  · skip
    obtain rfl := Option.some.inj hf
    exact hK
  · skip
    obtain ⟨y3, hy3, hf⟩ := bd hf
    have hK : mmKN μ y3.2 := hK.tr (kX3_at_kn hy3)
    obtain ⟨g4, hf⟩ := gd hf
    rcases it_or hf with ⟨c5, hf⟩ | ⟨c5, hf⟩
    · skip
      exact hK.tr (hkk4 h0 x1 (x2 + 1) (x3 + 1) y3.2 _ hf)
    · skip
      exact hK.tr (hkk4 h0 x1 (x2 + 0) (x3 + 1) y3.2 _ hf)
theorem knlX3_howManyMadeOf_4  : ∀ (n : Nat) (h0 : Nat) (x1 : Int32) (x2 : Int32) (x3 : Int32) (μ : MM) (res : Int32 × MM), lX3_howManyMadeOf_4  n h0 x1 x2 x3 μ = some res → mmKN μ res.2 := by
  intro n
  induction n with
  | zero => intro h0 x1 x2 x3 μ res hf; cases hf
  | succ n ih => intro h0 x1 x2 x3 μ res hf; exact knbX3_howManyMadeOf_4  _ ih h0 x1 x2 x3 μ res hf
set_option maxRecDepth 100000 in
set_option maxHeartbeats 4000000 in
theorem kX3_howManyMadeOf_kn {μ : MM} {res : Int32 × MM} {h0 : Nat} {x1 : Int32} (hf : fX3_howManyMadeOf h0 x1 μ = some res) : mmKN μ res.2 := by
  have hK : mmKN μ μ := mmKN.rf
  unfold fX3_howManyMadeOf at hf
  exact hK.tr (knlX3_howManyMadeOf_4  FU h0 x1 0 0 μ _ hf)
abbrev rmX3_howManyMadeOf : Room := { frames := 1, cells := 0, slots := 0, locals := 21 }
set_option maxRecDepth 100000 in
set_option maxHeartbeats 4000000 in
theorem wbX3_howManyMadeOf_4 {p : Program} {l : Launch} {e : Env} {s : State} {m : MethodId} {args : Array Value} {below : List Frame} {meth : Method} {c : Code} {G : mmG} {A : Nat → Prop} {res : Int32 × MM} (E0 : mmEnv p m c cX3_howManyMadeOf 4 s args RX3 G A meth (some (.int))) (kk4 : Nat → Int32 → Int32 → Int32 → MM → Option (Int32 × MM)) (hkk4 : ∀ (h0 : Nat) (x1 : Int32) (x2 : Int32) (x3 : Int32) (μ : MM), kk4 h0 x1 x2 x3 μ = some res → mmGoal p l e rmX3_howManyMadeOf s m args below meth c G A 4 4 [(0, rf h0), (1, .int x1), (2, .int x2), (3, .int x3)] μ (mmQ G A res.2 (some (.int res.1)))) : ∀ (h0 : Nat) (x1 : Int32) (x2 : Int32) (x3 : Int32) (μ : MM), bX3_howManyMadeOf_4 kk4 h0 x1 x2 x3 μ = some res → mmGoal p l e rmX3_howManyMadeOf s m args below meth c G A 4 4 [(0, rf h0), (1, .int x1), (2, .int x2), (3, .int x3)] μ (mmQ G A res.2 (some (.int res.1))) := by
  obtain ⟨S, hA, hr, hlocks⟩ := id E0
  intro h0 x1 x2 x3 μ hf H locs ls hR hS hl
  have hK : mmKN μ μ := mmKN.rf
  unfold bX3_howManyMadeOf_4 at hf
  refine lv_iload_n S.1 S.2.1 dX3_howManyMadeOf_4 rfl (lv_at hl 3 rfl) ?_
  refine mm_aload_n S dX3_howManyMadeOf_5 rfl (lv_at hl 0 rfl) ?_
  obtain ⟨g1, hf⟩ := gd hf
  refine mm_geti S hR fdX3_41 (hK.k g1) rfl dX3_howManyMadeOf_6 ?_
  refine lv_icmp_ge (tgt := 38) S.1 S.2.1 dX3_howManyMadeOf_9 (by decide) (fun c2 => ?_) (fun c2 => ?_)
  · have hf := it_t hf c2
    refine lv_iload_n S.1 S.2.1 dX3_howManyMadeOf_38 rfl (lv_at hl 2 rfl) ?_
    obtain rfl := Option.some.inj hf
    exact mm_iret S hR hS hr hlocks dX3_howManyMadeOf_39
  · have hf := it_f hf c2
    refine lv_iload_n S.1 S.2.1 dX3_howManyMadeOf_12 rfl (lv_at hl 2 rfl) ?_
    refine mm_aload_n S dX3_howManyMadeOf_13 rfl (lv_at hl 0 rfl) ?_
    refine lv_iload_n S.1 S.2.1 dX3_howManyMadeOf_14 rfl (lv_at hl 3 rfl) ?_
    obtain ⟨y3, hy3, hf⟩ := bd hf
    refine mm_callVh S hR hS hA (As := [.int x3]) (rest := [.int x2]) cvX3_55 (hK.k g1) (kX3_at_c l G A (hK.k g1) hy3) rfl rfl ⟨Nat.le_of_ble_eq_true rfl, Nat.le_of_ble_eq_true rfl⟩ rfl hl.1 rfl (lv_room (by simp [rf_cat, int_cat])) dX3_howManyMadeOf_15 ⟨Nat.le_refl _, Nat.le_refl _⟩ (fun H locs hR hS => ?_)
    have hK : mmKN μ y3.2 := hK.tr (kX3_at_kn hy3)
    obtain ⟨g4, hf⟩ := gd hf
    refine mm_geti S hR fdX3_65 (hK.k g4) rfl dX3_howManyMadeOf_18 ?_
    refine lv_iload_n S.1 S.2.1 dX3_howManyMadeOf_21 rfl (lv_at hl 1 rfl) ?_
    refine lv_icmp_ne (tgt := 29) S.1 S.2.1 dX3_howManyMadeOf_22 (by decide) (fun c5 => ?_) (fun c5 => ?_)
    · have hf := it_f hf c5
      refine lv_iconst (v := 0) S.1 S.2.1 dX3_howManyMadeOf_29 (by decide) ?_
      refine lv_iadd S.1 S.2.1 dX3_howManyMadeOf_30 ?_
      refine lv_istore_n (i := 2) (lv' := [(2, .int (x2 + 0)), (0, rf h0), (1, .int x1), (3, .int x3)]) S.1 S.2.1 dX3_howManyMadeOf_31 rfl hl (by decide) rfl (fun ls hl => ?_)
      refine lv_iinc (v := (x3 + 1)) (lv' := [(3, .int (x3 + 1)), (2, .int (x2 + 0)), (0, rf h0), (1, .int x1)]) S.1 S.2.1 dX3_howManyMadeOf_32 hl (k := 3) rfl (by rfl) (by decide) rfl (fun ls hl => ?_)
      refine lv_goto (tgt := 4) S.1 S.2.1 dX3_howManyMadeOf_35 (by decide) ?_
      exact hkk4 h0 x1 (x2 + 0) (x3 + 1) y3.2 hf _ _ _ hR hS (lv_sub hl [2, 3, 1, 0] rfl)
    · have hf := it_t hf c5
      refine lv_iconst (v := 1) S.1 S.2.1 dX3_howManyMadeOf_25 (by decide) ?_
      refine lv_goto (tgt := 30) S.1 S.2.1 dX3_howManyMadeOf_26 (by decide) ?_
      refine lv_iadd S.1 S.2.1 dX3_howManyMadeOf_30 ?_
      refine lv_istore_n (i := 2) (lv' := [(2, .int (x2 + 1)), (0, rf h0), (1, .int x1), (3, .int x3)]) S.1 S.2.1 dX3_howManyMadeOf_31 rfl hl (by decide) rfl (fun ls hl => ?_)
      refine lv_iinc (v := (x3 + 1)) (lv' := [(3, .int (x3 + 1)), (2, .int (x2 + 1)), (0, rf h0), (1, .int x1)]) S.1 S.2.1 dX3_howManyMadeOf_32 hl (k := 3) rfl (by rfl) (by decide) rfl (fun ls hl => ?_)
      refine lv_goto (tgt := 4) S.1 S.2.1 dX3_howManyMadeOf_35 (by decide) ?_
      exact hkk4 h0 x1 (x2 + 1) (x3 + 1) y3.2 hf _ _ _ hR hS (lv_sub hl [2, 3, 1, 0] rfl)
theorem wlX3_howManyMadeOf_4 {p : Program} {l : Launch} {e : Env} {s : State} {m : MethodId} {args : Array Value} {below : List Frame} {meth : Method} {c : Code} {G : mmG} {A : Nat → Prop} {res : Int32 × MM} (E0 : mmEnv p m c cX3_howManyMadeOf 4 s args RX3 G A meth (some (.int)))  : ∀ (n : Nat) (h0 : Nat) (x1 : Int32) (x2 : Int32) (x3 : Int32) (μ : MM), lX3_howManyMadeOf_4  n h0 x1 x2 x3 μ = some res → mmGoal p l e rmX3_howManyMadeOf s m args below meth c G A 4 4 [(0, rf h0), (1, .int x1), (2, .int x2), (3, .int x3)] μ (mmQ G A res.2 (some (.int res.1))) := by
  intro n
  induction n with
  | zero => intro h0 x1 x2 x3 μ hf; cases hf
  | succ n ih => intro h0 x1 x2 x3 μ hf; exact wbX3_howManyMadeOf_4 E0  _ ih h0 x1 x2 x3 μ hf
set_option maxRecDepth 100000 in
set_option maxHeartbeats 4000000 in
theorem kX3_howManyMadeOf_c (l : Launch) (G : mmG) (A : Nat → Prop) {μ : MM} {res : Int32 × MM} {h0 : Nat} {x1 : Int32} (hk0 : mK μ h0 = 4) (hf : fX3_howManyMadeOf h0 x1 μ = some res) : Met l yX3_howManyMadeOf [.code yX3_howManyMadeOf cX3_howManyMadeOf 4 (some (.int))] rmX3_howManyMadeOf (mmPc G A μ [rf h0, .int x1]) (mmQ G A res.2 (some (.int res.1))) 0 0 A := by
  refine mm_ofW (by decide +kernel) (by simp [lg_sl, rf_cat, int_cat]) ?_
  intro p e s m below meth c ls S hR hA hS hr hlocks hl hnm
  have hl : lv_has ls 4 [(0, rf h0), (1, .int x1)] := by simpa [lv_args, rf_cat, int_cat] using hl
  have E0 : mmEnv p m c cX3_howManyMadeOf 4 s _ RX3 G A meth (some (.int)) := ⟨S, hA, hr, hlocks⟩
  have hK : mmKN μ μ := mmKN.rf
  unfold fX3_howManyMadeOf at hf
  refine lv_iconst (v := 0) S.1 S.2.1 dX3_howManyMadeOf_0 (by decide) ?_
  refine lv_istore_n (i := 2) (lv' := [(2, .int 0), (0, rf h0), (1, .int x1)]) S.1 S.2.1 dX3_howManyMadeOf_1 rfl hl (by decide) rfl (fun ls hl => ?_)
  refine lv_iconst (v := 0) S.1 S.2.1 dX3_howManyMadeOf_2 (by decide) ?_
  refine lv_istore_n (i := 3) (lv' := [(3, .int 0), (2, .int 0), (0, rf h0), (1, .int x1)]) S.1 S.2.1 dX3_howManyMadeOf_3 rfl hl (by decide) rfl (fun ls hl => ?_)
  exact wlX3_howManyMadeOf_4 E0  FU h0 x1 0 0 μ hf _ _ _ hR hS (lv_sub hl [2, 3, 1, 0] rfl)
-- X3_howManyOfSort
def bX3_howManyOfSort_4 (kk4 : Nat → Int32 → Int32 → Int32 → MM → Option (Int32 × MM)) (h0 : Nat) (x1 : Int32) (x2 : Int32) (x3 : Int32) (μ : MM) : Option (Int32 × MM) :=
  if mK μ h0 = 4 then if (mI μ h0 5) ≤ x3 then (some (x2, μ)) else ((fX3_at h0 x3 μ).bind fun y3 => if mK μ y3.1 = 3 then if (mI y3.2 y3.1 4) = x1 then (kk4 h0 x1 (x2 + 1) (x3 + 1) y3.2) else (kk4 h0 x1 (x2 + 0) (x3 + 1) y3.2) else none) else none
def lX3_howManyOfSort_4  : Nat → Nat → Int32 → Int32 → Int32 → MM → Option (Int32 × MM)
  | 0, _, _, _, _, _ => none
  | n + 1, h0, x1, x2, x3, μ => bX3_howManyOfSort_4  (fun h0 x1 x2 x3 μ => lX3_howManyOfSort_4  n h0 x1 x2 x3 μ) h0 x1 x2 x3 μ
def fX3_howManyOfSort (h0 : Nat) (x1 : Int32) (μ : MM) : Option (Int32 × MM) :=
  lX3_howManyOfSort_4  FU h0 x1 0 0 μ
set_option maxRecDepth 100000 in
set_option maxHeartbeats 4000000 in
theorem knbX3_howManyOfSort_4 (kk4 : Nat → Int32 → Int32 → Int32 → MM → Option (Int32 × MM)) (hkk4 : ∀ (h0 : Nat) (x1 : Int32) (x2 : Int32) (x3 : Int32) (μ : MM) (res : Int32 × MM), kk4 h0 x1 x2 x3 μ = some res → mmKN μ res.2) : ∀ (h0 : Nat) (x1 : Int32) (x2 : Int32) (x3 : Int32) (μ : MM) (res : Int32 × MM), bX3_howManyOfSort_4 kk4 h0 x1 x2 x3 μ = some res → mmKN μ res.2 := by
  intro h0 x1 x2 x3 μ res hf
  have hK : mmKN μ μ := mmKN.rf
  unfold bX3_howManyOfSort_4 at hf
  obtain ⟨g1, hf⟩ := gd hf
  rcases it_or hf with ⟨c2, hf⟩ | ⟨c2, hf⟩
  · skip
    obtain rfl := Option.some.inj hf
    exact hK
  · skip
    obtain ⟨y3, hy3, hf⟩ := bd hf
    have hK : mmKN μ y3.2 := hK.tr (kX3_at_kn hy3)
    obtain ⟨g4, hf⟩ := gd hf
    rcases it_or hf with ⟨c5, hf⟩ | ⟨c5, hf⟩
    · skip
      exact hK.tr (hkk4 h0 x1 (x2 + 1) (x3 + 1) y3.2 _ hf)
    · skip
      exact hK.tr (hkk4 h0 x1 (x2 + 0) (x3 + 1) y3.2 _ hf)
theorem knlX3_howManyOfSort_4  : ∀ (n : Nat) (h0 : Nat) (x1 : Int32) (x2 : Int32) (x3 : Int32) (μ : MM) (res : Int32 × MM), lX3_howManyOfSort_4  n h0 x1 x2 x3 μ = some res → mmKN μ res.2 := by
  intro n
  induction n with
  | zero => intro h0 x1 x2 x3 μ res hf; cases hf
  | succ n ih => intro h0 x1 x2 x3 μ res hf; exact knbX3_howManyOfSort_4  _ ih h0 x1 x2 x3 μ res hf
set_option maxRecDepth 100000 in
set_option maxHeartbeats 4000000 in
theorem kX3_howManyOfSort_kn {μ : MM} {res : Int32 × MM} {h0 : Nat} {x1 : Int32} (hf : fX3_howManyOfSort h0 x1 μ = some res) : mmKN μ res.2 := by
  have hK : mmKN μ μ := mmKN.rf
  unfold fX3_howManyOfSort at hf
  exact hK.tr (knlX3_howManyOfSort_4  FU h0 x1 0 0 μ _ hf)
abbrev rmX3_howManyOfSort : Room := { frames := 1, cells := 0, slots := 0, locals := 21 }
set_option maxRecDepth 100000 in
set_option maxHeartbeats 4000000 in
theorem wbX3_howManyOfSort_4 {p : Program} {l : Launch} {e : Env} {s : State} {m : MethodId} {args : Array Value} {below : List Frame} {meth : Method} {c : Code} {G : mmG} {A : Nat → Prop} {res : Int32 × MM} (E0 : mmEnv p m c cX3_howManyOfSort 4 s args RX3 G A meth (some (.int))) (kk4 : Nat → Int32 → Int32 → Int32 → MM → Option (Int32 × MM)) (hkk4 : ∀ (h0 : Nat) (x1 : Int32) (x2 : Int32) (x3 : Int32) (μ : MM), kk4 h0 x1 x2 x3 μ = some res → mmGoal p l e rmX3_howManyOfSort s m args below meth c G A 4 4 [(0, rf h0), (1, .int x1), (2, .int x2), (3, .int x3)] μ (mmQ G A res.2 (some (.int res.1)))) : ∀ (h0 : Nat) (x1 : Int32) (x2 : Int32) (x3 : Int32) (μ : MM), bX3_howManyOfSort_4 kk4 h0 x1 x2 x3 μ = some res → mmGoal p l e rmX3_howManyOfSort s m args below meth c G A 4 4 [(0, rf h0), (1, .int x1), (2, .int x2), (3, .int x3)] μ (mmQ G A res.2 (some (.int res.1))) := by
  obtain ⟨S, hA, hr, hlocks⟩ := id E0
  intro h0 x1 x2 x3 μ hf H locs ls hR hS hl
  have hK : mmKN μ μ := mmKN.rf
  unfold bX3_howManyOfSort_4 at hf
  refine lv_iload_n S.1 S.2.1 dX3_howManyOfSort_4 rfl (lv_at hl 3 rfl) ?_
  refine mm_aload_n S dX3_howManyOfSort_5 rfl (lv_at hl 0 rfl) ?_
  obtain ⟨g1, hf⟩ := gd hf
  refine mm_geti S hR fdX3_41 (hK.k g1) rfl dX3_howManyOfSort_6 ?_
  refine lv_icmp_ge (tgt := 38) S.1 S.2.1 dX3_howManyOfSort_9 (by decide) (fun c2 => ?_) (fun c2 => ?_)
  · have hf := it_t hf c2
    refine lv_iload_n S.1 S.2.1 dX3_howManyOfSort_38 rfl (lv_at hl 2 rfl) ?_
    obtain rfl := Option.some.inj hf
    exact mm_iret S hR hS hr hlocks dX3_howManyOfSort_39
  · have hf := it_f hf c2
    refine lv_iload_n S.1 S.2.1 dX3_howManyOfSort_12 rfl (lv_at hl 2 rfl) ?_
    refine mm_aload_n S dX3_howManyOfSort_13 rfl (lv_at hl 0 rfl) ?_
    refine lv_iload_n S.1 S.2.1 dX3_howManyOfSort_14 rfl (lv_at hl 3 rfl) ?_
    obtain ⟨y3, hy3, hf⟩ := bd hf
    refine mm_callVh S hR hS hA (As := [.int x3]) (rest := [.int x2]) cvX3_55 (hK.k g1) (kX3_at_c l G A (hK.k g1) hy3) rfl rfl ⟨Nat.le_of_ble_eq_true rfl, Nat.le_of_ble_eq_true rfl⟩ rfl hl.1 rfl (lv_room (by simp [rf_cat, int_cat])) dX3_howManyOfSort_15 ⟨Nat.le_refl _, Nat.le_refl _⟩ (fun H locs hR hS => ?_)
    have hK : mmKN μ y3.2 := hK.tr (kX3_at_kn hy3)
    obtain ⟨g4, hf⟩ := gd hf
    refine mm_geti S hR fdX3_62 (hK.k g4) rfl dX3_howManyOfSort_18 ?_
    refine lv_iload_n S.1 S.2.1 dX3_howManyOfSort_21 rfl (lv_at hl 1 rfl) ?_
    refine lv_icmp_ne (tgt := 29) S.1 S.2.1 dX3_howManyOfSort_22 (by decide) (fun c5 => ?_) (fun c5 => ?_)
    · have hf := it_f hf c5
      refine lv_iconst (v := 0) S.1 S.2.1 dX3_howManyOfSort_29 (by decide) ?_
      refine lv_iadd S.1 S.2.1 dX3_howManyOfSort_30 ?_
      refine lv_istore_n (i := 2) (lv' := [(2, .int (x2 + 0)), (0, rf h0), (1, .int x1), (3, .int x3)]) S.1 S.2.1 dX3_howManyOfSort_31 rfl hl (by decide) rfl (fun ls hl => ?_)
      refine lv_iinc (v := (x3 + 1)) (lv' := [(3, .int (x3 + 1)), (2, .int (x2 + 0)), (0, rf h0), (1, .int x1)]) S.1 S.2.1 dX3_howManyOfSort_32 hl (k := 3) rfl (by rfl) (by decide) rfl (fun ls hl => ?_)
      refine lv_goto (tgt := 4) S.1 S.2.1 dX3_howManyOfSort_35 (by decide) ?_
      exact hkk4 h0 x1 (x2 + 0) (x3 + 1) y3.2 hf _ _ _ hR hS (lv_sub hl [2, 3, 1, 0] rfl)
    · have hf := it_t hf c5
      refine lv_iconst (v := 1) S.1 S.2.1 dX3_howManyOfSort_25 (by decide) ?_
      refine lv_goto (tgt := 30) S.1 S.2.1 dX3_howManyOfSort_26 (by decide) ?_
      refine lv_iadd S.1 S.2.1 dX3_howManyOfSort_30 ?_
      refine lv_istore_n (i := 2) (lv' := [(2, .int (x2 + 1)), (0, rf h0), (1, .int x1), (3, .int x3)]) S.1 S.2.1 dX3_howManyOfSort_31 rfl hl (by decide) rfl (fun ls hl => ?_)
      refine lv_iinc (v := (x3 + 1)) (lv' := [(3, .int (x3 + 1)), (2, .int (x2 + 1)), (0, rf h0), (1, .int x1)]) S.1 S.2.1 dX3_howManyOfSort_32 hl (k := 3) rfl (by rfl) (by decide) rfl (fun ls hl => ?_)
      refine lv_goto (tgt := 4) S.1 S.2.1 dX3_howManyOfSort_35 (by decide) ?_
      exact hkk4 h0 x1 (x2 + 1) (x3 + 1) y3.2 hf _ _ _ hR hS (lv_sub hl [2, 3, 1, 0] rfl)
theorem wlX3_howManyOfSort_4 {p : Program} {l : Launch} {e : Env} {s : State} {m : MethodId} {args : Array Value} {below : List Frame} {meth : Method} {c : Code} {G : mmG} {A : Nat → Prop} {res : Int32 × MM} (E0 : mmEnv p m c cX3_howManyOfSort 4 s args RX3 G A meth (some (.int)))  : ∀ (n : Nat) (h0 : Nat) (x1 : Int32) (x2 : Int32) (x3 : Int32) (μ : MM), lX3_howManyOfSort_4  n h0 x1 x2 x3 μ = some res → mmGoal p l e rmX3_howManyOfSort s m args below meth c G A 4 4 [(0, rf h0), (1, .int x1), (2, .int x2), (3, .int x3)] μ (mmQ G A res.2 (some (.int res.1))) := by
  intro n
  induction n with
  | zero => intro h0 x1 x2 x3 μ hf; cases hf
  | succ n ih => intro h0 x1 x2 x3 μ hf; exact wbX3_howManyOfSort_4 E0  _ ih h0 x1 x2 x3 μ hf
set_option maxRecDepth 100000 in
set_option maxHeartbeats 4000000 in
theorem kX3_howManyOfSort_c (l : Launch) (G : mmG) (A : Nat → Prop) {μ : MM} {res : Int32 × MM} {h0 : Nat} {x1 : Int32} (hk0 : mK μ h0 = 4) (hf : fX3_howManyOfSort h0 x1 μ = some res) : Met l yX3_howManyOfSort [.code yX3_howManyOfSort cX3_howManyOfSort 4 (some (.int))] rmX3_howManyOfSort (mmPc G A μ [rf h0, .int x1]) (mmQ G A res.2 (some (.int res.1))) 0 0 A := by
  refine mm_ofW (by decide +kernel) (by simp [lg_sl, rf_cat, int_cat]) ?_
  intro p e s m below meth c ls S hR hA hS hr hlocks hl hnm
  have hl : lv_has ls 4 [(0, rf h0), (1, .int x1)] := by simpa [lv_args, rf_cat, int_cat] using hl
  have E0 : mmEnv p m c cX3_howManyOfSort 4 s _ RX3 G A meth (some (.int)) := ⟨S, hA, hr, hlocks⟩
  have hK : mmKN μ μ := mmKN.rf
  unfold fX3_howManyOfSort at hf
  refine lv_iconst (v := 0) S.1 S.2.1 dX3_howManyOfSort_0 (by decide) ?_
  refine lv_istore_n (i := 2) (lv' := [(2, .int 0), (0, rf h0), (1, .int x1)]) S.1 S.2.1 dX3_howManyOfSort_1 rfl hl (by decide) rfl (fun ls hl => ?_)
  refine lv_iconst (v := 0) S.1 S.2.1 dX3_howManyOfSort_2 (by decide) ?_
  refine lv_istore_n (i := 3) (lv' := [(3, .int 0), (2, .int 0), (0, rf h0), (1, .int x1)]) S.1 S.2.1 dX3_howManyOfSort_3 rfl hl (by decide) rfl (fun ls hl => ?_)
  exact wlX3_howManyOfSort_4 E0  FU h0 x1 0 0 μ hf _ _ _ hR hS (lv_sub hl [2, 3, 1, 0] rfl)
-- X3_howManyInState
def bX3_howManyInState_4 (kk4 : Nat → Int32 → Int32 → Int32 → MM → Option (Int32 × MM)) (h0 : Nat) (x1 : Int32) (x2 : Int32) (x3 : Int32) (μ : MM) : Option (Int32 × MM) :=
  if mK μ h0 = 4 then if (mI μ h0 5) ≤ x3 then (some (x2, μ)) else ((fX3_at h0 x3 μ).bind fun y3 => if mK μ y3.1 = 3 then if (mI y3.2 y3.1 5) = x1 then (kk4 h0 x1 (x2 + 1) (x3 + 1) y3.2) else (kk4 h0 x1 (x2 + 0) (x3 + 1) y3.2) else none) else none
def lX3_howManyInState_4  : Nat → Nat → Int32 → Int32 → Int32 → MM → Option (Int32 × MM)
  | 0, _, _, _, _, _ => none
  | n + 1, h0, x1, x2, x3, μ => bX3_howManyInState_4  (fun h0 x1 x2 x3 μ => lX3_howManyInState_4  n h0 x1 x2 x3 μ) h0 x1 x2 x3 μ
def fX3_howManyInState (h0 : Nat) (x1 : Int32) (μ : MM) : Option (Int32 × MM) :=
  lX3_howManyInState_4  FU h0 x1 0 0 μ
set_option maxRecDepth 100000 in
set_option maxHeartbeats 4000000 in
theorem knbX3_howManyInState_4 (kk4 : Nat → Int32 → Int32 → Int32 → MM → Option (Int32 × MM)) (hkk4 : ∀ (h0 : Nat) (x1 : Int32) (x2 : Int32) (x3 : Int32) (μ : MM) (res : Int32 × MM), kk4 h0 x1 x2 x3 μ = some res → mmKN μ res.2) : ∀ (h0 : Nat) (x1 : Int32) (x2 : Int32) (x3 : Int32) (μ : MM) (res : Int32 × MM), bX3_howManyInState_4 kk4 h0 x1 x2 x3 μ = some res → mmKN μ res.2 := by
  intro h0 x1 x2 x3 μ res hf
  have hK : mmKN μ μ := mmKN.rf
  unfold bX3_howManyInState_4 at hf
  obtain ⟨g1, hf⟩ := gd hf
  rcases it_or hf with ⟨c2, hf⟩ | ⟨c2, hf⟩
  · skip
    obtain rfl := Option.some.inj hf
    exact hK
  · skip
    obtain ⟨y3, hy3, hf⟩ := bd hf
    have hK : mmKN μ y3.2 := hK.tr (kX3_at_kn hy3)
    obtain ⟨g4, hf⟩ := gd hf
    rcases it_or hf with ⟨c5, hf⟩ | ⟨c5, hf⟩
    · skip
      exact hK.tr (hkk4 h0 x1 (x2 + 1) (x3 + 1) y3.2 _ hf)
    · skip
      exact hK.tr (hkk4 h0 x1 (x2 + 0) (x3 + 1) y3.2 _ hf)
theorem knlX3_howManyInState_4  : ∀ (n : Nat) (h0 : Nat) (x1 : Int32) (x2 : Int32) (x3 : Int32) (μ : MM) (res : Int32 × MM), lX3_howManyInState_4  n h0 x1 x2 x3 μ = some res → mmKN μ res.2 := by
  intro n
  induction n with
  | zero => intro h0 x1 x2 x3 μ res hf; cases hf
  | succ n ih => intro h0 x1 x2 x3 μ res hf; exact knbX3_howManyInState_4  _ ih h0 x1 x2 x3 μ res hf
set_option maxRecDepth 100000 in
set_option maxHeartbeats 4000000 in
theorem kX3_howManyInState_kn {μ : MM} {res : Int32 × MM} {h0 : Nat} {x1 : Int32} (hf : fX3_howManyInState h0 x1 μ = some res) : mmKN μ res.2 := by
  have hK : mmKN μ μ := mmKN.rf
  unfold fX3_howManyInState at hf
  exact hK.tr (knlX3_howManyInState_4  FU h0 x1 0 0 μ _ hf)
abbrev rmX3_howManyInState : Room := { frames := 1, cells := 0, slots := 0, locals := 21 }
set_option maxRecDepth 100000 in
set_option maxHeartbeats 4000000 in
theorem wbX3_howManyInState_4 {p : Program} {l : Launch} {e : Env} {s : State} {m : MethodId} {args : Array Value} {below : List Frame} {meth : Method} {c : Code} {G : mmG} {A : Nat → Prop} {res : Int32 × MM} (E0 : mmEnv p m c cX3_howManyInState 4 s args RX3 G A meth (some (.int))) (kk4 : Nat → Int32 → Int32 → Int32 → MM → Option (Int32 × MM)) (hkk4 : ∀ (h0 : Nat) (x1 : Int32) (x2 : Int32) (x3 : Int32) (μ : MM), kk4 h0 x1 x2 x3 μ = some res → mmGoal p l e rmX3_howManyInState s m args below meth c G A 4 4 [(0, rf h0), (1, .int x1), (2, .int x2), (3, .int x3)] μ (mmQ G A res.2 (some (.int res.1)))) : ∀ (h0 : Nat) (x1 : Int32) (x2 : Int32) (x3 : Int32) (μ : MM), bX3_howManyInState_4 kk4 h0 x1 x2 x3 μ = some res → mmGoal p l e rmX3_howManyInState s m args below meth c G A 4 4 [(0, rf h0), (1, .int x1), (2, .int x2), (3, .int x3)] μ (mmQ G A res.2 (some (.int res.1))) := by
  obtain ⟨S, hA, hr, hlocks⟩ := id E0
  intro h0 x1 x2 x3 μ hf H locs ls hR hS hl
  have hK : mmKN μ μ := mmKN.rf
  unfold bX3_howManyInState_4 at hf
  refine lv_iload_n S.1 S.2.1 dX3_howManyInState_4 rfl (lv_at hl 3 rfl) ?_
  refine mm_aload_n S dX3_howManyInState_5 rfl (lv_at hl 0 rfl) ?_
  obtain ⟨g1, hf⟩ := gd hf
  refine mm_geti S hR fdX3_41 (hK.k g1) rfl dX3_howManyInState_6 ?_
  refine lv_icmp_ge (tgt := 38) S.1 S.2.1 dX3_howManyInState_9 (by decide) (fun c2 => ?_) (fun c2 => ?_)
  · have hf := it_t hf c2
    refine lv_iload_n S.1 S.2.1 dX3_howManyInState_38 rfl (lv_at hl 2 rfl) ?_
    obtain rfl := Option.some.inj hf
    exact mm_iret S hR hS hr hlocks dX3_howManyInState_39
  · have hf := it_f hf c2
    refine lv_iload_n S.1 S.2.1 dX3_howManyInState_12 rfl (lv_at hl 2 rfl) ?_
    refine mm_aload_n S dX3_howManyInState_13 rfl (lv_at hl 0 rfl) ?_
    refine lv_iload_n S.1 S.2.1 dX3_howManyInState_14 rfl (lv_at hl 3 rfl) ?_
    obtain ⟨y3, hy3, hf⟩ := bd hf
    refine mm_callVh S hR hS hA (As := [.int x3]) (rest := [.int x2]) cvX3_55 (hK.k g1) (kX3_at_c l G A (hK.k g1) hy3) rfl rfl ⟨Nat.le_of_ble_eq_true rfl, Nat.le_of_ble_eq_true rfl⟩ rfl hl.1 rfl (lv_room (by simp [rf_cat, int_cat])) dX3_howManyInState_15 ⟨Nat.le_refl _, Nat.le_refl _⟩ (fun H locs hR hS => ?_)
    have hK : mmKN μ y3.2 := hK.tr (kX3_at_kn hy3)
    obtain ⟨g4, hf⟩ := gd hf
    refine mm_geti S hR fdX3_68 (hK.k g4) rfl dX3_howManyInState_18 ?_
    refine lv_iload_n S.1 S.2.1 dX3_howManyInState_21 rfl (lv_at hl 1 rfl) ?_
    refine lv_icmp_ne (tgt := 29) S.1 S.2.1 dX3_howManyInState_22 (by decide) (fun c5 => ?_) (fun c5 => ?_)
    · have hf := it_f hf c5
      refine lv_iconst (v := 0) S.1 S.2.1 dX3_howManyInState_29 (by decide) ?_
      refine lv_iadd S.1 S.2.1 dX3_howManyInState_30 ?_
      refine lv_istore_n (i := 2) (lv' := [(2, .int (x2 + 0)), (0, rf h0), (1, .int x1), (3, .int x3)]) S.1 S.2.1 dX3_howManyInState_31 rfl hl (by decide) rfl (fun ls hl => ?_)
      refine lv_iinc (v := (x3 + 1)) (lv' := [(3, .int (x3 + 1)), (2, .int (x2 + 0)), (0, rf h0), (1, .int x1)]) S.1 S.2.1 dX3_howManyInState_32 hl (k := 3) rfl (by rfl) (by decide) rfl (fun ls hl => ?_)
      refine lv_goto (tgt := 4) S.1 S.2.1 dX3_howManyInState_35 (by decide) ?_
      exact hkk4 h0 x1 (x2 + 0) (x3 + 1) y3.2 hf _ _ _ hR hS (lv_sub hl [2, 3, 1, 0] rfl)
    · have hf := it_t hf c5
      refine lv_iconst (v := 1) S.1 S.2.1 dX3_howManyInState_25 (by decide) ?_
      refine lv_goto (tgt := 30) S.1 S.2.1 dX3_howManyInState_26 (by decide) ?_
      refine lv_iadd S.1 S.2.1 dX3_howManyInState_30 ?_
      refine lv_istore_n (i := 2) (lv' := [(2, .int (x2 + 1)), (0, rf h0), (1, .int x1), (3, .int x3)]) S.1 S.2.1 dX3_howManyInState_31 rfl hl (by decide) rfl (fun ls hl => ?_)
      refine lv_iinc (v := (x3 + 1)) (lv' := [(3, .int (x3 + 1)), (2, .int (x2 + 1)), (0, rf h0), (1, .int x1)]) S.1 S.2.1 dX3_howManyInState_32 hl (k := 3) rfl (by rfl) (by decide) rfl (fun ls hl => ?_)
      refine lv_goto (tgt := 4) S.1 S.2.1 dX3_howManyInState_35 (by decide) ?_
      exact hkk4 h0 x1 (x2 + 1) (x3 + 1) y3.2 hf _ _ _ hR hS (lv_sub hl [2, 3, 1, 0] rfl)
theorem wlX3_howManyInState_4 {p : Program} {l : Launch} {e : Env} {s : State} {m : MethodId} {args : Array Value} {below : List Frame} {meth : Method} {c : Code} {G : mmG} {A : Nat → Prop} {res : Int32 × MM} (E0 : mmEnv p m c cX3_howManyInState 4 s args RX3 G A meth (some (.int)))  : ∀ (n : Nat) (h0 : Nat) (x1 : Int32) (x2 : Int32) (x3 : Int32) (μ : MM), lX3_howManyInState_4  n h0 x1 x2 x3 μ = some res → mmGoal p l e rmX3_howManyInState s m args below meth c G A 4 4 [(0, rf h0), (1, .int x1), (2, .int x2), (3, .int x3)] μ (mmQ G A res.2 (some (.int res.1))) := by
  intro n
  induction n with
  | zero => intro h0 x1 x2 x3 μ hf; cases hf
  | succ n ih => intro h0 x1 x2 x3 μ hf; exact wbX3_howManyInState_4 E0  _ ih h0 x1 x2 x3 μ hf
set_option maxRecDepth 100000 in
set_option maxHeartbeats 4000000 in
theorem kX3_howManyInState_c (l : Launch) (G : mmG) (A : Nat → Prop) {μ : MM} {res : Int32 × MM} {h0 : Nat} {x1 : Int32} (hk0 : mK μ h0 = 4) (hf : fX3_howManyInState h0 x1 μ = some res) : Met l yX3_howManyInState [.code yX3_howManyInState cX3_howManyInState 4 (some (.int))] rmX3_howManyInState (mmPc G A μ [rf h0, .int x1]) (mmQ G A res.2 (some (.int res.1))) 0 0 A := by
  refine mm_ofW (by decide +kernel) (by simp [lg_sl, rf_cat, int_cat]) ?_
  intro p e s m below meth c ls S hR hA hS hr hlocks hl hnm
  have hl : lv_has ls 4 [(0, rf h0), (1, .int x1)] := by simpa [lv_args, rf_cat, int_cat] using hl
  have E0 : mmEnv p m c cX3_howManyInState 4 s _ RX3 G A meth (some (.int)) := ⟨S, hA, hr, hlocks⟩
  have hK : mmKN μ μ := mmKN.rf
  unfold fX3_howManyInState at hf
  refine lv_iconst (v := 0) S.1 S.2.1 dX3_howManyInState_0 (by decide) ?_
  refine lv_istore_n (i := 2) (lv' := [(2, .int 0), (0, rf h0), (1, .int x1)]) S.1 S.2.1 dX3_howManyInState_1 rfl hl (by decide) rfl (fun ls hl => ?_)
  refine lv_iconst (v := 0) S.1 S.2.1 dX3_howManyInState_2 (by decide) ?_
  refine lv_istore_n (i := 3) (lv' := [(3, .int 0), (2, .int 0), (0, rf h0), (1, .int x1)]) S.1 S.2.1 dX3_howManyInState_3 rfl hl (by decide) rfl (fun ls hl => ?_)
  exact wlX3_howManyInState_4 E0  FU h0 x1 0 0 μ hf _ _ _ hR hS (lv_sub hl [2, 3, 1, 0] rfl)
-- X3_howManyTasksOver
def bX3_howManyTasksOver_4 (kk4 : Nat → Int32 → Int32 → MM → Option (Int32 × MM)) (h0 : Nat) (x1 : Int32) (x2 : Int32) (μ : MM) : Option (Int32 × MM) :=
  if mK μ h0 = 4 then if (mI μ h0 5) ≤ x2 then (some (x1, μ)) else ((fX3_at h0 x2 μ).bind fun y3 => if mK μ y3.1 = 3 then if (mI y3.2 y3.1 4) = (1 : Int32) then ((fX3_at h0 x2 y3.2).bind fun y6 => if mK μ y6.1 = 3 then (fX2_isOver y6.1 y6.2).bind fun y7 => if y7.1 = 0 then (kk4 h0 (x1 + 0) (x2 + 1) y7.2) else (kk4 h0 (x1 + 1) (x2 + 1) y7.2) else none) else (kk4 h0 (x1 + 0) (x2 + 1) y3.2) else none) else none
def lX3_howManyTasksOver_4  : Nat → Nat → Int32 → Int32 → MM → Option (Int32 × MM)
  | 0, _, _, _, _ => none
  | n + 1, h0, x1, x2, μ => bX3_howManyTasksOver_4  (fun h0 x1 x2 μ => lX3_howManyTasksOver_4  n h0 x1 x2 μ) h0 x1 x2 μ
def fX3_howManyTasksOver (h0 : Nat) (μ : MM) : Option (Int32 × MM) :=
  lX3_howManyTasksOver_4  FU h0 0 0 μ
set_option maxRecDepth 100000 in
set_option maxHeartbeats 4000000 in
theorem knbX3_howManyTasksOver_4 (kk4 : Nat → Int32 → Int32 → MM → Option (Int32 × MM)) (hkk4 : ∀ (h0 : Nat) (x1 : Int32) (x2 : Int32) (μ : MM) (res : Int32 × MM), kk4 h0 x1 x2 μ = some res → mmKN μ res.2) : ∀ (h0 : Nat) (x1 : Int32) (x2 : Int32) (μ : MM) (res : Int32 × MM), bX3_howManyTasksOver_4 kk4 h0 x1 x2 μ = some res → mmKN μ res.2 := by
  intro h0 x1 x2 μ res hf
  have hK : mmKN μ μ := mmKN.rf
  unfold bX3_howManyTasksOver_4 at hf
  obtain ⟨g1, hf⟩ := gd hf
  rcases it_or hf with ⟨c2, hf⟩ | ⟨c2, hf⟩
  · skip
    obtain rfl := Option.some.inj hf
    exact hK
  · skip
    obtain ⟨y3, hy3, hf⟩ := bd hf
    have hK : mmKN μ y3.2 := hK.tr (kX3_at_kn hy3)
    obtain ⟨g4, hf⟩ := gd hf
    rcases it_or hf with ⟨c5, hf⟩ | ⟨c5, hf⟩
    · skip
      obtain ⟨y6, hy6, hf⟩ := bd hf
      have hK : mmKN μ y6.2 := hK.tr (kX3_at_kn hy6)
      obtain ⟨g8, hf⟩ := gd hf
      obtain ⟨y7, hy7, hf⟩ := bd hf
      have hK : mmKN μ y7.2 := hK.tr (kX2_isOver_kn hy7)
      rcases it_or hf with ⟨c9, hf⟩ | ⟨c9, hf⟩
      · skip
        exact hK.tr (hkk4 h0 (x1 + 0) (x2 + 1) y7.2 _ hf)
      · skip
        exact hK.tr (hkk4 h0 (x1 + 1) (x2 + 1) y7.2 _ hf)
    · skip
      exact hK.tr (hkk4 h0 (x1 + 0) (x2 + 1) y3.2 _ hf)
theorem knlX3_howManyTasksOver_4  : ∀ (n : Nat) (h0 : Nat) (x1 : Int32) (x2 : Int32) (μ : MM) (res : Int32 × MM), lX3_howManyTasksOver_4  n h0 x1 x2 μ = some res → mmKN μ res.2 := by
  intro n
  induction n with
  | zero => intro h0 x1 x2 μ res hf; cases hf
  | succ n ih => intro h0 x1 x2 μ res hf; exact knbX3_howManyTasksOver_4  _ ih h0 x1 x2 μ res hf
set_option maxRecDepth 100000 in
set_option maxHeartbeats 4000000 in
theorem kX3_howManyTasksOver_kn {μ : MM} {res : Int32 × MM} {h0 : Nat} (hf : fX3_howManyTasksOver h0 μ = some res) : mmKN μ res.2 := by
  have hK : mmKN μ μ := mmKN.rf
  unfold fX3_howManyTasksOver at hf
  exact hK.tr (knlX3_howManyTasksOver_4  FU h0 0 0 μ _ hf)
abbrev rmX3_howManyTasksOver : Room := { frames := 1, cells := 0, slots := 0, locals := 21 }
set_option maxRecDepth 100000 in
set_option maxHeartbeats 4000000 in
theorem wbX3_howManyTasksOver_4 {p : Program} {l : Launch} {e : Env} {s : State} {m : MethodId} {args : Array Value} {below : List Frame} {meth : Method} {c : Code} {G : mmG} {A : Nat → Prop} {res : Int32 × MM} (E0 : mmEnv p m c cX3_howManyTasksOver 3 s args RX3 G A meth (some (.int))) (kk4 : Nat → Int32 → Int32 → MM → Option (Int32 × MM)) (hkk4 : ∀ (h0 : Nat) (x1 : Int32) (x2 : Int32) (μ : MM), kk4 h0 x1 x2 μ = some res → mmGoal p l e rmX3_howManyTasksOver s m args below meth c G A 4 3 [(0, rf h0), (1, .int x1), (2, .int x2)] μ (mmQ G A res.2 (some (.int res.1)))) : ∀ (h0 : Nat) (x1 : Int32) (x2 : Int32) (μ : MM), bX3_howManyTasksOver_4 kk4 h0 x1 x2 μ = some res → mmGoal p l e rmX3_howManyTasksOver s m args below meth c G A 4 3 [(0, rf h0), (1, .int x1), (2, .int x2)] μ (mmQ G A res.2 (some (.int res.1))) := by
  obtain ⟨S, hA, hr, hlocks⟩ := id E0
  intro h0 x1 x2 μ hf H locs ls hR hS hl
  have hK : mmKN μ μ := mmKN.rf
  unfold bX3_howManyTasksOver_4 at hf
  refine lv_iload_n S.1 S.2.1 dX3_howManyTasksOver_4 rfl (lv_at hl 2 rfl) ?_
  refine mm_aload_n S dX3_howManyTasksOver_5 rfl (lv_at hl 0 rfl) ?_
  obtain ⟨g1, hf⟩ := gd hf
  refine mm_geti S hR fdX3_41 (hK.k g1) rfl dX3_howManyTasksOver_6 ?_
  refine lv_icmp_ge (tgt := 49) S.1 S.2.1 dX3_howManyTasksOver_9 (by decide) (fun c2 => ?_) (fun c2 => ?_)
  · have hf := it_t hf c2
    refine lv_iload_n S.1 S.2.1 dX3_howManyTasksOver_49 rfl (lv_at hl 1 rfl) ?_
    obtain rfl := Option.some.inj hf
    exact mm_iret S hR hS hr hlocks dX3_howManyTasksOver_50
  · have hf := it_f hf c2
    refine lv_iload_n S.1 S.2.1 dX3_howManyTasksOver_12 rfl (lv_at hl 1 rfl) ?_
    refine mm_aload_n S dX3_howManyTasksOver_13 rfl (lv_at hl 0 rfl) ?_
    refine lv_iload_n S.1 S.2.1 dX3_howManyTasksOver_14 rfl (lv_at hl 2 rfl) ?_
    obtain ⟨y3, hy3, hf⟩ := bd hf
    refine mm_callVh S hR hS hA (As := [.int x2]) (rest := [.int x1]) cvX3_55 (hK.k g1) (kX3_at_c l G A (hK.k g1) hy3) rfl rfl ⟨Nat.le_of_ble_eq_true rfl, Nat.le_of_ble_eq_true rfl⟩ rfl hl.1 rfl (lv_room (by simp [rf_cat, int_cat])) dX3_howManyTasksOver_15 ⟨Nat.le_refl _, Nat.le_refl _⟩ (fun H locs hR hS => ?_)
    have hK : mmKN μ y3.2 := hK.tr (kX3_at_kn hy3)
    obtain ⟨g4, hf⟩ := gd hf
    refine mm_geti S hR fdX3_62 (hK.k g4) rfl dX3_howManyTasksOver_18 ?_
    refine lv_iconst (v := 1) S.1 S.2.1 dX3_howManyTasksOver_21 (by decide) ?_
    refine lv_icmp_ne (tgt := 40) S.1 S.2.1 dX3_howManyTasksOver_22 (by decide) (fun c5 => ?_) (fun c5 => ?_)
    · have hf := it_f hf c5
      refine lv_iconst (v := 0) S.1 S.2.1 dX3_howManyTasksOver_40 (by decide) ?_
      refine lv_iadd S.1 S.2.1 dX3_howManyTasksOver_41 ?_
      refine lv_istore_n (i := 1) (lv' := [(1, .int (x1 + 0)), (0, rf h0), (2, .int x2)]) S.1 S.2.1 dX3_howManyTasksOver_42 rfl hl (by decide) (by simp [rf_cat]) (fun ls hl => ?_)
      refine lv_iinc (v := (x2 + 1)) (lv' := [(2, .int (x2 + 1)), (1, .int (x1 + 0)), (0, rf h0)]) S.1 S.2.1 dX3_howManyTasksOver_43 hl (k := 2) rfl (by rfl) (by decide) rfl (fun ls hl => ?_)
      refine lv_goto (tgt := 4) S.1 S.2.1 dX3_howManyTasksOver_46 (by decide) ?_
      exact hkk4 h0 (x1 + 0) (x2 + 1) y3.2 hf _ _ _ hR hS (lv_sub hl [2, 1, 0] rfl)
    · have hf := it_t hf c5
      refine mm_aload_n S dX3_howManyTasksOver_25 rfl (lv_at hl 0 rfl) ?_
      refine lv_iload_n S.1 S.2.1 dX3_howManyTasksOver_26 rfl (lv_at hl 2 rfl) ?_
      obtain ⟨y6, hy6, hf⟩ := bd hf
      refine mm_callVh S hR hS hA (As := [.int x2]) (rest := [.int x1]) cvX3_55 (hK.k g1) (kX3_at_c l G A (hK.k g1) hy6) rfl rfl ⟨Nat.le_of_ble_eq_true rfl, Nat.le_of_ble_eq_true rfl⟩ rfl hl.1 rfl (lv_room (by simp [rf_cat, int_cat])) dX3_howManyTasksOver_27 ⟨Nat.le_refl _, Nat.le_refl _⟩ (fun H locs hR hS => ?_)
      have hK : mmKN μ y6.2 := hK.tr (kX3_at_kn hy6)
      obtain ⟨g8, hf⟩ := gd hf
      obtain ⟨y7, hy7, hf⟩ := bd hf
      refine mm_callVi S hR hS hA (As := []) (rest := [.int x1]) cvX3_71 (hK.k g8) (kX2_isOver_c l G A (hK.k g8) hy7) rfl rfl ⟨Nat.le_of_ble_eq_true rfl, Nat.le_of_ble_eq_true rfl⟩ rfl hl.1 rfl (lv_room (by simp [rf_cat, int_cat])) dX3_howManyTasksOver_30 ⟨Nat.le_refl _, Nat.le_refl _⟩ (fun H locs hR hS => ?_)
      have hK : mmKN μ y7.2 := hK.tr (kX2_isOver_kn hy7)
      refine lv_if_eq (tgt := 40) S.1 S.2.1 dX3_howManyTasksOver_33 (by decide) (fun c9 => ?_) (fun c9 => ?_)
      · have hf := it_t hf c9
        refine lv_iconst (v := 0) S.1 S.2.1 dX3_howManyTasksOver_40 (by decide) ?_
        refine lv_iadd S.1 S.2.1 dX3_howManyTasksOver_41 ?_
        refine lv_istore_n (i := 1) (lv' := [(1, .int (x1 + 0)), (0, rf h0), (2, .int x2)]) S.1 S.2.1 dX3_howManyTasksOver_42 rfl hl (by decide) (by simp [rf_cat]) (fun ls hl => ?_)
        refine lv_iinc (v := (x2 + 1)) (lv' := [(2, .int (x2 + 1)), (1, .int (x1 + 0)), (0, rf h0)]) S.1 S.2.1 dX3_howManyTasksOver_43 hl (k := 2) rfl (by rfl) (by decide) rfl (fun ls hl => ?_)
        refine lv_goto (tgt := 4) S.1 S.2.1 dX3_howManyTasksOver_46 (by decide) ?_
        exact hkk4 h0 (x1 + 0) (x2 + 1) y7.2 hf _ _ _ hR hS (lv_sub hl [2, 1, 0] rfl)
      · have hf := it_f hf c9
        refine lv_iconst (v := 1) S.1 S.2.1 dX3_howManyTasksOver_36 (by decide) ?_
        refine lv_goto (tgt := 41) S.1 S.2.1 dX3_howManyTasksOver_37 (by decide) ?_
        refine lv_iadd S.1 S.2.1 dX3_howManyTasksOver_41 ?_
        refine lv_istore_n (i := 1) (lv' := [(1, .int (x1 + 1)), (0, rf h0), (2, .int x2)]) S.1 S.2.1 dX3_howManyTasksOver_42 rfl hl (by decide) (by simp [rf_cat]) (fun ls hl => ?_)
        refine lv_iinc (v := (x2 + 1)) (lv' := [(2, .int (x2 + 1)), (1, .int (x1 + 1)), (0, rf h0)]) S.1 S.2.1 dX3_howManyTasksOver_43 hl (k := 2) rfl (by rfl) (by decide) rfl (fun ls hl => ?_)
        refine lv_goto (tgt := 4) S.1 S.2.1 dX3_howManyTasksOver_46 (by decide) ?_
        exact hkk4 h0 (x1 + 1) (x2 + 1) y7.2 hf _ _ _ hR hS (lv_sub hl [2, 1, 0] rfl)
theorem wlX3_howManyTasksOver_4 {p : Program} {l : Launch} {e : Env} {s : State} {m : MethodId} {args : Array Value} {below : List Frame} {meth : Method} {c : Code} {G : mmG} {A : Nat → Prop} {res : Int32 × MM} (E0 : mmEnv p m c cX3_howManyTasksOver 3 s args RX3 G A meth (some (.int)))  : ∀ (n : Nat) (h0 : Nat) (x1 : Int32) (x2 : Int32) (μ : MM), lX3_howManyTasksOver_4  n h0 x1 x2 μ = some res → mmGoal p l e rmX3_howManyTasksOver s m args below meth c G A 4 3 [(0, rf h0), (1, .int x1), (2, .int x2)] μ (mmQ G A res.2 (some (.int res.1))) := by
  intro n
  induction n with
  | zero => intro h0 x1 x2 μ hf; cases hf
  | succ n ih => intro h0 x1 x2 μ hf; exact wbX3_howManyTasksOver_4 E0  _ ih h0 x1 x2 μ hf
set_option maxRecDepth 100000 in
set_option maxHeartbeats 4000000 in
theorem kX3_howManyTasksOver_c (l : Launch) (G : mmG) (A : Nat → Prop) {μ : MM} {res : Int32 × MM} {h0 : Nat} (hk0 : mK μ h0 = 4) (hf : fX3_howManyTasksOver h0 μ = some res) : Met l yX3_howManyTasksOver [.code yX3_howManyTasksOver cX3_howManyTasksOver 3 (some (.int))] rmX3_howManyTasksOver (mmPc G A μ [rf h0]) (mmQ G A res.2 (some (.int res.1))) 0 0 A := by
  refine mm_ofW (by decide +kernel) (by simp [lg_sl, rf_cat, int_cat]) ?_
  intro p e s m below meth c ls S hR hA hS hr hlocks hl hnm
  have hl : lv_has ls 3 [(0, rf h0)] := by simpa [lv_args, rf_cat, int_cat] using hl
  have E0 : mmEnv p m c cX3_howManyTasksOver 3 s _ RX3 G A meth (some (.int)) := ⟨S, hA, hr, hlocks⟩
  have hK : mmKN μ μ := mmKN.rf
  unfold fX3_howManyTasksOver at hf
  refine lv_iconst (v := 0) S.1 S.2.1 dX3_howManyTasksOver_0 (by decide) ?_
  refine lv_istore_n (i := 1) (lv' := [(1, .int 0), (0, rf h0)]) S.1 S.2.1 dX3_howManyTasksOver_1 rfl hl (by decide) (by simp [rf_cat]) (fun ls hl => ?_)
  refine lv_iconst (v := 0) S.1 S.2.1 dX3_howManyTasksOver_2 (by decide) ?_
  refine lv_istore_n (i := 2) (lv' := [(2, .int 0), (1, .int 0), (0, rf h0)]) S.1 S.2.1 dX3_howManyTasksOver_3 rfl hl (by decide) rfl (fun ls hl => ?_)
  exact wlX3_howManyTasksOver_4 E0  FU h0 0 0 μ hf _ _ _ hR hS (lv_sub hl [2, 1, 0] rfl)
-- X3_howManyAwait
def bX3_howManyAwait_4 (kk4 : Nat → Int32 → Int32 → Int32 → MM → Option (Int32 × MM)) (h0 : Nat) (x1 : Int32) (x2 : Int32) (x3 : Int32) (μ : MM) : Option (Int32 × MM) :=
  if mK μ h0 = 4 then if mK μ (mP μ h0 4) = 5 then if (mI μ (mP μ h0 4) 1) ≤ x3 then (some (x2, μ)) else ((fX4_numberAt (mP μ h0 4) x3 μ).bind fun y4 => (fX3_at h0 y4.1 y4.2).bind fun y5 => if mK μ y5.1 = 3 then if (mI y5.2 y5.1 13) = x1 then (kk4 h0 x1 (x2 + 1) (x3 + 1) y5.2) else (kk4 h0 x1 (x2 + 0) (x3 + 1) y5.2) else none) else none else none
def lX3_howManyAwait_4  : Nat → Nat → Int32 → Int32 → Int32 → MM → Option (Int32 × MM)
  | 0, _, _, _, _, _ => none
  | n + 1, h0, x1, x2, x3, μ => bX3_howManyAwait_4  (fun h0 x1 x2 x3 μ => lX3_howManyAwait_4  n h0 x1 x2 x3 μ) h0 x1 x2 x3 μ
def fX3_howManyAwait (h0 : Nat) (x1 : Int32) (μ : MM) : Option (Int32 × MM) :=
  lX3_howManyAwait_4  FU h0 x1 0 0 μ
set_option maxRecDepth 100000 in
set_option maxHeartbeats 4000000 in
theorem knbX3_howManyAwait_4 (kk4 : Nat → Int32 → Int32 → Int32 → MM → Option (Int32 × MM)) (hkk4 : ∀ (h0 : Nat) (x1 : Int32) (x2 : Int32) (x3 : Int32) (μ : MM) (res : Int32 × MM), kk4 h0 x1 x2 x3 μ = some res → mmKN μ res.2) : ∀ (h0 : Nat) (x1 : Int32) (x2 : Int32) (x3 : Int32) (μ : MM) (res : Int32 × MM), bX3_howManyAwait_4 kk4 h0 x1 x2 x3 μ = some res → mmKN μ res.2 := by
  intro h0 x1 x2 x3 μ res hf
  have hK : mmKN μ μ := mmKN.rf
  unfold bX3_howManyAwait_4 at hf
  obtain ⟨g1, hf⟩ := gd hf
  obtain ⟨g2, hf⟩ := gd hf
  rcases it_or hf with ⟨c3, hf⟩ | ⟨c3, hf⟩
  · skip
    obtain rfl := Option.some.inj hf
    exact hK
  · skip
    obtain ⟨y4, hy4, hf⟩ := bd hf
    have hK : mmKN μ y4.2 := hK.tr (kX4_numberAt_kn hy4)
    obtain ⟨y5, hy5, hf⟩ := bd hf
    have hK : mmKN μ y5.2 := hK.tr (kX3_at_kn hy5)
    obtain ⟨g6, hf⟩ := gd hf
    rcases it_or hf with ⟨c7, hf⟩ | ⟨c7, hf⟩
    · skip
      exact hK.tr (hkk4 h0 x1 (x2 + 1) (x3 + 1) y5.2 _ hf)
    · skip
      exact hK.tr (hkk4 h0 x1 (x2 + 0) (x3 + 1) y5.2 _ hf)
theorem knlX3_howManyAwait_4  : ∀ (n : Nat) (h0 : Nat) (x1 : Int32) (x2 : Int32) (x3 : Int32) (μ : MM) (res : Int32 × MM), lX3_howManyAwait_4  n h0 x1 x2 x3 μ = some res → mmKN μ res.2 := by
  intro n
  induction n with
  | zero => intro h0 x1 x2 x3 μ res hf; cases hf
  | succ n ih => intro h0 x1 x2 x3 μ res hf; exact knbX3_howManyAwait_4  _ ih h0 x1 x2 x3 μ res hf
set_option maxRecDepth 100000 in
set_option maxHeartbeats 4000000 in
theorem kX3_howManyAwait_kn {μ : MM} {res : Int32 × MM} {h0 : Nat} {x1 : Int32} (hf : fX3_howManyAwait h0 x1 μ = some res) : mmKN μ res.2 := by
  have hK : mmKN μ μ := mmKN.rf
  unfold fX3_howManyAwait at hf
  exact hK.tr (knlX3_howManyAwait_4  FU h0 x1 0 0 μ _ hf)
abbrev rmX3_howManyAwait : Room := { frames := 1, cells := 0, slots := 0, locals := 21 }
set_option maxRecDepth 100000 in
set_option maxHeartbeats 4000000 in
theorem wbX3_howManyAwait_4 {p : Program} {l : Launch} {e : Env} {s : State} {m : MethodId} {args : Array Value} {below : List Frame} {meth : Method} {c : Code} {G : mmG} {A : Nat → Prop} {res : Int32 × MM} (E0 : mmEnv p m c cX3_howManyAwait 4 s args RX3 G A meth (some (.int))) (kk4 : Nat → Int32 → Int32 → Int32 → MM → Option (Int32 × MM)) (hkk4 : ∀ (h0 : Nat) (x1 : Int32) (x2 : Int32) (x3 : Int32) (μ : MM), kk4 h0 x1 x2 x3 μ = some res → mmGoal p l e rmX3_howManyAwait s m args below meth c G A 4 4 [(0, rf h0), (1, .int x1), (2, .int x2), (3, .int x3)] μ (mmQ G A res.2 (some (.int res.1)))) : ∀ (h0 : Nat) (x1 : Int32) (x2 : Int32) (x3 : Int32) (μ : MM), bX3_howManyAwait_4 kk4 h0 x1 x2 x3 μ = some res → mmGoal p l e rmX3_howManyAwait s m args below meth c G A 4 4 [(0, rf h0), (1, .int x1), (2, .int x2), (3, .int x3)] μ (mmQ G A res.2 (some (.int res.1))) := by
  obtain ⟨S, hA, hr, hlocks⟩ := id E0
  intro h0 x1 x2 x3 μ hf H locs ls hR hS hl
  have hK : mmKN μ μ := mmKN.rf
  unfold bX3_howManyAwait_4 at hf
  refine lv_iload_n S.1 S.2.1 dX3_howManyAwait_4 rfl (lv_at hl 3 rfl) ?_
  refine mm_aload_n S dX3_howManyAwait_5 rfl (lv_at hl 0 rfl) ?_
  obtain ⟨g1, hf⟩ := gd hf
  refine mm_getp S hR fdX3_31 (hK.k g1) rfl dX3_howManyAwait_6 ?_
  obtain ⟨g2, hf⟩ := gd hf
  refine mm_geti S hR fdX3_75 (hK.k g2) rfl dX3_howManyAwait_9 ?_
  refine lv_icmp_ge (tgt := 48) S.1 S.2.1 dX3_howManyAwait_12 (by decide) (fun c3 => ?_) (fun c3 => ?_)
  · have hf := it_t hf c3
    refine lv_iload_n S.1 S.2.1 dX3_howManyAwait_48 rfl (lv_at hl 2 rfl) ?_
    obtain rfl := Option.some.inj hf
    exact mm_iret S hR hS hr hlocks dX3_howManyAwait_49
  · have hf := it_f hf c3
    refine lv_iload_n S.1 S.2.1 dX3_howManyAwait_15 rfl (lv_at hl 2 rfl) ?_
    refine mm_aload_n S dX3_howManyAwait_16 rfl (lv_at hl 0 rfl) ?_
    refine mm_aload_n S dX3_howManyAwait_17 rfl (lv_at hl 0 rfl) ?_
    refine mm_getp S hR fdX3_31 (hK.k g1) rfl dX3_howManyAwait_18 ?_
    refine lv_iload_n S.1 S.2.1 dX3_howManyAwait_21 rfl (lv_at hl 3 rfl) ?_
    obtain ⟨y4, hy4, hf⟩ := bd hf
    refine mm_callVi S hR hS hA (As := [.int x3]) (rest := [rf h0, .int x2]) cvX3_78 (hK.k g2) (kX4_numberAt_c l G A (hK.k g2) hy4) rfl rfl ⟨Nat.le_of_ble_eq_true rfl, Nat.le_of_ble_eq_true rfl⟩ rfl hl.1 rfl (lv_room (by simp [rf_cat, int_cat])) dX3_howManyAwait_22 ⟨Nat.le_refl _, Nat.le_refl _⟩ (fun H locs hR hS => ?_)
    have hK : mmKN μ y4.2 := hK.tr (kX4_numberAt_kn hy4)
    obtain ⟨y5, hy5, hf⟩ := bd hf
    refine mm_callVh S hR hS hA (As := [.int y4.1]) (rest := [.int x2]) cvX3_55 (hK.k g1) (kX3_at_c l G A (hK.k g1) hy5) rfl rfl ⟨Nat.le_of_ble_eq_true rfl, Nat.le_of_ble_eq_true rfl⟩ rfl hl.1 rfl (lv_room (by simp [rf_cat, int_cat])) dX3_howManyAwait_25 ⟨Nat.le_refl _, Nat.le_refl _⟩ (fun H locs hR hS => ?_)
    have hK : mmKN μ y5.2 := hK.tr (kX3_at_kn hy5)
    obtain ⟨g6, hf⟩ := gd hf
    refine mm_geti S hR fdX3_82 (hK.k g6) rfl dX3_howManyAwait_28 ?_
    refine lv_iload_n S.1 S.2.1 dX3_howManyAwait_31 rfl (lv_at hl 1 rfl) ?_
    refine lv_icmp_ne (tgt := 39) S.1 S.2.1 dX3_howManyAwait_32 (by decide) (fun c7 => ?_) (fun c7 => ?_)
    · have hf := it_f hf c7
      refine lv_iconst (v := 0) S.1 S.2.1 dX3_howManyAwait_39 (by decide) ?_
      refine lv_iadd S.1 S.2.1 dX3_howManyAwait_40 ?_
      refine lv_istore_n (i := 2) (lv' := [(2, .int (x2 + 0)), (0, rf h0), (1, .int x1), (3, .int x3)]) S.1 S.2.1 dX3_howManyAwait_41 rfl hl (by decide) rfl (fun ls hl => ?_)
      refine lv_iinc (v := (x3 + 1)) (lv' := [(3, .int (x3 + 1)), (2, .int (x2 + 0)), (0, rf h0), (1, .int x1)]) S.1 S.2.1 dX3_howManyAwait_42 hl (k := 3) rfl (by rfl) (by decide) rfl (fun ls hl => ?_)
      refine lv_goto (tgt := 4) S.1 S.2.1 dX3_howManyAwait_45 (by decide) ?_
      exact hkk4 h0 x1 (x2 + 0) (x3 + 1) y5.2 hf _ _ _ hR hS (lv_sub hl [2, 3, 1, 0] rfl)
    · have hf := it_t hf c7
      refine lv_iconst (v := 1) S.1 S.2.1 dX3_howManyAwait_35 (by decide) ?_
      refine lv_goto (tgt := 40) S.1 S.2.1 dX3_howManyAwait_36 (by decide) ?_
      refine lv_iadd S.1 S.2.1 dX3_howManyAwait_40 ?_
      refine lv_istore_n (i := 2) (lv' := [(2, .int (x2 + 1)), (0, rf h0), (1, .int x1), (3, .int x3)]) S.1 S.2.1 dX3_howManyAwait_41 rfl hl (by decide) rfl (fun ls hl => ?_)
      refine lv_iinc (v := (x3 + 1)) (lv' := [(3, .int (x3 + 1)), (2, .int (x2 + 1)), (0, rf h0), (1, .int x1)]) S.1 S.2.1 dX3_howManyAwait_42 hl (k := 3) rfl (by rfl) (by decide) rfl (fun ls hl => ?_)
      refine lv_goto (tgt := 4) S.1 S.2.1 dX3_howManyAwait_45 (by decide) ?_
      exact hkk4 h0 x1 (x2 + 1) (x3 + 1) y5.2 hf _ _ _ hR hS (lv_sub hl [2, 3, 1, 0] rfl)
theorem wlX3_howManyAwait_4 {p : Program} {l : Launch} {e : Env} {s : State} {m : MethodId} {args : Array Value} {below : List Frame} {meth : Method} {c : Code} {G : mmG} {A : Nat → Prop} {res : Int32 × MM} (E0 : mmEnv p m c cX3_howManyAwait 4 s args RX3 G A meth (some (.int)))  : ∀ (n : Nat) (h0 : Nat) (x1 : Int32) (x2 : Int32) (x3 : Int32) (μ : MM), lX3_howManyAwait_4  n h0 x1 x2 x3 μ = some res → mmGoal p l e rmX3_howManyAwait s m args below meth c G A 4 4 [(0, rf h0), (1, .int x1), (2, .int x2), (3, .int x3)] μ (mmQ G A res.2 (some (.int res.1))) := by
  intro n
  induction n with
  | zero => intro h0 x1 x2 x3 μ hf; cases hf
  | succ n ih => intro h0 x1 x2 x3 μ hf; exact wbX3_howManyAwait_4 E0  _ ih h0 x1 x2 x3 μ hf
set_option maxRecDepth 100000 in
set_option maxHeartbeats 4000000 in
theorem kX3_howManyAwait_c (l : Launch) (G : mmG) (A : Nat → Prop) {μ : MM} {res : Int32 × MM} {h0 : Nat} {x1 : Int32} (hk0 : mK μ h0 = 4) (hf : fX3_howManyAwait h0 x1 μ = some res) : Met l yX3_howManyAwait [.code yX3_howManyAwait cX3_howManyAwait 4 (some (.int))] rmX3_howManyAwait (mmPc G A μ [rf h0, .int x1]) (mmQ G A res.2 (some (.int res.1))) 0 0 A := by
  refine mm_ofW (by decide +kernel) (by simp [lg_sl, rf_cat, int_cat]) ?_
  intro p e s m below meth c ls S hR hA hS hr hlocks hl hnm
  have hl : lv_has ls 4 [(0, rf h0), (1, .int x1)] := by simpa [lv_args, rf_cat, int_cat] using hl
  have E0 : mmEnv p m c cX3_howManyAwait 4 s _ RX3 G A meth (some (.int)) := ⟨S, hA, hr, hlocks⟩
  have hK : mmKN μ μ := mmKN.rf
  unfold fX3_howManyAwait at hf
  refine lv_iconst (v := 0) S.1 S.2.1 dX3_howManyAwait_0 (by decide) ?_
  refine lv_istore_n (i := 2) (lv' := [(2, .int 0), (0, rf h0), (1, .int x1)]) S.1 S.2.1 dX3_howManyAwait_1 rfl hl (by decide) rfl (fun ls hl => ?_)
  refine lv_iconst (v := 0) S.1 S.2.1 dX3_howManyAwait_2 (by decide) ?_
  refine lv_istore_n (i := 3) (lv' := [(3, .int 0), (2, .int 0), (0, rf h0), (1, .int x1)]) S.1 S.2.1 dX3_howManyAwait_3 rfl hl (by decide) rfl (fun ls hl => ?_)
  exact wlX3_howManyAwait_4 E0  FU h0 x1 0 0 μ hf _ _ _ hR hS (lv_sub hl [2, 3, 1, 0] rfl)
-- X3_linesDoneInAll
def bX3_linesDoneInAll_4 (kk4 : Nat → Int32 → Int32 → MM → Option (Int32 × MM)) (h0 : Nat) (x1 : Int32) (x2 : Int32) (μ : MM) : Option (Int32 × MM) :=
  if mK μ h0 = 4 then if (mI μ h0 5) ≤ x2 then (some (x1, μ)) else ((fX3_at h0 x2 μ).bind fun y3 => if mK μ y3.1 = 3 then kk4 h0 (x1 + (mI y3.2 y3.1 11)) (x2 + 1) y3.2 else none) else none
def lX3_linesDoneInAll_4  : Nat → Nat → Int32 → Int32 → MM → Option (Int32 × MM)
  | 0, _, _, _, _ => none
  | n + 1, h0, x1, x2, μ => bX3_linesDoneInAll_4  (fun h0 x1 x2 μ => lX3_linesDoneInAll_4  n h0 x1 x2 μ) h0 x1 x2 μ
def fX3_linesDoneInAll (h0 : Nat) (μ : MM) : Option (Int32 × MM) :=
  lX3_linesDoneInAll_4  FU h0 0 0 μ
set_option maxRecDepth 100000 in
set_option maxHeartbeats 4000000 in
theorem knbX3_linesDoneInAll_4 (kk4 : Nat → Int32 → Int32 → MM → Option (Int32 × MM)) (hkk4 : ∀ (h0 : Nat) (x1 : Int32) (x2 : Int32) (μ : MM) (res : Int32 × MM), kk4 h0 x1 x2 μ = some res → mmKN μ res.2) : ∀ (h0 : Nat) (x1 : Int32) (x2 : Int32) (μ : MM) (res : Int32 × MM), bX3_linesDoneInAll_4 kk4 h0 x1 x2 μ = some res → mmKN μ res.2 := by
  intro h0 x1 x2 μ res hf
  have hK : mmKN μ μ := mmKN.rf
  unfold bX3_linesDoneInAll_4 at hf
  obtain ⟨g1, hf⟩ := gd hf
  rcases it_or hf with ⟨c2, hf⟩ | ⟨c2, hf⟩
  · skip
    obtain rfl := Option.some.inj hf
    exact hK
  · skip
    obtain ⟨y3, hy3, hf⟩ := bd hf
    have hK : mmKN μ y3.2 := hK.tr (kX3_at_kn hy3)
    obtain ⟨g4, hf⟩ := gd hf
    exact hK.tr (hkk4 h0 (x1 + (mI y3.2 y3.1 11)) (x2 + 1) y3.2 _ hf)
theorem knlX3_linesDoneInAll_4  : ∀ (n : Nat) (h0 : Nat) (x1 : Int32) (x2 : Int32) (μ : MM) (res : Int32 × MM), lX3_linesDoneInAll_4  n h0 x1 x2 μ = some res → mmKN μ res.2 := by
  intro n
  induction n with
  | zero => intro h0 x1 x2 μ res hf; cases hf
  | succ n ih => intro h0 x1 x2 μ res hf; exact knbX3_linesDoneInAll_4  _ ih h0 x1 x2 μ res hf
set_option maxRecDepth 100000 in
set_option maxHeartbeats 4000000 in
theorem kX3_linesDoneInAll_kn {μ : MM} {res : Int32 × MM} {h0 : Nat} (hf : fX3_linesDoneInAll h0 μ = some res) : mmKN μ res.2 := by
  have hK : mmKN μ μ := mmKN.rf
  unfold fX3_linesDoneInAll at hf
  exact hK.tr (knlX3_linesDoneInAll_4  FU h0 0 0 μ _ hf)
abbrev rmX3_linesDoneInAll : Room := { frames := 1, cells := 0, slots := 0, locals := 21 }
set_option maxRecDepth 100000 in
set_option maxHeartbeats 4000000 in
theorem wbX3_linesDoneInAll_4 {p : Program} {l : Launch} {e : Env} {s : State} {m : MethodId} {args : Array Value} {below : List Frame} {meth : Method} {c : Code} {G : mmG} {A : Nat → Prop} {res : Int32 × MM} (E0 : mmEnv p m c cX3_linesDoneInAll 3 s args RX3 G A meth (some (.int))) (kk4 : Nat → Int32 → Int32 → MM → Option (Int32 × MM)) (hkk4 : ∀ (h0 : Nat) (x1 : Int32) (x2 : Int32) (μ : MM), kk4 h0 x1 x2 μ = some res → mmGoal p l e rmX3_linesDoneInAll s m args below meth c G A 4 3 [(0, rf h0), (1, .int x1), (2, .int x2)] μ (mmQ G A res.2 (some (.int res.1)))) : ∀ (h0 : Nat) (x1 : Int32) (x2 : Int32) (μ : MM), bX3_linesDoneInAll_4 kk4 h0 x1 x2 μ = some res → mmGoal p l e rmX3_linesDoneInAll s m args below meth c G A 4 3 [(0, rf h0), (1, .int x1), (2, .int x2)] μ (mmQ G A res.2 (some (.int res.1))) := by
  obtain ⟨S, hA, hr, hlocks⟩ := id E0
  intro h0 x1 x2 μ hf H locs ls hR hS hl
  have hK : mmKN μ μ := mmKN.rf
  unfold bX3_linesDoneInAll_4 at hf
  refine lv_iload_n S.1 S.2.1 dX3_linesDoneInAll_4 rfl (lv_at hl 2 rfl) ?_
  refine mm_aload_n S dX3_linesDoneInAll_5 rfl (lv_at hl 0 rfl) ?_
  obtain ⟨g1, hf⟩ := gd hf
  refine mm_geti S hR fdX3_41 (hK.k g1) rfl dX3_linesDoneInAll_6 ?_
  refine lv_icmp_ge (tgt := 29) S.1 S.2.1 dX3_linesDoneInAll_9 (by decide) (fun c2 => ?_) (fun c2 => ?_)
  · have hf := it_t hf c2
    refine lv_iload_n S.1 S.2.1 dX3_linesDoneInAll_29 rfl (lv_at hl 1 rfl) ?_
    obtain rfl := Option.some.inj hf
    exact mm_iret S hR hS hr hlocks dX3_linesDoneInAll_30
  · have hf := it_f hf c2
    refine lv_iload_n S.1 S.2.1 dX3_linesDoneInAll_12 rfl (lv_at hl 1 rfl) ?_
    refine mm_aload_n S dX3_linesDoneInAll_13 rfl (lv_at hl 0 rfl) ?_
    refine lv_iload_n S.1 S.2.1 dX3_linesDoneInAll_14 rfl (lv_at hl 2 rfl) ?_
    obtain ⟨y3, hy3, hf⟩ := bd hf
    refine mm_callVh S hR hS hA (As := [.int x2]) (rest := [.int x1]) cvX3_55 (hK.k g1) (kX3_at_c l G A (hK.k g1) hy3) rfl rfl ⟨Nat.le_of_ble_eq_true rfl, Nat.le_of_ble_eq_true rfl⟩ rfl hl.1 rfl (lv_room (by simp [rf_cat, int_cat])) dX3_linesDoneInAll_15 ⟨Nat.le_refl _, Nat.le_refl _⟩ (fun H locs hR hS => ?_)
    have hK : mmKN μ y3.2 := hK.tr (kX3_at_kn hy3)
    obtain ⟨g4, hf⟩ := gd hf
    refine mm_geti S hR fdX3_85 (hK.k g4) rfl dX3_linesDoneInAll_18 ?_
    refine lv_iadd S.1 S.2.1 dX3_linesDoneInAll_21 ?_
    refine lv_istore_n (i := 1) (lv' := [(1, .int (x1 + (mI y3.2 y3.1 11))), (0, rf h0), (2, .int x2)]) S.1 S.2.1 dX3_linesDoneInAll_22 rfl hl (by decide) (by simp [rf_cat]) (fun ls hl => ?_)
    refine lv_iinc (v := (x2 + 1)) (lv' := [(2, .int (x2 + 1)), (1, .int (x1 + (mI y3.2 y3.1 11))), (0, rf h0)]) S.1 S.2.1 dX3_linesDoneInAll_23 hl (k := 2) rfl (by rfl) (by decide) rfl (fun ls hl => ?_)
    refine lv_goto (tgt := 4) S.1 S.2.1 dX3_linesDoneInAll_26 (by decide) ?_
    exact hkk4 h0 (x1 + (mI y3.2 y3.1 11)) (x2 + 1) y3.2 hf _ _ _ hR hS (lv_sub hl [2, 1, 0] rfl)
theorem wlX3_linesDoneInAll_4 {p : Program} {l : Launch} {e : Env} {s : State} {m : MethodId} {args : Array Value} {below : List Frame} {meth : Method} {c : Code} {G : mmG} {A : Nat → Prop} {res : Int32 × MM} (E0 : mmEnv p m c cX3_linesDoneInAll 3 s args RX3 G A meth (some (.int)))  : ∀ (n : Nat) (h0 : Nat) (x1 : Int32) (x2 : Int32) (μ : MM), lX3_linesDoneInAll_4  n h0 x1 x2 μ = some res → mmGoal p l e rmX3_linesDoneInAll s m args below meth c G A 4 3 [(0, rf h0), (1, .int x1), (2, .int x2)] μ (mmQ G A res.2 (some (.int res.1))) := by
  intro n
  induction n with
  | zero => intro h0 x1 x2 μ hf; cases hf
  | succ n ih => intro h0 x1 x2 μ hf; exact wbX3_linesDoneInAll_4 E0  _ ih h0 x1 x2 μ hf
set_option maxRecDepth 100000 in
set_option maxHeartbeats 4000000 in
theorem kX3_linesDoneInAll_c (l : Launch) (G : mmG) (A : Nat → Prop) {μ : MM} {res : Int32 × MM} {h0 : Nat} (hk0 : mK μ h0 = 4) (hf : fX3_linesDoneInAll h0 μ = some res) : Met l yX3_linesDoneInAll [.code yX3_linesDoneInAll cX3_linesDoneInAll 3 (some (.int))] rmX3_linesDoneInAll (mmPc G A μ [rf h0]) (mmQ G A res.2 (some (.int res.1))) 0 0 A := by
  refine mm_ofW (by decide +kernel) (by simp [lg_sl, rf_cat, int_cat]) ?_
  intro p e s m below meth c ls S hR hA hS hr hlocks hl hnm
  have hl : lv_has ls 3 [(0, rf h0)] := by simpa [lv_args, rf_cat, int_cat] using hl
  have E0 : mmEnv p m c cX3_linesDoneInAll 3 s _ RX3 G A meth (some (.int)) := ⟨S, hA, hr, hlocks⟩
  have hK : mmKN μ μ := mmKN.rf
  unfold fX3_linesDoneInAll at hf
  refine lv_iconst (v := 0) S.1 S.2.1 dX3_linesDoneInAll_0 (by decide) ?_
  refine lv_istore_n (i := 1) (lv' := [(1, .int 0), (0, rf h0)]) S.1 S.2.1 dX3_linesDoneInAll_1 rfl hl (by decide) (by simp [rf_cat]) (fun ls hl => ?_)
  refine lv_iconst (v := 0) S.1 S.2.1 dX3_linesDoneInAll_2 (by decide) ?_
  refine lv_istore_n (i := 2) (lv' := [(2, .int 0), (1, .int 0), (0, rf h0)]) S.1 S.2.1 dX3_linesDoneInAll_3 rfl hl (by decide) rfl (fun ls hl => ?_)
  exact wlX3_linesDoneInAll_4 E0  FU h0 0 0 μ hf _ _ _ hR hS (lv_sub hl [2, 1, 0] rfl)
-- X3_canMake
def fX3_canMake (h0 : Nat) (x1 : Int32) (μ : MM) : Option (Int32 × MM) :=
  if mK μ (mP μ h0 0) = 1 then (fX0_has (mP μ h0 0) x1 μ).bind fun y1 => if y1.1 = 0 then (some (0, y1.2)) else ((fX3_isFull h0 y1.2).bind fun y4 => if y4.1 = 0 then (some (1, y4.2)) else (some (0, y4.2))) else none
set_option maxRecDepth 100000 in
set_option maxHeartbeats 4000000 in
theorem kX3_canMake_kn {μ : MM} {res : Int32 × MM} {h0 : Nat} {x1 : Int32} (hf : fX3_canMake h0 x1 μ = some res) : mmKN μ res.2 := by
  have hK : mmKN μ μ := mmKN.rf
  unfold fX3_canMake at hf
  obtain ⟨g2, hf⟩ := gd hf
  obtain ⟨y1, hy1, hf⟩ := bd hf
  have hK : mmKN μ y1.2 := hK.tr (kX0_has_kn hy1)
  rcases it_or hf with ⟨c3, hf⟩ | ⟨c3, hf⟩
  · skip
    obtain rfl := Option.some.inj hf
    exact hK
  · skip
    obtain ⟨y4, hy4, hf⟩ := bd hf
    have hK : mmKN μ y4.2 := hK.tr (kX3_isFull_kn hy4)
    rcases it_or hf with ⟨c5, hf⟩ | ⟨c5, hf⟩
    · skip
      obtain rfl := Option.some.inj hf
      exact hK
    · skip
      obtain rfl := Option.some.inj hf
      exact hK
abbrev rmX3_canMake : Room := { frames := 1, cells := 0, slots := 0, locals := 21 }
set_option maxRecDepth 100000 in
set_option maxHeartbeats 4000000 in
theorem kX3_canMake_c (l : Launch) (G : mmG) (A : Nat → Prop) {μ : MM} {res : Int32 × MM} {h0 : Nat} {x1 : Int32} (hk0 : mK μ h0 = 4) (hf : fX3_canMake h0 x1 μ = some res) : Met l yX3_canMake [.code yX3_canMake cX3_canMake 2 (some (.boolean))] rmX3_canMake (mmPc G A μ [rf h0, .int x1]) (mmQ G A res.2 (some (.int res.1))) 0 0 A := by
  refine mm_ofW (by decide +kernel) (by simp [lg_sl, rf_cat, int_cat]) ?_
  intro p e s m below meth c ls S hR hA hS hr hlocks hl hnm
  have hl : lv_has ls 2 [(0, rf h0), (1, .int x1)] := by simpa [lv_args, rf_cat, int_cat] using hl
  have E0 : mmEnv p m c cX3_canMake 2 s _ RX3 G A meth (some (.boolean)) := ⟨S, hA, hr, hlocks⟩
  have hK : mmKN μ μ := mmKN.rf
  unfold fX3_canMake at hf
  refine mm_aload_n S dX3_canMake_0 rfl (lv_at hl 0 rfl) ?_
  refine mm_getp S hR fdX3_34 (hK.k hk0) rfl dX3_canMake_1 ?_
  refine lv_iload_n S.1 S.2.1 dX3_canMake_4 rfl (lv_at hl 1 rfl) ?_
  obtain ⟨g2, hf⟩ := gd hf
  obtain ⟨y1, hy1, hf⟩ := bd hf
  refine mm_callVi S hR hS hA (As := [.int x1]) (rest := []) cvX3_88 (hK.k g2) (kX0_has_c l G A (hK.k g2) hy1) rfl rfl ⟨Nat.le_of_ble_eq_true rfl, Nat.le_of_ble_eq_true rfl⟩ rfl hl.1 rfl (lv_room (by simp [rf_cat, int_cat])) dX3_canMake_5 ⟨Nat.le_refl _, Nat.le_refl _⟩ (fun H locs hR hS => ?_)
  have hK : mmKN μ y1.2 := hK.tr (kX0_has_kn hy1)
  refine lv_if_eq (tgt := 22) S.1 S.2.1 dX3_canMake_8 (by decide) (fun c3 => ?_) (fun c3 => ?_)
  · have hf := it_t hf c3
    refine lv_iconst (v := 0) S.1 S.2.1 dX3_canMake_22 (by decide) ?_
    obtain rfl := Option.some.inj hf
    exact mm_zret S hR hS hr hlocks (Or.inl rfl) dX3_canMake_23
  · have hf := it_f hf c3
    refine mm_aload_n S dX3_canMake_11 rfl (lv_at hl 0 rfl) ?_
    obtain ⟨y4, hy4, hf⟩ := bd hf
    refine mm_callVi S hR hS hA (As := []) (rest := []) cvX3_94 (hK.k hk0) (kX3_isFull_c l G A (hK.k hk0) hy4) rfl rfl ⟨Nat.le_of_ble_eq_true rfl, Nat.le_of_ble_eq_true rfl⟩ rfl hl.1 rfl (lv_room (by simp [rf_cat, int_cat])) dX3_canMake_12 ⟨Nat.le_refl _, Nat.le_refl _⟩ (fun H locs hR hS => ?_)
    have hK : mmKN μ y4.2 := hK.tr (kX3_isFull_kn hy4)
    refine lv_if_ne (tgt := 22) S.1 S.2.1 dX3_canMake_15 (by decide) (fun c5 => ?_) (fun c5 => ?_)
    · have hf := it_f hf c5
      refine lv_iconst (v := 0) S.1 S.2.1 dX3_canMake_22 (by decide) ?_
      obtain rfl := Option.some.inj hf
      exact mm_zret S hR hS hr hlocks (Or.inl rfl) dX3_canMake_23
    · have hf := it_t hf c5
      refine lv_iconst (v := 1) S.1 S.2.1 dX3_canMake_18 (by decide) ?_
      refine lv_goto (tgt := 23) S.1 S.2.1 dX3_canMake_19 (by decide) ?_
      obtain rfl := Option.some.inj hf
      exact mm_zret S hR hS hr hlocks (Or.inr rfl) dX3_canMake_23
-- X3_make
def fX3_make (h0 : Nat) (x1 : Int32) (x2 : Int32) (x3 : Int32) (μ : MM) : Option (Nat × MM) :=
  (fX3_at h0 (mI μ h0 5) μ).bind fun y1 => if mK μ y1.1 = 3 then (fX2_becomeNew y1.1 x1 x2 x3 y1.2).bind fun y2 => st (sI y2 h0 5 ((mI y2 h0 5) + 1)) fun μ4 => if x2 = (1 : Int32) then (if mK μ (mP μ4 h0 3) = 5 then (fX4_add (mP μ4 h0 3) (mI μ4 y1.1 0) μ4).bind fun y6 => some (y1.1, y6) else none) else (some (y1.1, μ4)) else none
set_option maxRecDepth 100000 in
set_option maxHeartbeats 4000000 in
theorem kX3_make_kn {μ : MM} {res : Nat × MM} {h0 : Nat} {x1 : Int32} {x2 : Int32} {x3 : Int32} (hf : fX3_make h0 x1 x2 x3 μ = some res) : mmKN μ res.2 := by
  have hK : mmKN μ μ := mmKN.rf
  unfold fX3_make at hf
  obtain ⟨y1, hy1, hf⟩ := bd hf
  have hK : mmKN μ y1.2 := hK.tr (kX3_at_kn hy1)
  obtain ⟨g3, hf⟩ := gd hf
  obtain ⟨y2, hy2, hf⟩ := bd hf
  have hK : mmKN μ y2 := hK.tr (kX2_becomeNew_kn hy2)
  obtain ⟨μ4, e4, hf⟩ := stx hf
  have hK : mmKN μ μ4 := by rw [e4]; exact hK.sI
  rcases it_or hf with ⟨c5, hf⟩ | ⟨c5, hf⟩
  · skip
    obtain ⟨g7, hf⟩ := gd hf
    obtain ⟨y6, hy6, hf⟩ := bd hf
    have hK : mmKN μ y6 := hK.tr (kX4_add_kn hy6)
    obtain rfl := Option.some.inj hf
    exact hK
  · skip
    obtain rfl := Option.some.inj hf
    exact hK
abbrev rmX3_make : Room := { frames := 1, cells := 0, slots := 0, locals := 24 }
set_option maxRecDepth 100000 in
set_option maxHeartbeats 4000000 in
theorem kX3_make_c (l : Launch) (G : mmG) (A : Nat → Prop) {μ : MM} {res : Nat × MM} {h0 : Nat} {x1 : Int32} {x2 : Int32} {x3 : Int32} (hk0 : mK μ h0 = 4) (hf : fX3_make h0 x1 x2 x3 μ = some res) : Met l yX3_make [.code yX3_make cX3_make 5 (some (.object "YieldMoor$Coroutine"))] rmX3_make (mmPc G A μ [rf h0, .int x1, .int x2, .int x3]) (mmQ G A res.2 (some (rf res.1))) 0 0 A := by
  refine mm_ofW (by decide +kernel) (by simp [lg_sl, rf_cat, int_cat]) ?_
  intro p e s m below meth c ls S hR hA hS hr hlocks hl hnm
  have hl : lv_has ls 5 [(0, rf h0), (1, .int x1), (2, .int x2), (3, .int x3)] := by simpa [lv_args, rf_cat, int_cat] using hl
  have E0 : mmEnv p m c cX3_make 5 s _ RX3 G A meth (some (.object "YieldMoor$Coroutine")) := ⟨S, hA, hr, hlocks⟩
  have hK : mmKN μ μ := mmKN.rf
  unfold fX3_make at hf
  refine mm_aload_n S dX3_make_0 rfl (lv_at hl 0 rfl) ?_
  refine mm_aload_n S dX3_make_1 rfl (lv_at hl 0 rfl) ?_
  refine mm_geti S hR fdX3_41 (hK.k hk0) rfl dX3_make_2 ?_
  obtain ⟨y1, hy1, hf⟩ := bd hf
  refine mm_callVh S hR hS hA (As := [.int (mI μ h0 5)]) (rest := []) cvX3_55 (hK.k hk0) (kX3_at_c l G A (hK.k hk0) hy1) rfl rfl ⟨Nat.le_of_ble_eq_true rfl, Nat.le_of_ble_eq_true rfl⟩ rfl hl.1 rfl (lv_room (by simp [rf_cat, int_cat])) dX3_make_5 ⟨Nat.le_refl _, Nat.le_refl _⟩ (fun H locs hR hS => ?_)
  have hK : mmKN μ y1.2 := hK.tr (kX3_at_kn hy1)
  refine mm_astore (i := 4) (lv' := [(4, rf y1.1), (0, rf h0), (1, .int x1), (2, .int x2), (3, .int x3)]) S dX3_make_8 hl (by decide) rfl (fun ls hl => ?_)
  refine mm_aload S dX3_make_10 (lv_at hl 0 rfl) ?_
  refine lv_iload_n S.1 S.2.1 dX3_make_12 rfl (lv_at hl 2 rfl) ?_
  refine lv_iload_n S.1 S.2.1 dX3_make_13 rfl (lv_at hl 3 rfl) ?_
  refine lv_iload_n S.1 S.2.1 dX3_make_14 rfl (lv_at hl 4 rfl) ?_
  obtain ⟨g3, hf⟩ := gd hf
  obtain ⟨y2, hy2, hf⟩ := bd hf
  refine mm_callVv S hR hS hA (As := [.int x1, .int x2, .int x3]) (rest := []) cvX3_97 (hK.k g3) (kX2_becomeNew_c l G A (hK.k g3) hy2) rfl rfl ⟨Nat.le_of_ble_eq_true rfl, Nat.le_of_ble_eq_true rfl⟩ rfl hl.1 rfl (lv_room (by simp [rf_cat, int_cat])) dX3_make_15 ⟨Nat.le_refl _, Nat.le_refl _⟩ (fun H locs hR hS => ?_)
  have hK : mmKN μ y2 := hK.tr (kX2_becomeNew_kn hy2)
  refine mm_aload_n S dX3_make_18 rfl (lv_at hl 1 rfl) ?_
  refine lv_dup S.1 S.2.1 dX3_make_19 (rf_cat _) ?_
  refine mm_geti S hR fdX3_41 (hK.k hk0) rfl dX3_make_20 ?_
  refine lv_iconst (v := 1) S.1 S.2.1 dX3_make_23 (by decide) ?_
  refine lv_iadd S.1 S.2.1 dX3_make_24 ?_
  refine mm_puti S hR hS fpX3_41 (hK.k hk0) rfl rfl rfl dX3_make_25 (fun H locs hR hS => ?_)
  obtain ⟨μ4, e4, hf⟩ := stx hf
  rw [← e4] at hR
  have hK : mmKN μ μ4 := by rw [e4]; exact hK.sI
  refine lv_iload_n S.1 S.2.1 dX3_make_28 rfl (lv_at hl 3 rfl) ?_
  refine lv_iconst (v := 1) S.1 S.2.1 dX3_make_29 (by decide) ?_
  refine lv_icmp_ne (tgt := 45) S.1 S.2.1 dX3_make_30 (by decide) (fun c5 => ?_) (fun c5 => ?_)
  · have hf := it_f hf c5
    refine mm_aload S dX3_make_45 (lv_at hl 0 rfl) ?_
    obtain rfl := Option.some.inj hf
    exact mm_aret S hR hS hr hlocks dX3_make_47
  · have hf := it_t hf c5
    refine mm_aload_n S dX3_make_33 rfl (lv_at hl 1 rfl) ?_
    refine mm_getp S hR fdX3_27 (hK.k hk0) rfl dX3_make_34 ?_
    refine mm_aload S dX3_make_37 (lv_at hl 0 rfl) ?_
    refine mm_geti S hR fdX3_101 (hK.k g3) rfl dX3_make_39 ?_
    obtain ⟨g7, hf⟩ := gd hf
    obtain ⟨y6, hy6, hf⟩ := bd hf
    refine mm_callVv S hR hS hA (As := [.int (mI μ4 y1.1 0)]) (rest := []) cvX3_104 (hK.k g7) (kX4_add_c l G A (hK.k g7) hy6) rfl rfl ⟨Nat.le_of_ble_eq_true rfl, Nat.le_of_ble_eq_true rfl⟩ rfl hl.1 rfl (lv_room (by simp [rf_cat, int_cat])) dX3_make_42 ⟨Nat.le_refl _, Nat.le_refl _⟩ (fun H locs hR hS => ?_)
    have hK : mmKN μ y6 := hK.tr (kX4_add_kn hy6)
    refine mm_aload S dX3_make_45 (lv_at hl 0 rfl) ?_
    obtain rfl := Option.some.inj hf
    exact mm_aret S hR hS hr hlocks dX3_make_47
-- X3_copyFrom
def bX3_copyFrom_48 (kk48 : Nat → Nat → Int32 → MM → Option (MM)) (h0 : Nat) (h1 : Nat) (x2 : Int32) (μ : MM) : Option (MM) :=
  if mK μ h0 = 4 then if (mI μ h0 5) ≤ x2 then (some μ) else ((fX3_at h0 x2 μ).bind fun y3 => if mK μ h1 = 4 then (fX3_at h1 x2 y3.2).bind fun y4 => if mK μ y3.1 = 3 then (fX2_copyFrom y3.1 y4.1 y4.2).bind fun y6 => kk48 h0 h1 (x2 + 1) y6 else none else none) else none
def lX3_copyFrom_48  : Nat → Nat → Nat → Int32 → MM → Option (MM)
  | 0, _, _, _, _ => none
  | n + 1, h0, h1, x2, μ => bX3_copyFrom_48  (fun h0 h1 x2 μ => lX3_copyFrom_48  n h0 h1 x2 μ) h0 h1 x2 μ
def fX3_copyFrom (h0 : Nat) (h1 : Nat) (μ : MM) : Option (MM) :=
  if mK μ h1 = 4 then st (sI μ h0 5 (mI μ h1 5)) fun μ2 => st (sI μ2 h0 6 (mI μ2 h1 6)) fun μ3 => st (sI μ3 h0 7 (mI μ3 h1 7)) fun μ4 => if mK μ (mP μ4 h0 3) = 5 then (fX4_copyFrom (mP μ4 h0 3) (mP μ4 h1 3) μ4).bind fun y5 => if mK μ (mP y5 h0 4) = 5 then (fX4_copyFrom (mP y5 h0 4) (mP y5 h1 4) y5).bind fun y7 => lX3_copyFrom_48  FU h0 h1 0 y7 else none else none else none
set_option maxRecDepth 100000 in
set_option maxHeartbeats 4000000 in
theorem knbX3_copyFrom_48 (kk48 : Nat → Nat → Int32 → MM → Option (MM)) (hkk48 : ∀ (h0 : Nat) (h1 : Nat) (x2 : Int32) (μ : MM) (res : MM), kk48 h0 h1 x2 μ = some res → mmKN μ res) : ∀ (h0 : Nat) (h1 : Nat) (x2 : Int32) (μ : MM) (res : MM), bX3_copyFrom_48 kk48 h0 h1 x2 μ = some res → mmKN μ res := by
  intro h0 h1 x2 μ res hf
  have hK : mmKN μ μ := mmKN.rf
  unfold bX3_copyFrom_48 at hf
  obtain ⟨g1, hf⟩ := gd hf
  rcases it_or hf with ⟨c2, hf⟩ | ⟨c2, hf⟩
  · skip
    obtain rfl := Option.some.inj hf
    exact hK
  · skip
    obtain ⟨y3, hy3, hf⟩ := bd hf
    have hK : mmKN μ y3.2 := hK.tr (kX3_at_kn hy3)
    obtain ⟨g5, hf⟩ := gd hf
    obtain ⟨y4, hy4, hf⟩ := bd hf
    have hK : mmKN μ y4.2 := hK.tr (kX3_at_kn hy4)
    obtain ⟨g7, hf⟩ := gd hf
    obtain ⟨y6, hy6, hf⟩ := bd hf
    have hK : mmKN μ y6 := hK.tr (kX2_copyFrom_kn hy6)
    exact hK.tr (hkk48 h0 h1 (x2 + 1) y6 _ hf)
theorem knlX3_copyFrom_48  : ∀ (n : Nat) (h0 : Nat) (h1 : Nat) (x2 : Int32) (μ : MM) (res : MM), lX3_copyFrom_48  n h0 h1 x2 μ = some res → mmKN μ res := by
  intro n
  induction n with
  | zero => intro h0 h1 x2 μ res hf; cases hf
  | succ n ih => intro h0 h1 x2 μ res hf; exact knbX3_copyFrom_48  _ ih h0 h1 x2 μ res hf
set_option maxRecDepth 100000 in
set_option maxHeartbeats 4000000 in
theorem kX3_copyFrom_kn {μ : MM} {res : MM} {h0 : Nat} {h1 : Nat} (hf : fX3_copyFrom h0 h1 μ = some res) : mmKN μ res := by
  have hK : mmKN μ μ := mmKN.rf
  unfold fX3_copyFrom at hf
  obtain ⟨g1, hf⟩ := gd hf
  obtain ⟨μ2, e2, hf⟩ := stx hf
  have hK : mmKN μ μ2 := by rw [e2]; exact hK.sI
  obtain ⟨μ3, e3, hf⟩ := stx hf
  have hK : mmKN μ μ3 := by rw [e3]; exact hK.sI
  obtain ⟨μ4, e4, hf⟩ := stx hf
  have hK : mmKN μ μ4 := by rw [e4]; exact hK.sI
  obtain ⟨g6, hf⟩ := gd hf
  obtain ⟨y5, hy5, hf⟩ := bd hf
  have hK : mmKN μ y5 := hK.tr (kX4_copyFrom_kn hy5)
  obtain ⟨g8, hf⟩ := gd hf
  obtain ⟨y7, hy7, hf⟩ := bd hf
  have hK : mmKN μ y7 := hK.tr (kX4_copyFrom_kn hy7)
  exact hK.tr (knlX3_copyFrom_48  FU h0 h1 0 y7 _ hf)
abbrev rmX3_copyFrom : Room := { frames := 3, cells := 0, slots := 0, locals := 68 }
set_option maxRecDepth 100000 in
set_option maxHeartbeats 4000000 in
theorem wbX3_copyFrom_48 {p : Program} {l : Launch} {e : Env} {s : State} {m : MethodId} {args : Array Value} {below : List Frame} {meth : Method} {c : Code} {G : mmG} {A : Nat → Prop} {res : MM} (E0 : mmEnv p m c cX3_copyFrom 3 s args RX3 G A meth none) (kk48 : Nat → Nat → Int32 → MM → Option (MM)) (hkk48 : ∀ (h0 : Nat) (h1 : Nat) (x2 : Int32) (μ : MM), kk48 h0 h1 x2 μ = some res → mmGoal p l e rmX3_copyFrom s m args below meth c G A 48 3 [(0, rf h0), (1, rf h1), (2, .int x2)] μ (mmQ G A res none)) : ∀ (h0 : Nat) (h1 : Nat) (x2 : Int32) (μ : MM), bX3_copyFrom_48 kk48 h0 h1 x2 μ = some res → mmGoal p l e rmX3_copyFrom s m args below meth c G A 48 3 [(0, rf h0), (1, rf h1), (2, .int x2)] μ (mmQ G A res none) := by
  obtain ⟨S, hA, hr, hlocks⟩ := id E0
  intro h0 h1 x2 μ hf H locs ls hR hS hl
  have hK : mmKN μ μ := mmKN.rf
  unfold bX3_copyFrom_48 at hf
  refine lv_iload_n S.1 S.2.1 dX3_copyFrom_48 rfl (lv_at hl 2 rfl) ?_
  refine mm_aload_n S dX3_copyFrom_49 rfl (lv_at hl 0 rfl) ?_
  obtain ⟨g1, hf⟩ := gd hf
  refine mm_geti S hR fdX3_41 (hK.k g1) rfl dX3_copyFrom_50 ?_
  refine lv_icmp_ge (tgt := 75) S.1 S.2.1 dX3_copyFrom_53 (by decide) (fun c2 => ?_) (fun c2 => ?_)
  · have hf := it_t hf c2
    obtain rfl := Option.some.inj hf
    exact mm_vret S hR hS hr hlocks dX3_copyFrom_75
  · have hf := it_f hf c2
    refine mm_aload_n S dX3_copyFrom_56 rfl (lv_at hl 0 rfl) ?_
    refine lv_iload_n S.1 S.2.1 dX3_copyFrom_57 rfl (lv_at hl 2 rfl) ?_
    obtain ⟨y3, hy3, hf⟩ := bd hf
    refine mm_callVh S hR hS hA (As := [.int x2]) (rest := []) cvX3_55 (hK.k g1) (kX3_at_c l G A (hK.k g1) hy3) rfl rfl ⟨Nat.le_of_ble_eq_true rfl, Nat.le_of_ble_eq_true rfl⟩ rfl hl.1 rfl (lv_room (by simp [rf_cat, int_cat])) dX3_copyFrom_58 ⟨Nat.le_refl _, Nat.le_refl _⟩ (fun H locs hR hS => ?_)
    have hK : mmKN μ y3.2 := hK.tr (kX3_at_kn hy3)
    refine mm_aload_n S dX3_copyFrom_61 rfl (lv_at hl 1 rfl) ?_
    refine lv_iload_n S.1 S.2.1 dX3_copyFrom_62 rfl (lv_at hl 2 rfl) ?_
    obtain ⟨g5, hf⟩ := gd hf
    obtain ⟨y4, hy4, hf⟩ := bd hf
    refine mm_callVh S hR hS hA (As := [.int x2]) (rest := [rf y3.1]) cvX3_55 (hK.k g5) (kX3_at_c l G A (hK.k g5) hy4) rfl rfl ⟨Nat.le_of_ble_eq_true rfl, Nat.le_of_ble_eq_true rfl⟩ rfl hl.1 rfl (lv_room (by simp [rf_cat, int_cat])) dX3_copyFrom_63 ⟨Nat.le_refl _, Nat.le_refl _⟩ (fun H locs hR hS => ?_)
    have hK : mmKN μ y4.2 := hK.tr (kX3_at_kn hy4)
    obtain ⟨g7, hf⟩ := gd hf
    obtain ⟨y6, hy6, hf⟩ := bd hf
    refine mm_callVv S hR hS hA (As := [rf y4.1]) (rest := []) cvX3_59 (hK.k g7) (kX2_copyFrom_c l G A (hK.k g7) hy6) rfl rfl ⟨Nat.le_of_ble_eq_true rfl, Nat.le_of_ble_eq_true rfl⟩ rfl hl.1 rfl (lv_room (by simp [rf_cat, int_cat])) dX3_copyFrom_66 ⟨Nat.le_refl _, Nat.le_refl _⟩ (fun H locs hR hS => ?_)
    have hK : mmKN μ y6 := hK.tr (kX2_copyFrom_kn hy6)
    refine lv_iinc (v := (x2 + 1)) (lv' := [(2, .int (x2 + 1)), (0, rf h0), (1, rf h1)]) S.1 S.2.1 dX3_copyFrom_69 hl (k := 2) rfl (by rfl) (by decide) (by simp [rf_cat]) (fun ls hl => ?_)
    refine lv_goto (tgt := 48) S.1 S.2.1 dX3_copyFrom_72 (by decide) ?_
    exact hkk48 h0 h1 (x2 + 1) y6 hf _ _ _ hR hS (lv_sub hl [1, 2, 0] rfl)
theorem wlX3_copyFrom_48 {p : Program} {l : Launch} {e : Env} {s : State} {m : MethodId} {args : Array Value} {below : List Frame} {meth : Method} {c : Code} {G : mmG} {A : Nat → Prop} {res : MM} (E0 : mmEnv p m c cX3_copyFrom 3 s args RX3 G A meth none)  : ∀ (n : Nat) (h0 : Nat) (h1 : Nat) (x2 : Int32) (μ : MM), lX3_copyFrom_48  n h0 h1 x2 μ = some res → mmGoal p l e rmX3_copyFrom s m args below meth c G A 48 3 [(0, rf h0), (1, rf h1), (2, .int x2)] μ (mmQ G A res none) := by
  intro n
  induction n with
  | zero => intro h0 h1 x2 μ hf; cases hf
  | succ n ih => intro h0 h1 x2 μ hf; exact wbX3_copyFrom_48 E0  _ ih h0 h1 x2 μ hf
set_option maxRecDepth 100000 in
set_option maxHeartbeats 4000000 in
theorem kX3_copyFrom_c (l : Launch) (G : mmG) (A : Nat → Prop) {μ : MM} {res : MM} {h0 : Nat} {h1 : Nat} (hk0 : mK μ h0 = 4) (hf : fX3_copyFrom h0 h1 μ = some res) : Met l yX3_copyFrom [.code yX3_copyFrom cX3_copyFrom 3 none] rmX3_copyFrom (mmPc G A μ [rf h0, rf h1]) (mmQ G A res none) 0 0 A := by
  refine mm_ofW (by decide +kernel) (by simp [lg_sl, rf_cat, int_cat]) ?_
  intro p e s m below meth c ls S hR hA hS hr hlocks hl hnm
  have hl : lv_has ls 3 [(0, rf h0), (1, rf h1)] := by simpa [lv_args, rf_cat, int_cat] using hl
  have E0 : mmEnv p m c cX3_copyFrom 3 s _ RX3 G A meth none := ⟨S, hA, hr, hlocks⟩
  have hK : mmKN μ μ := mmKN.rf
  unfold fX3_copyFrom at hf
  refine mm_aload_n S dX3_copyFrom_0 rfl (lv_at hl 0 rfl) ?_
  refine mm_aload_n S dX3_copyFrom_1 rfl (lv_at hl 1 rfl) ?_
  obtain ⟨g1, hf⟩ := gd hf
  refine mm_geti S hR fdX3_41 (hK.k g1) rfl dX3_copyFrom_2 ?_
  refine mm_puti S hR hS fpX3_41 (hK.k hk0) rfl rfl rfl dX3_copyFrom_5 (fun H locs hR hS => ?_)
  obtain ⟨μ2, e2, hf⟩ := stx hf
  rw [← e2] at hR
  have hK : mmKN μ μ2 := by rw [e2]; exact hK.sI
  refine mm_aload_n S dX3_copyFrom_8 rfl (lv_at hl 0 rfl) ?_
  refine mm_aload_n S dX3_copyFrom_9 rfl (lv_at hl 1 rfl) ?_
  refine mm_geti S hR fdX3_45 (hK.k g1) rfl dX3_copyFrom_10 ?_
  refine mm_puti S hR hS fpX3_45 (hK.k hk0) rfl rfl rfl dX3_copyFrom_13 (fun H locs hR hS => ?_)
  obtain ⟨μ3, e3, hf⟩ := stx hf
  rw [← e3] at hR
  have hK : mmKN μ μ3 := by rw [e3]; exact hK.sI
  refine mm_aload_n S dX3_copyFrom_16 rfl (lv_at hl 0 rfl) ?_
  refine mm_aload_n S dX3_copyFrom_17 rfl (lv_at hl 1 rfl) ?_
  refine mm_geti S hR fdX3_48 (hK.k g1) rfl dX3_copyFrom_18 ?_
  refine mm_puti S hR hS fpX3_48 (hK.k hk0) rfl rfl rfl dX3_copyFrom_21 (fun H locs hR hS => ?_)
  obtain ⟨μ4, e4, hf⟩ := stx hf
  rw [← e4] at hR
  have hK : mmKN μ μ4 := by rw [e4]; exact hK.sI
  refine mm_aload_n S dX3_copyFrom_24 rfl (lv_at hl 0 rfl) ?_
  refine mm_getp S hR fdX3_27 (hK.k hk0) rfl dX3_copyFrom_25 ?_
  refine mm_aload_n S dX3_copyFrom_28 rfl (lv_at hl 1 rfl) ?_
  refine mm_getp S hR fdX3_27 (hK.k g1) rfl dX3_copyFrom_29 ?_
  obtain ⟨g6, hf⟩ := gd hf
  obtain ⟨y5, hy5, hf⟩ := bd hf
  refine mm_callVv S hR hS hA (As := [rf (mP μ4 h1 3)]) (rest := []) cvX3_51 (hK.k g6) (kX4_copyFrom_c l G A (hK.k g6) hy5) rfl rfl ⟨Nat.le_of_ble_eq_true rfl, Nat.le_of_ble_eq_true rfl⟩ rfl hl.1 rfl (lv_room (by simp [rf_cat, int_cat])) dX3_copyFrom_32 ⟨Nat.le_refl _, Nat.le_refl _⟩ (fun H locs hR hS => ?_)
  have hK : mmKN μ y5 := hK.tr (kX4_copyFrom_kn hy5)
  refine mm_aload_n S dX3_copyFrom_35 rfl (lv_at hl 0 rfl) ?_
  refine mm_getp S hR fdX3_31 (hK.k hk0) rfl dX3_copyFrom_36 ?_
  refine mm_aload_n S dX3_copyFrom_39 rfl (lv_at hl 1 rfl) ?_
  refine mm_getp S hR fdX3_31 (hK.k g1) rfl dX3_copyFrom_40 ?_
  obtain ⟨g8, hf⟩ := gd hf
  obtain ⟨y7, hy7, hf⟩ := bd hf
  refine mm_callVv S hR hS hA (As := [rf (mP y5 h1 4)]) (rest := []) cvX3_51 (hK.k g8) (kX4_copyFrom_c l G A (hK.k g8) hy7) rfl rfl ⟨Nat.le_of_ble_eq_true rfl, Nat.le_of_ble_eq_true rfl⟩ rfl hl.1 rfl (lv_room (by simp [rf_cat, int_cat])) dX3_copyFrom_43 ⟨Nat.le_refl _, Nat.le_refl _⟩ (fun H locs hR hS => ?_)
  have hK : mmKN μ y7 := hK.tr (kX4_copyFrom_kn hy7)
  refine lv_iconst (v := 0) S.1 S.2.1 dX3_copyFrom_46 (by decide) ?_
  refine lv_istore_n (i := 2) (lv' := [(2, .int 0), (0, rf h0), (1, rf h1)]) S.1 S.2.1 dX3_copyFrom_47 rfl hl (by decide) (by simp [rf_cat]) (fun ls hl => ?_)
  exact wlX3_copyFrom_48 E0  FU h0 h1 0 y7 hf _ _ _ hR hS (lv_sub hl [1, 2, 0] rfl)
-- X3_beginCall
def fX3_beginCall (h0 : Nat) (x1 : Int32) (μ : MM) : Option (MM) :=
  st (sI μ h0 9 x1) fun μ1 => st (sI μ1 h0 10 0) fun μ2 => st (sI μ2 h0 11 0) fun μ3 => some μ3
set_option maxRecDepth 100000 in
set_option maxHeartbeats 4000000 in
theorem kX3_beginCall_kn {μ : MM} {res : MM} {h0 : Nat} {x1 : Int32} (hf : fX3_beginCall h0 x1 μ = some res) : mmKN μ res := by
  have hK : mmKN μ μ := mmKN.rf
  unfold fX3_beginCall at hf
  obtain ⟨μ1, e1, hf⟩ := stx hf
  have hK : mmKN μ μ1 := by rw [e1]; exact hK.sI
  obtain ⟨μ2, e2, hf⟩ := stx hf
  have hK : mmKN μ μ2 := by rw [e2]; exact hK.sI
  obtain ⟨μ3, e3, hf⟩ := stx hf
  have hK : mmKN μ μ3 := by rw [e3]; exact hK.sI
  obtain rfl := Option.some.inj hf
  exact hK
abbrev rmX3_beginCall : Room := { frames := 0, cells := 0, slots := 0, locals := 0 }
set_option maxRecDepth 100000 in
set_option maxHeartbeats 4000000 in
theorem kX3_beginCall_c (l : Launch) (G : mmG) (A : Nat → Prop) {μ : MM} {res : MM} {h0 : Nat} {x1 : Int32} (hk0 : mK μ h0 = 4) (hf : fX3_beginCall h0 x1 μ = some res) : Met l yX3_beginCall [.code yX3_beginCall cX3_beginCall 2 none] rmX3_beginCall (mmPc G A μ [rf h0, .int x1]) (mmQ G A res none) 0 0 A := by
  refine mm_ofW (by decide +kernel) (by simp [lg_sl, rf_cat, int_cat]) ?_
  intro p e s m below meth c ls S hR hA hS hr hlocks hl hnm
  have hl : lv_has ls 2 [(0, rf h0), (1, .int x1)] := by simpa [lv_args, rf_cat, int_cat] using hl
  have E0 : mmEnv p m c cX3_beginCall 2 s _ RX3 G A meth none := ⟨S, hA, hr, hlocks⟩
  have hK : mmKN μ μ := mmKN.rf
  unfold fX3_beginCall at hf
  refine mm_aload_n S dX3_beginCall_0 rfl (lv_at hl 0 rfl) ?_
  refine lv_iload_n S.1 S.2.1 dX3_beginCall_1 rfl (lv_at hl 1 rfl) ?_
  refine mm_puti S hR hS fpX3_202 (hK.k hk0) rfl rfl rfl dX3_beginCall_2 (fun H locs hR hS => ?_)
  obtain ⟨μ1, e1, hf⟩ := stx hf
  rw [← e1] at hR
  have hK : mmKN μ μ1 := by rw [e1]; exact hK.sI
  refine mm_aload_n S dX3_beginCall_5 rfl (lv_at hl 0 rfl) ?_
  refine lv_iconst (v := 0) S.1 S.2.1 dX3_beginCall_6 (by decide) ?_
  refine mm_puti S hR hS fpX3_205 (hK.k hk0) rfl rfl rfl dX3_beginCall_7 (fun H locs hR hS => ?_)
  obtain ⟨μ2, e2, hf⟩ := stx hf
  rw [← e2] at hR
  have hK : mmKN μ μ2 := by rw [e2]; exact hK.sI
  refine mm_aload_n S dX3_beginCall_10 rfl (lv_at hl 0 rfl) ?_
  refine lv_iconst (v := 0) S.1 S.2.1 dX3_beginCall_11 (by decide) ?_
  refine mm_puti S hR hS fpX3_208 (hK.k hk0) rfl rfl rfl dX3_beginCall_12 (fun H locs hR hS => ?_)
  obtain ⟨μ3, e3, hf⟩ := stx hf
  rw [← e3] at hR
  have hK : mmKN μ μ3 := by rw [e3]; exact hK.sI
  obtain rfl := Option.some.inj hf
  exact mm_vret S hR hS hr hlocks dX3_beginCall_15
-- X3_inmostOf
def bX3_inmostOf_4 (kk4 : Nat → Nat → Int32 → MM → Option (Nat × MM)) (h0 : Nat) (h2 : Nat) (x3 : Int32) (μ : MM) : Option (Nat × MM) :=
  if (24 : Int32) ≤ x3 then (some (h2, μ)) else (if mK μ h2 = 3 then if mK μ h0 = 4 then (fX3_isMade h0 (mI μ h2 9) μ).bind fun y3 => if y3.1 = 0 then (some (h2, y3.2)) else ((fX3_at h0 (mI y3.2 h2 9) y3.2).bind fun y6 => kk4 h0 y6.1 (x3 + 1) y6.2) else none else none)
def lX3_inmostOf_4  : Nat → Nat → Nat → Int32 → MM → Option (Nat × MM)
  | 0, _, _, _, _ => none
  | n + 1, h0, h2, x3, μ => bX3_inmostOf_4  (fun h0 h2 x3 μ => lX3_inmostOf_4  n h0 h2 x3 μ) h0 h2 x3 μ
def fX3_inmostOf (h0 : Nat) (h1 : Nat) (μ : MM) : Option (Nat × MM) :=
  lX3_inmostOf_4  FU h0 h1 0 μ
set_option maxRecDepth 100000 in
set_option maxHeartbeats 4000000 in
theorem knbX3_inmostOf_4 (kk4 : Nat → Nat → Int32 → MM → Option (Nat × MM)) (hkk4 : ∀ (h0 : Nat) (h2 : Nat) (x3 : Int32) (μ : MM) (res : Nat × MM), kk4 h0 h2 x3 μ = some res → mmKN μ res.2) : ∀ (h0 : Nat) (h2 : Nat) (x3 : Int32) (μ : MM) (res : Nat × MM), bX3_inmostOf_4 kk4 h0 h2 x3 μ = some res → mmKN μ res.2 := by
  intro h0 h2 x3 μ res hf
  have hK : mmKN μ μ := mmKN.rf
  unfold bX3_inmostOf_4 at hf
  rcases it_or hf with ⟨c1, hf⟩ | ⟨c1, hf⟩
  · skip
    obtain rfl := Option.some.inj hf
    exact hK
  · skip
    obtain ⟨g2, hf⟩ := gd hf
    obtain ⟨g4, hf⟩ := gd hf
    obtain ⟨y3, hy3, hf⟩ := bd hf
    have hK : mmKN μ y3.2 := hK.tr (kX3_isMade_kn hy3)
    rcases it_or hf with ⟨c5, hf⟩ | ⟨c5, hf⟩
    · skip
      obtain rfl := Option.some.inj hf
      exact hK
    · skip
      obtain ⟨y6, hy6, hf⟩ := bd hf
      have hK : mmKN μ y6.2 := hK.tr (kX3_at_kn hy6)
      exact hK.tr (hkk4 h0 y6.1 (x3 + 1) y6.2 _ hf)
theorem knlX3_inmostOf_4  : ∀ (n : Nat) (h0 : Nat) (h2 : Nat) (x3 : Int32) (μ : MM) (res : Nat × MM), lX3_inmostOf_4  n h0 h2 x3 μ = some res → mmKN μ res.2 := by
  intro n
  induction n with
  | zero => intro h0 h2 x3 μ res hf; cases hf
  | succ n ih => intro h0 h2 x3 μ res hf; exact knbX3_inmostOf_4  _ ih h0 h2 x3 μ res hf
set_option maxRecDepth 100000 in
set_option maxHeartbeats 4000000 in
theorem kX3_inmostOf_kn {μ : MM} {res : Nat × MM} {h0 : Nat} {h1 : Nat} (hf : fX3_inmostOf h0 h1 μ = some res) : mmKN μ res.2 := by
  have hK : mmKN μ μ := mmKN.rf
  unfold fX3_inmostOf at hf
  exact hK.tr (knlX3_inmostOf_4  FU h0 h1 0 μ _ hf)
abbrev rmX3_inmostOf : Room := { frames := 1, cells := 0, slots := 0, locals := 21 }
set_option maxRecDepth 100000 in
set_option maxHeartbeats 4000000 in
theorem wbX3_inmostOf_4 {p : Program} {l : Launch} {e : Env} {s : State} {m : MethodId} {args : Array Value} {below : List Frame} {meth : Method} {c : Code} {G : mmG} {A : Nat → Prop} {res : Nat × MM} (E0 : mmEnv p m c cX3_inmostOf 4 s args RX3 G A meth (some (.object "YieldMoor$Coroutine"))) (kk4 : Nat → Nat → Int32 → MM → Option (Nat × MM)) (hkk4 : ∀ (h0 : Nat) (h2 : Nat) (x3 : Int32) (μ : MM), kk4 h0 h2 x3 μ = some res → mmGoal p l e rmX3_inmostOf s m args below meth c G A 4 4 [(0, rf h0), (2, rf h2), (3, .int x3)] μ (mmQ G A res.2 (some (rf res.1)))) : ∀ (h0 : Nat) (h2 : Nat) (x3 : Int32) (μ : MM), bX3_inmostOf_4 kk4 h0 h2 x3 μ = some res → mmGoal p l e rmX3_inmostOf s m args below meth c G A 4 4 [(0, rf h0), (2, rf h2), (3, .int x3)] μ (mmQ G A res.2 (some (rf res.1))) := by
  obtain ⟨S, hA, hr, hlocks⟩ := id E0
  intro h0 h2 x3 μ hf H locs ls hR hS hl
  have hK : mmKN μ μ := mmKN.rf
  unfold bX3_inmostOf_4 at hf
  refine lv_iload_n S.1 S.2.1 dX3_inmostOf_4 rfl (lv_at hl 2 rfl) ?_
  refine lv_bipush (v := 24) S.1 S.2.1 dX3_inmostOf_5 (by decide) ?_
  refine lv_icmp_ge (tgt := 36) S.1 S.2.1 dX3_inmostOf_7 (by decide) (fun c1 => ?_) (fun c1 => ?_)
  · have hf := it_t hf c1
    refine mm_aload_n S dX3_inmostOf_36 rfl (lv_at hl 1 rfl) ?_
    obtain rfl := Option.some.inj hf
    exact mm_aret S hR hS hr hlocks dX3_inmostOf_37
  · have hf := it_f hf c1
    refine mm_aload_n S dX3_inmostOf_10 rfl (lv_at hl 0 rfl) ?_
    refine mm_aload_n S dX3_inmostOf_11 rfl (lv_at hl 1 rfl) ?_
    obtain ⟨g2, hf⟩ := gd hf
    refine mm_geti S hR fdX3_211 (hK.k g2) rfl dX3_inmostOf_12 ?_
    obtain ⟨g4, hf⟩ := gd hf
    obtain ⟨y3, hy3, hf⟩ := bd hf
    refine mm_callVi S hR hS hA (As := [.int (mI μ h2 9)]) (rest := []) cvX3_214 (hK.k g4) (kX3_isMade_c l G A (hK.k g4) hy3) rfl rfl ⟨Nat.le_of_ble_eq_true rfl, Nat.le_of_ble_eq_true rfl⟩ rfl hl.1 rfl (lv_room (by simp [rf_cat, int_cat])) dX3_inmostOf_15 ⟨Nat.le_refl _, Nat.le_refl _⟩ (fun H locs hR hS => ?_)
    have hK : mmKN μ y3.2 := hK.tr (kX3_isMade_kn hy3)
    refine lv_if_eq (tgt := 36) S.1 S.2.1 dX3_inmostOf_18 (by decide) (fun c5 => ?_) (fun c5 => ?_)
    · have hf := it_t hf c5
      refine mm_aload_n S dX3_inmostOf_36 rfl (lv_at hl 1 rfl) ?_
      obtain rfl := Option.some.inj hf
      exact mm_aret S hR hS hr hlocks dX3_inmostOf_37
    · have hf := it_f hf c5
      refine mm_aload_n S dX3_inmostOf_21 rfl (lv_at hl 0 rfl) ?_
      refine mm_aload_n S dX3_inmostOf_22 rfl (lv_at hl 1 rfl) ?_
      refine mm_geti S hR fdX3_211 (hK.k g2) rfl dX3_inmostOf_23 ?_
      obtain ⟨y6, hy6, hf⟩ := bd hf
      refine mm_callVh S hR hS hA (As := [.int (mI y3.2 h2 9)]) (rest := []) cvX3_55 (hK.k g4) (kX3_at_c l G A (hK.k g4) hy6) rfl rfl ⟨Nat.le_of_ble_eq_true rfl, Nat.le_of_ble_eq_true rfl⟩ rfl hl.1 rfl (lv_room (by simp [rf_cat, int_cat])) dX3_inmostOf_26 ⟨Nat.le_refl _, Nat.le_refl _⟩ (fun H locs hR hS => ?_)
      have hK : mmKN μ y6.2 := hK.tr (kX3_at_kn hy6)
      refine mm_astore_n (i := 2) (lv' := [(2, rf y6.1), (0, rf h0), (3, .int x3)]) S dX3_inmostOf_29 rfl hl (by decide) rfl (fun ls hl => ?_)
      refine lv_iinc (v := (x3 + 1)) (lv' := [(3, .int (x3 + 1)), (2, rf y6.1), (0, rf h0)]) S.1 S.2.1 dX3_inmostOf_30 hl (k := 2) rfl (by rfl) (by decide) (by simp [rf_cat]) (fun ls hl => ?_)
      refine lv_goto (tgt := 4) S.1 S.2.1 dX3_inmostOf_33 (by decide) ?_
      exact hkk4 h0 y6.1 (x3 + 1) y6.2 hf _ _ _ hR hS (lv_sub hl [2, 1, 0] rfl)
theorem wlX3_inmostOf_4 {p : Program} {l : Launch} {e : Env} {s : State} {m : MethodId} {args : Array Value} {below : List Frame} {meth : Method} {c : Code} {G : mmG} {A : Nat → Prop} {res : Nat × MM} (E0 : mmEnv p m c cX3_inmostOf 4 s args RX3 G A meth (some (.object "YieldMoor$Coroutine")))  : ∀ (n : Nat) (h0 : Nat) (h2 : Nat) (x3 : Int32) (μ : MM), lX3_inmostOf_4  n h0 h2 x3 μ = some res → mmGoal p l e rmX3_inmostOf s m args below meth c G A 4 4 [(0, rf h0), (2, rf h2), (3, .int x3)] μ (mmQ G A res.2 (some (rf res.1))) := by
  intro n
  induction n with
  | zero => intro h0 h2 x3 μ hf; cases hf
  | succ n ih => intro h0 h2 x3 μ hf; exact wbX3_inmostOf_4 E0  _ ih h0 h2 x3 μ hf
set_option maxRecDepth 100000 in
set_option maxHeartbeats 4000000 in
theorem kX3_inmostOf_c (l : Launch) (G : mmG) (A : Nat → Prop) {μ : MM} {res : Nat × MM} {h0 : Nat} {h1 : Nat} (hk0 : mK μ h0 = 4) (hf : fX3_inmostOf h0 h1 μ = some res) : Met l yX3_inmostOf [.code yX3_inmostOf cX3_inmostOf 4 (some (.object "YieldMoor$Coroutine"))] rmX3_inmostOf (mmPc G A μ [rf h0, rf h1]) (mmQ G A res.2 (some (rf res.1))) 0 0 A := by
  refine mm_ofW (by decide +kernel) (by simp [lg_sl, rf_cat, int_cat]) ?_
  intro p e s m below meth c ls S hR hA hS hr hlocks hl hnm
  have hl : lv_has ls 4 [(0, rf h0), (1, rf h1)] := by simpa [lv_args, rf_cat, int_cat] using hl
  have E0 : mmEnv p m c cX3_inmostOf 4 s _ RX3 G A meth (some (.object "YieldMoor$Coroutine")) := ⟨S, hA, hr, hlocks⟩
  have hK : mmKN μ μ := mmKN.rf
  unfold fX3_inmostOf at hf
  refine mm_aload_n S dX3_inmostOf_0 rfl (lv_at hl 1 rfl) ?_
  refine mm_astore_n (i := 2) (lv' := [(2, rf h1), (0, rf h0), (1, rf h1)]) S dX3_inmostOf_1 rfl hl (by decide) (by simp [rf_cat]) (fun ls hl => ?_)
  refine lv_iconst (v := 0) S.1 S.2.1 dX3_inmostOf_2 (by decide) ?_
  refine lv_istore_n (i := 3) (lv' := [(3, .int 0), (2, rf h1), (0, rf h0), (1, rf h1)]) S.1 S.2.1 dX3_inmostOf_3 rfl hl (by decide) (by simp [rf_cat]) (fun ls hl => ?_)
  exact wlX3_inmostOf_4 E0  FU h0 h1 0 μ hf _ _ _ hR hS (lv_sub hl [2, 1, 0] rfl)
-- X3_part
def fX3_part (h0 : Nat) (h1 : Nat) (h2 : Nat) (μ : MM) : Option (MM) :=
  if mK μ h1 = 3 then st (sI μ h1 9 (-1)) fun μ2 => if mK μ h2 = 3 then st (sI μ2 h2 10 (-1)) fun μ4 => some μ4 else none else none
set_option maxRecDepth 100000 in
set_option maxHeartbeats 4000000 in
theorem kX3_part_kn {μ : MM} {res : MM} {h0 : Nat} {h1 : Nat} {h2 : Nat} (hf : fX3_part h0 h1 h2 μ = some res) : mmKN μ res := by
  have hK : mmKN μ μ := mmKN.rf
  unfold fX3_part at hf
  obtain ⟨g1, hf⟩ := gd hf
  obtain ⟨μ2, e2, hf⟩ := stx hf
  have hK : mmKN μ μ2 := by rw [e2]; exact hK.sI
  obtain ⟨g3, hf⟩ := gd hf
  obtain ⟨μ4, e4, hf⟩ := stx hf
  have hK : mmKN μ μ4 := by rw [e4]; exact hK.sI
  obtain rfl := Option.some.inj hf
  exact hK
abbrev rmX3_part : Room := { frames := 0, cells := 0, slots := 0, locals := 0 }
set_option maxRecDepth 100000 in
set_option maxHeartbeats 4000000 in
theorem kX3_part_c (l : Launch) (G : mmG) (A : Nat → Prop) {μ : MM} {res : MM} {h0 : Nat} {h1 : Nat} {h2 : Nat} (hk0 : mK μ h0 = 4) (hf : fX3_part h0 h1 h2 μ = some res) : Met l yX3_part [.code yX3_part cX3_part 3 none] rmX3_part (mmPc G A μ [rf h0, rf h1, rf h2]) (mmQ G A res none) 0 0 A := by
  refine mm_ofW (by decide +kernel) (by simp [lg_sl, rf_cat, int_cat]) ?_
  intro p e s m below meth c ls S hR hA hS hr hlocks hl hnm
  have hl : lv_has ls 3 [(0, rf h0), (1, rf h1), (2, rf h2)] := by simpa [lv_args, rf_cat, int_cat] using hl
  have E0 : mmEnv p m c cX3_part 3 s _ RX3 G A meth none := ⟨S, hA, hr, hlocks⟩
  have hK : mmKN μ μ := mmKN.rf
  unfold fX3_part at hf
  refine mm_aload_n S dX3_part_0 rfl (lv_at hl 1 rfl) ?_
  refine lv_iconst (v := (-1)) S.1 S.2.1 dX3_part_1 (by decide) ?_
  obtain ⟨g1, hf⟩ := gd hf
  refine mm_puti S hR hS fpX3_211 (hK.k g1) rfl rfl rfl dX3_part_2 (fun H locs hR hS => ?_)
  obtain ⟨μ2, e2, hf⟩ := stx hf
  rw [← e2] at hR
  have hK : mmKN μ μ2 := by rw [e2]; exact hK.sI
  refine mm_aload_n S dX3_part_5 rfl (lv_at hl 2 rfl) ?_
  refine lv_iconst (v := (-1)) S.1 S.2.1 dX3_part_6 (by decide) ?_
  obtain ⟨g3, hf⟩ := gd hf
  refine mm_puti S hR hS fpX3_141 (hK.k g3) rfl rfl rfl dX3_part_7 (fun H locs hR hS => ?_)
  obtain ⟨μ4, e4, hf⟩ := stx hf
  rw [← e4] at hR
  have hK : mmKN μ μ4 := by rw [e4]; exact hK.sI
  obtain rfl := Option.some.inj hf
  exact mm_vret S hR hS hr hlocks dX3_part_10
-- X3_backToOuter
def fX3_backToOuter (h0 : Nat) (μ : MM) : Option (MM) :=
  if mK μ (mP μ h0 8) = 3 then (fX3_at h0 (mI μ (mP μ h0 8) 10) μ).bind fun y2 => (fX3_part h0 y2.1 (mP μ h0 8) y2.2).bind fun y3 => if (mI y3 (mP μ h0 8) 5) = (3 : Int32) then (if mK μ y2.1 = 3 then st (sI y3 y2.1 7 (mI y3 (mP μ h0 8) 7)) fun μ9 => (fX2_goOnAt y2.1 ((mI μ9 y2.1 6) + 1) μ9).bind fun y10 => st (sP y10 h0 8 y2.1) fun μ11 => some μ11 else none) else (if mK μ y2.1 = 3 then (fX2_leave y2.1 (mI y3 (mP μ h0 8) 7) y3).bind fun y5 => st (sP y5 h0 8 y2.1) fun μ7 => some μ7 else none) else none
set_option maxRecDepth 100000 in
set_option maxHeartbeats 4000000 in
theorem kX3_backToOuter_kn {μ : MM} {res : MM} {h0 : Nat} (hf : fX3_backToOuter h0 μ = some res) : mmKN μ res := by
  have hK : mmKN μ μ := mmKN.rf
  unfold fX3_backToOuter at hf
  obtain ⟨g1, hf⟩ := gd hf
  obtain ⟨y2, hy2, hf⟩ := bd hf
  have hK : mmKN μ y2.2 := hK.tr (kX3_at_kn hy2)
  obtain ⟨y3, hy3, hf⟩ := bd hf
  have hK : mmKN μ y3 := hK.tr (kX3_part_kn hy3)
  rcases it_or hf with ⟨c4, hf⟩ | ⟨c4, hf⟩
  · skip
    obtain ⟨g8, hf⟩ := gd hf
    obtain ⟨μ9, e9, hf⟩ := stx hf
    have hK : mmKN μ μ9 := by rw [e9]; exact hK.sI
    obtain ⟨y10, hy10, hf⟩ := bd hf
    have hK : mmKN μ y10 := hK.tr (kX2_goOnAt_kn hy10)
    obtain ⟨μ11, e11, hf⟩ := stx hf
    have hK : mmKN μ μ11 := by rw [e11]; exact hK.sP
    obtain rfl := Option.some.inj hf
    exact hK
  · skip
    obtain ⟨g6, hf⟩ := gd hf
    obtain ⟨y5, hy5, hf⟩ := bd hf
    have hK : mmKN μ y5 := hK.tr (kX2_leave_kn hy5)
    obtain ⟨μ7, e7, hf⟩ := stx hf
    have hK : mmKN μ μ7 := by rw [e7]; exact hK.sP
    obtain rfl := Option.some.inj hf
    exact hK
abbrev rmX3_backToOuter : Room := { frames := 2, cells := 0, slots := 0, locals := 46 }
set_option maxRecDepth 100000 in
set_option maxHeartbeats 4000000 in
theorem kX3_backToOuter_c (l : Launch) (G : mmG) (A : Nat → Prop) {μ : MM} {res : MM} {h0 : Nat} (hk0 : mK μ h0 = 4) (hf : fX3_backToOuter h0 μ = some res) : Met l yX3_backToOuter [.code yX3_backToOuter cX3_backToOuter 3 none] rmX3_backToOuter (mmPc G A μ [rf h0]) (mmQ G A res none) 0 0 A := by
  refine mm_ofW (by decide +kernel) (by simp [lg_sl, rf_cat, int_cat]) ?_
  intro p e s m below meth c ls S hR hA hS hr hlocks hl hnm
  have hl : lv_has ls 3 [(0, rf h0)] := by simpa [lv_args, rf_cat, int_cat] using hl
  have E0 : mmEnv p m c cX3_backToOuter 3 s _ RX3 G A meth none := ⟨S, hA, hr, hlocks⟩
  have hK : mmKN μ μ := mmKN.rf
  unfold fX3_backToOuter at hf
  refine mm_aload_n S dX3_backToOuter_0 rfl (lv_at hl 0 rfl) ?_
  refine mm_getp S hR fdX3_38 (hK.k hk0) rfl dX3_backToOuter_1 ?_
  refine mm_astore_n (i := 1) (lv' := [(1, rf (mP μ h0 8)), (0, rf h0)]) S dX3_backToOuter_4 rfl hl (by decide) (by simp [rf_cat]) (fun ls hl => ?_)
  refine mm_aload_n S dX3_backToOuter_5 rfl (lv_at hl 1 rfl) ?_
  refine mm_aload_n S dX3_backToOuter_6 rfl (lv_at hl 0 rfl) ?_
  obtain ⟨g1, hf⟩ := gd hf
  refine mm_geti S hR fdX3_141 (hK.k g1) rfl dX3_backToOuter_7 ?_
  obtain ⟨y2, hy2, hf⟩ := bd hf
  refine mm_callVh S hR hS hA (As := [.int (mI μ (mP μ h0 8) 10)]) (rest := []) cvX3_55 (hK.k hk0) (kX3_at_c l G A (hK.k hk0) hy2) rfl rfl ⟨Nat.le_of_ble_eq_true rfl, Nat.le_of_ble_eq_true rfl⟩ rfl hl.1 rfl (lv_room (by simp [rf_cat, int_cat])) dX3_backToOuter_10 ⟨Nat.le_refl _, Nat.le_refl _⟩ (fun H locs hR hS => ?_)
  have hK : mmKN μ y2.2 := hK.tr (kX3_at_kn hy2)
  refine mm_astore_n (i := 2) (lv' := [(2, rf y2.1), (1, rf (mP μ h0 8)), (0, rf h0)]) S dX3_backToOuter_13 rfl hl (by decide) (by simp [rf_cat]) (fun ls hl => ?_)
  refine mm_aload_n S dX3_backToOuter_14 rfl (lv_at hl 2 rfl) ?_
  refine mm_aload_n S dX3_backToOuter_15 rfl (lv_at hl 0 rfl) ?_
  refine mm_aload_n S dX3_backToOuter_16 rfl (lv_at hl 1 rfl) ?_
  obtain ⟨y3, hy3, hf⟩ := bd hf
  refine mm_callVv S hR hS hA (As := [rf y2.1, rf (mP μ h0 8)]) (rest := []) cvX3_144 (hK.k hk0) (kX3_part_c l G A (hK.k hk0) hy3) rfl rfl ⟨Nat.le_of_ble_eq_true rfl, Nat.le_of_ble_eq_true rfl⟩ rfl hl.1 rfl (lv_room (by simp [rf_cat, int_cat])) dX3_backToOuter_17 ⟨Nat.le_refl _, Nat.le_refl _⟩ (fun H locs hR hS => ?_)
  have hK : mmKN μ y3 := hK.tr (kX3_part_kn hy3)
  refine mm_aload_n S dX3_backToOuter_20 rfl (lv_at hl 1 rfl) ?_
  refine mm_geti S hR fdX3_68 (hK.k g1) rfl dX3_backToOuter_21 ?_
  refine lv_iconst (v := 3) S.1 S.2.1 dX3_backToOuter_24 (by decide) ?_
  refine lv_icmp_ne (tgt := 49) S.1 S.2.1 dX3_backToOuter_25 (by decide) (fun c4 => ?_) (fun c4 => ?_)
  · have hf := it_f hf c4
    refine mm_aload_n S dX3_backToOuter_49 rfl (lv_at hl 0 rfl) ?_
    refine mm_aload_n S dX3_backToOuter_50 rfl (lv_at hl 1 rfl) ?_
    refine mm_geti S hR fdX3_117 (hK.k g1) rfl dX3_backToOuter_51 ?_
    obtain ⟨g6, hf⟩ := gd hf
    obtain ⟨y5, hy5, hf⟩ := bd hf
    refine mm_callVv S hR hS hA (As := [.int (mI y3 (mP μ h0 8) 7)]) (rest := []) cvX3_131 (hK.k g6) (kX2_leave_c l G A (hK.k g6) hy5) rfl rfl ⟨Nat.le_of_ble_eq_true rfl, Nat.le_of_ble_eq_true rfl⟩ rfl hl.1 rfl (lv_room (by simp [rf_cat, int_cat])) dX3_backToOuter_54 ⟨Nat.le_refl _, Nat.le_refl _⟩ (fun H locs hR hS => ?_)
    have hK : mmKN μ y5 := hK.tr (kX2_leave_kn hy5)
    refine mm_aload_n S dX3_backToOuter_57 rfl (lv_at hl 2 rfl) ?_
    refine mm_aload_n S dX3_backToOuter_58 rfl (lv_at hl 0 rfl) ?_
    refine mm_putp S hR hS fpX3_38 (hK.k hk0) rfl nr_ok fr_ok dX3_backToOuter_59 (fun H locs hR hS => ?_)
    obtain ⟨μ7, e7, hf⟩ := stx hf
    rw [← e7] at hR
    have hK : mmKN μ μ7 := by rw [e7]; exact hK.sP
    obtain rfl := Option.some.inj hf
    exact mm_vret S hR hS hr hlocks dX3_backToOuter_62
  · have hf := it_t hf c4
    refine mm_aload_n S dX3_backToOuter_28 rfl (lv_at hl 0 rfl) ?_
    refine mm_aload_n S dX3_backToOuter_29 rfl (lv_at hl 1 rfl) ?_
    refine mm_geti S hR fdX3_117 (hK.k g1) rfl dX3_backToOuter_30 ?_
    obtain ⟨g8, hf⟩ := gd hf
    refine mm_puti S hR hS fpX3_117 (hK.k g8) rfl rfl rfl dX3_backToOuter_33 (fun H locs hR hS => ?_)
    obtain ⟨μ9, e9, hf⟩ := stx hf
    rw [← e9] at hR
    have hK : mmKN μ μ9 := by rw [e9]; exact hK.sI
    refine mm_aload_n S dX3_backToOuter_36 rfl (lv_at hl 0 rfl) ?_
    refine mm_aload_n S dX3_backToOuter_37 rfl (lv_at hl 0 rfl) ?_
    refine mm_geti S hR fdX3_120 (hK.k g8) rfl dX3_backToOuter_38 ?_
    refine lv_iconst (v := 1) S.1 S.2.1 dX3_backToOuter_41 (by decide) ?_
    refine lv_iadd S.1 S.2.1 dX3_backToOuter_42 ?_
    obtain ⟨y10, hy10, hf⟩ := bd hf
    refine mm_callVv S hR hS hA (As := [.int ((mI μ9 y2.1 6) + 1)]) (rest := []) cvX3_114 (hK.k g8) (kX2_goOnAt_c l G A (hK.k g8) hy10) rfl rfl ⟨Nat.le_of_ble_eq_true rfl, Nat.le_of_ble_eq_true rfl⟩ rfl hl.1 rfl (lv_room (by simp [rf_cat, int_cat])) dX3_backToOuter_43 ⟨Nat.le_refl _, Nat.le_refl _⟩ (fun H locs hR hS => ?_)
    have hK : mmKN μ y10 := hK.tr (kX2_goOnAt_kn hy10)
    refine lv_goto (tgt := 57) S.1 S.2.1 dX3_backToOuter_46 (by decide) ?_
    refine mm_aload_n S dX3_backToOuter_57 rfl (lv_at hl 2 rfl) ?_
    refine mm_aload_n S dX3_backToOuter_58 rfl (lv_at hl 0 rfl) ?_
    refine mm_putp S hR hS fpX3_38 (hK.k hk0) rfl nr_ok fr_ok dX3_backToOuter_59 (fun H locs hR hS => ?_)
    obtain ⟨μ11, e11, hf⟩ := stx hf
    rw [← e11] at hR
    have hK : mmKN μ μ11 := by rw [e11]; exact hK.sP
    obtain rfl := Option.some.inj hf
    exact mm_vret S hR hS hr hlocks dX3_backToOuter_62
-- X3_waitAt
def fX3_waitAt (h0 : Nat) (h1 : Nat) (μ : MM) : Option (MM) :=
  if mK μ h1 = 3 then st (sI μ h1 5 1) fun μ2 => st (sI μ2 h0 12 1) fun μ3 => some μ3 else none
set_option maxRecDepth 100000 in
set_option maxHeartbeats 4000000 in
theorem kX3_waitAt_kn {μ : MM} {res : MM} {h0 : Nat} {h1 : Nat} (hf : fX3_waitAt h0 h1 μ = some res) : mmKN μ res := by
  have hK : mmKN μ μ := mmKN.rf
  unfold fX3_waitAt at hf
  obtain ⟨g1, hf⟩ := gd hf
  obtain ⟨μ2, e2, hf⟩ := stx hf
  have hK : mmKN μ μ2 := by rw [e2]; exact hK.sI
  obtain ⟨μ3, e3, hf⟩ := stx hf
  have hK : mmKN μ μ3 := by rw [e3]; exact hK.sI
  obtain rfl := Option.some.inj hf
  exact hK
abbrev rmX3_waitAt : Room := { frames := 0, cells := 0, slots := 0, locals := 0 }
set_option maxRecDepth 100000 in
set_option maxHeartbeats 4000000 in
theorem kX3_waitAt_c (l : Launch) (G : mmG) (A : Nat → Prop) {μ : MM} {res : MM} {h0 : Nat} {h1 : Nat} (hk0 : mK μ h0 = 4) (hf : fX3_waitAt h0 h1 μ = some res) : Met l yX3_waitAt [.code yX3_waitAt cX3_waitAt 2 none] rmX3_waitAt (mmPc G A μ [rf h0, rf h1]) (mmQ G A res none) 0 0 A := by
  refine mm_ofW (by decide +kernel) (by simp [lg_sl, rf_cat, int_cat]) ?_
  intro p e s m below meth c ls S hR hA hS hr hlocks hl hnm
  have hl : lv_has ls 2 [(0, rf h0), (1, rf h1)] := by simpa [lv_args, rf_cat, int_cat] using hl
  have E0 : mmEnv p m c cX3_waitAt 2 s _ RX3 G A meth none := ⟨S, hA, hr, hlocks⟩
  have hK : mmKN μ μ := mmKN.rf
  unfold fX3_waitAt at hf
  refine mm_aload_n S dX3_waitAt_0 rfl (lv_at hl 1 rfl) ?_
  refine lv_iconst (v := 1) S.1 S.2.1 dX3_waitAt_1 (by decide) ?_
  obtain ⟨g1, hf⟩ := gd hf
  refine mm_puti S hR hS fpX3_68 (hK.k g1) rfl rfl rfl dX3_waitAt_2 (fun H locs hR hS => ?_)
  obtain ⟨μ2, e2, hf⟩ := stx hf
  rw [← e2] at hR
  have hK : mmKN μ μ2 := by rw [e2]; exact hK.sI
  refine mm_aload_n S dX3_waitAt_5 rfl (lv_at hl 0 rfl) ?_
  refine lv_iconst (v := 1) S.1 S.2.1 dX3_waitAt_6 (by decide) ?_
  refine mm_puti S hR hS fpX3_217 (hK.k hk0) rfl rfl rfl dX3_waitAt_7 (fun H locs hR hS => ?_)
  obtain ⟨μ3, e3, hf⟩ := stx hf
  rw [← e3] at hR
  have hK : mmKN μ μ3 := by rw [e3]; exact hK.sI
  obtain rfl := Option.some.inj hf
  exact mm_vret S hR hS hr hlocks dX3_waitAt_10
-- X3_takesCancel
def fX3_takesCancel (h0 : Nat) (μ : MM) : Option (Int32 × MM) :=
  (fX3_at h0 (mI μ h0 9) μ).bind fun y1 => if mK μ y1.1 = 3 then if (mI y1.2 y1.1 15) = 0 then (some (0, y1.2)) else (if (mI y1.2 y1.1 14) ≤ 0 then (st (sI y1.2 y1.1 15 0) fun μ5 => some (1, μ5)) else (some (0, y1.2))) else none
set_option maxRecDepth 100000 in
set_option maxHeartbeats 4000000 in
theorem kX3_takesCancel_kn {μ : MM} {res : Int32 × MM} {h0 : Nat} (hf : fX3_takesCancel h0 μ = some res) : mmKN μ res.2 := by
  have hK : mmKN μ μ := mmKN.rf
  unfold fX3_takesCancel at hf
  obtain ⟨y1, hy1, hf⟩ := bd hf
  have hK : mmKN μ y1.2 := hK.tr (kX3_at_kn hy1)
  obtain ⟨g2, hf⟩ := gd hf
  rcases it_or hf with ⟨c3, hf⟩ | ⟨c3, hf⟩
  · skip
    obtain rfl := Option.some.inj hf
    exact hK
  · skip
    rcases it_or hf with ⟨c4, hf⟩ | ⟨c4, hf⟩
    · skip
      obtain ⟨μ5, e5, hf⟩ := stx hf
      have hK : mmKN μ μ5 := by rw [e5]; exact hK.sI
      obtain rfl := Option.some.inj hf
      exact hK
    · skip
      obtain rfl := Option.some.inj hf
      exact hK
abbrev rmX3_takesCancel : Room := { frames := 1, cells := 0, slots := 0, locals := 21 }
set_option maxRecDepth 100000 in
set_option maxHeartbeats 4000000 in
theorem kX3_takesCancel_c (l : Launch) (G : mmG) (A : Nat → Prop) {μ : MM} {res : Int32 × MM} {h0 : Nat} (hk0 : mK μ h0 = 4) (hf : fX3_takesCancel h0 μ = some res) : Met l yX3_takesCancel [.code yX3_takesCancel cX3_takesCancel 2 (some (.boolean))] rmX3_takesCancel (mmPc G A μ [rf h0]) (mmQ G A res.2 (some (.int res.1))) 0 0 A := by
  refine mm_ofW (by decide +kernel) (by simp [lg_sl, rf_cat, int_cat]) ?_
  intro p e s m below meth c ls S hR hA hS hr hlocks hl hnm
  have hl : lv_has ls 2 [(0, rf h0)] := by simpa [lv_args, rf_cat, int_cat] using hl
  have E0 : mmEnv p m c cX3_takesCancel 2 s _ RX3 G A meth (some (.boolean)) := ⟨S, hA, hr, hlocks⟩
  have hK : mmKN μ μ := mmKN.rf
  unfold fX3_takesCancel at hf
  refine mm_aload_n S dX3_takesCancel_0 rfl (lv_at hl 0 rfl) ?_
  refine mm_aload_n S dX3_takesCancel_1 rfl (lv_at hl 0 rfl) ?_
  refine mm_geti S hR fdX3_202 (hK.k hk0) rfl dX3_takesCancel_2 ?_
  obtain ⟨y1, hy1, hf⟩ := bd hf
  refine mm_callVh S hR hS hA (As := [.int (mI μ h0 9)]) (rest := []) cvX3_55 (hK.k hk0) (kX3_at_c l G A (hK.k hk0) hy1) rfl rfl ⟨Nat.le_of_ble_eq_true rfl, Nat.le_of_ble_eq_true rfl⟩ rfl hl.1 rfl (lv_room (by simp [rf_cat, int_cat])) dX3_takesCancel_5 ⟨Nat.le_refl _, Nat.le_refl _⟩ (fun H locs hR hS => ?_)
  have hK : mmKN μ y1.2 := hK.tr (kX3_at_kn hy1)
  refine mm_astore_n (i := 1) (lv' := [(1, rf y1.1), (0, rf h0)]) S dX3_takesCancel_8 rfl hl (by decide) (by simp [rf_cat]) (fun ls hl => ?_)
  refine mm_aload_n S dX3_takesCancel_9 rfl (lv_at hl 0 rfl) ?_
  obtain ⟨g2, hf⟩ := gd hf
  refine mm_geti S hR fdX3_189 (hK.k g2) rfl dX3_takesCancel_10 ?_
  refine lv_if_eq (tgt := 23) S.1 S.2.1 dX3_takesCancel_13 (by decide) (fun c3 => ?_) (fun c3 => ?_)
  · have hf := it_t hf c3
    refine lv_iconst (v := 0) S.1 S.2.1 dX3_takesCancel_23 (by decide) ?_
    obtain rfl := Option.some.inj hf
    exact mm_zret S hR hS hr hlocks (Or.inl rfl) dX3_takesCancel_24
  · have hf := it_f hf c3
    refine mm_aload_n S dX3_takesCancel_16 rfl (lv_at hl 0 rfl) ?_
    refine mm_geti S hR fdX3_193 (hK.k g2) rfl dX3_takesCancel_17 ?_
    refine lv_if_le (tgt := 25) S.1 S.2.1 dX3_takesCancel_20 (by decide) (fun c4 => ?_) (fun c4 => ?_)
    · have hf := it_t hf c4
      refine mm_aload_n S dX3_takesCancel_25 rfl (lv_at hl 0 rfl) ?_
      refine lv_iconst (v := 0) S.1 S.2.1 dX3_takesCancel_26 (by decide) ?_
      refine mm_puti S hR hS fpX3_189 (hK.k g2) rfl rfl rfl dX3_takesCancel_27 (fun H locs hR hS => ?_)
      obtain ⟨μ5, e5, hf⟩ := stx hf
      rw [← e5] at hR
      have hK : mmKN μ μ5 := by rw [e5]; exact hK.sI
      refine lv_iconst (v := 1) S.1 S.2.1 dX3_takesCancel_30 (by decide) ?_
      obtain rfl := Option.some.inj hf
      exact mm_zret S hR hS hr hlocks (Or.inr rfl) dX3_takesCancel_31
    · have hf := it_f hf c4
      refine lv_iconst (v := 0) S.1 S.2.1 dX3_takesCancel_23 (by decide) ?_
      obtain rfl := Option.some.inj hf
      exact mm_zret S hR hS hr hlocks (Or.inl rfl) dX3_takesCancel_24
-- X3_takeOutcome
def fX3_takeOutcome (h0 : Nat) (h1 : Nat) (h2 : Nat) (μ : MM) : Option (Int32 × MM) :=
  if mK μ h2 = 3 then if (mI μ h2 5) = (4 : Int32) then (some ((jmin (mI μ h2 7) 9), μ)) else (if mK μ h1 = 3 then st (sI μ h1 7 (mI μ h2 7)) fun μ4 => (fX2_goOnAt h1 ((mI μ4 h1 6) + 1) μ4).bind fun y5 => some (0, y5) else none) else none
set_option maxRecDepth 100000 in
set_option maxHeartbeats 4000000 in
theorem kX3_takeOutcome_kn {μ : MM} {res : Int32 × MM} {h0 : Nat} {h1 : Nat} {h2 : Nat} (hf : fX3_takeOutcome h0 h1 h2 μ = some res) : mmKN μ res.2 := by
  have hK : mmKN μ μ := mmKN.rf
  unfold fX3_takeOutcome at hf
  obtain ⟨g1, hf⟩ := gd hf
  rcases it_or hf with ⟨c2, hf⟩ | ⟨c2, hf⟩
  · skip
    obtain rfl := Option.some.inj hf
    exact hK
  · skip
    obtain ⟨g3, hf⟩ := gd hf
    obtain ⟨μ4, e4, hf⟩ := stx hf
    have hK : mmKN μ μ4 := by rw [e4]; exact hK.sI
    obtain ⟨y5, hy5, hf⟩ := bd hf
    have hK : mmKN μ y5 := hK.tr (kX2_goOnAt_kn hy5)
    obtain rfl := Option.some.inj hf
    exact hK
abbrev rmX3_takeOutcome : Room := { frames := 1, cells := 0, slots := 0, locals := 21 }
set_option maxRecDepth 100000 in
set_option maxHeartbeats 4000000 in
theorem kX3_takeOutcome_c (l : Launch) (G : mmG) (A : Nat → Prop) {μ : MM} {res : Int32 × MM} {h0 : Nat} {h1 : Nat} {h2 : Nat} (hk0 : mK μ h0 = 4) (hf : fX3_takeOutcome h0 h1 h2 μ = some res) : Met l yX3_takeOutcome [.code yX3_takeOutcome cX3_takeOutcome 3 (some (.int))] rmX3_takeOutcome (mmPc G A μ [rf h0, rf h1, rf h2]) (mmQ G A res.2 (some (.int res.1))) 0 0 A := by
  refine mm_ofW (by decide +kernel) (by simp [lg_sl, rf_cat, int_cat]) ?_
  intro p e s m below meth c ls S hR hA hS hr hlocks hl hnm
  have hl : lv_has ls 3 [(0, rf h0), (1, rf h1), (2, rf h2)] := by simpa [lv_args, rf_cat, int_cat] using hl
  have E0 : mmEnv p m c cX3_takeOutcome 3 s _ RX3 G A meth (some (.int)) := ⟨S, hA, hr, hlocks⟩
  have hK : mmKN μ μ := mmKN.rf
  unfold fX3_takeOutcome at hf
  refine mm_aload_n S dX3_takeOutcome_0 rfl (lv_at hl 2 rfl) ?_
  obtain ⟨g1, hf⟩ := gd hf
  refine mm_geti S hR fdX3_68 (hK.k g1) rfl dX3_takeOutcome_1 ?_
  refine lv_iconst (v := 4) S.1 S.2.1 dX3_takeOutcome_4 (by decide) ?_
  refine lv_icmp_ne (tgt := 18) S.1 S.2.1 dX3_takeOutcome_5 (by decide) (fun c2 => ?_) (fun c2 => ?_)
  · have hf := it_f hf c2
    refine mm_aload_n S dX3_takeOutcome_18 rfl (lv_at hl 1 rfl) ?_
    refine mm_aload_n S dX3_takeOutcome_19 rfl (lv_at hl 2 rfl) ?_
    refine mm_geti S hR fdX3_117 (hK.k g1) rfl dX3_takeOutcome_20 ?_
    obtain ⟨g3, hf⟩ := gd hf
    refine mm_puti S hR hS fpX3_117 (hK.k g3) rfl rfl rfl dX3_takeOutcome_23 (fun H locs hR hS => ?_)
    obtain ⟨μ4, e4, hf⟩ := stx hf
    rw [← e4] at hR
    have hK : mmKN μ μ4 := by rw [e4]; exact hK.sI
    refine mm_aload_n S dX3_takeOutcome_26 rfl (lv_at hl 1 rfl) ?_
    refine mm_aload_n S dX3_takeOutcome_27 rfl (lv_at hl 1 rfl) ?_
    refine mm_geti S hR fdX3_120 (hK.k g3) rfl dX3_takeOutcome_28 ?_
    refine lv_iconst (v := 1) S.1 S.2.1 dX3_takeOutcome_31 (by decide) ?_
    refine lv_iadd S.1 S.2.1 dX3_takeOutcome_32 ?_
    obtain ⟨y5, hy5, hf⟩ := bd hf
    refine mm_callVv S hR hS hA (As := [.int ((mI μ4 h1 6) + 1)]) (rest := []) cvX3_114 (hK.k g3) (kX2_goOnAt_c l G A (hK.k g3) hy5) rfl rfl ⟨Nat.le_of_ble_eq_true rfl, Nat.le_of_ble_eq_true rfl⟩ rfl hl.1 rfl (lv_room (by simp [rf_cat, int_cat])) dX3_takeOutcome_33 ⟨Nat.le_refl _, Nat.le_refl _⟩ (fun H locs hR hS => ?_)
    have hK : mmKN μ y5 := hK.tr (kX2_goOnAt_kn hy5)
    refine lv_iconst (v := 0) S.1 S.2.1 dX3_takeOutcome_36 (by decide) ?_
    obtain rfl := Option.some.inj hf
    exact mm_iret S hR hS hr hlocks dX3_takeOutcome_37
  · have hf := it_t hf c2
    refine mm_aload_n S dX3_takeOutcome_8 rfl (lv_at hl 2 rfl) ?_
    refine mm_geti S hR fdX3_117 (hK.k g1) rfl dX3_takeOutcome_9 ?_
    refine lv_bipush (v := 9) S.1 S.2.1 dX3_takeOutcome_12 (by decide) ?_
    refine mm_min S mnX3_174 hl.1 (Nat.le_of_ble_eq_true rfl) (by simp [rf_cat, int_cat]) ⟨Nat.le_refl _, Nat.le_refl _⟩ dX3_takeOutcome_14 ?_
    obtain rfl := Option.some.inj hf
    exact mm_iret S hR hS hr hlocks dX3_takeOutcome_17
-- X3_awaitsTheOwnOne
def bX3_awaitsTheOwnOne_4 (kk4 : Nat → Int32 → Int32 → MM → Option (Int32 × MM)) (h0 : Nat) (x2 : Int32) (x3 : Int32) (μ : MM) : Option (Int32 × MM) :=
  if (24 : Int32) ≤ x3 then (some (0, μ)) else (if x2 = ((-1) : Int32) then (some (0, μ)) else (if mK μ h0 = 4 then (fX3_at h0 x2 μ).bind fun y3 => if mK μ y3.1 = 3 then if (mI y3.2 y3.1 13) = (mI y3.2 h0 9) then (some (1, y3.2)) else (kk4 h0 (mI y3.2 y3.1 13) (x3 + 1) y3.2) else none else none))
def lX3_awaitsTheOwnOne_4  : Nat → Nat → Int32 → Int32 → MM → Option (Int32 × MM)
  | 0, _, _, _, _ => none
  | n + 1, h0, x2, x3, μ => bX3_awaitsTheOwnOne_4  (fun h0 x2 x3 μ => lX3_awaitsTheOwnOne_4  n h0 x2 x3 μ) h0 x2 x3 μ
def fX3_awaitsTheOwnOne (h0 : Nat) (x1 : Int32) (μ : MM) : Option (Int32 × MM) :=
  lX3_awaitsTheOwnOne_4  FU h0 x1 0 μ
set_option maxRecDepth 100000 in
set_option maxHeartbeats 4000000 in
theorem knbX3_awaitsTheOwnOne_4 (kk4 : Nat → Int32 → Int32 → MM → Option (Int32 × MM)) (hkk4 : ∀ (h0 : Nat) (x2 : Int32) (x3 : Int32) (μ : MM) (res : Int32 × MM), kk4 h0 x2 x3 μ = some res → mmKN μ res.2) : ∀ (h0 : Nat) (x2 : Int32) (x3 : Int32) (μ : MM) (res : Int32 × MM), bX3_awaitsTheOwnOne_4 kk4 h0 x2 x3 μ = some res → mmKN μ res.2 := by
  intro h0 x2 x3 μ res hf
  have hK : mmKN μ μ := mmKN.rf
  unfold bX3_awaitsTheOwnOne_4 at hf
  rcases it_or hf with ⟨c1, hf⟩ | ⟨c1, hf⟩
  · skip
    obtain rfl := Option.some.inj hf
    exact hK
  · skip
    rcases it_or hf with ⟨c2, hf⟩ | ⟨c2, hf⟩
    · skip
      obtain rfl := Option.some.inj hf
      exact hK
    · skip
      obtain ⟨g4, hf⟩ := gd hf
      obtain ⟨y3, hy3, hf⟩ := bd hf
      have hK : mmKN μ y3.2 := hK.tr (kX3_at_kn hy3)
      obtain ⟨g5, hf⟩ := gd hf
      rcases it_or hf with ⟨c6, hf⟩ | ⟨c6, hf⟩
      · skip
        obtain rfl := Option.some.inj hf
        exact hK
      · skip
        exact hK.tr (hkk4 h0 (mI y3.2 y3.1 13) (x3 + 1) y3.2 _ hf)
theorem knlX3_awaitsTheOwnOne_4  : ∀ (n : Nat) (h0 : Nat) (x2 : Int32) (x3 : Int32) (μ : MM) (res : Int32 × MM), lX3_awaitsTheOwnOne_4  n h0 x2 x3 μ = some res → mmKN μ res.2 := by
  intro n
  induction n with
  | zero => intro h0 x2 x3 μ res hf; cases hf
  | succ n ih => intro h0 x2 x3 μ res hf; exact knbX3_awaitsTheOwnOne_4  _ ih h0 x2 x3 μ res hf
set_option maxRecDepth 100000 in
set_option maxHeartbeats 4000000 in
theorem kX3_awaitsTheOwnOne_kn {μ : MM} {res : Int32 × MM} {h0 : Nat} {x1 : Int32} (hf : fX3_awaitsTheOwnOne h0 x1 μ = some res) : mmKN μ res.2 := by
  have hK : mmKN μ μ := mmKN.rf
  unfold fX3_awaitsTheOwnOne at hf
  exact hK.tr (knlX3_awaitsTheOwnOne_4  FU h0 x1 0 μ _ hf)
abbrev rmX3_awaitsTheOwnOne : Room := { frames := 1, cells := 0, slots := 0, locals := 21 }
set_option maxRecDepth 100000 in
set_option maxHeartbeats 4000000 in
theorem wbX3_awaitsTheOwnOne_4 {p : Program} {l : Launch} {e : Env} {s : State} {m : MethodId} {args : Array Value} {below : List Frame} {meth : Method} {c : Code} {G : mmG} {A : Nat → Prop} {res : Int32 × MM} (E0 : mmEnv p m c cX3_awaitsTheOwnOne 4 s args RX3 G A meth (some (.boolean))) (kk4 : Nat → Int32 → Int32 → MM → Option (Int32 × MM)) (hkk4 : ∀ (h0 : Nat) (x2 : Int32) (x3 : Int32) (μ : MM), kk4 h0 x2 x3 μ = some res → mmGoal p l e rmX3_awaitsTheOwnOne s m args below meth c G A 4 4 [(0, rf h0), (2, .int x2), (3, .int x3)] μ (mmQ G A res.2 (some (.int res.1)))) : ∀ (h0 : Nat) (x2 : Int32) (x3 : Int32) (μ : MM), bX3_awaitsTheOwnOne_4 kk4 h0 x2 x3 μ = some res → mmGoal p l e rmX3_awaitsTheOwnOne s m args below meth c G A 4 4 [(0, rf h0), (2, .int x2), (3, .int x3)] μ (mmQ G A res.2 (some (.int res.1))) := by
  obtain ⟨S, hA, hr, hlocks⟩ := id E0
  intro h0 x2 x3 μ hf H locs ls hR hS hl
  have hK : mmKN μ μ := mmKN.rf
  unfold bX3_awaitsTheOwnOne_4 at hf
  refine lv_iload_n S.1 S.2.1 dX3_awaitsTheOwnOne_4 rfl (lv_at hl 2 rfl) ?_
  refine lv_bipush (v := 24) S.1 S.2.1 dX3_awaitsTheOwnOne_5 (by decide) ?_
  refine lv_icmp_ge (tgt := 40) S.1 S.2.1 dX3_awaitsTheOwnOne_7 (by decide) (fun c1 => ?_) (fun c1 => ?_)
  · have hf := it_t hf c1
    refine lv_iconst (v := 0) S.1 S.2.1 dX3_awaitsTheOwnOne_40 (by decide) ?_
    obtain rfl := Option.some.inj hf
    exact mm_zret S hR hS hr hlocks (Or.inl rfl) dX3_awaitsTheOwnOne_41
  · have hf := it_f hf c1
    refine lv_iload_n S.1 S.2.1 dX3_awaitsTheOwnOne_10 rfl (lv_at hl 1 rfl) ?_
    refine lv_iconst (v := (-1)) S.1 S.2.1 dX3_awaitsTheOwnOne_11 (by decide) ?_
    refine lv_icmp_eq (tgt := 40) S.1 S.2.1 dX3_awaitsTheOwnOne_12 (by decide) (fun c2 => ?_) (fun c2 => ?_)
    · have hf := it_t hf c2
      refine lv_iconst (v := 0) S.1 S.2.1 dX3_awaitsTheOwnOne_40 (by decide) ?_
      obtain rfl := Option.some.inj hf
      exact mm_zret S hR hS hr hlocks (Or.inl rfl) dX3_awaitsTheOwnOne_41
    · have hf := it_f hf c2
      refine mm_aload_n S dX3_awaitsTheOwnOne_15 rfl (lv_at hl 0 rfl) ?_
      refine lv_iload_n S.1 S.2.1 dX3_awaitsTheOwnOne_16 rfl (lv_at hl 1 rfl) ?_
      obtain ⟨g4, hf⟩ := gd hf
      obtain ⟨y3, hy3, hf⟩ := bd hf
      refine mm_callVh S hR hS hA (As := [.int x2]) (rest := []) cvX3_55 (hK.k g4) (kX3_at_c l G A (hK.k g4) hy3) rfl rfl ⟨Nat.le_of_ble_eq_true rfl, Nat.le_of_ble_eq_true rfl⟩ rfl hl.1 rfl (lv_room (by simp [rf_cat, int_cat])) dX3_awaitsTheOwnOne_17 ⟨Nat.le_refl _, Nat.le_refl _⟩ (fun H locs hR hS => ?_)
      have hK : mmKN μ y3.2 := hK.tr (kX3_at_kn hy3)
      obtain ⟨g5, hf⟩ := gd hf
      refine mm_geti S hR fdX3_82 (hK.k g5) rfl dX3_awaitsTheOwnOne_20 ?_
      refine lv_istore_n (i := 2) (lv' := [(2, .int (mI y3.2 y3.1 13)), (0, rf h0), (3, .int x3)]) S.1 S.2.1 dX3_awaitsTheOwnOne_23 rfl hl (by decide) rfl (fun ls hl => ?_)
      refine lv_iload_n S.1 S.2.1 dX3_awaitsTheOwnOne_24 rfl (lv_at hl 0 rfl) ?_
      refine mm_aload_n S dX3_awaitsTheOwnOne_25 rfl (lv_at hl 1 rfl) ?_
      refine mm_geti S hR fdX3_202 (hK.k g4) rfl dX3_awaitsTheOwnOne_26 ?_
      refine lv_icmp_ne (tgt := 34) S.1 S.2.1 dX3_awaitsTheOwnOne_29 (by decide) (fun c6 => ?_) (fun c6 => ?_)
      · have hf := it_f hf c6
        refine lv_iinc (v := (x3 + 1)) (lv' := [(3, .int (x3 + 1)), (2, .int (mI y3.2 y3.1 13)), (0, rf h0)]) S.1 S.2.1 dX3_awaitsTheOwnOne_34 hl (k := 2) rfl (by rfl) (by decide) rfl (fun ls hl => ?_)
        refine lv_goto (tgt := 4) S.1 S.2.1 dX3_awaitsTheOwnOne_37 (by decide) ?_
        exact hkk4 h0 (mI y3.2 y3.1 13) (x3 + 1) y3.2 hf _ _ _ hR hS (lv_sub hl [2, 1, 0] rfl)
      · have hf := it_t hf c6
        refine lv_iconst (v := 1) S.1 S.2.1 dX3_awaitsTheOwnOne_32 (by decide) ?_
        obtain rfl := Option.some.inj hf
        exact mm_zret S hR hS hr hlocks (Or.inr rfl) dX3_awaitsTheOwnOne_33
theorem wlX3_awaitsTheOwnOne_4 {p : Program} {l : Launch} {e : Env} {s : State} {m : MethodId} {args : Array Value} {below : List Frame} {meth : Method} {c : Code} {G : mmG} {A : Nat → Prop} {res : Int32 × MM} (E0 : mmEnv p m c cX3_awaitsTheOwnOne 4 s args RX3 G A meth (some (.boolean)))  : ∀ (n : Nat) (h0 : Nat) (x2 : Int32) (x3 : Int32) (μ : MM), lX3_awaitsTheOwnOne_4  n h0 x2 x3 μ = some res → mmGoal p l e rmX3_awaitsTheOwnOne s m args below meth c G A 4 4 [(0, rf h0), (2, .int x2), (3, .int x3)] μ (mmQ G A res.2 (some (.int res.1))) := by
  intro n
  induction n with
  | zero => intro h0 x2 x3 μ hf; cases hf
  | succ n ih => intro h0 x2 x3 μ hf; exact wbX3_awaitsTheOwnOne_4 E0  _ ih h0 x2 x3 μ hf
set_option maxRecDepth 100000 in
set_option maxHeartbeats 4000000 in
theorem kX3_awaitsTheOwnOne_c (l : Launch) (G : mmG) (A : Nat → Prop) {μ : MM} {res : Int32 × MM} {h0 : Nat} {x1 : Int32} (hk0 : mK μ h0 = 4) (hf : fX3_awaitsTheOwnOne h0 x1 μ = some res) : Met l yX3_awaitsTheOwnOne [.code yX3_awaitsTheOwnOne cX3_awaitsTheOwnOne 4 (some (.boolean))] rmX3_awaitsTheOwnOne (mmPc G A μ [rf h0, .int x1]) (mmQ G A res.2 (some (.int res.1))) 0 0 A := by
  refine mm_ofW (by decide +kernel) (by simp [lg_sl, rf_cat, int_cat]) ?_
  intro p e s m below meth c ls S hR hA hS hr hlocks hl hnm
  have hl : lv_has ls 4 [(0, rf h0), (1, .int x1)] := by simpa [lv_args, rf_cat, int_cat] using hl
  have E0 : mmEnv p m c cX3_awaitsTheOwnOne 4 s _ RX3 G A meth (some (.boolean)) := ⟨S, hA, hr, hlocks⟩
  have hK : mmKN μ μ := mmKN.rf
  unfold fX3_awaitsTheOwnOne at hf
  refine lv_iload_n S.1 S.2.1 dX3_awaitsTheOwnOne_0 rfl (lv_at hl 1 rfl) ?_
  refine lv_istore_n (i := 2) (lv' := [(2, .int x1), (0, rf h0), (1, .int x1)]) S.1 S.2.1 dX3_awaitsTheOwnOne_1 rfl hl (by decide) rfl (fun ls hl => ?_)
  refine lv_iconst (v := 0) S.1 S.2.1 dX3_awaitsTheOwnOne_2 (by decide) ?_
  refine lv_istore_n (i := 3) (lv' := [(3, .int 0), (2, .int x1), (0, rf h0), (1, .int x1)]) S.1 S.2.1 dX3_awaitsTheOwnOne_3 rfl hl (by decide) rfl (fun ls hl => ?_)
  exact wlX3_awaitsTheOwnOne_4 E0  FU h0 x1 0 μ hf _ _ _ hR hS (lv_sub hl [2, 1, 0] rfl)
-- X3_doYield
def fX3_doYield (h0 : Nat) (h1 : Nat) (μ : MM) : Option (Int32 × MM) :=
  if (mI μ h0 9) = ((-1) : Int32) then ((fX3_waitAt h0 h1 μ).bind fun y2 => some (0, y2)) else ((fX3_takesCancel h0 μ).bind fun y3 => if y3.1 = 0 then (if mK μ (mP y3.2 h0 3) = 5 then (fX4_add (mP y3.2 h0 3) (mI y3.2 h0 9) y3.2).bind fun y5 => (fX3_waitAt h0 h1 y5).bind fun y7 => some (0, y7) else none) else (some (9, y3.2)))
set_option maxRecDepth 100000 in
set_option maxHeartbeats 4000000 in
theorem kX3_doYield_kn {μ : MM} {res : Int32 × MM} {h0 : Nat} {h1 : Nat} (hf : fX3_doYield h0 h1 μ = some res) : mmKN μ res.2 := by
  have hK : mmKN μ μ := mmKN.rf
  unfold fX3_doYield at hf
  rcases it_or hf with ⟨c1, hf⟩ | ⟨c1, hf⟩
  · skip
    obtain ⟨y2, hy2, hf⟩ := bd hf
    have hK : mmKN μ y2 := hK.tr (kX3_waitAt_kn hy2)
    obtain rfl := Option.some.inj hf
    exact hK
  · skip
    obtain ⟨y3, hy3, hf⟩ := bd hf
    have hK : mmKN μ y3.2 := hK.tr (kX3_takesCancel_kn hy3)
    rcases it_or hf with ⟨c4, hf⟩ | ⟨c4, hf⟩
    · skip
      obtain ⟨g6, hf⟩ := gd hf
      obtain ⟨y5, hy5, hf⟩ := bd hf
      have hK : mmKN μ y5 := hK.tr (kX4_add_kn hy5)
      obtain ⟨y7, hy7, hf⟩ := bd hf
      have hK : mmKN μ y7 := hK.tr (kX3_waitAt_kn hy7)
      obtain rfl := Option.some.inj hf
      exact hK
    · skip
      obtain rfl := Option.some.inj hf
      exact hK
abbrev rmX3_doYield : Room := { frames := 2, cells := 0, slots := 0, locals := 42 }
set_option maxRecDepth 100000 in
set_option maxHeartbeats 4000000 in
theorem kX3_doYield_c (l : Launch) (G : mmG) (A : Nat → Prop) {μ : MM} {res : Int32 × MM} {h0 : Nat} {h1 : Nat} (hk0 : mK μ h0 = 4) (hf : fX3_doYield h0 h1 μ = some res) : Met l yX3_doYield [.code yX3_doYield cX3_doYield 2 (some (.int))] rmX3_doYield (mmPc G A μ [rf h0, rf h1]) (mmQ G A res.2 (some (.int res.1))) 0 0 A := by
  refine mm_ofW (by decide +kernel) (by simp [lg_sl, rf_cat, int_cat]) ?_
  intro p e s m below meth c ls S hR hA hS hr hlocks hl hnm
  have hl : lv_has ls 2 [(0, rf h0), (1, rf h1)] := by simpa [lv_args, rf_cat, int_cat] using hl
  have E0 : mmEnv p m c cX3_doYield 2 s _ RX3 G A meth (some (.int)) := ⟨S, hA, hr, hlocks⟩
  have hK : mmKN μ μ := mmKN.rf
  unfold fX3_doYield at hf
  refine mm_aload_n S dX3_doYield_0 rfl (lv_at hl 0 rfl) ?_
  refine mm_geti S hR fdX3_202 (hK.k hk0) rfl dX3_doYield_1 ?_
  refine lv_iconst (v := (-1)) S.1 S.2.1 dX3_doYield_4 (by decide) ?_
  refine lv_icmp_eq (tgt := 29) S.1 S.2.1 dX3_doYield_5 (by decide) (fun c1 => ?_) (fun c1 => ?_)
  · have hf := it_t hf c1
    refine mm_aload_n S dX3_doYield_29 rfl (lv_at hl 0 rfl) ?_
    refine mm_aload_n S dX3_doYield_30 rfl (lv_at hl 1 rfl) ?_
    obtain ⟨y2, hy2, hf⟩ := bd hf
    refine mm_callVv S hR hS hA (As := [rf h1]) (rest := []) cvX3_274 (hK.k hk0) (kX3_waitAt_c l G A (hK.k hk0) hy2) rfl rfl ⟨Nat.le_of_ble_eq_true rfl, Nat.le_of_ble_eq_true rfl⟩ rfl hl.1 rfl (lv_room (by simp [rf_cat, int_cat])) dX3_doYield_31 ⟨Nat.le_refl _, Nat.le_refl _⟩ (fun H locs hR hS => ?_)
    have hK : mmKN μ y2 := hK.tr (kX3_waitAt_kn hy2)
    refine lv_iconst (v := 0) S.1 S.2.1 dX3_doYield_34 (by decide) ?_
    obtain rfl := Option.some.inj hf
    exact mm_iret S hR hS hr hlocks dX3_doYield_35
  · have hf := it_f hf c1
    refine mm_aload_n S dX3_doYield_8 rfl (lv_at hl 0 rfl) ?_
    obtain ⟨y3, hy3, hf⟩ := bd hf
    refine mm_callVi S hR hS hA (As := []) (rest := []) cvX3_156 (hK.k hk0) (kX3_takesCancel_c l G A (hK.k hk0) hy3) rfl rfl ⟨Nat.le_of_ble_eq_true rfl, Nat.le_of_ble_eq_true rfl⟩ rfl hl.1 rfl (lv_room (by simp [rf_cat, int_cat])) dX3_doYield_9 ⟨Nat.le_refl _, Nat.le_refl _⟩ (fun H locs hR hS => ?_)
    have hK : mmKN μ y3.2 := hK.tr (kX3_takesCancel_kn hy3)
    refine lv_if_eq (tgt := 18) S.1 S.2.1 dX3_doYield_12 (by decide) (fun c4 => ?_) (fun c4 => ?_)
    · have hf := it_t hf c4
      refine mm_aload_n S dX3_doYield_18 rfl (lv_at hl 0 rfl) ?_
      refine mm_getp S hR fdX3_27 (hK.k hk0) rfl dX3_doYield_19 ?_
      refine mm_aload_n S dX3_doYield_22 rfl (lv_at hl 0 rfl) ?_
      refine mm_geti S hR fdX3_202 (hK.k hk0) rfl dX3_doYield_23 ?_
      obtain ⟨g6, hf⟩ := gd hf
      obtain ⟨y5, hy5, hf⟩ := bd hf
      refine mm_callVv S hR hS hA (As := [.int (mI y3.2 h0 9)]) (rest := []) cvX3_104 (hK.k g6) (kX4_add_c l G A (hK.k g6) hy5) rfl rfl ⟨Nat.le_of_ble_eq_true rfl, Nat.le_of_ble_eq_true rfl⟩ rfl hl.1 rfl (lv_room (by simp [rf_cat, int_cat])) dX3_doYield_26 ⟨Nat.le_refl _, Nat.le_refl _⟩ (fun H locs hR hS => ?_)
      have hK : mmKN μ y5 := hK.tr (kX4_add_kn hy5)
      refine mm_aload_n S dX3_doYield_29 rfl (lv_at hl 0 rfl) ?_
      refine mm_aload_n S dX3_doYield_30 rfl (lv_at hl 1 rfl) ?_
      obtain ⟨y7, hy7, hf⟩ := bd hf
      refine mm_callVv S hR hS hA (As := [rf h1]) (rest := []) cvX3_274 (hK.k hk0) (kX3_waitAt_c l G A (hK.k hk0) hy7) rfl rfl ⟨Nat.le_of_ble_eq_true rfl, Nat.le_of_ble_eq_true rfl⟩ rfl hl.1 rfl (lv_room (by simp [rf_cat, int_cat])) dX3_doYield_31 ⟨Nat.le_refl _, Nat.le_refl _⟩ (fun H locs hR hS => ?_)
      have hK : mmKN μ y7 := hK.tr (kX3_waitAt_kn hy7)
      refine lv_iconst (v := 0) S.1 S.2.1 dX3_doYield_34 (by decide) ?_
      obtain rfl := Option.some.inj hf
      exact mm_iret S hR hS hr hlocks dX3_doYield_35
    · have hf := it_f hf c4
      refine lv_bipush (v := 9) S.1 S.2.1 dX3_doYield_15 (by decide) ?_
      obtain rfl := Option.some.inj hf
      exact mm_iret S hR hS hr hlocks dX3_doYield_17
-- X3_doFrom
def fX3_doFrom (h0 : Nat) (h1 : Nat) (x2 : Int32) (μ : MM) : Option (Int32 × MM) :=
  (fX3_canMake h0 x2 μ).bind fun y1 => if y1.1 = 0 then (some (4, y1.2)) else ((fX3_make h0 x2 2 (-1) y1.2).bind fun y3 => if mK μ h1 = 3 then if mK μ y3.1 = 3 then st (sI y3.2 y3.1 10 (mI y3.2 h1 0)) fun μ6 => st (sI μ6 h1 9 (mI μ6 y3.1 0)) fun μ7 => st (sI μ7 h1 5 1) fun μ8 => (fX2_goOnAt y3.1 0 μ8).bind fun y9 => st (sP y9 h0 8 y3.1) fun μ10 => some (0, μ10) else none else none)
set_option maxRecDepth 100000 in
set_option maxHeartbeats 4000000 in
theorem kX3_doFrom_kn {μ : MM} {res : Int32 × MM} {h0 : Nat} {h1 : Nat} {x2 : Int32} (hf : fX3_doFrom h0 h1 x2 μ = some res) : mmKN μ res.2 := by
  have hK : mmKN μ μ := mmKN.rf
  unfold fX3_doFrom at hf
  obtain ⟨y1, hy1, hf⟩ := bd hf
  have hK : mmKN μ y1.2 := hK.tr (kX3_canMake_kn hy1)
  rcases it_or hf with ⟨c2, hf⟩ | ⟨c2, hf⟩
  · skip
    obtain rfl := Option.some.inj hf
    exact hK
  · skip
    obtain ⟨y3, hy3, hf⟩ := bd hf
    have hK : mmKN μ y3.2 := hK.tr (kX3_make_kn hy3)
    obtain ⟨g4, hf⟩ := gd hf
    obtain ⟨g5, hf⟩ := gd hf
    obtain ⟨μ6, e6, hf⟩ := stx hf
    have hK : mmKN μ μ6 := by rw [e6]; exact hK.sI
    obtain ⟨μ7, e7, hf⟩ := stx hf
    have hK : mmKN μ μ7 := by rw [e7]; exact hK.sI
    obtain ⟨μ8, e8, hf⟩ := stx hf
    have hK : mmKN μ μ8 := by rw [e8]; exact hK.sI
    obtain ⟨y9, hy9, hf⟩ := bd hf
    have hK : mmKN μ y9 := hK.tr (kX2_goOnAt_kn hy9)
    obtain ⟨μ10, e10, hf⟩ := stx hf
    have hK : mmKN μ μ10 := by rw [e10]; exact hK.sP
    obtain rfl := Option.some.inj hf
    exact hK
abbrev rmX3_doFrom : Room := { frames := 2, cells := 0, slots := 0, locals := 48 }
set_option maxRecDepth 100000 in
set_option maxHeartbeats 4000000 in
theorem kX3_doFrom_c (l : Launch) (G : mmG) (A : Nat → Prop) {μ : MM} {res : Int32 × MM} {h0 : Nat} {h1 : Nat} {x2 : Int32} (hk0 : mK μ h0 = 4) (hf : fX3_doFrom h0 h1 x2 μ = some res) : Met l yX3_doFrom [.code yX3_doFrom cX3_doFrom 4 (some (.int))] rmX3_doFrom (mmPc G A μ [rf h0, rf h1, .int x2]) (mmQ G A res.2 (some (.int res.1))) 0 0 A := by
  refine mm_ofW (by decide +kernel) (by simp [lg_sl, rf_cat, int_cat]) ?_
  intro p e s m below meth c ls S hR hA hS hr hlocks hl hnm
  have hl : lv_has ls 4 [(0, rf h0), (1, rf h1), (2, .int x2)] := by simpa [lv_args, rf_cat, int_cat] using hl
  have E0 : mmEnv p m c cX3_doFrom 4 s _ RX3 G A meth (some (.int)) := ⟨S, hA, hr, hlocks⟩
  have hK : mmKN μ μ := mmKN.rf
  unfold fX3_doFrom at hf
  refine mm_aload_n S dX3_doFrom_0 rfl (lv_at hl 0 rfl) ?_
  refine lv_iload_n S.1 S.2.1 dX3_doFrom_1 rfl (lv_at hl 2 rfl) ?_
  obtain ⟨y1, hy1, hf⟩ := bd hf
  refine mm_callVi S hR hS hA (As := [.int x2]) (rest := []) cvX3_277 (hK.k hk0) (kX3_canMake_c l G A (hK.k hk0) hy1) rfl rfl ⟨Nat.le_of_ble_eq_true rfl, Nat.le_of_ble_eq_true rfl⟩ rfl hl.1 rfl (lv_room (by simp [rf_cat, int_cat])) dX3_doFrom_2 ⟨Nat.le_refl _, Nat.le_refl _⟩ (fun H locs hR hS => ?_)
  have hK : mmKN μ y1.2 := hK.tr (kX3_canMake_kn hy1)
  refine lv_if_ne (tgt := 10) S.1 S.2.1 dX3_doFrom_5 (by decide) (fun c2 => ?_) (fun c2 => ?_)
  · have hf := it_f hf c2
    refine mm_aload_n S dX3_doFrom_10 rfl (lv_at hl 0 rfl) ?_
    refine lv_iload_n S.1 S.2.1 dX3_doFrom_11 rfl (lv_at hl 2 rfl) ?_
    refine lv_iconst (v := 2) S.1 S.2.1 dX3_doFrom_12 (by decide) ?_
    refine lv_iconst (v := (-1)) S.1 S.2.1 dX3_doFrom_13 (by decide) ?_
    obtain ⟨y3, hy3, hf⟩ := bd hf
    refine mm_callVh S hR hS hA (As := [.int x2, .int 2, .int (-1)]) (rest := []) cvX3_280 (hK.k hk0) (kX3_make_c l G A (hK.k hk0) hy3) rfl rfl ⟨Nat.le_of_ble_eq_true rfl, Nat.le_of_ble_eq_true rfl⟩ rfl hl.1 rfl (lv_room (by simp [rf_cat, int_cat])) dX3_doFrom_14 ⟨Nat.le_refl _, Nat.le_refl _⟩ (fun H locs hR hS => ?_)
    have hK : mmKN μ y3.2 := hK.tr (kX3_make_kn hy3)
    refine mm_astore_n (i := 3) (lv' := [(3, rf y3.1), (0, rf h0), (1, rf h1), (2, .int x2)]) S dX3_doFrom_17 rfl hl (by decide) rfl (fun ls hl => ?_)
    refine mm_aload_n S dX3_doFrom_18 rfl (lv_at hl 0 rfl) ?_
    refine mm_aload_n S dX3_doFrom_19 rfl (lv_at hl 2 rfl) ?_
    obtain ⟨g4, hf⟩ := gd hf
    refine mm_geti S hR fdX3_101 (hK.k g4) rfl dX3_doFrom_20 ?_
    obtain ⟨g5, hf⟩ := gd hf
    refine mm_puti S hR hS fpX3_141 (hK.k g5) rfl rfl rfl dX3_doFrom_23 (fun H locs hR hS => ?_)
    obtain ⟨μ6, e6, hf⟩ := stx hf
    rw [← e6] at hR
    have hK : mmKN μ μ6 := by rw [e6]; exact hK.sI
    refine mm_aload_n S dX3_doFrom_26 rfl (lv_at hl 2 rfl) ?_
    refine mm_aload_n S dX3_doFrom_27 rfl (lv_at hl 0 rfl) ?_
    refine mm_geti S hR fdX3_101 (hK.k g5) rfl dX3_doFrom_28 ?_
    refine mm_puti S hR hS fpX3_211 (hK.k g4) rfl rfl rfl dX3_doFrom_31 (fun H locs hR hS => ?_)
    obtain ⟨μ7, e7, hf⟩ := stx hf
    rw [← e7] at hR
    have hK : mmKN μ μ7 := by rw [e7]; exact hK.sI
    refine mm_aload_n S dX3_doFrom_34 rfl (lv_at hl 2 rfl) ?_
    refine lv_iconst (v := 1) S.1 S.2.1 dX3_doFrom_35 (by decide) ?_
    refine mm_puti S hR hS fpX3_68 (hK.k g4) rfl rfl rfl dX3_doFrom_36 (fun H locs hR hS => ?_)
    obtain ⟨μ8, e8, hf⟩ := stx hf
    rw [← e8] at hR
    have hK : mmKN μ μ8 := by rw [e8]; exact hK.sI
    refine mm_aload_n S dX3_doFrom_39 rfl (lv_at hl 0 rfl) ?_
    refine lv_iconst (v := 0) S.1 S.2.1 dX3_doFrom_40 (by decide) ?_
    obtain ⟨y9, hy9, hf⟩ := bd hf
    refine mm_callVv S hR hS hA (As := [.int 0]) (rest := []) cvX3_114 (hK.k g5) (kX2_goOnAt_c l G A (hK.k g5) hy9) rfl rfl ⟨Nat.le_of_ble_eq_true rfl, Nat.le_of_ble_eq_true rfl⟩ rfl hl.1 rfl (lv_room (by simp [rf_cat, int_cat])) dX3_doFrom_41 ⟨Nat.le_refl _, Nat.le_refl _⟩ (fun H locs hR hS => ?_)
    have hK : mmKN μ y9 := hK.tr (kX2_goOnAt_kn hy9)
    refine mm_aload_n S dX3_doFrom_44 rfl (lv_at hl 1 rfl) ?_
    refine mm_aload_n S dX3_doFrom_45 rfl (lv_at hl 0 rfl) ?_
    refine mm_putp S hR hS fpX3_38 (hK.k hk0) rfl nr_ok fr_ok dX3_doFrom_46 (fun H locs hR hS => ?_)
    obtain ⟨μ10, e10, hf⟩ := stx hf
    rw [← e10] at hR
    have hK : mmKN μ μ10 := by rw [e10]; exact hK.sP
    refine lv_iconst (v := 0) S.1 S.2.1 dX3_doFrom_49 (by decide) ?_
    obtain rfl := Option.some.inj hf
    exact mm_iret S hR hS hr hlocks dX3_doFrom_50
  · have hf := it_t hf c2
    refine lv_iconst (v := 4) S.1 S.2.1 dX3_doFrom_8 (by decide) ?_
    obtain rfl := Option.some.inj hf
    exact mm_iret S hR hS hr hlocks dX3_doFrom_9
-- X3_doSleep
def fX3_doSleep (h0 : Nat) (h1 : Nat) (x2 : Int32) (μ : MM) : Option (Int32 × MM) :=
  if (mI μ h0 9) = ((-1) : Int32) then (some (3, μ)) else ((fX3_takesCancel h0 μ).bind fun y2 => if y2.1 = 0 then ((fX3_at h0 (mI y2.2 h0 9) y2.2).bind fun y4 => if mK μ y4.1 = 3 then st (sI y4.2 y4.1 12 ((mI y4.2 h0 6) + x2)) fun μ6 => (fX3_waitAt h0 h1 μ6).bind fun y7 => some (0, y7) else none) else (some (9, y2.2)))
set_option maxRecDepth 100000 in
set_option maxHeartbeats 4000000 in
theorem kX3_doSleep_kn {μ : MM} {res : Int32 × MM} {h0 : Nat} {h1 : Nat} {x2 : Int32} (hf : fX3_doSleep h0 h1 x2 μ = some res) : mmKN μ res.2 := by
  have hK : mmKN μ μ := mmKN.rf
  unfold fX3_doSleep at hf
  rcases it_or hf with ⟨c1, hf⟩ | ⟨c1, hf⟩
  · skip
    obtain rfl := Option.some.inj hf
    exact hK
  · skip
    obtain ⟨y2, hy2, hf⟩ := bd hf
    have hK : mmKN μ y2.2 := hK.tr (kX3_takesCancel_kn hy2)
    rcases it_or hf with ⟨c3, hf⟩ | ⟨c3, hf⟩
    · skip
      obtain ⟨y4, hy4, hf⟩ := bd hf
      have hK : mmKN μ y4.2 := hK.tr (kX3_at_kn hy4)
      obtain ⟨g5, hf⟩ := gd hf
      obtain ⟨μ6, e6, hf⟩ := stx hf
      have hK : mmKN μ μ6 := by rw [e6]; exact hK.sI
      obtain ⟨y7, hy7, hf⟩ := bd hf
      have hK : mmKN μ y7 := hK.tr (kX3_waitAt_kn hy7)
      obtain rfl := Option.some.inj hf
      exact hK
    · skip
      obtain rfl := Option.some.inj hf
      exact hK
abbrev rmX3_doSleep : Room := { frames := 2, cells := 0, slots := 0, locals := 42 }
set_option maxRecDepth 100000 in
set_option maxHeartbeats 4000000 in
theorem kX3_doSleep_c (l : Launch) (G : mmG) (A : Nat → Prop) {μ : MM} {res : Int32 × MM} {h0 : Nat} {h1 : Nat} {x2 : Int32} (hk0 : mK μ h0 = 4) (hf : fX3_doSleep h0 h1 x2 μ = some res) : Met l yX3_doSleep [.code yX3_doSleep cX3_doSleep 3 (some (.int))] rmX3_doSleep (mmPc G A μ [rf h0, rf h1, .int x2]) (mmQ G A res.2 (some (.int res.1))) 0 0 A := by
  refine mm_ofW (by decide +kernel) (by simp [lg_sl, rf_cat, int_cat]) ?_
  intro p e s m below meth c ls S hR hA hS hr hlocks hl hnm
  have hl : lv_has ls 3 [(0, rf h0), (1, rf h1), (2, .int x2)] := by simpa [lv_args, rf_cat, int_cat] using hl
  have E0 : mmEnv p m c cX3_doSleep 3 s _ RX3 G A meth (some (.int)) := ⟨S, hA, hr, hlocks⟩
  have hK : mmKN μ μ := mmKN.rf
  unfold fX3_doSleep at hf
  refine mm_aload_n S dX3_doSleep_0 rfl (lv_at hl 0 rfl) ?_
  refine mm_geti S hR fdX3_202 (hK.k hk0) rfl dX3_doSleep_1 ?_
  refine lv_iconst (v := (-1)) S.1 S.2.1 dX3_doSleep_4 (by decide) ?_
  refine lv_icmp_ne (tgt := 10) S.1 S.2.1 dX3_doSleep_5 (by decide) (fun c1 => ?_) (fun c1 => ?_)
  · have hf := it_f hf c1
    refine mm_aload_n S dX3_doSleep_10 rfl (lv_at hl 0 rfl) ?_
    obtain ⟨y2, hy2, hf⟩ := bd hf
    refine mm_callVi S hR hS hA (As := []) (rest := []) cvX3_156 (hK.k hk0) (kX3_takesCancel_c l G A (hK.k hk0) hy2) rfl rfl ⟨Nat.le_of_ble_eq_true rfl, Nat.le_of_ble_eq_true rfl⟩ rfl hl.1 rfl (lv_room (by simp [rf_cat, int_cat])) dX3_doSleep_11 ⟨Nat.le_refl _, Nat.le_refl _⟩ (fun H locs hR hS => ?_)
    have hK : mmKN μ y2.2 := hK.tr (kX3_takesCancel_kn hy2)
    refine lv_if_eq (tgt := 20) S.1 S.2.1 dX3_doSleep_14 (by decide) (fun c3 => ?_) (fun c3 => ?_)
    · have hf := it_t hf c3
      refine mm_aload_n S dX3_doSleep_20 rfl (lv_at hl 0 rfl) ?_
      refine mm_aload_n S dX3_doSleep_21 rfl (lv_at hl 0 rfl) ?_
      refine mm_geti S hR fdX3_202 (hK.k hk0) rfl dX3_doSleep_22 ?_
      obtain ⟨y4, hy4, hf⟩ := bd hf
      refine mm_callVh S hR hS hA (As := [.int (mI y2.2 h0 9)]) (rest := []) cvX3_55 (hK.k hk0) (kX3_at_c l G A (hK.k hk0) hy4) rfl rfl ⟨Nat.le_of_ble_eq_true rfl, Nat.le_of_ble_eq_true rfl⟩ rfl hl.1 rfl (lv_room (by simp [rf_cat, int_cat])) dX3_doSleep_25 ⟨Nat.le_refl _, Nat.le_refl _⟩ (fun H locs hR hS => ?_)
      have hK : mmKN μ y4.2 := hK.tr (kX3_at_kn hy4)
      refine mm_aload_n S dX3_doSleep_28 rfl (lv_at hl 0 rfl) ?_
      refine mm_geti S hR fdX3_45 (hK.k hk0) rfl dX3_doSleep_29 ?_
      refine lv_iload_n S.1 S.2.1 dX3_doSleep_32 rfl (lv_at hl 2 rfl) ?_
      refine lv_iadd S.1 S.2.1 dX3_doSleep_33 ?_
      obtain ⟨g5, hf⟩ := gd hf
      refine mm_puti S hR hS fpX3_196 (hK.k g5) rfl rfl rfl dX3_doSleep_34 (fun H locs hR hS => ?_)
      obtain ⟨μ6, e6, hf⟩ := stx hf
      rw [← e6] at hR
      have hK : mmKN μ μ6 := by rw [e6]; exact hK.sI
      refine mm_aload_n S dX3_doSleep_37 rfl (lv_at hl 0 rfl) ?_
      refine mm_aload_n S dX3_doSleep_38 rfl (lv_at hl 1 rfl) ?_
      obtain ⟨y7, hy7, hf⟩ := bd hf
      refine mm_callVv S hR hS hA (As := [rf h1]) (rest := []) cvX3_274 (hK.k hk0) (kX3_waitAt_c l G A (hK.k hk0) hy7) rfl rfl ⟨Nat.le_of_ble_eq_true rfl, Nat.le_of_ble_eq_true rfl⟩ rfl hl.1 rfl (lv_room (by simp [rf_cat, int_cat])) dX3_doSleep_39 ⟨Nat.le_refl _, Nat.le_refl _⟩ (fun H locs hR hS => ?_)
      have hK : mmKN μ y7 := hK.tr (kX3_waitAt_kn hy7)
      refine lv_iconst (v := 0) S.1 S.2.1 dX3_doSleep_42 (by decide) ?_
      obtain rfl := Option.some.inj hf
      exact mm_iret S hR hS hr hlocks dX3_doSleep_43
    · have hf := it_f hf c3
      refine lv_bipush (v := 9) S.1 S.2.1 dX3_doSleep_17 (by decide) ?_
      obtain rfl := Option.some.inj hf
      exact mm_iret S hR hS hr hlocks dX3_doSleep_19
  · have hf := it_t hf c1
    refine lv_iconst (v := 3) S.1 S.2.1 dX3_doSleep_8 (by decide) ?_
    obtain rfl := Option.some.inj hf
    exact mm_iret S hR hS hr hlocks dX3_doSleep_9
-- X3_doAwait
def fX3_doAwait (h0 : Nat) (h1 : Nat) (μ : MM) : Option (Int32 × MM) :=
  if (mI μ h0 9) = ((-1) : Int32) then (some (3, μ)) else (if mK μ h1 = 3 then (fX3_has h0 (mI μ h1 7) 1 μ).bind fun y3 => if y3.1 = 0 then (some (6, y3.2)) else (if (mI μ h1 7) = (mI y3.2 h0 9) then (some (6, y3.2)) else ((fX3_at h0 (mI μ h1 7) y3.2).bind fun y6 => if mK μ y6.1 = 3 then (fX2_isOver y6.1 y6.2).bind fun y7 => if y7.1 = 0 then ((fX3_awaitsTheOwnOne h0 (mI μ h1 7) y7.2).bind fun y10 => if y10.1 = 0 then ((fX3_takesCancel h0 y10.2).bind fun y12 => if y12.1 = 0 then ((fX3_at h0 (mI y12.2 h0 9) y12.2).bind fun y14 => if mK μ y14.1 = 3 then st (sI y14.2 y14.1 13 (mI μ h1 7)) fun μ16 => if mK μ (mP μ16 h0 4) = 5 then (fX4_add (mP μ16 h0 4) (mI μ16 h0 9) μ16).bind fun y17 => (fX3_waitAt h0 h1 y17).bind fun y19 => some (0, y19) else none else none) else (some (9, y12.2))) else (some (2, y10.2))) else ((fX3_at h0 (mI μ h1 7) y7.2).bind fun y20 => (fX3_takeOutcome h0 h1 y20.1 y20.2).bind fun y21 => some (y21.1, y21.2)) else none)) else none)
set_option maxRecDepth 100000 in
set_option maxHeartbeats 4000000 in
theorem kX3_doAwait_kn {μ : MM} {res : Int32 × MM} {h0 : Nat} {h1 : Nat} (hf : fX3_doAwait h0 h1 μ = some res) : mmKN μ res.2 := by
  have hK : mmKN μ μ := mmKN.rf
  unfold fX3_doAwait at hf
  rcases it_or hf with ⟨c1, hf⟩ | ⟨c1, hf⟩
  · skip
    obtain rfl := Option.some.inj hf
    exact hK
  · skip
    obtain ⟨g2, hf⟩ := gd hf
    obtain ⟨y3, hy3, hf⟩ := bd hf
    have hK : mmKN μ y3.2 := hK.tr (kX3_has_kn hy3)
    rcases it_or hf with ⟨c4, hf⟩ | ⟨c4, hf⟩
    · skip
      obtain rfl := Option.some.inj hf
      exact hK
    · skip
      rcases it_or hf with ⟨c5, hf⟩ | ⟨c5, hf⟩
      · skip
        obtain rfl := Option.some.inj hf
        exact hK
      · skip
        obtain ⟨y6, hy6, hf⟩ := bd hf
        have hK : mmKN μ y6.2 := hK.tr (kX3_at_kn hy6)
        obtain ⟨g8, hf⟩ := gd hf
        obtain ⟨y7, hy7, hf⟩ := bd hf
        have hK : mmKN μ y7.2 := hK.tr (kX2_isOver_kn hy7)
        rcases it_or hf with ⟨c9, hf⟩ | ⟨c9, hf⟩
        · skip
          obtain ⟨y10, hy10, hf⟩ := bd hf
          have hK : mmKN μ y10.2 := hK.tr (kX3_awaitsTheOwnOne_kn hy10)
          rcases it_or hf with ⟨c11, hf⟩ | ⟨c11, hf⟩
          · skip
            obtain ⟨y12, hy12, hf⟩ := bd hf
            have hK : mmKN μ y12.2 := hK.tr (kX3_takesCancel_kn hy12)
            rcases it_or hf with ⟨c13, hf⟩ | ⟨c13, hf⟩
            · skip
              obtain ⟨y14, hy14, hf⟩ := bd hf
              have hK : mmKN μ y14.2 := hK.tr (kX3_at_kn hy14)
              obtain ⟨g15, hf⟩ := gd hf
              obtain ⟨μ16, e16, hf⟩ := stx hf
              have hK : mmKN μ μ16 := by rw [e16]; exact hK.sI
              obtain ⟨g18, hf⟩ := gd hf
              obtain ⟨y17, hy17, hf⟩ := bd hf
              have hK : mmKN μ y17 := hK.tr (kX4_add_kn hy17)
              obtain ⟨y19, hy19, hf⟩ := bd hf
              have hK : mmKN μ y19 := hK.tr (kX3_waitAt_kn hy19)
              obtain rfl := Option.some.inj hf
              exact hK
            · skip
              obtain rfl := Option.some.inj hf
              exact hK
          · skip
            obtain rfl := Option.some.inj hf
            exact hK
        · skip
          obtain ⟨y20, hy20, hf⟩ := bd hf
          have hK : mmKN μ y20.2 := hK.tr (kX3_at_kn hy20)
          obtain ⟨y21, hy21, hf⟩ := bd hf
          have hK : mmKN μ y21.2 := hK.tr (kX3_takeOutcome_kn hy21)
          obtain rfl := Option.some.inj hf
          exact hK
abbrev rmX3_doAwait : Room := { frames := 2, cells := 0, slots := 0, locals := 44 }
set_option maxRecDepth 100000 in
set_option maxHeartbeats 4000000 in
theorem kX3_doAwait_c (l : Launch) (G : mmG) (A : Nat → Prop) {μ : MM} {res : Int32 × MM} {h0 : Nat} {h1 : Nat} (hk0 : mK μ h0 = 4) (hf : fX3_doAwait h0 h1 μ = some res) : Met l yX3_doAwait [.code yX3_doAwait cX3_doAwait 3 (some (.int))] rmX3_doAwait (mmPc G A μ [rf h0, rf h1]) (mmQ G A res.2 (some (.int res.1))) 0 0 A := by
  refine mm_ofW (by decide +kernel) (by simp [lg_sl, rf_cat, int_cat]) ?_
  intro p e s m below meth c ls S hR hA hS hr hlocks hl hnm
  have hl : lv_has ls 3 [(0, rf h0), (1, rf h1)] := by simpa [lv_args, rf_cat, int_cat] using hl
  have E0 : mmEnv p m c cX3_doAwait 3 s _ RX3 G A meth (some (.int)) := ⟨S, hA, hr, hlocks⟩
  have hK : mmKN μ μ := mmKN.rf
  unfold fX3_doAwait at hf
  refine mm_aload_n S dX3_doAwait_0 rfl (lv_at hl 0 rfl) ?_
  refine mm_geti S hR fdX3_202 (hK.k hk0) rfl dX3_doAwait_1 ?_
  refine lv_iconst (v := (-1)) S.1 S.2.1 dX3_doAwait_4 (by decide) ?_
  refine lv_icmp_ne (tgt := 10) S.1 S.2.1 dX3_doAwait_5 (by decide) (fun c1 => ?_) (fun c1 => ?_)
  · have hf := it_f hf c1
    refine mm_aload_n S dX3_doAwait_10 rfl (lv_at hl 1 rfl) ?_
    obtain ⟨g2, hf⟩ := gd hf
    refine mm_geti S hR fdX3_117 (hK.k g2) rfl dX3_doAwait_11 ?_
    refine lv_istore_n (i := 2) (lv' := [(2, .int (mI μ h1 7)), (0, rf h0), (1, rf h1)]) S.1 S.2.1 dX3_doAwait_14 rfl hl (by decide) (by simp [rf_cat]) (fun ls hl => ?_)
    refine mm_aload_n S dX3_doAwait_15 rfl (lv_at hl 1 rfl) ?_
    refine lv_iload_n S.1 S.2.1 dX3_doAwait_16 rfl (lv_at hl 0 rfl) ?_
    refine lv_iconst (v := 1) S.1 S.2.1 dX3_doAwait_17 (by decide) ?_
    obtain ⟨y3, hy3, hf⟩ := bd hf
    refine mm_callVi S hR hS hA (As := [.int (mI μ h1 7), .int 1]) (rest := []) cvX3_180 (hK.k hk0) (kX3_has_c l G A (hK.k hk0) hy3) rfl rfl ⟨Nat.le_of_ble_eq_true rfl, Nat.le_of_ble_eq_true rfl⟩ rfl hl.1 rfl (lv_room (by simp [rf_cat, int_cat])) dX3_doAwait_18 ⟨Nat.le_refl _, Nat.le_refl _⟩ (fun H locs hR hS => ?_)
    have hK : mmKN μ y3.2 := hK.tr (kX3_has_kn hy3)
    refine lv_if_eq (tgt := 32) S.1 S.2.1 dX3_doAwait_21 (by decide) (fun c4 => ?_) (fun c4 => ?_)
    · have hf := it_t hf c4
      refine lv_bipush (v := 6) S.1 S.2.1 dX3_doAwait_32 (by decide) ?_
      obtain rfl := Option.some.inj hf
      exact mm_iret S hR hS hr hlocks dX3_doAwait_34
    · have hf := it_f hf c4
      refine lv_iload_n S.1 S.2.1 dX3_doAwait_24 rfl (lv_at hl 0 rfl) ?_
      refine mm_aload_n S dX3_doAwait_25 rfl (lv_at hl 1 rfl) ?_
      refine mm_geti S hR fdX3_202 (hK.k hk0) rfl dX3_doAwait_26 ?_
      refine lv_icmp_ne (tgt := 35) S.1 S.2.1 dX3_doAwait_29 (by decide) (fun c5 => ?_) (fun c5 => ?_)
      · have hf := it_f hf c5
        refine mm_aload_n S dX3_doAwait_35 rfl (lv_at hl 1 rfl) ?_
        refine lv_iload_n S.1 S.2.1 dX3_doAwait_36 rfl (lv_at hl 0 rfl) ?_
        obtain ⟨y6, hy6, hf⟩ := bd hf
        refine mm_callVh S hR hS hA (As := [.int (mI μ h1 7)]) (rest := []) cvX3_55 (hK.k hk0) (kX3_at_c l G A (hK.k hk0) hy6) rfl rfl ⟨Nat.le_of_ble_eq_true rfl, Nat.le_of_ble_eq_true rfl⟩ rfl hl.1 rfl (lv_room (by simp [rf_cat, int_cat])) dX3_doAwait_37 ⟨Nat.le_refl _, Nat.le_refl _⟩ (fun H locs hR hS => ?_)
        have hK : mmKN μ y6.2 := hK.tr (kX3_at_kn hy6)
        obtain ⟨g8, hf⟩ := gd hf
        obtain ⟨y7, hy7, hf⟩ := bd hf
        refine mm_callVi S hR hS hA (As := []) (rest := []) cvX3_71 (hK.k g8) (kX2_isOver_c l G A (hK.k g8) hy7) rfl rfl ⟨Nat.le_of_ble_eq_true rfl, Nat.le_of_ble_eq_true rfl⟩ rfl hl.1 rfl (lv_room (by simp [rf_cat, int_cat])) dX3_doAwait_40 ⟨Nat.le_refl _, Nat.le_refl _⟩ (fun H locs hR hS => ?_)
        have hK : mmKN μ y7.2 := hK.tr (kX2_isOver_kn hy7)
        refine lv_if_eq (tgt := 57) S.1 S.2.1 dX3_doAwait_43 (by decide) (fun c9 => ?_) (fun c9 => ?_)
        · have hf := it_t hf c9
          refine mm_aload_n S dX3_doAwait_57 rfl (lv_at hl 1 rfl) ?_
          refine lv_iload_n S.1 S.2.1 dX3_doAwait_58 rfl (lv_at hl 0 rfl) ?_
          obtain ⟨y10, hy10, hf⟩ := bd hf
          refine mm_callVi S hR hS hA (As := [.int (mI μ h1 7)]) (rest := []) cvX3_284 (hK.k hk0) (kX3_awaitsTheOwnOne_c l G A (hK.k hk0) hy10) rfl rfl ⟨Nat.le_of_ble_eq_true rfl, Nat.le_of_ble_eq_true rfl⟩ rfl hl.1 rfl (lv_room (by simp [rf_cat, int_cat])) dX3_doAwait_59 ⟨Nat.le_refl _, Nat.le_refl _⟩ (fun H locs hR hS => ?_)
          have hK : mmKN μ y10.2 := hK.tr (kX3_awaitsTheOwnOne_kn hy10)
          refine lv_if_eq (tgt := 67) S.1 S.2.1 dX3_doAwait_62 (by decide) (fun c11 => ?_) (fun c11 => ?_)
          · have hf := it_t hf c11
            refine mm_aload_n S dX3_doAwait_67 rfl (lv_at hl 1 rfl) ?_
            obtain ⟨y12, hy12, hf⟩ := bd hf
            refine mm_callVi S hR hS hA (As := []) (rest := []) cvX3_156 (hK.k hk0) (kX3_takesCancel_c l G A (hK.k hk0) hy12) rfl rfl ⟨Nat.le_of_ble_eq_true rfl, Nat.le_of_ble_eq_true rfl⟩ rfl hl.1 rfl (lv_room (by simp [rf_cat, int_cat])) dX3_doAwait_68 ⟨Nat.le_refl _, Nat.le_refl _⟩ (fun H locs hR hS => ?_)
            have hK : mmKN μ y12.2 := hK.tr (kX3_takesCancel_kn hy12)
            refine lv_if_eq (tgt := 77) S.1 S.2.1 dX3_doAwait_71 (by decide) (fun c13 => ?_) (fun c13 => ?_)
            · have hf := it_t hf c13
              refine mm_aload_n S dX3_doAwait_77 rfl (lv_at hl 1 rfl) ?_
              refine mm_aload_n S dX3_doAwait_78 rfl (lv_at hl 1 rfl) ?_
              refine mm_geti S hR fdX3_202 (hK.k hk0) rfl dX3_doAwait_79 ?_
              obtain ⟨y14, hy14, hf⟩ := bd hf
              refine mm_callVh S hR hS hA (As := [.int (mI y12.2 h0 9)]) (rest := []) cvX3_55 (hK.k hk0) (kX3_at_c l G A (hK.k hk0) hy14) rfl rfl ⟨Nat.le_of_ble_eq_true rfl, Nat.le_of_ble_eq_true rfl⟩ rfl hl.1 rfl (lv_room (by simp [rf_cat, int_cat])) dX3_doAwait_82 ⟨Nat.le_refl _, Nat.le_refl _⟩ (fun H locs hR hS => ?_)
              have hK : mmKN μ y14.2 := hK.tr (kX3_at_kn hy14)
              refine lv_iload_n S.1 S.2.1 dX3_doAwait_85 rfl (lv_at hl 0 rfl) ?_
              obtain ⟨g15, hf⟩ := gd hf
              refine mm_puti S hR hS fpX3_82 (hK.k g15) rfl rfl rfl dX3_doAwait_86 (fun H locs hR hS => ?_)
              obtain ⟨μ16, e16, hf⟩ := stx hf
              rw [← e16] at hR
              have hK : mmKN μ μ16 := by rw [e16]; exact hK.sI
              refine mm_aload_n S dX3_doAwait_89 rfl (lv_at hl 1 rfl) ?_
              refine mm_getp S hR fdX3_31 (hK.k hk0) rfl dX3_doAwait_90 ?_
              refine mm_aload_n S dX3_doAwait_93 rfl (lv_at hl 1 rfl) ?_
              refine mm_geti S hR fdX3_202 (hK.k hk0) rfl dX3_doAwait_94 ?_
              obtain ⟨g18, hf⟩ := gd hf
              obtain ⟨y17, hy17, hf⟩ := bd hf
              refine mm_callVv S hR hS hA (As := [.int (mI μ16 h0 9)]) (rest := []) cvX3_104 (hK.k g18) (kX4_add_c l G A (hK.k g18) hy17) rfl rfl ⟨Nat.le_of_ble_eq_true rfl, Nat.le_of_ble_eq_true rfl⟩ rfl hl.1 rfl (lv_room (by simp [rf_cat, int_cat])) dX3_doAwait_97 ⟨Nat.le_refl _, Nat.le_refl _⟩ (fun H locs hR hS => ?_)
              have hK : mmKN μ y17 := hK.tr (kX4_add_kn hy17)
              refine mm_aload_n S dX3_doAwait_100 rfl (lv_at hl 1 rfl) ?_
              refine mm_aload_n S dX3_doAwait_101 rfl (lv_at hl 2 rfl) ?_
              obtain ⟨y19, hy19, hf⟩ := bd hf
              refine mm_callVv S hR hS hA (As := [rf h1]) (rest := []) cvX3_274 (hK.k hk0) (kX3_waitAt_c l G A (hK.k hk0) hy19) rfl rfl ⟨Nat.le_of_ble_eq_true rfl, Nat.le_of_ble_eq_true rfl⟩ rfl hl.1 rfl (lv_room (by simp [rf_cat, int_cat])) dX3_doAwait_102 ⟨Nat.le_refl _, Nat.le_refl _⟩ (fun H locs hR hS => ?_)
              have hK : mmKN μ y19 := hK.tr (kX3_waitAt_kn hy19)
              refine lv_iconst (v := 0) S.1 S.2.1 dX3_doAwait_105 (by decide) ?_
              obtain rfl := Option.some.inj hf
              exact mm_iret S hR hS hr hlocks dX3_doAwait_106
            · have hf := it_f hf c13
              refine lv_bipush (v := 9) S.1 S.2.1 dX3_doAwait_74 (by decide) ?_
              obtain rfl := Option.some.inj hf
              exact mm_iret S hR hS hr hlocks dX3_doAwait_76
          · have hf := it_f hf c11
            refine lv_iconst (v := 2) S.1 S.2.1 dX3_doAwait_65 (by decide) ?_
            obtain rfl := Option.some.inj hf
            exact mm_iret S hR hS hr hlocks dX3_doAwait_66
        · have hf := it_f hf c9
          refine mm_aload_n S dX3_doAwait_46 rfl (lv_at hl 1 rfl) ?_
          refine mm_aload_n S dX3_doAwait_47 rfl (lv_at hl 2 rfl) ?_
          refine mm_aload_n S dX3_doAwait_48 rfl (lv_at hl 1 rfl) ?_
          refine lv_iload_n S.1 S.2.1 dX3_doAwait_49 rfl (lv_at hl 0 rfl) ?_
          obtain ⟨y20, hy20, hf⟩ := bd hf
          refine mm_callVh S hR hS hA (As := [.int (mI μ h1 7)]) (rest := [rf h1, rf h0]) cvX3_55 (hK.k hk0) (kX3_at_c l G A (hK.k hk0) hy20) rfl rfl ⟨Nat.le_of_ble_eq_true rfl, Nat.le_of_ble_eq_true rfl⟩ rfl hl.1 rfl (lv_room (by simp [rf_cat, int_cat])) dX3_doAwait_50 ⟨Nat.le_refl _, Nat.le_refl _⟩ (fun H locs hR hS => ?_)
          have hK : mmKN μ y20.2 := hK.tr (kX3_at_kn hy20)
          obtain ⟨y21, hy21, hf⟩ := bd hf
          refine mm_callVi S hR hS hA (As := [rf h1, rf y20.1]) (rest := []) cvX3_170 (hK.k hk0) (kX3_takeOutcome_c l G A (hK.k hk0) hy21) rfl rfl ⟨Nat.le_of_ble_eq_true rfl, Nat.le_of_ble_eq_true rfl⟩ rfl hl.1 rfl (lv_room (by simp [rf_cat, int_cat])) dX3_doAwait_53 ⟨Nat.le_refl _, Nat.le_refl _⟩ (fun H locs hR hS => ?_)
          have hK : mmKN μ y21.2 := hK.tr (kX3_takeOutcome_kn hy21)
          obtain rfl := Option.some.inj hf
          exact mm_iret S hR hS hr hlocks dX3_doAwait_56
      · have hf := it_t hf c5
        refine lv_bipush (v := 6) S.1 S.2.1 dX3_doAwait_32 (by decide) ?_
        obtain rfl := Option.some.inj hf
        exact mm_iret S hR hS hr hlocks dX3_doAwait_34
  · have hf := it_t hf c1
    refine lv_iconst (v := 3) S.1 S.2.1 dX3_doAwait_8 (by decide) ?_
    obtain rfl := Option.some.inj hf
    exact mm_iret S hR hS hr hlocks dX3_doAwait_9
-- X3_doSpawn
def fX3_doSpawn (h0 : Nat) (h1 : Nat) (x2 : Int32) (μ : MM) : Option (Int32 × MM) :=
  if (mI μ h0 9) = ((-1) : Int32) then (some (3, μ)) else ((fX3_canMake h0 x2 μ).bind fun y2 => if y2.1 = 0 then (some (4, y2.2)) else ((fX3_make h0 x2 1 (mI y2.2 h0 9) y2.2).bind fun y4 => if mK μ y4.1 = 3 then if mK μ h1 = 3 then st (sI y4.2 h1 7 (mI y4.2 y4.1 0)) fun μ7 => st (sI μ7 h1 6 ((mI μ7 h1 6) + 1)) fun μ8 => some (0, μ8) else none else none))
set_option maxRecDepth 100000 in
set_option maxHeartbeats 4000000 in
theorem kX3_doSpawn_kn {μ : MM} {res : Int32 × MM} {h0 : Nat} {h1 : Nat} {x2 : Int32} (hf : fX3_doSpawn h0 h1 x2 μ = some res) : mmKN μ res.2 := by
  have hK : mmKN μ μ := mmKN.rf
  unfold fX3_doSpawn at hf
  rcases it_or hf with ⟨c1, hf⟩ | ⟨c1, hf⟩
  · skip
    obtain rfl := Option.some.inj hf
    exact hK
  · skip
    obtain ⟨y2, hy2, hf⟩ := bd hf
    have hK : mmKN μ y2.2 := hK.tr (kX3_canMake_kn hy2)
    rcases it_or hf with ⟨c3, hf⟩ | ⟨c3, hf⟩
    · skip
      obtain rfl := Option.some.inj hf
      exact hK
    · skip
      obtain ⟨y4, hy4, hf⟩ := bd hf
      have hK : mmKN μ y4.2 := hK.tr (kX3_make_kn hy4)
      obtain ⟨g5, hf⟩ := gd hf
      obtain ⟨g6, hf⟩ := gd hf
      obtain ⟨μ7, e7, hf⟩ := stx hf
      have hK : mmKN μ μ7 := by rw [e7]; exact hK.sI
      obtain ⟨μ8, e8, hf⟩ := stx hf
      have hK : mmKN μ μ8 := by rw [e8]; exact hK.sI
      obtain rfl := Option.some.inj hf
      exact hK
abbrev rmX3_doSpawn : Room := { frames := 2, cells := 0, slots := 0, locals := 48 }
set_option maxRecDepth 100000 in
set_option maxHeartbeats 4000000 in
theorem kX3_doSpawn_c (l : Launch) (G : mmG) (A : Nat → Prop) {μ : MM} {res : Int32 × MM} {h0 : Nat} {h1 : Nat} {x2 : Int32} (hk0 : mK μ h0 = 4) (hf : fX3_doSpawn h0 h1 x2 μ = some res) : Met l yX3_doSpawn [.code yX3_doSpawn cX3_doSpawn 3 (some (.int))] rmX3_doSpawn (mmPc G A μ [rf h0, rf h1, .int x2]) (mmQ G A res.2 (some (.int res.1))) 0 0 A := by
  refine mm_ofW (by decide +kernel) (by simp [lg_sl, rf_cat, int_cat]) ?_
  intro p e s m below meth c ls S hR hA hS hr hlocks hl hnm
  have hl : lv_has ls 3 [(0, rf h0), (1, rf h1), (2, .int x2)] := by simpa [lv_args, rf_cat, int_cat] using hl
  have E0 : mmEnv p m c cX3_doSpawn 3 s _ RX3 G A meth (some (.int)) := ⟨S, hA, hr, hlocks⟩
  have hK : mmKN μ μ := mmKN.rf
  unfold fX3_doSpawn at hf
  refine mm_aload_n S dX3_doSpawn_0 rfl (lv_at hl 0 rfl) ?_
  refine mm_geti S hR fdX3_202 (hK.k hk0) rfl dX3_doSpawn_1 ?_
  refine lv_iconst (v := (-1)) S.1 S.2.1 dX3_doSpawn_4 (by decide) ?_
  refine lv_icmp_ne (tgt := 10) S.1 S.2.1 dX3_doSpawn_5 (by decide) (fun c1 => ?_) (fun c1 => ?_)
  · have hf := it_f hf c1
    refine mm_aload_n S dX3_doSpawn_10 rfl (lv_at hl 0 rfl) ?_
    refine lv_iload_n S.1 S.2.1 dX3_doSpawn_11 rfl (lv_at hl 2 rfl) ?_
    obtain ⟨y2, hy2, hf⟩ := bd hf
    refine mm_callVi S hR hS hA (As := [.int x2]) (rest := []) cvX3_277 (hK.k hk0) (kX3_canMake_c l G A (hK.k hk0) hy2) rfl rfl ⟨Nat.le_of_ble_eq_true rfl, Nat.le_of_ble_eq_true rfl⟩ rfl hl.1 rfl (lv_room (by simp [rf_cat, int_cat])) dX3_doSpawn_12 ⟨Nat.le_refl _, Nat.le_refl _⟩ (fun H locs hR hS => ?_)
    have hK : mmKN μ y2.2 := hK.tr (kX3_canMake_kn hy2)
    refine lv_if_ne (tgt := 20) S.1 S.2.1 dX3_doSpawn_15 (by decide) (fun c3 => ?_) (fun c3 => ?_)
    · have hf := it_f hf c3
      refine mm_aload_n S dX3_doSpawn_20 rfl (lv_at hl 1 rfl) ?_
      refine mm_aload_n S dX3_doSpawn_21 rfl (lv_at hl 0 rfl) ?_
      refine lv_iload_n S.1 S.2.1 dX3_doSpawn_22 rfl (lv_at hl 2 rfl) ?_
      refine lv_iconst (v := 1) S.1 S.2.1 dX3_doSpawn_23 (by decide) ?_
      refine mm_aload_n S dX3_doSpawn_24 rfl (lv_at hl 0 rfl) ?_
      refine mm_geti S hR fdX3_202 (hK.k hk0) rfl dX3_doSpawn_25 ?_
      obtain ⟨y4, hy4, hf⟩ := bd hf
      refine mm_callVh S hR hS hA (As := [.int x2, .int 1, .int (mI y2.2 h0 9)]) (rest := [rf h1]) cvX3_280 (hK.k hk0) (kX3_make_c l G A (hK.k hk0) hy4) rfl rfl ⟨Nat.le_of_ble_eq_true rfl, Nat.le_of_ble_eq_true rfl⟩ rfl hl.1 rfl (lv_room (by simp [rf_cat, int_cat])) dX3_doSpawn_28 ⟨Nat.le_refl _, Nat.le_refl _⟩ (fun H locs hR hS => ?_)
      have hK : mmKN μ y4.2 := hK.tr (kX3_make_kn hy4)
      obtain ⟨g5, hf⟩ := gd hf
      refine mm_geti S hR fdX3_101 (hK.k g5) rfl dX3_doSpawn_31 ?_
      obtain ⟨g6, hf⟩ := gd hf
      refine mm_puti S hR hS fpX3_117 (hK.k g6) rfl rfl rfl dX3_doSpawn_34 (fun H locs hR hS => ?_)
      obtain ⟨μ7, e7, hf⟩ := stx hf
      rw [← e7] at hR
      have hK : mmKN μ μ7 := by rw [e7]; exact hK.sI
      refine mm_aload_n S dX3_doSpawn_37 rfl (lv_at hl 1 rfl) ?_
      refine lv_dup S.1 S.2.1 dX3_doSpawn_38 (rf_cat _) ?_
      refine mm_geti S hR fdX3_120 (hK.k g6) rfl dX3_doSpawn_39 ?_
      refine lv_iconst (v := 1) S.1 S.2.1 dX3_doSpawn_42 (by decide) ?_
      refine lv_iadd S.1 S.2.1 dX3_doSpawn_43 ?_
      refine mm_puti S hR hS fpX3_120 (hK.k g6) rfl rfl rfl dX3_doSpawn_44 (fun H locs hR hS => ?_)
      obtain ⟨μ8, e8, hf⟩ := stx hf
      rw [← e8] at hR
      have hK : mmKN μ μ8 := by rw [e8]; exact hK.sI
      refine lv_iconst (v := 0) S.1 S.2.1 dX3_doSpawn_47 (by decide) ?_
      obtain rfl := Option.some.inj hf
      exact mm_iret S hR hS hr hlocks dX3_doSpawn_48
    · have hf := it_t hf c3
      refine lv_iconst (v := 4) S.1 S.2.1 dX3_doSpawn_18 (by decide) ?_
      obtain rfl := Option.some.inj hf
      exact mm_iret S hR hS hr hlocks dX3_doSpawn_19
  · have hf := it_t hf c1
    refine lv_iconst (v := 3) S.1 S.2.1 dX3_doSpawn_8 (by decide) ?_
    obtain rfl := Option.some.inj hf
    exact mm_iret S hR hS hr hlocks dX3_doSpawn_9
-- X3_doShield
def fX3_doShield (h0 : Nat) (h1 : Nat) (x2 : Int32) (μ : MM) : Option (Int32 × MM) :=
  if (mI μ h0 9) = ((-1) : Int32) then (if mK μ h1 = 3 then st (sI μ h1 6 ((mI μ h1 6) + 1)) fun μ3 => some (0, μ3) else none) else ((fX3_at h0 (mI μ h0 9) μ).bind fun y4 => if mK μ y4.1 = 3 then if x2 = (1 : Int32) then (st (sI y4.2 y4.1 14 (jmax 0 ((mI y4.2 y4.1 14) + 1))) fun μ10 => if mK μ h1 = 3 then st (sI μ10 h1 6 ((mI μ10 h1 6) + 1)) fun μ12 => some (0, μ12) else none) else (st (sI y4.2 y4.1 14 (jmax 0 ((mI y4.2 y4.1 14) + (-1)))) fun μ7 => if mK μ h1 = 3 then st (sI μ7 h1 6 ((mI μ7 h1 6) + 1)) fun μ9 => some (0, μ9) else none) else none)
set_option maxRecDepth 100000 in
set_option maxHeartbeats 4000000 in
theorem kX3_doShield_kn {μ : MM} {res : Int32 × MM} {h0 : Nat} {h1 : Nat} {x2 : Int32} (hf : fX3_doShield h0 h1 x2 μ = some res) : mmKN μ res.2 := by
  have hK : mmKN μ μ := mmKN.rf
  unfold fX3_doShield at hf
  rcases it_or hf with ⟨c1, hf⟩ | ⟨c1, hf⟩
  · skip
    obtain ⟨g2, hf⟩ := gd hf
    obtain ⟨μ3, e3, hf⟩ := stx hf
    have hK : mmKN μ μ3 := by rw [e3]; exact hK.sI
    obtain rfl := Option.some.inj hf
    exact hK
  · skip
    obtain ⟨y4, hy4, hf⟩ := bd hf
    have hK : mmKN μ y4.2 := hK.tr (kX3_at_kn hy4)
    obtain ⟨g5, hf⟩ := gd hf
    rcases it_or hf with ⟨c6, hf⟩ | ⟨c6, hf⟩
    · skip
      obtain ⟨μ10, e10, hf⟩ := stx hf
      have hK : mmKN μ μ10 := by rw [e10]; exact hK.sI
      obtain ⟨g11, hf⟩ := gd hf
      obtain ⟨μ12, e12, hf⟩ := stx hf
      have hK : mmKN μ μ12 := by rw [e12]; exact hK.sI
      obtain rfl := Option.some.inj hf
      exact hK
    · skip
      obtain ⟨μ7, e7, hf⟩ := stx hf
      have hK : mmKN μ μ7 := by rw [e7]; exact hK.sI
      obtain ⟨g8, hf⟩ := gd hf
      obtain ⟨μ9, e9, hf⟩ := stx hf
      have hK : mmKN μ μ9 := by rw [e9]; exact hK.sI
      obtain rfl := Option.some.inj hf
      exact hK
abbrev rmX3_doShield : Room := { frames := 1, cells := 0, slots := 0, locals := 21 }
set_option maxRecDepth 100000 in
set_option maxHeartbeats 4000000 in
theorem kX3_doShield_c (l : Launch) (G : mmG) (A : Nat → Prop) {μ : MM} {res : Int32 × MM} {h0 : Nat} {h1 : Nat} {x2 : Int32} (hk0 : mK μ h0 = 4) (hf : fX3_doShield h0 h1 x2 μ = some res) : Met l yX3_doShield [.code yX3_doShield cX3_doShield 4 (some (.int))] rmX3_doShield (mmPc G A μ [rf h0, rf h1, .int x2]) (mmQ G A res.2 (some (.int res.1))) 0 0 A := by
  refine mm_ofW (by decide +kernel) (by simp [lg_sl, rf_cat, int_cat]) ?_
  intro p e s m below meth c ls S hR hA hS hr hlocks hl hnm
  have hl : lv_has ls 4 [(0, rf h0), (1, rf h1), (2, .int x2)] := by simpa [lv_args, rf_cat, int_cat] using hl
  have E0 : mmEnv p m c cX3_doShield 4 s _ RX3 G A meth (some (.int)) := ⟨S, hA, hr, hlocks⟩
  have hK : mmKN μ μ := mmKN.rf
  unfold fX3_doShield at hf
  refine mm_aload_n S dX3_doShield_0 rfl (lv_at hl 0 rfl) ?_
  refine mm_geti S hR fdX3_202 (hK.k hk0) rfl dX3_doShield_1 ?_
  refine lv_iconst (v := (-1)) S.1 S.2.1 dX3_doShield_4 (by decide) ?_
  refine lv_icmp_eq (tgt := 40) S.1 S.2.1 dX3_doShield_5 (by decide) (fun c1 => ?_) (fun c1 => ?_)
  · have hf := it_t hf c1
    refine mm_aload_n S dX3_doShield_40 rfl (lv_at hl 1 rfl) ?_
    refine lv_dup S.1 S.2.1 dX3_doShield_41 (rf_cat _) ?_
    obtain ⟨g2, hf⟩ := gd hf
    refine mm_geti S hR fdX3_120 (hK.k g2) rfl dX3_doShield_42 ?_
    refine lv_iconst (v := 1) S.1 S.2.1 dX3_doShield_45 (by decide) ?_
    refine lv_iadd S.1 S.2.1 dX3_doShield_46 ?_
    refine mm_puti S hR hS fpX3_120 (hK.k g2) rfl rfl rfl dX3_doShield_47 (fun H locs hR hS => ?_)
    obtain ⟨μ3, e3, hf⟩ := stx hf
    rw [← e3] at hR
    have hK : mmKN μ μ3 := by rw [e3]; exact hK.sI
    refine lv_iconst (v := 0) S.1 S.2.1 dX3_doShield_50 (by decide) ?_
    obtain rfl := Option.some.inj hf
    exact mm_iret S hR hS hr hlocks dX3_doShield_51
  · have hf := it_f hf c1
    refine mm_aload_n S dX3_doShield_8 rfl (lv_at hl 0 rfl) ?_
    refine mm_aload_n S dX3_doShield_9 rfl (lv_at hl 0 rfl) ?_
    refine mm_geti S hR fdX3_202 (hK.k hk0) rfl dX3_doShield_10 ?_
    obtain ⟨y4, hy4, hf⟩ := bd hf
    refine mm_callVh S hR hS hA (As := [.int (mI μ h0 9)]) (rest := []) cvX3_55 (hK.k hk0) (kX3_at_c l G A (hK.k hk0) hy4) rfl rfl ⟨Nat.le_of_ble_eq_true rfl, Nat.le_of_ble_eq_true rfl⟩ rfl hl.1 rfl (lv_room (by simp [rf_cat, int_cat])) dX3_doShield_13 ⟨Nat.le_refl _, Nat.le_refl _⟩ (fun H locs hR hS => ?_)
    have hK : mmKN μ y4.2 := hK.tr (kX3_at_kn hy4)
    refine mm_astore_n (i := 3) (lv' := [(3, rf y4.1), (0, rf h0), (1, rf h1), (2, .int x2)]) S dX3_doShield_16 rfl hl (by decide) rfl (fun ls hl => ?_)
    refine mm_aload_n S dX3_doShield_17 rfl (lv_at hl 0 rfl) ?_
    refine lv_iconst (v := 0) S.1 S.2.1 dX3_doShield_18 (by decide) ?_
    refine mm_aload_n S dX3_doShield_19 rfl (lv_at hl 0 rfl) ?_
    obtain ⟨g5, hf⟩ := gd hf
    refine mm_geti S hR fdX3_193 (hK.k g5) rfl dX3_doShield_20 ?_
    refine lv_iload_n S.1 S.2.1 dX3_doShield_23 rfl (lv_at hl 3 rfl) ?_
    refine lv_iconst (v := 1) S.1 S.2.1 dX3_doShield_24 (by decide) ?_
    refine lv_icmp_ne (tgt := 32) S.1 S.2.1 dX3_doShield_25 (by decide) (fun c6 => ?_) (fun c6 => ?_)
    · have hf := it_f hf c6
      refine lv_iconst (v := (-1)) S.1 S.2.1 dX3_doShield_32 (by decide) ?_
      refine lv_iadd S.1 S.2.1 dX3_doShield_33 ?_
      refine mm_max S mnX3_287 hl.1 (Nat.le_of_ble_eq_true rfl) (by simp [rf_cat, int_cat]) ⟨Nat.le_refl _, Nat.le_refl _⟩ dX3_doShield_34 ?_
      refine mm_puti S hR hS fpX3_193 (hK.k g5) rfl rfl rfl dX3_doShield_37 (fun H locs hR hS => ?_)
      obtain ⟨μ7, e7, hf⟩ := stx hf
      rw [← e7] at hR
      have hK : mmKN μ μ7 := by rw [e7]; exact hK.sI
      refine mm_aload_n S dX3_doShield_40 rfl (lv_at hl 2 rfl) ?_
      refine lv_dup S.1 S.2.1 dX3_doShield_41 (rf_cat _) ?_
      obtain ⟨g8, hf⟩ := gd hf
      refine mm_geti S hR fdX3_120 (hK.k g8) rfl dX3_doShield_42 ?_
      refine lv_iconst (v := 1) S.1 S.2.1 dX3_doShield_45 (by decide) ?_
      refine lv_iadd S.1 S.2.1 dX3_doShield_46 ?_
      refine mm_puti S hR hS fpX3_120 (hK.k g8) rfl rfl rfl dX3_doShield_47 (fun H locs hR hS => ?_)
      obtain ⟨μ9, e9, hf⟩ := stx hf
      rw [← e9] at hR
      have hK : mmKN μ μ9 := by rw [e9]; exact hK.sI
      refine lv_iconst (v := 0) S.1 S.2.1 dX3_doShield_50 (by decide) ?_
      obtain rfl := Option.some.inj hf
      exact mm_iret S hR hS hr hlocks dX3_doShield_51
    · have hf := it_t hf c6
      refine lv_iconst (v := 1) S.1 S.2.1 dX3_doShield_28 (by decide) ?_
      refine lv_goto (tgt := 33) S.1 S.2.1 dX3_doShield_29 (by decide) ?_
      refine lv_iadd S.1 S.2.1 dX3_doShield_33 ?_
      refine mm_max S mnX3_287 hl.1 (Nat.le_of_ble_eq_true rfl) (by simp [rf_cat, int_cat]) ⟨Nat.le_refl _, Nat.le_refl _⟩ dX3_doShield_34 ?_
      refine mm_puti S hR hS fpX3_193 (hK.k g5) rfl rfl rfl dX3_doShield_37 (fun H locs hR hS => ?_)
      obtain ⟨μ10, e10, hf⟩ := stx hf
      rw [← e10] at hR
      have hK : mmKN μ μ10 := by rw [e10]; exact hK.sI
      refine mm_aload_n S dX3_doShield_40 rfl (lv_at hl 2 rfl) ?_
      refine lv_dup S.1 S.2.1 dX3_doShield_41 (rf_cat _) ?_
      obtain ⟨g11, hf⟩ := gd hf
      refine mm_geti S hR fdX3_120 (hK.k g11) rfl dX3_doShield_42 ?_
      refine lv_iconst (v := 1) S.1 S.2.1 dX3_doShield_45 (by decide) ?_
      refine lv_iadd S.1 S.2.1 dX3_doShield_46 ?_
      refine mm_puti S hR hS fpX3_120 (hK.k g11) rfl rfl rfl dX3_doShield_47 (fun H locs hR hS => ?_)
      obtain ⟨μ12, e12, hf⟩ := stx hf
      rw [← e12] at hR
      have hK : mmKN μ μ12 := by rw [e12]; exact hK.sI
      refine lv_iconst (v := 0) S.1 S.2.1 dX3_doShield_50 (by decide) ?_
      obtain rfl := Option.some.inj hf
      exact mm_iret S hR hS hr hlocks dX3_doShield_51
-- X3_doLine
def fX3_doLine (h0 : Nat) (h1 : Nat) (h2 : Nat) (μ : MM) : Option (Int32 × MM) :=
  if mK μ h1 = 3 then if mK μ h2 = 2 then (fX1_kindAt h2 (mI μ h1 6) μ).bind fun y2 => (fX1_aAt h2 (mI y2.2 h1 6) y2.2).bind fun y4 => if y2.1 = 3 then ((fX3_doYield h0 h1 y4.2).bind fun y8 => some (y8.1, y8.2)) else (if y2.1 = 10 then ((fX3_doFrom h0 h1 y4.1 y4.2).bind fun y10 => some (y10.1, y10.2)) else (if y2.1 = 12 then ((fX3_doSleep h0 h1 y4.1 y4.2).bind fun y12 => some (y12.1, y12.2)) else (if y2.1 = 13 then ((fX3_doAwait h0 h1 y4.2).bind fun y14 => some (y14.1, y14.2)) else (if y2.1 = 14 then ((fX3_doSpawn h0 h1 y4.1 y4.2).bind fun y16 => some (y16.1, y16.2)) else (if y2.1 = 15 then ((fX3_doShield h0 h1 y4.1 y4.2).bind fun y18 => some (y18.1, y18.2)) else ((fX1_bAt h2 (mI y4.2 h1 6) y4.2).bind fun y5 => (fX2_doPlain h1 y2.1 y4.1 y5.1 y5.2).bind fun y6 => some (y6.1, y6.2))))))) else none else none
set_option maxRecDepth 100000 in
set_option maxHeartbeats 4000000 in
theorem kX3_doLine_kn {μ : MM} {res : Int32 × MM} {h0 : Nat} {h1 : Nat} {h2 : Nat} (hf : fX3_doLine h0 h1 h2 μ = some res) : mmKN μ res.2 := by
  have hK : mmKN μ μ := mmKN.rf
  unfold fX3_doLine at hf
  obtain ⟨g1, hf⟩ := gd hf
  obtain ⟨g3, hf⟩ := gd hf
  obtain ⟨y2, hy2, hf⟩ := bd hf
  have hK : mmKN μ y2.2 := hK.tr (kX1_kindAt_kn hy2)
  obtain ⟨y4, hy4, hf⟩ := bd hf
  have hK : mmKN μ y4.2 := hK.tr (kX1_aAt_kn hy4)
  rcases it_or hf with ⟨c7, hf⟩ | ⟨c7, hf⟩
  · skip
    obtain ⟨y8, hy8, hf⟩ := bd hf
    have hK : mmKN μ y8.2 := hK.tr (kX3_doYield_kn hy8)
    obtain rfl := Option.some.inj hf
    exact hK
  rcases it_or hf with ⟨c9, hf⟩ | ⟨c9, hf⟩
  · skip
    obtain ⟨y10, hy10, hf⟩ := bd hf
    have hK : mmKN μ y10.2 := hK.tr (kX3_doFrom_kn hy10)
    obtain rfl := Option.some.inj hf
    exact hK
  rcases it_or hf with ⟨c11, hf⟩ | ⟨c11, hf⟩
  · skip
    obtain ⟨y12, hy12, hf⟩ := bd hf
    have hK : mmKN μ y12.2 := hK.tr (kX3_doSleep_kn hy12)
    obtain rfl := Option.some.inj hf
    exact hK
  rcases it_or hf with ⟨c13, hf⟩ | ⟨c13, hf⟩
  · skip
    obtain ⟨y14, hy14, hf⟩ := bd hf
    have hK : mmKN μ y14.2 := hK.tr (kX3_doAwait_kn hy14)
    obtain rfl := Option.some.inj hf
    exact hK
  rcases it_or hf with ⟨c15, hf⟩ | ⟨c15, hf⟩
  · skip
    obtain ⟨y16, hy16, hf⟩ := bd hf
    have hK : mmKN μ y16.2 := hK.tr (kX3_doSpawn_kn hy16)
    obtain rfl := Option.some.inj hf
    exact hK
  rcases it_or hf with ⟨c17, hf⟩ | ⟨c17, hf⟩
  · skip
    obtain ⟨y18, hy18, hf⟩ := bd hf
    have hK : mmKN μ y18.2 := hK.tr (kX3_doShield_kn hy18)
    obtain rfl := Option.some.inj hf
    exact hK
  obtain ⟨y5, hy5, hf⟩ := bd hf
  have hK : mmKN μ y5.2 := hK.tr (kX1_bAt_kn hy5)
  obtain ⟨y6, hy6, hf⟩ := bd hf
  have hK : mmKN μ y6.2 := hK.tr (kX2_doPlain_kn hy6)
  obtain rfl := Option.some.inj hf
  exact hK
abbrev rmX3_doLine : Room := { frames := 3, cells := 0, slots := 0, locals := 71 }
set_option maxRecDepth 100000 in
set_option maxHeartbeats 4000000 in
theorem kX3_doLine_c (l : Launch) (G : mmG) (A : Nat → Prop) {μ : MM} {res : Int32 × MM} {h0 : Nat} {h1 : Nat} {h2 : Nat} (hk0 : mK μ h0 = 4) (hf : fX3_doLine h0 h1 h2 μ = some res) : Met l yX3_doLine [.code yX3_doLine cX3_doLine 5 (some (.int))] rmX3_doLine (mmPc G A μ [rf h0, rf h1, rf h2]) (mmQ G A res.2 (some (.int res.1))) 0 0 A := by
  refine mm_ofW (by decide +kernel) (by simp [lg_sl, rf_cat, int_cat]) ?_
  intro p e s m below meth c ls S hR hA hS hr hlocks hl hnm
  have hl : lv_has ls 5 [(0, rf h0), (1, rf h1), (2, rf h2)] := by simpa [lv_args, rf_cat, int_cat] using hl
  have E0 : mmEnv p m c cX3_doLine 5 s _ RX3 G A meth (some (.int)) := ⟨S, hA, hr, hlocks⟩
  have hK : mmKN μ μ := mmKN.rf
  unfold fX3_doLine at hf
  refine mm_aload_n S dX3_doLine_0 rfl (lv_at hl 2 rfl) ?_
  refine mm_aload_n S dX3_doLine_1 rfl (lv_at hl 1 rfl) ?_
  obtain ⟨g1, hf⟩ := gd hf
  refine mm_geti S hR fdX3_120 (hK.k g1) rfl dX3_doLine_2 ?_
  obtain ⟨g3, hf⟩ := gd hf
  obtain ⟨y2, hy2, hf⟩ := bd hf
  refine mm_callVi S hR hS hA (As := [.int (mI μ h1 6)]) (rest := []) cvX3_165 (hK.k g3) (kX1_kindAt_c l G A (hK.k g3) hy2) rfl rfl ⟨Nat.le_of_ble_eq_true rfl, Nat.le_of_ble_eq_true rfl⟩ rfl hl.1 rfl (lv_room (by simp [rf_cat, int_cat])) dX3_doLine_5 ⟨Nat.le_refl _, Nat.le_refl _⟩ (fun H locs hR hS => ?_)
  have hK : mmKN μ y2.2 := hK.tr (kX1_kindAt_kn hy2)
  refine lv_istore_n (i := 3) (lv' := [(3, .int y2.1), (0, rf h0), (1, rf h1), (2, rf h2)]) S.1 S.2.1 dX3_doLine_8 rfl hl (by decide) (by simp [rf_cat]) (fun ls hl => ?_)
  refine mm_aload_n S dX3_doLine_9 rfl (lv_at hl 3 rfl) ?_
  refine mm_aload_n S dX3_doLine_10 rfl (lv_at hl 2 rfl) ?_
  refine mm_geti S hR fdX3_120 (hK.k g1) rfl dX3_doLine_11 ?_
  obtain ⟨y4, hy4, hf⟩ := bd hf
  refine mm_callVi S hR hS hA (As := [.int (mI y2.2 h1 6)]) (rest := []) cvX3_245 (hK.k g3) (kX1_aAt_c l G A (hK.k g3) hy4) rfl rfl ⟨Nat.le_of_ble_eq_true rfl, Nat.le_of_ble_eq_true rfl⟩ rfl hl.1 rfl (lv_room (by simp [rf_cat, int_cat])) dX3_doLine_14 ⟨Nat.le_refl _, Nat.le_refl _⟩ (fun H locs hR hS => ?_)
  have hK : mmKN μ y4.2 := hK.tr (kX1_aAt_kn hy4)
  refine lv_istore (i := 4) (lv' := [(4, .int y4.1), (3, .int y2.1), (0, rf h0), (1, rf h1), (2, rf h2)]) S.1 S.2.1 dX3_doLine_17 hl (by decide) rfl (fun ls hl => ?_)
  refine lv_iload_n S.1 S.2.1 dX3_doLine_19 rfl (lv_at hl 1 rfl) ?_
  rcases it_or hf with ⟨c7, hf⟩ | ⟨c7, hf⟩
  · refine mm_swL (tgt := 88) (off := 68) S [3] dX3_doLine_20 (by simpa using c7) (by decide) (by decide) ?_
    refine mm_aload_n S dX3_doLine_88 rfl (lv_at hl 2 rfl) ?_
    refine mm_aload_n S dX3_doLine_89 rfl (lv_at hl 3 rfl) ?_
    obtain ⟨y8, hy8, hf⟩ := bd hf
    refine mm_callVi S hR hS hA (As := [rf h1]) (rest := []) cvX3_248 (hK.k hk0) (kX3_doYield_c l G A (hK.k hk0) hy8) rfl rfl ⟨Nat.le_of_ble_eq_true rfl, Nat.le_of_ble_eq_true rfl⟩ rfl hl.1 rfl (lv_room (by simp [rf_cat, int_cat])) dX3_doLine_90 ⟨Nat.le_refl _, Nat.le_refl _⟩ (fun H locs hR hS => ?_)
    have hK : mmKN μ y8.2 := hK.tr (kX3_doYield_kn hy8)
    obtain rfl := Option.some.inj hf
    exact mm_iret S hR hS hr hlocks dX3_doLine_93
  rcases it_or hf with ⟨c9, hf⟩ | ⟨c9, hf⟩
  · refine mm_swL (tgt := 94) (off := 74) S [10] dX3_doLine_20 (by simpa using c9) (by decide) (by decide) ?_
    refine mm_aload_n S dX3_doLine_94 rfl (lv_at hl 2 rfl) ?_
    refine mm_aload_n S dX3_doLine_95 rfl (lv_at hl 3 rfl) ?_
    refine lv_iload S.1 S.2.1 dX3_doLine_96 (lv_at hl 0 rfl) ?_
    obtain ⟨y10, hy10, hf⟩ := bd hf
    refine mm_callVi S hR hS hA (As := [rf h1, .int y4.1]) (rest := []) cvX3_251 (hK.k hk0) (kX3_doFrom_c l G A (hK.k hk0) hy10) rfl rfl ⟨Nat.le_of_ble_eq_true rfl, Nat.le_of_ble_eq_true rfl⟩ rfl hl.1 rfl (lv_room (by simp [rf_cat, int_cat])) dX3_doLine_98 ⟨Nat.le_refl _, Nat.le_refl _⟩ (fun H locs hR hS => ?_)
    have hK : mmKN μ y10.2 := hK.tr (kX3_doFrom_kn hy10)
    obtain rfl := Option.some.inj hf
    exact mm_iret S hR hS hr hlocks dX3_doLine_101
  rcases it_or hf with ⟨c11, hf⟩ | ⟨c11, hf⟩
  · refine mm_swL (tgt := 102) (off := 82) S [12] dX3_doLine_20 (by simpa using c11) (by decide) (by decide) ?_
    refine mm_aload_n S dX3_doLine_102 rfl (lv_at hl 2 rfl) ?_
    refine mm_aload_n S dX3_doLine_103 rfl (lv_at hl 3 rfl) ?_
    refine lv_iload S.1 S.2.1 dX3_doLine_104 (lv_at hl 0 rfl) ?_
    obtain ⟨y12, hy12, hf⟩ := bd hf
    refine mm_callVi S hR hS hA (As := [rf h1, .int y4.1]) (rest := []) cvX3_255 (hK.k hk0) (kX3_doSleep_c l G A (hK.k hk0) hy12) rfl rfl ⟨Nat.le_of_ble_eq_true rfl, Nat.le_of_ble_eq_true rfl⟩ rfl hl.1 rfl (lv_room (by simp [rf_cat, int_cat])) dX3_doLine_106 ⟨Nat.le_refl _, Nat.le_refl _⟩ (fun H locs hR hS => ?_)
    have hK : mmKN μ y12.2 := hK.tr (kX3_doSleep_kn hy12)
    obtain rfl := Option.some.inj hf
    exact mm_iret S hR hS hr hlocks dX3_doLine_109
  rcases it_or hf with ⟨c13, hf⟩ | ⟨c13, hf⟩
  · refine mm_swL (tgt := 110) (off := 90) S [13] dX3_doLine_20 (by simpa using c13) (by decide) (by decide) ?_
    refine mm_aload_n S dX3_doLine_110 rfl (lv_at hl 2 rfl) ?_
    refine mm_aload_n S dX3_doLine_111 rfl (lv_at hl 3 rfl) ?_
    obtain ⟨y14, hy14, hf⟩ := bd hf
    refine mm_callVi S hR hS hA (As := [rf h1]) (rest := []) cvX3_258 (hK.k hk0) (kX3_doAwait_c l G A (hK.k hk0) hy14) rfl rfl ⟨Nat.le_of_ble_eq_true rfl, Nat.le_of_ble_eq_true rfl⟩ rfl hl.1 rfl (lv_room (by simp [rf_cat, int_cat])) dX3_doLine_112 ⟨Nat.le_refl _, Nat.le_refl _⟩ (fun H locs hR hS => ?_)
    have hK : mmKN μ y14.2 := hK.tr (kX3_doAwait_kn hy14)
    obtain rfl := Option.some.inj hf
    exact mm_iret S hR hS hr hlocks dX3_doLine_115
  rcases it_or hf with ⟨c15, hf⟩ | ⟨c15, hf⟩
  · refine mm_swL (tgt := 116) (off := 96) S [14] dX3_doLine_20 (by simpa using c15) (by decide) (by decide) ?_
    refine mm_aload_n S dX3_doLine_116 rfl (lv_at hl 2 rfl) ?_
    refine mm_aload_n S dX3_doLine_117 rfl (lv_at hl 3 rfl) ?_
    refine lv_iload S.1 S.2.1 dX3_doLine_118 (lv_at hl 0 rfl) ?_
    obtain ⟨y16, hy16, hf⟩ := bd hf
    refine mm_callVi S hR hS hA (As := [rf h1, .int y4.1]) (rest := []) cvX3_261 (hK.k hk0) (kX3_doSpawn_c l G A (hK.k hk0) hy16) rfl rfl ⟨Nat.le_of_ble_eq_true rfl, Nat.le_of_ble_eq_true rfl⟩ rfl hl.1 rfl (lv_room (by simp [rf_cat, int_cat])) dX3_doLine_120 ⟨Nat.le_refl _, Nat.le_refl _⟩ (fun H locs hR hS => ?_)
    have hK : mmKN μ y16.2 := hK.tr (kX3_doSpawn_kn hy16)
    obtain rfl := Option.some.inj hf
    exact mm_iret S hR hS hr hlocks dX3_doLine_123
  rcases it_or hf with ⟨c17, hf⟩ | ⟨c17, hf⟩
  · refine mm_swL (tgt := 124) (off := 104) S [15] dX3_doLine_20 (by simpa using c17) (by decide) (by decide) ?_
    refine mm_aload_n S dX3_doLine_124 rfl (lv_at hl 2 rfl) ?_
    refine mm_aload_n S dX3_doLine_125 rfl (lv_at hl 3 rfl) ?_
    refine lv_iload S.1 S.2.1 dX3_doLine_126 (lv_at hl 0 rfl) ?_
    obtain ⟨y18, hy18, hf⟩ := bd hf
    refine mm_callVi S hR hS hA (As := [rf h1, .int y4.1]) (rest := []) cvX3_264 (hK.k hk0) (kX3_doShield_c l G A (hK.k hk0) hy18) rfl rfl ⟨Nat.le_of_ble_eq_true rfl, Nat.le_of_ble_eq_true rfl⟩ rfl hl.1 rfl (lv_room (by simp [rf_cat, int_cat])) dX3_doLine_128 ⟨Nat.le_refl _, Nat.le_refl _⟩ (fun H locs hR hS => ?_)
    have hK : mmKN μ y18.2 := hK.tr (kX3_doShield_kn hy18)
    obtain rfl := Option.some.inj hf
    exact mm_iret S hR hS hr hlocks dX3_doLine_131
  refine mm_swD (tgt := 132) S [3, 10, 12, 13, 14, 15] dX3_doLine_20 (by simp only [List.forall_mem_cons, List.not_mem_nil, false_imp_iff, implies_true, and_true]; (try simp only [not_or] at c7 c9 c11 c13 c15 c17); simp only [c7, c9, c11, c13, c15, c17, not_false_eq_true, and_self, and_true, true_and]) (by decide) (by decide) ?_
  refine mm_aload_n S dX3_doLine_132 rfl (lv_at hl 3 rfl) ?_
  refine lv_iload_n S.1 S.2.1 dX3_doLine_133 rfl (lv_at hl 1 rfl) ?_
  refine lv_iload S.1 S.2.1 dX3_doLine_134 (lv_at hl 0 rfl) ?_
  refine mm_aload_n S dX3_doLine_136 rfl (lv_at hl 4 rfl) ?_
  refine mm_aload_n S dX3_doLine_137 rfl (lv_at hl 3 rfl) ?_
  refine mm_geti S hR fdX3_120 (hK.k g1) rfl dX3_doLine_138 ?_
  obtain ⟨y5, hy5, hf⟩ := bd hf
  refine mm_callVi S hR hS hA (As := [.int (mI y4.2 h1 6)]) (rest := [.int y4.1, .int y2.1, rf h1]) cvX3_267 (hK.k g3) (kX1_bAt_c l G A (hK.k g3) hy5) rfl rfl ⟨Nat.le_of_ble_eq_true rfl, Nat.le_of_ble_eq_true rfl⟩ rfl hl.1 rfl (lv_room (by simp [rf_cat, int_cat])) dX3_doLine_141 ⟨Nat.le_refl _, Nat.le_refl _⟩ (fun H locs hR hS => ?_)
  have hK : mmKN μ y5.2 := hK.tr (kX1_bAt_kn hy5)
  obtain ⟨y6, hy6, hf⟩ := bd hf
  refine mm_callVi S hR hS hA (As := [.int y2.1, .int y4.1, .int y5.1]) (rest := []) cvX3_270 (hK.k g1) (kX2_doPlain_c l G A (hK.k g1) hy6) rfl rfl ⟨Nat.le_of_ble_eq_true rfl, Nat.le_of_ble_eq_true rfl⟩ rfl hl.1 rfl (lv_room (by simp [rf_cat, int_cat])) dX3_doLine_144 ⟨Nat.le_refl _, Nat.le_refl _⟩ (fun H locs hR hS => ?_)
  have hK : mmKN μ y6.2 := hK.tr (kX2_doPlain_kn hy6)
  obtain rfl := Option.some.inj hf
  exact mm_iret S hR hS hr hlocks dX3_doLine_147
-- X3_wayInstead
def bX3_wayInstead_51  (h0 : Nat) (h1 : Nat) (μ : MM) : Option (Int32 × MM) :=
  if mK μ h0 = 4 then if (mI μ h0 10) < (300 : Int32) then (st (sI μ h0 10 ((mI μ h0 10) + 1)) fun μ3 => if mK μ h1 = 3 then st (sI μ3 h1 11 ((mI μ3 h1 11) + 1)) fun μ5 => some (0, μ5) else none) else (if mK μ h1 = 3 then if mK μ (mP μ h1 2) = 6 then st (sI μ (mP μ h1 2) 2 0) fun μ8 => some (11, μ8) else none else none) else none
def fX3_wayInstead (h0 : Nat) (h1 : Nat) (μ : MM) : Option (Int32 × MM) :=
  if mK μ h1 = 3 then if mK μ (mP μ h0 0) = 1 then (fX0_at (mP μ h0 0) (mI μ h1 3) μ).bind fun y2 => if mK μ y2.1 = 2 then (fX1_hasLine y2.1 (mI y2.2 h1 6) y2.2).bind fun y4 => if y4.1 = 0 then ((fX2_beginReturn h1 y4.2).bind fun y10 => some (y10.1, y10.2)) else (if (mI y4.2 h0 10) < (200 : Int32) then (bX3_wayInstead_51  h0 h1 y4.2) else (if (mI y4.2 h0 11) = 0 then (st (sI y4.2 h0 11 1) fun μ9 => some (11, μ9)) else (bX3_wayInstead_51  h0 h1 y4.2))) else none else none else none
set_option maxRecDepth 100000 in
set_option maxHeartbeats 4000000 in
theorem knbX3_wayInstead_51  : ∀ (h0 : Nat) (h1 : Nat) (μ : MM) (res : Int32 × MM), bX3_wayInstead_51  h0 h1 μ = some res → mmKN μ res.2 := by
  intro h0 h1 μ res hf
  have hK : mmKN μ μ := mmKN.rf
  unfold bX3_wayInstead_51 at hf
  obtain ⟨g1, hf⟩ := gd hf
  rcases it_or hf with ⟨c2, hf⟩ | ⟨c2, hf⟩
  · skip
    obtain ⟨μ3, e3, hf⟩ := stx hf
    have hK : mmKN μ μ3 := by rw [e3]; exact hK.sI
    obtain ⟨g4, hf⟩ := gd hf
    obtain ⟨μ5, e5, hf⟩ := stx hf
    have hK : mmKN μ μ5 := by rw [e5]; exact hK.sI
    obtain rfl := Option.some.inj hf
    exact hK
  · skip
    obtain ⟨g6, hf⟩ := gd hf
    obtain ⟨g7, hf⟩ := gd hf
    obtain ⟨μ8, e8, hf⟩ := stx hf
    have hK : mmKN μ μ8 := by rw [e8]; exact hK.sI
    obtain rfl := Option.some.inj hf
    exact hK
set_option maxRecDepth 100000 in
set_option maxHeartbeats 4000000 in
theorem kX3_wayInstead_kn {μ : MM} {res : Int32 × MM} {h0 : Nat} {h1 : Nat} (hf : fX3_wayInstead h0 h1 μ = some res) : mmKN μ res.2 := by
  have hK : mmKN μ μ := mmKN.rf
  unfold fX3_wayInstead at hf
  obtain ⟨g1, hf⟩ := gd hf
  obtain ⟨g3, hf⟩ := gd hf
  obtain ⟨y2, hy2, hf⟩ := bd hf
  have hK : mmKN μ y2.2 := hK.tr (kX0_at_kn hy2)
  obtain ⟨g5, hf⟩ := gd hf
  obtain ⟨y4, hy4, hf⟩ := bd hf
  have hK : mmKN μ y4.2 := hK.tr (kX1_hasLine_kn hy4)
  rcases it_or hf with ⟨c6, hf⟩ | ⟨c6, hf⟩
  · skip
    obtain ⟨y10, hy10, hf⟩ := bd hf
    have hK : mmKN μ y10.2 := hK.tr (kX2_beginReturn_kn hy10)
    obtain rfl := Option.some.inj hf
    exact hK
  · skip
    rcases it_or hf with ⟨c7, hf⟩ | ⟨c7, hf⟩
    · skip
      exact hK.tr (knbX3_wayInstead_51  h0 h1 y4.2 _ hf)
    · skip
      rcases it_or hf with ⟨c8, hf⟩ | ⟨c8, hf⟩
      · skip
        obtain ⟨μ9, e9, hf⟩ := stx hf
        have hK : mmKN μ μ9 := by rw [e9]; exact hK.sI
        obtain rfl := Option.some.inj hf
        exact hK
      · skip
        exact hK.tr (knbX3_wayInstead_51  h0 h1 y4.2 _ hf)
abbrev rmX3_wayInstead : Room := { frames := 1, cells := 0, slots := 0, locals := 21 }
set_option maxRecDepth 100000 in
set_option maxHeartbeats 4000000 in
theorem wbX3_wayInstead_51 {p : Program} {l : Launch} {e : Env} {s : State} {m : MethodId} {args : Array Value} {below : List Frame} {meth : Method} {c : Code} {G : mmG} {A : Nat → Prop} {res : Int32 × MM} (E0 : mmEnv p m c cX3_wayInstead 2 s args RX3 G A meth (some (.int)))  : ∀ (h0 : Nat) (h1 : Nat) (μ : MM), bX3_wayInstead_51  h0 h1 μ = some res → mmGoal p l e rmX3_wayInstead s m args below meth c G A 51 2 [(0, rf h0), (1, rf h1)] μ (mmQ G A res.2 (some (.int res.1))) := by
  obtain ⟨S, hA, hr, hlocks⟩ := id E0
  intro h0 h1 μ hf H locs ls hR hS hl
  have hK : mmKN μ μ := mmKN.rf
  unfold bX3_wayInstead_51 at hf
  refine mm_aload_n S dX3_wayInstead_51 rfl (lv_at hl 0 rfl) ?_
  obtain ⟨g1, hf⟩ := gd hf
  refine mm_geti S hR fdX3_205 (hK.k g1) rfl dX3_wayInstead_52 ?_
  refine lv_sipush (v := 300) S.1 S.2.1 dX3_wayInstead_55 (by decide) ?_
  refine lv_icmp_lt (tgt := 72) S.1 S.2.1 dX3_wayInstead_58 (by decide) (fun c2 => ?_) (fun c2 => ?_)
  · have hf := it_t hf c2
    refine mm_aload_n S dX3_wayInstead_72 rfl (lv_at hl 0 rfl) ?_
    refine lv_dup S.1 S.2.1 dX3_wayInstead_73 (rf_cat _) ?_
    refine mm_geti S hR fdX3_205 (hK.k g1) rfl dX3_wayInstead_74 ?_
    refine lv_iconst (v := 1) S.1 S.2.1 dX3_wayInstead_77 (by decide) ?_
    refine lv_iadd S.1 S.2.1 dX3_wayInstead_78 ?_
    refine mm_puti S hR hS fpX3_205 (hK.k g1) rfl rfl rfl dX3_wayInstead_79 (fun H locs hR hS => ?_)
    obtain ⟨μ3, e3, hf⟩ := stx hf
    rw [← e3] at hR
    have hK : mmKN μ μ3 := by rw [e3]; exact hK.sI
    refine mm_aload_n S dX3_wayInstead_82 rfl (lv_at hl 1 rfl) ?_
    refine lv_dup S.1 S.2.1 dX3_wayInstead_83 (rf_cat _) ?_
    obtain ⟨g4, hf⟩ := gd hf
    refine mm_geti S hR fdX3_85 (hK.k g4) rfl dX3_wayInstead_84 ?_
    refine lv_iconst (v := 1) S.1 S.2.1 dX3_wayInstead_87 (by decide) ?_
    refine lv_iadd S.1 S.2.1 dX3_wayInstead_88 ?_
    refine mm_puti S hR hS fpX3_85 (hK.k g4) rfl rfl rfl dX3_wayInstead_89 (fun H locs hR hS => ?_)
    obtain ⟨μ5, e5, hf⟩ := stx hf
    rw [← e5] at hR
    have hK : mmKN μ μ5 := by rw [e5]; exact hK.sI
    refine lv_iconst (v := 0) S.1 S.2.1 dX3_wayInstead_92 (by decide) ?_
    obtain rfl := Option.some.inj hf
    exact mm_iret S hR hS hr hlocks dX3_wayInstead_93
  · have hf := it_f hf c2
    refine mm_aload_n S dX3_wayInstead_61 rfl (lv_at hl 1 rfl) ?_
    obtain ⟨g6, hf⟩ := gd hf
    refine mm_getp S hR fdX3_238 (hK.k g6) rfl dX3_wayInstead_62 ?_
    refine lv_iconst (v := 0) S.1 S.2.1 dX3_wayInstead_65 (by decide) ?_
    obtain ⟨g7, hf⟩ := gd hf
    refine mm_puti S hR hS fpX3_242 (hK.k g7) rfl rfl rfl dX3_wayInstead_66 (fun H locs hR hS => ?_)
    obtain ⟨μ8, e8, hf⟩ := stx hf
    rw [← e8] at hR
    have hK : mmKN μ μ8 := by rw [e8]; exact hK.sI
    refine lv_bipush (v := 11) S.1 S.2.1 dX3_wayInstead_69 (by decide) ?_
    obtain rfl := Option.some.inj hf
    exact mm_iret S hR hS hr hlocks dX3_wayInstead_71
set_option maxRecDepth 100000 in
set_option maxHeartbeats 4000000 in
theorem kX3_wayInstead_c (l : Launch) (G : mmG) (A : Nat → Prop) {μ : MM} {res : Int32 × MM} {h0 : Nat} {h1 : Nat} (hk0 : mK μ h0 = 4) (hf : fX3_wayInstead h0 h1 μ = some res) : Met l yX3_wayInstead [.code yX3_wayInstead cX3_wayInstead 2 (some (.int))] rmX3_wayInstead (mmPc G A μ [rf h0, rf h1]) (mmQ G A res.2 (some (.int res.1))) 0 0 A := by
  refine mm_ofW (by decide +kernel) (by simp [lg_sl, rf_cat, int_cat]) ?_
  intro p e s m below meth c ls S hR hA hS hr hlocks hl hnm
  have hl : lv_has ls 2 [(0, rf h0), (1, rf h1)] := by simpa [lv_args, rf_cat, int_cat] using hl
  have E0 : mmEnv p m c cX3_wayInstead 2 s _ RX3 G A meth (some (.int)) := ⟨S, hA, hr, hlocks⟩
  have hK : mmKN μ μ := mmKN.rf
  unfold fX3_wayInstead at hf
  refine mm_aload_n S dX3_wayInstead_0 rfl (lv_at hl 0 rfl) ?_
  refine mm_getp S hR fdX3_34 (hK.k hk0) rfl dX3_wayInstead_1 ?_
  refine mm_aload_n S dX3_wayInstead_4 rfl (lv_at hl 1 rfl) ?_
  obtain ⟨g1, hf⟩ := gd hf
  refine mm_geti S hR fdX3_65 (hK.k g1) rfl dX3_wayInstead_5 ?_
  obtain ⟨g3, hf⟩ := gd hf
  obtain ⟨y2, hy2, hf⟩ := bd hf
  refine mm_callVh S hR hS hA (As := [.int (mI μ h1 3)]) (rest := []) cvX3_162 (hK.k g3) (kX0_at_c l G A (hK.k g3) hy2) rfl rfl ⟨Nat.le_of_ble_eq_true rfl, Nat.le_of_ble_eq_true rfl⟩ rfl hl.1 rfl (lv_room (by simp [rf_cat, int_cat])) dX3_wayInstead_8 ⟨Nat.le_refl _, Nat.le_refl _⟩ (fun H locs hR hS => ?_)
  have hK : mmKN μ y2.2 := hK.tr (kX0_at_kn hy2)
  refine mm_aload_n S dX3_wayInstead_11 rfl (lv_at hl 1 rfl) ?_
  refine mm_geti S hR fdX3_120 (hK.k g1) rfl dX3_wayInstead_12 ?_
  obtain ⟨g5, hf⟩ := gd hf
  obtain ⟨y4, hy4, hf⟩ := bd hf
  refine mm_callVi S hR hS hA (As := [.int (mI y2.2 h1 6)]) (rest := []) cvX3_231 (hK.k g5) (kX1_hasLine_c l G A (hK.k g5) hy4) rfl rfl ⟨Nat.le_of_ble_eq_true rfl, Nat.le_of_ble_eq_true rfl⟩ rfl hl.1 rfl (lv_room (by simp [rf_cat, int_cat])) dX3_wayInstead_15 ⟨Nat.le_refl _, Nat.le_refl _⟩ (fun H locs hR hS => ?_)
  have hK : mmKN μ y4.2 := hK.tr (kX1_hasLine_kn hy4)
  refine lv_if_ne (tgt := 26) S.1 S.2.1 dX3_wayInstead_18 (by decide) (fun c6 => ?_) (fun c6 => ?_)
  · have hf := it_f hf c6
    refine mm_aload_n S dX3_wayInstead_26 rfl (lv_at hl 0 rfl) ?_
    refine mm_geti S hR fdX3_205 (hK.k hk0) rfl dX3_wayInstead_27 ?_
    refine lv_sipush (v := 200) S.1 S.2.1 dX3_wayInstead_30 (by decide) ?_
    refine lv_icmp_lt (tgt := 51) S.1 S.2.1 dX3_wayInstead_33 (by decide) (fun c7 => ?_) (fun c7 => ?_)
    · have hf := it_t hf c7
      exact wbX3_wayInstead_51 E0  h0 h1 y4.2 hf _ _ _ hR hS (lv_sub hl [0, 1] rfl)
    · have hf := it_f hf c7
      refine mm_aload_n S dX3_wayInstead_36 rfl (lv_at hl 0 rfl) ?_
      refine mm_geti S hR fdX3_208 (hK.k hk0) rfl dX3_wayInstead_37 ?_
      refine lv_if_ne (tgt := 51) S.1 S.2.1 dX3_wayInstead_40 (by decide) (fun c8 => ?_) (fun c8 => ?_)
      · have hf := it_f hf c8
        exact wbX3_wayInstead_51 E0  h0 h1 y4.2 hf _ _ _ hR hS (lv_sub hl [0, 1] rfl)
      · have hf := it_t hf c8
        refine mm_aload_n S dX3_wayInstead_43 rfl (lv_at hl 0 rfl) ?_
        refine lv_iconst (v := 1) S.1 S.2.1 dX3_wayInstead_44 (by decide) ?_
        refine mm_puti S hR hS fpX3_208 (hK.k hk0) rfl rfl rfl dX3_wayInstead_45 (fun H locs hR hS => ?_)
        obtain ⟨μ9, e9, hf⟩ := stx hf
        rw [← e9] at hR
        have hK : mmKN μ μ9 := by rw [e9]; exact hK.sI
        refine lv_bipush (v := 11) S.1 S.2.1 dX3_wayInstead_48 (by decide) ?_
        obtain rfl := Option.some.inj hf
        exact mm_iret S hR hS hr hlocks dX3_wayInstead_50
  · have hf := it_t hf c6
    refine mm_aload_n S dX3_wayInstead_21 rfl (lv_at hl 1 rfl) ?_
    obtain ⟨y10, hy10, hf⟩ := bd hf
    refine mm_callVi S hR hS hA (As := []) (rest := []) cvX3_234 (hK.k g1) (kX2_beginReturn_c l G A (hK.k g1) hy10) rfl rfl ⟨Nat.le_of_ble_eq_true rfl, Nat.le_of_ble_eq_true rfl⟩ rfl hl.1 rfl (lv_room (by simp [rf_cat, int_cat])) dX3_wayInstead_22 ⟨Nat.le_refl _, Nat.le_refl _⟩ (fun H locs hR hS => ?_)
    have hK : mmKN μ y10.2 := hK.tr (kX2_beginReturn_kn hy10)
    obtain rfl := Option.some.inj hf
    exact mm_iret S hR hS hr hlocks dX3_wayInstead_25
-- X3_goOn
def bX3_goOn_12 (kk12 : Nat → Nat → Int32 → MM → Option (MM)) (h0 : Nat) (h1 : Nat) (x3 : Int32) (μ : MM) : Option (MM) :=
  if (1000000 : Int32) ≤ x3 then (some μ) else (if mK μ h0 = 4 then if (mI μ h0 12) = 0 then (if mK μ h1 = 3 then (fX2_isOver h1 μ).bind fun y4 => if y4.1 = 0 then (if mK μ (mP y4.2 h0 8) = 3 then (fX2_isOver (mP y4.2 h0 8) y4.2).bind fun y7 => if y7.1 = 0 then ((fX3_wayInstead h0 (mP y4.2 h0 8) y7.2).bind fun y10 => if y10.1 = 0 then (if mK μ (mP y10.2 h0 0) = 1 then (fX0_at (mP y10.2 h0 0) (mI y10.2 (mP y4.2 h0 8) 3) y10.2).bind fun y14 => (fX3_doLine h0 (mP y4.2 h0 8) y14.1 y14.2).bind fun y16 => if y16.1 = 0 then (kk12 h0 h1 (x3 + 1) y16.2) else ((fX2_leave (mP y4.2 h0 8) y16.1 y16.2).bind fun y18 => kk12 h0 h1 (x3 + 1) y18) else none) else (if y10.1 = 0 then (kk12 h0 h1 (x3 + 1) y10.2) else ((fX2_leave (mP y4.2 h0 8) y10.1 y10.2).bind fun y13 => kk12 h0 h1 (x3 + 1) y13))) else ((fX3_backToOuter h0 y7.2).bind fun y19 => kk12 h0 h1 (x3 + 1) y19) else none) else (some y4.2) else none) else (some μ) else none)
def lX3_goOn_12  : Nat → Nat → Nat → Int32 → MM → Option (MM)
  | 0, _, _, _, _ => none
  | n + 1, h0, h1, x3, μ => bX3_goOn_12  (fun h0 h1 x3 μ => lX3_goOn_12  n h0 h1 x3 μ) h0 h1 x3 μ
def fX3_goOn (h0 : Nat) (h1 : Nat) (h2 : Nat) (μ : MM) : Option (MM) :=
  st (sP μ h0 8 h2) fun μ1 => st (sI μ1 h0 12 0) fun μ2 => lX3_goOn_12  FU h0 h1 0 μ2
set_option maxRecDepth 100000 in
set_option maxHeartbeats 4000000 in
theorem knbX3_goOn_12 (kk12 : Nat → Nat → Int32 → MM → Option (MM)) (hkk12 : ∀ (h0 : Nat) (h1 : Nat) (x3 : Int32) (μ : MM) (res : MM), kk12 h0 h1 x3 μ = some res → mmKN μ res) : ∀ (h0 : Nat) (h1 : Nat) (x3 : Int32) (μ : MM) (res : MM), bX3_goOn_12 kk12 h0 h1 x3 μ = some res → mmKN μ res := by
  intro h0 h1 x3 μ res hf
  have hK : mmKN μ μ := mmKN.rf
  unfold bX3_goOn_12 at hf
  rcases it_or hf with ⟨c1, hf⟩ | ⟨c1, hf⟩
  · skip
    obtain rfl := Option.some.inj hf
    exact hK
  · skip
    obtain ⟨g2, hf⟩ := gd hf
    rcases it_or hf with ⟨c3, hf⟩ | ⟨c3, hf⟩
    · skip
      obtain ⟨g5, hf⟩ := gd hf
      obtain ⟨y4, hy4, hf⟩ := bd hf
      have hK : mmKN μ y4.2 := hK.tr (kX2_isOver_kn hy4)
      rcases it_or hf with ⟨c6, hf⟩ | ⟨c6, hf⟩
      · skip
        obtain ⟨g8, hf⟩ := gd hf
        obtain ⟨y7, hy7, hf⟩ := bd hf
        have hK : mmKN μ y7.2 := hK.tr (kX2_isOver_kn hy7)
        rcases it_or hf with ⟨c9, hf⟩ | ⟨c9, hf⟩
        · skip
          obtain ⟨y10, hy10, hf⟩ := bd hf
          have hK : mmKN μ y10.2 := hK.tr (kX3_wayInstead_kn hy10)
          rcases it_or hf with ⟨c11, hf⟩ | ⟨c11, hf⟩
          · skip
            obtain ⟨g15, hf⟩ := gd hf
            obtain ⟨y14, hy14, hf⟩ := bd hf
            have hK : mmKN μ y14.2 := hK.tr (kX0_at_kn hy14)
            obtain ⟨y16, hy16, hf⟩ := bd hf
            have hK : mmKN μ y16.2 := hK.tr (kX3_doLine_kn hy16)
            rcases it_or hf with ⟨c17, hf⟩ | ⟨c17, hf⟩
            · skip
              exact hK.tr (hkk12 h0 h1 (x3 + 1) y16.2 _ hf)
            · skip
              obtain ⟨y18, hy18, hf⟩ := bd hf
              have hK : mmKN μ y18 := hK.tr (kX2_leave_kn hy18)
              exact hK.tr (hkk12 h0 h1 (x3 + 1) y18 _ hf)
          · skip
            rcases it_or hf with ⟨c12, hf⟩ | ⟨c12, hf⟩
            · skip
              exact hK.tr (hkk12 h0 h1 (x3 + 1) y10.2 _ hf)
            · skip
              obtain ⟨y13, hy13, hf⟩ := bd hf
              have hK : mmKN μ y13 := hK.tr (kX2_leave_kn hy13)
              exact hK.tr (hkk12 h0 h1 (x3 + 1) y13 _ hf)
        · skip
          obtain ⟨y19, hy19, hf⟩ := bd hf
          have hK : mmKN μ y19 := hK.tr (kX3_backToOuter_kn hy19)
          exact hK.tr (hkk12 h0 h1 (x3 + 1) y19 _ hf)
      · skip
        obtain rfl := Option.some.inj hf
        exact hK
    · skip
      obtain rfl := Option.some.inj hf
      exact hK
theorem knlX3_goOn_12  : ∀ (n : Nat) (h0 : Nat) (h1 : Nat) (x3 : Int32) (μ : MM) (res : MM), lX3_goOn_12  n h0 h1 x3 μ = some res → mmKN μ res := by
  intro n
  induction n with
  | zero => intro h0 h1 x3 μ res hf; cases hf
  | succ n ih => intro h0 h1 x3 μ res hf; exact knbX3_goOn_12  _ ih h0 h1 x3 μ res hf
set_option maxRecDepth 100000 in
set_option maxHeartbeats 4000000 in
theorem kX3_goOn_kn {μ : MM} {res : MM} {h0 : Nat} {h1 : Nat} {h2 : Nat} (hf : fX3_goOn h0 h1 h2 μ = some res) : mmKN μ res := by
  have hK : mmKN μ μ := mmKN.rf
  unfold fX3_goOn at hf
  obtain ⟨μ1, e1, hf⟩ := stx hf
  have hK : mmKN μ μ1 := by rw [e1]; exact hK.sP
  obtain ⟨μ2, e2, hf⟩ := stx hf
  have hK : mmKN μ μ2 := by rw [e2]; exact hK.sI
  exact hK.tr (knlX3_goOn_12  FU h0 h1 0 μ2 _ hf)
abbrev rmX3_goOn : Room := { frames := 4, cells := 0, slots := 0, locals := 95 }
set_option maxRecDepth 100000 in
set_option maxHeartbeats 4000000 in
theorem wbX3_goOn_12 {p : Program} {l : Launch} {e : Env} {s : State} {m : MethodId} {args : Array Value} {below : List Frame} {meth : Method} {c : Code} {G : mmG} {A : Nat → Prop} {res : MM} (E0 : mmEnv p m c cX3_goOn 6 s args RX3 G A meth none) (kk12 : Nat → Nat → Int32 → MM → Option (MM)) (hkk12 : ∀ (h0 : Nat) (h1 : Nat) (x3 : Int32) (μ : MM), kk12 h0 h1 x3 μ = some res → mmGoal p l e rmX3_goOn s m args below meth c G A 12 6 [(0, rf h0), (1, rf h1), (3, .int x3)] μ (mmQ G A res none)) : ∀ (h0 : Nat) (h1 : Nat) (x3 : Int32) (μ : MM), bX3_goOn_12 kk12 h0 h1 x3 μ = some res → mmGoal p l e rmX3_goOn s m args below meth c G A 12 6 [(0, rf h0), (1, rf h1), (3, .int x3)] μ (mmQ G A res none) := by
  obtain ⟨S, hA, hr, hlocks⟩ := id E0
  intro h0 h1 x3 μ hf H locs ls hR hS hl
  have hK : mmKN μ μ := mmKN.rf
  unfold bX3_goOn_12 at hf
  refine lv_iload_n S.1 S.2.1 dX3_goOn_12 rfl (lv_at hl 2 rfl) ?_
  refine lv_ldc (v := 1000000) S.1 S.2.1 S.2.2.2.1 (S.2.2.2.2.1 _ kcX3_220) dX3_goOn_13 ?_
  refine lv_icmp_ge (tgt := 104) S.1 S.2.1 dX3_goOn_15 (by decide) (fun c1 => ?_) (fun c1 => ?_)
  · have hf := it_t hf c1
    obtain rfl := Option.some.inj hf
    exact mm_vret S hR hS hr hlocks dX3_goOn_104
  · have hf := it_f hf c1
    refine mm_aload_n S dX3_goOn_18 rfl (lv_at hl 0 rfl) ?_
    obtain ⟨g2, hf⟩ := gd hf
    refine mm_geti S hR fdX3_217 (hK.k g2) rfl dX3_goOn_19 ?_
    refine lv_if_ne (tgt := 104) S.1 S.2.1 dX3_goOn_22 (by decide) (fun c3 => ?_) (fun c3 => ?_)
    · have hf := it_f hf c3
      obtain rfl := Option.some.inj hf
      exact mm_vret S hR hS hr hlocks dX3_goOn_104
    · have hf := it_t hf c3
      refine mm_aload_n S dX3_goOn_25 rfl (lv_at hl 1 rfl) ?_
      obtain ⟨g5, hf⟩ := gd hf
      obtain ⟨y4, hy4, hf⟩ := bd hf
      refine mm_callVi S hR hS hA (As := []) (rest := []) cvX3_71 (hK.k g5) (kX2_isOver_c l G A (hK.k g5) hy4) rfl rfl ⟨Nat.le_of_ble_eq_true rfl, Nat.le_of_ble_eq_true rfl⟩ rfl hl.1 rfl (lv_room (by simp [rf_cat, int_cat])) dX3_goOn_26 ⟨Nat.le_refl _, Nat.le_refl _⟩ (fun H locs hR hS => ?_)
      have hK : mmKN μ y4.2 := hK.tr (kX2_isOver_kn hy4)
      refine lv_if_ne (tgt := 104) S.1 S.2.1 dX3_goOn_29 (by decide) (fun c6 => ?_) (fun c6 => ?_)
      · have hf := it_f hf c6
        obtain rfl := Option.some.inj hf
        exact mm_vret S hR hS hr hlocks dX3_goOn_104
      · have hf := it_t hf c6
        refine mm_aload_n S dX3_goOn_32 rfl (lv_at hl 0 rfl) ?_
        refine mm_getp S hR fdX3_38 (hK.k g2) rfl dX3_goOn_33 ?_
        refine mm_astore (i := 4) (lv' := [(4, rf (mP y4.2 h0 8)), (0, rf h0), (1, rf h1), (3, .int x3)]) S dX3_goOn_36 hl (by decide) rfl (fun ls hl => ?_)
        refine mm_aload S dX3_goOn_38 (lv_at hl 0 rfl) ?_
        obtain ⟨g8, hf⟩ := gd hf
        obtain ⟨y7, hy7, hf⟩ := bd hf
        refine mm_callVi S hR hS hA (As := []) (rest := []) cvX3_71 (hK.k g8) (kX2_isOver_c l G A (hK.k g8) hy7) rfl rfl ⟨Nat.le_of_ble_eq_true rfl, Nat.le_of_ble_eq_true rfl⟩ rfl hl.1 rfl (lv_room (by simp [rf_cat, int_cat])) dX3_goOn_40 ⟨Nat.le_refl _, Nat.le_refl _⟩ (fun H locs hR hS => ?_)
        have hK : mmKN μ y7.2 := hK.tr (kX2_isOver_kn hy7)
        refine lv_if_eq (tgt := 53) S.1 S.2.1 dX3_goOn_43 (by decide) (fun c9 => ?_) (fun c9 => ?_)
        · have hf := it_t hf c9
          refine mm_aload_n S dX3_goOn_53 rfl (lv_at hl 1 rfl) ?_
          refine mm_aload S dX3_goOn_54 (lv_at hl 0 rfl) ?_
          obtain ⟨y10, hy10, hf⟩ := bd hf
          refine mm_callVi S hR hS hA (As := [rf (mP y4.2 h0 8)]) (rest := []) cvX3_224 (hK.k g2) (kX3_wayInstead_c l G A (hK.k g2) hy10) rfl rfl ⟨Nat.le_of_ble_eq_true rfl, Nat.le_of_ble_eq_true rfl⟩ rfl hl.1 rfl (lv_room (by simp [rf_cat, int_cat])) dX3_goOn_56 ⟨Nat.le_refl _, Nat.le_refl _⟩ (fun H locs hR hS => ?_)
          have hK : mmKN μ y10.2 := hK.tr (kX3_wayInstead_kn hy10)
          refine lv_istore (i := 5) (lv' := [(5, .int y10.1), (4, rf (mP y4.2 h0 8)), (0, rf h0), (1, rf h1), (3, .int x3)]) S.1 S.2.1 dX3_goOn_59 hl (by decide) (by simp [rf_cat]) (fun ls hl => ?_)
          refine lv_iload S.1 S.2.1 dX3_goOn_61 (lv_at hl 0 rfl) ?_
          refine lv_if_ne (tgt := 86) S.1 S.2.1 dX3_goOn_63 (by decide) (fun c11 => ?_) (fun c11 => ?_)
          · have hf := it_f hf c11
            refine lv_iload S.1 S.2.1 dX3_goOn_86 (lv_at hl 0 rfl) ?_
            refine lv_if_eq (tgt := 98) S.1 S.2.1 dX3_goOn_88 (by decide) (fun c12 => ?_) (fun c12 => ?_)
            · have hf := it_t hf c12
              refine lv_iinc (v := (x3 + 1)) (lv' := [(3, .int (x3 + 1)), (5, .int y10.1), (4, rf (mP y4.2 h0 8)), (0, rf h0), (1, rf h1)]) S.1 S.2.1 dX3_goOn_98 hl (k := 4) rfl (by rfl) (by decide) rfl (fun ls hl => ?_)
              refine lv_goto (tgt := 12) S.1 S.2.1 dX3_goOn_101 (by decide) ?_
              exact hkk12 h0 h1 (x3 + 1) y10.2 hf _ _ _ hR hS (lv_sub hl [3, 4, 0] rfl)
            · have hf := it_f hf c12
              refine mm_aload S dX3_goOn_91 (lv_at hl 1 rfl) ?_
              refine lv_iload S.1 S.2.1 dX3_goOn_93 (lv_at hl 0 rfl) ?_
              obtain ⟨y13, hy13, hf⟩ := bd hf
              refine mm_callVv S hR hS hA (As := [.int y10.1]) (rest := []) cvX3_131 (hK.k g8) (kX2_leave_c l G A (hK.k g8) hy13) rfl rfl ⟨Nat.le_of_ble_eq_true rfl, Nat.le_of_ble_eq_true rfl⟩ rfl hl.1 rfl (lv_room (by simp [rf_cat, int_cat])) dX3_goOn_95 ⟨Nat.le_refl _, Nat.le_refl _⟩ (fun H locs hR hS => ?_)
              have hK : mmKN μ y13 := hK.tr (kX2_leave_kn hy13)
              refine lv_iinc (v := (x3 + 1)) (lv' := [(3, .int (x3 + 1)), (5, .int y10.1), (4, rf (mP y4.2 h0 8)), (0, rf h0), (1, rf h1)]) S.1 S.2.1 dX3_goOn_98 hl (k := 4) rfl (by rfl) (by decide) rfl (fun ls hl => ?_)
              refine lv_goto (tgt := 12) S.1 S.2.1 dX3_goOn_101 (by decide) ?_
              exact hkk12 h0 h1 (x3 + 1) y13 hf _ _ _ hR hS (lv_sub hl [3, 4, 0] rfl)
          · have hf := it_t hf c11
            refine mm_aload_n S dX3_goOn_66 rfl (lv_at hl 2 rfl) ?_
            refine mm_aload S dX3_goOn_67 (lv_at hl 1 rfl) ?_
            refine mm_aload_n S dX3_goOn_69 rfl (lv_at hl 2 rfl) ?_
            refine mm_getp S hR fdX3_34 (hK.k g2) rfl dX3_goOn_70 ?_
            refine mm_aload S dX3_goOn_73 (lv_at hl 1 rfl) ?_
            refine mm_geti S hR fdX3_65 (hK.k g8) rfl dX3_goOn_75 ?_
            obtain ⟨g15, hf⟩ := gd hf
            obtain ⟨y14, hy14, hf⟩ := bd hf
            refine mm_callVh S hR hS hA (As := [.int (mI y10.2 (mP y4.2 h0 8) 3)]) (rest := [rf (mP y4.2 h0 8), rf h0]) cvX3_162 (hK.k g15) (kX0_at_c l G A (hK.k g15) hy14) rfl rfl ⟨Nat.le_of_ble_eq_true rfl, Nat.le_of_ble_eq_true rfl⟩ rfl hl.1 rfl (lv_room (by simp [rf_cat, int_cat])) dX3_goOn_78 ⟨Nat.le_refl _, Nat.le_refl _⟩ (fun H locs hR hS => ?_)
            have hK : mmKN μ y14.2 := hK.tr (kX0_at_kn hy14)
            obtain ⟨y16, hy16, hf⟩ := bd hf
            refine mm_callVi S hR hS hA (As := [rf (mP y4.2 h0 8), rf y14.1]) (rest := []) cvX3_227 (hK.k g2) (kX3_doLine_c l G A (hK.k g2) hy16) rfl rfl ⟨Nat.le_of_ble_eq_true rfl, Nat.le_of_ble_eq_true rfl⟩ rfl hl.1 rfl (lv_room (by simp [rf_cat, int_cat])) dX3_goOn_81 ⟨Nat.le_refl _, Nat.le_refl _⟩ (fun H locs hR hS => ?_)
            have hK : mmKN μ y16.2 := hK.tr (kX3_doLine_kn hy16)
            refine lv_istore (i := 5) (lv' := [(5, .int y16.1), (4, rf (mP y4.2 h0 8)), (0, rf h0), (1, rf h1), (3, .int x3)]) S.1 S.2.1 dX3_goOn_84 hl (by decide) (by simp [rf_cat]) (fun ls hl => ?_)
            refine lv_iload S.1 S.2.1 dX3_goOn_86 (lv_at hl 0 rfl) ?_
            refine lv_if_eq (tgt := 98) S.1 S.2.1 dX3_goOn_88 (by decide) (fun c17 => ?_) (fun c17 => ?_)
            · have hf := it_t hf c17
              refine lv_iinc (v := (x3 + 1)) (lv' := [(3, .int (x3 + 1)), (5, .int y16.1), (4, rf (mP y4.2 h0 8)), (0, rf h0), (1, rf h1)]) S.1 S.2.1 dX3_goOn_98 hl (k := 4) rfl (by rfl) (by decide) rfl (fun ls hl => ?_)
              refine lv_goto (tgt := 12) S.1 S.2.1 dX3_goOn_101 (by decide) ?_
              exact hkk12 h0 h1 (x3 + 1) y16.2 hf _ _ _ hR hS (lv_sub hl [3, 4, 0] rfl)
            · have hf := it_f hf c17
              refine mm_aload S dX3_goOn_91 (lv_at hl 1 rfl) ?_
              refine lv_iload S.1 S.2.1 dX3_goOn_93 (lv_at hl 0 rfl) ?_
              obtain ⟨y18, hy18, hf⟩ := bd hf
              refine mm_callVv S hR hS hA (As := [.int y16.1]) (rest := []) cvX3_131 (hK.k g8) (kX2_leave_c l G A (hK.k g8) hy18) rfl rfl ⟨Nat.le_of_ble_eq_true rfl, Nat.le_of_ble_eq_true rfl⟩ rfl hl.1 rfl (lv_room (by simp [rf_cat, int_cat])) dX3_goOn_95 ⟨Nat.le_refl _, Nat.le_refl _⟩ (fun H locs hR hS => ?_)
              have hK : mmKN μ y18 := hK.tr (kX2_leave_kn hy18)
              refine lv_iinc (v := (x3 + 1)) (lv' := [(3, .int (x3 + 1)), (5, .int y16.1), (4, rf (mP y4.2 h0 8)), (0, rf h0), (1, rf h1)]) S.1 S.2.1 dX3_goOn_98 hl (k := 4) rfl (by rfl) (by decide) rfl (fun ls hl => ?_)
              refine lv_goto (tgt := 12) S.1 S.2.1 dX3_goOn_101 (by decide) ?_
              exact hkk12 h0 h1 (x3 + 1) y18 hf _ _ _ hR hS (lv_sub hl [3, 4, 0] rfl)
        · have hf := it_f hf c9
          refine mm_aload_n S dX3_goOn_46 rfl (lv_at hl 1 rfl) ?_
          obtain ⟨y19, hy19, hf⟩ := bd hf
          refine mm_callVv S hR hS hA (As := []) (rest := []) cvX3_221 (hK.k g2) (kX3_backToOuter_c l G A (hK.k g2) hy19) rfl rfl ⟨Nat.le_of_ble_eq_true rfl, Nat.le_of_ble_eq_true rfl⟩ rfl hl.1 rfl (lv_room (by simp [rf_cat, int_cat])) dX3_goOn_47 ⟨Nat.le_refl _, Nat.le_refl _⟩ (fun H locs hR hS => ?_)
          have hK : mmKN μ y19 := hK.tr (kX3_backToOuter_kn hy19)
          refine lv_goto (tgt := 98) S.1 S.2.1 dX3_goOn_50 (by decide) ?_
          refine lv_iinc (v := (x3 + 1)) (lv' := [(3, .int (x3 + 1)), (4, rf (mP y4.2 h0 8)), (0, rf h0), (1, rf h1)]) S.1 S.2.1 dX3_goOn_98 hl (k := 3) rfl (by rfl) (by decide) rfl (fun ls hl => ?_)
          refine lv_goto (tgt := 12) S.1 S.2.1 dX3_goOn_101 (by decide) ?_
          exact hkk12 h0 h1 (x3 + 1) y19 hf _ _ _ hR hS (lv_sub hl [2, 3, 0] rfl)
theorem wlX3_goOn_12 {p : Program} {l : Launch} {e : Env} {s : State} {m : MethodId} {args : Array Value} {below : List Frame} {meth : Method} {c : Code} {G : mmG} {A : Nat → Prop} {res : MM} (E0 : mmEnv p m c cX3_goOn 6 s args RX3 G A meth none)  : ∀ (n : Nat) (h0 : Nat) (h1 : Nat) (x3 : Int32) (μ : MM), lX3_goOn_12  n h0 h1 x3 μ = some res → mmGoal p l e rmX3_goOn s m args below meth c G A 12 6 [(0, rf h0), (1, rf h1), (3, .int x3)] μ (mmQ G A res none) := by
  intro n
  induction n with
  | zero => intro h0 h1 x3 μ hf; cases hf
  | succ n ih => intro h0 h1 x3 μ hf; exact wbX3_goOn_12 E0  _ ih h0 h1 x3 μ hf
set_option maxRecDepth 100000 in
set_option maxHeartbeats 4000000 in
theorem kX3_goOn_c (l : Launch) (G : mmG) (A : Nat → Prop) {μ : MM} {res : MM} {h0 : Nat} {h1 : Nat} {h2 : Nat} (hk0 : mK μ h0 = 4) (hf : fX3_goOn h0 h1 h2 μ = some res) : Met l yX3_goOn [.code yX3_goOn cX3_goOn 6 none] rmX3_goOn (mmPc G A μ [rf h0, rf h1, rf h2]) (mmQ G A res none) 0 0 A := by
  refine mm_ofW (by decide +kernel) (by simp [lg_sl, rf_cat, int_cat]) ?_
  intro p e s m below meth c ls S hR hA hS hr hlocks hl hnm
  have hl : lv_has ls 6 [(0, rf h0), (1, rf h1), (2, rf h2)] := by simpa [lv_args, rf_cat, int_cat] using hl
  have E0 : mmEnv p m c cX3_goOn 6 s _ RX3 G A meth none := ⟨S, hA, hr, hlocks⟩
  have hK : mmKN μ μ := mmKN.rf
  unfold fX3_goOn at hf
  refine mm_aload_n S dX3_goOn_0 rfl (lv_at hl 0 rfl) ?_
  refine mm_aload_n S dX3_goOn_1 rfl (lv_at hl 2 rfl) ?_
  refine mm_putp S hR hS fpX3_38 (hK.k hk0) rfl nr_ok fr_ok dX3_goOn_2 (fun H locs hR hS => ?_)
  obtain ⟨μ1, e1, hf⟩ := stx hf
  rw [← e1] at hR
  have hK : mmKN μ μ1 := by rw [e1]; exact hK.sP
  refine mm_aload_n S dX3_goOn_5 rfl (lv_at hl 0 rfl) ?_
  refine lv_iconst (v := 0) S.1 S.2.1 dX3_goOn_6 (by decide) ?_
  refine mm_puti S hR hS fpX3_217 (hK.k hk0) rfl rfl rfl dX3_goOn_7 (fun H locs hR hS => ?_)
  obtain ⟨μ2, e2, hf⟩ := stx hf
  rw [← e2] at hR
  have hK : mmKN μ μ2 := by rw [e2]; exact hK.sI
  refine lv_iconst (v := 0) S.1 S.2.1 dX3_goOn_10 (by decide) ?_
  refine lv_istore_n (i := 3) (lv' := [(3, .int 0), (0, rf h0), (1, rf h1), (2, rf h2)]) S.1 S.2.1 dX3_goOn_11 rfl hl (by decide) (by simp [rf_cat]) (fun ls hl => ?_)
  exact wlX3_goOn_12 E0  FU h0 h1 0 μ2 hf _ _ _ hR hS (lv_sub hl [1, 2, 0] rfl)
end
section
-- X3_toldOf
def fX3_toldOf (h0 : Nat) (h1 : Nat) (μ : MM) : Option (Int32 × MM) :=
  if mK μ h1 = 3 then if (mI μ h1 5) = (3 : Int32) then (some ((-20000), μ)) else (if (mI μ h1 5) = (4 : Int32) then (some (((-20000) - (mI μ h1 7)), μ)) else ((fX3_inmostOf h0 h1 μ).bind fun y4 => if mK μ y4.1 = 3 then some ((mI y4.2 y4.1 7), y4.2) else none)) else none
set_option maxRecDepth 100000 in
set_option maxHeartbeats 4000000 in
theorem kX3_toldOf_kn {μ : MM} {res : Int32 × MM} {h0 : Nat} {h1 : Nat} (hf : fX3_toldOf h0 h1 μ = some res) : mmKN μ res.2 := by
  have hK : mmKN μ μ := mmKN.rf
  unfold fX3_toldOf at hf
  obtain ⟨g1, hf⟩ := gd hf
  rcases it_or hf with ⟨c2, hf⟩ | ⟨c2, hf⟩
  · skip
    obtain rfl := Option.some.inj hf
    exact hK
  · skip
    rcases it_or hf with ⟨c3, hf⟩ | ⟨c3, hf⟩
    · skip
      obtain rfl := Option.some.inj hf
      exact hK
    · skip
      obtain ⟨y4, hy4, hf⟩ := bd hf
      have hK : mmKN μ y4.2 := hK.tr (kX3_inmostOf_kn hy4)
      obtain ⟨g5, hf⟩ := gd hf
      obtain rfl := Option.some.inj hf
      exact hK
abbrev rmX3_toldOf : Room := { frames := 2, cells := 0, slots := 0, locals := 44 }
set_option maxRecDepth 100000 in
set_option maxHeartbeats 4000000 in
theorem kX3_toldOf_c (l : Launch) (G : mmG) (A : Nat → Prop) {μ : MM} {res : Int32 × MM} {h0 : Nat} {h1 : Nat} (hk0 : mK μ h0 = 4) (hf : fX3_toldOf h0 h1 μ = some res) : Met l yX3_toldOf [.code yX3_toldOf cX3_toldOf 2 (some (.int))] rmX3_toldOf (mmPc G A μ [rf h0, rf h1]) (mmQ G A res.2 (some (.int res.1))) 0 0 A := by
  refine mm_ofW (by decide +kernel) (by simp [lg_sl, rf_cat, int_cat]) ?_
  intro p e s m below meth c ls S hR hA hS hr hlocks hl hnm
  have hl : lv_has ls 2 [(0, rf h0), (1, rf h1)] := by simpa [lv_args, rf_cat, int_cat] using hl
  have E0 : mmEnv p m c cX3_toldOf 2 s _ RX3 G A meth (some (.int)) := ⟨S, hA, hr, hlocks⟩
  have hK : mmKN μ μ := mmKN.rf
  unfold fX3_toldOf at hf
  refine mm_aload_n S dX3_toldOf_0 rfl (lv_at hl 1 rfl) ?_
  obtain ⟨g1, hf⟩ := gd hf
  refine mm_geti S hR fdX3_68 (hK.k g1) rfl dX3_toldOf_1 ?_
  refine lv_iconst (v := 3) S.1 S.2.1 dX3_toldOf_4 (by decide) ?_
  refine lv_icmp_ne (tgt := 12) S.1 S.2.1 dX3_toldOf_5 (by decide) (fun c2 => ?_) (fun c2 => ?_)
  · have hf := it_f hf c2
    refine mm_aload_n S dX3_toldOf_12 rfl (lv_at hl 1 rfl) ?_
    refine mm_geti S hR fdX3_68 (hK.k g1) rfl dX3_toldOf_13 ?_
    refine lv_iconst (v := 4) S.1 S.2.1 dX3_toldOf_16 (by decide) ?_
    refine lv_icmp_ne (tgt := 31) S.1 S.2.1 dX3_toldOf_17 (by decide) (fun c3 => ?_) (fun c3 => ?_)
    · have hf := it_f hf c3
      refine mm_aload_n S dX3_toldOf_31 rfl (lv_at hl 0 rfl) ?_
      refine mm_aload_n S dX3_toldOf_32 rfl (lv_at hl 1 rfl) ?_
      obtain ⟨y4, hy4, hf⟩ := bd hf
      refine mm_callVh S hR hS hA (As := [rf h1]) (rest := []) cvX3_107 (hK.k hk0) (kX3_inmostOf_c l G A (hK.k hk0) hy4) rfl rfl ⟨Nat.le_of_ble_eq_true rfl, Nat.le_of_ble_eq_true rfl⟩ rfl hl.1 rfl (lv_room (by simp [rf_cat, int_cat])) dX3_toldOf_33 ⟨Nat.le_refl _, Nat.le_refl _⟩ (fun H locs hR hS => ?_)
      have hK : mmKN μ y4.2 := hK.tr (kX3_inmostOf_kn hy4)
      obtain ⟨g5, hf⟩ := gd hf
      refine mm_geti S hR fdX3_117 (hK.k g5) rfl dX3_toldOf_36 ?_
      obtain rfl := Option.some.inj hf
      exact mm_iret S hR hS hr hlocks dX3_toldOf_39
    · have hf := it_t hf c3
      refine lv_sipush (v := (-20000)) S.1 S.2.1 dX3_toldOf_20 (by decide) ?_
      refine mm_aload_n S dX3_toldOf_23 rfl (lv_at hl 1 rfl) ?_
      refine mm_geti S hR fdX3_117 (hK.k g1) rfl dX3_toldOf_24 ?_
      refine lv_isub S.1 S.2.1 dX3_toldOf_27 ?_
      refine lv_goto (tgt := 39) S.1 S.2.1 dX3_toldOf_28 (by decide) ?_
      obtain rfl := Option.some.inj hf
      exact mm_iret S hR hS hr hlocks dX3_toldOf_39
  · have hf := it_t hf c2
    refine lv_sipush (v := (-20000)) S.1 S.2.1 dX3_toldOf_8 (by decide) ?_
    obtain rfl := Option.some.inj hf
    exact mm_iret S hR hS hr hlocks dX3_toldOf_11
-- X3_resumeWith
def fX3_resumeWith (h0 : Nat) (x1 : Int32) (x2 : Int32) (μ : MM) : Option (Int32 × MM) :=
  (fX3_at h0 x1 μ).bind fun y1 => (fX3_inmostOf h0 y1.1 y1.2).bind fun y2 => (fX3_beginCall h0 (-1) y2.2).bind fun y3 => if mK μ y2.1 = 3 then if (mI y3 y2.1 5) = 0 then ((fX2_goOnAt y2.1 0 y3).bind fun y10 => (fX3_goOn h0 y1.1 y2.1 y10).bind fun y11 => (fX3_toldOf h0 y1.1 y11).bind fun y12 => some (y12.1, y12.2)) else (st (sI y3 y2.1 7 x2) fun μ6 => (fX2_goOnAt y2.1 ((mI μ6 y2.1 6) + 1) μ6).bind fun y7 => (fX3_goOn h0 y1.1 y2.1 y7).bind fun y8 => (fX3_toldOf h0 y1.1 y8).bind fun y9 => some (y9.1, y9.2)) else none
set_option maxRecDepth 100000 in
set_option maxHeartbeats 4000000 in
theorem kX3_resumeWith_kn {μ : MM} {res : Int32 × MM} {h0 : Nat} {x1 : Int32} {x2 : Int32} (hf : fX3_resumeWith h0 x1 x2 μ = some res) : mmKN μ res.2 := by
  have hK : mmKN μ μ := mmKN.rf
  unfold fX3_resumeWith at hf
  obtain ⟨y1, hy1, hf⟩ := bd hf
  have hK : mmKN μ y1.2 := hK.tr (kX3_at_kn hy1)
  obtain ⟨y2, hy2, hf⟩ := bd hf
  have hK : mmKN μ y2.2 := hK.tr (kX3_inmostOf_kn hy2)
  obtain ⟨y3, hy3, hf⟩ := bd hf
  have hK : mmKN μ y3 := hK.tr (kX3_beginCall_kn hy3)
  obtain ⟨g4, hf⟩ := gd hf
  rcases it_or hf with ⟨c5, hf⟩ | ⟨c5, hf⟩
  · skip
    obtain ⟨y10, hy10, hf⟩ := bd hf
    have hK : mmKN μ y10 := hK.tr (kX2_goOnAt_kn hy10)
    obtain ⟨y11, hy11, hf⟩ := bd hf
    have hK : mmKN μ y11 := hK.tr (kX3_goOn_kn hy11)
    obtain ⟨y12, hy12, hf⟩ := bd hf
    have hK : mmKN μ y12.2 := hK.tr (kX3_toldOf_kn hy12)
    obtain rfl := Option.some.inj hf
    exact hK
  · skip
    obtain ⟨μ6, e6, hf⟩ := stx hf
    have hK : mmKN μ μ6 := by rw [e6]; exact hK.sI
    obtain ⟨y7, hy7, hf⟩ := bd hf
    have hK : mmKN μ y7 := hK.tr (kX2_goOnAt_kn hy7)
    obtain ⟨y8, hy8, hf⟩ := bd hf
    have hK : mmKN μ y8 := hK.tr (kX3_goOn_kn hy8)
    obtain ⟨y9, hy9, hf⟩ := bd hf
    have hK : mmKN μ y9.2 := hK.tr (kX3_toldOf_kn hy9)
    obtain rfl := Option.some.inj hf
    exact hK
abbrev rmX3_resumeWith : Room := { frames := 5, cells := 0, slots := 0, locals := 120 }
set_option maxRecDepth 100000 in
set_option maxHeartbeats 4000000 in
theorem kX3_resumeWith_c (l : Launch) (G : mmG) (A : Nat → Prop) {μ : MM} {res : Int32 × MM} {h0 : Nat} {x1 : Int32} {x2 : Int32} (hk0 : mK μ h0 = 4) (hf : fX3_resumeWith h0 x1 x2 μ = some res) : Met l yX3_resumeWith [.code yX3_resumeWith cX3_resumeWith 5 (some (.int))] rmX3_resumeWith (mmPc G A μ [rf h0, .int x1, .int x2]) (mmQ G A res.2 (some (.int res.1))) 0 0 A := by
  refine mm_ofW (by decide +kernel) (by simp [lg_sl, rf_cat, int_cat]) ?_
  intro p e s m below meth c ls S hR hA hS hr hlocks hl hnm
  have hl : lv_has ls 5 [(0, rf h0), (1, .int x1), (2, .int x2)] := by simpa [lv_args, rf_cat, int_cat] using hl
  have E0 : mmEnv p m c cX3_resumeWith 5 s _ RX3 G A meth (some (.int)) := ⟨S, hA, hr, hlocks⟩
  have hK : mmKN μ μ := mmKN.rf
  unfold fX3_resumeWith at hf
  refine mm_aload_n S dX3_resumeWith_0 rfl (lv_at hl 0 rfl) ?_
  refine lv_iload_n S.1 S.2.1 dX3_resumeWith_1 rfl (lv_at hl 1 rfl) ?_
  obtain ⟨y1, hy1, hf⟩ := bd hf
  refine mm_callVh S hR hS hA (As := [.int x1]) (rest := []) cvX3_55 (hK.k hk0) (kX3_at_c l G A (hK.k hk0) hy1) rfl rfl ⟨Nat.le_of_ble_eq_true rfl, Nat.le_of_ble_eq_true rfl⟩ rfl hl.1 rfl (lv_room (by simp [rf_cat, int_cat])) dX3_resumeWith_2 ⟨Nat.le_refl _, Nat.le_refl _⟩ (fun H locs hR hS => ?_)
  have hK : mmKN μ y1.2 := hK.tr (kX3_at_kn hy1)
  refine mm_astore_n (i := 3) (lv' := [(3, rf y1.1), (0, rf h0), (1, .int x1), (2, .int x2)]) S dX3_resumeWith_5 rfl hl (by decide) rfl (fun ls hl => ?_)
  refine mm_aload_n S dX3_resumeWith_6 rfl (lv_at hl 1 rfl) ?_
  refine mm_aload_n S dX3_resumeWith_7 rfl (lv_at hl 0 rfl) ?_
  obtain ⟨y2, hy2, hf⟩ := bd hf
  refine mm_callVh S hR hS hA (As := [rf y1.1]) (rest := []) cvX3_107 (hK.k hk0) (kX3_inmostOf_c l G A (hK.k hk0) hy2) rfl rfl ⟨Nat.le_of_ble_eq_true rfl, Nat.le_of_ble_eq_true rfl⟩ rfl hl.1 rfl (lv_room (by simp [rf_cat, int_cat])) dX3_resumeWith_8 ⟨Nat.le_refl _, Nat.le_refl _⟩ (fun H locs hR hS => ?_)
  have hK : mmKN μ y2.2 := hK.tr (kX3_inmostOf_kn hy2)
  refine mm_astore (i := 4) (lv' := [(4, rf y2.1), (3, rf y1.1), (0, rf h0), (1, .int x1), (2, .int x2)]) S dX3_resumeWith_11 hl (by decide) (by simp [rf_cat]) (fun ls hl => ?_)
  refine mm_aload_n S dX3_resumeWith_13 rfl (lv_at hl 2 rfl) ?_
  refine lv_iconst (v := (-1)) S.1 S.2.1 dX3_resumeWith_14 (by decide) ?_
  obtain ⟨y3, hy3, hf⟩ := bd hf
  refine mm_callVv S hR hS hA (As := [.int (-1)]) (rest := []) cvX3_111 (hK.k hk0) (kX3_beginCall_c l G A (hK.k hk0) hy3) rfl rfl ⟨Nat.le_of_ble_eq_true rfl, Nat.le_of_ble_eq_true rfl⟩ rfl hl.1 rfl (lv_room (by simp [rf_cat, int_cat])) dX3_resumeWith_15 ⟨Nat.le_refl _, Nat.le_refl _⟩ (fun H locs hR hS => ?_)
  have hK : mmKN μ y3 := hK.tr (kX3_beginCall_kn hy3)
  refine mm_aload S dX3_resumeWith_18 (lv_at hl 0 rfl) ?_
  obtain ⟨g4, hf⟩ := gd hf
  refine mm_geti S hR fdX3_68 (hK.k g4) rfl dX3_resumeWith_20 ?_
  refine lv_if_ne (tgt := 35) S.1 S.2.1 dX3_resumeWith_23 (by decide) (fun c5 => ?_) (fun c5 => ?_)
  · have hf := it_f hf c5
    refine mm_aload S dX3_resumeWith_35 (lv_at hl 0 rfl) ?_
    refine lv_iload_n S.1 S.2.1 dX3_resumeWith_37 rfl (lv_at hl 4 rfl) ?_
    refine mm_puti S hR hS fpX3_117 (hK.k g4) rfl rfl rfl dX3_resumeWith_38 (fun H locs hR hS => ?_)
    obtain ⟨μ6, e6, hf⟩ := stx hf
    rw [← e6] at hR
    have hK : mmKN μ μ6 := by rw [e6]; exact hK.sI
    refine mm_aload S dX3_resumeWith_41 (lv_at hl 0 rfl) ?_
    refine mm_aload S dX3_resumeWith_43 (lv_at hl 0 rfl) ?_
    refine mm_geti S hR fdX3_120 (hK.k g4) rfl dX3_resumeWith_45 ?_
    refine lv_iconst (v := 1) S.1 S.2.1 dX3_resumeWith_48 (by decide) ?_
    refine lv_iadd S.1 S.2.1 dX3_resumeWith_49 ?_
    obtain ⟨y7, hy7, hf⟩ := bd hf
    refine mm_callVv S hR hS hA (As := [.int ((mI μ6 y2.1 6) + 1)]) (rest := []) cvX3_114 (hK.k g4) (kX2_goOnAt_c l G A (hK.k g4) hy7) rfl rfl ⟨Nat.le_of_ble_eq_true rfl, Nat.le_of_ble_eq_true rfl⟩ rfl hl.1 rfl (lv_room (by simp [rf_cat, int_cat])) dX3_resumeWith_50 ⟨Nat.le_refl _, Nat.le_refl _⟩ (fun H locs hR hS => ?_)
    have hK : mmKN μ y7 := hK.tr (kX2_goOnAt_kn hy7)
    refine mm_aload_n S dX3_resumeWith_53 rfl (lv_at hl 2 rfl) ?_
    refine mm_aload_n S dX3_resumeWith_54 rfl (lv_at hl 1 rfl) ?_
    refine mm_aload S dX3_resumeWith_55 (lv_at hl 0 rfl) ?_
    obtain ⟨y8, hy8, hf⟩ := bd hf
    refine mm_callVv S hR hS hA (As := [rf y1.1, rf y2.1]) (rest := []) cvX3_123 (hK.k hk0) (kX3_goOn_c l G A (hK.k hk0) hy8) rfl rfl ⟨Nat.le_of_ble_eq_true rfl, Nat.le_of_ble_eq_true rfl⟩ rfl hl.1 rfl (lv_room (by simp [rf_cat, int_cat])) dX3_resumeWith_57 ⟨Nat.le_refl _, Nat.le_refl _⟩ (fun H locs hR hS => ?_)
    have hK : mmKN μ y8 := hK.tr (kX3_goOn_kn hy8)
    refine mm_aload_n S dX3_resumeWith_60 rfl (lv_at hl 2 rfl) ?_
    refine mm_aload_n S dX3_resumeWith_61 rfl (lv_at hl 1 rfl) ?_
    obtain ⟨y9, hy9, hf⟩ := bd hf
    refine mm_callVi S hR hS hA (As := [rf y1.1]) (rest := []) cvX3_127 (hK.k hk0) (kX3_toldOf_c l G A (hK.k hk0) hy9) rfl rfl ⟨Nat.le_of_ble_eq_true rfl, Nat.le_of_ble_eq_true rfl⟩ rfl hl.1 rfl (lv_room (by simp [rf_cat, int_cat])) dX3_resumeWith_62 ⟨Nat.le_refl _, Nat.le_refl _⟩ (fun H locs hR hS => ?_)
    have hK : mmKN μ y9.2 := hK.tr (kX3_toldOf_kn hy9)
    obtain rfl := Option.some.inj hf
    exact mm_iret S hR hS hr hlocks dX3_resumeWith_65
  · have hf := it_t hf c5
    refine mm_aload S dX3_resumeWith_26 (lv_at hl 0 rfl) ?_
    refine lv_iconst (v := 0) S.1 S.2.1 dX3_resumeWith_28 (by decide) ?_
    obtain ⟨y10, hy10, hf⟩ := bd hf
    refine mm_callVv S hR hS hA (As := [.int 0]) (rest := []) cvX3_114 (hK.k g4) (kX2_goOnAt_c l G A (hK.k g4) hy10) rfl rfl ⟨Nat.le_of_ble_eq_true rfl, Nat.le_of_ble_eq_true rfl⟩ rfl hl.1 rfl (lv_room (by simp [rf_cat, int_cat])) dX3_resumeWith_29 ⟨Nat.le_refl _, Nat.le_refl _⟩ (fun H locs hR hS => ?_)
    have hK : mmKN μ y10 := hK.tr (kX2_goOnAt_kn hy10)
    refine lv_goto (tgt := 53) S.1 S.2.1 dX3_resumeWith_32 (by decide) ?_
    refine mm_aload_n S dX3_resumeWith_53 rfl (lv_at hl 2 rfl) ?_
    refine mm_aload_n S dX3_resumeWith_54 rfl (lv_at hl 1 rfl) ?_
    refine mm_aload S dX3_resumeWith_55 (lv_at hl 0 rfl) ?_
    obtain ⟨y11, hy11, hf⟩ := bd hf
    refine mm_callVv S hR hS hA (As := [rf y1.1, rf y2.1]) (rest := []) cvX3_123 (hK.k hk0) (kX3_goOn_c l G A (hK.k hk0) hy11) rfl rfl ⟨Nat.le_of_ble_eq_true rfl, Nat.le_of_ble_eq_true rfl⟩ rfl hl.1 rfl (lv_room (by simp [rf_cat, int_cat])) dX3_resumeWith_57 ⟨Nat.le_refl _, Nat.le_refl _⟩ (fun H locs hR hS => ?_)
    have hK : mmKN μ y11 := hK.tr (kX3_goOn_kn hy11)
    refine mm_aload_n S dX3_resumeWith_60 rfl (lv_at hl 2 rfl) ?_
    refine mm_aload_n S dX3_resumeWith_61 rfl (lv_at hl 1 rfl) ?_
    obtain ⟨y12, hy12, hf⟩ := bd hf
    refine mm_callVi S hR hS hA (As := [rf y1.1]) (rest := []) cvX3_127 (hK.k hk0) (kX3_toldOf_c l G A (hK.k hk0) hy12) rfl rfl ⟨Nat.le_of_ble_eq_true rfl, Nat.le_of_ble_eq_true rfl⟩ rfl hl.1 rfl (lv_room (by simp [rf_cat, int_cat])) dX3_resumeWith_62 ⟨Nat.le_refl _, Nat.le_refl _⟩ (fun H locs hR hS => ?_)
    have hK : mmKN μ y12.2 := hK.tr (kX3_toldOf_kn hy12)
    obtain rfl := Option.some.inj hf
    exact mm_iret S hR hS hr hlocks dX3_resumeWith_65
-- X3_throwInto
def fX3_throwInto (h0 : Nat) (x1 : Int32) (x2 : Int32) (μ : MM) : Option (Int32 × MM) :=
  (fX3_at h0 x1 μ).bind fun y1 => (fX3_inmostOf h0 y1.1 y1.2).bind fun y2 => (fX3_beginCall h0 (-1) y2.2).bind fun y3 => if mK μ y2.1 = 3 then (fX2_leave y2.1 x2 y3).bind fun y4 => (fX3_goOn h0 y1.1 y2.1 y4).bind fun y6 => (fX3_toldOf h0 y1.1 y6).bind fun y7 => some (y7.1, y7.2) else none
set_option maxRecDepth 100000 in
set_option maxHeartbeats 4000000 in
theorem kX3_throwInto_kn {μ : MM} {res : Int32 × MM} {h0 : Nat} {x1 : Int32} {x2 : Int32} (hf : fX3_throwInto h0 x1 x2 μ = some res) : mmKN μ res.2 := by
  have hK : mmKN μ μ := mmKN.rf
  unfold fX3_throwInto at hf
  obtain ⟨y1, hy1, hf⟩ := bd hf
  have hK : mmKN μ y1.2 := hK.tr (kX3_at_kn hy1)
  obtain ⟨y2, hy2, hf⟩ := bd hf
  have hK : mmKN μ y2.2 := hK.tr (kX3_inmostOf_kn hy2)
  obtain ⟨y3, hy3, hf⟩ := bd hf
  have hK : mmKN μ y3 := hK.tr (kX3_beginCall_kn hy3)
  obtain ⟨g5, hf⟩ := gd hf
  obtain ⟨y4, hy4, hf⟩ := bd hf
  have hK : mmKN μ y4 := hK.tr (kX2_leave_kn hy4)
  obtain ⟨y6, hy6, hf⟩ := bd hf
  have hK : mmKN μ y6 := hK.tr (kX3_goOn_kn hy6)
  obtain ⟨y7, hy7, hf⟩ := bd hf
  have hK : mmKN μ y7.2 := hK.tr (kX3_toldOf_kn hy7)
  obtain rfl := Option.some.inj hf
  exact hK
abbrev rmX3_throwInto : Room := { frames := 5, cells := 0, slots := 0, locals := 120 }
set_option maxRecDepth 100000 in
set_option maxHeartbeats 4000000 in
theorem kX3_throwInto_c (l : Launch) (G : mmG) (A : Nat → Prop) {μ : MM} {res : Int32 × MM} {h0 : Nat} {x1 : Int32} {x2 : Int32} (hk0 : mK μ h0 = 4) (hf : fX3_throwInto h0 x1 x2 μ = some res) : Met l yX3_throwInto [.code yX3_throwInto cX3_throwInto 5 (some (.int))] rmX3_throwInto (mmPc G A μ [rf h0, .int x1, .int x2]) (mmQ G A res.2 (some (.int res.1))) 0 0 A := by
  refine mm_ofW (by decide +kernel) (by simp [lg_sl, rf_cat, int_cat]) ?_
  intro p e s m below meth c ls S hR hA hS hr hlocks hl hnm
  have hl : lv_has ls 5 [(0, rf h0), (1, .int x1), (2, .int x2)] := by simpa [lv_args, rf_cat, int_cat] using hl
  have E0 : mmEnv p m c cX3_throwInto 5 s _ RX3 G A meth (some (.int)) := ⟨S, hA, hr, hlocks⟩
  have hK : mmKN μ μ := mmKN.rf
  unfold fX3_throwInto at hf
  refine mm_aload_n S dX3_throwInto_0 rfl (lv_at hl 0 rfl) ?_
  refine lv_iload_n S.1 S.2.1 dX3_throwInto_1 rfl (lv_at hl 1 rfl) ?_
  obtain ⟨y1, hy1, hf⟩ := bd hf
  refine mm_callVh S hR hS hA (As := [.int x1]) (rest := []) cvX3_55 (hK.k hk0) (kX3_at_c l G A (hK.k hk0) hy1) rfl rfl ⟨Nat.le_of_ble_eq_true rfl, Nat.le_of_ble_eq_true rfl⟩ rfl hl.1 rfl (lv_room (by simp [rf_cat, int_cat])) dX3_throwInto_2 ⟨Nat.le_refl _, Nat.le_refl _⟩ (fun H locs hR hS => ?_)
  have hK : mmKN μ y1.2 := hK.tr (kX3_at_kn hy1)
  refine mm_astore_n (i := 3) (lv' := [(3, rf y1.1), (0, rf h0), (1, .int x1), (2, .int x2)]) S dX3_throwInto_5 rfl hl (by decide) rfl (fun ls hl => ?_)
  refine mm_aload_n S dX3_throwInto_6 rfl (lv_at hl 1 rfl) ?_
  refine mm_aload_n S dX3_throwInto_7 rfl (lv_at hl 0 rfl) ?_
  obtain ⟨y2, hy2, hf⟩ := bd hf
  refine mm_callVh S hR hS hA (As := [rf y1.1]) (rest := []) cvX3_107 (hK.k hk0) (kX3_inmostOf_c l G A (hK.k hk0) hy2) rfl rfl ⟨Nat.le_of_ble_eq_true rfl, Nat.le_of_ble_eq_true rfl⟩ rfl hl.1 rfl (lv_room (by simp [rf_cat, int_cat])) dX3_throwInto_8 ⟨Nat.le_refl _, Nat.le_refl _⟩ (fun H locs hR hS => ?_)
  have hK : mmKN μ y2.2 := hK.tr (kX3_inmostOf_kn hy2)
  refine mm_astore (i := 4) (lv' := [(4, rf y2.1), (3, rf y1.1), (0, rf h0), (1, .int x1), (2, .int x2)]) S dX3_throwInto_11 hl (by decide) (by simp [rf_cat]) (fun ls hl => ?_)
  refine mm_aload_n S dX3_throwInto_13 rfl (lv_at hl 2 rfl) ?_
  refine lv_iconst (v := (-1)) S.1 S.2.1 dX3_throwInto_14 (by decide) ?_
  obtain ⟨y3, hy3, hf⟩ := bd hf
  refine mm_callVv S hR hS hA (As := [.int (-1)]) (rest := []) cvX3_111 (hK.k hk0) (kX3_beginCall_c l G A (hK.k hk0) hy3) rfl rfl ⟨Nat.le_of_ble_eq_true rfl, Nat.le_of_ble_eq_true rfl⟩ rfl hl.1 rfl (lv_room (by simp [rf_cat, int_cat])) dX3_throwInto_15 ⟨Nat.le_refl _, Nat.le_refl _⟩ (fun H locs hR hS => ?_)
  have hK : mmKN μ y3 := hK.tr (kX3_beginCall_kn hy3)
  refine mm_aload S dX3_throwInto_18 (lv_at hl 0 rfl) ?_
  refine lv_iload_n S.1 S.2.1 dX3_throwInto_20 rfl (lv_at hl 4 rfl) ?_
  obtain ⟨g5, hf⟩ := gd hf
  obtain ⟨y4, hy4, hf⟩ := bd hf
  refine mm_callVv S hR hS hA (As := [.int x2]) (rest := []) cvX3_131 (hK.k g5) (kX2_leave_c l G A (hK.k g5) hy4) rfl rfl ⟨Nat.le_of_ble_eq_true rfl, Nat.le_of_ble_eq_true rfl⟩ rfl hl.1 rfl (lv_room (by simp [rf_cat, int_cat])) dX3_throwInto_21 ⟨Nat.le_refl _, Nat.le_refl _⟩ (fun H locs hR hS => ?_)
  have hK : mmKN μ y4 := hK.tr (kX2_leave_kn hy4)
  refine mm_aload_n S dX3_throwInto_24 rfl (lv_at hl 2 rfl) ?_
  refine mm_aload_n S dX3_throwInto_25 rfl (lv_at hl 1 rfl) ?_
  refine mm_aload S dX3_throwInto_26 (lv_at hl 0 rfl) ?_
  obtain ⟨y6, hy6, hf⟩ := bd hf
  refine mm_callVv S hR hS hA (As := [rf y1.1, rf y2.1]) (rest := []) cvX3_123 (hK.k hk0) (kX3_goOn_c l G A (hK.k hk0) hy6) rfl rfl ⟨Nat.le_of_ble_eq_true rfl, Nat.le_of_ble_eq_true rfl⟩ rfl hl.1 rfl (lv_room (by simp [rf_cat, int_cat])) dX3_throwInto_28 ⟨Nat.le_refl _, Nat.le_refl _⟩ (fun H locs hR hS => ?_)
  have hK : mmKN μ y6 := hK.tr (kX3_goOn_kn hy6)
  refine mm_aload_n S dX3_throwInto_31 rfl (lv_at hl 2 rfl) ?_
  refine mm_aload_n S dX3_throwInto_32 rfl (lv_at hl 1 rfl) ?_
  obtain ⟨y7, hy7, hf⟩ := bd hf
  refine mm_callVi S hR hS hA (As := [rf y1.1]) (rest := []) cvX3_127 (hK.k hk0) (kX3_toldOf_c l G A (hK.k hk0) hy7) rfl rfl ⟨Nat.le_of_ble_eq_true rfl, Nat.le_of_ble_eq_true rfl⟩ rfl hl.1 rfl (lv_room (by simp [rf_cat, int_cat])) dX3_throwInto_33 ⟨Nat.le_refl _, Nat.le_refl _⟩ (fun H locs hR hS => ?_)
  have hK : mmKN μ y7.2 := hK.tr (kX3_toldOf_kn hy7)
  obtain rfl := Option.some.inj hf
  exact mm_iret S hR hS hr hlocks dX3_throwInto_36
-- X3_endClose
def bX3_endClose_23  (h1 : Nat) (μ : MM) : Option (Int32 × MM) :=
  if mK μ h1 = 3 then if (mI μ h1 5) = (3 : Int32) then (some (0, μ)) else (if (mI μ h1 5) = (4 : Int32) then (some ((mI μ h1 7), μ)) else (some (8, μ))) else none
def fX3_endClose (h0 : Nat) (h1 : Nat) (μ : MM) : Option (Int32 × MM) :=
  if mK μ h1 = 3 then if (mI μ h1 5) = (4 : Int32) then (if (mI μ h1 7) = (10 : Int32) then ((fX2_end h1 3 0 μ).bind fun y4 => bX3_endClose_23  h1 y4) else (bX3_endClose_23  h1 μ)) else (bX3_endClose_23  h1 μ) else none
set_option maxRecDepth 100000 in
set_option maxHeartbeats 4000000 in
theorem knbX3_endClose_23  : ∀ (h1 : Nat) (μ : MM) (res : Int32 × MM), bX3_endClose_23  h1 μ = some res → mmKN μ res.2 := by
  intro h1 μ res hf
  have hK : mmKN μ μ := mmKN.rf
  unfold bX3_endClose_23 at hf
  obtain ⟨g1, hf⟩ := gd hf
  rcases it_or hf with ⟨c2, hf⟩ | ⟨c2, hf⟩
  · skip
    obtain rfl := Option.some.inj hf
    exact hK
  · skip
    rcases it_or hf with ⟨c3, hf⟩ | ⟨c3, hf⟩
    · skip
      obtain rfl := Option.some.inj hf
      exact hK
    · skip
      obtain rfl := Option.some.inj hf
      exact hK
set_option maxRecDepth 100000 in
set_option maxHeartbeats 4000000 in
theorem kX3_endClose_kn {μ : MM} {res : Int32 × MM} {h0 : Nat} {h1 : Nat} (hf : fX3_endClose h0 h1 μ = some res) : mmKN μ res.2 := by
  have hK : mmKN μ μ := mmKN.rf
  unfold fX3_endClose at hf
  obtain ⟨g1, hf⟩ := gd hf
  rcases it_or hf with ⟨c2, hf⟩ | ⟨c2, hf⟩
  · skip
    rcases it_or hf with ⟨c3, hf⟩ | ⟨c3, hf⟩
    · skip
      obtain ⟨y4, hy4, hf⟩ := bd hf
      have hK : mmKN μ y4 := hK.tr (kX2_end_kn hy4)
      exact hK.tr (knbX3_endClose_23  h1 y4 _ hf)
    · skip
      exact hK.tr (knbX3_endClose_23  h1 μ _ hf)
  · skip
    exact hK.tr (knbX3_endClose_23  h1 μ _ hf)
abbrev rmX3_endClose : Room := { frames := 1, cells := 0, slots := 0, locals := 22 }
set_option maxRecDepth 100000 in
set_option maxHeartbeats 4000000 in
theorem wbX3_endClose_23 {p : Program} {l : Launch} {e : Env} {s : State} {m : MethodId} {args : Array Value} {below : List Frame} {meth : Method} {c : Code} {G : mmG} {A : Nat → Prop} {res : Int32 × MM} (E0 : mmEnv p m c cX3_endClose 2 s args RX3 G A meth (some (.int)))  : ∀ (h1 : Nat) (μ : MM), bX3_endClose_23  h1 μ = some res → mmGoal p l e rmX3_endClose s m args below meth c G A 23 2 [(1, rf h1)] μ (mmQ G A res.2 (some (.int res.1))) := by
  obtain ⟨S, hA, hr, hlocks⟩ := id E0
  intro h1 μ hf H locs ls hR hS hl
  have hK : mmKN μ μ := mmKN.rf
  unfold bX3_endClose_23 at hf
  refine mm_aload_n S dX3_endClose_23 rfl (lv_at hl 0 rfl) ?_
  obtain ⟨g1, hf⟩ := gd hf
  refine mm_geti S hR fdX3_68 (hK.k g1) rfl dX3_endClose_24 ?_
  refine lv_iconst (v := 3) S.1 S.2.1 dX3_endClose_27 (by decide) ?_
  refine lv_icmp_ne (tgt := 33) S.1 S.2.1 dX3_endClose_28 (by decide) (fun c2 => ?_) (fun c2 => ?_)
  · have hf := it_f hf c2
    refine mm_aload_n S dX3_endClose_33 rfl (lv_at hl 0 rfl) ?_
    refine mm_geti S hR fdX3_68 (hK.k g1) rfl dX3_endClose_34 ?_
    refine lv_iconst (v := 4) S.1 S.2.1 dX3_endClose_37 (by decide) ?_
    refine lv_icmp_ne (tgt := 48) S.1 S.2.1 dX3_endClose_38 (by decide) (fun c3 => ?_) (fun c3 => ?_)
    · have hf := it_f hf c3
      refine lv_bipush (v := 8) S.1 S.2.1 dX3_endClose_48 (by decide) ?_
      obtain rfl := Option.some.inj hf
      exact mm_iret S hR hS hr hlocks dX3_endClose_50
    · have hf := it_t hf c3
      refine mm_aload_n S dX3_endClose_41 rfl (lv_at hl 0 rfl) ?_
      refine mm_geti S hR fdX3_117 (hK.k g1) rfl dX3_endClose_42 ?_
      refine lv_goto (tgt := 50) S.1 S.2.1 dX3_endClose_45 (by decide) ?_
      obtain rfl := Option.some.inj hf
      exact mm_iret S hR hS hr hlocks dX3_endClose_50
  · have hf := it_t hf c2
    refine lv_iconst (v := 0) S.1 S.2.1 dX3_endClose_31 (by decide) ?_
    obtain rfl := Option.some.inj hf
    exact mm_iret S hR hS hr hlocks dX3_endClose_32
set_option maxRecDepth 100000 in
set_option maxHeartbeats 4000000 in
theorem kX3_endClose_c (l : Launch) (G : mmG) (A : Nat → Prop) {μ : MM} {res : Int32 × MM} {h0 : Nat} {h1 : Nat} (hk0 : mK μ h0 = 4) (hf : fX3_endClose h0 h1 μ = some res) : Met l yX3_endClose [.code yX3_endClose cX3_endClose 2 (some (.int))] rmX3_endClose (mmPc G A μ [rf h0, rf h1]) (mmQ G A res.2 (some (.int res.1))) 0 0 A := by
  refine mm_ofW (by decide +kernel) (by simp [lg_sl, rf_cat, int_cat]) ?_
  intro p e s m below meth c ls S hR hA hS hr hlocks hl hnm
  have hl : lv_has ls 2 [(0, rf h0), (1, rf h1)] := by simpa [lv_args, rf_cat, int_cat] using hl
  have E0 : mmEnv p m c cX3_endClose 2 s _ RX3 G A meth (some (.int)) := ⟨S, hA, hr, hlocks⟩
  have hK : mmKN μ μ := mmKN.rf
  unfold fX3_endClose at hf
  refine mm_aload_n S dX3_endClose_0 rfl (lv_at hl 1 rfl) ?_
  obtain ⟨g1, hf⟩ := gd hf
  refine mm_geti S hR fdX3_68 (hK.k g1) rfl dX3_endClose_1 ?_
  refine lv_iconst (v := 4) S.1 S.2.1 dX3_endClose_4 (by decide) ?_
  refine lv_icmp_ne (tgt := 23) S.1 S.2.1 dX3_endClose_5 (by decide) (fun c2 => ?_) (fun c2 => ?_)
  · have hf := it_f hf c2
    exact wbX3_endClose_23 E0  h1 μ hf _ _ _ hR hS (lv_sub hl [1] rfl)
  · have hf := it_t hf c2
    refine mm_aload_n S dX3_endClose_8 rfl (lv_at hl 1 rfl) ?_
    refine mm_geti S hR fdX3_117 (hK.k g1) rfl dX3_endClose_9 ?_
    refine lv_bipush (v := 10) S.1 S.2.1 dX3_endClose_12 (by decide) ?_
    refine lv_icmp_ne (tgt := 23) S.1 S.2.1 dX3_endClose_14 (by decide) (fun c3 => ?_) (fun c3 => ?_)
    · have hf := it_f hf c3
      exact wbX3_endClose_23 E0  h1 μ hf _ _ _ hR hS (lv_sub hl [1] rfl)
    · have hf := it_t hf c3
      refine mm_aload_n S dX3_endClose_17 rfl (lv_at hl 1 rfl) ?_
      refine lv_iconst (v := 3) S.1 S.2.1 dX3_endClose_18 (by decide) ?_
      refine lv_iconst (v := 0) S.1 S.2.1 dX3_endClose_19 (by decide) ?_
      obtain ⟨y4, hy4, hf⟩ := bd hf
      refine mm_callVv S hR hS hA (As := [.int 3, .int 0]) (rest := []) cvX3_134 (hK.k g1) (kX2_end_c l G A (hK.k g1) hy4) rfl rfl ⟨Nat.le_of_ble_eq_true rfl, Nat.le_of_ble_eq_true rfl⟩ rfl hl.1 rfl (lv_room (by simp [rf_cat, int_cat])) dX3_endClose_20 ⟨Nat.le_refl _, Nat.le_refl _⟩ (fun H locs hR hS => ?_)
      have hK : mmKN μ y4 := hK.tr (kX2_end_kn hy4)
      exact wbX3_endClose_23 E0  h1 y4 hf _ _ _ hR hS (lv_sub hl [1] rfl)
-- X3_closeAll
def bX3_closeAll_63 (kk63 : Nat → Nat → Nat → Int32 → Int32 → MM → Option (Int32 × MM)) (h0 : Nat) (h2 : Nat) (h3 : Nat) (x4 : Int32) (x5 : Int32) (μ : MM) : Option (Int32 × MM) :=
  if (24 : Int32) ≤ x5 then (some (x4, μ)) else (if h3 = h2 then (some (x4, μ)) else (if mK μ h3 = 3 then if mK μ h0 = 4 then (fX3_at h0 (mI μ h3 10) μ).bind fun y4 => (fX3_part h0 y4.1 h3 y4.2).bind fun y6 => if x4 = 0 then (if mK μ y4.1 = 3 then (fX2_leave y4.1 10 y6).bind fun y12 => (fX3_goOn h0 y4.1 y4.1 y12).bind fun y14 => (fX3_endClose h0 y4.1 y14).bind fun y15 => kk63 h0 h2 y4.1 y15.1 (x5 + 1) y15.2 else none) else (if mK μ y4.1 = 3 then (fX2_leave y4.1 x4 y6).bind fun y8 => (fX3_goOn h0 y4.1 y4.1 y8).bind fun y10 => (fX3_endClose h0 y4.1 y10).bind fun y11 => kk63 h0 h2 y4.1 y11.1 (x5 + 1) y11.2 else none) else none else none))
def lX3_closeAll_63  : Nat → Nat → Nat → Nat → Int32 → Int32 → MM → Option (Int32 × MM)
  | 0, _, _, _, _, _, _ => none
  | n + 1, h0, h2, h3, x4, x5, μ => bX3_closeAll_63  (fun h0 h2 h3 x4 x5 μ => lX3_closeAll_63  n h0 h2 h3 x4 x5 μ) h0 h2 h3 x4 x5 μ
def fX3_closeAll (h0 : Nat) (x1 : Int32) (μ : MM) : Option (Int32 × MM) :=
  (fX3_at h0 x1 μ).bind fun y1 => if mK μ y1.1 = 3 then (fX2_isOver y1.1 y1.2).bind fun y2 => if y2.1 = 0 then (if (mI y2.2 y1.1 5) = 0 then ((fX2_end y1.1 3 0 y2.2).bind fun y12 => some (0, y12)) else ((fX3_beginCall h0 (-1) y2.2).bind fun y6 => (fX3_inmostOf h0 y1.1 y6).bind fun y7 => if mK μ y7.1 = 3 then (fX2_leave y7.1 10 y7.2).bind fun y8 => (fX3_goOn h0 y7.1 y7.1 y8).bind fun y10 => (fX3_endClose h0 y7.1 y10).bind fun y11 => lX3_closeAll_63  FU h0 y1.1 y7.1 y11.1 0 y11.2 else none)) else (some (0, y2.2)) else none
set_option maxRecDepth 100000 in
set_option maxHeartbeats 4000000 in
theorem knbX3_closeAll_63 (kk63 : Nat → Nat → Nat → Int32 → Int32 → MM → Option (Int32 × MM)) (hkk63 : ∀ (h0 : Nat) (h2 : Nat) (h3 : Nat) (x4 : Int32) (x5 : Int32) (μ : MM) (res : Int32 × MM), kk63 h0 h2 h3 x4 x5 μ = some res → mmKN μ res.2) : ∀ (h0 : Nat) (h2 : Nat) (h3 : Nat) (x4 : Int32) (x5 : Int32) (μ : MM) (res : Int32 × MM), bX3_closeAll_63 kk63 h0 h2 h3 x4 x5 μ = some res → mmKN μ res.2 := by
  intro h0 h2 h3 x4 x5 μ res hf
  have hK : mmKN μ μ := mmKN.rf
  unfold bX3_closeAll_63 at hf
  rcases it_or hf with ⟨c1, hf⟩ | ⟨c1, hf⟩
  · skip
    obtain rfl := Option.some.inj hf
    exact hK
  · skip
    rcases it_or hf with ⟨c2, hf⟩ | ⟨c2, hf⟩
    · skip
      obtain rfl := Option.some.inj hf
      exact hK
    · skip
      obtain ⟨g3, hf⟩ := gd hf
      obtain ⟨g5, hf⟩ := gd hf
      obtain ⟨y4, hy4, hf⟩ := bd hf
      have hK : mmKN μ y4.2 := hK.tr (kX3_at_kn hy4)
      obtain ⟨y6, hy6, hf⟩ := bd hf
      have hK : mmKN μ y6 := hK.tr (kX3_part_kn hy6)
      rcases it_or hf with ⟨c7, hf⟩ | ⟨c7, hf⟩
      · skip
        obtain ⟨g13, hf⟩ := gd hf
        obtain ⟨y12, hy12, hf⟩ := bd hf
        have hK : mmKN μ y12 := hK.tr (kX2_leave_kn hy12)
        obtain ⟨y14, hy14, hf⟩ := bd hf
        have hK : mmKN μ y14 := hK.tr (kX3_goOn_kn hy14)
        obtain ⟨y15, hy15, hf⟩ := bd hf
        have hK : mmKN μ y15.2 := hK.tr (kX3_endClose_kn hy15)
        exact hK.tr (hkk63 h0 h2 y4.1 y15.1 (x5 + 1) y15.2 _ hf)
      · skip
        obtain ⟨g9, hf⟩ := gd hf
        obtain ⟨y8, hy8, hf⟩ := bd hf
        have hK : mmKN μ y8 := hK.tr (kX2_leave_kn hy8)
        obtain ⟨y10, hy10, hf⟩ := bd hf
        have hK : mmKN μ y10 := hK.tr (kX3_goOn_kn hy10)
        obtain ⟨y11, hy11, hf⟩ := bd hf
        have hK : mmKN μ y11.2 := hK.tr (kX3_endClose_kn hy11)
        exact hK.tr (hkk63 h0 h2 y4.1 y11.1 (x5 + 1) y11.2 _ hf)
theorem knlX3_closeAll_63  : ∀ (n : Nat) (h0 : Nat) (h2 : Nat) (h3 : Nat) (x4 : Int32) (x5 : Int32) (μ : MM) (res : Int32 × MM), lX3_closeAll_63  n h0 h2 h3 x4 x5 μ = some res → mmKN μ res.2 := by
  intro n
  induction n with
  | zero => intro h0 h2 h3 x4 x5 μ res hf; cases hf
  | succ n ih => intro h0 h2 h3 x4 x5 μ res hf; exact knbX3_closeAll_63  _ ih h0 h2 h3 x4 x5 μ res hf
set_option maxRecDepth 100000 in
set_option maxHeartbeats 4000000 in
theorem kX3_closeAll_kn {μ : MM} {res : Int32 × MM} {h0 : Nat} {x1 : Int32} (hf : fX3_closeAll h0 x1 μ = some res) : mmKN μ res.2 := by
  have hK : mmKN μ μ := mmKN.rf
  unfold fX3_closeAll at hf
  obtain ⟨y1, hy1, hf⟩ := bd hf
  have hK : mmKN μ y1.2 := hK.tr (kX3_at_kn hy1)
  obtain ⟨g3, hf⟩ := gd hf
  obtain ⟨y2, hy2, hf⟩ := bd hf
  have hK : mmKN μ y2.2 := hK.tr (kX2_isOver_kn hy2)
  rcases it_or hf with ⟨c4, hf⟩ | ⟨c4, hf⟩
  · skip
    rcases it_or hf with ⟨c5, hf⟩ | ⟨c5, hf⟩
    · skip
      obtain ⟨y12, hy12, hf⟩ := bd hf
      have hK : mmKN μ y12 := hK.tr (kX2_end_kn hy12)
      obtain rfl := Option.some.inj hf
      exact hK
    · skip
      obtain ⟨y6, hy6, hf⟩ := bd hf
      have hK : mmKN μ y6 := hK.tr (kX3_beginCall_kn hy6)
      obtain ⟨y7, hy7, hf⟩ := bd hf
      have hK : mmKN μ y7.2 := hK.tr (kX3_inmostOf_kn hy7)
      obtain ⟨g9, hf⟩ := gd hf
      obtain ⟨y8, hy8, hf⟩ := bd hf
      have hK : mmKN μ y8 := hK.tr (kX2_leave_kn hy8)
      obtain ⟨y10, hy10, hf⟩ := bd hf
      have hK : mmKN μ y10 := hK.tr (kX3_goOn_kn hy10)
      obtain ⟨y11, hy11, hf⟩ := bd hf
      have hK : mmKN μ y11.2 := hK.tr (kX3_endClose_kn hy11)
      exact hK.tr (knlX3_closeAll_63  FU h0 y1.1 y7.1 y11.1 0 y11.2 _ hf)
  · skip
    obtain rfl := Option.some.inj hf
    exact hK
abbrev rmX3_closeAll : Room := { frames := 5, cells := 0, slots := 0, locals := 120 }
set_option maxRecDepth 100000 in
set_option maxHeartbeats 4000000 in
theorem wbX3_closeAll_63 {p : Program} {l : Launch} {e : Env} {s : State} {m : MethodId} {args : Array Value} {below : List Frame} {meth : Method} {c : Code} {G : mmG} {A : Nat → Prop} {res : Int32 × MM} (E0 : mmEnv p m c cX3_closeAll 7 s args RX3 G A meth (some (.int))) (kk63 : Nat → Nat → Nat → Int32 → Int32 → MM → Option (Int32 × MM)) (hkk63 : ∀ (h0 : Nat) (h2 : Nat) (h3 : Nat) (x4 : Int32) (x5 : Int32) (μ : MM), kk63 h0 h2 h3 x4 x5 μ = some res → mmGoal p l e rmX3_closeAll s m args below meth c G A 63 7 [(0, rf h0), (2, rf h2), (3, rf h3), (4, .int x4), (5, .int x5)] μ (mmQ G A res.2 (some (.int res.1)))) : ∀ (h0 : Nat) (h2 : Nat) (h3 : Nat) (x4 : Int32) (x5 : Int32) (μ : MM), bX3_closeAll_63 kk63 h0 h2 h3 x4 x5 μ = some res → mmGoal p l e rmX3_closeAll s m args below meth c G A 63 7 [(0, rf h0), (2, rf h2), (3, rf h3), (4, .int x4), (5, .int x5)] μ (mmQ G A res.2 (some (.int res.1))) := by
  obtain ⟨S, hA, hr, hlocks⟩ := id E0
  intro h0 h2 h3 x4 x5 μ hf H locs ls hR hS hl
  have hK : mmKN μ μ := mmKN.rf
  unfold bX3_closeAll_63 at hf
  refine lv_iload S.1 S.2.1 dX3_closeAll_63 (lv_at hl 4 rfl) ?_
  refine lv_bipush (v := 24) S.1 S.2.1 dX3_closeAll_65 (by decide) ?_
  refine lv_icmp_ge (tgt := 134) S.1 S.2.1 dX3_closeAll_67 (by decide) (fun c1 => ?_) (fun c1 => ?_)
  · have hf := it_t hf c1
    refine lv_iload S.1 S.2.1 dX3_closeAll_134 (lv_at hl 3 rfl) ?_
    obtain rfl := Option.some.inj hf
    exact mm_iret S hR hS hr hlocks dX3_closeAll_136
  · have hf := it_f hf c1
    refine mm_aload_n S dX3_closeAll_70 rfl (lv_at hl 2 rfl) ?_
    refine mm_aload_n S dX3_closeAll_71 rfl (lv_at hl 1 rfl) ?_
    refine mm_acmp_eq (tgt := 134) S dX3_closeAll_72 (by decide) (fun c2 => ?_) (fun c2 => ?_)
    · have hf := it_t hf c2
      refine lv_iload S.1 S.2.1 dX3_closeAll_134 (lv_at hl 3 rfl) ?_
      obtain rfl := Option.some.inj hf
      exact mm_iret S hR hS hr hlocks dX3_closeAll_136
    · have hf := it_f hf c2
      refine mm_aload_n S dX3_closeAll_75 rfl (lv_at hl 0 rfl) ?_
      refine mm_aload_n S dX3_closeAll_76 rfl (lv_at hl 2 rfl) ?_
      obtain ⟨g3, hf⟩ := gd hf
      refine mm_geti S hR fdX3_141 (hK.k g3) rfl dX3_closeAll_77 ?_
      obtain ⟨g5, hf⟩ := gd hf
      obtain ⟨y4, hy4, hf⟩ := bd hf
      refine mm_callVh S hR hS hA (As := [.int (mI μ h3 10)]) (rest := []) cvX3_55 (hK.k g5) (kX3_at_c l G A (hK.k g5) hy4) rfl rfl ⟨Nat.le_of_ble_eq_true rfl, Nat.le_of_ble_eq_true rfl⟩ rfl hl.1 rfl (lv_room (by simp [rf_cat, int_cat])) dX3_closeAll_80 ⟨Nat.le_refl _, Nat.le_refl _⟩ (fun H locs hR hS => ?_)
      have hK : mmKN μ y4.2 := hK.tr (kX3_at_kn hy4)
      refine mm_astore (i := 6) (lv' := [(6, rf y4.1), (0, rf h0), (2, rf h2), (3, rf h3), (4, .int x4), (5, .int x5)]) S dX3_closeAll_83 hl (by decide) rfl (fun ls hl => ?_)
      refine mm_aload_n S dX3_closeAll_85 rfl (lv_at hl 1 rfl) ?_
      refine mm_aload S dX3_closeAll_86 (lv_at hl 0 rfl) ?_
      refine mm_aload_n S dX3_closeAll_88 rfl (lv_at hl 3 rfl) ?_
      obtain ⟨y6, hy6, hf⟩ := bd hf
      refine mm_callVv S hR hS hA (As := [rf y4.1, rf h3]) (rest := []) cvX3_144 (hK.k g5) (kX3_part_c l G A (hK.k g5) hy6) rfl rfl ⟨Nat.le_of_ble_eq_true rfl, Nat.le_of_ble_eq_true rfl⟩ rfl hl.1 rfl (lv_room (by simp [rf_cat, int_cat])) dX3_closeAll_89 ⟨Nat.le_refl _, Nat.le_refl _⟩ (fun H locs hR hS => ?_)
      have hK : mmKN μ y6 := hK.tr (kX3_part_kn hy6)
      refine mm_aload S dX3_closeAll_92 (lv_at hl 0 rfl) ?_
      refine lv_iload S.1 S.2.1 dX3_closeAll_94 (lv_at hl 4 rfl) ?_
      refine lv_if_ne (tgt := 104) S.1 S.2.1 dX3_closeAll_96 (by decide) (fun c7 => ?_) (fun c7 => ?_)
      · have hf := it_f hf c7
        refine lv_iload S.1 S.2.1 dX3_closeAll_104 (lv_at hl 4 rfl) ?_
        obtain ⟨g9, hf⟩ := gd hf
        obtain ⟨y8, hy8, hf⟩ := bd hf
        refine mm_callVv S hR hS hA (As := [.int x4]) (rest := []) cvX3_131 (hK.k g9) (kX2_leave_c l G A (hK.k g9) hy8) rfl rfl ⟨Nat.le_of_ble_eq_true rfl, Nat.le_of_ble_eq_true rfl⟩ rfl hl.1 rfl (lv_room (by simp [rf_cat, int_cat])) dX3_closeAll_106 ⟨Nat.le_refl _, Nat.le_refl _⟩ (fun H locs hR hS => ?_)
        have hK : mmKN μ y8 := hK.tr (kX2_leave_kn hy8)
        refine mm_aload_n S dX3_closeAll_109 rfl (lv_at hl 1 rfl) ?_
        refine mm_aload S dX3_closeAll_110 (lv_at hl 0 rfl) ?_
        refine mm_aload S dX3_closeAll_112 (lv_at hl 0 rfl) ?_
        obtain ⟨y10, hy10, hf⟩ := bd hf
        refine mm_callVv S hR hS hA (As := [rf y4.1, rf y4.1]) (rest := []) cvX3_123 (hK.k g5) (kX3_goOn_c l G A (hK.k g5) hy10) rfl rfl ⟨Nat.le_of_ble_eq_true rfl, Nat.le_of_ble_eq_true rfl⟩ rfl hl.1 rfl (lv_room (by simp [rf_cat, int_cat])) dX3_closeAll_114 ⟨Nat.le_refl _, Nat.le_refl _⟩ (fun H locs hR hS => ?_)
        have hK : mmKN μ y10 := hK.tr (kX3_goOn_kn hy10)
        refine mm_aload_n S dX3_closeAll_117 rfl (lv_at hl 1 rfl) ?_
        refine mm_aload S dX3_closeAll_118 (lv_at hl 0 rfl) ?_
        obtain ⟨y11, hy11, hf⟩ := bd hf
        refine mm_callVi S hR hS hA (As := [rf y4.1]) (rest := []) cvX3_138 (hK.k g5) (kX3_endClose_c l G A (hK.k g5) hy11) rfl rfl ⟨Nat.le_of_ble_eq_true rfl, Nat.le_of_ble_eq_true rfl⟩ rfl hl.1 rfl (lv_room (by simp [rf_cat, int_cat])) dX3_closeAll_120 ⟨Nat.le_refl _, Nat.le_refl _⟩ (fun H locs hR hS => ?_)
        have hK : mmKN μ y11.2 := hK.tr (kX3_endClose_kn hy11)
        refine lv_istore (i := 4) (lv' := [(4, .int y11.1), (6, rf y4.1), (0, rf h0), (2, rf h2), (3, rf h3), (5, .int x5)]) S.1 S.2.1 dX3_closeAll_123 hl (by decide) (by simp [rf_cat]) (fun ls hl => ?_)
        refine mm_aload S dX3_closeAll_125 (lv_at hl 1 rfl) ?_
        refine mm_astore_n (i := 3) (lv' := [(3, rf y4.1), (4, .int y11.1), (6, rf y4.1), (0, rf h0), (2, rf h2), (5, .int x5)]) S dX3_closeAll_127 rfl hl (by decide) (by simp [rf_cat]) (fun ls hl => ?_)
        refine lv_iinc (v := (x5 + 1)) (lv' := [(5, .int (x5 + 1)), (3, rf y4.1), (4, .int y11.1), (6, rf y4.1), (0, rf h0), (2, rf h2)]) S.1 S.2.1 dX3_closeAll_128 hl (k := 5) rfl (by rfl) (by decide) rfl (fun ls hl => ?_)
        refine lv_goto (tgt := 63) S.1 S.2.1 dX3_closeAll_131 (by decide) ?_
        exact hkk63 h0 h2 y4.1 y11.1 (x5 + 1) y11.2 hf _ _ _ hR hS (lv_sub hl [4, 5, 1, 2, 0] rfl)
      · have hf := it_t hf c7
        refine lv_bipush (v := 10) S.1 S.2.1 dX3_closeAll_99 (by decide) ?_
        refine lv_goto (tgt := 106) S.1 S.2.1 dX3_closeAll_101 (by decide) ?_
        obtain ⟨g13, hf⟩ := gd hf
        obtain ⟨y12, hy12, hf⟩ := bd hf
        refine mm_callVv S hR hS hA (As := [.int 10]) (rest := []) cvX3_131 (hK.k g13) (kX2_leave_c l G A (hK.k g13) hy12) rfl rfl ⟨Nat.le_of_ble_eq_true rfl, Nat.le_of_ble_eq_true rfl⟩ rfl hl.1 rfl (lv_room (by simp [rf_cat, int_cat])) dX3_closeAll_106 ⟨Nat.le_refl _, Nat.le_refl _⟩ (fun H locs hR hS => ?_)
        have hK : mmKN μ y12 := hK.tr (kX2_leave_kn hy12)
        refine mm_aload_n S dX3_closeAll_109 rfl (lv_at hl 1 rfl) ?_
        refine mm_aload S dX3_closeAll_110 (lv_at hl 0 rfl) ?_
        refine mm_aload S dX3_closeAll_112 (lv_at hl 0 rfl) ?_
        obtain ⟨y14, hy14, hf⟩ := bd hf
        refine mm_callVv S hR hS hA (As := [rf y4.1, rf y4.1]) (rest := []) cvX3_123 (hK.k g5) (kX3_goOn_c l G A (hK.k g5) hy14) rfl rfl ⟨Nat.le_of_ble_eq_true rfl, Nat.le_of_ble_eq_true rfl⟩ rfl hl.1 rfl (lv_room (by simp [rf_cat, int_cat])) dX3_closeAll_114 ⟨Nat.le_refl _, Nat.le_refl _⟩ (fun H locs hR hS => ?_)
        have hK : mmKN μ y14 := hK.tr (kX3_goOn_kn hy14)
        refine mm_aload_n S dX3_closeAll_117 rfl (lv_at hl 1 rfl) ?_
        refine mm_aload S dX3_closeAll_118 (lv_at hl 0 rfl) ?_
        obtain ⟨y15, hy15, hf⟩ := bd hf
        refine mm_callVi S hR hS hA (As := [rf y4.1]) (rest := []) cvX3_138 (hK.k g5) (kX3_endClose_c l G A (hK.k g5) hy15) rfl rfl ⟨Nat.le_of_ble_eq_true rfl, Nat.le_of_ble_eq_true rfl⟩ rfl hl.1 rfl (lv_room (by simp [rf_cat, int_cat])) dX3_closeAll_120 ⟨Nat.le_refl _, Nat.le_refl _⟩ (fun H locs hR hS => ?_)
        have hK : mmKN μ y15.2 := hK.tr (kX3_endClose_kn hy15)
        refine lv_istore (i := 4) (lv' := [(4, .int y15.1), (6, rf y4.1), (0, rf h0), (2, rf h2), (3, rf h3), (5, .int x5)]) S.1 S.2.1 dX3_closeAll_123 hl (by decide) (by simp [rf_cat]) (fun ls hl => ?_)
        refine mm_aload S dX3_closeAll_125 (lv_at hl 1 rfl) ?_
        refine mm_astore_n (i := 3) (lv' := [(3, rf y4.1), (4, .int y15.1), (6, rf y4.1), (0, rf h0), (2, rf h2), (5, .int x5)]) S dX3_closeAll_127 rfl hl (by decide) (by simp [rf_cat]) (fun ls hl => ?_)
        refine lv_iinc (v := (x5 + 1)) (lv' := [(5, .int (x5 + 1)), (3, rf y4.1), (4, .int y15.1), (6, rf y4.1), (0, rf h0), (2, rf h2)]) S.1 S.2.1 dX3_closeAll_128 hl (k := 5) rfl (by rfl) (by decide) rfl (fun ls hl => ?_)
        refine lv_goto (tgt := 63) S.1 S.2.1 dX3_closeAll_131 (by decide) ?_
        exact hkk63 h0 h2 y4.1 y15.1 (x5 + 1) y15.2 hf _ _ _ hR hS (lv_sub hl [4, 5, 1, 2, 0] rfl)
theorem wlX3_closeAll_63 {p : Program} {l : Launch} {e : Env} {s : State} {m : MethodId} {args : Array Value} {below : List Frame} {meth : Method} {c : Code} {G : mmG} {A : Nat → Prop} {res : Int32 × MM} (E0 : mmEnv p m c cX3_closeAll 7 s args RX3 G A meth (some (.int)))  : ∀ (n : Nat) (h0 : Nat) (h2 : Nat) (h3 : Nat) (x4 : Int32) (x5 : Int32) (μ : MM), lX3_closeAll_63  n h0 h2 h3 x4 x5 μ = some res → mmGoal p l e rmX3_closeAll s m args below meth c G A 63 7 [(0, rf h0), (2, rf h2), (3, rf h3), (4, .int x4), (5, .int x5)] μ (mmQ G A res.2 (some (.int res.1))) := by
  intro n
  induction n with
  | zero => intro h0 h2 h3 x4 x5 μ hf; cases hf
  | succ n ih => intro h0 h2 h3 x4 x5 μ hf; exact wbX3_closeAll_63 E0  _ ih h0 h2 h3 x4 x5 μ hf
set_option maxRecDepth 100000 in
set_option maxHeartbeats 4000000 in
theorem kX3_closeAll_c (l : Launch) (G : mmG) (A : Nat → Prop) {μ : MM} {res : Int32 × MM} {h0 : Nat} {x1 : Int32} (hk0 : mK μ h0 = 4) (hf : fX3_closeAll h0 x1 μ = some res) : Met l yX3_closeAll [.code yX3_closeAll cX3_closeAll 7 (some (.int))] rmX3_closeAll (mmPc G A μ [rf h0, .int x1]) (mmQ G A res.2 (some (.int res.1))) 0 0 A := by
  refine mm_ofW (by decide +kernel) (by simp [lg_sl, rf_cat, int_cat]) ?_
  intro p e s m below meth c ls S hR hA hS hr hlocks hl hnm
  have hl : lv_has ls 7 [(0, rf h0), (1, .int x1)] := by simpa [lv_args, rf_cat, int_cat] using hl
  have E0 : mmEnv p m c cX3_closeAll 7 s _ RX3 G A meth (some (.int)) := ⟨S, hA, hr, hlocks⟩
  have hK : mmKN μ μ := mmKN.rf
  unfold fX3_closeAll at hf
  refine mm_aload_n S dX3_closeAll_0 rfl (lv_at hl 0 rfl) ?_
  refine lv_iload_n S.1 S.2.1 dX3_closeAll_1 rfl (lv_at hl 1 rfl) ?_
  obtain ⟨y1, hy1, hf⟩ := bd hf
  refine mm_callVh S hR hS hA (As := [.int x1]) (rest := []) cvX3_55 (hK.k hk0) (kX3_at_c l G A (hK.k hk0) hy1) rfl rfl ⟨Nat.le_of_ble_eq_true rfl, Nat.le_of_ble_eq_true rfl⟩ rfl hl.1 rfl (lv_room (by simp [rf_cat, int_cat])) dX3_closeAll_2 ⟨Nat.le_refl _, Nat.le_refl _⟩ (fun H locs hR hS => ?_)
  have hK : mmKN μ y1.2 := hK.tr (kX3_at_kn hy1)
  refine mm_astore_n (i := 2) (lv' := [(2, rf y1.1), (0, rf h0), (1, .int x1)]) S dX3_closeAll_5 rfl hl (by decide) rfl (fun ls hl => ?_)
  refine mm_aload_n S dX3_closeAll_6 rfl (lv_at hl 0 rfl) ?_
  obtain ⟨g3, hf⟩ := gd hf
  obtain ⟨y2, hy2, hf⟩ := bd hf
  refine mm_callVi S hR hS hA (As := []) (rest := []) cvX3_71 (hK.k g3) (kX2_isOver_c l G A (hK.k g3) hy2) rfl rfl ⟨Nat.le_of_ble_eq_true rfl, Nat.le_of_ble_eq_true rfl⟩ rfl hl.1 rfl (lv_room (by simp [rf_cat, int_cat])) dX3_closeAll_7 ⟨Nat.le_refl _, Nat.le_refl _⟩ (fun H locs hR hS => ?_)
  have hK : mmKN μ y2.2 := hK.tr (kX2_isOver_kn hy2)
  refine lv_if_eq (tgt := 15) S.1 S.2.1 dX3_closeAll_10 (by decide) (fun c4 => ?_) (fun c4 => ?_)
  · have hf := it_t hf c4
    refine mm_aload_n S dX3_closeAll_15 rfl (lv_at hl 0 rfl) ?_
    refine mm_geti S hR fdX3_68 (hK.k g3) rfl dX3_closeAll_16 ?_
    refine lv_if_ne (tgt := 30) S.1 S.2.1 dX3_closeAll_19 (by decide) (fun c5 => ?_) (fun c5 => ?_)
    · have hf := it_f hf c5
      refine mm_aload_n S dX3_closeAll_30 rfl (lv_at hl 1 rfl) ?_
      refine lv_iconst (v := (-1)) S.1 S.2.1 dX3_closeAll_31 (by decide) ?_
      obtain ⟨y6, hy6, hf⟩ := bd hf
      refine mm_callVv S hR hS hA (As := [.int (-1)]) (rest := []) cvX3_111 (hK.k hk0) (kX3_beginCall_c l G A (hK.k hk0) hy6) rfl rfl ⟨Nat.le_of_ble_eq_true rfl, Nat.le_of_ble_eq_true rfl⟩ rfl hl.1 rfl (lv_room (by simp [rf_cat, int_cat])) dX3_closeAll_32 ⟨Nat.le_refl _, Nat.le_refl _⟩ (fun H locs hR hS => ?_)
      have hK : mmKN μ y6 := hK.tr (kX3_beginCall_kn hy6)
      refine mm_aload_n S dX3_closeAll_35 rfl (lv_at hl 1 rfl) ?_
      refine mm_aload_n S dX3_closeAll_36 rfl (lv_at hl 0 rfl) ?_
      obtain ⟨y7, hy7, hf⟩ := bd hf
      refine mm_callVh S hR hS hA (As := [rf y1.1]) (rest := []) cvX3_107 (hK.k hk0) (kX3_inmostOf_c l G A (hK.k hk0) hy7) rfl rfl ⟨Nat.le_of_ble_eq_true rfl, Nat.le_of_ble_eq_true rfl⟩ rfl hl.1 rfl (lv_room (by simp [rf_cat, int_cat])) dX3_closeAll_37 ⟨Nat.le_refl _, Nat.le_refl _⟩ (fun H locs hR hS => ?_)
      have hK : mmKN μ y7.2 := hK.tr (kX3_inmostOf_kn hy7)
      refine mm_astore_n (i := 3) (lv' := [(3, rf y7.1), (2, rf y1.1), (0, rf h0), (1, .int x1)]) S dX3_closeAll_40 rfl hl (by decide) (by simp [rf_cat]) (fun ls hl => ?_)
      refine mm_aload_n S dX3_closeAll_41 rfl (lv_at hl 0 rfl) ?_
      refine lv_bipush (v := 10) S.1 S.2.1 dX3_closeAll_42 (by decide) ?_
      obtain ⟨g9, hf⟩ := gd hf
      obtain ⟨y8, hy8, hf⟩ := bd hf
      refine mm_callVv S hR hS hA (As := [.int 10]) (rest := []) cvX3_131 (hK.k g9) (kX2_leave_c l G A (hK.k g9) hy8) rfl rfl ⟨Nat.le_of_ble_eq_true rfl, Nat.le_of_ble_eq_true rfl⟩ rfl hl.1 rfl (lv_room (by simp [rf_cat, int_cat])) dX3_closeAll_44 ⟨Nat.le_refl _, Nat.le_refl _⟩ (fun H locs hR hS => ?_)
      have hK : mmKN μ y8 := hK.tr (kX2_leave_kn hy8)
      refine mm_aload_n S dX3_closeAll_47 rfl (lv_at hl 2 rfl) ?_
      refine mm_aload_n S dX3_closeAll_48 rfl (lv_at hl 0 rfl) ?_
      refine mm_aload_n S dX3_closeAll_49 rfl (lv_at hl 0 rfl) ?_
      obtain ⟨y10, hy10, hf⟩ := bd hf
      refine mm_callVv S hR hS hA (As := [rf y7.1, rf y7.1]) (rest := []) cvX3_123 (hK.k hk0) (kX3_goOn_c l G A (hK.k hk0) hy10) rfl rfl ⟨Nat.le_of_ble_eq_true rfl, Nat.le_of_ble_eq_true rfl⟩ rfl hl.1 rfl (lv_room (by simp [rf_cat, int_cat])) dX3_closeAll_50 ⟨Nat.le_refl _, Nat.le_refl _⟩ (fun H locs hR hS => ?_)
      have hK : mmKN μ y10 := hK.tr (kX3_goOn_kn hy10)
      refine mm_aload_n S dX3_closeAll_53 rfl (lv_at hl 2 rfl) ?_
      refine mm_aload_n S dX3_closeAll_54 rfl (lv_at hl 0 rfl) ?_
      obtain ⟨y11, hy11, hf⟩ := bd hf
      refine mm_callVi S hR hS hA (As := [rf y7.1]) (rest := []) cvX3_138 (hK.k hk0) (kX3_endClose_c l G A (hK.k hk0) hy11) rfl rfl ⟨Nat.le_of_ble_eq_true rfl, Nat.le_of_ble_eq_true rfl⟩ rfl hl.1 rfl (lv_room (by simp [rf_cat, int_cat])) dX3_closeAll_55 ⟨Nat.le_refl _, Nat.le_refl _⟩ (fun H locs hR hS => ?_)
      have hK : mmKN μ y11.2 := hK.tr (kX3_endClose_kn hy11)
      refine lv_istore (i := 4) (lv' := [(4, .int y11.1), (3, rf y7.1), (2, rf y1.1), (0, rf h0), (1, .int x1)]) S.1 S.2.1 dX3_closeAll_58 hl (by decide) (by simp [rf_cat]) (fun ls hl => ?_)
      refine lv_iconst (v := 0) S.1 S.2.1 dX3_closeAll_60 (by decide) ?_
      refine lv_istore (i := 5) (lv' := [(5, .int 0), (4, .int y11.1), (3, rf y7.1), (2, rf y1.1), (0, rf h0), (1, .int x1)]) S.1 S.2.1 dX3_closeAll_61 hl (by decide) rfl (fun ls hl => ?_)
      exact wlX3_closeAll_63 E0  FU h0 y1.1 y7.1 y11.1 0 y11.2 hf _ _ _ hR hS (lv_sub hl [4, 3, 2, 1, 0] rfl)
    · have hf := it_t hf c5
      refine mm_aload_n S dX3_closeAll_22 rfl (lv_at hl 0 rfl) ?_
      refine lv_iconst (v := 3) S.1 S.2.1 dX3_closeAll_23 (by decide) ?_
      refine lv_iconst (v := 0) S.1 S.2.1 dX3_closeAll_24 (by decide) ?_
      obtain ⟨y12, hy12, hf⟩ := bd hf
      refine mm_callVv S hR hS hA (As := [.int 3, .int 0]) (rest := []) cvX3_134 (hK.k g3) (kX2_end_c l G A (hK.k g3) hy12) rfl rfl ⟨Nat.le_of_ble_eq_true rfl, Nat.le_of_ble_eq_true rfl⟩ rfl hl.1 rfl (lv_room (by simp [rf_cat, int_cat])) dX3_closeAll_25 ⟨Nat.le_refl _, Nat.le_refl _⟩ (fun H locs hR hS => ?_)
      have hK : mmKN μ y12 := hK.tr (kX2_end_kn hy12)
      refine lv_iconst (v := 0) S.1 S.2.1 dX3_closeAll_28 (by decide) ?_
      obtain rfl := Option.some.inj hf
      exact mm_iret S hR hS hr hlocks dX3_closeAll_29
  · have hf := it_f hf c4
    refine lv_iconst (v := 0) S.1 S.2.1 dX3_closeAll_13 (by decide) ?_
    obtain rfl := Option.some.inj hf
    exact mm_iret S hR hS hr hlocks dX3_closeAll_14
-- X3_askToCancel
def bX3_askToCancel_56  (h0 : Nat) (x1 : Int32) (h2 : Nat) (x3 : Int32) (μ : MM) : Option (Int32 × MM) :=
  if mK μ h0 = 4 then if mK μ (mP μ h0 4) = 5 then (fX4_placeOf (mP μ h0 4) x1 μ).bind fun y2 => (fX4_removeAt (mP μ h0 4) y2.1 y2.2).bind fun y4 => if mK μ h2 = 3 then st (sI y4 h2 12 (-1)) fun μ6 => st (sI μ6 h2 13 (-1)) fun μ7 => if mK μ (mP μ7 h0 3) = 5 then (fX4_add (mP μ7 h0 3) x1 μ7).bind fun y8 => if x3 = 0 ∨ x3 = 1 then some (x3, y8) else none else none else none else none else none
def fX3_askToCancel (h0 : Nat) (x1 : Int32) (μ : MM) : Option (Int32 × MM) :=
  (fX3_at h0 x1 μ).bind fun y1 => if mK μ y1.1 = 3 then (fX2_isOver y1.1 y1.2).bind fun y2 => if y2.1 = 0 then (if (mI y2.2 y1.1 15) = 0 then (st (sI y2.2 y1.1 15 1) fun μ10 => if (mI μ10 y1.1 14) = 0 then (if (mI μ10 y1.1 12) = ((-1) : Int32) then (if (mI μ10 y1.1 13) = ((-1) : Int32) then (some (1, μ10)) else (bX3_askToCancel_56  h0 x1 y1.1 1 μ10)) else (bX3_askToCancel_56  h0 x1 y1.1 1 μ10)) else (some (1, μ10))) else (st (sI y2.2 y1.1 15 1) fun μ6 => if (mI μ6 y1.1 14) = 0 then (if (mI μ6 y1.1 12) = ((-1) : Int32) then (if (mI μ6 y1.1 13) = ((-1) : Int32) then (some (0, μ6)) else (bX3_askToCancel_56  h0 x1 y1.1 0 μ6)) else (bX3_askToCancel_56  h0 x1 y1.1 0 μ6)) else (some (0, μ6)))) else (some (0, y2.2)) else none
set_option maxRecDepth 100000 in
set_option maxHeartbeats 4000000 in
theorem knbX3_askToCancel_56  : ∀ (h0 : Nat) (x1 : Int32) (h2 : Nat) (x3 : Int32) (μ : MM) (res : Int32 × MM), bX3_askToCancel_56  h0 x1 h2 x3 μ = some res → mmKN μ res.2 := by
  intro h0 x1 h2 x3 μ res hf
  have hK : mmKN μ μ := mmKN.rf
  unfold bX3_askToCancel_56 at hf
  obtain ⟨g1, hf⟩ := gd hf
  obtain ⟨g3, hf⟩ := gd hf
  obtain ⟨y2, hy2, hf⟩ := bd hf
  have hK : mmKN μ y2.2 := hK.tr (kX4_placeOf_kn hy2)
  obtain ⟨y4, hy4, hf⟩ := bd hf
  have hK : mmKN μ y4 := hK.tr (kX4_removeAt_kn hy4)
  obtain ⟨g5, hf⟩ := gd hf
  obtain ⟨μ6, e6, hf⟩ := stx hf
  have hK : mmKN μ μ6 := by rw [e6]; exact hK.sI
  obtain ⟨μ7, e7, hf⟩ := stx hf
  have hK : mmKN μ μ7 := by rw [e7]; exact hK.sI
  obtain ⟨g9, hf⟩ := gd hf
  obtain ⟨y8, hy8, hf⟩ := bd hf
  have hK : mmKN μ y8 := hK.tr (kX4_add_kn hy8)
  obtain ⟨g10, hf⟩ := gd hf
  obtain rfl := Option.some.inj hf
  exact hK
set_option maxRecDepth 100000 in
set_option maxHeartbeats 4000000 in
theorem kX3_askToCancel_kn {μ : MM} {res : Int32 × MM} {h0 : Nat} {x1 : Int32} (hf : fX3_askToCancel h0 x1 μ = some res) : mmKN μ res.2 := by
  have hK : mmKN μ μ := mmKN.rf
  unfold fX3_askToCancel at hf
  obtain ⟨y1, hy1, hf⟩ := bd hf
  have hK : mmKN μ y1.2 := hK.tr (kX3_at_kn hy1)
  obtain ⟨g3, hf⟩ := gd hf
  obtain ⟨y2, hy2, hf⟩ := bd hf
  have hK : mmKN μ y2.2 := hK.tr (kX2_isOver_kn hy2)
  rcases it_or hf with ⟨c4, hf⟩ | ⟨c4, hf⟩
  · skip
    rcases it_or hf with ⟨c5, hf⟩ | ⟨c5, hf⟩
    · skip
      obtain ⟨μ10, e10, hf⟩ := stx hf
      have hK : mmKN μ μ10 := by rw [e10]; exact hK.sI
      rcases it_or hf with ⟨c11, hf⟩ | ⟨c11, hf⟩
      · skip
        rcases it_or hf with ⟨c12, hf⟩ | ⟨c12, hf⟩
        · skip
          rcases it_or hf with ⟨c13, hf⟩ | ⟨c13, hf⟩
          · skip
            obtain rfl := Option.some.inj hf
            exact hK
          · skip
            exact hK.tr (knbX3_askToCancel_56  h0 x1 y1.1 1 μ10 _ hf)
        · skip
          exact hK.tr (knbX3_askToCancel_56  h0 x1 y1.1 1 μ10 _ hf)
      · skip
        obtain rfl := Option.some.inj hf
        exact hK
    · skip
      obtain ⟨μ6, e6, hf⟩ := stx hf
      have hK : mmKN μ μ6 := by rw [e6]; exact hK.sI
      rcases it_or hf with ⟨c7, hf⟩ | ⟨c7, hf⟩
      · skip
        rcases it_or hf with ⟨c8, hf⟩ | ⟨c8, hf⟩
        · skip
          rcases it_or hf with ⟨c9, hf⟩ | ⟨c9, hf⟩
          · skip
            obtain rfl := Option.some.inj hf
            exact hK
          · skip
            exact hK.tr (knbX3_askToCancel_56  h0 x1 y1.1 0 μ6 _ hf)
        · skip
          exact hK.tr (knbX3_askToCancel_56  h0 x1 y1.1 0 μ6 _ hf)
      · skip
        obtain rfl := Option.some.inj hf
        exact hK
  · skip
    obtain rfl := Option.some.inj hf
    exact hK
abbrev rmX3_askToCancel : Room := { frames := 2, cells := 0, slots := 0, locals := 43 }
set_option maxRecDepth 100000 in
set_option maxHeartbeats 4000000 in
theorem wbX3_askToCancel_56 {p : Program} {l : Launch} {e : Env} {s : State} {m : MethodId} {args : Array Value} {below : List Frame} {meth : Method} {c : Code} {G : mmG} {A : Nat → Prop} {res : Int32 × MM} (E0 : mmEnv p m c cX3_askToCancel 4 s args RX3 G A meth (some (.boolean)))  : ∀ (h0 : Nat) (x1 : Int32) (h2 : Nat) (x3 : Int32) (μ : MM), bX3_askToCancel_56  h0 x1 h2 x3 μ = some res → mmGoal p l e rmX3_askToCancel s m args below meth c G A 56 4 [(0, rf h0), (1, .int x1), (2, rf h2), (3, .int x3)] μ (mmQ G A res.2 (some (.int res.1))) := by
  obtain ⟨S, hA, hr, hlocks⟩ := id E0
  intro h0 x1 h2 x3 μ hf H locs ls hR hS hl
  have hK : mmKN μ μ := mmKN.rf
  unfold bX3_askToCancel_56 at hf
  refine mm_aload_n S dX3_askToCancel_56 rfl (lv_at hl 0 rfl) ?_
  obtain ⟨g1, hf⟩ := gd hf
  refine mm_getp S hR fdX3_31 (hK.k g1) rfl dX3_askToCancel_57 ?_
  refine mm_aload_n S dX3_askToCancel_60 rfl (lv_at hl 0 rfl) ?_
  refine mm_getp S hR fdX3_31 (hK.k g1) rfl dX3_askToCancel_61 ?_
  refine lv_iload_n S.1 S.2.1 dX3_askToCancel_64 rfl (lv_at hl 1 rfl) ?_
  obtain ⟨g3, hf⟩ := gd hf
  obtain ⟨y2, hy2, hf⟩ := bd hf
  refine mm_callVi S hR hS hA (As := [.int x1]) (rest := [rf (mP μ h0 4)]) cvX3_199 (hK.k g3) (kX4_placeOf_c l G A (hK.k g3) hy2) rfl rfl ⟨Nat.le_of_ble_eq_true rfl, Nat.le_of_ble_eq_true rfl⟩ rfl hl.1 rfl (lv_room (by simp [rf_cat, int_cat])) dX3_askToCancel_65 ⟨Nat.le_refl _, Nat.le_refl _⟩ (fun H locs hR hS => ?_)
  have hK : mmKN μ y2.2 := hK.tr (kX4_placeOf_kn hy2)
  obtain ⟨y4, hy4, hf⟩ := bd hf
  refine mm_callVv S hR hS hA (As := [.int y2.1]) (rest := []) cvX3_147 (hK.k g3) (kX4_removeAt_c l G A (hK.k g3) hy4) rfl rfl ⟨Nat.le_of_ble_eq_true rfl, Nat.le_of_ble_eq_true rfl⟩ rfl hl.1 rfl (lv_room (by simp [rf_cat, int_cat])) dX3_askToCancel_68 ⟨Nat.le_refl _, Nat.le_refl _⟩ (fun H locs hR hS => ?_)
  have hK : mmKN μ y4 := hK.tr (kX4_removeAt_kn hy4)
  refine mm_aload_n S dX3_askToCancel_71 rfl (lv_at hl 2 rfl) ?_
  refine lv_iconst (v := (-1)) S.1 S.2.1 dX3_askToCancel_72 (by decide) ?_
  obtain ⟨g5, hf⟩ := gd hf
  refine mm_puti S hR hS fpX3_196 (hK.k g5) rfl rfl rfl dX3_askToCancel_73 (fun H locs hR hS => ?_)
  obtain ⟨μ6, e6, hf⟩ := stx hf
  rw [← e6] at hR
  have hK : mmKN μ μ6 := by rw [e6]; exact hK.sI
  refine mm_aload_n S dX3_askToCancel_76 rfl (lv_at hl 2 rfl) ?_
  refine lv_iconst (v := (-1)) S.1 S.2.1 dX3_askToCancel_77 (by decide) ?_
  refine mm_puti S hR hS fpX3_82 (hK.k g5) rfl rfl rfl dX3_askToCancel_78 (fun H locs hR hS => ?_)
  obtain ⟨μ7, e7, hf⟩ := stx hf
  rw [← e7] at hR
  have hK : mmKN μ μ7 := by rw [e7]; exact hK.sI
  refine mm_aload_n S dX3_askToCancel_81 rfl (lv_at hl 0 rfl) ?_
  refine mm_getp S hR fdX3_27 (hK.k g1) rfl dX3_askToCancel_82 ?_
  refine lv_iload_n S.1 S.2.1 dX3_askToCancel_85 rfl (lv_at hl 1 rfl) ?_
  obtain ⟨g9, hf⟩ := gd hf
  obtain ⟨y8, hy8, hf⟩ := bd hf
  refine mm_callVv S hR hS hA (As := [.int x1]) (rest := []) cvX3_104 (hK.k g9) (kX4_add_c l G A (hK.k g9) hy8) rfl rfl ⟨Nat.le_of_ble_eq_true rfl, Nat.le_of_ble_eq_true rfl⟩ rfl hl.1 rfl (lv_room (by simp [rf_cat, int_cat])) dX3_askToCancel_86 ⟨Nat.le_refl _, Nat.le_refl _⟩ (fun H locs hR hS => ?_)
  have hK : mmKN μ y8 := hK.tr (kX4_add_kn hy8)
  refine lv_iload_n S.1 S.2.1 dX3_askToCancel_89 rfl (lv_at hl 3 rfl) ?_
  obtain ⟨g10, hf⟩ := gd hf
  obtain rfl := Option.some.inj hf
  exact mm_zret S hR hS hr hlocks g10 dX3_askToCancel_90
set_option maxRecDepth 100000 in
set_option maxHeartbeats 4000000 in
theorem kX3_askToCancel_c (l : Launch) (G : mmG) (A : Nat → Prop) {μ : MM} {res : Int32 × MM} {h0 : Nat} {x1 : Int32} (hk0 : mK μ h0 = 4) (hf : fX3_askToCancel h0 x1 μ = some res) : Met l yX3_askToCancel [.code yX3_askToCancel cX3_askToCancel 4 (some (.boolean))] rmX3_askToCancel (mmPc G A μ [rf h0, .int x1]) (mmQ G A res.2 (some (.int res.1))) 0 0 A := by
  refine mm_ofW (by decide +kernel) (by simp [lg_sl, rf_cat, int_cat]) ?_
  intro p e s m below meth c ls S hR hA hS hr hlocks hl hnm
  have hl : lv_has ls 4 [(0, rf h0), (1, .int x1)] := by simpa [lv_args, rf_cat, int_cat] using hl
  have E0 : mmEnv p m c cX3_askToCancel 4 s _ RX3 G A meth (some (.boolean)) := ⟨S, hA, hr, hlocks⟩
  have hK : mmKN μ μ := mmKN.rf
  unfold fX3_askToCancel at hf
  refine mm_aload_n S dX3_askToCancel_0 rfl (lv_at hl 0 rfl) ?_
  refine lv_iload_n S.1 S.2.1 dX3_askToCancel_1 rfl (lv_at hl 1 rfl) ?_
  obtain ⟨y1, hy1, hf⟩ := bd hf
  refine mm_callVh S hR hS hA (As := [.int x1]) (rest := []) cvX3_55 (hK.k hk0) (kX3_at_c l G A (hK.k hk0) hy1) rfl rfl ⟨Nat.le_of_ble_eq_true rfl, Nat.le_of_ble_eq_true rfl⟩ rfl hl.1 rfl (lv_room (by simp [rf_cat, int_cat])) dX3_askToCancel_2 ⟨Nat.le_refl _, Nat.le_refl _⟩ (fun H locs hR hS => ?_)
  have hK : mmKN μ y1.2 := hK.tr (kX3_at_kn hy1)
  refine mm_astore_n (i := 2) (lv' := [(2, rf y1.1), (0, rf h0), (1, .int x1)]) S dX3_askToCancel_5 rfl hl (by decide) rfl (fun ls hl => ?_)
  refine mm_aload_n S dX3_askToCancel_6 rfl (lv_at hl 0 rfl) ?_
  obtain ⟨g3, hf⟩ := gd hf
  obtain ⟨y2, hy2, hf⟩ := bd hf
  refine mm_callVi S hR hS hA (As := []) (rest := []) cvX3_71 (hK.k g3) (kX2_isOver_c l G A (hK.k g3) hy2) rfl rfl ⟨Nat.le_of_ble_eq_true rfl, Nat.le_of_ble_eq_true rfl⟩ rfl hl.1 rfl (lv_room (by simp [rf_cat, int_cat])) dX3_askToCancel_7 ⟨Nat.le_refl _, Nat.le_refl _⟩ (fun H locs hR hS => ?_)
  have hK : mmKN μ y2.2 := hK.tr (kX2_isOver_kn hy2)
  refine lv_if_eq (tgt := 15) S.1 S.2.1 dX3_askToCancel_10 (by decide) (fun c4 => ?_) (fun c4 => ?_)
  · have hf := it_t hf c4
    refine mm_aload_n S dX3_askToCancel_15 rfl (lv_at hl 0 rfl) ?_
    refine mm_geti S hR fdX3_189 (hK.k g3) rfl dX3_askToCancel_16 ?_
    refine lv_if_ne (tgt := 26) S.1 S.2.1 dX3_askToCancel_19 (by decide) (fun c5 => ?_) (fun c5 => ?_)
    · have hf := it_f hf c5
      refine lv_iconst (v := 0) S.1 S.2.1 dX3_askToCancel_26 (by decide) ?_
      refine lv_istore_n (i := 3) (lv' := [(3, .int 0), (2, rf y1.1), (0, rf h0), (1, .int x1)]) S.1 S.2.1 dX3_askToCancel_27 rfl hl (by decide) (by simp [rf_cat]) (fun ls hl => ?_)
      refine mm_aload_n S dX3_askToCancel_28 rfl (lv_at hl 1 rfl) ?_
      refine lv_iconst (v := 1) S.1 S.2.1 dX3_askToCancel_29 (by decide) ?_
      refine mm_puti S hR hS fpX3_189 (hK.k g3) rfl rfl rfl dX3_askToCancel_30 (fun H locs hR hS => ?_)
      obtain ⟨μ6, e6, hf⟩ := stx hf
      rw [← e6] at hR
      have hK : mmKN μ μ6 := by rw [e6]; exact hK.sI
      refine mm_aload_n S dX3_askToCancel_33 rfl (lv_at hl 1 rfl) ?_
      refine mm_geti S hR fdX3_193 (hK.k g3) rfl dX3_askToCancel_34 ?_
      refine lv_if_ne (tgt := 89) S.1 S.2.1 dX3_askToCancel_37 (by decide) (fun c7 => ?_) (fun c7 => ?_)
      · have hf := it_f hf c7
        refine lv_iload_n S.1 S.2.1 dX3_askToCancel_89 rfl (lv_at hl 0 rfl) ?_
        obtain rfl := Option.some.inj hf
        exact mm_zret S hR hS hr hlocks (Or.inl rfl) dX3_askToCancel_90
      · have hf := it_t hf c7
        refine mm_aload_n S dX3_askToCancel_40 rfl (lv_at hl 1 rfl) ?_
        refine mm_geti S hR fdX3_196 (hK.k g3) rfl dX3_askToCancel_41 ?_
        refine lv_iconst (v := (-1)) S.1 S.2.1 dX3_askToCancel_44 (by decide) ?_
        refine lv_icmp_ne (tgt := 56) S.1 S.2.1 dX3_askToCancel_45 (by decide) (fun c8 => ?_) (fun c8 => ?_)
        · have hf := it_f hf c8
          exact wbX3_askToCancel_56 E0  h0 x1 y1.1 0 μ6 hf _ _ _ hR hS (lv_sub hl [2, 3, 1, 0] rfl)
        · have hf := it_t hf c8
          refine mm_aload_n S dX3_askToCancel_48 rfl (lv_at hl 1 rfl) ?_
          refine mm_geti S hR fdX3_82 (hK.k g3) rfl dX3_askToCancel_49 ?_
          refine lv_iconst (v := (-1)) S.1 S.2.1 dX3_askToCancel_52 (by decide) ?_
          refine lv_icmp_eq (tgt := 89) S.1 S.2.1 dX3_askToCancel_53 (by decide) (fun c9 => ?_) (fun c9 => ?_)
          · have hf := it_t hf c9
            refine lv_iload_n S.1 S.2.1 dX3_askToCancel_89 rfl (lv_at hl 0 rfl) ?_
            obtain rfl := Option.some.inj hf
            exact mm_zret S hR hS hr hlocks (Or.inl rfl) dX3_askToCancel_90
          · have hf := it_f hf c9
            exact wbX3_askToCancel_56 E0  h0 x1 y1.1 0 μ6 hf _ _ _ hR hS (lv_sub hl [2, 3, 1, 0] rfl)
    · have hf := it_t hf c5
      refine lv_iconst (v := 1) S.1 S.2.1 dX3_askToCancel_22 (by decide) ?_
      refine lv_goto (tgt := 27) S.1 S.2.1 dX3_askToCancel_23 (by decide) ?_
      refine lv_istore_n (i := 3) (lv' := [(3, .int 1), (2, rf y1.1), (0, rf h0), (1, .int x1)]) S.1 S.2.1 dX3_askToCancel_27 rfl hl (by decide) (by simp [rf_cat]) (fun ls hl => ?_)
      refine mm_aload_n S dX3_askToCancel_28 rfl (lv_at hl 1 rfl) ?_
      refine lv_iconst (v := 1) S.1 S.2.1 dX3_askToCancel_29 (by decide) ?_
      refine mm_puti S hR hS fpX3_189 (hK.k g3) rfl rfl rfl dX3_askToCancel_30 (fun H locs hR hS => ?_)
      obtain ⟨μ10, e10, hf⟩ := stx hf
      rw [← e10] at hR
      have hK : mmKN μ μ10 := by rw [e10]; exact hK.sI
      refine mm_aload_n S dX3_askToCancel_33 rfl (lv_at hl 1 rfl) ?_
      refine mm_geti S hR fdX3_193 (hK.k g3) rfl dX3_askToCancel_34 ?_
      refine lv_if_ne (tgt := 89) S.1 S.2.1 dX3_askToCancel_37 (by decide) (fun c11 => ?_) (fun c11 => ?_)
      · have hf := it_f hf c11
        refine lv_iload_n S.1 S.2.1 dX3_askToCancel_89 rfl (lv_at hl 0 rfl) ?_
        obtain rfl := Option.some.inj hf
        exact mm_zret S hR hS hr hlocks (Or.inr rfl) dX3_askToCancel_90
      · have hf := it_t hf c11
        refine mm_aload_n S dX3_askToCancel_40 rfl (lv_at hl 1 rfl) ?_
        refine mm_geti S hR fdX3_196 (hK.k g3) rfl dX3_askToCancel_41 ?_
        refine lv_iconst (v := (-1)) S.1 S.2.1 dX3_askToCancel_44 (by decide) ?_
        refine lv_icmp_ne (tgt := 56) S.1 S.2.1 dX3_askToCancel_45 (by decide) (fun c12 => ?_) (fun c12 => ?_)
        · have hf := it_f hf c12
          exact wbX3_askToCancel_56 E0  h0 x1 y1.1 1 μ10 hf _ _ _ hR hS (lv_sub hl [2, 3, 1, 0] rfl)
        · have hf := it_t hf c12
          refine mm_aload_n S dX3_askToCancel_48 rfl (lv_at hl 1 rfl) ?_
          refine mm_geti S hR fdX3_82 (hK.k g3) rfl dX3_askToCancel_49 ?_
          refine lv_iconst (v := (-1)) S.1 S.2.1 dX3_askToCancel_52 (by decide) ?_
          refine lv_icmp_eq (tgt := 89) S.1 S.2.1 dX3_askToCancel_53 (by decide) (fun c13 => ?_) (fun c13 => ?_)
          · have hf := it_t hf c13
            refine lv_iload_n S.1 S.2.1 dX3_askToCancel_89 rfl (lv_at hl 0 rfl) ?_
            obtain rfl := Option.some.inj hf
            exact mm_zret S hR hS hr hlocks (Or.inr rfl) dX3_askToCancel_90
          · have hf := it_f hf c13
            exact wbX3_askToCancel_56 E0  h0 x1 y1.1 1 μ10 hf _ _ _ hR hS (lv_sub hl [2, 3, 1, 0] rfl)
  · have hf := it_f hf c4
    refine lv_iconst (v := 0) S.1 S.2.1 dX3_askToCancel_13 (by decide) ?_
    obtain rfl := Option.some.inj hf
    exact mm_zret S hR hS hr hlocks (Or.inl rfl) dX3_askToCancel_14
-- X3_wake
def fX3_wake (h0 : Nat) (h1 : Nat) (μ : MM) : Option (Int32 × MM) :=
  if mK μ h1 = 3 then if mK μ (mP μ h0 0) = 1 then (fX0_at (mP μ h0 0) (mI μ h1 3) μ).bind fun y2 => if mK μ y2.1 = 2 then (fX1_kindAt y2.1 (mI y2.2 h1 6) y2.2).bind fun y4 => if y4.1 = (13 : Int32) then ((fX3_at h0 (mI y4.2 h1 7) y4.2).bind fun y9 => (fX3_takeOutcome h0 h1 y9.1 y9.2).bind fun y10 => some (y10.1, y10.2)) else (st (sI y4.2 h1 7 0) fun μ7 => (fX2_goOnAt h1 ((mI μ7 h1 6) + 1) μ7).bind fun y8 => some (0, y8)) else none else none else none
set_option maxRecDepth 100000 in
set_option maxHeartbeats 4000000 in
theorem kX3_wake_kn {μ : MM} {res : Int32 × MM} {h0 : Nat} {h1 : Nat} (hf : fX3_wake h0 h1 μ = some res) : mmKN μ res.2 := by
  have hK : mmKN μ μ := mmKN.rf
  unfold fX3_wake at hf
  obtain ⟨g1, hf⟩ := gd hf
  obtain ⟨g3, hf⟩ := gd hf
  obtain ⟨y2, hy2, hf⟩ := bd hf
  have hK : mmKN μ y2.2 := hK.tr (kX0_at_kn hy2)
  obtain ⟨g5, hf⟩ := gd hf
  obtain ⟨y4, hy4, hf⟩ := bd hf
  have hK : mmKN μ y4.2 := hK.tr (kX1_kindAt_kn hy4)
  rcases it_or hf with ⟨c6, hf⟩ | ⟨c6, hf⟩
  · skip
    obtain ⟨y9, hy9, hf⟩ := bd hf
    have hK : mmKN μ y9.2 := hK.tr (kX3_at_kn hy9)
    obtain ⟨y10, hy10, hf⟩ := bd hf
    have hK : mmKN μ y10.2 := hK.tr (kX3_takeOutcome_kn hy10)
    obtain rfl := Option.some.inj hf
    exact hK
  · skip
    obtain ⟨μ7, e7, hf⟩ := stx hf
    have hK : mmKN μ μ7 := by rw [e7]; exact hK.sI
    obtain ⟨y8, hy8, hf⟩ := bd hf
    have hK : mmKN μ y8 := hK.tr (kX2_goOnAt_kn hy8)
    obtain rfl := Option.some.inj hf
    exact hK
abbrev rmX3_wake : Room := { frames := 2, cells := 0, slots := 0, locals := 43 }
set_option maxRecDepth 100000 in
set_option maxHeartbeats 4000000 in
theorem kX3_wake_c (l : Launch) (G : mmG) (A : Nat → Prop) {μ : MM} {res : Int32 × MM} {h0 : Nat} {h1 : Nat} (hk0 : mK μ h0 = 4) (hf : fX3_wake h0 h1 μ = some res) : Met l yX3_wake [.code yX3_wake cX3_wake 2 (some (.int))] rmX3_wake (mmPc G A μ [rf h0, rf h1]) (mmQ G A res.2 (some (.int res.1))) 0 0 A := by
  refine mm_ofW (by decide +kernel) (by simp [lg_sl, rf_cat, int_cat]) ?_
  intro p e s m below meth c ls S hR hA hS hr hlocks hl hnm
  have hl : lv_has ls 2 [(0, rf h0), (1, rf h1)] := by simpa [lv_args, rf_cat, int_cat] using hl
  have E0 : mmEnv p m c cX3_wake 2 s _ RX3 G A meth (some (.int)) := ⟨S, hA, hr, hlocks⟩
  have hK : mmKN μ μ := mmKN.rf
  unfold fX3_wake at hf
  refine mm_aload_n S dX3_wake_0 rfl (lv_at hl 0 rfl) ?_
  refine mm_getp S hR fdX3_34 (hK.k hk0) rfl dX3_wake_1 ?_
  refine mm_aload_n S dX3_wake_4 rfl (lv_at hl 1 rfl) ?_
  obtain ⟨g1, hf⟩ := gd hf
  refine mm_geti S hR fdX3_65 (hK.k g1) rfl dX3_wake_5 ?_
  obtain ⟨g3, hf⟩ := gd hf
  obtain ⟨y2, hy2, hf⟩ := bd hf
  refine mm_callVh S hR hS hA (As := [.int (mI μ h1 3)]) (rest := []) cvX3_162 (hK.k g3) (kX0_at_c l G A (hK.k g3) hy2) rfl rfl ⟨Nat.le_of_ble_eq_true rfl, Nat.le_of_ble_eq_true rfl⟩ rfl hl.1 rfl (lv_room (by simp [rf_cat, int_cat])) dX3_wake_8 ⟨Nat.le_refl _, Nat.le_refl _⟩ (fun H locs hR hS => ?_)
  have hK : mmKN μ y2.2 := hK.tr (kX0_at_kn hy2)
  refine mm_aload_n S dX3_wake_11 rfl (lv_at hl 1 rfl) ?_
  refine mm_geti S hR fdX3_120 (hK.k g1) rfl dX3_wake_12 ?_
  obtain ⟨g5, hf⟩ := gd hf
  obtain ⟨y4, hy4, hf⟩ := bd hf
  refine mm_callVi S hR hS hA (As := [.int (mI y2.2 h1 6)]) (rest := []) cvX3_165 (hK.k g5) (kX1_kindAt_c l G A (hK.k g5) hy4) rfl rfl ⟨Nat.le_of_ble_eq_true rfl, Nat.le_of_ble_eq_true rfl⟩ rfl hl.1 rfl (lv_room (by simp [rf_cat, int_cat])) dX3_wake_15 ⟨Nat.le_refl _, Nat.le_refl _⟩ (fun H locs hR hS => ?_)
  have hK : mmKN μ y4.2 := hK.tr (kX1_kindAt_kn hy4)
  refine lv_bipush (v := 13) S.1 S.2.1 dX3_wake_18 (by decide) ?_
  refine lv_icmp_ne (tgt := 37) S.1 S.2.1 dX3_wake_20 (by decide) (fun c6 => ?_) (fun c6 => ?_)
  · have hf := it_f hf c6
    refine mm_aload_n S dX3_wake_37 rfl (lv_at hl 1 rfl) ?_
    refine lv_iconst (v := 0) S.1 S.2.1 dX3_wake_38 (by decide) ?_
    refine mm_puti S hR hS fpX3_117 (hK.k g1) rfl rfl rfl dX3_wake_39 (fun H locs hR hS => ?_)
    obtain ⟨μ7, e7, hf⟩ := stx hf
    rw [← e7] at hR
    have hK : mmKN μ μ7 := by rw [e7]; exact hK.sI
    refine mm_aload_n S dX3_wake_42 rfl (lv_at hl 1 rfl) ?_
    refine mm_aload_n S dX3_wake_43 rfl (lv_at hl 1 rfl) ?_
    refine mm_geti S hR fdX3_120 (hK.k g1) rfl dX3_wake_44 ?_
    refine lv_iconst (v := 1) S.1 S.2.1 dX3_wake_47 (by decide) ?_
    refine lv_iadd S.1 S.2.1 dX3_wake_48 ?_
    obtain ⟨y8, hy8, hf⟩ := bd hf
    refine mm_callVv S hR hS hA (As := [.int ((mI μ7 h1 6) + 1)]) (rest := []) cvX3_114 (hK.k g1) (kX2_goOnAt_c l G A (hK.k g1) hy8) rfl rfl ⟨Nat.le_of_ble_eq_true rfl, Nat.le_of_ble_eq_true rfl⟩ rfl hl.1 rfl (lv_room (by simp [rf_cat, int_cat])) dX3_wake_49 ⟨Nat.le_refl _, Nat.le_refl _⟩ (fun H locs hR hS => ?_)
    have hK : mmKN μ y8 := hK.tr (kX2_goOnAt_kn hy8)
    refine lv_iconst (v := 0) S.1 S.2.1 dX3_wake_52 (by decide) ?_
    obtain rfl := Option.some.inj hf
    exact mm_iret S hR hS hr hlocks dX3_wake_53
  · have hf := it_t hf c6
    refine mm_aload_n S dX3_wake_23 rfl (lv_at hl 0 rfl) ?_
    refine mm_aload_n S dX3_wake_24 rfl (lv_at hl 1 rfl) ?_
    refine mm_aload_n S dX3_wake_25 rfl (lv_at hl 0 rfl) ?_
    refine mm_aload_n S dX3_wake_26 rfl (lv_at hl 1 rfl) ?_
    refine mm_geti S hR fdX3_117 (hK.k g1) rfl dX3_wake_27 ?_
    obtain ⟨y9, hy9, hf⟩ := bd hf
    refine mm_callVh S hR hS hA (As := [.int (mI y4.2 h1 7)]) (rest := [rf h1, rf h0]) cvX3_55 (hK.k hk0) (kX3_at_c l G A (hK.k hk0) hy9) rfl rfl ⟨Nat.le_of_ble_eq_true rfl, Nat.le_of_ble_eq_true rfl⟩ rfl hl.1 rfl (lv_room (by simp [rf_cat, int_cat])) dX3_wake_30 ⟨Nat.le_refl _, Nat.le_refl _⟩ (fun H locs hR hS => ?_)
    have hK : mmKN μ y9.2 := hK.tr (kX3_at_kn hy9)
    obtain ⟨y10, hy10, hf⟩ := bd hf
    refine mm_callVi S hR hS hA (As := [rf h1, rf y9.1]) (rest := []) cvX3_170 (hK.k hk0) (kX3_takeOutcome_c l G A (hK.k hk0) hy10) rfl rfl ⟨Nat.le_of_ble_eq_true rfl, Nat.le_of_ble_eq_true rfl⟩ rfl hl.1 rfl (lv_room (by simp [rf_cat, int_cat])) dX3_wake_33 ⟨Nat.le_refl _, Nat.le_refl _⟩ (fun H locs hR hS => ?_)
    have hK : mmKN μ y10.2 := hK.tr (kX3_takeOutcome_kn hy10)
    obtain rfl := Option.some.inj hf
    exact mm_iret S hR hS hr hlocks dX3_wake_36
-- X3_beginTurn
def fX3_beginTurn (h0 : Nat) (h1 : Nat) (μ : MM) : Option (MM) :=
  if mK μ h1 = 3 then if (mI μ h1 5) = 0 then ((fX2_goOnAt h1 0 μ).bind fun y10 => some y10) else ((fX3_takesCancel h0 μ).bind fun y3 => if y3.1 = 0 then ((fX3_wake h0 h1 y3.2).bind fun y5 => if y5.1 = 0 then (some y5.2) else ((fX2_leave h1 y5.1 y5.2).bind fun y7 => some y7)) else (if (9 : Int32) = 0 then (some y3.2) else ((fX2_leave h1 9 y3.2).bind fun y9 => some y9))) else none
set_option maxRecDepth 100000 in
set_option maxHeartbeats 4000000 in
theorem kX3_beginTurn_kn {μ : MM} {res : MM} {h0 : Nat} {h1 : Nat} (hf : fX3_beginTurn h0 h1 μ = some res) : mmKN μ res := by
  have hK : mmKN μ μ := mmKN.rf
  unfold fX3_beginTurn at hf
  obtain ⟨g1, hf⟩ := gd hf
  rcases it_or hf with ⟨c2, hf⟩ | ⟨c2, hf⟩
  · skip
    obtain ⟨y10, hy10, hf⟩ := bd hf
    have hK : mmKN μ y10 := hK.tr (kX2_goOnAt_kn hy10)
    obtain rfl := Option.some.inj hf
    exact hK
  · skip
    obtain ⟨y3, hy3, hf⟩ := bd hf
    have hK : mmKN μ y3.2 := hK.tr (kX3_takesCancel_kn hy3)
    rcases it_or hf with ⟨c4, hf⟩ | ⟨c4, hf⟩
    · skip
      obtain ⟨y5, hy5, hf⟩ := bd hf
      have hK : mmKN μ y5.2 := hK.tr (kX3_wake_kn hy5)
      rcases it_or hf with ⟨c6, hf⟩ | ⟨c6, hf⟩
      · skip
        obtain rfl := Option.some.inj hf
        exact hK
      · skip
        obtain ⟨y7, hy7, hf⟩ := bd hf
        have hK : mmKN μ y7 := hK.tr (kX2_leave_kn hy7)
        obtain rfl := Option.some.inj hf
        exact hK
    · skip
      rcases it_or hf with ⟨c8, hf⟩ | ⟨c8, hf⟩
      · skip
        obtain rfl := Option.some.inj hf
        exact hK
      · skip
        obtain ⟨y9, hy9, hf⟩ := bd hf
        have hK : mmKN μ y9 := hK.tr (kX2_leave_kn hy9)
        obtain rfl := Option.some.inj hf
        exact hK
abbrev rmX3_beginTurn : Room := { frames := 3, cells := 0, slots := 0, locals := 64 }
set_option maxRecDepth 100000 in
set_option maxHeartbeats 4000000 in
theorem kX3_beginTurn_c (l : Launch) (G : mmG) (A : Nat → Prop) {μ : MM} {res : MM} {h0 : Nat} {h1 : Nat} (hk0 : mK μ h0 = 4) (hf : fX3_beginTurn h0 h1 μ = some res) : Met l yX3_beginTurn [.code yX3_beginTurn cX3_beginTurn 3 none] rmX3_beginTurn (mmPc G A μ [rf h0, rf h1]) (mmQ G A res none) 0 0 A := by
  refine mm_ofW (by decide +kernel) (by simp [lg_sl, rf_cat, int_cat]) ?_
  intro p e s m below meth c ls S hR hA hS hr hlocks hl hnm
  have hl : lv_has ls 3 [(0, rf h0), (1, rf h1)] := by simpa [lv_args, rf_cat, int_cat] using hl
  have E0 : mmEnv p m c cX3_beginTurn 3 s _ RX3 G A meth none := ⟨S, hA, hr, hlocks⟩
  have hK : mmKN μ μ := mmKN.rf
  unfold fX3_beginTurn at hf
  refine mm_aload_n S dX3_beginTurn_0 rfl (lv_at hl 1 rfl) ?_
  obtain ⟨g1, hf⟩ := gd hf
  refine mm_geti S hR fdX3_68 (hK.k g1) rfl dX3_beginTurn_1 ?_
  refine lv_if_ne (tgt := 13) S.1 S.2.1 dX3_beginTurn_4 (by decide) (fun c2 => ?_) (fun c2 => ?_)
  · have hf := it_f hf c2
    refine mm_aload_n S dX3_beginTurn_13 rfl (lv_at hl 0 rfl) ?_
    obtain ⟨y3, hy3, hf⟩ := bd hf
    refine mm_callVi S hR hS hA (As := []) (rest := []) cvX3_156 (hK.k hk0) (kX3_takesCancel_c l G A (hK.k hk0) hy3) rfl rfl ⟨Nat.le_of_ble_eq_true rfl, Nat.le_of_ble_eq_true rfl⟩ rfl hl.1 rfl (lv_room (by simp [rf_cat, int_cat])) dX3_beginTurn_14 ⟨Nat.le_refl _, Nat.le_refl _⟩ (fun H locs hR hS => ?_)
    have hK : mmKN μ y3.2 := hK.tr (kX3_takesCancel_kn hy3)
    refine lv_if_eq (tgt := 25) S.1 S.2.1 dX3_beginTurn_17 (by decide) (fun c4 => ?_) (fun c4 => ?_)
    · have hf := it_t hf c4
      refine mm_aload_n S dX3_beginTurn_25 rfl (lv_at hl 0 rfl) ?_
      refine mm_aload_n S dX3_beginTurn_26 rfl (lv_at hl 1 rfl) ?_
      obtain ⟨y5, hy5, hf⟩ := bd hf
      refine mm_callVi S hR hS hA (As := [rf h1]) (rest := []) cvX3_159 (hK.k hk0) (kX3_wake_c l G A (hK.k hk0) hy5) rfl rfl ⟨Nat.le_of_ble_eq_true rfl, Nat.le_of_ble_eq_true rfl⟩ rfl hl.1 rfl (lv_room (by simp [rf_cat, int_cat])) dX3_beginTurn_27 ⟨Nat.le_refl _, Nat.le_refl _⟩ (fun H locs hR hS => ?_)
      have hK : mmKN μ y5.2 := hK.tr (kX3_wake_kn hy5)
      refine lv_istore_n (i := 2) (lv' := [(2, .int y5.1), (0, rf h0), (1, rf h1)]) S.1 S.2.1 dX3_beginTurn_30 rfl hl (by decide) (by simp [rf_cat]) (fun ls hl => ?_)
      refine lv_iload_n S.1 S.2.1 dX3_beginTurn_31 rfl (lv_at hl 0 rfl) ?_
      refine lv_if_eq (tgt := 40) S.1 S.2.1 dX3_beginTurn_32 (by decide) (fun c6 => ?_) (fun c6 => ?_)
      · have hf := it_t hf c6
        obtain rfl := Option.some.inj hf
        exact mm_vret S hR hS hr hlocks dX3_beginTurn_40
      · have hf := it_f hf c6
        refine mm_aload_n S dX3_beginTurn_35 rfl (lv_at hl 2 rfl) ?_
        refine lv_iload_n S.1 S.2.1 dX3_beginTurn_36 rfl (lv_at hl 0 rfl) ?_
        obtain ⟨y7, hy7, hf⟩ := bd hf
        refine mm_callVv S hR hS hA (As := [.int y5.1]) (rest := []) cvX3_131 (hK.k g1) (kX2_leave_c l G A (hK.k g1) hy7) rfl rfl ⟨Nat.le_of_ble_eq_true rfl, Nat.le_of_ble_eq_true rfl⟩ rfl hl.1 rfl (lv_room (by simp [rf_cat, int_cat])) dX3_beginTurn_37 ⟨Nat.le_refl _, Nat.le_refl _⟩ (fun H locs hR hS => ?_)
        have hK : mmKN μ y7 := hK.tr (kX2_leave_kn hy7)
        obtain rfl := Option.some.inj hf
        exact mm_vret S hR hS hr hlocks dX3_beginTurn_40
    · have hf := it_f hf c4
      refine lv_bipush (v := 9) S.1 S.2.1 dX3_beginTurn_20 (by decide) ?_
      refine lv_goto (tgt := 30) S.1 S.2.1 dX3_beginTurn_22 (by decide) ?_
      refine lv_istore_n (i := 2) (lv' := [(2, .int 9), (0, rf h0), (1, rf h1)]) S.1 S.2.1 dX3_beginTurn_30 rfl hl (by decide) (by simp [rf_cat]) (fun ls hl => ?_)
      refine lv_iload_n S.1 S.2.1 dX3_beginTurn_31 rfl (lv_at hl 0 rfl) ?_
      refine lv_if_eq (tgt := 40) S.1 S.2.1 dX3_beginTurn_32 (by decide) (fun c8 => ?_) (fun c8 => ?_)
      · have hf := it_t hf c8
        obtain rfl := Option.some.inj hf
        exact mm_vret S hR hS hr hlocks dX3_beginTurn_40
      · have hf := it_f hf c8
        refine mm_aload_n S dX3_beginTurn_35 rfl (lv_at hl 2 rfl) ?_
        refine lv_iload_n S.1 S.2.1 dX3_beginTurn_36 rfl (lv_at hl 0 rfl) ?_
        obtain ⟨y9, hy9, hf⟩ := bd hf
        refine mm_callVv S hR hS hA (As := [.int 9]) (rest := []) cvX3_131 (hK.k g1) (kX2_leave_c l G A (hK.k g1) hy9) rfl rfl ⟨Nat.le_of_ble_eq_true rfl, Nat.le_of_ble_eq_true rfl⟩ rfl hl.1 rfl (lv_room (by simp [rf_cat, int_cat])) dX3_beginTurn_37 ⟨Nat.le_refl _, Nat.le_refl _⟩ (fun H locs hR hS => ?_)
        have hK : mmKN μ y9 := hK.tr (kX2_leave_kn hy9)
        obtain rfl := Option.some.inj hf
        exact mm_vret S hR hS hr hlocks dX3_beginTurn_40
  · have hf := it_t hf c2
    refine mm_aload_n S dX3_beginTurn_7 rfl (lv_at hl 1 rfl) ?_
    refine lv_iconst (v := 0) S.1 S.2.1 dX3_beginTurn_8 (by decide) ?_
    obtain ⟨y10, hy10, hf⟩ := bd hf
    refine mm_callVv S hR hS hA (As := [.int 0]) (rest := []) cvX3_114 (hK.k g1) (kX2_goOnAt_c l G A (hK.k g1) hy10) rfl rfl ⟨Nat.le_of_ble_eq_true rfl, Nat.le_of_ble_eq_true rfl⟩ rfl hl.1 rfl (lv_room (by simp [rf_cat, int_cat])) dX3_beginTurn_9 ⟨Nat.le_refl _, Nat.le_refl _⟩ (fun H locs hR hS => ?_)
    have hK : mmKN μ y10 := hK.tr (kX2_goOnAt_kn hy10)
    obtain rfl := Option.some.inj hf
    exact mm_vret S hR hS hr hlocks dX3_beginTurn_12
-- X3_tellOthers
def bX3_tellOthers_80 (kk80 : Nat → Nat → Int32 → MM → Option (MM)) (h0 : Nat) (h1 : Nat) (x3 : Int32) (μ : MM) : Option (MM) :=
  if mK μ h0 = 4 then if (mI μ h0 5) ≤ x3 then (some μ) else (if mK μ h1 = 3 then if (mI μ h1 5) = (4 : Int32) then ((fX3_has h0 x3 1 μ).bind fun y5 => if y5.1 = 0 then (kk80 h0 h1 (x3 + 1) y5.2) else ((fX3_at h0 x3 y5.2).bind fun y7 => if mK μ y7.1 = 3 then if (mI y7.2 y7.1 16) = (mI y7.2 h1 0) then ((fX3_askToCancel h0 x3 y7.2).bind fun y10 => kk80 h0 h1 (x3 + 1) y10.2) else (kk80 h0 h1 (x3 + 1) y7.2) else none)) else (some μ) else none) else none
def lX3_tellOthers_80  : Nat → Nat → Nat → Int32 → MM → Option (MM)
  | 0, _, _, _, _ => none
  | n + 1, h0, h1, x3, μ => bX3_tellOthers_80  (fun h0 h1 x3 μ => lX3_tellOthers_80  n h0 h1 x3 μ) h0 h1 x3 μ
def bX3_tellOthers_10 (kk10 : Nat → Nat → Int32 → Int32 → MM → Option (MM)) (h0 : Nat) (h1 : Nat) (x2 : Int32) (x3 : Int32) (μ : MM) : Option (MM) :=
  if x3 ≤ 0 then (lX3_tellOthers_80  FU h0 h1 0 μ) else (if mK μ h0 = 4 then if mK μ (mP μ h0 4) = 5 then (fX4_numberAt (mP μ h0 4) x2 μ).bind fun y3 => (fX3_at h0 y3.1 y3.2).bind fun y5 => if mK μ y5.1 = 3 then if mK μ h1 = 3 then if (mI y5.2 y5.1 13) = (mI y5.2 h1 0) then (if mK μ (mP y5.2 h0 4) = 5 then (fX4_removeAt (mP y5.2 h0 4) x2 y5.2).bind fun y9 => st (sI y9 y5.1 13 (-1)) fun μ11 => if mK μ (mP μ11 h0 3) = 5 then (fX4_add (mP μ11 h0 3) (mI μ11 y5.1 0) μ11).bind fun y12 => kk10 h0 h1 x2 (x3 + (-1)) y12 else none else none) else (kk10 h0 h1 (x2 + 1) (x3 + (-1)) y5.2) else none else none else none else none)
def lX3_tellOthers_10  : Nat → Nat → Nat → Int32 → Int32 → MM → Option (MM)
  | 0, _, _, _, _, _ => none
  | n + 1, h0, h1, x2, x3, μ => bX3_tellOthers_10  (fun h0 h1 x2 x3 μ => lX3_tellOthers_10  n h0 h1 x2 x3 μ) h0 h1 x2 x3 μ
def fX3_tellOthers (h0 : Nat) (h1 : Nat) (μ : MM) : Option (MM) :=
  if mK μ (mP μ h0 4) = 5 then lX3_tellOthers_10  FU h0 h1 0 (mI μ (mP μ h0 4) 1) μ else none
set_option maxRecDepth 100000 in
set_option maxHeartbeats 4000000 in
theorem knbX3_tellOthers_80 (kk80 : Nat → Nat → Int32 → MM → Option (MM)) (hkk80 : ∀ (h0 : Nat) (h1 : Nat) (x3 : Int32) (μ : MM) (res : MM), kk80 h0 h1 x3 μ = some res → mmKN μ res) : ∀ (h0 : Nat) (h1 : Nat) (x3 : Int32) (μ : MM) (res : MM), bX3_tellOthers_80 kk80 h0 h1 x3 μ = some res → mmKN μ res := by
  intro h0 h1 x3 μ res hf
  have hK : mmKN μ μ := mmKN.rf
  unfold bX3_tellOthers_80 at hf
  obtain ⟨g1, hf⟩ := gd hf
  rcases it_or hf with ⟨c2, hf⟩ | ⟨c2, hf⟩
  · skip
    obtain rfl := Option.some.inj hf
    exact hK
  · skip
    obtain ⟨g3, hf⟩ := gd hf
    rcases it_or hf with ⟨c4, hf⟩ | ⟨c4, hf⟩
    · skip
      obtain ⟨y5, hy5, hf⟩ := bd hf
      have hK : mmKN μ y5.2 := hK.tr (kX3_has_kn hy5)
      rcases it_or hf with ⟨c6, hf⟩ | ⟨c6, hf⟩
      · skip
        exact hK.tr (hkk80 h0 h1 (x3 + 1) y5.2 _ hf)
      · skip
        obtain ⟨y7, hy7, hf⟩ := bd hf
        have hK : mmKN μ y7.2 := hK.tr (kX3_at_kn hy7)
        obtain ⟨g8, hf⟩ := gd hf
        rcases it_or hf with ⟨c9, hf⟩ | ⟨c9, hf⟩
        · skip
          obtain ⟨y10, hy10, hf⟩ := bd hf
          have hK : mmKN μ y10.2 := hK.tr (kX3_askToCancel_kn hy10)
          exact hK.tr (hkk80 h0 h1 (x3 + 1) y10.2 _ hf)
        · skip
          exact hK.tr (hkk80 h0 h1 (x3 + 1) y7.2 _ hf)
    · skip
      obtain rfl := Option.some.inj hf
      exact hK
theorem knlX3_tellOthers_80  : ∀ (n : Nat) (h0 : Nat) (h1 : Nat) (x3 : Int32) (μ : MM) (res : MM), lX3_tellOthers_80  n h0 h1 x3 μ = some res → mmKN μ res := by
  intro n
  induction n with
  | zero => intro h0 h1 x3 μ res hf; cases hf
  | succ n ih => intro h0 h1 x3 μ res hf; exact knbX3_tellOthers_80  _ ih h0 h1 x3 μ res hf
set_option maxRecDepth 100000 in
set_option maxHeartbeats 4000000 in
theorem knbX3_tellOthers_10 (kk10 : Nat → Nat → Int32 → Int32 → MM → Option (MM)) (hkk10 : ∀ (h0 : Nat) (h1 : Nat) (x2 : Int32) (x3 : Int32) (μ : MM) (res : MM), kk10 h0 h1 x2 x3 μ = some res → mmKN μ res) : ∀ (h0 : Nat) (h1 : Nat) (x2 : Int32) (x3 : Int32) (μ : MM) (res : MM), bX3_tellOthers_10 kk10 h0 h1 x2 x3 μ = some res → mmKN μ res := by
  intro h0 h1 x2 x3 μ res hf
  have hK : mmKN μ μ := mmKN.rf
  unfold bX3_tellOthers_10 at hf
  rcases it_or hf with ⟨c1, hf⟩ | ⟨c1, hf⟩
  · skip
    exact hK.tr (knlX3_tellOthers_80  FU h0 h1 0 μ _ hf)
  · skip
    obtain ⟨g2, hf⟩ := gd hf
    obtain ⟨g4, hf⟩ := gd hf
    obtain ⟨y3, hy3, hf⟩ := bd hf
    have hK : mmKN μ y3.2 := hK.tr (kX4_numberAt_kn hy3)
    obtain ⟨y5, hy5, hf⟩ := bd hf
    have hK : mmKN μ y5.2 := hK.tr (kX3_at_kn hy5)
    obtain ⟨g6, hf⟩ := gd hf
    obtain ⟨g7, hf⟩ := gd hf
    rcases it_or hf with ⟨c8, hf⟩ | ⟨c8, hf⟩
    · skip
      obtain ⟨g10, hf⟩ := gd hf
      obtain ⟨y9, hy9, hf⟩ := bd hf
      have hK : mmKN μ y9 := hK.tr (kX4_removeAt_kn hy9)
      obtain ⟨μ11, e11, hf⟩ := stx hf
      have hK : mmKN μ μ11 := by rw [e11]; exact hK.sI
      obtain ⟨g13, hf⟩ := gd hf
      obtain ⟨y12, hy12, hf⟩ := bd hf
      have hK : mmKN μ y12 := hK.tr (kX4_add_kn hy12)
      exact hK.tr (hkk10 h0 h1 x2 (x3 + (-1)) y12 _ hf)
    · skip
      exact hK.tr (hkk10 h0 h1 (x2 + 1) (x3 + (-1)) y5.2 _ hf)
theorem knlX3_tellOthers_10  : ∀ (n : Nat) (h0 : Nat) (h1 : Nat) (x2 : Int32) (x3 : Int32) (μ : MM) (res : MM), lX3_tellOthers_10  n h0 h1 x2 x3 μ = some res → mmKN μ res := by
  intro n
  induction n with
  | zero => intro h0 h1 x2 x3 μ res hf; cases hf
  | succ n ih => intro h0 h1 x2 x3 μ res hf; exact knbX3_tellOthers_10  _ ih h0 h1 x2 x3 μ res hf
set_option maxRecDepth 100000 in
set_option maxHeartbeats 4000000 in
theorem kX3_tellOthers_kn {μ : MM} {res : MM} {h0 : Nat} {h1 : Nat} (hf : fX3_tellOthers h0 h1 μ = some res) : mmKN μ res := by
  have hK : mmKN μ μ := mmKN.rf
  unfold fX3_tellOthers at hf
  obtain ⟨g1, hf⟩ := gd hf
  exact hK.tr (knlX3_tellOthers_10  FU h0 h1 0 (mI μ (mP μ h0 4) 1) μ _ hf)
abbrev rmX3_tellOthers : Room := { frames := 3, cells := 0, slots := 0, locals := 66 }
set_option maxRecDepth 100000 in
set_option maxHeartbeats 4000000 in
theorem wbX3_tellOthers_80 {p : Program} {l : Launch} {e : Env} {s : State} {m : MethodId} {args : Array Value} {below : List Frame} {meth : Method} {c : Code} {G : mmG} {A : Nat → Prop} {res : MM} (E0 : mmEnv p m c cX3_tellOthers 5 s args RX3 G A meth none) (kk80 : Nat → Nat → Int32 → MM → Option (MM)) (hkk80 : ∀ (h0 : Nat) (h1 : Nat) (x3 : Int32) (μ : MM), kk80 h0 h1 x3 μ = some res → mmGoal p l e rmX3_tellOthers s m args below meth c G A 80 5 [(0, rf h0), (1, rf h1), (3, .int x3)] μ (mmQ G A res none)) : ∀ (h0 : Nat) (h1 : Nat) (x3 : Int32) (μ : MM), bX3_tellOthers_80 kk80 h0 h1 x3 μ = some res → mmGoal p l e rmX3_tellOthers s m args below meth c G A 80 5 [(0, rf h0), (1, rf h1), (3, .int x3)] μ (mmQ G A res none) := by
  obtain ⟨S, hA, hr, hlocks⟩ := id E0
  intro h0 h1 x3 μ hf H locs ls hR hS hl
  have hK : mmKN μ μ := mmKN.rf
  unfold bX3_tellOthers_80 at hf
  refine lv_iload_n S.1 S.2.1 dX3_tellOthers_80 rfl (lv_at hl 2 rfl) ?_
  refine mm_aload_n S dX3_tellOthers_81 rfl (lv_at hl 0 rfl) ?_
  obtain ⟨g1, hf⟩ := gd hf
  refine mm_geti S hR fdX3_41 (hK.k g1) rfl dX3_tellOthers_82 ?_
  refine lv_icmp_ge (tgt := 132) S.1 S.2.1 dX3_tellOthers_85 (by decide) (fun c2 => ?_) (fun c2 => ?_)
  · have hf := it_t hf c2
    obtain rfl := Option.some.inj hf
    exact mm_vret S hR hS hr hlocks dX3_tellOthers_132
  · have hf := it_f hf c2
    refine mm_aload_n S dX3_tellOthers_88 rfl (lv_at hl 1 rfl) ?_
    obtain ⟨g3, hf⟩ := gd hf
    refine mm_geti S hR fdX3_68 (hK.k g3) rfl dX3_tellOthers_89 ?_
    refine lv_iconst (v := 4) S.1 S.2.1 dX3_tellOthers_92 (by decide) ?_
    refine lv_icmp_ne (tgt := 132) S.1 S.2.1 dX3_tellOthers_93 (by decide) (fun c4 => ?_) (fun c4 => ?_)
    · have hf := it_f hf c4
      obtain rfl := Option.some.inj hf
      exact mm_vret S hR hS hr hlocks dX3_tellOthers_132
    · have hf := it_t hf c4
      refine mm_aload_n S dX3_tellOthers_96 rfl (lv_at hl 0 rfl) ?_
      refine lv_iload_n S.1 S.2.1 dX3_tellOthers_97 rfl (lv_at hl 2 rfl) ?_
      refine lv_iconst (v := 1) S.1 S.2.1 dX3_tellOthers_98 (by decide) ?_
      obtain ⟨y5, hy5, hf⟩ := bd hf
      refine mm_callVi S hR hS hA (As := [.int x3, .int 1]) (rest := []) cvX3_180 (hK.k g1) (kX3_has_c l G A (hK.k g1) hy5) rfl rfl ⟨Nat.le_of_ble_eq_true rfl, Nat.le_of_ble_eq_true rfl⟩ rfl hl.1 rfl (lv_room (by simp [rf_cat, int_cat])) dX3_tellOthers_99 ⟨Nat.le_refl _, Nat.le_refl _⟩ (fun H locs hR hS => ?_)
      have hK : mmKN μ y5.2 := hK.tr (kX3_has_kn hy5)
      refine lv_if_eq (tgt := 126) S.1 S.2.1 dX3_tellOthers_102 (by decide) (fun c6 => ?_) (fun c6 => ?_)
      · have hf := it_t hf c6
        refine lv_iinc (v := (x3 + 1)) (lv' := [(3, .int (x3 + 1)), (0, rf h0), (1, rf h1)]) S.1 S.2.1 dX3_tellOthers_126 hl (k := 2) rfl (by rfl) (by decide) rfl (fun ls hl => ?_)
        refine lv_goto (tgt := 80) S.1 S.2.1 dX3_tellOthers_129 (by decide) ?_
        exact hkk80 h0 h1 (x3 + 1) y5.2 hf _ _ _ hR hS (lv_sub hl [1, 2, 0] rfl)
      · have hf := it_f hf c6
        refine mm_aload_n S dX3_tellOthers_105 rfl (lv_at hl 0 rfl) ?_
        refine lv_iload_n S.1 S.2.1 dX3_tellOthers_106 rfl (lv_at hl 2 rfl) ?_
        obtain ⟨y7, hy7, hf⟩ := bd hf
        refine mm_callVh S hR hS hA (As := [.int x3]) (rest := []) cvX3_55 (hK.k g1) (kX3_at_c l G A (hK.k g1) hy7) rfl rfl ⟨Nat.le_of_ble_eq_true rfl, Nat.le_of_ble_eq_true rfl⟩ rfl hl.1 rfl (lv_room (by simp [rf_cat, int_cat])) dX3_tellOthers_107 ⟨Nat.le_refl _, Nat.le_refl _⟩ (fun H locs hR hS => ?_)
        have hK : mmKN μ y7.2 := hK.tr (kX3_at_kn hy7)
        obtain ⟨g8, hf⟩ := gd hf
        refine mm_geti S hR fdX3_183 (hK.k g8) rfl dX3_tellOthers_110 ?_
        refine mm_aload_n S dX3_tellOthers_113 rfl (lv_at hl 1 rfl) ?_
        refine mm_geti S hR fdX3_101 (hK.k g3) rfl dX3_tellOthers_114 ?_
        refine lv_icmp_ne (tgt := 126) S.1 S.2.1 dX3_tellOthers_117 (by decide) (fun c9 => ?_) (fun c9 => ?_)
        · have hf := it_f hf c9
          refine lv_iinc (v := (x3 + 1)) (lv' := [(3, .int (x3 + 1)), (0, rf h0), (1, rf h1)]) S.1 S.2.1 dX3_tellOthers_126 hl (k := 2) rfl (by rfl) (by decide) rfl (fun ls hl => ?_)
          refine lv_goto (tgt := 80) S.1 S.2.1 dX3_tellOthers_129 (by decide) ?_
          exact hkk80 h0 h1 (x3 + 1) y7.2 hf _ _ _ hR hS (lv_sub hl [1, 2, 0] rfl)
        · have hf := it_t hf c9
          refine mm_aload_n S dX3_tellOthers_120 rfl (lv_at hl 0 rfl) ?_
          refine lv_iload_n S.1 S.2.1 dX3_tellOthers_121 rfl (lv_at hl 2 rfl) ?_
          obtain ⟨y10, hy10, hf⟩ := bd hf
          refine mm_callVi S hR hS hA (As := [.int x3]) (rest := []) cvX3_186 (hK.k g1) (kX3_askToCancel_c l G A (hK.k g1) hy10) rfl rfl ⟨Nat.le_of_ble_eq_true rfl, Nat.le_of_ble_eq_true rfl⟩ rfl hl.1 rfl (lv_room (by simp [rf_cat, int_cat])) dX3_tellOthers_122 ⟨Nat.le_refl _, Nat.le_refl _⟩ (fun H locs hR hS => ?_)
          have hK : mmKN μ y10.2 := hK.tr (kX3_askToCancel_kn hy10)
          refine lv_pop S.1 S.2.1 dX3_tellOthers_125 rfl ?_
          refine lv_iinc (v := (x3 + 1)) (lv' := [(3, .int (x3 + 1)), (0, rf h0), (1, rf h1)]) S.1 S.2.1 dX3_tellOthers_126 hl (k := 2) rfl (by rfl) (by decide) rfl (fun ls hl => ?_)
          refine lv_goto (tgt := 80) S.1 S.2.1 dX3_tellOthers_129 (by decide) ?_
          exact hkk80 h0 h1 (x3 + 1) y10.2 hf _ _ _ hR hS (lv_sub hl [1, 2, 0] rfl)
theorem wlX3_tellOthers_80 {p : Program} {l : Launch} {e : Env} {s : State} {m : MethodId} {args : Array Value} {below : List Frame} {meth : Method} {c : Code} {G : mmG} {A : Nat → Prop} {res : MM} (E0 : mmEnv p m c cX3_tellOthers 5 s args RX3 G A meth none)  : ∀ (n : Nat) (h0 : Nat) (h1 : Nat) (x3 : Int32) (μ : MM), lX3_tellOthers_80  n h0 h1 x3 μ = some res → mmGoal p l e rmX3_tellOthers s m args below meth c G A 80 5 [(0, rf h0), (1, rf h1), (3, .int x3)] μ (mmQ G A res none) := by
  intro n
  induction n with
  | zero => intro h0 h1 x3 μ hf; cases hf
  | succ n ih => intro h0 h1 x3 μ hf; exact wbX3_tellOthers_80 E0  _ ih h0 h1 x3 μ hf
set_option maxRecDepth 100000 in
set_option maxHeartbeats 4000000 in
theorem wbX3_tellOthers_10 {p : Program} {l : Launch} {e : Env} {s : State} {m : MethodId} {args : Array Value} {below : List Frame} {meth : Method} {c : Code} {G : mmG} {A : Nat → Prop} {res : MM} (E0 : mmEnv p m c cX3_tellOthers 5 s args RX3 G A meth none) (kk10 : Nat → Nat → Int32 → Int32 → MM → Option (MM)) (hkk10 : ∀ (h0 : Nat) (h1 : Nat) (x2 : Int32) (x3 : Int32) (μ : MM), kk10 h0 h1 x2 x3 μ = some res → mmGoal p l e rmX3_tellOthers s m args below meth c G A 10 5 [(0, rf h0), (1, rf h1), (2, .int x2), (3, .int x3)] μ (mmQ G A res none)) : ∀ (h0 : Nat) (h1 : Nat) (x2 : Int32) (x3 : Int32) (μ : MM), bX3_tellOthers_10 kk10 h0 h1 x2 x3 μ = some res → mmGoal p l e rmX3_tellOthers s m args below meth c G A 10 5 [(0, rf h0), (1, rf h1), (2, .int x2), (3, .int x3)] μ (mmQ G A res none) := by
  obtain ⟨S, hA, hr, hlocks⟩ := id E0
  intro h0 h1 x2 x3 μ hf H locs ls hR hS hl
  have hK : mmKN μ μ := mmKN.rf
  unfold bX3_tellOthers_10 at hf
  refine lv_iload_n S.1 S.2.1 dX3_tellOthers_10 rfl (lv_at hl 3 rfl) ?_
  refine lv_if_le (tgt := 78) S.1 S.2.1 dX3_tellOthers_11 (by decide) (fun c1 => ?_) (fun c1 => ?_)
  · have hf := it_t hf c1
    refine lv_iconst (v := 0) S.1 S.2.1 dX3_tellOthers_78 (by decide) ?_
    refine lv_istore_n (i := 3) (lv' := [(3, .int 0), (0, rf h0), (1, rf h1), (2, .int x2)]) S.1 S.2.1 dX3_tellOthers_79 rfl hl (by decide) rfl (fun ls hl => ?_)
    exact wlX3_tellOthers_80 E0  FU h0 h1 0 μ hf _ _ _ hR hS (lv_sub hl [1, 2, 0] rfl)
  · have hf := it_f hf c1
    refine mm_aload_n S dX3_tellOthers_14 rfl (lv_at hl 0 rfl) ?_
    refine mm_aload_n S dX3_tellOthers_15 rfl (lv_at hl 0 rfl) ?_
    obtain ⟨g2, hf⟩ := gd hf
    refine mm_getp S hR fdX3_31 (hK.k g2) rfl dX3_tellOthers_16 ?_
    refine lv_iload_n S.1 S.2.1 dX3_tellOthers_19 rfl (lv_at hl 2 rfl) ?_
    obtain ⟨g4, hf⟩ := gd hf
    obtain ⟨y3, hy3, hf⟩ := bd hf
    refine mm_callVi S hR hS hA (As := [.int x2]) (rest := [rf h0]) cvX3_78 (hK.k g4) (kX4_numberAt_c l G A (hK.k g4) hy3) rfl rfl ⟨Nat.le_of_ble_eq_true rfl, Nat.le_of_ble_eq_true rfl⟩ rfl hl.1 rfl (lv_room (by simp [rf_cat, int_cat])) dX3_tellOthers_20 ⟨Nat.le_refl _, Nat.le_refl _⟩ (fun H locs hR hS => ?_)
    have hK : mmKN μ y3.2 := hK.tr (kX4_numberAt_kn hy3)
    obtain ⟨y5, hy5, hf⟩ := bd hf
    refine mm_callVh S hR hS hA (As := [.int y3.1]) (rest := []) cvX3_55 (hK.k g2) (kX3_at_c l G A (hK.k g2) hy5) rfl rfl ⟨Nat.le_of_ble_eq_true rfl, Nat.le_of_ble_eq_true rfl⟩ rfl hl.1 rfl (lv_room (by simp [rf_cat, int_cat])) dX3_tellOthers_23 ⟨Nat.le_refl _, Nat.le_refl _⟩ (fun H locs hR hS => ?_)
    have hK : mmKN μ y5.2 := hK.tr (kX3_at_kn hy5)
    refine mm_astore (i := 4) (lv' := [(4, rf y5.1), (0, rf h0), (1, rf h1), (2, .int x2), (3, .int x3)]) S dX3_tellOthers_26 hl (by decide) rfl (fun ls hl => ?_)
    refine mm_aload S dX3_tellOthers_28 (lv_at hl 0 rfl) ?_
    obtain ⟨g6, hf⟩ := gd hf
    refine mm_geti S hR fdX3_82 (hK.k g6) rfl dX3_tellOthers_30 ?_
    refine mm_aload_n S dX3_tellOthers_33 rfl (lv_at hl 2 rfl) ?_
    obtain ⟨g7, hf⟩ := gd hf
    refine mm_geti S hR fdX3_101 (hK.k g7) rfl dX3_tellOthers_34 ?_
    refine lv_icmp_ne (tgt := 69) S.1 S.2.1 dX3_tellOthers_37 (by decide) (fun c8 => ?_) (fun c8 => ?_)
    · have hf := it_f hf c8
      refine lv_iinc (v := (x2 + 1)) (lv' := [(2, .int (x2 + 1)), (4, rf y5.1), (0, rf h0), (1, rf h1), (3, .int x3)]) S.1 S.2.1 dX3_tellOthers_69 hl (k := 3) rfl (by rfl) (by decide) (by simp [rf_cat]) (fun ls hl => ?_)
      refine lv_iinc (v := (x3 + (-1))) (lv' := [(3, .int (x3 + (-1))), (2, .int (x2 + 1)), (4, rf y5.1), (0, rf h0), (1, rf h1)]) S.1 S.2.1 dX3_tellOthers_72 hl (k := 4) rfl (by rfl) (by decide) rfl (fun ls hl => ?_)
      refine lv_goto (tgt := 10) S.1 S.2.1 dX3_tellOthers_75 (by decide) ?_
      exact hkk10 h0 h1 (x2 + 1) (x3 + (-1)) y5.2 hf _ _ _ hR hS (lv_sub hl [3, 4, 1, 0] rfl)
    · have hf := it_t hf c8
      refine mm_aload_n S dX3_tellOthers_40 rfl (lv_at hl 1 rfl) ?_
      refine mm_getp S hR fdX3_31 (hK.k g2) rfl dX3_tellOthers_41 ?_
      refine lv_iload_n S.1 S.2.1 dX3_tellOthers_44 rfl (lv_at hl 3 rfl) ?_
      obtain ⟨g10, hf⟩ := gd hf
      obtain ⟨y9, hy9, hf⟩ := bd hf
      refine mm_callVv S hR hS hA (As := [.int x2]) (rest := []) cvX3_147 (hK.k g10) (kX4_removeAt_c l G A (hK.k g10) hy9) rfl rfl ⟨Nat.le_of_ble_eq_true rfl, Nat.le_of_ble_eq_true rfl⟩ rfl hl.1 rfl (lv_room (by simp [rf_cat, int_cat])) dX3_tellOthers_45 ⟨Nat.le_refl _, Nat.le_refl _⟩ (fun H locs hR hS => ?_)
      have hK : mmKN μ y9 := hK.tr (kX4_removeAt_kn hy9)
      refine mm_aload S dX3_tellOthers_48 (lv_at hl 0 rfl) ?_
      refine lv_iconst (v := (-1)) S.1 S.2.1 dX3_tellOthers_50 (by decide) ?_
      refine mm_puti S hR hS fpX3_82 (hK.k g6) rfl rfl rfl dX3_tellOthers_51 (fun H locs hR hS => ?_)
      obtain ⟨μ11, e11, hf⟩ := stx hf
      rw [← e11] at hR
      have hK : mmKN μ μ11 := by rw [e11]; exact hK.sI
      refine mm_aload_n S dX3_tellOthers_54 rfl (lv_at hl 1 rfl) ?_
      refine mm_getp S hR fdX3_27 (hK.k g2) rfl dX3_tellOthers_55 ?_
      refine mm_aload S dX3_tellOthers_58 (lv_at hl 0 rfl) ?_
      refine mm_geti S hR fdX3_101 (hK.k g6) rfl dX3_tellOthers_60 ?_
      obtain ⟨g13, hf⟩ := gd hf
      obtain ⟨y12, hy12, hf⟩ := bd hf
      refine mm_callVv S hR hS hA (As := [.int (mI μ11 y5.1 0)]) (rest := []) cvX3_104 (hK.k g13) (kX4_add_c l G A (hK.k g13) hy12) rfl rfl ⟨Nat.le_of_ble_eq_true rfl, Nat.le_of_ble_eq_true rfl⟩ rfl hl.1 rfl (lv_room (by simp [rf_cat, int_cat])) dX3_tellOthers_63 ⟨Nat.le_refl _, Nat.le_refl _⟩ (fun H locs hR hS => ?_)
      have hK : mmKN μ y12 := hK.tr (kX4_add_kn hy12)
      refine lv_goto (tgt := 72) S.1 S.2.1 dX3_tellOthers_66 (by decide) ?_
      refine lv_iinc (v := (x3 + (-1))) (lv' := [(3, .int (x3 + (-1))), (4, rf y5.1), (0, rf h0), (1, rf h1), (2, .int x2)]) S.1 S.2.1 dX3_tellOthers_72 hl (k := 4) rfl (by rfl) (by decide) rfl (fun ls hl => ?_)
      refine lv_goto (tgt := 10) S.1 S.2.1 dX3_tellOthers_75 (by decide) ?_
      exact hkk10 h0 h1 x2 (x3 + (-1)) y12 hf _ _ _ hR hS (lv_sub hl [2, 3, 4, 0] rfl)
theorem wlX3_tellOthers_10 {p : Program} {l : Launch} {e : Env} {s : State} {m : MethodId} {args : Array Value} {below : List Frame} {meth : Method} {c : Code} {G : mmG} {A : Nat → Prop} {res : MM} (E0 : mmEnv p m c cX3_tellOthers 5 s args RX3 G A meth none)  : ∀ (n : Nat) (h0 : Nat) (h1 : Nat) (x2 : Int32) (x3 : Int32) (μ : MM), lX3_tellOthers_10  n h0 h1 x2 x3 μ = some res → mmGoal p l e rmX3_tellOthers s m args below meth c G A 10 5 [(0, rf h0), (1, rf h1), (2, .int x2), (3, .int x3)] μ (mmQ G A res none) := by
  intro n
  induction n with
  | zero => intro h0 h1 x2 x3 μ hf; cases hf
  | succ n ih => intro h0 h1 x2 x3 μ hf; exact wbX3_tellOthers_10 E0  _ ih h0 h1 x2 x3 μ hf
set_option maxRecDepth 100000 in
set_option maxHeartbeats 4000000 in
theorem kX3_tellOthers_c (l : Launch) (G : mmG) (A : Nat → Prop) {μ : MM} {res : MM} {h0 : Nat} {h1 : Nat} (hk0 : mK μ h0 = 4) (hf : fX3_tellOthers h0 h1 μ = some res) : Met l yX3_tellOthers [.code yX3_tellOthers cX3_tellOthers 5 none] rmX3_tellOthers (mmPc G A μ [rf h0, rf h1]) (mmQ G A res none) 0 0 A := by
  refine mm_ofW (by decide +kernel) (by simp [lg_sl, rf_cat, int_cat]) ?_
  intro p e s m below meth c ls S hR hA hS hr hlocks hl hnm
  have hl : lv_has ls 5 [(0, rf h0), (1, rf h1)] := by simpa [lv_args, rf_cat, int_cat] using hl
  have E0 : mmEnv p m c cX3_tellOthers 5 s _ RX3 G A meth none := ⟨S, hA, hr, hlocks⟩
  have hK : mmKN μ μ := mmKN.rf
  unfold fX3_tellOthers at hf
  refine lv_iconst (v := 0) S.1 S.2.1 dX3_tellOthers_0 (by decide) ?_
  refine lv_istore_n (i := 2) (lv' := [(2, .int 0), (0, rf h0), (1, rf h1)]) S.1 S.2.1 dX3_tellOthers_1 rfl hl (by decide) (by simp [rf_cat]) (fun ls hl => ?_)
  refine mm_aload_n S dX3_tellOthers_2 rfl (lv_at hl 1 rfl) ?_
  refine mm_getp S hR fdX3_31 (hK.k hk0) rfl dX3_tellOthers_3 ?_
  obtain ⟨g1, hf⟩ := gd hf
  refine mm_geti S hR fdX3_75 (hK.k g1) rfl dX3_tellOthers_6 ?_
  refine lv_istore_n (i := 3) (lv' := [(3, .int (mI μ (mP μ h0 4) 1)), (2, .int 0), (0, rf h0), (1, rf h1)]) S.1 S.2.1 dX3_tellOthers_9 rfl hl (by decide) rfl (fun ls hl => ?_)
  exact wlX3_tellOthers_10 E0  FU h0 h1 0 (mI μ (mP μ h0 4) 1) μ hf _ _ _ hR hS (lv_sub hl [2, 3, 1, 0] rfl)
-- X3_doTurns
def bX3_doTurns_2 (kk2 : Nat → Int32 → Int32 → MM → Option (Int32 × MM)) (h0 : Nat) (x1 : Int32) (x2 : Int32) (μ : MM) : Option (Int32 × MM) :=
  if x1 ≤ x2 then (some (x2, μ)) else (if mK μ h0 = 4 then if mK μ (mP μ h0 3) = 5 then if (mI μ (mP μ h0 3) 1) ≤ 0 then (some (x2, μ)) else ((fX4_numberAt (mP μ h0 3) 0 μ).bind fun y5 => (fX3_at h0 y5.1 y5.2).bind fun y6 => if mK μ (mP y6.2 h0 3) = 5 then (fX4_removeAt (mP y6.2 h0 3) 0 y6.2).bind fun y7 => st (sI y7 h0 7 ((mI y7 h0 7) + 1)) fun μ9 => if mK μ y6.1 = 3 then (fX3_beginCall h0 (mI μ9 y6.1 0) μ9).bind fun y11 => (fX3_inmostOf h0 y6.1 y11).bind fun y12 => (fX3_beginTurn h0 y12.1 y12.2).bind fun y13 => (fX3_goOn h0 y6.1 y12.1 y13).bind fun y14 => (fX2_isOver y6.1 y14).bind fun y15 => if y15.1 = 0 then (kk2 h0 x1 (x2 + 1) y15.2) else ((fX3_tellOthers h0 y6.1 y15.2).bind fun y17 => kk2 h0 x1 (x2 + 1) y17) else none else none) else none else none)
def lX3_doTurns_2  : Nat → Nat → Int32 → Int32 → MM → Option (Int32 × MM)
  | 0, _, _, _, _ => none
  | n + 1, h0, x1, x2, μ => bX3_doTurns_2  (fun h0 x1 x2 μ => lX3_doTurns_2  n h0 x1 x2 μ) h0 x1 x2 μ
def fX3_doTurns (h0 : Nat) (x1 : Int32) (μ : MM) : Option (Int32 × MM) :=
  lX3_doTurns_2  FU h0 x1 0 μ
set_option maxRecDepth 100000 in
set_option maxHeartbeats 4000000 in
theorem knbX3_doTurns_2 (kk2 : Nat → Int32 → Int32 → MM → Option (Int32 × MM)) (hkk2 : ∀ (h0 : Nat) (x1 : Int32) (x2 : Int32) (μ : MM) (res : Int32 × MM), kk2 h0 x1 x2 μ = some res → mmKN μ res.2) : ∀ (h0 : Nat) (x1 : Int32) (x2 : Int32) (μ : MM) (res : Int32 × MM), bX3_doTurns_2 kk2 h0 x1 x2 μ = some res → mmKN μ res.2 := by
  intro h0 x1 x2 μ res hf
  have hK : mmKN μ μ := mmKN.rf
  unfold bX3_doTurns_2 at hf
  rcases it_or hf with ⟨c1, hf⟩ | ⟨c1, hf⟩
  · skip
    obtain rfl := Option.some.inj hf
    exact hK
  · skip
    obtain ⟨g2, hf⟩ := gd hf
    obtain ⟨g3, hf⟩ := gd hf
    rcases it_or hf with ⟨c4, hf⟩ | ⟨c4, hf⟩
    · skip
      obtain rfl := Option.some.inj hf
      exact hK
    · skip
      obtain ⟨y5, hy5, hf⟩ := bd hf
      have hK : mmKN μ y5.2 := hK.tr (kX4_numberAt_kn hy5)
      obtain ⟨y6, hy6, hf⟩ := bd hf
      have hK : mmKN μ y6.2 := hK.tr (kX3_at_kn hy6)
      obtain ⟨g8, hf⟩ := gd hf
      obtain ⟨y7, hy7, hf⟩ := bd hf
      have hK : mmKN μ y7 := hK.tr (kX4_removeAt_kn hy7)
      obtain ⟨μ9, e9, hf⟩ := stx hf
      have hK : mmKN μ μ9 := by rw [e9]; exact hK.sI
      obtain ⟨g10, hf⟩ := gd hf
      obtain ⟨y11, hy11, hf⟩ := bd hf
      have hK : mmKN μ y11 := hK.tr (kX3_beginCall_kn hy11)
      obtain ⟨y12, hy12, hf⟩ := bd hf
      have hK : mmKN μ y12.2 := hK.tr (kX3_inmostOf_kn hy12)
      obtain ⟨y13, hy13, hf⟩ := bd hf
      have hK : mmKN μ y13 := hK.tr (kX3_beginTurn_kn hy13)
      obtain ⟨y14, hy14, hf⟩ := bd hf
      have hK : mmKN μ y14 := hK.tr (kX3_goOn_kn hy14)
      obtain ⟨y15, hy15, hf⟩ := bd hf
      have hK : mmKN μ y15.2 := hK.tr (kX2_isOver_kn hy15)
      rcases it_or hf with ⟨c16, hf⟩ | ⟨c16, hf⟩
      · skip
        exact hK.tr (hkk2 h0 x1 (x2 + 1) y15.2 _ hf)
      · skip
        obtain ⟨y17, hy17, hf⟩ := bd hf
        have hK : mmKN μ y17 := hK.tr (kX3_tellOthers_kn hy17)
        exact hK.tr (hkk2 h0 x1 (x2 + 1) y17 _ hf)
theorem knlX3_doTurns_2  : ∀ (n : Nat) (h0 : Nat) (x1 : Int32) (x2 : Int32) (μ : MM) (res : Int32 × MM), lX3_doTurns_2  n h0 x1 x2 μ = some res → mmKN μ res.2 := by
  intro n
  induction n with
  | zero => intro h0 x1 x2 μ res hf; cases hf
  | succ n ih => intro h0 x1 x2 μ res hf; exact knbX3_doTurns_2  _ ih h0 x1 x2 μ res hf
set_option maxRecDepth 100000 in
set_option maxHeartbeats 4000000 in
theorem kX3_doTurns_kn {μ : MM} {res : Int32 × MM} {h0 : Nat} {x1 : Int32} (hf : fX3_doTurns h0 x1 μ = some res) : mmKN μ res.2 := by
  have hK : mmKN μ μ := mmKN.rf
  unfold fX3_doTurns at hf
  exact hK.tr (knlX3_doTurns_2  FU h0 x1 0 μ _ hf)
abbrev rmX3_doTurns : Room := { frames := 5, cells := 0, slots := 0, locals := 120 }
set_option maxRecDepth 100000 in
set_option maxHeartbeats 4000000 in
theorem wbX3_doTurns_2 {p : Program} {l : Launch} {e : Env} {s : State} {m : MethodId} {args : Array Value} {below : List Frame} {meth : Method} {c : Code} {G : mmG} {A : Nat → Prop} {res : Int32 × MM} (E0 : mmEnv p m c cX3_doTurns 5 s args RX3 G A meth (some (.int))) (kk2 : Nat → Int32 → Int32 → MM → Option (Int32 × MM)) (hkk2 : ∀ (h0 : Nat) (x1 : Int32) (x2 : Int32) (μ : MM), kk2 h0 x1 x2 μ = some res → mmGoal p l e rmX3_doTurns s m args below meth c G A 2 5 [(0, rf h0), (1, .int x1), (2, .int x2)] μ (mmQ G A res.2 (some (.int res.1)))) : ∀ (h0 : Nat) (x1 : Int32) (x2 : Int32) (μ : MM), bX3_doTurns_2 kk2 h0 x1 x2 μ = some res → mmGoal p l e rmX3_doTurns s m args below meth c G A 2 5 [(0, rf h0), (1, .int x1), (2, .int x2)] μ (mmQ G A res.2 (some (.int res.1))) := by
  obtain ⟨S, hA, hr, hlocks⟩ := id E0
  intro h0 x1 x2 μ hf H locs ls hR hS hl
  have hK : mmKN μ μ := mmKN.rf
  unfold bX3_doTurns_2 at hf
  refine lv_iload_n S.1 S.2.1 dX3_doTurns_2 rfl (lv_at hl 2 rfl) ?_
  refine lv_iload_n S.1 S.2.1 dX3_doTurns_3 rfl (lv_at hl 1 rfl) ?_
  refine lv_icmp_ge (tgt := 94) S.1 S.2.1 dX3_doTurns_4 (by decide) (fun c1 => ?_) (fun c1 => ?_)
  · have hf := it_t hf c1
    refine lv_iload_n S.1 S.2.1 dX3_doTurns_94 rfl (lv_at hl 2 rfl) ?_
    obtain rfl := Option.some.inj hf
    exact mm_iret S hR hS hr hlocks dX3_doTurns_95
  · have hf := it_f hf c1
    refine mm_aload_n S dX3_doTurns_7 rfl (lv_at hl 0 rfl) ?_
    obtain ⟨g2, hf⟩ := gd hf
    refine mm_getp S hR fdX3_27 (hK.k g2) rfl dX3_doTurns_8 ?_
    obtain ⟨g3, hf⟩ := gd hf
    refine mm_geti S hR fdX3_75 (hK.k g3) rfl dX3_doTurns_11 ?_
    refine lv_if_le (tgt := 94) S.1 S.2.1 dX3_doTurns_14 (by decide) (fun c4 => ?_) (fun c4 => ?_)
    · have hf := it_t hf c4
      refine lv_iload_n S.1 S.2.1 dX3_doTurns_94 rfl (lv_at hl 2 rfl) ?_
      obtain rfl := Option.some.inj hf
      exact mm_iret S hR hS hr hlocks dX3_doTurns_95
    · have hf := it_f hf c4
      refine mm_aload_n S dX3_doTurns_17 rfl (lv_at hl 0 rfl) ?_
      refine mm_aload_n S dX3_doTurns_18 rfl (lv_at hl 0 rfl) ?_
      refine mm_getp S hR fdX3_27 (hK.k g2) rfl dX3_doTurns_19 ?_
      refine lv_iconst (v := 0) S.1 S.2.1 dX3_doTurns_22 (by decide) ?_
      obtain ⟨y5, hy5, hf⟩ := bd hf
      refine mm_callVi S hR hS hA (As := [.int 0]) (rest := [rf h0]) cvX3_78 (hK.k g3) (kX4_numberAt_c l G A (hK.k g3) hy5) rfl rfl ⟨Nat.le_of_ble_eq_true rfl, Nat.le_of_ble_eq_true rfl⟩ rfl hl.1 rfl (lv_room (by simp [rf_cat, int_cat])) dX3_doTurns_23 ⟨Nat.le_refl _, Nat.le_refl _⟩ (fun H locs hR hS => ?_)
      have hK : mmKN μ y5.2 := hK.tr (kX4_numberAt_kn hy5)
      obtain ⟨y6, hy6, hf⟩ := bd hf
      refine mm_callVh S hR hS hA (As := [.int y5.1]) (rest := []) cvX3_55 (hK.k g2) (kX3_at_c l G A (hK.k g2) hy6) rfl rfl ⟨Nat.le_of_ble_eq_true rfl, Nat.le_of_ble_eq_true rfl⟩ rfl hl.1 rfl (lv_room (by simp [rf_cat, int_cat])) dX3_doTurns_26 ⟨Nat.le_refl _, Nat.le_refl _⟩ (fun H locs hR hS => ?_)
      have hK : mmKN μ y6.2 := hK.tr (kX3_at_kn hy6)
      refine mm_astore_n (i := 3) (lv' := [(3, rf y6.1), (0, rf h0), (1, .int x1), (2, .int x2)]) S dX3_doTurns_29 rfl hl (by decide) rfl (fun ls hl => ?_)
      refine mm_aload_n S dX3_doTurns_30 rfl (lv_at hl 1 rfl) ?_
      refine mm_getp S hR fdX3_27 (hK.k g2) rfl dX3_doTurns_31 ?_
      refine lv_iconst (v := 0) S.1 S.2.1 dX3_doTurns_34 (by decide) ?_
      obtain ⟨g8, hf⟩ := gd hf
      obtain ⟨y7, hy7, hf⟩ := bd hf
      refine mm_callVv S hR hS hA (As := [.int 0]) (rest := []) cvX3_147 (hK.k g8) (kX4_removeAt_c l G A (hK.k g8) hy7) rfl rfl ⟨Nat.le_of_ble_eq_true rfl, Nat.le_of_ble_eq_true rfl⟩ rfl hl.1 rfl (lv_room (by simp [rf_cat, int_cat])) dX3_doTurns_35 ⟨Nat.le_refl _, Nat.le_refl _⟩ (fun H locs hR hS => ?_)
      have hK : mmKN μ y7 := hK.tr (kX4_removeAt_kn hy7)
      refine mm_aload_n S dX3_doTurns_38 rfl (lv_at hl 1 rfl) ?_
      refine lv_dup S.1 S.2.1 dX3_doTurns_39 (rf_cat _) ?_
      refine mm_geti S hR fdX3_48 (hK.k g2) rfl dX3_doTurns_40 ?_
      refine lv_iconst (v := 1) S.1 S.2.1 dX3_doTurns_43 (by decide) ?_
      refine lv_iadd S.1 S.2.1 dX3_doTurns_44 ?_
      refine mm_puti S hR hS fpX3_48 (hK.k g2) rfl rfl rfl dX3_doTurns_45 (fun H locs hR hS => ?_)
      obtain ⟨μ9, e9, hf⟩ := stx hf
      rw [← e9] at hR
      have hK : mmKN μ μ9 := by rw [e9]; exact hK.sI
      refine mm_aload_n S dX3_doTurns_48 rfl (lv_at hl 1 rfl) ?_
      refine mm_aload_n S dX3_doTurns_49 rfl (lv_at hl 0 rfl) ?_
      obtain ⟨g10, hf⟩ := gd hf
      refine mm_geti S hR fdX3_101 (hK.k g10) rfl dX3_doTurns_50 ?_
      obtain ⟨y11, hy11, hf⟩ := bd hf
      refine mm_callVv S hR hS hA (As := [.int (mI μ9 y6.1 0)]) (rest := []) cvX3_111 (hK.k g2) (kX3_beginCall_c l G A (hK.k g2) hy11) rfl rfl ⟨Nat.le_of_ble_eq_true rfl, Nat.le_of_ble_eq_true rfl⟩ rfl hl.1 rfl (lv_room (by simp [rf_cat, int_cat])) dX3_doTurns_53 ⟨Nat.le_refl _, Nat.le_refl _⟩ (fun H locs hR hS => ?_)
      have hK : mmKN μ y11 := hK.tr (kX3_beginCall_kn hy11)
      refine mm_aload_n S dX3_doTurns_56 rfl (lv_at hl 1 rfl) ?_
      refine mm_aload_n S dX3_doTurns_57 rfl (lv_at hl 0 rfl) ?_
      obtain ⟨y12, hy12, hf⟩ := bd hf
      refine mm_callVh S hR hS hA (As := [rf y6.1]) (rest := []) cvX3_107 (hK.k g2) (kX3_inmostOf_c l G A (hK.k g2) hy12) rfl rfl ⟨Nat.le_of_ble_eq_true rfl, Nat.le_of_ble_eq_true rfl⟩ rfl hl.1 rfl (lv_room (by simp [rf_cat, int_cat])) dX3_doTurns_58 ⟨Nat.le_refl _, Nat.le_refl _⟩ (fun H locs hR hS => ?_)
      have hK : mmKN μ y12.2 := hK.tr (kX3_inmostOf_kn hy12)
      refine mm_astore (i := 4) (lv' := [(4, rf y12.1), (3, rf y6.1), (0, rf h0), (1, .int x1), (2, .int x2)]) S dX3_doTurns_61 hl (by decide) (by simp [rf_cat]) (fun ls hl => ?_)
      refine mm_aload_n S dX3_doTurns_63 rfl (lv_at hl 2 rfl) ?_
      refine mm_aload S dX3_doTurns_64 (lv_at hl 0 rfl) ?_
      obtain ⟨y13, hy13, hf⟩ := bd hf
      refine mm_callVv S hR hS hA (As := [rf y12.1]) (rest := []) cvX3_150 (hK.k g2) (kX3_beginTurn_c l G A (hK.k g2) hy13) rfl rfl ⟨Nat.le_of_ble_eq_true rfl, Nat.le_of_ble_eq_true rfl⟩ rfl hl.1 rfl (lv_room (by simp [rf_cat, int_cat])) dX3_doTurns_66 ⟨Nat.le_refl _, Nat.le_refl _⟩ (fun H locs hR hS => ?_)
      have hK : mmKN μ y13 := hK.tr (kX3_beginTurn_kn hy13)
      refine mm_aload_n S dX3_doTurns_69 rfl (lv_at hl 2 rfl) ?_
      refine mm_aload_n S dX3_doTurns_70 rfl (lv_at hl 1 rfl) ?_
      refine mm_aload S dX3_doTurns_71 (lv_at hl 0 rfl) ?_
      obtain ⟨y14, hy14, hf⟩ := bd hf
      refine mm_callVv S hR hS hA (As := [rf y6.1, rf y12.1]) (rest := []) cvX3_123 (hK.k g2) (kX3_goOn_c l G A (hK.k g2) hy14) rfl rfl ⟨Nat.le_of_ble_eq_true rfl, Nat.le_of_ble_eq_true rfl⟩ rfl hl.1 rfl (lv_room (by simp [rf_cat, int_cat])) dX3_doTurns_73 ⟨Nat.le_refl _, Nat.le_refl _⟩ (fun H locs hR hS => ?_)
      have hK : mmKN μ y14 := hK.tr (kX3_goOn_kn hy14)
      refine mm_aload_n S dX3_doTurns_76 rfl (lv_at hl 1 rfl) ?_
      obtain ⟨y15, hy15, hf⟩ := bd hf
      refine mm_callVi S hR hS hA (As := []) (rest := []) cvX3_71 (hK.k g10) (kX2_isOver_c l G A (hK.k g10) hy15) rfl rfl ⟨Nat.le_of_ble_eq_true rfl, Nat.le_of_ble_eq_true rfl⟩ rfl hl.1 rfl (lv_room (by simp [rf_cat, int_cat])) dX3_doTurns_77 ⟨Nat.le_refl _, Nat.le_refl _⟩ (fun H locs hR hS => ?_)
      have hK : mmKN μ y15.2 := hK.tr (kX2_isOver_kn hy15)
      refine lv_if_eq (tgt := 88) S.1 S.2.1 dX3_doTurns_80 (by decide) (fun c16 => ?_) (fun c16 => ?_)
      · have hf := it_t hf c16
        refine lv_iinc (v := (x2 + 1)) (lv' := [(2, .int (x2 + 1)), (4, rf y12.1), (3, rf y6.1), (0, rf h0), (1, .int x1)]) S.1 S.2.1 dX3_doTurns_88 hl (k := 4) rfl (by rfl) (by decide) rfl (fun ls hl => ?_)
        refine lv_goto (tgt := 2) S.1 S.2.1 dX3_doTurns_91 (by decide) ?_
        exact hkk2 h0 x1 (x2 + 1) y15.2 hf _ _ _ hR hS (lv_sub hl [3, 4, 0] rfl)
      · have hf := it_f hf c16
        refine mm_aload_n S dX3_doTurns_83 rfl (lv_at hl 2 rfl) ?_
        refine mm_aload_n S dX3_doTurns_84 rfl (lv_at hl 1 rfl) ?_
        obtain ⟨y17, hy17, hf⟩ := bd hf
        refine mm_callVv S hR hS hA (As := [rf y6.1]) (rest := []) cvX3_153 (hK.k g2) (kX3_tellOthers_c l G A (hK.k g2) hy17) rfl rfl ⟨Nat.le_of_ble_eq_true rfl, Nat.le_of_ble_eq_true rfl⟩ rfl hl.1 rfl (lv_room (by simp [rf_cat, int_cat])) dX3_doTurns_85 ⟨Nat.le_refl _, Nat.le_refl _⟩ (fun H locs hR hS => ?_)
        have hK : mmKN μ y17 := hK.tr (kX3_tellOthers_kn hy17)
        refine lv_iinc (v := (x2 + 1)) (lv' := [(2, .int (x2 + 1)), (4, rf y12.1), (3, rf y6.1), (0, rf h0), (1, .int x1)]) S.1 S.2.1 dX3_doTurns_88 hl (k := 4) rfl (by rfl) (by decide) rfl (fun ls hl => ?_)
        refine lv_goto (tgt := 2) S.1 S.2.1 dX3_doTurns_91 (by decide) ?_
        exact hkk2 h0 x1 (x2 + 1) y17 hf _ _ _ hR hS (lv_sub hl [3, 4, 0] rfl)
theorem wlX3_doTurns_2 {p : Program} {l : Launch} {e : Env} {s : State} {m : MethodId} {args : Array Value} {below : List Frame} {meth : Method} {c : Code} {G : mmG} {A : Nat → Prop} {res : Int32 × MM} (E0 : mmEnv p m c cX3_doTurns 5 s args RX3 G A meth (some (.int)))  : ∀ (n : Nat) (h0 : Nat) (x1 : Int32) (x2 : Int32) (μ : MM), lX3_doTurns_2  n h0 x1 x2 μ = some res → mmGoal p l e rmX3_doTurns s m args below meth c G A 2 5 [(0, rf h0), (1, .int x1), (2, .int x2)] μ (mmQ G A res.2 (some (.int res.1))) := by
  intro n
  induction n with
  | zero => intro h0 x1 x2 μ hf; cases hf
  | succ n ih => intro h0 x1 x2 μ hf; exact wbX3_doTurns_2 E0  _ ih h0 x1 x2 μ hf
set_option maxRecDepth 100000 in
set_option maxHeartbeats 4000000 in
theorem kX3_doTurns_c (l : Launch) (G : mmG) (A : Nat → Prop) {μ : MM} {res : Int32 × MM} {h0 : Nat} {x1 : Int32} (hk0 : mK μ h0 = 4) (hf : fX3_doTurns h0 x1 μ = some res) : Met l yX3_doTurns [.code yX3_doTurns cX3_doTurns 5 (some (.int))] rmX3_doTurns (mmPc G A μ [rf h0, .int x1]) (mmQ G A res.2 (some (.int res.1))) 0 0 A := by
  refine mm_ofW (by decide +kernel) (by simp [lg_sl, rf_cat, int_cat]) ?_
  intro p e s m below meth c ls S hR hA hS hr hlocks hl hnm
  have hl : lv_has ls 5 [(0, rf h0), (1, .int x1)] := by simpa [lv_args, rf_cat, int_cat] using hl
  have E0 : mmEnv p m c cX3_doTurns 5 s _ RX3 G A meth (some (.int)) := ⟨S, hA, hr, hlocks⟩
  have hK : mmKN μ μ := mmKN.rf
  unfold fX3_doTurns at hf
  refine lv_iconst (v := 0) S.1 S.2.1 dX3_doTurns_0 (by decide) ?_
  refine lv_istore_n (i := 2) (lv' := [(2, .int 0), (0, rf h0), (1, .int x1)]) S.1 S.2.1 dX3_doTurns_1 rfl hl (by decide) rfl (fun ls hl => ?_)
  exact wlX3_doTurns_2 E0  FU h0 x1 0 μ hf _ _ _ hR hS (lv_sub hl [1, 2, 0] rfl)
-- X3_oneTick
def bX3_oneTick_14 (kk14 : Nat → Int32 → Int32 → MM → Option (Int32 × MM)) (h0 : Nat) (x1 : Int32) (x2 : Int32) (μ : MM) : Option (Int32 × MM) :=
  if mK μ h0 = 4 then if (mI μ h0 5) ≤ x2 then (some (x1, μ)) else ((fX3_at h0 x2 μ).bind fun y3 => if mK μ y3.1 = 3 then if (mI y3.2 y3.1 4) = (1 : Int32) then (if (mI y3.2 y3.1 12) = (mI y3.2 h0 6) then (st (sI y3.2 y3.1 12 (-1)) fun μ7 => if mK μ (mP μ7 h0 3) = 5 then (fX4_add (mP μ7 h0 3) x2 μ7).bind fun y8 => kk14 h0 (x1 + 1) (x2 + 1) y8 else none) else (kk14 h0 x1 (x2 + 1) y3.2)) else (kk14 h0 x1 (x2 + 1) y3.2) else none) else none
def lX3_oneTick_14  : Nat → Nat → Int32 → Int32 → MM → Option (Int32 × MM)
  | 0, _, _, _, _ => none
  | n + 1, h0, x1, x2, μ => bX3_oneTick_14  (fun h0 x1 x2 μ => lX3_oneTick_14  n h0 x1 x2 μ) h0 x1 x2 μ
def fX3_oneTick (h0 : Nat) (μ : MM) : Option (Int32 × MM) :=
  st (sI μ h0 6 ((mI μ h0 6) + 1)) fun μ1 => lX3_oneTick_14  FU h0 0 0 μ1
set_option maxRecDepth 100000 in
set_option maxHeartbeats 4000000 in
theorem knbX3_oneTick_14 (kk14 : Nat → Int32 → Int32 → MM → Option (Int32 × MM)) (hkk14 : ∀ (h0 : Nat) (x1 : Int32) (x2 : Int32) (μ : MM) (res : Int32 × MM), kk14 h0 x1 x2 μ = some res → mmKN μ res.2) : ∀ (h0 : Nat) (x1 : Int32) (x2 : Int32) (μ : MM) (res : Int32 × MM), bX3_oneTick_14 kk14 h0 x1 x2 μ = some res → mmKN μ res.2 := by
  intro h0 x1 x2 μ res hf
  have hK : mmKN μ μ := mmKN.rf
  unfold bX3_oneTick_14 at hf
  obtain ⟨g1, hf⟩ := gd hf
  rcases it_or hf with ⟨c2, hf⟩ | ⟨c2, hf⟩
  · skip
    obtain rfl := Option.some.inj hf
    exact hK
  · skip
    obtain ⟨y3, hy3, hf⟩ := bd hf
    have hK : mmKN μ y3.2 := hK.tr (kX3_at_kn hy3)
    obtain ⟨g4, hf⟩ := gd hf
    rcases it_or hf with ⟨c5, hf⟩ | ⟨c5, hf⟩
    · skip
      rcases it_or hf with ⟨c6, hf⟩ | ⟨c6, hf⟩
      · skip
        obtain ⟨μ7, e7, hf⟩ := stx hf
        have hK : mmKN μ μ7 := by rw [e7]; exact hK.sI
        obtain ⟨g9, hf⟩ := gd hf
        obtain ⟨y8, hy8, hf⟩ := bd hf
        have hK : mmKN μ y8 := hK.tr (kX4_add_kn hy8)
        exact hK.tr (hkk14 h0 (x1 + 1) (x2 + 1) y8 _ hf)
      · skip
        exact hK.tr (hkk14 h0 x1 (x2 + 1) y3.2 _ hf)
    · skip
      exact hK.tr (hkk14 h0 x1 (x2 + 1) y3.2 _ hf)
theorem knlX3_oneTick_14  : ∀ (n : Nat) (h0 : Nat) (x1 : Int32) (x2 : Int32) (μ : MM) (res : Int32 × MM), lX3_oneTick_14  n h0 x1 x2 μ = some res → mmKN μ res.2 := by
  intro n
  induction n with
  | zero => intro h0 x1 x2 μ res hf; cases hf
  | succ n ih => intro h0 x1 x2 μ res hf; exact knbX3_oneTick_14  _ ih h0 x1 x2 μ res hf
set_option maxRecDepth 100000 in
set_option maxHeartbeats 4000000 in
theorem kX3_oneTick_kn {μ : MM} {res : Int32 × MM} {h0 : Nat} (hf : fX3_oneTick h0 μ = some res) : mmKN μ res.2 := by
  have hK : mmKN μ μ := mmKN.rf
  unfold fX3_oneTick at hf
  obtain ⟨μ1, e1, hf⟩ := stx hf
  have hK : mmKN μ μ1 := by rw [e1]; exact hK.sI
  exact hK.tr (knlX3_oneTick_14  FU h0 0 0 μ1 _ hf)
abbrev rmX3_oneTick : Room := { frames := 1, cells := 0, slots := 0, locals := 21 }
set_option maxRecDepth 100000 in
set_option maxHeartbeats 4000000 in
theorem wbX3_oneTick_14 {p : Program} {l : Launch} {e : Env} {s : State} {m : MethodId} {args : Array Value} {below : List Frame} {meth : Method} {c : Code} {G : mmG} {A : Nat → Prop} {res : Int32 × MM} (E0 : mmEnv p m c cX3_oneTick 4 s args RX3 G A meth (some (.int))) (kk14 : Nat → Int32 → Int32 → MM → Option (Int32 × MM)) (hkk14 : ∀ (h0 : Nat) (x1 : Int32) (x2 : Int32) (μ : MM), kk14 h0 x1 x2 μ = some res → mmGoal p l e rmX3_oneTick s m args below meth c G A 14 4 [(0, rf h0), (1, .int x1), (2, .int x2)] μ (mmQ G A res.2 (some (.int res.1)))) : ∀ (h0 : Nat) (x1 : Int32) (x2 : Int32) (μ : MM), bX3_oneTick_14 kk14 h0 x1 x2 μ = some res → mmGoal p l e rmX3_oneTick s m args below meth c G A 14 4 [(0, rf h0), (1, .int x1), (2, .int x2)] μ (mmQ G A res.2 (some (.int res.1))) := by
  obtain ⟨S, hA, hr, hlocks⟩ := id E0
  intro h0 x1 x2 μ hf H locs ls hR hS hl
  have hK : mmKN μ μ := mmKN.rf
  unfold bX3_oneTick_14 at hf
  refine lv_iload_n S.1 S.2.1 dX3_oneTick_14 rfl (lv_at hl 2 rfl) ?_
  refine mm_aload_n S dX3_oneTick_15 rfl (lv_at hl 0 rfl) ?_
  obtain ⟨g1, hf⟩ := gd hf
  refine mm_geti S hR fdX3_41 (hK.k g1) rfl dX3_oneTick_16 ?_
  refine lv_icmp_ge (tgt := 69) S.1 S.2.1 dX3_oneTick_19 (by decide) (fun c2 => ?_) (fun c2 => ?_)
  · have hf := it_t hf c2
    refine lv_iload_n S.1 S.2.1 dX3_oneTick_69 rfl (lv_at hl 1 rfl) ?_
    obtain rfl := Option.some.inj hf
    exact mm_iret S hR hS hr hlocks dX3_oneTick_70
  · have hf := it_f hf c2
    refine mm_aload_n S dX3_oneTick_22 rfl (lv_at hl 0 rfl) ?_
    refine lv_iload_n S.1 S.2.1 dX3_oneTick_23 rfl (lv_at hl 2 rfl) ?_
    obtain ⟨y3, hy3, hf⟩ := bd hf
    refine mm_callVh S hR hS hA (As := [.int x2]) (rest := []) cvX3_55 (hK.k g1) (kX3_at_c l G A (hK.k g1) hy3) rfl rfl ⟨Nat.le_of_ble_eq_true rfl, Nat.le_of_ble_eq_true rfl⟩ rfl hl.1 rfl (lv_room (by simp [rf_cat, int_cat])) dX3_oneTick_24 ⟨Nat.le_refl _, Nat.le_refl _⟩ (fun H locs hR hS => ?_)
    have hK : mmKN μ y3.2 := hK.tr (kX3_at_kn hy3)
    refine mm_astore_n (i := 3) (lv' := [(3, rf y3.1), (0, rf h0), (1, .int x1), (2, .int x2)]) S dX3_oneTick_27 rfl hl (by decide) rfl (fun ls hl => ?_)
    refine mm_aload_n S dX3_oneTick_28 rfl (lv_at hl 0 rfl) ?_
    obtain ⟨g4, hf⟩ := gd hf
    refine mm_geti S hR fdX3_62 (hK.k g4) rfl dX3_oneTick_29 ?_
    refine lv_iconst (v := 1) S.1 S.2.1 dX3_oneTick_32 (by decide) ?_
    refine lv_icmp_ne (tgt := 63) S.1 S.2.1 dX3_oneTick_33 (by decide) (fun c5 => ?_) (fun c5 => ?_)
    · have hf := it_f hf c5
      refine lv_iinc (v := (x2 + 1)) (lv' := [(2, .int (x2 + 1)), (3, rf y3.1), (0, rf h0), (1, .int x1)]) S.1 S.2.1 dX3_oneTick_63 hl (k := 3) rfl (by rfl) (by decide) rfl (fun ls hl => ?_)
      refine lv_goto (tgt := 14) S.1 S.2.1 dX3_oneTick_66 (by decide) ?_
      exact hkk14 h0 x1 (x2 + 1) y3.2 hf _ _ _ hR hS (lv_sub hl [2, 3, 0] rfl)
    · have hf := it_t hf c5
      refine mm_aload_n S dX3_oneTick_36 rfl (lv_at hl 0 rfl) ?_
      refine mm_geti S hR fdX3_196 (hK.k g4) rfl dX3_oneTick_37 ?_
      refine mm_aload_n S dX3_oneTick_40 rfl (lv_at hl 1 rfl) ?_
      refine mm_geti S hR fdX3_45 (hK.k g1) rfl dX3_oneTick_41 ?_
      refine lv_icmp_ne (tgt := 63) S.1 S.2.1 dX3_oneTick_44 (by decide) (fun c6 => ?_) (fun c6 => ?_)
      · have hf := it_f hf c6
        refine lv_iinc (v := (x2 + 1)) (lv' := [(2, .int (x2 + 1)), (3, rf y3.1), (0, rf h0), (1, .int x1)]) S.1 S.2.1 dX3_oneTick_63 hl (k := 3) rfl (by rfl) (by decide) rfl (fun ls hl => ?_)
        refine lv_goto (tgt := 14) S.1 S.2.1 dX3_oneTick_66 (by decide) ?_
        exact hkk14 h0 x1 (x2 + 1) y3.2 hf _ _ _ hR hS (lv_sub hl [2, 3, 0] rfl)
      · have hf := it_t hf c6
        refine mm_aload_n S dX3_oneTick_47 rfl (lv_at hl 0 rfl) ?_
        refine lv_iconst (v := (-1)) S.1 S.2.1 dX3_oneTick_48 (by decide) ?_
        refine mm_puti S hR hS fpX3_196 (hK.k g4) rfl rfl rfl dX3_oneTick_49 (fun H locs hR hS => ?_)
        obtain ⟨μ7, e7, hf⟩ := stx hf
        rw [← e7] at hR
        have hK : mmKN μ μ7 := by rw [e7]; exact hK.sI
        refine mm_aload_n S dX3_oneTick_52 rfl (lv_at hl 1 rfl) ?_
        refine mm_getp S hR fdX3_27 (hK.k g1) rfl dX3_oneTick_53 ?_
        refine lv_iload_n S.1 S.2.1 dX3_oneTick_56 rfl (lv_at hl 3 rfl) ?_
        obtain ⟨g9, hf⟩ := gd hf
        obtain ⟨y8, hy8, hf⟩ := bd hf
        refine mm_callVv S hR hS hA (As := [.int x2]) (rest := []) cvX3_104 (hK.k g9) (kX4_add_c l G A (hK.k g9) hy8) rfl rfl ⟨Nat.le_of_ble_eq_true rfl, Nat.le_of_ble_eq_true rfl⟩ rfl hl.1 rfl (lv_room (by simp [rf_cat, int_cat])) dX3_oneTick_57 ⟨Nat.le_refl _, Nat.le_refl _⟩ (fun H locs hR hS => ?_)
        have hK : mmKN μ y8 := hK.tr (kX4_add_kn hy8)
        refine lv_iinc (v := (x1 + 1)) (lv' := [(1, .int (x1 + 1)), (3, rf y3.1), (0, rf h0), (2, .int x2)]) S.1 S.2.1 dX3_oneTick_60 hl (k := 2) rfl (by rfl) (by decide) (by simp [rf_cat]) (fun ls hl => ?_)
        refine lv_iinc (v := (x2 + 1)) (lv' := [(2, .int (x2 + 1)), (1, .int (x1 + 1)), (3, rf y3.1), (0, rf h0)]) S.1 S.2.1 dX3_oneTick_63 hl (k := 3) rfl (by rfl) (by decide) rfl (fun ls hl => ?_)
        refine lv_goto (tgt := 14) S.1 S.2.1 dX3_oneTick_66 (by decide) ?_
        exact hkk14 h0 (x1 + 1) (x2 + 1) y8 hf _ _ _ hR hS (lv_sub hl [3, 1, 0] rfl)
theorem wlX3_oneTick_14 {p : Program} {l : Launch} {e : Env} {s : State} {m : MethodId} {args : Array Value} {below : List Frame} {meth : Method} {c : Code} {G : mmG} {A : Nat → Prop} {res : Int32 × MM} (E0 : mmEnv p m c cX3_oneTick 4 s args RX3 G A meth (some (.int)))  : ∀ (n : Nat) (h0 : Nat) (x1 : Int32) (x2 : Int32) (μ : MM), lX3_oneTick_14  n h0 x1 x2 μ = some res → mmGoal p l e rmX3_oneTick s m args below meth c G A 14 4 [(0, rf h0), (1, .int x1), (2, .int x2)] μ (mmQ G A res.2 (some (.int res.1))) := by
  intro n
  induction n with
  | zero => intro h0 x1 x2 μ hf; cases hf
  | succ n ih => intro h0 x1 x2 μ hf; exact wbX3_oneTick_14 E0  _ ih h0 x1 x2 μ hf
set_option maxRecDepth 100000 in
set_option maxHeartbeats 4000000 in
theorem kX3_oneTick_c (l : Launch) (G : mmG) (A : Nat → Prop) {μ : MM} {res : Int32 × MM} {h0 : Nat} (hk0 : mK μ h0 = 4) (hf : fX3_oneTick h0 μ = some res) : Met l yX3_oneTick [.code yX3_oneTick cX3_oneTick 4 (some (.int))] rmX3_oneTick (mmPc G A μ [rf h0]) (mmQ G A res.2 (some (.int res.1))) 0 0 A := by
  refine mm_ofW (by decide +kernel) (by simp [lg_sl, rf_cat, int_cat]) ?_
  intro p e s m below meth c ls S hR hA hS hr hlocks hl hnm
  have hl : lv_has ls 4 [(0, rf h0)] := by simpa [lv_args, rf_cat, int_cat] using hl
  have E0 : mmEnv p m c cX3_oneTick 4 s _ RX3 G A meth (some (.int)) := ⟨S, hA, hr, hlocks⟩
  have hK : mmKN μ μ := mmKN.rf
  unfold fX3_oneTick at hf
  refine mm_aload_n S dX3_oneTick_0 rfl (lv_at hl 0 rfl) ?_
  refine lv_dup S.1 S.2.1 dX3_oneTick_1 (rf_cat _) ?_
  refine mm_geti S hR fdX3_45 (hK.k hk0) rfl dX3_oneTick_2 ?_
  refine lv_iconst (v := 1) S.1 S.2.1 dX3_oneTick_5 (by decide) ?_
  refine lv_iadd S.1 S.2.1 dX3_oneTick_6 ?_
  refine mm_puti S hR hS fpX3_45 (hK.k hk0) rfl rfl rfl dX3_oneTick_7 (fun H locs hR hS => ?_)
  obtain ⟨μ1, e1, hf⟩ := stx hf
  rw [← e1] at hR
  have hK : mmKN μ μ1 := by rw [e1]; exact hK.sI
  refine lv_iconst (v := 0) S.1 S.2.1 dX3_oneTick_10 (by decide) ?_
  refine lv_istore_n (i := 1) (lv' := [(1, .int 0), (0, rf h0)]) S.1 S.2.1 dX3_oneTick_11 rfl hl (by decide) (by simp [rf_cat]) (fun ls hl => ?_)
  refine lv_iconst (v := 0) S.1 S.2.1 dX3_oneTick_12 (by decide) ?_
  refine lv_istore_n (i := 2) (lv' := [(2, .int 0), (1, .int 0), (0, rf h0)]) S.1 S.2.1 dX3_oneTick_13 rfl hl (by decide) rfl (fun ls hl => ?_)
  exact wlX3_oneTick_14 E0  FU h0 0 0 μ1 hf _ _ _ hR hS (lv_sub hl [2, 1, 0] rfl)
end
