-- ===== PART A: goes FIRST, ahead of the names: the tables' words, and 'selects' of the private methods out of them =====
/-- a private method of a class that the tables say can be made, by its rows of tables_1 -/
def lw_okq (q : MethodName × Nat) : Prop := (q.1.cls ≠ "java/lang/invoke/MethodHandle" ∧ q.1.cls ≠ "java/lang/invoke/VarHandle") ∧ Cond.instantiable q.1.cls q.2 ∈ tables_1 ∧ Cond.privateMethod q.1 ∈ tables_1 ∧ Cond.instanceMethod q.1 ∈ tables_1
theorem lw_p0 : lw_okq (⟨"FileRounds$Script", "readItem", "(LFileRounds$Plan;)Z"⟩, 3) := ⟨⟨by decide +kernel, by decide +kernel⟩, List.mem_of_getElem? (i := 23) (by decide +kernel), List.mem_of_getElem? (i := 296) (by decide +kernel), List.mem_of_getElem? (i := 297) (by decide +kernel)⟩
theorem lw_p1 : lw_okq (⟨"FileRounds$Script", "takes", "(I)Z"⟩, 3) := ⟨⟨by decide +kernel, by decide +kernel⟩, List.mem_of_getElem? (i := 23) (by decide +kernel), List.mem_of_getElem? (i := 300) (by decide +kernel), List.mem_of_getElem? (i := 301) (by decide +kernel)⟩
theorem lw_p2 : lw_okq (⟨"FileRounds$Script", "readFile", "(LFileRounds$Plan;)Z"⟩, 3) := ⟨⟨by decide +kernel, by decide +kernel⟩, List.mem_of_getElem? (i := 23) (by decide +kernel), List.mem_of_getElem? (i := 304) (by decide +kernel), List.mem_of_getElem? (i := 305) (by decide +kernel)⟩
theorem lw_p3 : lw_okq (⟨"FileRounds$Script", "readNumber", "(I)I"⟩, 3) := ⟨⟨by decide +kernel, by decide +kernel⟩, List.mem_of_getElem? (i := 23) (by decide +kernel), List.mem_of_getElem? (i := 308) (by decide +kernel), List.mem_of_getElem? (i := 309) (by decide +kernel)⟩
theorem lw_p4 : lw_okq (⟨"FileRounds$Script", "readFigure", "()I"⟩, 3) := ⟨⟨by decide +kernel, by decide +kernel⟩, List.mem_of_getElem? (i := 23) (by decide +kernel), List.mem_of_getElem? (i := 312) (by decide +kernel), List.mem_of_getElem? (i := 313) (by decide +kernel)⟩
theorem lw_p5 : lw_okq (⟨"FileRounds$Script", "readTable", "(LFileRounds$Plan;)Z"⟩, 3) := ⟨⟨by decide +kernel, by decide +kernel⟩, List.mem_of_getElem? (i := 23) (by decide +kernel), List.mem_of_getElem? (i := 317) (by decide +kernel), List.mem_of_getElem? (i := 318) (by decide +kernel)⟩
theorem lw_p6 : lw_okq (⟨"FileRounds$Sender", "note", "(III)V"⟩, 12) := ⟨⟨by decide +kernel, by decide +kernel⟩, List.mem_of_getElem? (i := 94) (by decide +kernel), List.mem_of_getElem? (i := 371) (by decide +kernel), List.mem_of_getElem? (i := 372) (by decide +kernel)⟩
theorem lw_p7 : lw_okq (⟨"FileRounds$Sender", "chooseFile", "()I"⟩, 12) := ⟨⟨by decide +kernel, by decide +kernel⟩, List.mem_of_getElem? (i := 94) (by decide +kernel), List.mem_of_getElem? (i := 381) (by decide +kernel), List.mem_of_getElem? (i := 382) (by decide +kernel)⟩
theorem lw_p8 : lw_okq (⟨"FileRounds$Sender", "sendSymbol", "(I)V"⟩, 12) := ⟨⟨by decide +kernel, by decide +kernel⟩, List.mem_of_getElem? (i := 94) (by decide +kernel), List.mem_of_getElem? (i := 389) (by decide +kernel), List.mem_of_getElem? (i := 390) (by decide +kernel)⟩
theorem lw_p9 : lw_okq (⟨"FileRounds$Listener", "loses", "(I)Z"⟩, 8) := ⟨⟨by decide +kernel, by decide +kernel⟩, List.mem_of_getElem? (i := 147) (by decide +kernel), List.mem_of_getElem? (i := 401) (by decide +kernel), List.mem_of_getElem? (i := 402) (by decide +kernel)⟩
theorem lw_p10 : lw_okq (⟨"FileRounds$Listener", "takeTable", "([II)V"⟩, 8) := ⟨⟨by decide +kernel, by decide +kernel⟩, List.mem_of_getElem? (i := 147) (by decide +kernel), List.mem_of_getElem? (i := 413) (by decide +kernel), List.mem_of_getElem? (i := 414) (by decide +kernel)⟩
theorem lw_p11 : lw_okq (⟨"FileRounds$Listener", "takeSymbol", "(IIII)V"⟩, 8) := ⟨⟨by decide +kernel, by decide +kernel⟩, List.mem_of_getElem? (i := 147) (by decide +kernel), List.mem_of_getElem? (i := 429) (by decide +kernel), List.mem_of_getElem? (i := 430) (by decide +kernel)⟩
theorem lw_p12 : lw_okq (⟨"FileRounds$Forecast", "seenAs", "(II)I"⟩, 5) := ⟨⟨by decide +kernel, by decide +kernel⟩, List.mem_of_getElem? (i := 228) (by decide +kernel), List.mem_of_getElem? (i := 544) (by decide +kernel), List.mem_of_getElem? (i := 545) (by decide +kernel)⟩
theorem lw_p13 : lw_okq (⟨"FileRoundsModel", "laysFile", "(IIII)V"⟩, 9) := ⟨⟨by decide +kernel, by decide +kernel⟩, List.mem_of_getElem? (i := 565) (by decide +kernel), List.mem_of_getElem? (i := 571) (by decide +kernel), List.mem_of_getElem? (i := 572) (by decide +kernel)⟩
theorem lw_p14 : lw_okq (⟨"FileRoundsModel", "begins", "(II)V"⟩, 9) := ⟨⟨by decide +kernel, by decide +kernel⟩, List.mem_of_getElem? (i := 565) (by decide +kernel), List.mem_of_getElem? (i := 575) (by decide +kernel), List.mem_of_getElem? (i := 576) (by decide +kernel)⟩
theorem lw_p15 : lw_okq (⟨"FileRoundsModel", "faultIs", "()I"⟩, 9) := ⟨⟨by decide +kernel, by decide +kernel⟩, List.mem_of_getElem? (i := 565) (by decide +kernel), List.mem_of_getElem? (i := 622) (by decide +kernel), List.mem_of_getElem? (i := 623) (by decide +kernel)⟩
def lw_privs_1 : List (MethodName × Nat) := [(⟨"FileRounds$Script", "readItem", "(LFileRounds$Plan;)Z"⟩, 3), (⟨"FileRounds$Script", "takes", "(I)Z"⟩, 3), (⟨"FileRounds$Script", "readFile", "(LFileRounds$Plan;)Z"⟩, 3), (⟨"FileRounds$Script", "readNumber", "(I)I"⟩, 3), (⟨"FileRounds$Script", "readFigure", "()I"⟩, 3), (⟨"FileRounds$Script", "readTable", "(LFileRounds$Plan;)Z"⟩, 3), (⟨"FileRounds$Sender", "note", "(III)V"⟩, 12), (⟨"FileRounds$Sender", "chooseFile", "()I"⟩, 12), (⟨"FileRounds$Sender", "sendSymbol", "(I)V"⟩, 12), (⟨"FileRounds$Listener", "loses", "(I)Z"⟩, 8), (⟨"FileRounds$Listener", "takeTable", "([II)V"⟩, 8), (⟨"FileRounds$Listener", "takeSymbol", "(IIII)V"⟩, 8), (⟨"FileRounds$Forecast", "seenAs", "(II)I"⟩, 5), (⟨"FileRoundsModel", "laysFile", "(IIII)V"⟩, 9), (⟨"FileRoundsModel", "begins", "(II)V"⟩, 9), (⟨"FileRoundsModel", "faultIs", "()I"⟩, 9)]
theorem lw_r1 : ∀ q ∈ lw_privs_1, lw_okq q := List.forall_mem_cons.mpr ⟨lw_p0, List.forall_mem_cons.mpr ⟨lw_p1, List.forall_mem_cons.mpr ⟨lw_p2, List.forall_mem_cons.mpr ⟨lw_p3, List.forall_mem_cons.mpr ⟨lw_p4, List.forall_mem_cons.mpr ⟨lw_p5, List.forall_mem_cons.mpr ⟨lw_p6, List.forall_mem_cons.mpr ⟨lw_p7, List.forall_mem_cons.mpr ⟨lw_p8, List.forall_mem_cons.mpr ⟨lw_p9, List.forall_mem_cons.mpr ⟨lw_p10, List.forall_mem_cons.mpr ⟨lw_p11, List.forall_mem_cons.mpr ⟨lw_p12, List.forall_mem_cons.mpr ⟨lw_p13, List.forall_mem_cons.mpr ⟨lw_p14, List.forall_mem_cons.mpr ⟨lw_p15, fun _ h => absurd h List.not_mem_nil⟩⟩⟩⟩⟩⟩⟩⟩⟩⟩⟩⟩⟩⟩⟩⟩
theorem lw_p16 : lw_okq (⟨"FileRoundsModel", "here", "()I"⟩, 9) := ⟨⟨by decide +kernel, by decide +kernel⟩, List.mem_of_getElem? (i := 565) (by decide +kernel), List.mem_of_getElem? (i := 626) (by decide +kernel), List.mem_of_getElem? (i := 627) (by decide +kernel)⟩
theorem lw_p17 : lw_okq (⟨"FileRoundsModel", "passesFile", "()Z"⟩, 9) := ⟨⟨by decide +kernel, by decide +kernel⟩, List.mem_of_getElem? (i := 565) (by decide +kernel), List.mem_of_getElem? (i := 630) (by decide +kernel), List.mem_of_getElem? (i := 631) (by decide +kernel)⟩
theorem lw_p18 : lw_okq (⟨"FileRoundsModel", "passes", "(III)Z"⟩, 9) := ⟨⟨by decide +kernel, by decide +kernel⟩, List.mem_of_getElem? (i := 565) (by decide +kernel), List.mem_of_getElem? (i := 634) (by decide +kernel), List.mem_of_getElem? (i := 635) (by decide +kernel)⟩
theorem lw_p19 : lw_okq (⟨"FileRoundsModel", "passesTable", "()Z"⟩, 9) := ⟨⟨by decide +kernel, by decide +kernel⟩, List.mem_of_getElem? (i := 565) (by decide +kernel), List.mem_of_getElem? (i := 638) (by decide +kernel), List.mem_of_getElem? (i := 639) (by decide +kernel)⟩
theorem lw_p20 : lw_okq (⟨"FileRoundsModel", "copies", "(II)V"⟩, 9) := ⟨⟨by decide +kernel, by decide +kernel⟩, List.mem_of_getElem? (i := 565) (by decide +kernel), List.mem_of_getElem? (i := 650) (by decide +kernel), List.mem_of_getElem? (i := 651) (by decide +kernel)⟩
theorem lw_p21 : lw_okq (⟨"FileRoundsModel", "minds", "()V"⟩, 9) := ⟨⟨by decide +kernel, by decide +kernel⟩, List.mem_of_getElem? (i := 565) (by decide +kernel), List.mem_of_getElem? (i := 658) (by decide +kernel), List.mem_of_getElem? (i := 659) (by decide +kernel)⟩
theorem lw_p22 : lw_okq (⟨"FileRoundsModel", "ticks", "(I)I"⟩, 9) := ⟨⟨by decide +kernel, by decide +kernel⟩, List.mem_of_getElem? (i := 565) (by decide +kernel), List.mem_of_getElem? (i := 662) (by decide +kernel), List.mem_of_getElem? (i := 663) (by decide +kernel)⟩
theorem lw_p23 : lw_okq (⟨"FileRoundsModel", "sendsNext", "(I)I"⟩, 9) := ⟨⟨by decide +kernel, by decide +kernel⟩, List.mem_of_getElem? (i := 565) (by decide +kernel), List.mem_of_getElem? (i := 666) (by decide +kernel), List.mem_of_getElem? (i := 667) (by decide +kernel)⟩
theorem lw_p24 : lw_okq (⟨"FileRoundsModel", "logs", "(IIII)V"⟩, 9) := ⟨⟨by decide +kernel, by decide +kernel⟩, List.mem_of_getElem? (i := 565) (by decide +kernel), List.mem_of_getElem? (i := 670) (by decide +kernel), List.mem_of_getElem? (i := 671) (by decide +kernel)⟩
theorem lw_p25 : lw_okq (⟨"FileRoundsModel", "isLost", "(II)Z"⟩, 9) := ⟨⟨by decide +kernel, by decide +kernel⟩, List.mem_of_getElem? (i := 565) (by decide +kernel), List.mem_of_getElem? (i := 674) (by decide +kernel), List.mem_of_getElem? (i := 675) (by decide +kernel)⟩
theorem lw_p26 : lw_okq (⟨"FileRoundsModel", "hearsTable", "(II)V"⟩, 9) := ⟨⟨by decide +kernel, by decide +kernel⟩, List.mem_of_getElem? (i := 565) (by decide +kernel), List.mem_of_getElem? (i := 682) (by decide +kernel), List.mem_of_getElem? (i := 683) (by decide +kernel)⟩
theorem lw_p27 : lw_okq (⟨"FileRoundsModel", "hearsSymbol", "(IIII)V"⟩, 9) := ⟨⟨by decide +kernel, by decide +kernel⟩, List.mem_of_getElem? (i := 565) (by decide +kernel), List.mem_of_getElem? (i := 686) (by decide +kernel), List.mem_of_getElem? (i := 687) (by decide +kernel)⟩
theorem lw_p28 : lw_okq (⟨"FileRoundsModel", "isFile", "(I)Z"⟩, 9) := ⟨⟨by decide +kernel, by decide +kernel⟩, List.mem_of_getElem? (i := 565) (by decide +kernel), List.mem_of_getElem? (i := 694) (by decide +kernel), List.mem_of_getElem? (i := 695) (by decide +kernel)⟩
theorem lw_p29 : lw_okq (⟨"FileRoundsModel", "isListener", "(I)Z"⟩, 9) := ⟨⟨by decide +kernel, by decide +kernel⟩, List.mem_of_getElem? (i := 565) (by decide +kernel), List.mem_of_getElem? (i := 710) (by decide +kernel), List.mem_of_getElem? (i := 711) (by decide +kernel)⟩
theorem lw_p30 : lw_okq (⟨"FileRoundsModel", "lacks", "(II)I"⟩, 9) := ⟨⟨by decide +kernel, by decide +kernel⟩, List.mem_of_getElem? (i := 565) (by decide +kernel), List.mem_of_getElem? (i := 714) (by decide +kernel), List.mem_of_getElem? (i := 715) (by decide +kernel)⟩
theorem lw_p31 : lw_okq (⟨"FileRoundsModel", "knows", "(I)Z"⟩, 9) := ⟨⟨by decide +kernel, by decide +kernel⟩, List.mem_of_getElem? (i := 565) (by decide +kernel), List.mem_of_getElem? (i := 721) (by decide +kernel), List.mem_of_getElem? (i := 722) (by decide +kernel)⟩
def lw_privs_2 : List (MethodName × Nat) := [(⟨"FileRoundsModel", "here", "()I"⟩, 9), (⟨"FileRoundsModel", "passesFile", "()Z"⟩, 9), (⟨"FileRoundsModel", "passes", "(III)Z"⟩, 9), (⟨"FileRoundsModel", "passesTable", "()Z"⟩, 9), (⟨"FileRoundsModel", "copies", "(II)V"⟩, 9), (⟨"FileRoundsModel", "minds", "()V"⟩, 9), (⟨"FileRoundsModel", "ticks", "(I)I"⟩, 9), (⟨"FileRoundsModel", "sendsNext", "(I)I"⟩, 9), (⟨"FileRoundsModel", "logs", "(IIII)V"⟩, 9), (⟨"FileRoundsModel", "isLost", "(II)Z"⟩, 9), (⟨"FileRoundsModel", "hearsTable", "(II)V"⟩, 9), (⟨"FileRoundsModel", "hearsSymbol", "(IIII)V"⟩, 9), (⟨"FileRoundsModel", "isFile", "(I)Z"⟩, 9), (⟨"FileRoundsModel", "isListener", "(I)Z"⟩, 9), (⟨"FileRoundsModel", "lacks", "(II)I"⟩, 9), (⟨"FileRoundsModel", "knows", "(I)Z"⟩, 9)]
theorem lw_r2 : ∀ q ∈ lw_privs_2, lw_okq q := List.forall_mem_cons.mpr ⟨lw_p16, List.forall_mem_cons.mpr ⟨lw_p17, List.forall_mem_cons.mpr ⟨lw_p18, List.forall_mem_cons.mpr ⟨lw_p19, List.forall_mem_cons.mpr ⟨lw_p20, List.forall_mem_cons.mpr ⟨lw_p21, List.forall_mem_cons.mpr ⟨lw_p22, List.forall_mem_cons.mpr ⟨lw_p23, List.forall_mem_cons.mpr ⟨lw_p24, List.forall_mem_cons.mpr ⟨lw_p25, List.forall_mem_cons.mpr ⟨lw_p26, List.forall_mem_cons.mpr ⟨lw_p27, List.forall_mem_cons.mpr ⟨lw_p28, List.forall_mem_cons.mpr ⟨lw_p29, List.forall_mem_cons.mpr ⟨lw_p30, List.forall_mem_cons.mpr ⟨lw_p31, fun _ h => absurd h List.not_mem_nil⟩⟩⟩⟩⟩⟩⟩⟩⟩⟩⟩⟩⟩⟩⟩⟩
theorem lw_p32 : lw_okq (⟨"FileRoundsModel", "partBits", "(I)I"⟩, 9) := ⟨⟨by decide +kernel, by decide +kernel⟩, List.mem_of_getElem? (i := 565) (by decide +kernel), List.mem_of_getElem? (i := 729) (by decide +kernel), List.mem_of_getElem? (i := 730) (by decide +kernel)⟩
theorem lw_p33 : lw_okq (⟨"FileRoundsModel", "wholes", "(I)I"⟩, 9) := ⟨⟨by decide +kernel, by decide +kernel⟩, List.mem_of_getElem? (i := 565) (by decide +kernel), List.mem_of_getElem? (i := 751) (by decide +kernel), List.mem_of_getElem? (i := 752) (by decide +kernel)⟩
theorem lw_p34 : lw_okq (⟨"FileRoundsModel", "waitIs", "(II)I"⟩, 9) := ⟨⟨by decide +kernel, by decide +kernel⟩, List.mem_of_getElem? (i := 565) (by decide +kernel), List.mem_of_getElem? (i := 763) (by decide +kernel), List.mem_of_getElem? (i := 764) (by decide +kernel)⟩
theorem lw_p35 : lw_okq (⟨"FileRoundsModel", "waitsFrom", "(I)I"⟩, 9) := ⟨⟨by decide +kernel, by decide +kernel⟩, List.mem_of_getElem? (i := 565) (by decide +kernel), List.mem_of_getElem? (i := 767) (by decide +kernel), List.mem_of_getElem? (i := 768) (by decide +kernel)⟩
def lw_privs_3 : List (MethodName × Nat) := [(⟨"FileRoundsModel", "partBits", "(I)I"⟩, 9), (⟨"FileRoundsModel", "wholes", "(I)I"⟩, 9), (⟨"FileRoundsModel", "waitIs", "(II)I"⟩, 9), (⟨"FileRoundsModel", "waitsFrom", "(I)I"⟩, 9)]
theorem lw_r3 : ∀ q ∈ lw_privs_3, lw_okq q := List.forall_mem_cons.mpr ⟨lw_p32, List.forall_mem_cons.mpr ⟨lw_p33, List.forall_mem_cons.mpr ⟨lw_p34, List.forall_mem_cons.mpr ⟨lw_p35, fun _ h => absurd h List.not_mem_nil⟩⟩⟩⟩
def lw_privs : List (MethodName × Nat) := lw_privs_1 ++ (lw_privs_2 ++ (lw_privs_3))
def lw_tbl : List Cond := k2_sels lw_privs ++ tables_1
theorem lw_privs_ok : ∀ q ∈ lw_privs, lw_okq q := by
  show ∀ q ∈ lw_privs_1 ++ (lw_privs_2 ++ (lw_privs_3)), lw_okq q
  exact List.forall_mem_append.mpr ⟨lw_r1, List.forall_mem_append.mpr ⟨lw_r2, lw_r3⟩⟩
/-- the streams that the claim lets the run draw from -/
abbrev lw_cs : List Choice := [Jvm.Choice.named "NaN.bits"]
theorem lw_bits : nanBits ∈ lw_cs := by first | decide | exact List.mem_cons_self | simp [lw_cs, nanBits]
def RX0 : String := "FileRounds$Forecast"
def TX0 : u_T := fun k => match k with
  | 0 => ("FileRounds$Forecast", "plan", "LFileRounds$Plan;", true)
  | 1 => ("FileRounds$Forecast", "ahead", "LFileRounds$Sender;", true)
  | 2 => ("FileRounds$Forecast", "coming", "[I", true)
  | 3 => ("FileRounds$Forecast", "known", "I", false)
  | _ => ("FileRounds$Forecast", "need", "I", false)
def tyX0 : Nat → FieldType := fun k => match k with
  | 0 => .object "FileRounds$Plan"
  | 1 => .object "FileRounds$Sender"
  | 2 => .array .int
  | 3 => .int
  | _ => .int
theorem nmX0 : ∀ a, a < 5 → ∀ b, b < 5 → a ≠ b → (TX0 a).2.1 ≠ (TX0 b).2.1 := by decide +kernel
theorem tyX0_ok : ∀ k, k < 5 → parseFieldDescriptor (TX0 k).2.2.1 = some (tyX0 k) := by decide +kernel
abbrev cX0_init : ByteArray := prog_2_method_1_code
def yX0_init : MethodName := ⟨RX0, "<init>", "(LFileRounds$Plan;)V"⟩
abbrev cX0_look : ByteArray := prog_2_method_2_code
def yX0_look : MethodName := ⟨RX0, "look", "(LFileRounds$Sender;II)V"⟩
abbrev cX0_seenAs : ByteArray := prog_2_method_3_code
def yX0_seenAs : MethodName := ⟨RX0, "seenAs", "(II)I"⟩
abbrev cX0_waitBehind : ByteArray := prog_2_method_4_code
def yX0_waitBehind : MethodName := ⟨RX0, "waitBehind", "(I)I"⟩
def RX1 : String := "FileRounds$Listener"
def TX1 : u_T := fun k => match k with
  | 0 => ("FileRounds$Listener", "plan", "LFileRounds$Plan;", true)
  | 1 => ("FileRounds$Listener", "number", "I", true)
  | 2 => ("FileRounds$Listener", "held", "[I", true)
  | 3 => ("FileRounds$Listener", "told", "[I", true)
  | 4 => ("FileRounds$Listener", "loss", "I", false)
  | 5 => ("FileRounds$Listener", "came", "I", false)
  | 6 => ("FileRounds$Listener", "livesTo", "I", false)
  | _ => ("FileRounds$Listener", "missed", "I", false)
def tyX1 : Nat → FieldType := fun k => match k with
  | 0 => .object "FileRounds$Plan"
  | 1 => .int
  | 2 => .array .int
  | 3 => .array .int
  | 4 => .int
  | 5 => .int
  | 6 => .int
  | _ => .int
theorem nmX1 : ∀ a, a < 8 → ∀ b, b < 8 → a ≠ b → (TX1 a).2.1 ≠ (TX1 b).2.1 := by decide +kernel
theorem tyX1_ok : ∀ k, k < 8 → parseFieldDescriptor (TX1 k).2.2.1 = some (tyX1 k) := by decide +kernel
abbrev cX1_init : ByteArray := prog_3_method_1_code
def yX1_init : MethodName := ⟨RX1, "<init>", "(LFileRounds$Plan;I)V"⟩
abbrev cX1_enter : ByteArray := prog_3_method_2_code
def yX1_enter : MethodName := ⟨RX1, "enter", "(II)V"⟩
abbrev cX1_become : ByteArray := prog_3_method_3_code
def yX1_become : MethodName := ⟨RX1, "become", "(LFileRounds$Listener;)V"⟩
abbrev cX1_hear : ByteArray := prog_3_method_4_code
def yX1_hear : MethodName := ⟨RX1, "hear", "(LFileRounds$Sender;I)V"⟩
abbrev cX1_loses : ByteArray := prog_3_method_5_code
def yX1_loses : MethodName := ⟨RX1, "loses", "(I)Z"⟩
abbrev cX1_takeTable : ByteArray := prog_3_method_6_code
def yX1_takeTable : MethodName := ⟨RX1, "takeTable", "([II)V"⟩
abbrev cX1_takeSymbol : ByteArray := prog_3_method_7_code
def yX1_takeSymbol : MethodName := ⟨RX1, "takeSymbol", "(IIII)V"⟩
abbrev cX1_knowsIn : ByteArray := prog_3_method_8_code
def yX1_knowsIn : MethodName := ⟨RX1, "knowsIn", "(I)Z"⟩
abbrev cX1_lacks : ByteArray := prog_3_method_9_code
def yX1_lacks : MethodName := ⟨RX1, "lacks", "(I)I"⟩
abbrev cX1_wholeBits : ByteArray := prog_3_method_10_code
def yX1_wholeBits : MethodName := ⟨RX1, "wholeBits", "()I"⟩
abbrev cX1_fillUp : ByteArray := prog_3_method_11_code
def yX1_fillUp : MethodName := ⟨RX1, "fillUp", "(I)I"⟩
def RX2 : String := "FileRounds$Past"
def TX2 : u_T := fun k => match k with
  | 0 => ("FileRounds$Past", "kept", "[LFileRounds$Rounds;", true)
  | 1 => ("FileRounds$Past", "made", "I", false)
  | _ => ("FileRounds$Past", "size", "I", false)
def tyX2 : Nat → FieldType := fun k => match k with
  | 0 => .array (.object "FileRounds$Rounds")
  | 1 => .int
  | _ => .int
theorem nmX2 : ∀ a, a < 3 → ∀ b, b < 3 → a ≠ b → (TX2 a).2.1 ≠ (TX2 b).2.1 := by decide +kernel
theorem tyX2_ok : ∀ k, k < 3 → parseFieldDescriptor (TX2 k).2.2.1 = some (tyX2 k) := by decide +kernel
abbrev cX2_init : ByteArray := prog_4_method_1_code
def yX2_init : MethodName := ⟨RX2, "<init>", "(LFileRounds$Plan;)V"⟩
abbrev cX2_keep : ByteArray := prog_4_method_2_code
def yX2_keep : MethodName := ⟨RX2, "keep", "(LFileRounds$Rounds;)V"⟩
abbrev cX2_giveBack : ByteArray := prog_4_method_3_code
def yX2_giveBack : MethodName := ⟨RX2, "giveBack", "(LFileRounds$Rounds;)Z"⟩
abbrev cX2_forget : ByteArray := prog_4_method_4_code
def yX2_forget : MethodName := ⟨RX2, "forget", "()V"⟩
def RX3 : String := "FileRounds$Plan"
def TX3 : u_T := fun k => match k with
  | 0 => ("FileRounds$Plan", "need", "[I", true)
  | 1 => ("FileRounds$Plan", "spare", "[I", true)
  | 2 => ("FileRounds$Plan", "firstWeight", "[I", true)
  | 3 => ("FileRounds$Plan", "files", "I", false)
  | 4 => ("FileRounds$Plan", "every", "I", false)
  | _ => ("FileRounds$Plan", "life", "I", false)
def tyX3 : Nat → FieldType := fun k => match k with
  | 0 => .array .int
  | 1 => .array .int
  | 2 => .array .int
  | 3 => .int
  | 4 => .int
  | _ => .int
theorem nmX3 : ∀ a, a < 6 → ∀ b, b < 6 → a ≠ b → (TX3 a).2.1 ≠ (TX3 b).2.1 := by decide +kernel
theorem tyX3_ok : ∀ k, k < 6 → parseFieldDescriptor (TX3 k).2.2.1 = some (tyX3 k) := by decide +kernel
abbrev cX3_init : ByteArray := prog_5_method_1_code
def yX3_init : MethodName := ⟨RX3, "<init>", "()V"⟩
abbrev cX3_clear : ByteArray := prog_5_method_2_code
def yX3_clear : MethodName := ⟨RX3, "clear", "()V"⟩
abbrev cX3_addFile : ByteArray := prog_5_method_3_code
def yX3_addFile : MethodName := ⟨RX3, "addFile", "(III)Z"⟩
abbrev cX3_setTable : ByteArray := prog_5_method_4_code
def yX3_setTable : MethodName := ⟨RX3, "setTable", "(II)V"⟩
abbrev cX3_hasFile : ByteArray := prog_5_method_5_code
def yX3_hasFile : MethodName := ⟨RX3, "hasFile", "(I)Z"⟩
abbrev cX3_symbolsOf : ByteArray := prog_5_method_6_code
def yX3_symbolsOf : MethodName := ⟨RX3, "symbolsOf", "(I)I"⟩
abbrev cX3_isTableTurn : ByteArray := prog_5_method_7_code
def yX3_isTableTurn : MethodName := ⟨RX3, "isTableTurn", "(I)Z"⟩
abbrev cX3_become : ByteArray := prog_5_method_8_code
def yX3_become : MethodName := ⟨RX3, "become", "(LFileRounds$Plan;)V"⟩
def RX4 : String := "FileRounds$Rounds"
def TX4 : u_T := fun k => match k with
  | 0 => ("FileRounds$Rounds", "sender", "LFileRounds$Sender;", true)
  | 1 => ("FileRounds$Rounds", "listeners", "[LFileRounds$Listener;", true)
  | _ => ("FileRounds$Rounds", "joined", "I", false)
def tyX4 : Nat → FieldType := fun k => match k with
  | 0 => .object "FileRounds$Sender"
  | 1 => .array (.object "FileRounds$Listener")
  | _ => .int
theorem nmX4 : ∀ a, a < 3 → ∀ b, b < 3 → a ≠ b → (TX4 a).2.1 ≠ (TX4 b).2.1 := by decide +kernel
theorem tyX4_ok : ∀ k, k < 3 → parseFieldDescriptor (TX4 k).2.2.1 = some (tyX4 k) := by decide +kernel
abbrev cX4_init : ByteArray := prog_6_method_1_code
def yX4_init : MethodName := ⟨RX4, "<init>", "(LFileRounds$Plan;)V"⟩
abbrev cX4_begin : ByteArray := prog_6_method_2_code
def yX4_begin : MethodName := ⟨RX4, "begin", "()V"⟩
abbrev cX4_become : ByteArray := prog_6_method_3_code
def yX4_become : MethodName := ⟨RX4, "become", "(LFileRounds$Rounds;)V"⟩
abbrev cX4_hasListener : ByteArray := prog_6_method_4_code
def yX4_hasListener : MethodName := ⟨RX4, "hasListener", "(I)Z"⟩
abbrev cX4_hasRoom : ByteArray := prog_6_method_5_code
def yX4_hasRoom : MethodName := ⟨RX4, "hasRoom", "()Z"⟩
abbrev cX4_addListener : ByteArray := prog_6_method_6_code
def yX4_addListener : MethodName := ⟨RX4, "addListener", "(I)I"⟩
abbrev cX4_advance : ByteArray := prog_6_method_7_code
def yX4_advance : MethodName := ⟨RX4, "advance", "()V"⟩
def RX5 : String := "FileRounds$Script"
def TX5 : u_T := fun k => match k with
  | 0 => ("FileRounds$Script", "letters", "[I", true)
  | 1 => ("FileRounds$Script", "length", "I", false)
  | _ => ("FileRounds$Script", "at", "I", false)
def tyX5 : Nat → FieldType := fun k => match k with
  | 0 => .array .int
  | 1 => .int
  | _ => .int
theorem nmX5 : ∀ a, a < 3 → ∀ b, b < 3 → a ≠ b → (TX5 a).2.1 ≠ (TX5 b).2.1 := by decide +kernel
theorem tyX5_ok : ∀ k, k < 3 → parseFieldDescriptor (TX5 k).2.2.1 = some (tyX5 k) := by decide +kernel
abbrev cX5_init : ByteArray := prog_7_method_1_code
def yX5_init : MethodName := ⟨RX5, "<init>", "()V"⟩
abbrev cX5_append : ByteArray := prog_7_method_2_code
def yX5_append : MethodName := ⟨RX5, "append", "(I)Z"⟩
abbrev cX5_firstFault : ByteArray := prog_7_method_3_code
def yX5_firstFault : MethodName := ⟨RX5, "firstFault", "(LFileRounds$Plan;)I"⟩
abbrev cX5_readItem : ByteArray := prog_7_method_4_code
def yX5_readItem : MethodName := ⟨RX5, "readItem", "(LFileRounds$Plan;)Z"⟩
abbrev cX5_readFile : ByteArray := prog_7_method_5_code
def yX5_readFile : MethodName := ⟨RX5, "readFile", "(LFileRounds$Plan;)Z"⟩
abbrev cX5_readTable : ByteArray := prog_7_method_6_code
def yX5_readTable : MethodName := ⟨RX5, "readTable", "(LFileRounds$Plan;)Z"⟩
abbrev cX5_readNumber : ByteArray := prog_7_method_7_code
def yX5_readNumber : MethodName := ⟨RX5, "readNumber", "(I)I"⟩
abbrev cX5_readFigure : ByteArray := prog_7_method_8_code
def yX5_readFigure : MethodName := ⟨RX5, "readFigure", "()I"⟩
abbrev cX5_takes : ByteArray := prog_7_method_9_code
def yX5_takes : MethodName := ⟨RX5, "takes", "(I)Z"⟩
def RX6 : String := "FileRounds$Sender"
def TX6 : u_T := fun k => match k with
  | 0 => ("FileRounds$Sender", "plan", "LFileRounds$Plan;", true)
  | 1 => ("FileRounds$Sender", "weight", "[I", true)
  | 2 => ("FileRounds$Sender", "version", "[I", true)
  | 3 => ("FileRounds$Sender", "next", "[I", true)
  | 4 => ("FileRounds$Sender", "credit", "[I", true)
  | 5 => ("FileRounds$Sender", "sentOf", "[I", true)
  | 6 => ("FileRounds$Sender", "lastFiles", "[I", true)
  | 7 => ("FileRounds$Sender", "lastSymbols", "[I", true)
  | 8 => ("FileRounds$Sender", "lastVersions", "[I", true)
  | 9 => ("FileRounds$Sender", "clock", "I", false)
  | 10 => ("FileRounds$Sender", "tables", "I", false)
  | _ => ("FileRounds$Sender", "symbols", "I", false)
def tyX6 : Nat → FieldType := fun k => match k with
  | 0 => .object "FileRounds$Plan"
  | 1 => .array .int
  | 2 => .array .int
  | 3 => .array .int
  | 4 => .array .int
  | 5 => .array .int
  | 6 => .array .int
  | 7 => .array .int
  | 8 => .array .int
  | 9 => .int
  | 10 => .int
  | _ => .int
theorem nmX6 : ∀ a, a < 12 → ∀ b, b < 12 → a ≠ b → (TX6 a).2.1 ≠ (TX6 b).2.1 := by decide +kernel
theorem tyX6_ok : ∀ k, k < 12 → parseFieldDescriptor (TX6 k).2.2.1 = some (tyX6 k) := by decide +kernel
abbrev cX6_init : ByteArray := prog_8_method_1_code
def yX6_init : MethodName := ⟨RX6, "<init>", "(LFileRounds$Plan;)V"⟩
abbrev cX6_begin : ByteArray := prog_8_method_2_code
def yX6_begin : MethodName := ⟨RX6, "begin", "()V"⟩
abbrev cX6_become : ByteArray := prog_8_method_3_code
def yX6_become : MethodName := ⟨RX6, "become", "(LFileRounds$Sender;)V"⟩
abbrev cX6_step : ByteArray := prog_8_method_4_code
def yX6_step : MethodName := ⟨RX6, "step", "()V"⟩
abbrev cX6_chooseFile : ByteArray := prog_8_method_5_code
def yX6_chooseFile : MethodName := ⟨RX6, "chooseFile", "()I"⟩
abbrev cX6_sendSymbol : ByteArray := prog_8_method_6_code
def yX6_sendSymbol : MethodName := ⟨RX6, "sendSymbol", "(I)V"⟩
abbrev cX6_note : ByteArray := prog_8_method_7_code
def yX6_note : MethodName := ⟨RX6, "note", "(III)V"⟩
abbrev cX6_placeOf : ByteArray := prog_8_method_8_code
def yX6_placeOf : MethodName := ⟨RX6, "placeOf", "(I)I"⟩
abbrev cX6_fileIn : ByteArray := prog_8_method_9_code
def yX6_fileIn : MethodName := ⟨RX6, "fileIn", "(I)I"⟩
abbrev cX6_symbolIn : ByteArray := prog_8_method_10_code
def yX6_symbolIn : MethodName := ⟨RX6, "symbolIn", "(I)I"⟩
abbrev cX6_versionIn : ByteArray := prog_8_method_11_code
def yX6_versionIn : MethodName := ⟨RX6, "versionIn", "(I)I"⟩
abbrev cX6_startNewVersion : ByteArray := prog_8_method_12_code
def yX6_startNewVersion : MethodName := ⟨RX6, "startNewVersion", "(I)I"⟩
abbrev cX6_allWeights : ByteArray := prog_8_method_13_code
def yX6_allWeights : MethodName := ⟨RX6, "allWeights", "()I"⟩
def RX7 : String := "FileRounds"
def TX7 : u_T := fun k => match k with
  | 0 => ("FileRounds", "script", "LFileRounds$Script;", true)
  | 1 => ("FileRounds", "read", "LFileRounds$Plan;", true)
  | 2 => ("FileRounds", "laid", "LFileRounds$Plan;", true)
  | 3 => ("FileRounds", "now", "LFileRounds$Rounds;", true)
  | 4 => ("FileRounds", "past", "LFileRounds$Past;", true)
  | _ => ("FileRounds", "forecast", "LFileRounds$Forecast;", true)
def tyX7 : Nat → FieldType := fun k => match k with
  | 0 => .object "FileRounds$Script"
  | 1 => .object "FileRounds$Plan"
  | 2 => .object "FileRounds$Plan"
  | 3 => .object "FileRounds$Rounds"
  | 4 => .object "FileRounds$Past"
  | _ => .object "FileRounds$Forecast"
theorem nmX7 : ∀ a, a < 6 → ∀ b, b < 6 → a ≠ b → (TX7 a).2.1 ≠ (TX7 b).2.1 := by decide +kernel
theorem tyX7_ok : ∀ k, k < 6 → parseFieldDescriptor (TX7 k).2.2.1 = some (tyX7 k) := by decide +kernel
abbrev cX7_init : ByteArray := prog_1_method_1_code
def yX7_init : MethodName := ⟨RX7, "<init>", "()V"⟩
abbrev cX7_write : ByteArray := prog_1_method_2_code
def yX7_write : MethodName := ⟨RX7, "write", "(I)I"⟩
abbrev cX7_wipe : ByteArray := prog_1_method_3_code
def yX7_wipe : MethodName := ⟨RX7, "wipe", "()I"⟩
abbrev cX7_fault : ByteArray := prog_1_method_4_code
def yX7_fault : MethodName := ⟨RX7, "fault", "()I"⟩
abbrev cX7_lay : ByteArray := prog_1_method_5_code
def yX7_lay : MethodName := ⟨RX7, "lay", "()I"⟩
abbrev cX7_tick : ByteArray := prog_1_method_6_code
def yX7_tick : MethodName := ⟨RX7, "tick", "(I)I"⟩
abbrev cX7_renew : ByteArray := prog_1_method_7_code
def yX7_renew : MethodName := ⟨RX7, "renew", "(I)I"⟩
abbrev cX7_weigh : ByteArray := prog_1_method_8_code
def yX7_weigh : MethodName := ⟨RX7, "weigh", "(II)I"⟩
abbrev cX7_join : ByteArray := prog_1_method_9_code
def yX7_join : MethodName := ⟨RX7, "join", "(I)I"⟩
abbrev cX7_repair : ByteArray := prog_1_method_10_code
def yX7_repair : MethodName := ⟨RX7, "repair", "(II)I"⟩
abbrev cX7_undo : ByteArray := prog_1_method_11_code
def yX7_undo : MethodName := ⟨RX7, "undo", "()I"⟩
abbrev cX7_file : ByteArray := prog_1_method_12_code
def yX7_file : MethodName := ⟨RX7, "file", "(II)I"⟩
abbrev cX7_sent : ByteArray := prog_1_method_13_code
def yX7_sent : MethodName := ⟨RX7, "sent", "(II)I"⟩
abbrev cX7_listener : ByteArray := prog_1_method_14_code
def yX7_listener : MethodName := ⟨RX7, "listener", "(II)I"⟩
abbrev cX7_holds : ByteArray := prog_1_method_15_code
def yX7_holds : MethodName := ⟨RX7, "holds", "(III)I"⟩
abbrev cX7_waits : ByteArray := prog_1_method_16_code
def yX7_waits : MethodName := ⟨RX7, "waits", "(II)I"⟩
abbrev cX7_mean : ByteArray := prog_1_method_17_code
def yX7_mean : MethodName := ⟨RX7, "mean", "(III)I"⟩
abbrev cX7_count : ByteArray := prog_1_method_18_code
def yX7_count : MethodName := ⟨RX7, "count", "(I)I"⟩
abbrev cX7_partBits : ByteArray := prog_1_method_19_code
def yX7_partBits : MethodName := ⟨RX7, "partBits", "(II)I"⟩
abbrev cX7_bitsOf : ByteArray := prog_1_method_20_code
def yX7_bitsOf : MethodName := ⟨RX7, "bitsOf", "(F)I"⟩
def RX8 : String := "FileRoundsModel"
def TX8 : u_T := fun k => match k with
  | 0 => ("FileRoundsModel", "w", "[I", true)
  | 1 => ("FileRoundsModel", "undos", "I", false)
  | 2 => ("FileRoundsModel", "text", "[I", true)
  | 3 => ("FileRoundsModel", "length", "I", false)
  | 4 => ("FileRoundsModel", "laid", "[I", true)
  | 5 => ("FileRoundsModel", "place", "I", false)
  | 6 => ("FileRoundsModel", "number", "I", false)
  | 7 => ("FileRoundsModel", "readEach", "I", false)
  | _ => ("FileRoundsModel", "readLife", "I", false)
def tyX8 : Nat → FieldType := fun k => match k with
  | 0 => .array .int
  | 1 => .int
  | 2 => .array .int
  | 3 => .int
  | 4 => .array .int
  | 5 => .int
  | 6 => .int
  | 7 => .int
  | _ => .int
theorem nmX8 : ∀ a, a < 9 → ∀ b, b < 9 → a ≠ b → (TX8 a).2.1 ≠ (TX8 b).2.1 := by decide +kernel
theorem tyX8_ok : ∀ k, k < 9 → parseFieldDescriptor (TX8 k).2.2.1 = some (tyX8 k) := by decide +kernel
abbrev cX8_init : ByteArray := prog_10_method_1_code
def yX8_init : MethodName := ⟨RX8, "<init>", "()V"⟩
abbrev cX8_within : ByteArray := prog_10_method_3_code
def yX8_within : MethodName := ⟨RX8, "within", "(III)Z"⟩
abbrev cX8_ones : ByteArray := prog_10_method_4_code
def yX8_ones : MethodName := ⟨RX8, "ones", "(I)I"⟩
abbrev cX8_laysFile : ByteArray := prog_10_method_5_code
def yX8_laysFile : MethodName := ⟨RX8, "laysFile", "(IIII)V"⟩
abbrev cX8_begins : ByteArray := prog_10_method_6_code
def yX8_begins : MethodName := ⟨RX8, "begins", "(II)V"⟩
abbrev cX8_write : ByteArray := prog_10_method_7_code
def yX8_write : MethodName := ⟨RX8, "write", "(I)I"⟩
abbrev cX8_wipe : ByteArray := prog_10_method_8_code
def yX8_wipe : MethodName := ⟨RX8, "wipe", "()I"⟩
abbrev cX8_here : ByteArray := prog_10_method_9_code
def yX8_here : MethodName := ⟨RX8, "here", "()I"⟩
abbrev cX8_passes : ByteArray := prog_10_method_10_code
def yX8_passes : MethodName := ⟨RX8, "passes", "(III)Z"⟩
abbrev cX8_passesFile : ByteArray := prog_10_method_11_code
def yX8_passesFile : MethodName := ⟨RX8, "passesFile", "()Z"⟩
abbrev cX8_passesTable : ByteArray := prog_10_method_12_code
def yX8_passesTable : MethodName := ⟨RX8, "passesTable", "()Z"⟩
abbrev cX8_faultIs : ByteArray := prog_10_method_13_code
def yX8_faultIs : MethodName := ⟨RX8, "faultIs", "()I"⟩
abbrev cX8_fault : ByteArray := prog_10_method_14_code
def yX8_fault : MethodName := ⟨RX8, "fault", "()I"⟩
abbrev cX8_lay : ByteArray := prog_10_method_15_code
def yX8_lay : MethodName := ⟨RX8, "lay", "()I"⟩
abbrev cX8_sendsNext : ByteArray := prog_10_method_16_code
def yX8_sendsNext : MethodName := ⟨RX8, "sendsNext", "(I)I"⟩
abbrev cX8_logs : ByteArray := prog_10_method_17_code
def yX8_logs : MethodName := ⟨RX8, "logs", "(IIII)V"⟩
abbrev cX8_isLost : ByteArray := prog_10_method_18_code
def yX8_isLost : MethodName := ⟨RX8, "isLost", "(II)Z"⟩
abbrev cX8_hearsTable : ByteArray := prog_10_method_19_code
def yX8_hearsTable : MethodName := ⟨RX8, "hearsTable", "(II)V"⟩
abbrev cX8_hearsSymbol : ByteArray := prog_10_method_20_code
def yX8_hearsSymbol : MethodName := ⟨RX8, "hearsSymbol", "(IIII)V"⟩
abbrev cX8_ticks : ByteArray := prog_10_method_21_code
def yX8_ticks : MethodName := ⟨RX8, "ticks", "(I)I"⟩
abbrev cX8_copies : ByteArray := prog_10_method_22_code
def yX8_copies : MethodName := ⟨RX8, "copies", "(II)V"⟩
abbrev cX8_minds : ByteArray := prog_10_method_23_code
def yX8_minds : MethodName := ⟨RX8, "minds", "()V"⟩
abbrev cX8_undo : ByteArray := prog_10_method_24_code
def yX8_undo : MethodName := ⟨RX8, "undo", "()I"⟩
abbrev cX8_tick : ByteArray := prog_10_method_25_code
def yX8_tick : MethodName := ⟨RX8, "tick", "(I)I"⟩
abbrev cX8_isFile : ByteArray := prog_10_method_26_code
def yX8_isFile : MethodName := ⟨RX8, "isFile", "(I)Z"⟩
abbrev cX8_isListener : ByteArray := prog_10_method_27_code
def yX8_isListener : MethodName := ⟨RX8, "isListener", "(I)Z"⟩
abbrev cX8_renew : ByteArray := prog_10_method_28_code
def yX8_renew : MethodName := ⟨RX8, "renew", "(I)I"⟩
abbrev cX8_weigh : ByteArray := prog_10_method_29_code
def yX8_weigh : MethodName := ⟨RX8, "weigh", "(II)I"⟩
abbrev cX8_join : ByteArray := prog_10_method_30_code
def yX8_join : MethodName := ⟨RX8, "join", "(I)I"⟩
abbrev cX8_knows : ByteArray := prog_10_method_31_code
def yX8_knows : MethodName := ⟨RX8, "knows", "(I)Z"⟩
abbrev cX8_lacks : ByteArray := prog_10_method_32_code
def yX8_lacks : MethodName := ⟨RX8, "lacks", "(II)I"⟩
abbrev cX8_repair : ByteArray := prog_10_method_33_code
def yX8_repair : MethodName := ⟨RX8, "repair", "(II)I"⟩
abbrev cX8_partBits : ByteArray := prog_10_method_34_code
def yX8_partBits : MethodName := ⟨RX8, "partBits", "(I)I"⟩
abbrev cX8_file : ByteArray := prog_10_method_35_code
def yX8_file : MethodName := ⟨RX8, "file", "(II)I"⟩
abbrev cX8_sent : ByteArray := prog_10_method_36_code
def yX8_sent : MethodName := ⟨RX8, "sent", "(II)I"⟩
abbrev cX8_wholes : ByteArray := prog_10_method_37_code
def yX8_wholes : MethodName := ⟨RX8, "wholes", "(I)I"⟩
abbrev cX8_listener : ByteArray := prog_10_method_38_code
def yX8_listener : MethodName := ⟨RX8, "listener", "(II)I"⟩
abbrev cX8_holds : ByteArray := prog_10_method_39_code
def yX8_holds : MethodName := ⟨RX8, "holds", "(III)I"⟩
abbrev cX8_waitsFrom : ByteArray := prog_10_method_40_code
def yX8_waitsFrom : MethodName := ⟨RX8, "waitsFrom", "(I)I"⟩
abbrev cX8_waitIs : ByteArray := prog_10_method_41_code
def yX8_waitIs : MethodName := ⟨RX8, "waitIs", "(II)I"⟩
abbrev cX8_waits : ByteArray := prog_10_method_42_code
def yX8_waits : MethodName := ⟨RX8, "waits", "(II)I"⟩
abbrev cX8_mean : ByteArray := prog_10_method_43_code
def yX8_mean : MethodName := ⟨RX8, "mean", "(III)I"⟩
abbrev cX8_count : ByteArray := prog_10_method_44_code
def yX8_count : MethodName := ⟨RX8, "count", "(I)I"⟩
def RJxf58ca : String := "java/lang/Float"
abbrev cJxf58ca_isNaN_12338 : ByteArray := prog_11_method_6_code
def yJxf58ca_isNaN_12338 : MethodName := ⟨RJxf58ca, "isNaN", "(F)Z"⟩
abbrev cJxf58ca_floatToIntBits_5c35a : ByteArray := prog_11_method_24_code
def yJxf58ca_floatToIntBits_5c35a : MethodName := ⟨RJxf58ca, "floatToIntBits", "(F)I"⟩
def RJ6 : String := "java/lang/Integer"
abbrev cJ6_bitCount_0f7a4 : ByteArray := prog_12_method_49_code
def yJ6_bitCount_0f7a4 : MethodName := ⟨RJ6, "bitCount", "(I)I"⟩
def RJ9 : String := "java/lang/Math"
abbrev cJ9_floorMod_7cf53 : ByteArray := prog_13_method_50_code
def yJ9_floorMod_7cf53 : MethodName := ⟨RJ9, "floorMod", "(II)I"⟩
abbrev cJ9_max_7cf53 : ByteArray := prog_13_method_65_code
def yJ9_max_7cf53 : MethodName := ⟨RJ9, "max", "(II)I"⟩
abbrev cJ9_min_7cf53 : ByteArray := prog_13_method_69_code
def yJ9_min_7cf53 : MethodName := ⟨RJ9, "min", "(II)I"⟩
def RJ10 : String := "java/lang/System"
def RL : String := "FileRoundsLaw"
abbrev cL_law : ByteArray := code
def yL_law : MethodName := ⟨RL, "law", "([I)Z"⟩
abbrev vwCl : List vw_C := [(RX0, TX0, 5), (RX1, TX1, 8), (RX2, TX2, 3), (RX3, TX3, 6), (RX4, TX4, 3), (RX5, TX5, 3), (RX6, TX6, 12), (RX7, TX7, 6), (RX8, TX8, 9)]
/-- the good words of the tables, and the links of nest mates -/
def wd_G : List Cond := lw_tbl.filter goodWord
theorem wd_in {w : Cond} (i : Nat) (h : lw_tbl[i]? = some w) (g : goodWord w = true) : w ∈ wd_G := List.mem_filter.mpr ⟨List.mem_of_getElem? h, g⟩
theorem wd_good : ∀ w ∈ wd_G, w ∈ wd_G ∧ ((w.onTables && w.keeps) = true ∨ ∃ ty, w = .arrayClass ty) := fun w h => ⟨h, good_of_word (List.mem_filter.mp h).2⟩
theorem wd_tbl : ∀ w ∈ wd_G, w ∈ lw_tbl := fun _ h => (List.mem_filter.mp h).1
def wd_N : List Cond := [.methodLinkNest RX7 11 yX5_init "FileRounds", .fieldLinkNest RX7 64 "FileRounds$Script" "length" "I" "FileRounds", .methodLinkNest RX7 18 yX3_init "FileRounds", .fieldLinkNest RX0 32 "FileRounds$Plan" "need" "[I" "FileRounds", .fieldLinkNest RX1 93 "FileRounds$Plan" "need" "[I" "FileRounds", .fieldLinkNest RX7 143 "FileRounds$Plan" "need" "[I" "FileRounds", .fieldLinkNest RX7 146 "FileRounds$Plan" "spare" "[I" "FileRounds", .fieldLinkNest RX6 40 "FileRounds$Plan" "firstWeight" "[I" "FileRounds", .fieldLinkNest RX6 80 "FileRounds$Plan" "files" "I" "FileRounds", .fieldLinkNest RX7 72 "FileRounds$Plan" "files" "I" "FileRounds", .fieldLinkNest RX1 84 "FileRounds$Plan" "files" "I" "FileRounds", .fieldLinkNest RX7 212 "FileRounds$Plan" "every" "I" "FileRounds", .fieldLinkNest RX0 68 "FileRounds$Plan" "life" "I" "FileRounds", .fieldLinkNest RX1 87 "FileRounds$Plan" "life" "I" "FileRounds", .fieldLinkNest RX7 215 "FileRounds$Plan" "life" "I" "FileRounds", .fieldLinkNest RX7 107 "FileRounds$Sender" "weight" "[I" "FileRounds", .fieldLinkNest RX1 54 "FileRounds$Sender" "version" "[I" "FileRounds", .fieldLinkNest RX7 149 "FileRounds$Sender" "version" "[I" "FileRounds", .fieldLinkNest RX7 152 "FileRounds$Sender" "next" "[I" "FileRounds", .fieldLinkNest RX7 155 "FileRounds$Sender" "credit" "[I" "FileRounds", .fieldLinkNest RX7 158 "FileRounds$Sender" "sentOf" "[I" "FileRounds", .fieldLinkNest RX0 52 "FileRounds$Sender" "clock" "I" "FileRounds", .fieldLinkNest RX4 43 "FileRounds$Sender" "clock" "I" "FileRounds", .fieldLinkNest RX7 85 "FileRounds$Sender" "clock" "I" "FileRounds", .fieldLinkNest RX7 221 "FileRounds$Sender" "tables" "I" "FileRounds", .fieldLinkNest RX7 94 "FileRounds$Sender" "symbols" "I" "FileRounds", .fieldLinkNest RX7 190 "FileRounds$Listener" "held" "[I" "FileRounds", .fieldLinkNest RX7 193 "FileRounds$Listener" "told" "[I" "FileRounds", .fieldLinkNest RX7 174 "FileRounds$Listener" "loss" "I" "FileRounds", .fieldLinkNest RX7 177 "FileRounds$Listener" "came" "I" "FileRounds", .fieldLinkNest RX7 180 "FileRounds$Listener" "livesTo" "I" "FileRounds", .fieldLinkNest RX7 187 "FileRounds$Listener" "missed" "I" "FileRounds", .fieldLinkNest RX7 81 "FileRounds$Rounds" "sender" "LFileRounds$Sender;" "FileRounds", .fieldLinkNest RX7 121 "FileRounds$Rounds" "listeners" "[LFileRounds$Listener;" "FileRounds", .fieldLinkNest RX7 218 "FileRounds$Rounds" "joined" "I" "FileRounds", .fieldLinkNest RX7 140 "FileRounds$Past" "size" "I" "FileRounds"]
theorem wd_N_tbl : ∀ w ∈ wd_N, w ∈ lw_tbl := by
  intro w hw
  simp only [wd_N, List.mem_cons, List.not_mem_nil, or_false] at hw
  rcases hw with rfl | rfl | rfl | rfl | rfl | rfl | rfl | rfl | rfl | rfl | rfl | rfl | rfl | rfl | rfl | rfl | rfl | rfl | rfl | rfl | rfl | rfl | rfl | rfl | rfl | rfl | rfl | rfl | rfl | rfl | rfl | rfl | rfl | rfl | rfl | rfl
  · exact List.mem_of_getElem? (i := 60) (by decide +kernel)
  · exact List.mem_of_getElem? (i := 66) (by decide +kernel)
  · exact List.mem_of_getElem? (i := 78) (by decide +kernel)
  · exact List.mem_of_getElem? (i := 83) (by decide +kernel)
  · exact List.mem_of_getElem? (i := 84) (by decide +kernel)
  · exact List.mem_of_getElem? (i := 85) (by decide +kernel)
  · exact List.mem_of_getElem? (i := 87) (by decide +kernel)
  · exact List.mem_of_getElem? (i := 89) (by decide +kernel)
  · exact List.mem_of_getElem? (i := 91) (by decide +kernel)
  · exact List.mem_of_getElem? (i := 92) (by decide +kernel)
  · exact List.mem_of_getElem? (i := 93) (by decide +kernel)
  · exact List.mem_of_getElem? (i := 95) (by decide +kernel)
  · exact List.mem_of_getElem? (i := 97) (by decide +kernel)
  · exact List.mem_of_getElem? (i := 98) (by decide +kernel)
  · exact List.mem_of_getElem? (i := 99) (by decide +kernel)
  · exact List.mem_of_getElem? (i := 137) (by decide +kernel)
  · exact List.mem_of_getElem? (i := 139) (by decide +kernel)
  · exact List.mem_of_getElem? (i := 140) (by decide +kernel)
  · exact List.mem_of_getElem? (i := 142) (by decide +kernel)
  · exact List.mem_of_getElem? (i := 144) (by decide +kernel)
  · exact List.mem_of_getElem? (i := 146) (by decide +kernel)
  · exact List.mem_of_getElem? (i := 150) (by decide +kernel)
  · exact List.mem_of_getElem? (i := 152) (by decide +kernel)
  · exact List.mem_of_getElem? (i := 153) (by decide +kernel)
  · exact List.mem_of_getElem? (i := 155) (by decide +kernel)
  · exact List.mem_of_getElem? (i := 157) (by decide +kernel)
  · exact List.mem_of_getElem? (i := 191) (by decide +kernel)
  · exact List.mem_of_getElem? (i := 193) (by decide +kernel)
  · exact List.mem_of_getElem? (i := 195) (by decide +kernel)
  · exact List.mem_of_getElem? (i := 197) (by decide +kernel)
  · exact List.mem_of_getElem? (i := 199) (by decide +kernel)
  · exact List.mem_of_getElem? (i := 201) (by decide +kernel)
  · exact List.mem_of_getElem? (i := 220) (by decide +kernel)
  · exact List.mem_of_getElem? (i := 222) (by decide +kernel)
  · exact List.mem_of_getElem? (i := 224) (by decide +kernel)
  · exact List.mem_of_getElem? (i := 255) (by decide +kernel)
