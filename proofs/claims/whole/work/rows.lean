section
-- ===== PART A: goes FIRST, ahead of the names: the tables' words, and 'selects' of the private methods out of them =====
/-- a private method of a class that the tables say can be made, by its rows of tables_1 -/
def lw_okq (q : MethodName × Nat) : Prop := (q.1.cls ≠ "java/lang/invoke/MethodHandle" ∧ q.1.cls ≠ "java/lang/invoke/VarHandle") ∧ Cond.instantiable q.1.cls q.2 ∈ tables_1 ∧ Cond.privateMethod q.1 ∈ tables_1 ∧ Cond.instanceMethod q.1 ∈ tables_1
theorem lw_p0 : lw_okq (⟨"FileRounds$Script", "readItem", "(LFileRounds$Plan;)Z"⟩, 3) := ⟨⟨by decide +kernel, by decide +kernel⟩, List.mem_of_getElem? (i := 23) (by decide +kernel), List.mem_of_getElem? (i := 296) (by decide +kernel), List.mem_of_getElem? (i := 297) (by decide +kernel)⟩
theorem lw_p1 : lw_okq (⟨"FileRounds$Script", "takes", "(I)Z"⟩, 3) := ⟨⟨by decide +kernel, by decide +kernel⟩, List.mem_of_getElem? (i := 23) (by decide +kernel), List.mem_of_getElem? (i := 300) (by decide +kernel), List.mem_of_getElem? (i := 301) (by decide +kernel)⟩
theorem lw_p2 : lw_okq (⟨"FileRounds$Script", "readFile", "(LFileRounds$Plan;)Z"⟩, 3) := ⟨⟨by decide +kernel, by decide +kernel⟩, List.mem_of_getElem? (i := 23) (by decide +kernel), List.mem_of_getElem? (i := 304) (by decide +kernel), List.mem_of_getElem? (i := 305) (by decide +kernel)⟩
theorem lw_p3 : lw_okq (⟨"FileRounds$Script", "readNumber", "(I)I"⟩, 3) := ⟨⟨by decide +kernel, by decide +kernel⟩, List.mem_of_getElem? (i := 23) (by decide +kernel), List.mem_of_getElem? (i := 308) (by decide +kernel), List.mem_of_getElem? (i := 309) (by decide +kernel)⟩
theorem lw_p4 : lw_okq (⟨"FileRounds$Script", "readFigure", "()I"⟩, 3) := ⟨⟨by decide +kernel, by decide +kernel⟩, List.mem_of_getElem? (i := 23) (by decide +kernel), List.mem_of_getElem? (i := 312) (by decide +kernel), List.mem_of_getElem? (i := 313) (by decide +kernel)⟩
theorem lw_p5 : lw_okq (⟨"FileRounds$Script", "readTable", "(LFileRounds$Plan;)Z"⟩, 3) := ⟨⟨by decide +kernel, by decide +kernel⟩, List.mem_of_getElem? (i := 23) (by decide +kernel), List.mem_of_getElem? (i := 317) (by decide +kernel), List.mem_of_getElem? (i := 318) (by decide +kernel)⟩
theorem lw_p6 : lw_okq (⟨"FileRounds$Sender", "note", "(III)V"⟩, 12) := ⟨⟨by decide +kernel, by decide +kernel⟩, List.mem_of_getElem? (i := 94) (by decide +kernel), List.mem_of_getElem? (i := 371) (by decide +kernel), List.mem_of_getElem? (i := 372) (by decide +kernel)⟩
theorem lw_p7 : lw_okq (⟨"FileRounds$Sender", "chooseFile", "()I"⟩, 12) := ⟨⟨by decide +kernel, by decide +kernel⟩, List.mem_of_getElem? (i := 94) (by decide +kernel), List.mem_of_getElem? (i := 381) (by decide +kernel), List.mem_of_getElem? (i := 382) (by decide +kernel)⟩
theorem lw_p8 : lw_okq (⟨"FileRounds$Sender", "sendSymbol", "(I)V"⟩, 12) := ⟨⟨by decide +kernel, by decide +kernel⟩, List.mem_of_getElem? (i := 94) (by decide +kernel), List.mem_of_getElem? (i := 389) (by decide +kernel), List.mem_of_getElem? (i := 390) (by decide +kernel)⟩
theorem lw_p9 : lw_okq (⟨"FileRounds$Listener", "loses", "(I)Z"⟩, 8) := ⟨⟨by decide +kernel, by decide +kernel⟩, List.mem_of_getElem? (i := 147) (by decide +kernel), List.mem_of_getElem? (i := 401) (by decide +kernel), List.mem_of_getElem? (i := 402) (by decide +kernel)⟩
theorem lw_p10 : lw_okq (⟨"FileRounds$Listener", "takeTable", "([II)V"⟩, 8) := ⟨⟨by decide +kernel, by decide +kernel⟩, List.mem_of_getElem? (i := 147) (by decide +kernel), List.mem_of_getElem? (i := 413) (by decide +kernel), List.mem_of_getElem? (i := 414) (by decide +kernel)⟩
theorem lw_p11 : lw_okq (⟨"FileRounds$Listener", "takeSymbol", "(IIII)V"⟩, 8) := ⟨⟨by decide +kernel, by decide +kernel⟩, List.mem_of_getElem? (i := 147) (by decide +kernel), List.mem_of_getElem? (i := 429) (by decide +kernel), List.mem_of_getElem? (i := 430) (by decide +kernel)⟩
theorem lw_p12 : lw_okq (⟨"FileRounds$Forecast", "seenAs", "(II)I"⟩, 5) := ⟨⟨by decide +kernel, by decide +kernel⟩, List.mem_of_getElem? (i := 228) (by decide +kernel), List.mem_of_getElem? (i := 544) (by decide +kernel), List.mem_of_getElem? (i := 545) (by decide +kernel)⟩
theorem lw_p13 : lw_okq (⟨"FileRoundsModel", "laysFile", "(IIII)V"⟩, 9) := ⟨⟨by decide +kernel, by decide +kernel⟩, List.mem_of_getElem? (i := 565) (by decide +kernel), List.mem_of_getElem? (i := 571) (by decide +kernel), List.mem_of_getElem? (i := 572) (by decide +kernel)⟩
theorem lw_p14 : lw_okq (⟨"FileRoundsModel", "begins", "(II)V"⟩, 9) := ⟨⟨by decide +kernel, by decide +kernel⟩, List.mem_of_getElem? (i := 565) (by decide +kernel), List.mem_of_getElem? (i := 575) (by decide +kernel), List.mem_of_getElem? (i := 576) (by decide +kernel)⟩
theorem lw_p15 : lw_okq (⟨"FileRoundsModel", "faultIs", "()I"⟩, 9) := ⟨⟨by decide +kernel, by decide +kernel⟩, List.mem_of_getElem? (i := 565) (by decide +kernel), List.mem_of_getElem? (i := 622) (by decide +kernel), List.mem_of_getElem? (i := 623) (by decide +kernel)⟩
def lw_privs_1 : List (MethodName × Nat) := [(⟨"FileRounds$Script", "readItem", "(LFileRounds$Plan;)Z"⟩, 3), (⟨"FileRounds$Script", "takes", "(I)Z"⟩, 3), (⟨"FileRounds$Script", "readFile", "(LFileRounds$Plan;)Z"⟩, 3), (⟨"FileRounds$Script", "readNumber", "(I)I"⟩, 3), (⟨"FileRounds$Script", "readFigure", "()I"⟩, 3), (⟨"FileRounds$Script", "readTable", "(LFileRounds$Plan;)Z"⟩, 3), (⟨"FileRounds$Sender", "note", "(III)V"⟩, 12), (⟨"FileRounds$Sender", "chooseFile", "()I"⟩, 12), (⟨"FileRounds$Sender", "sendSymbol", "(I)V"⟩, 12), (⟨"FileRounds$Listener", "loses", "(I)Z"⟩, 8), (⟨"FileRounds$Listener", "takeTable", "([II)V"⟩, 8), (⟨"FileRounds$Listener", "takeSymbol", "(IIII)V"⟩, 8), (⟨"FileRounds$Forecast", "seenAs", "(II)I"⟩, 5), (⟨"FileRoundsModel", "laysFile", "(IIII)V"⟩, 9), (⟨"FileRoundsModel", "begins", "(II)V"⟩, 9), (⟨"FileRoundsModel", "faultIs", "()I"⟩, 9)]
theorem lw_r1 : ∀ q ∈ lw_privs_1, lw_okq q := List.forall_mem_cons.mpr ⟨lw_p0, List.forall_mem_cons.mpr ⟨lw_p1, List.forall_mem_cons.mpr ⟨lw_p2, List.forall_mem_cons.mpr ⟨lw_p3, List.forall_mem_cons.mpr ⟨lw_p4, List.forall_mem_cons.mpr ⟨lw_p5, List.forall_mem_cons.mpr ⟨lw_p6, List.forall_mem_cons.mpr ⟨lw_p7, List.forall_mem_cons.mpr ⟨lw_p8, List.forall_mem_cons.mpr ⟨lw_p9, List.forall_mem_cons.mpr ⟨lw_p10, List.forall_mem_cons.mpr ⟨lw_p11, List.forall_mem_cons.mpr ⟨lw_p12, List.forall_mem_cons.mpr ⟨lw_p13, List.forall_mem_cons.mpr ⟨lw_p14, List.forall_mem_cons.mpr ⟨lw_p15, fun _ h => absurd h List.not_mem_nil⟩⟩⟩⟩⟩⟩⟩⟩⟩⟩⟩⟩⟩⟩⟩⟩
theorem lw_p16 : lw_okq (⟨"FileRoundsModel", "here", "()I"⟩, 9) := ⟨⟨by decide +kernel, by decide +kernel⟩, List.mem_of_getElem? (i := 565) (by decide +kernel), List.mem_of_getElem? (i := 626) (by decide +kernel), List.mem_of_getElem? (i := 627) (by decide +kernel)⟩
theorem lw_p17 : lw_okq (⟨"FileRoundsModel", "passesFile", "()Z"⟩, 9) := ⟨⟨by decide +kernel, by decide +kernel⟩, List.mem_of_getElem? (i := 565) (by decide +kernel), List.mem_of_getElem? (i := 630) (by decide +kernel), List.mem_of_getElem? (i := 631) (by decide +kernel)⟩
theorem lw_p18 : lw_okq (⟨"FileRoundsModel", "passes", "(III)Z"⟩, 9) := ⟨⟨by decide +kernel, by decide +kernel⟩, List.mem_of_getElem? (i := 565) (by decide +kernel), List.mem_of_getElem? (i := 634) (by decide +kernel), List.mem_of_getElem? (i := 635) (by decide +kernel)⟩
theorem lw_p19 : lw_okq (⟨"FileRoundsModel", "passesTable", "()Z"⟩, 9) := ⟨⟨by decide +kernel, by decide +kernel⟩, List.mem_of_getElem? (i := 565) (by decide +kernel), List.mem_of_getElem? (i := 638) (by decide +kernel), List.mem_of_getElem? (i := 639) (by decide +kernel)⟩
theorem lw_p20 : lw_okq (⟨"FileRoundsModel", "copies", "(II)V"⟩, 9) := ⟨⟨by decide +kernel, by decide +kernel⟩, List.mem_of_getElem? (i := 565) (by decide +kernel), List.mem_of_getElem? (i := 650) (by decide +kernel), List.mem_of_getElem? (i := 651) (by decide +kernel)⟩
theorem lw_p21 : lw_okq (⟨"FileRoundsModel", "minds", "()V"⟩, 9) := ⟨⟨by decide +kernel, by decide +kernel⟩, List.mem_of_getElem? (i := 565) (by decide +kernel), List.mem_of_getElem? (i := 658) (by decide +kernel), List.mem_of_getElem? (i := 659) (by decide +kernel)⟩
theorem lw_p22 : lw_okq (⟨"FileRoundsModel", "ticks", "(I)I"⟩, 9) := ⟨⟨by decide +kernel, by decide +kernel⟩, List.mem_of_getElem? (i := 565) (by decide +kernel), List.mem_of_getElem? (i := 662) (by decide +kernel), List.mem_of_getElem? (i := 663) (by decide +kernel)⟩
theorem lw_p23 : lw_okq (⟨"FileRoundsModel", "sendsNext", "(I)I"⟩, 9) := ⟨⟨by decide +kernel, by decide +kernel⟩, List.mem_of_getElem? (i := 565) (by decide +kernel), List.mem_of_getElem? (i := 666) (by decide +kernel), List.mem_of_getElem? (i := 667) (by decide +kernel)⟩
theorem lw_p24 : lw_okq (⟨"FileRoundsModel", "logs", "(IIII)V"⟩, 9) := ⟨⟨by decide +kernel, by decide +kernel⟩, List.mem_of_getElem? (i := 565) (by decide +kernel), List.mem_of_getElem? (i := 670) (by decide +kernel), List.mem_of_getElem? (i := 671) (by decide +kernel)⟩
theorem lw_p25 : lw_okq (⟨"FileRoundsModel", "isLost", "(II)Z"⟩, 9) := ⟨⟨by decide +kernel, by decide +kernel⟩, List.mem_of_getElem? (i := 565) (by decide +kernel), List.mem_of_getElem? (i := 674) (by decide +kernel), List.mem_of_getElem? (i := 675) (by decide +kernel)⟩
theorem lw_p26 : lw_okq (⟨"FileRoundsModel", "hearsTable", "(II)V"⟩, 9) := ⟨⟨by decide +kernel, by decide +kernel⟩, List.mem_of_getElem? (i := 565) (by decide +kernel), List.mem_of_getElem? (i := 682) (by decide +kernel), List.mem_of_getElem? (i := 683) (by decide +kernel)⟩
theorem lw_p27 : lw_okq (⟨"FileRoundsModel", "hearsSymbol", "(IIII)V"⟩, 9) := ⟨⟨by decide +kernel, by decide +kernel⟩, List.mem_of_getElem? (i := 565) (by decide +kernel), List.mem_of_getElem? (i := 686) (by decide +kernel), List.mem_of_getElem? (i := 687) (by decide +kernel)⟩
theorem lw_p28 : lw_okq (⟨"FileRoundsModel", "isFile", "(I)Z"⟩, 9) := ⟨⟨by decide +kernel, by decide +kernel⟩, List.mem_of_getElem? (i := 565) (by decide +kernel), List.mem_of_getElem? (i := 694) (by decide +kernel), List.mem_of_getElem? (i := 695) (by decide +kernel)⟩
theorem lw_p29 : lw_okq (⟨"FileRoundsModel", "isListener", "(I)Z"⟩, 9) := ⟨⟨by decide +kernel, by decide +kernel⟩, List.mem_of_getElem? (i := 565) (by decide +kernel), List.mem_of_getElem? (i := 710) (by decide +kernel), List.mem_of_getElem? (i := 711) (by decide +kernel)⟩
theorem lw_p30 : lw_okq (⟨"FileRoundsModel", "lacks", "(II)I"⟩, 9) := ⟨⟨by decide +kernel, by decide +kernel⟩, List.mem_of_getElem? (i := 565) (by decide +kernel), List.mem_of_getElem? (i := 714) (by decide +kernel), List.mem_of_getElem? (i := 715) (by decide +kernel)⟩
theorem lw_p31 : lw_okq (⟨"FileRoundsModel", "knows", "(I)Z"⟩, 9) := ⟨⟨by decide +kernel, by decide +kernel⟩, List.mem_of_getElem? (i := 565) (by decide +kernel), List.mem_of_getElem? (i := 721) (by decide +kernel), List.mem_of_getElem? (i := 722) (by decide +kernel)⟩
def lw_privs_2 : List (MethodName × Nat) := [(⟨"FileRoundsModel", "here", "()I"⟩, 9), (⟨"FileRoundsModel", "passesFile", "()Z"⟩, 9), (⟨"FileRoundsModel", "passes", "(III)Z"⟩, 9), (⟨"FileRoundsModel", "passesTable", "()Z"⟩, 9), (⟨"FileRoundsModel", "copies", "(II)V"⟩, 9), (⟨"FileRoundsModel", "minds", "()V"⟩, 9), (⟨"FileRoundsModel", "ticks", "(I)I"⟩, 9), (⟨"FileRoundsModel", "sendsNext", "(I)I"⟩, 9), (⟨"FileRoundsModel", "logs", "(IIII)V"⟩, 9), (⟨"FileRoundsModel", "isLost", "(II)Z"⟩, 9), (⟨"FileRoundsModel", "hearsTable", "(II)V"⟩, 9), (⟨"FileRoundsModel", "hearsSymbol", "(IIII)V"⟩, 9), (⟨"FileRoundsModel", "isFile", "(I)Z"⟩, 9), (⟨"FileRoundsModel", "isListener", "(I)Z"⟩, 9), (⟨"FileRoundsModel", "lacks", "(II)I"⟩, 9), (⟨"FileRoundsModel", "knows", "(I)Z"⟩, 9)]
theorem lw_r2 : ∀ q ∈ lw_privs_2, lw_okq q := List.forall_mem_cons.mpr ⟨lw_p16, List.forall_mem_cons.mpr ⟨lw_p17, List.forall_mem_cons.mpr ⟨lw_p18, List.forall_mem_cons.mpr ⟨lw_p19, List.forall_mem_cons.mpr ⟨lw_p20, List.forall_mem_cons.mpr ⟨lw_p21, List.forall_mem_cons.mpr ⟨lw_p22, List.forall_mem_cons.mpr ⟨lw_p23, List.forall_mem_cons.mpr ⟨lw_p24, List.forall_mem_cons.mpr ⟨lw_p25, List.forall_mem_cons.mpr ⟨lw_p26, List.forall_mem_cons.mpr ⟨lw_p27, List.forall_mem_cons.mpr ⟨lw_p28, List.forall_mem_cons.mpr ⟨lw_p29, List.forall_mem_cons.mpr ⟨lw_p30, List.forall_mem_cons.mpr ⟨lw_p31, fun _ h => absurd h List.not_mem_nil⟩⟩⟩⟩⟩⟩⟩⟩⟩⟩⟩⟩⟩⟩⟩⟩
theorem lw_p32 : lw_okq (⟨"FileRoundsModel", "partBits", "(I)I"⟩, 9) := ⟨⟨by decide +kernel, by decide +kernel⟩, List.mem_of_getElem? (i := 565) (by decide +kernel), List.mem_of_getElem? (i := 729) (by decide +kernel), List.mem_of_getElem? (i := 730) (by decide +kernel)⟩
theorem lw_p33 : lw_okq (⟨"FileRoundsModel", "wholes", "(I)I"⟩, 9) := ⟨⟨by decide +kernel, by decide +kernel⟩, List.mem_of_getElem? (i := 565) (by decide +kernel), List.mem_of_getElem? (i := 751) (by decide +kernel), List.mem_of_getElem? (i := 752) (by decide +kernel)⟩
theorem lw_p34 : lw_okq (⟨"FileRoundsModel", "waitIs", "(II)I"⟩, 9) := ⟨⟨by decide +kernel, by decide +kernel⟩, List.mem_of_getElem? (i := 565) (by decide +kernel), List.mem_of_getElem? (i := 763) (by decide +kernel), List.mem_of_getElem? (i := 764) (by decide +kernel)⟩
theorem lw_p35 : lw_okq (⟨"FileRoundsModel", "waitsFrom", "(I)I"⟩, 9) := ⟨⟨by decide +kernel, by decide +kernel⟩, List.mem_of_getElem? (i := 565) (by decide +kernel), List.mem_of_getElem? (i := 767) (by decide +kernel), List.mem_of_getElem? (i := 768) (by decide +kernel)⟩
def lw_privs_3 : List (MethodName × Nat) := [(⟨"FileRoundsModel", "partBits", "(I)I"⟩, 9), (⟨"FileRoundsModel", "wholes", "(I)I"⟩, 9), (⟨"FileRoundsModel", "waitIs", "(II)I"⟩, 9), (⟨"FileRoundsModel", "waitsFrom", "(I)I"⟩, 9)]
theorem lw_r3 : ∀ q ∈ lw_privs_3, lw_okq q := List.forall_mem_cons.mpr ⟨lw_p32, List.forall_mem_cons.mpr ⟨lw_p33, List.forall_mem_cons.mpr ⟨lw_p34, List.forall_mem_cons.mpr ⟨lw_p35, fun _ h => absurd h List.not_mem_nil⟩⟩⟩⟩
def lw_privs : List (MethodName × Nat) := lw_privs_1 ++ (lw_privs_2 ++ (lw_privs_3))
def lw_tbl : List Cond := k2_sels lw_privs ++ tables_1
theorem lw_privs_ok : ∀ q ∈ lw_privs, lw_okq q := by
  show ∀ q ∈ lw_privs_1 ++ (lw_privs_2 ++ (lw_privs_3)), lw_okq q
  exact List.forall_mem_append.mpr ⟨lw_r1, List.forall_mem_append.mpr ⟨lw_r2, lw_r3⟩⟩
/-- the streams that the claim lets the run draw from -/
abbrev lw_cs : List Choice := [Jvm.Choice.named "NaN.bits"]
theorem lw_bits : nanBits ∈ lw_cs := by first | decide | exact List.mem_cons_self | simp [lw_cs, nanBits]
def RX0 : String := "FileRounds$Forecast"
def TX0 : u_T := fun k => match k with
  | 0 => ("FileRounds$Forecast", "plan", "LFileRounds$Plan;", true)
  | 1 => ("FileRounds$Forecast", "ahead", "LFileRounds$Sender;", true)
  | 2 => ("FileRounds$Forecast", "coming", "[I", true)
  | 3 => ("FileRounds$Forecast", "known", "I", false)
  | _ => ("FileRounds$Forecast", "need", "I", false)
def tyX0 : Nat → FieldType := fun k => match k with
  | 0 => .object "FileRounds$Plan"
  | 1 => .object "FileRounds$Sender"
  | 2 => .array .int
  | 3 => .int
  | _ => .int
theorem nmX0 : ∀ a, a < 5 → ∀ b, b < 5 → a ≠ b → (TX0 a).2.1 ≠ (TX0 b).2.1 := by decide +kernel
theorem tyX0_ok : ∀ k, k < 5 → parseFieldDescriptor (TX0 k).2.2.1 = some (tyX0 k) := by decide +kernel
abbrev cX0_init : ByteArray := prog_2_method_1_code
def yX0_init : MethodName := ⟨RX0, "<init>", "(LFileRounds$Plan;)V"⟩
abbrev cX0_look : ByteArray := prog_2_method_2_code
def yX0_look : MethodName := ⟨RX0, "look", "(LFileRounds$Sender;II)V"⟩
abbrev cX0_seenAs : ByteArray := prog_2_method_3_code
def yX0_seenAs : MethodName := ⟨RX0, "seenAs", "(II)I"⟩
abbrev cX0_waitBehind : ByteArray := prog_2_method_4_code
def yX0_waitBehind : MethodName := ⟨RX0, "waitBehind", "(I)I"⟩
def RX1 : String := "FileRounds$Listener"
def TX1 : u_T := fun k => match k with
  | 0 => ("FileRounds$Listener", "plan", "LFileRounds$Plan;", true)
  | 1 => ("FileRounds$Listener", "number", "I", true)
  | 2 => ("FileRounds$Listener", "held", "[I", true)
  | 3 => ("FileRounds$Listener", "told", "[I", true)
  | 4 => ("FileRounds$Listener", "loss", "I", false)
  | 5 => ("FileRounds$Listener", "came", "I", false)
  | 6 => ("FileRounds$Listener", "livesTo", "I", false)
  | _ => ("FileRounds$Listener", "missed", "I", false)
def tyX1 : Nat → FieldType := fun k => match k with
  | 0 => .object "FileRounds$Plan"
  | 1 => .int
  | 2 => .array .int
  | 3 => .array .int
  | 4 => .int
  | 5 => .int
  | 6 => .int
  | _ => .int
theorem nmX1 : ∀ a, a < 8 → ∀ b, b < 8 → a ≠ b → (TX1 a).2.1 ≠ (TX1 b).2.1 := by decide +kernel
theorem tyX1_ok : ∀ k, k < 8 → parseFieldDescriptor (TX1 k).2.2.1 = some (tyX1 k) := by decide +kernel
abbrev cX1_init : ByteArray := prog_3_method_1_code
def yX1_init : MethodName := ⟨RX1, "<init>", "(LFileRounds$Plan;I)V"⟩
abbrev cX1_enter : ByteArray := prog_3_method_2_code
def yX1_enter : MethodName := ⟨RX1, "enter", "(II)V"⟩
abbrev cX1_become : ByteArray := prog_3_method_3_code
def yX1_become : MethodName := ⟨RX1, "become", "(LFileRounds$Listener;)V"⟩
abbrev cX1_hear : ByteArray := prog_3_method_4_code
def yX1_hear : MethodName := ⟨RX1, "hear", "(LFileRounds$Sender;I)V"⟩
abbrev cX1_loses : ByteArray := prog_3_method_5_code
def yX1_loses : MethodName := ⟨RX1, "loses", "(I)Z"⟩
abbrev cX1_takeTable : ByteArray := prog_3_method_6_code
def yX1_takeTable : MethodName := ⟨RX1, "takeTable", "([II)V"⟩
abbrev cX1_takeSymbol : ByteArray := prog_3_method_7_code
def yX1_takeSymbol : MethodName := ⟨RX1, "takeSymbol", "(IIII)V"⟩
abbrev cX1_knowsIn : ByteArray := prog_3_method_8_code
def yX1_knowsIn : MethodName := ⟨RX1, "knowsIn", "(I)Z"⟩
abbrev cX1_lacks : ByteArray := prog_3_method_9_code
def yX1_lacks : MethodName := ⟨RX1, "lacks", "(I)I"⟩
abbrev cX1_wholeBits : ByteArray := prog_3_method_10_code
def yX1_wholeBits : MethodName := ⟨RX1, "wholeBits", "()I"⟩
abbrev cX1_fillUp : ByteArray := prog_3_method_11_code
def yX1_fillUp : MethodName := ⟨RX1, "fillUp", "(I)I"⟩
def RX2 : String := "FileRounds$Past"
def TX2 : u_T := fun k => match k with
  | 0 => ("FileRounds$Past", "kept", "[LFileRounds$Rounds;", true)
  | 1 => ("FileRounds$Past", "made", "I", false)
  | _ => ("FileRounds$Past", "size", "I", false)
def tyX2 : Nat → FieldType := fun k => match k with
  | 0 => .array (.object "FileRounds$Rounds")
  | 1 => .int
  | _ => .int
theorem nmX2 : ∀ a, a < 3 → ∀ b, b < 3 → a ≠ b → (TX2 a).2.1 ≠ (TX2 b).2.1 := by decide +kernel
theorem tyX2_ok : ∀ k, k < 3 → parseFieldDescriptor (TX2 k).2.2.1 = some (tyX2 k) := by decide +kernel
abbrev cX2_init : ByteArray := prog_4_method_1_code
def yX2_init : MethodName := ⟨RX2, "<init>", "(LFileRounds$Plan;)V"⟩
abbrev cX2_keep : ByteArray := prog_4_method_2_code
def yX2_keep : MethodName := ⟨RX2, "keep", "(LFileRounds$Rounds;)V"⟩
abbrev cX2_giveBack : ByteArray := prog_4_method_3_code
def yX2_giveBack : MethodName := ⟨RX2, "giveBack", "(LFileRounds$Rounds;)Z"⟩
abbrev cX2_forget : ByteArray := prog_4_method_4_code
def yX2_forget : MethodName := ⟨RX2, "forget", "()V"⟩
def RX3 : String := "FileRounds$Plan"
def TX3 : u_T := fun k => match k with
  | 0 => ("FileRounds$Plan", "need", "[I", true)
  | 1 => ("FileRounds$Plan", "spare", "[I", true)
  | 2 => ("FileRounds$Plan", "firstWeight", "[I", true)
  | 3 => ("FileRounds$Plan", "files", "I", false)
  | 4 => ("FileRounds$Plan", "every", "I", false)
  | _ => ("FileRounds$Plan", "life", "I", false)
def tyX3 : Nat → FieldType := fun k => match k with
  | 0 => .array .int
  | 1 => .array .int
  | 2 => .array .int
  | 3 => .int
  | 4 => .int
  | _ => .int
theorem nmX3 : ∀ a, a < 6 → ∀ b, b < 6 → a ≠ b → (TX3 a).2.1 ≠ (TX3 b).2.1 := by decide +kernel
theorem tyX3_ok : ∀ k, k < 6 → parseFieldDescriptor (TX3 k).2.2.1 = some (tyX3 k) := by decide +kernel
abbrev cX3_init : ByteArray := prog_5_method_1_code
def yX3_init : MethodName := ⟨RX3, "<init>", "()V"⟩
abbrev cX3_clear : ByteArray := prog_5_method_2_code
def yX3_clear : MethodName := ⟨RX3, "clear", "()V"⟩
abbrev cX3_addFile : ByteArray := prog_5_method_3_code
def yX3_addFile : MethodName := ⟨RX3, "addFile", "(III)Z"⟩
abbrev cX3_setTable : ByteArray := prog_5_method_4_code
def yX3_setTable : MethodName := ⟨RX3, "setTable", "(II)V"⟩
abbrev cX3_hasFile : ByteArray := prog_5_method_5_code
def yX3_hasFile : MethodName := ⟨RX3, "hasFile", "(I)Z"⟩
abbrev cX3_symbolsOf : ByteArray := prog_5_method_6_code
def yX3_symbolsOf : MethodName := ⟨RX3, "symbolsOf", "(I)I"⟩
abbrev cX3_isTableTurn : ByteArray := prog_5_method_7_code
def yX3_isTableTurn : MethodName := ⟨RX3, "isTableTurn", "(I)Z"⟩
abbrev cX3_become : ByteArray := prog_5_method_8_code
def yX3_become : MethodName := ⟨RX3, "become", "(LFileRounds$Plan;)V"⟩
def RX4 : String := "FileRounds$Rounds"
def TX4 : u_T := fun k => match k with
  | 0 => ("FileRounds$Rounds", "sender", "LFileRounds$Sender;", true)
  | 1 => ("FileRounds$Rounds", "listeners", "[LFileRounds$Listener;", true)
  | _ => ("FileRounds$Rounds", "joined", "I", false)
def tyX4 : Nat → FieldType := fun k => match k with
  | 0 => .object "FileRounds$Sender"
  | 1 => .array (.object "FileRounds$Listener")
  | _ => .int
theorem nmX4 : ∀ a, a < 3 → ∀ b, b < 3 → a ≠ b → (TX4 a).2.1 ≠ (TX4 b).2.1 := by decide +kernel
theorem tyX4_ok : ∀ k, k < 3 → parseFieldDescriptor (TX4 k).2.2.1 = some (tyX4 k) := by decide +kernel
abbrev cX4_init : ByteArray := prog_6_method_1_code
def yX4_init : MethodName := ⟨RX4, "<init>", "(LFileRounds$Plan;)V"⟩
abbrev cX4_begin : ByteArray := prog_6_method_2_code
def yX4_begin : MethodName := ⟨RX4, "begin", "()V"⟩
abbrev cX4_become : ByteArray := prog_6_method_3_code
def yX4_become : MethodName := ⟨RX4, "become", "(LFileRounds$Rounds;)V"⟩
abbrev cX4_hasListener : ByteArray := prog_6_method_4_code
def yX4_hasListener : MethodName := ⟨RX4, "hasListener", "(I)Z"⟩
abbrev cX4_hasRoom : ByteArray := prog_6_method_5_code
def yX4_hasRoom : MethodName := ⟨RX4, "hasRoom", "()Z"⟩
abbrev cX4_addListener : ByteArray := prog_6_method_6_code
def yX4_addListener : MethodName := ⟨RX4, "addListener", "(I)I"⟩
abbrev cX4_advance : ByteArray := prog_6_method_7_code
def yX4_advance : MethodName := ⟨RX4, "advance", "()V"⟩
def RX5 : String := "FileRounds$Script"
def TX5 : u_T := fun k => match k with
  | 0 => ("FileRounds$Script", "letters", "[I", true)
  | 1 => ("FileRounds$Script", "length", "I", false)
  | _ => ("FileRounds$Script", "at", "I", false)
def tyX5 : Nat → FieldType := fun k => match k with
  | 0 => .array .int
  | 1 => .int
  | _ => .int
theorem nmX5 : ∀ a, a < 3 → ∀ b, b < 3 → a ≠ b → (TX5 a).2.1 ≠ (TX5 b).2.1 := by decide +kernel
theorem tyX5_ok : ∀ k, k < 3 → parseFieldDescriptor (TX5 k).2.2.1 = some (tyX5 k) := by decide +kernel
abbrev cX5_init : ByteArray := prog_7_method_1_code
def yX5_init : MethodName := ⟨RX5, "<init>", "()V"⟩
abbrev cX5_append : ByteArray := prog_7_method_2_code
def yX5_append : MethodName := ⟨RX5, "append", "(I)Z"⟩
abbrev cX5_firstFault : ByteArray := prog_7_method_3_code
def yX5_firstFault : MethodName := ⟨RX5, "firstFault", "(LFileRounds$Plan;)I"⟩
abbrev cX5_readItem : ByteArray := prog_7_method_4_code
def yX5_readItem : MethodName := ⟨RX5, "readItem", "(LFileRounds$Plan;)Z"⟩
abbrev cX5_readFile : ByteArray := prog_7_method_5_code
def yX5_readFile : MethodName := ⟨RX5, "readFile", "(LFileRounds$Plan;)Z"⟩
abbrev cX5_readTable : ByteArray := prog_7_method_6_code
def yX5_readTable : MethodName := ⟨RX5, "readTable", "(LFileRounds$Plan;)Z"⟩
abbrev cX5_readNumber : ByteArray := prog_7_method_7_code
def yX5_readNumber : MethodName := ⟨RX5, "readNumber", "(I)I"⟩
abbrev cX5_readFigure : ByteArray := prog_7_method_8_code
def yX5_readFigure : MethodName := ⟨RX5, "readFigure", "()I"⟩
abbrev cX5_takes : ByteArray := prog_7_method_9_code
def yX5_takes : MethodName := ⟨RX5, "takes", "(I)Z"⟩
def RX6 : String := "FileRounds$Sender"
def TX6 : u_T := fun k => match k with
  | 0 => ("FileRounds$Sender", "plan", "LFileRounds$Plan;", true)
  | 1 => ("FileRounds$Sender", "weight", "[I", true)
  | 2 => ("FileRounds$Sender", "version", "[I", true)
  | 3 => ("FileRounds$Sender", "next", "[I", true)
  | 4 => ("FileRounds$Sender", "credit", "[I", true)
  | 5 => ("FileRounds$Sender", "sentOf", "[I", true)
  | 6 => ("FileRounds$Sender", "lastFiles", "[I", true)
  | 7 => ("FileRounds$Sender", "lastSymbols", "[I", true)
  | 8 => ("FileRounds$Sender", "lastVersions", "[I", true)
  | 9 => ("FileRounds$Sender", "clock", "I", false)
  | 10 => ("FileRounds$Sender", "tables", "I", false)
  | _ => ("FileRounds$Sender", "symbols", "I", false)
def tyX6 : Nat → FieldType := fun k => match k with
  | 0 => .object "FileRounds$Plan"
  | 1 => .array .int
  | 2 => .array .int
  | 3 => .array .int
  | 4 => .array .int
  | 5 => .array .int
  | 6 => .array .int
  | 7 => .array .int
  | 8 => .array .int
  | 9 => .int
  | 10 => .int
  | _ => .int
theorem nmX6 : ∀ a, a < 12 → ∀ b, b < 12 → a ≠ b → (TX6 a).2.1 ≠ (TX6 b).2.1 := by decide +kernel
theorem tyX6_ok : ∀ k, k < 12 → parseFieldDescriptor (TX6 k).2.2.1 = some (tyX6 k) := by decide +kernel
abbrev cX6_init : ByteArray := prog_8_method_1_code
def yX6_init : MethodName := ⟨RX6, "<init>", "(LFileRounds$Plan;)V"⟩
abbrev cX6_begin : ByteArray := prog_8_method_2_code
def yX6_begin : MethodName := ⟨RX6, "begin", "()V"⟩
abbrev cX6_become : ByteArray := prog_8_method_3_code
def yX6_become : MethodName := ⟨RX6, "become", "(LFileRounds$Sender;)V"⟩
abbrev cX6_step : ByteArray := prog_8_method_4_code
def yX6_step : MethodName := ⟨RX6, "step", "()V"⟩
abbrev cX6_chooseFile : ByteArray := prog_8_method_5_code
def yX6_chooseFile : MethodName := ⟨RX6, "chooseFile", "()I"⟩
abbrev cX6_sendSymbol : ByteArray := prog_8_method_6_code
def yX6_sendSymbol : MethodName := ⟨RX6, "sendSymbol", "(I)V"⟩
abbrev cX6_note : ByteArray := prog_8_method_7_code
def yX6_note : MethodName := ⟨RX6, "note", "(III)V"⟩
abbrev cX6_placeOf : ByteArray := prog_8_method_8_code
def yX6_placeOf : MethodName := ⟨RX6, "placeOf", "(I)I"⟩
abbrev cX6_fileIn : ByteArray := prog_8_method_9_code
def yX6_fileIn : MethodName := ⟨RX6, "fileIn", "(I)I"⟩
abbrev cX6_symbolIn : ByteArray := prog_8_method_10_code
def yX6_symbolIn : MethodName := ⟨RX6, "symbolIn", "(I)I"⟩
abbrev cX6_versionIn : ByteArray := prog_8_method_11_code
def yX6_versionIn : MethodName := ⟨RX6, "versionIn", "(I)I"⟩
abbrev cX6_startNewVersion : ByteArray := prog_8_method_12_code
def yX6_startNewVersion : MethodName := ⟨RX6, "startNewVersion", "(I)I"⟩
abbrev cX6_allWeights : ByteArray := prog_8_method_13_code
def yX6_allWeights : MethodName := ⟨RX6, "allWeights", "()I"⟩
def RX7 : String := "FileRounds"
def TX7 : u_T := fun k => match k with
  | 0 => ("FileRounds", "script", "LFileRounds$Script;", true)
  | 1 => ("FileRounds", "read", "LFileRounds$Plan;", true)
  | 2 => ("FileRounds", "laid", "LFileRounds$Plan;", true)
  | 3 => ("FileRounds", "now", "LFileRounds$Rounds;", true)
  | 4 => ("FileRounds", "past", "LFileRounds$Past;", true)
  | _ => ("FileRounds", "forecast", "LFileRounds$Forecast;", true)
def tyX7 : Nat → FieldType := fun k => match k with
  | 0 => .object "FileRounds$Script"
  | 1 => .object "FileRounds$Plan"
  | 2 => .object "FileRounds$Plan"
  | 3 => .object "FileRounds$Rounds"
  | 4 => .object "FileRounds$Past"
  | _ => .object "FileRounds$Forecast"
theorem nmX7 : ∀ a, a < 6 → ∀ b, b < 6 → a ≠ b → (TX7 a).2.1 ≠ (TX7 b).2.1 := by decide +kernel
theorem tyX7_ok : ∀ k, k < 6 → parseFieldDescriptor (TX7 k).2.2.1 = some (tyX7 k) := by decide +kernel
abbrev cX7_init : ByteArray := prog_1_method_1_code
def yX7_init : MethodName := ⟨RX7, "<init>", "()V"⟩
abbrev cX7_write : ByteArray := prog_1_method_2_code
def yX7_write : MethodName := ⟨RX7, "write", "(I)I"⟩
abbrev cX7_wipe : ByteArray := prog_1_method_3_code
def yX7_wipe : MethodName := ⟨RX7, "wipe", "()I"⟩
abbrev cX7_fault : ByteArray := prog_1_method_4_code
def yX7_fault : MethodName := ⟨RX7, "fault", "()I"⟩
abbrev cX7_lay : ByteArray := prog_1_method_5_code
def yX7_lay : MethodName := ⟨RX7, "lay", "()I"⟩
abbrev cX7_tick : ByteArray := prog_1_method_6_code
def yX7_tick : MethodName := ⟨RX7, "tick", "(I)I"⟩
abbrev cX7_renew : ByteArray := prog_1_method_7_code
def yX7_renew : MethodName := ⟨RX7, "renew", "(I)I"⟩
abbrev cX7_weigh : ByteArray := prog_1_method_8_code
def yX7_weigh : MethodName := ⟨RX7, "weigh", "(II)I"⟩
abbrev cX7_join : ByteArray := prog_1_method_9_code
def yX7_join : MethodName := ⟨RX7, "join", "(I)I"⟩
abbrev cX7_repair : ByteArray := prog_1_method_10_code
def yX7_repair : MethodName := ⟨RX7, "repair", "(II)I"⟩
abbrev cX7_undo : ByteArray := prog_1_method_11_code
def yX7_undo : MethodName := ⟨RX7, "undo", "()I"⟩
abbrev cX7_file : ByteArray := prog_1_method_12_code
def yX7_file : MethodName := ⟨RX7, "file", "(II)I"⟩
abbrev cX7_sent : ByteArray := prog_1_method_13_code
def yX7_sent : MethodName := ⟨RX7, "sent", "(II)I"⟩
abbrev cX7_listener : ByteArray := prog_1_method_14_code
def yX7_listener : MethodName := ⟨RX7, "listener", "(II)I"⟩
abbrev cX7_holds : ByteArray := prog_1_method_15_code
def yX7_holds : MethodName := ⟨RX7, "holds", "(III)I"⟩
abbrev cX7_waits : ByteArray := prog_1_method_16_code
def yX7_waits : MethodName := ⟨RX7, "waits", "(II)I"⟩
abbrev cX7_mean : ByteArray := prog_1_method_17_code
def yX7_mean : MethodName := ⟨RX7, "mean", "(III)I"⟩
abbrev cX7_count : ByteArray := prog_1_method_18_code
def yX7_count : MethodName := ⟨RX7, "count", "(I)I"⟩
abbrev cX7_partBits : ByteArray := prog_1_method_19_code
def yX7_partBits : MethodName := ⟨RX7, "partBits", "(II)I"⟩
abbrev cX7_bitsOf : ByteArray := prog_1_method_20_code
def yX7_bitsOf : MethodName := ⟨RX7, "bitsOf", "(F)I"⟩
def RX8 : String := "FileRoundsModel"
def TX8 : u_T := fun k => match k with
  | 0 => ("FileRoundsModel", "w", "[I", true)
  | 1 => ("FileRoundsModel", "undos", "I", false)
  | 2 => ("FileRoundsModel", "text", "[I", true)
  | 3 => ("FileRoundsModel", "length", "I", false)
  | 4 => ("FileRoundsModel", "laid", "[I", true)
  | 5 => ("FileRoundsModel", "place", "I", false)
  | 6 => ("FileRoundsModel", "number", "I", false)
  | 7 => ("FileRoundsModel", "readEach", "I", false)
  | _ => ("FileRoundsModel", "readLife", "I", false)
def tyX8 : Nat → FieldType := fun k => match k with
  | 0 => .array .int
  | 1 => .int
  | 2 => .array .int
  | 3 => .int
  | 4 => .array .int
  | 5 => .int
  | 6 => .int
  | 7 => .int
  | _ => .int
theorem nmX8 : ∀ a, a < 9 → ∀ b, b < 9 → a ≠ b → (TX8 a).2.1 ≠ (TX8 b).2.1 := by decide +kernel
theorem tyX8_ok : ∀ k, k < 9 → parseFieldDescriptor (TX8 k).2.2.1 = some (tyX8 k) := by decide +kernel
abbrev cX8_init : ByteArray := prog_10_method_1_code
def yX8_init : MethodName := ⟨RX8, "<init>", "()V"⟩
abbrev cX8_within : ByteArray := prog_10_method_3_code
def yX8_within : MethodName := ⟨RX8, "within", "(III)Z"⟩
abbrev cX8_ones : ByteArray := prog_10_method_4_code
def yX8_ones : MethodName := ⟨RX8, "ones", "(I)I"⟩
abbrev cX8_laysFile : ByteArray := prog_10_method_5_code
def yX8_laysFile : MethodName := ⟨RX8, "laysFile", "(IIII)V"⟩
abbrev cX8_begins : ByteArray := prog_10_method_6_code
def yX8_begins : MethodName := ⟨RX8, "begins", "(II)V"⟩
abbrev cX8_write : ByteArray := prog_10_method_7_code
def yX8_write : MethodName := ⟨RX8, "write", "(I)I"⟩
abbrev cX8_wipe : ByteArray := prog_10_method_8_code
def yX8_wipe : MethodName := ⟨RX8, "wipe", "()I"⟩
abbrev cX8_here : ByteArray := prog_10_method_9_code
def yX8_here : MethodName := ⟨RX8, "here", "()I"⟩
abbrev cX8_passes : ByteArray := prog_10_method_10_code
def yX8_passes : MethodName := ⟨RX8, "passes", "(III)Z"⟩
abbrev cX8_passesFile : ByteArray := prog_10_method_11_code
def yX8_passesFile : MethodName := ⟨RX8, "passesFile", "()Z"⟩
abbrev cX8_passesTable : ByteArray := prog_10_method_12_code
def yX8_passesTable : MethodName := ⟨RX8, "passesTable", "()Z"⟩
abbrev cX8_faultIs : ByteArray := prog_10_method_13_code
def yX8_faultIs : MethodName := ⟨RX8, "faultIs", "()I"⟩
abbrev cX8_fault : ByteArray := prog_10_method_14_code
def yX8_fault : MethodName := ⟨RX8, "fault", "()I"⟩
abbrev cX8_lay : ByteArray := prog_10_method_15_code
def yX8_lay : MethodName := ⟨RX8, "lay", "()I"⟩
abbrev cX8_sendsNext : ByteArray := prog_10_method_16_code
def yX8_sendsNext : MethodName := ⟨RX8, "sendsNext", "(I)I"⟩
abbrev cX8_logs : ByteArray := prog_10_method_17_code
def yX8_logs : MethodName := ⟨RX8, "logs", "(IIII)V"⟩
abbrev cX8_isLost : ByteArray := prog_10_method_18_code
def yX8_isLost : MethodName := ⟨RX8, "isLost", "(II)Z"⟩
abbrev cX8_hearsTable : ByteArray := prog_10_method_19_code
def yX8_hearsTable : MethodName := ⟨RX8, "hearsTable", "(II)V"⟩
abbrev cX8_hearsSymbol : ByteArray := prog_10_method_20_code
def yX8_hearsSymbol : MethodName := ⟨RX8, "hearsSymbol", "(IIII)V"⟩
abbrev cX8_ticks : ByteArray := prog_10_method_21_code
def yX8_ticks : MethodName := ⟨RX8, "ticks", "(I)I"⟩
abbrev cX8_copies : ByteArray := prog_10_method_22_code
def yX8_copies : MethodName := ⟨RX8, "copies", "(II)V"⟩
abbrev cX8_minds : ByteArray := prog_10_method_23_code
def yX8_minds : MethodName := ⟨RX8, "minds", "()V"⟩
abbrev cX8_undo : ByteArray := prog_10_method_24_code
def yX8_undo : MethodName := ⟨RX8, "undo", "()I"⟩
abbrev cX8_tick : ByteArray := prog_10_method_25_code
def yX8_tick : MethodName := ⟨RX8, "tick", "(I)I"⟩
abbrev cX8_isFile : ByteArray := prog_10_method_26_code
def yX8_isFile : MethodName := ⟨RX8, "isFile", "(I)Z"⟩
abbrev cX8_isListener : ByteArray := prog_10_method_27_code
def yX8_isListener : MethodName := ⟨RX8, "isListener", "(I)Z"⟩
abbrev cX8_renew : ByteArray := prog_10_method_28_code
def yX8_renew : MethodName := ⟨RX8, "renew", "(I)I"⟩
abbrev cX8_weigh : ByteArray := prog_10_method_29_code
def yX8_weigh : MethodName := ⟨RX8, "weigh", "(II)I"⟩
abbrev cX8_join : ByteArray := prog_10_method_30_code
def yX8_join : MethodName := ⟨RX8, "join", "(I)I"⟩
abbrev cX8_knows : ByteArray := prog_10_method_31_code
def yX8_knows : MethodName := ⟨RX8, "knows", "(I)Z"⟩
abbrev cX8_lacks : ByteArray := prog_10_method_32_code
def yX8_lacks : MethodName := ⟨RX8, "lacks", "(II)I"⟩
abbrev cX8_repair : ByteArray := prog_10_method_33_code
def yX8_repair : MethodName := ⟨RX8, "repair", "(II)I"⟩
abbrev cX8_partBits : ByteArray := prog_10_method_34_code
def yX8_partBits : MethodName := ⟨RX8, "partBits", "(I)I"⟩
abbrev cX8_file : ByteArray := prog_10_method_35_code
def yX8_file : MethodName := ⟨RX8, "file", "(II)I"⟩
abbrev cX8_sent : ByteArray := prog_10_method_36_code
def yX8_sent : MethodName := ⟨RX8, "sent", "(II)I"⟩
abbrev cX8_wholes : ByteArray := prog_10_method_37_code
def yX8_wholes : MethodName := ⟨RX8, "wholes", "(I)I"⟩
abbrev cX8_listener : ByteArray := prog_10_method_38_code
def yX8_listener : MethodName := ⟨RX8, "listener", "(II)I"⟩
abbrev cX8_holds : ByteArray := prog_10_method_39_code
def yX8_holds : MethodName := ⟨RX8, "holds", "(III)I"⟩
abbrev cX8_waitsFrom : ByteArray := prog_10_method_40_code
def yX8_waitsFrom : MethodName := ⟨RX8, "waitsFrom", "(I)I"⟩
abbrev cX8_waitIs : ByteArray := prog_10_method_41_code
def yX8_waitIs : MethodName := ⟨RX8, "waitIs", "(II)I"⟩
abbrev cX8_waits : ByteArray := prog_10_method_42_code
def yX8_waits : MethodName := ⟨RX8, "waits", "(II)I"⟩
abbrev cX8_mean : ByteArray := prog_10_method_43_code
def yX8_mean : MethodName := ⟨RX8, "mean", "(III)I"⟩
abbrev cX8_count : ByteArray := prog_10_method_44_code
def yX8_count : MethodName := ⟨RX8, "count", "(I)I"⟩
def RJxf58ca : String := "java/lang/Float"
abbrev cJxf58ca_isNaN_12338 : ByteArray := prog_11_method_6_code
def yJxf58ca_isNaN_12338 : MethodName := ⟨RJxf58ca, "isNaN", "(F)Z"⟩
abbrev cJxf58ca_floatToIntBits_5c35a : ByteArray := prog_11_method_24_code
def yJxf58ca_floatToIntBits_5c35a : MethodName := ⟨RJxf58ca, "floatToIntBits", "(F)I"⟩
def RJ6 : String := "java/lang/Integer"
abbrev cJ6_bitCount_0f7a4 : ByteArray := prog_12_method_49_code
def yJ6_bitCount_0f7a4 : MethodName := ⟨RJ6, "bitCount", "(I)I"⟩
def RJ9 : String := "java/lang/Math"
abbrev cJ9_floorMod_7cf53 : ByteArray := prog_13_method_50_code
def yJ9_floorMod_7cf53 : MethodName := ⟨RJ9, "floorMod", "(II)I"⟩
abbrev cJ9_max_7cf53 : ByteArray := prog_13_method_65_code
def yJ9_max_7cf53 : MethodName := ⟨RJ9, "max", "(II)I"⟩
abbrev cJ9_min_7cf53 : ByteArray := prog_13_method_69_code
def yJ9_min_7cf53 : MethodName := ⟨RJ9, "min", "(II)I"⟩
def RJ10 : String := "java/lang/System"
def RL : String := "FileRoundsLaw"
abbrev cL_law : ByteArray := code
def yL_law : MethodName := ⟨RL, "law", "([I)Z"⟩
abbrev vwCl : List vw_C := [(RX0, TX0, 5), (RX1, TX1, 8), (RX2, TX2, 3), (RX3, TX3, 6), (RX4, TX4, 3), (RX5, TX5, 3), (RX6, TX6, 12), (RX7, TX7, 6), (RX8, TX8, 9)]
/-- the good words of the tables, and the links of nest mates -/
def wd_G : List Cond := lw_tbl.filter goodWord
theorem wd_in {w : Cond} (i : Nat) (h : lw_tbl[i]? = some w) (g : goodWord w = true) : w ∈ wd_G := List.mem_filter.mpr ⟨List.mem_of_getElem? h, g⟩
theorem wd_good : ∀ w ∈ wd_G, w ∈ wd_G ∧ ((w.onTables && w.keeps) = true ∨ ∃ ty, w = .arrayClass ty) := fun w h => ⟨h, good_of_word (List.mem_filter.mp h).2⟩
theorem wd_tbl : ∀ w ∈ wd_G, w ∈ lw_tbl := fun _ h => (List.mem_filter.mp h).1
def wd_N : List Cond := [.methodLinkNest RX7 11 yX5_init "FileRounds", .fieldLinkNest RX7 64 "FileRounds$Script" "length" "I" "FileRounds", .methodLinkNest RX7 18 yX3_init "FileRounds", .fieldLinkNest RX0 32 "FileRounds$Plan" "need" "[I" "FileRounds", .fieldLinkNest RX1 93 "FileRounds$Plan" "need" "[I" "FileRounds", .fieldLinkNest RX7 143 "FileRounds$Plan" "need" "[I" "FileRounds", .fieldLinkNest RX7 146 "FileRounds$Plan" "spare" "[I" "FileRounds", .fieldLinkNest RX6 40 "FileRounds$Plan" "firstWeight" "[I" "FileRounds", .fieldLinkNest RX6 80 "FileRounds$Plan" "files" "I" "FileRounds", .fieldLinkNest RX7 72 "FileRounds$Plan" "files" "I" "FileRounds", .fieldLinkNest RX1 84 "FileRounds$Plan" "files" "I" "FileRounds", .fieldLinkNest RX7 212 "FileRounds$Plan" "every" "I" "FileRounds", .fieldLinkNest RX0 68 "FileRounds$Plan" "life" "I" "FileRounds", .fieldLinkNest RX1 87 "FileRounds$Plan" "life" "I" "FileRounds", .fieldLinkNest RX7 215 "FileRounds$Plan" "life" "I" "FileRounds", .fieldLinkNest RX7 107 "FileRounds$Sender" "weight" "[I" "FileRounds", .fieldLinkNest RX1 54 "FileRounds$Sender" "version" "[I" "FileRounds", .fieldLinkNest RX7 149 "FileRounds$Sender" "version" "[I" "FileRounds", .fieldLinkNest RX7 152 "FileRounds$Sender" "next" "[I" "FileRounds", .fieldLinkNest RX7 155 "FileRounds$Sender" "credit" "[I" "FileRounds", .fieldLinkNest RX7 158 "FileRounds$Sender" "sentOf" "[I" "FileRounds", .fieldLinkNest RX0 52 "FileRounds$Sender" "clock" "I" "FileRounds", .fieldLinkNest RX4 43 "FileRounds$Sender" "clock" "I" "FileRounds", .fieldLinkNest RX7 85 "FileRounds$Sender" "clock" "I" "FileRounds", .fieldLinkNest RX7 221 "FileRounds$Sender" "tables" "I" "FileRounds", .fieldLinkNest RX7 94 "FileRounds$Sender" "symbols" "I" "FileRounds", .fieldLinkNest RX7 190 "FileRounds$Listener" "held" "[I" "FileRounds", .fieldLinkNest RX7 193 "FileRounds$Listener" "told" "[I" "FileRounds", .fieldLinkNest RX7 174 "FileRounds$Listener" "loss" "I" "FileRounds", .fieldLinkNest RX7 177 "FileRounds$Listener" "came" "I" "FileRounds", .fieldLinkNest RX7 180 "FileRounds$Listener" "livesTo" "I" "FileRounds", .fieldLinkNest RX7 187 "FileRounds$Listener" "missed" "I" "FileRounds", .fieldLinkNest RX7 81 "FileRounds$Rounds" "sender" "LFileRounds$Sender;" "FileRounds", .fieldLinkNest RX7 121 "FileRounds$Rounds" "listeners" "[LFileRounds$Listener;" "FileRounds", .fieldLinkNest RX7 218 "FileRounds$Rounds" "joined" "I" "FileRounds", .fieldLinkNest RX7 140 "FileRounds$Past" "size" "I" "FileRounds"]
theorem wd_N_tbl : ∀ w ∈ wd_N, w ∈ lw_tbl := by
  intro w hw
  simp only [wd_N, List.mem_cons, List.not_mem_nil, or_false] at hw
  rcases hw with rfl | rfl | rfl | rfl | rfl | rfl | rfl | rfl | rfl | rfl | rfl | rfl | rfl | rfl | rfl | rfl | rfl | rfl | rfl | rfl | rfl | rfl | rfl | rfl | rfl | rfl | rfl | rfl | rfl | rfl | rfl | rfl | rfl | rfl | rfl | rfl
  · exact List.mem_of_getElem? (i := 60) (by decide +kernel)
  · exact List.mem_of_getElem? (i := 66) (by decide +kernel)
  · exact List.mem_of_getElem? (i := 78) (by decide +kernel)
  · exact List.mem_of_getElem? (i := 83) (by decide +kernel)
  · exact List.mem_of_getElem? (i := 84) (by decide +kernel)
  · exact List.mem_of_getElem? (i := 85) (by decide +kernel)
  · exact List.mem_of_getElem? (i := 87) (by decide +kernel)
  · exact List.mem_of_getElem? (i := 89) (by decide +kernel)
  · exact List.mem_of_getElem? (i := 91) (by decide +kernel)
  · exact List.mem_of_getElem? (i := 92) (by decide +kernel)
  · exact List.mem_of_getElem? (i := 93) (by decide +kernel)
  · exact List.mem_of_getElem? (i := 95) (by decide +kernel)
  · exact List.mem_of_getElem? (i := 97) (by decide +kernel)
  · exact List.mem_of_getElem? (i := 98) (by decide +kernel)
  · exact List.mem_of_getElem? (i := 99) (by decide +kernel)
  · exact List.mem_of_getElem? (i := 137) (by decide +kernel)
  · exact List.mem_of_getElem? (i := 139) (by decide +kernel)
  · exact List.mem_of_getElem? (i := 140) (by decide +kernel)
  · exact List.mem_of_getElem? (i := 142) (by decide +kernel)
  · exact List.mem_of_getElem? (i := 144) (by decide +kernel)
  · exact List.mem_of_getElem? (i := 146) (by decide +kernel)
  · exact List.mem_of_getElem? (i := 150) (by decide +kernel)
  · exact List.mem_of_getElem? (i := 152) (by decide +kernel)
  · exact List.mem_of_getElem? (i := 153) (by decide +kernel)
  · exact List.mem_of_getElem? (i := 155) (by decide +kernel)
  · exact List.mem_of_getElem? (i := 157) (by decide +kernel)
  · exact List.mem_of_getElem? (i := 191) (by decide +kernel)
  · exact List.mem_of_getElem? (i := 193) (by decide +kernel)
  · exact List.mem_of_getElem? (i := 195) (by decide +kernel)
  · exact List.mem_of_getElem? (i := 197) (by decide +kernel)
  · exact List.mem_of_getElem? (i := 199) (by decide +kernel)
  · exact List.mem_of_getElem? (i := 201) (by decide +kernel)
  · exact List.mem_of_getElem? (i := 220) (by decide +kernel)
  · exact List.mem_of_getElem? (i := 222) (by decide +kernel)
  · exact List.mem_of_getElem? (i := 224) (by decide +kernel)
  · exact List.mem_of_getElem? (i := 255) (by decide +kernel)
end
section
theorem dX0_init_0 : decode cX0_init 0 = .ok (.aload_n 0, 1) := by decide +kernel
theorem dX0_init_1 : decode cX0_init 1 = .ok (.invokespecial 3, 3) := by decide +kernel
theorem dX0_init_4 : decode cX0_init 4 = .ok (.aload_n 0, 1) := by decide +kernel
theorem dX0_init_5 : decode cX0_init 5 = .ok (.sipush 499, 3) := by decide +kernel
theorem dX0_init_8 : decode cX0_init 8 = .ok (.newarray .int, 2) := by decide +kernel
theorem dX0_init_10 : decode cX0_init 10 = .ok (.putfield 9, 3) := by decide +kernel
theorem dX0_init_13 : decode cX0_init 13 = .ok (.aload_n 0, 1) := by decide +kernel
theorem dX0_init_14 : decode cX0_init 14 = .ok (.aload_n 1, 1) := by decide +kernel
theorem dX0_init_15 : decode cX0_init 15 = .ok (.putfield 15, 3) := by decide +kernel
theorem dX0_init_18 : decode cX0_init 18 = .ok (.aload_n 0, 1) := by decide +kernel
theorem dX0_init_19 : decode cX0_init 19 = .ok (.new 19, 3) := by decide +kernel
theorem dX0_init_22 : decode cX0_init 22 = .ok (.dup, 1) := by decide +kernel
theorem dX0_init_23 : decode cX0_init 23 = .ok (.aload_n 1, 1) := by decide +kernel
theorem dX0_init_24 : decode cX0_init 24 = .ok (.invokespecial 21, 3) := by decide +kernel
theorem dX0_init_27 : decode cX0_init 27 = .ok (.putfield 24, 3) := by decide +kernel
theorem dX0_init_30 : decode cX0_init 30 = .ok (.return_, 1) := by decide +kernel
theorem dX0_look_0 : decode cX0_look 0 = .ok (.aload_n 0, 1) := by decide +kernel
theorem dX0_look_1 : decode cX0_look 1 = .ok (.getfield 24, 3) := by decide +kernel
theorem dX0_look_4 : decode cX0_look 4 = .ok (.aload_n 1, 1) := by decide +kernel
theorem dX0_look_5 : decode cX0_look 5 = .ok (.invokevirtual 28, 3) := by decide +kernel
theorem dX0_look_8 : decode cX0_look 8 = .ok (.aload_n 0, 1) := by decide +kernel
theorem dX0_look_9 : decode cX0_look 9 = .ok (.aload_n 0, 1) := by decide +kernel
theorem dX0_look_10 : decode cX0_look 10 = .ok (.getfield 15, 3) := by decide +kernel
theorem dX0_look_13 : decode cX0_look 13 = .ok (.getfield 32, 3) := by decide +kernel
theorem dX0_look_16 : decode cX0_look 16 = .ok (.iload_n 2, 1) := by decide +kernel
theorem dX0_look_17 : decode cX0_look 17 = .ok (.iaload, 1) := by decide +kernel
theorem dX0_look_18 : decode cX0_look 18 = .ok (.putfield 37, 3) := by decide +kernel
theorem dX0_look_21 : decode cX0_look 21 = .ok (.aload_n 0, 1) := by decide +kernel
theorem dX0_look_22 : decode cX0_look 22 = .ok (.iconst 0, 1) := by decide +kernel
theorem dX0_look_23 : decode cX0_look 23 = .ok (.iload_n 3, 1) := by decide +kernel
theorem dX0_look_24 : decode cX0_look 24 = .ok (.aload_n 0, 1) := by decide +kernel
theorem dX0_look_25 : decode cX0_look 25 = .ok (.getfield 9, 3) := by decide +kernel
theorem dX0_look_28 : decode cX0_look 28 = .ok (.arraylength, 1) := by decide +kernel
theorem dX0_look_29 : decode cX0_look 29 = .ok (.invokestatic 40, 3) := by decide +kernel
theorem dX0_look_32 : decode cX0_look 32 = .ok (.invokestatic 46, 3) := by decide +kernel
theorem dX0_look_35 : decode cX0_look 35 = .ok (.putfield 49, 3) := by decide +kernel
theorem dX0_look_38 : decode cX0_look 38 = .ok (.iconst 0, 1) := by decide +kernel
theorem dX0_look_39 : decode cX0_look 39 = .ok (.istore 4, 2) := by decide +kernel
theorem dX0_look_41 : decode cX0_look 41 = .ok (.iload 4, 2) := by decide +kernel
theorem dX0_look_43 : decode cX0_look 43 = .ok (.aload_n 0, 1) := by decide +kernel
theorem dX0_look_44 : decode cX0_look 44 = .ok (.getfield 49, 3) := by decide +kernel
theorem dX0_look_47 : decode cX0_look 47 = .ok (.if_icmp .ge 39, 3) := by decide +kernel
theorem dX0_look_50 : decode cX0_look 50 = .ok (.aload_n 0, 1) := by decide +kernel
theorem dX0_look_51 : decode cX0_look 51 = .ok (.getfield 24, 3) := by decide +kernel
theorem dX0_look_54 : decode cX0_look 54 = .ok (.getfield 52, 3) := by decide +kernel
theorem dX0_look_57 : decode cX0_look 57 = .ok (.istore 5, 2) := by decide +kernel
theorem dX0_look_59 : decode cX0_look 59 = .ok (.aload_n 0, 1) := by decide +kernel
theorem dX0_look_60 : decode cX0_look 60 = .ok (.getfield 24, 3) := by decide +kernel
theorem dX0_look_63 : decode cX0_look 63 = .ok (.invokevirtual 55, 3) := by decide +kernel
theorem dX0_look_66 : decode cX0_look 66 = .ok (.aload_n 0, 1) := by decide +kernel
theorem dX0_look_67 : decode cX0_look 67 = .ok (.getfield 9, 3) := by decide +kernel
theorem dX0_look_70 : decode cX0_look 70 = .ok (.iload 4, 2) := by decide +kernel
theorem dX0_look_72 : decode cX0_look 72 = .ok (.aload_n 0, 1) := by decide +kernel
theorem dX0_look_73 : decode cX0_look 73 = .ok (.iload_n 2, 1) := by decide +kernel
theorem dX0_look_74 : decode cX0_look 74 = .ok (.iload 5, 2) := by decide +kernel
theorem dX0_look_76 : decode cX0_look 76 = .ok (.invokevirtual 58, 3) := by decide +kernel
theorem dX0_look_79 : decode cX0_look 79 = .ok (.iastore, 1) := by decide +kernel
theorem dX0_look_80 : decode cX0_look 80 = .ok (.iinc 4 1, 3) := by decide +kernel
theorem dX0_look_83 : decode cX0_look 83 = .ok (.goto (-42), 3) := by decide +kernel
theorem dX0_look_86 : decode cX0_look 86 = .ok (.return_, 1) := by decide +kernel
theorem dX0_seenAs_0 : decode cX0_seenAs 0 = .ok (.aload_n 0, 1) := by decide +kernel
theorem dX0_seenAs_1 : decode cX0_seenAs 1 = .ok (.getfield 24, 3) := by decide +kernel
theorem dX0_seenAs_4 : decode cX0_seenAs 4 = .ok (.iload_n 2, 1) := by decide +kernel
theorem dX0_seenAs_5 : decode cX0_seenAs 5 = .ok (.invokevirtual 61, 3) := by decide +kernel
theorem dX0_seenAs_8 : decode cX0_seenAs 8 = .ok (.istore_n 3, 1) := by decide +kernel
theorem dX0_seenAs_9 : decode cX0_seenAs 9 = .ok (.iload_n 3, 1) := by decide +kernel
theorem dX0_seenAs_10 : decode cX0_seenAs 10 = .ok (.bipush (-4), 2) := by decide +kernel
theorem dX0_seenAs_12 : decode cX0_seenAs 12 = .ok (.if_icmp .ne 6, 3) := by decide +kernel
theorem dX0_seenAs_15 : decode cX0_seenAs 15 = .ok (.bipush (-4), 2) := by decide +kernel
theorem dX0_seenAs_17 : decode cX0_seenAs 17 = .ok (.ireturn, 1) := by decide +kernel
theorem dX0_seenAs_18 : decode cX0_seenAs 18 = .ok (.iload_n 3, 1) := by decide +kernel
theorem dX0_seenAs_19 : decode cX0_seenAs 19 = .ok (.iload_n 1, 1) := by decide +kernel
theorem dX0_seenAs_20 : decode cX0_seenAs 20 = .ok (.if_icmp .ne 14, 3) := by decide +kernel
theorem dX0_seenAs_23 : decode cX0_seenAs 23 = .ok (.aload_n 0, 1) := by decide +kernel
theorem dX0_seenAs_24 : decode cX0_seenAs 24 = .ok (.getfield 24, 3) := by decide +kernel
theorem dX0_seenAs_27 : decode cX0_seenAs 27 = .ok (.iload_n 2, 1) := by decide +kernel
theorem dX0_seenAs_28 : decode cX0_seenAs 28 = .ok (.invokevirtual 65, 3) := by decide +kernel
theorem dX0_seenAs_31 : decode cX0_seenAs 31 = .ok (.goto 4, 3) := by decide +kernel
theorem dX0_seenAs_34 : decode cX0_seenAs 34 = .ok (.iconst (-1), 1) := by decide +kernel
theorem dX0_seenAs_35 : decode cX0_seenAs 35 = .ok (.ireturn, 1) := by decide +kernel
theorem dX0_waitBehind_0 : decode cX0_waitBehind 0 = .ok (.iconst 0, 1) := by decide +kernel
theorem dX0_waitBehind_1 : decode cX0_waitBehind 1 = .ok (.istore_n 2, 1) := by decide +kernel
theorem dX0_waitBehind_2 : decode cX0_waitBehind 2 = .ok (.bipush (-4), 2) := by decide +kernel
theorem dX0_waitBehind_4 : decode cX0_waitBehind 4 = .ok (.istore_n 3, 1) := by decide +kernel
theorem dX0_waitBehind_5 : decode cX0_waitBehind 5 = .ok (.iconst 0, 1) := by decide +kernel
theorem dX0_waitBehind_6 : decode cX0_waitBehind 6 = .ok (.iload_n 1, 1) := by decide +kernel
theorem dX0_waitBehind_7 : decode cX0_waitBehind 7 = .ok (.invokestatic 46, 3) := by decide +kernel
theorem dX0_waitBehind_10 : decode cX0_waitBehind 10 = .ok (.istore 4, 2) := by decide +kernel
theorem dX0_waitBehind_12 : decode cX0_waitBehind 12 = .ok (.iload 4, 2) := by decide +kernel
theorem dX0_waitBehind_14 : decode cX0_waitBehind 14 = .ok (.aload_n 0, 1) := by decide +kernel
theorem dX0_waitBehind_15 : decode cX0_waitBehind 15 = .ok (.getfield 49, 3) := by decide +kernel
theorem dX0_waitBehind_18 : decode cX0_waitBehind 18 = .ok (.if_icmp .ge 87, 3) := by decide +kernel
theorem dX0_waitBehind_21 : decode cX0_waitBehind 21 = .ok (.iload 4, 2) := by decide +kernel
theorem dX0_waitBehind_23 : decode cX0_waitBehind 23 = .ok (.iload_n 1, 1) := by decide +kernel
theorem dX0_waitBehind_24 : decode cX0_waitBehind 24 = .ok (.isub, 1) := by decide +kernel
theorem dX0_waitBehind_25 : decode cX0_waitBehind 25 = .ok (.sipush 400, 3) := by decide +kernel
theorem dX0_waitBehind_28 : decode cX0_waitBehind 28 = .ok (.if_icmp .ge 77, 3) := by decide +kernel
theorem dX0_waitBehind_31 : decode cX0_waitBehind 31 = .ok (.aload_n 0, 1) := by decide +kernel
theorem dX0_waitBehind_32 : decode cX0_waitBehind 32 = .ok (.getfield 9, 3) := by decide +kernel
theorem dX0_waitBehind_35 : decode cX0_waitBehind 35 = .ok (.iload 4, 2) := by decide +kernel
theorem dX0_waitBehind_37 : decode cX0_waitBehind 37 = .ok (.iaload, 1) := by decide +kernel
theorem dX0_waitBehind_38 : decode cX0_waitBehind 38 = .ok (.istore 5, 2) := by decide +kernel
theorem dX0_waitBehind_40 : decode cX0_waitBehind 40 = .ok (.iload 5, 2) := by decide +kernel
theorem dX0_waitBehind_42 : decode cX0_waitBehind 42 = .ok (.bipush (-4), 2) := by decide +kernel
theorem dX0_waitBehind_44 : decode cX0_waitBehind 44 = .ok (.if_icmp .ne 19, 3) := by decide +kernel
theorem dX0_waitBehind_47 : decode cX0_waitBehind 47 = .ok (.iload 4, 2) := by decide +kernel
theorem dX0_waitBehind_49 : decode cX0_waitBehind 49 = .ok (.aload_n 0, 1) := by decide +kernel
theorem dX0_waitBehind_50 : decode cX0_waitBehind 50 = .ok (.getfield 15, 3) := by decide +kernel
theorem dX0_waitBehind_53 : decode cX0_waitBehind 53 = .ok (.getfield 68, 3) := by decide +kernel
theorem dX0_waitBehind_56 : decode cX0_waitBehind 56 = .ok (.iadd, 1) := by decide +kernel
theorem dX0_waitBehind_57 : decode cX0_waitBehind 57 = .ok (.iconst 1, 1) := by decide +kernel
theorem dX0_waitBehind_58 : decode cX0_waitBehind 58 = .ok (.isub, 1) := by decide +kernel
theorem dX0_waitBehind_59 : decode cX0_waitBehind 59 = .ok (.istore_n 3, 1) := by decide +kernel
theorem dX0_waitBehind_60 : decode cX0_waitBehind 60 = .ok (.goto 21, 3) := by decide +kernel
theorem dX0_waitBehind_63 : decode cX0_waitBehind 63 = .ok (.iload 5, 2) := by decide +kernel
theorem dX0_waitBehind_65 : decode cX0_waitBehind 65 = .ok (.ifCond .lt 16, 3) := by decide +kernel
theorem dX0_waitBehind_68 : decode cX0_waitBehind 68 = .ok (.iload 4, 2) := by decide +kernel
theorem dX0_waitBehind_70 : decode cX0_waitBehind 70 = .ok (.iload_n 3, 1) := by decide +kernel
theorem dX0_waitBehind_71 : decode cX0_waitBehind 71 = .ok (.if_icmp .gt 10, 3) := by decide +kernel
theorem dX0_waitBehind_74 : decode cX0_waitBehind 74 = .ok (.iload_n 2, 1) := by decide +kernel
theorem dX0_waitBehind_75 : decode cX0_waitBehind 75 = .ok (.iconst 1, 1) := by decide +kernel
theorem dX0_waitBehind_76 : decode cX0_waitBehind 76 = .ok (.iload 5, 2) := by decide +kernel
theorem dX0_waitBehind_78 : decode cX0_waitBehind 78 = .ok (.ishl, 1) := by decide +kernel
theorem dX0_waitBehind_79 : decode cX0_waitBehind 79 = .ok (.ior, 1) := by decide +kernel
theorem dX0_waitBehind_80 : decode cX0_waitBehind 80 = .ok (.istore_n 2, 1) := by decide +kernel
theorem dX0_waitBehind_81 : decode cX0_waitBehind 81 = .ok (.iload_n 2, 1) := by decide +kernel
theorem dX0_waitBehind_82 : decode cX0_waitBehind 82 = .ok (.invokestatic 71, 3) := by decide +kernel
theorem dX0_waitBehind_85 : decode cX0_waitBehind 85 = .ok (.aload_n 0, 1) := by decide +kernel
theorem dX0_waitBehind_86 : decode cX0_waitBehind 86 = .ok (.getfield 37, 3) := by decide +kernel
theorem dX0_waitBehind_89 : decode cX0_waitBehind 89 = .ok (.if_icmp .lt 10, 3) := by decide +kernel
theorem dX0_waitBehind_92 : decode cX0_waitBehind 92 = .ok (.iload 4, 2) := by decide +kernel
theorem dX0_waitBehind_94 : decode cX0_waitBehind 94 = .ok (.iload_n 1, 1) := by decide +kernel
theorem dX0_waitBehind_95 : decode cX0_waitBehind 95 = .ok (.isub, 1) := by decide +kernel
theorem dX0_waitBehind_96 : decode cX0_waitBehind 96 = .ok (.iconst 1, 1) := by decide +kernel
theorem dX0_waitBehind_97 : decode cX0_waitBehind 97 = .ok (.iadd, 1) := by decide +kernel
theorem dX0_waitBehind_98 : decode cX0_waitBehind 98 = .ok (.ireturn, 1) := by decide +kernel
theorem dX0_waitBehind_99 : decode cX0_waitBehind 99 = .ok (.iinc 4 1, 3) := by decide +kernel
theorem dX0_waitBehind_102 : decode cX0_waitBehind 102 = .ok (.goto (-90), 3) := by decide +kernel
theorem dX0_waitBehind_105 : decode cX0_waitBehind 105 = .ok (.bipush (-4), 2) := by decide +kernel
theorem dX0_waitBehind_107 : decode cX0_waitBehind 107 = .ok (.ireturn, 1) := by decide +kernel
theorem dX1_init_0 : decode cX1_init 0 = .ok (.aload_n 0, 1) := by decide +kernel
theorem dX1_init_1 : decode cX1_init 1 = .ok (.invokespecial 3, 3) := by decide +kernel
theorem dX1_init_4 : decode cX1_init 4 = .ok (.aload_n 0, 1) := by decide +kernel
theorem dX1_init_5 : decode cX1_init 5 = .ok (.bipush 6, 2) := by decide +kernel
theorem dX1_init_7 : decode cX1_init 7 = .ok (.newarray .int, 2) := by decide +kernel
theorem dX1_init_9 : decode cX1_init 9 = .ok (.putfield 9, 3) := by decide +kernel
theorem dX1_init_12 : decode cX1_init 12 = .ok (.aload_n 0, 1) := by decide +kernel
theorem dX1_init_13 : decode cX1_init 13 = .ok (.bipush 6, 2) := by decide +kernel
theorem dX1_init_15 : decode cX1_init 15 = .ok (.newarray .int, 2) := by decide +kernel
theorem dX1_init_17 : decode cX1_init 17 = .ok (.putfield 15, 3) := by decide +kernel
theorem dX1_init_20 : decode cX1_init 20 = .ok (.aload_n 0, 1) := by decide +kernel
theorem dX1_init_21 : decode cX1_init 21 = .ok (.aload_n 1, 1) := by decide +kernel
theorem dX1_init_22 : decode cX1_init 22 = .ok (.putfield 18, 3) := by decide +kernel
theorem dX1_init_25 : decode cX1_init 25 = .ok (.aload_n 0, 1) := by decide +kernel
theorem dX1_init_26 : decode cX1_init 26 = .ok (.iload_n 2, 1) := by decide +kernel
theorem dX1_init_27 : decode cX1_init 27 = .ok (.putfield 22, 3) := by decide +kernel
theorem dX1_init_30 : decode cX1_init 30 = .ok (.return_, 1) := by decide +kernel
theorem dX1_enter_0 : decode cX1_enter 0 = .ok (.aload_n 0, 1) := by decide +kernel
theorem dX1_enter_1 : decode cX1_enter 1 = .ok (.iload_n 1, 1) := by decide +kernel
theorem dX1_enter_2 : decode cX1_enter 2 = .ok (.putfield 26, 3) := by decide +kernel
theorem dX1_enter_5 : decode cX1_enter 5 = .ok (.aload_n 0, 1) := by decide +kernel
theorem dX1_enter_6 : decode cX1_enter 6 = .ok (.iload_n 2, 1) := by decide +kernel
theorem dX1_enter_7 : decode cX1_enter 7 = .ok (.putfield 29, 3) := by decide +kernel
theorem dX1_enter_10 : decode cX1_enter 10 = .ok (.aload_n 0, 1) := by decide +kernel
theorem dX1_enter_11 : decode cX1_enter 11 = .ok (.bipush (-4), 2) := by decide +kernel
theorem dX1_enter_13 : decode cX1_enter 13 = .ok (.putfield 32, 3) := by decide +kernel
theorem dX1_enter_16 : decode cX1_enter 16 = .ok (.aload_n 0, 1) := by decide +kernel
theorem dX1_enter_17 : decode cX1_enter 17 = .ok (.iconst 0, 1) := by decide +kernel
theorem dX1_enter_18 : decode cX1_enter 18 = .ok (.putfield 35, 3) := by decide +kernel
theorem dX1_enter_21 : decode cX1_enter 21 = .ok (.iconst 0, 1) := by decide +kernel
theorem dX1_enter_22 : decode cX1_enter 22 = .ok (.istore_n 3, 1) := by decide +kernel
theorem dX1_enter_23 : decode cX1_enter 23 = .ok (.iload_n 3, 1) := by decide +kernel
theorem dX1_enter_24 : decode cX1_enter 24 = .ok (.bipush 6, 2) := by decide +kernel
theorem dX1_enter_26 : decode cX1_enter 26 = .ok (.if_icmp .ge 24, 3) := by decide +kernel
theorem dX1_enter_29 : decode cX1_enter 29 = .ok (.aload_n 0, 1) := by decide +kernel
theorem dX1_enter_30 : decode cX1_enter 30 = .ok (.getfield 9, 3) := by decide +kernel
theorem dX1_enter_33 : decode cX1_enter 33 = .ok (.iload_n 3, 1) := by decide +kernel
theorem dX1_enter_34 : decode cX1_enter 34 = .ok (.iconst 0, 1) := by decide +kernel
theorem dX1_enter_35 : decode cX1_enter 35 = .ok (.iastore, 1) := by decide +kernel
theorem dX1_enter_36 : decode cX1_enter 36 = .ok (.aload_n 0, 1) := by decide +kernel
theorem dX1_enter_37 : decode cX1_enter 37 = .ok (.getfield 15, 3) := by decide +kernel
theorem dX1_enter_40 : decode cX1_enter 40 = .ok (.iload_n 3, 1) := by decide +kernel
theorem dX1_enter_41 : decode cX1_enter 41 = .ok (.bipush (-4), 2) := by decide +kernel
theorem dX1_enter_43 : decode cX1_enter 43 = .ok (.iastore, 1) := by decide +kernel
theorem dX1_enter_44 : decode cX1_enter 44 = .ok (.iinc 3 1, 3) := by decide +kernel
theorem dX1_enter_47 : decode cX1_enter 47 = .ok (.goto (-24), 3) := by decide +kernel
theorem dX1_enter_50 : decode cX1_enter 50 = .ok (.return_, 1) := by decide +kernel
theorem dX1_become_0 : decode cX1_become 0 = .ok (.aload_n 1, 1) := by decide +kernel
theorem dX1_become_1 : decode cX1_become 1 = .ok (.getfield 9, 3) := by decide +kernel
theorem dX1_become_4 : decode cX1_become 4 = .ok (.iconst 0, 1) := by decide +kernel
theorem dX1_become_5 : decode cX1_become 5 = .ok (.aload_n 0, 1) := by decide +kernel
theorem dX1_become_6 : decode cX1_become 6 = .ok (.getfield 9, 3) := by decide +kernel
theorem dX1_become_9 : decode cX1_become 9 = .ok (.iconst 0, 1) := by decide +kernel
theorem dX1_become_10 : decode cX1_become 10 = .ok (.bipush 6, 2) := by decide +kernel
theorem dX1_become_12 : decode cX1_become 12 = .ok (.invokestatic 38, 3) := by decide +kernel
theorem dX1_become_15 : decode cX1_become 15 = .ok (.aload_n 1, 1) := by decide +kernel
theorem dX1_become_16 : decode cX1_become 16 = .ok (.getfield 15, 3) := by decide +kernel
theorem dX1_become_19 : decode cX1_become 19 = .ok (.iconst 0, 1) := by decide +kernel
theorem dX1_become_20 : decode cX1_become 20 = .ok (.aload_n 0, 1) := by decide +kernel
theorem dX1_become_21 : decode cX1_become 21 = .ok (.getfield 15, 3) := by decide +kernel
theorem dX1_become_24 : decode cX1_become 24 = .ok (.iconst 0, 1) := by decide +kernel
theorem dX1_become_25 : decode cX1_become 25 = .ok (.bipush 6, 2) := by decide +kernel
theorem dX1_become_27 : decode cX1_become 27 = .ok (.invokestatic 38, 3) := by decide +kernel
theorem dX1_become_30 : decode cX1_become 30 = .ok (.aload_n 0, 1) := by decide +kernel
theorem dX1_become_31 : decode cX1_become 31 = .ok (.aload_n 1, 1) := by decide +kernel
theorem dX1_become_32 : decode cX1_become 32 = .ok (.getfield 26, 3) := by decide +kernel
theorem dX1_become_35 : decode cX1_become 35 = .ok (.putfield 26, 3) := by decide +kernel
theorem dX1_become_38 : decode cX1_become 38 = .ok (.aload_n 0, 1) := by decide +kernel
theorem dX1_become_39 : decode cX1_become 39 = .ok (.aload_n 1, 1) := by decide +kernel
theorem dX1_become_40 : decode cX1_become 40 = .ok (.getfield 29, 3) := by decide +kernel
theorem dX1_become_43 : decode cX1_become 43 = .ok (.putfield 29, 3) := by decide +kernel
theorem dX1_become_46 : decode cX1_become 46 = .ok (.aload_n 0, 1) := by decide +kernel
theorem dX1_become_47 : decode cX1_become 47 = .ok (.aload_n 1, 1) := by decide +kernel
theorem dX1_become_48 : decode cX1_become 48 = .ok (.getfield 32, 3) := by decide +kernel
theorem dX1_become_51 : decode cX1_become 51 = .ok (.putfield 32, 3) := by decide +kernel
theorem dX1_become_54 : decode cX1_become 54 = .ok (.aload_n 0, 1) := by decide +kernel
theorem dX1_become_55 : decode cX1_become 55 = .ok (.aload_n 1, 1) := by decide +kernel
theorem dX1_become_56 : decode cX1_become 56 = .ok (.getfield 35, 3) := by decide +kernel
theorem dX1_become_59 : decode cX1_become 59 = .ok (.putfield 35, 3) := by decide +kernel
theorem dX1_become_62 : decode cX1_become 62 = .ok (.return_, 1) := by decide +kernel
theorem dX1_hear_0 : decode cX1_hear 0 = .ok (.aload_n 0, 1) := by decide +kernel
theorem dX1_hear_1 : decode cX1_hear 1 = .ok (.iload_n 2, 1) := by decide +kernel
theorem dX1_hear_2 : decode cX1_hear 2 = .ok (.invokevirtual 44, 3) := by decide +kernel
theorem dX1_hear_5 : decode cX1_hear 5 = .ok (.ifCond .eq 14, 3) := by decide +kernel
theorem dX1_hear_8 : decode cX1_hear 8 = .ok (.aload_n 0, 1) := by decide +kernel
theorem dX1_hear_9 : decode cX1_hear 9 = .ok (.dup, 1) := by decide +kernel
theorem dX1_hear_10 : decode cX1_hear 10 = .ok (.getfield 35, 3) := by decide +kernel
theorem dX1_hear_13 : decode cX1_hear 13 = .ok (.iconst 1, 1) := by decide +kernel
theorem dX1_hear_14 : decode cX1_hear 14 = .ok (.iadd, 1) := by decide +kernel
theorem dX1_hear_15 : decode cX1_hear 15 = .ok (.putfield 35, 3) := by decide +kernel
theorem dX1_hear_18 : decode cX1_hear 18 = .ok (.return_, 1) := by decide +kernel
theorem dX1_hear_19 : decode cX1_hear 19 = .ok (.aload_n 1, 1) := by decide +kernel
theorem dX1_hear_20 : decode cX1_hear 20 = .ok (.iload_n 2, 1) := by decide +kernel
theorem dX1_hear_21 : decode cX1_hear 21 = .ok (.invokevirtual 48, 3) := by decide +kernel
theorem dX1_hear_24 : decode cX1_hear 24 = .ok (.istore_n 3, 1) := by decide +kernel
theorem dX1_hear_25 : decode cX1_hear 25 = .ok (.iload_n 3, 1) := by decide +kernel
theorem dX1_hear_26 : decode cX1_hear 26 = .ok (.bipush (-4), 2) := by decide +kernel
theorem dX1_hear_28 : decode cX1_hear 28 = .ok (.if_icmp .ne 15, 3) := by decide +kernel
theorem dX1_hear_31 : decode cX1_hear 31 = .ok (.aload_n 0, 1) := by decide +kernel
theorem dX1_hear_32 : decode cX1_hear 32 = .ok (.aload_n 1, 1) := by decide +kernel
theorem dX1_hear_33 : decode cX1_hear 33 = .ok (.getfield 54, 3) := by decide +kernel
theorem dX1_hear_36 : decode cX1_hear 36 = .ok (.iload_n 2, 1) := by decide +kernel
theorem dX1_hear_37 : decode cX1_hear 37 = .ok (.invokevirtual 57, 3) := by decide +kernel
theorem dX1_hear_40 : decode cX1_hear 40 = .ok (.goto 30, 3) := by decide +kernel
theorem dX1_hear_43 : decode cX1_hear 43 = .ok (.aload_n 0, 1) := by decide +kernel
theorem dX1_hear_44 : decode cX1_hear 44 = .ok (.getfield 18, 3) := by decide +kernel
theorem dX1_hear_47 : decode cX1_hear 47 = .ok (.iload_n 3, 1) := by decide +kernel
theorem dX1_hear_48 : decode cX1_hear 48 = .ok (.invokevirtual 61, 3) := by decide +kernel
theorem dX1_hear_51 : decode cX1_hear 51 = .ok (.ifCond .eq 19, 3) := by decide +kernel
theorem dX1_hear_54 : decode cX1_hear 54 = .ok (.aload_n 0, 1) := by decide +kernel
theorem dX1_hear_55 : decode cX1_hear 55 = .ok (.iload_n 3, 1) := by decide +kernel
theorem dX1_hear_56 : decode cX1_hear 56 = .ok (.aload_n 1, 1) := by decide +kernel
theorem dX1_hear_57 : decode cX1_hear 57 = .ok (.iload_n 2, 1) := by decide +kernel
theorem dX1_hear_58 : decode cX1_hear 58 = .ok (.invokevirtual 66, 3) := by decide +kernel
theorem dX1_hear_61 : decode cX1_hear 61 = .ok (.aload_n 1, 1) := by decide +kernel
theorem dX1_hear_62 : decode cX1_hear 62 = .ok (.iload_n 2, 1) := by decide +kernel
theorem dX1_hear_63 : decode cX1_hear 63 = .ok (.invokevirtual 69, 3) := by decide +kernel
theorem dX1_hear_66 : decode cX1_hear 66 = .ok (.iload_n 2, 1) := by decide +kernel
theorem dX1_hear_67 : decode cX1_hear 67 = .ok (.invokevirtual 72, 3) := by decide +kernel
theorem dX1_hear_70 : decode cX1_hear 70 = .ok (.return_, 1) := by decide +kernel
theorem dX1_loses_0 : decode cX1_loses 0 = .ok (.ldc2_w 76, 3) := by decide +kernel
theorem dX1_loses_3 : decode cX1_loses 3 = .ok (.aload_n 0, 1) := by decide +kernel
theorem dX1_loses_4 : decode cX1_loses 4 = .ok (.getfield 22, 3) := by decide +kernel
theorem dX1_loses_7 : decode cX1_loses 7 = .ok (.i2l, 1) := by decide +kernel
theorem dX1_loses_8 : decode cX1_loses 8 = .ok (.lmul, 1) := by decide +kernel
theorem dX1_loses_9 : decode cX1_loses 9 = .ok (.ldc2_w 78, 3) := by decide +kernel
theorem dX1_loses_12 : decode cX1_loses 12 = .ok (.iload_n 1, 1) := by decide +kernel
theorem dX1_loses_13 : decode cX1_loses 13 = .ok (.i2l, 1) := by decide +kernel
theorem dX1_loses_14 : decode cX1_loses 14 = .ok (.lmul, 1) := by decide +kernel
theorem dX1_loses_15 : decode cX1_loses 15 = .ok (.ladd, 1) := by decide +kernel
theorem dX1_loses_16 : decode cX1_loses 16 = .ok (.lconst 1, 1) := by decide +kernel
theorem dX1_loses_17 : decode cX1_loses 17 = .ok (.ladd, 1) := by decide +kernel
theorem dX1_loses_18 : decode cX1_loses 18 = .ok (.lstore_n 2, 1) := by decide +kernel
theorem dX1_loses_19 : decode cX1_loses 19 = .ok (.lload_n 2, 1) := by decide +kernel
theorem dX1_loses_20 : decode cX1_loses 20 = .ok (.lload_n 2, 1) := by decide +kernel
theorem dX1_loses_21 : decode cX1_loses 21 = .ok (.lmul, 1) := by decide +kernel
theorem dX1_loses_22 : decode cX1_loses 22 = .ok (.ldc2_w 80, 3) := by decide +kernel
theorem dX1_loses_25 : decode cX1_loses 25 = .ok (.lrem, 1) := by decide +kernel
theorem dX1_loses_26 : decode cX1_loses 26 = .ok (.ldc2_w 82, 3) := by decide +kernel
theorem dX1_loses_29 : decode cX1_loses 29 = .ok (.lrem, 1) := by decide +kernel
theorem dX1_loses_30 : decode cX1_loses 30 = .ok (.aload_n 0, 1) := by decide +kernel
theorem dX1_loses_31 : decode cX1_loses 31 = .ok (.getfield 26, 3) := by decide +kernel
theorem dX1_loses_34 : decode cX1_loses 34 = .ok (.i2l, 1) := by decide +kernel
theorem dX1_loses_35 : decode cX1_loses 35 = .ok (.lcmp, 1) := by decide +kernel
theorem dX1_loses_36 : decode cX1_loses 36 = .ok (.ifCond .ge 7, 3) := by decide +kernel
theorem dX1_loses_39 : decode cX1_loses 39 = .ok (.iconst 1, 1) := by decide +kernel
theorem dX1_loses_40 : decode cX1_loses 40 = .ok (.goto 4, 3) := by decide +kernel
theorem dX1_loses_43 : decode cX1_loses 43 = .ok (.iconst 0, 1) := by decide +kernel
theorem dX1_loses_44 : decode cX1_loses 44 = .ok (.ireturn, 1) := by decide +kernel
theorem dX1_takeTable_0 : decode cX1_takeTable 0 = .ok (.iconst 0, 1) := by decide +kernel
theorem dX1_takeTable_1 : decode cX1_takeTable 1 = .ok (.istore_n 3, 1) := by decide +kernel
theorem dX1_takeTable_2 : decode cX1_takeTable 2 = .ok (.iload_n 3, 1) := by decide +kernel
theorem dX1_takeTable_3 : decode cX1_takeTable 3 = .ok (.aload_n 0, 1) := by decide +kernel
theorem dX1_takeTable_4 : decode cX1_takeTable 4 = .ok (.getfield 18, 3) := by decide +kernel
theorem dX1_takeTable_7 : decode cX1_takeTable 7 = .ok (.getfield 84, 3) := by decide +kernel
theorem dX1_takeTable_10 : decode cX1_takeTable 10 = .ok (.if_icmp .ge 37, 3) := by decide +kernel
theorem dX1_takeTable_13 : decode cX1_takeTable 13 = .ok (.aload_n 0, 1) := by decide +kernel
theorem dX1_takeTable_14 : decode cX1_takeTable 14 = .ok (.getfield 15, 3) := by decide +kernel
theorem dX1_takeTable_17 : decode cX1_takeTable 17 = .ok (.iload_n 3, 1) := by decide +kernel
theorem dX1_takeTable_18 : decode cX1_takeTable 18 = .ok (.iaload, 1) := by decide +kernel
theorem dX1_takeTable_19 : decode cX1_takeTable 19 = .ok (.aload_n 1, 1) := by decide +kernel
theorem dX1_takeTable_20 : decode cX1_takeTable 20 = .ok (.iload_n 3, 1) := by decide +kernel
theorem dX1_takeTable_21 : decode cX1_takeTable 21 = .ok (.iaload, 1) := by decide +kernel
theorem dX1_takeTable_22 : decode cX1_takeTable 22 = .ok (.if_icmp .eq 19, 3) := by decide +kernel
theorem dX1_takeTable_25 : decode cX1_takeTable 25 = .ok (.aload_n 0, 1) := by decide +kernel
theorem dX1_takeTable_26 : decode cX1_takeTable 26 = .ok (.getfield 9, 3) := by decide +kernel
theorem dX1_takeTable_29 : decode cX1_takeTable 29 = .ok (.iload_n 3, 1) := by decide +kernel
theorem dX1_takeTable_30 : decode cX1_takeTable 30 = .ok (.iconst 0, 1) := by decide +kernel
theorem dX1_takeTable_31 : decode cX1_takeTable 31 = .ok (.iastore, 1) := by decide +kernel
theorem dX1_takeTable_32 : decode cX1_takeTable 32 = .ok (.aload_n 0, 1) := by decide +kernel
theorem dX1_takeTable_33 : decode cX1_takeTable 33 = .ok (.getfield 15, 3) := by decide +kernel
theorem dX1_takeTable_36 : decode cX1_takeTable 36 = .ok (.iload_n 3, 1) := by decide +kernel
theorem dX1_takeTable_37 : decode cX1_takeTable 37 = .ok (.aload_n 1, 1) := by decide +kernel
theorem dX1_takeTable_38 : decode cX1_takeTable 38 = .ok (.iload_n 3, 1) := by decide +kernel
theorem dX1_takeTable_39 : decode cX1_takeTable 39 = .ok (.iaload, 1) := by decide +kernel
theorem dX1_takeTable_40 : decode cX1_takeTable 40 = .ok (.iastore, 1) := by decide +kernel
theorem dX1_takeTable_41 : decode cX1_takeTable 41 = .ok (.iinc 3 1, 3) := by decide +kernel
theorem dX1_takeTable_44 : decode cX1_takeTable 44 = .ok (.goto (-42), 3) := by decide +kernel
theorem dX1_takeTable_47 : decode cX1_takeTable 47 = .ok (.aload_n 0, 1) := by decide +kernel
theorem dX1_takeTable_48 : decode cX1_takeTable 48 = .ok (.iload_n 2, 1) := by decide +kernel
theorem dX1_takeTable_49 : decode cX1_takeTable 49 = .ok (.aload_n 0, 1) := by decide +kernel
theorem dX1_takeTable_50 : decode cX1_takeTable 50 = .ok (.getfield 18, 3) := by decide +kernel
theorem dX1_takeTable_53 : decode cX1_takeTable 53 = .ok (.getfield 87, 3) := by decide +kernel
theorem dX1_takeTable_56 : decode cX1_takeTable 56 = .ok (.iadd, 1) := by decide +kernel
theorem dX1_takeTable_57 : decode cX1_takeTable 57 = .ok (.iconst 1, 1) := by decide +kernel
theorem dX1_takeTable_58 : decode cX1_takeTable 58 = .ok (.isub, 1) := by decide +kernel
theorem dX1_takeTable_59 : decode cX1_takeTable 59 = .ok (.putfield 32, 3) := by decide +kernel
theorem dX1_takeTable_62 : decode cX1_takeTable 62 = .ok (.return_, 1) := by decide +kernel
theorem dX1_takeSymbol_0 : decode cX1_takeSymbol 0 = .ok (.aload_n 0, 1) := by decide +kernel
theorem dX1_takeSymbol_1 : decode cX1_takeSymbol 1 = .ok (.iload 4, 2) := by decide +kernel
theorem dX1_takeSymbol_3 : decode cX1_takeSymbol 3 = .ok (.invokevirtual 90, 3) := by decide +kernel
theorem dX1_takeSymbol_6 : decode cX1_takeSymbol 6 = .ok (.ifCond .eq 25, 3) := by decide +kernel
theorem dX1_takeSymbol_9 : decode cX1_takeSymbol 9 = .ok (.aload_n 0, 1) := by decide +kernel
theorem dX1_takeSymbol_10 : decode cX1_takeSymbol 10 = .ok (.getfield 15, 3) := by decide +kernel
theorem dX1_takeSymbol_13 : decode cX1_takeSymbol 13 = .ok (.iload_n 1, 1) := by decide +kernel
theorem dX1_takeSymbol_14 : decode cX1_takeSymbol 14 = .ok (.iaload, 1) := by decide +kernel
theorem dX1_takeSymbol_15 : decode cX1_takeSymbol 15 = .ok (.iload_n 3, 1) := by decide +kernel
theorem dX1_takeSymbol_16 : decode cX1_takeSymbol 16 = .ok (.if_icmp .ne 15, 3) := by decide +kernel
theorem dX1_takeSymbol_19 : decode cX1_takeSymbol 19 = .ok (.aload_n 0, 1) := by decide +kernel
theorem dX1_takeSymbol_20 : decode cX1_takeSymbol 20 = .ok (.getfield 9, 3) := by decide +kernel
theorem dX1_takeSymbol_23 : decode cX1_takeSymbol 23 = .ok (.iload_n 1, 1) := by decide +kernel
theorem dX1_takeSymbol_24 : decode cX1_takeSymbol 24 = .ok (.dup2, 1) := by decide +kernel
theorem dX1_takeSymbol_25 : decode cX1_takeSymbol 25 = .ok (.iaload, 1) := by decide +kernel
theorem dX1_takeSymbol_26 : decode cX1_takeSymbol 26 = .ok (.iconst 1, 1) := by decide +kernel
theorem dX1_takeSymbol_27 : decode cX1_takeSymbol 27 = .ok (.iload_n 2, 1) := by decide +kernel
theorem dX1_takeSymbol_28 : decode cX1_takeSymbol 28 = .ok (.ishl, 1) := by decide +kernel
theorem dX1_takeSymbol_29 : decode cX1_takeSymbol 29 = .ok (.ior, 1) := by decide +kernel
theorem dX1_takeSymbol_30 : decode cX1_takeSymbol 30 = .ok (.iastore, 1) := by decide +kernel
theorem dX1_takeSymbol_31 : decode cX1_takeSymbol 31 = .ok (.return_, 1) := by decide +kernel
theorem dX1_knowsIn_0 : decode cX1_knowsIn 0 = .ok (.iload_n 1, 1) := by decide +kernel
theorem dX1_knowsIn_1 : decode cX1_knowsIn 1 = .ok (.aload_n 0, 1) := by decide +kernel
theorem dX1_knowsIn_2 : decode cX1_knowsIn 2 = .ok (.getfield 32, 3) := by decide +kernel
theorem dX1_knowsIn_5 : decode cX1_knowsIn 5 = .ok (.if_icmp .gt 7, 3) := by decide +kernel
theorem dX1_knowsIn_8 : decode cX1_knowsIn 8 = .ok (.iconst 1, 1) := by decide +kernel
theorem dX1_knowsIn_9 : decode cX1_knowsIn 9 = .ok (.goto 4, 3) := by decide +kernel
theorem dX1_knowsIn_12 : decode cX1_knowsIn 12 = .ok (.iconst 0, 1) := by decide +kernel
theorem dX1_knowsIn_13 : decode cX1_knowsIn 13 = .ok (.ireturn, 1) := by decide +kernel
theorem dX1_lacks_0 : decode cX1_lacks 0 = .ok (.iconst 0, 1) := by decide +kernel
theorem dX1_lacks_1 : decode cX1_lacks 1 = .ok (.aload_n 0, 1) := by decide +kernel
theorem dX1_lacks_2 : decode cX1_lacks 2 = .ok (.getfield 18, 3) := by decide +kernel
theorem dX1_lacks_5 : decode cX1_lacks 5 = .ok (.getfield 93, 3) := by decide +kernel
theorem dX1_lacks_8 : decode cX1_lacks 8 = .ok (.iload_n 1, 1) := by decide +kernel
theorem dX1_lacks_9 : decode cX1_lacks 9 = .ok (.iaload, 1) := by decide +kernel
theorem dX1_lacks_10 : decode cX1_lacks 10 = .ok (.aload_n 0, 1) := by decide +kernel
theorem dX1_lacks_11 : decode cX1_lacks 11 = .ok (.getfield 9, 3) := by decide +kernel
theorem dX1_lacks_14 : decode cX1_lacks 14 = .ok (.iload_n 1, 1) := by decide +kernel
theorem dX1_lacks_15 : decode cX1_lacks 15 = .ok (.iaload, 1) := by decide +kernel
theorem dX1_lacks_16 : decode cX1_lacks 16 = .ok (.invokestatic 96, 3) := by decide +kernel
theorem dX1_lacks_19 : decode cX1_lacks 19 = .ok (.isub, 1) := by decide +kernel
theorem dX1_lacks_20 : decode cX1_lacks 20 = .ok (.invokestatic 101, 3) := by decide +kernel
theorem dX1_lacks_23 : decode cX1_lacks 23 = .ok (.ireturn, 1) := by decide +kernel
theorem dX1_wholeBits_0 : decode cX1_wholeBits 0 = .ok (.iconst 0, 1) := by decide +kernel
theorem dX1_wholeBits_1 : decode cX1_wholeBits 1 = .ok (.istore_n 1, 1) := by decide +kernel
theorem dX1_wholeBits_2 : decode cX1_wholeBits 2 = .ok (.iconst 0, 1) := by decide +kernel
theorem dX1_wholeBits_3 : decode cX1_wholeBits 3 = .ok (.istore_n 2, 1) := by decide +kernel
theorem dX1_wholeBits_4 : decode cX1_wholeBits 4 = .ok (.iload_n 2, 1) := by decide +kernel
theorem dX1_wholeBits_5 : decode cX1_wholeBits 5 = .ok (.aload_n 0, 1) := by decide +kernel
theorem dX1_wholeBits_6 : decode cX1_wholeBits 6 = .ok (.getfield 18, 3) := by decide +kernel
theorem dX1_wholeBits_9 : decode cX1_wholeBits 9 = .ok (.getfield 84, 3) := by decide +kernel
theorem dX1_wholeBits_12 : decode cX1_wholeBits 12 = .ok (.if_icmp .ge 23, 3) := by decide +kernel
theorem dX1_wholeBits_15 : decode cX1_wholeBits 15 = .ok (.aload_n 0, 1) := by decide +kernel
theorem dX1_wholeBits_16 : decode cX1_wholeBits 16 = .ok (.iload_n 2, 1) := by decide +kernel
theorem dX1_wholeBits_17 : decode cX1_wholeBits 17 = .ok (.invokevirtual 107, 3) := by decide +kernel
theorem dX1_wholeBits_20 : decode cX1_wholeBits 20 = .ok (.ifCond .ne 9, 3) := by decide +kernel
theorem dX1_wholeBits_23 : decode cX1_wholeBits 23 = .ok (.iload_n 1, 1) := by decide +kernel
theorem dX1_wholeBits_24 : decode cX1_wholeBits 24 = .ok (.iconst 1, 1) := by decide +kernel
theorem dX1_wholeBits_25 : decode cX1_wholeBits 25 = .ok (.iload_n 2, 1) := by decide +kernel
theorem dX1_wholeBits_26 : decode cX1_wholeBits 26 = .ok (.ishl, 1) := by decide +kernel
theorem dX1_wholeBits_27 : decode cX1_wholeBits 27 = .ok (.ior, 1) := by decide +kernel
theorem dX1_wholeBits_28 : decode cX1_wholeBits 28 = .ok (.istore_n 1, 1) := by decide +kernel
theorem dX1_wholeBits_29 : decode cX1_wholeBits 29 = .ok (.iinc 2 1, 3) := by decide +kernel
theorem dX1_wholeBits_32 : decode cX1_wholeBits 32 = .ok (.goto (-28), 3) := by decide +kernel
theorem dX1_wholeBits_35 : decode cX1_wholeBits 35 = .ok (.iload_n 1, 1) := by decide +kernel
theorem dX1_wholeBits_36 : decode cX1_wholeBits 36 = .ok (.ireturn, 1) := by decide +kernel
theorem dX1_fillUp_0 : decode cX1_fillUp 0 = .ok (.aload_n 0, 1) := by decide +kernel
theorem dX1_fillUp_1 : decode cX1_fillUp 1 = .ok (.iload_n 1, 1) := by decide +kernel
theorem dX1_fillUp_2 : decode cX1_fillUp 2 = .ok (.invokevirtual 107, 3) := by decide +kernel
theorem dX1_fillUp_5 : decode cX1_fillUp 5 = .ok (.istore_n 2, 1) := by decide +kernel
theorem dX1_fillUp_6 : decode cX1_fillUp 6 = .ok (.iload_n 2, 1) := by decide +kernel
theorem dX1_fillUp_7 : decode cX1_fillUp 7 = .ok (.istore_n 3, 1) := by decide +kernel
theorem dX1_fillUp_8 : decode cX1_fillUp 8 = .ok (.iconst 0, 1) := by decide +kernel
theorem dX1_fillUp_9 : decode cX1_fillUp 9 = .ok (.istore 4, 2) := by decide +kernel
theorem dX1_fillUp_11 : decode cX1_fillUp 11 = .ok (.iload 4, 2) := by decide +kernel
theorem dX1_fillUp_13 : decode cX1_fillUp 13 = .ok (.aload_n 0, 1) := by decide +kernel
theorem dX1_fillUp_14 : decode cX1_fillUp 14 = .ok (.getfield 18, 3) := by decide +kernel
theorem dX1_fillUp_17 : decode cX1_fillUp 17 = .ok (.iload_n 1, 1) := by decide +kernel
theorem dX1_fillUp_18 : decode cX1_fillUp 18 = .ok (.invokevirtual 110, 3) := by decide +kernel
theorem dX1_fillUp_21 : decode cX1_fillUp 21 = .ok (.if_icmp .ge 45, 3) := by decide +kernel
theorem dX1_fillUp_24 : decode cX1_fillUp 24 = .ok (.iload_n 3, 1) := by decide +kernel
theorem dX1_fillUp_25 : decode cX1_fillUp 25 = .ok (.ifCond .le 41, 3) := by decide +kernel
theorem dX1_fillUp_28 : decode cX1_fillUp 28 = .ok (.iconst 1, 1) := by decide +kernel
theorem dX1_fillUp_29 : decode cX1_fillUp 29 = .ok (.iload 4, 2) := by decide +kernel
theorem dX1_fillUp_31 : decode cX1_fillUp 31 = .ok (.ishl, 1) := by decide +kernel
theorem dX1_fillUp_32 : decode cX1_fillUp 32 = .ok (.istore 5, 2) := by decide +kernel
theorem dX1_fillUp_34 : decode cX1_fillUp 34 = .ok (.aload_n 0, 1) := by decide +kernel
theorem dX1_fillUp_35 : decode cX1_fillUp 35 = .ok (.getfield 9, 3) := by decide +kernel
theorem dX1_fillUp_38 : decode cX1_fillUp 38 = .ok (.iload_n 1, 1) := by decide +kernel
theorem dX1_fillUp_39 : decode cX1_fillUp 39 = .ok (.iaload, 1) := by decide +kernel
theorem dX1_fillUp_40 : decode cX1_fillUp 40 = .ok (.iload 5, 2) := by decide +kernel
theorem dX1_fillUp_42 : decode cX1_fillUp 42 = .ok (.iand, 1) := by decide +kernel
theorem dX1_fillUp_43 : decode cX1_fillUp 43 = .ok (.ifCond .ne 17, 3) := by decide +kernel
theorem dX1_fillUp_46 : decode cX1_fillUp 46 = .ok (.aload_n 0, 1) := by decide +kernel
theorem dX1_fillUp_47 : decode cX1_fillUp 47 = .ok (.getfield 9, 3) := by decide +kernel
theorem dX1_fillUp_50 : decode cX1_fillUp 50 = .ok (.iload_n 1, 1) := by decide +kernel
theorem dX1_fillUp_51 : decode cX1_fillUp 51 = .ok (.dup2, 1) := by decide +kernel
theorem dX1_fillUp_52 : decode cX1_fillUp 52 = .ok (.iaload, 1) := by decide +kernel
theorem dX1_fillUp_53 : decode cX1_fillUp 53 = .ok (.iload 5, 2) := by decide +kernel
theorem dX1_fillUp_55 : decode cX1_fillUp 55 = .ok (.ior, 1) := by decide +kernel
theorem dX1_fillUp_56 : decode cX1_fillUp 56 = .ok (.iastore, 1) := by decide +kernel
theorem dX1_fillUp_57 : decode cX1_fillUp 57 = .ok (.iinc 3 (-1), 3) := by decide +kernel
theorem dX1_fillUp_60 : decode cX1_fillUp 60 = .ok (.iinc 4 1, 3) := by decide +kernel
theorem dX1_fillUp_63 : decode cX1_fillUp 63 = .ok (.goto (-52), 3) := by decide +kernel
theorem dX1_fillUp_66 : decode cX1_fillUp 66 = .ok (.iload_n 2, 1) := by decide +kernel
theorem dX1_fillUp_67 : decode cX1_fillUp 67 = .ok (.ireturn, 1) := by decide +kernel
theorem dX2_init_0 : decode cX2_init 0 = .ok (.aload_n 0, 1) := by decide +kernel
theorem dX2_init_1 : decode cX2_init 1 = .ok (.invokespecial 3, 3) := by decide +kernel
theorem dX2_init_4 : decode cX2_init 4 = .ok (.aload_n 0, 1) := by decide +kernel
theorem dX2_init_5 : decode cX2_init 5 = .ok (.iconst 4, 1) := by decide +kernel
theorem dX2_init_6 : decode cX2_init 6 = .ok (.anewarray 9, 3) := by decide +kernel
theorem dX2_init_9 : decode cX2_init 9 = .ok (.putfield 11, 3) := by decide +kernel
theorem dX2_init_12 : decode cX2_init 12 = .ok (.iconst 0, 1) := by decide +kernel
theorem dX2_init_13 : decode cX2_init 13 = .ok (.istore_n 2, 1) := by decide +kernel
theorem dX2_init_14 : decode cX2_init 14 = .ok (.iload_n 2, 1) := by decide +kernel
theorem dX2_init_15 : decode cX2_init 15 = .ok (.iconst 4, 1) := by decide +kernel
theorem dX2_init_16 : decode cX2_init 16 = .ok (.if_icmp .ge 23, 3) := by decide +kernel
theorem dX2_init_19 : decode cX2_init 19 = .ok (.aload_n 0, 1) := by decide +kernel
theorem dX2_init_20 : decode cX2_init 20 = .ok (.getfield 11, 3) := by decide +kernel
theorem dX2_init_23 : decode cX2_init 23 = .ok (.iload_n 2, 1) := by decide +kernel
theorem dX2_init_24 : decode cX2_init 24 = .ok (.new 9, 3) := by decide +kernel
theorem dX2_init_27 : decode cX2_init 27 = .ok (.dup, 1) := by decide +kernel
theorem dX2_init_28 : decode cX2_init 28 = .ok (.aload_n 1, 1) := by decide +kernel
theorem dX2_init_29 : decode cX2_init 29 = .ok (.invokespecial 17, 3) := by decide +kernel
theorem dX2_init_32 : decode cX2_init 32 = .ok (.aastore, 1) := by decide +kernel
theorem dX2_init_33 : decode cX2_init 33 = .ok (.iinc 2 1, 3) := by decide +kernel
theorem dX2_init_36 : decode cX2_init 36 = .ok (.goto (-22), 3) := by decide +kernel
theorem dX2_init_39 : decode cX2_init 39 = .ok (.return_, 1) := by decide +kernel
theorem dX2_keep_0 : decode cX2_keep 0 = .ok (.aload_n 0, 1) := by decide +kernel
theorem dX2_keep_1 : decode cX2_keep 1 = .ok (.getfield 11, 3) := by decide +kernel
theorem dX2_keep_4 : decode cX2_keep 4 = .ok (.aload_n 0, 1) := by decide +kernel
theorem dX2_keep_5 : decode cX2_keep 5 = .ok (.getfield 20, 3) := by decide +kernel
theorem dX2_keep_8 : decode cX2_keep 8 = .ok (.iconst 3, 1) := by decide +kernel
theorem dX2_keep_9 : decode cX2_keep 9 = .ok (.iand, 1) := by decide +kernel
theorem dX2_keep_10 : decode cX2_keep 10 = .ok (.aaload, 1) := by decide +kernel
theorem dX2_keep_11 : decode cX2_keep 11 = .ok (.aload_n 1, 1) := by decide +kernel
theorem dX2_keep_12 : decode cX2_keep 12 = .ok (.invokevirtual 24, 3) := by decide +kernel
theorem dX2_keep_15 : decode cX2_keep 15 = .ok (.aload_n 0, 1) := by decide +kernel
theorem dX2_keep_16 : decode cX2_keep 16 = .ok (.dup, 1) := by decide +kernel
theorem dX2_keep_17 : decode cX2_keep 17 = .ok (.getfield 20, 3) := by decide +kernel
theorem dX2_keep_20 : decode cX2_keep 20 = .ok (.iconst 1, 1) := by decide +kernel
theorem dX2_keep_21 : decode cX2_keep 21 = .ok (.iadd, 1) := by decide +kernel
theorem dX2_keep_22 : decode cX2_keep 22 = .ok (.putfield 20, 3) := by decide +kernel
theorem dX2_keep_25 : decode cX2_keep 25 = .ok (.aload_n 0, 1) := by decide +kernel
theorem dX2_keep_26 : decode cX2_keep 26 = .ok (.aload_n 0, 1) := by decide +kernel
theorem dX2_keep_27 : decode cX2_keep 27 = .ok (.getfield 28, 3) := by decide +kernel
theorem dX2_keep_30 : decode cX2_keep 30 = .ok (.iconst 1, 1) := by decide +kernel
theorem dX2_keep_31 : decode cX2_keep 31 = .ok (.iadd, 1) := by decide +kernel
theorem dX2_keep_32 : decode cX2_keep 32 = .ok (.iconst 4, 1) := by decide +kernel
theorem dX2_keep_33 : decode cX2_keep 33 = .ok (.invokestatic 31, 3) := by decide +kernel
theorem dX2_keep_36 : decode cX2_keep 36 = .ok (.putfield 28, 3) := by decide +kernel
theorem dX2_keep_39 : decode cX2_keep 39 = .ok (.return_, 1) := by decide +kernel
theorem dX2_giveBack_0 : decode cX2_giveBack 0 = .ok (.aload_n 0, 1) := by decide +kernel
theorem dX2_giveBack_1 : decode cX2_giveBack 1 = .ok (.getfield 28, 3) := by decide +kernel
theorem dX2_giveBack_4 : decode cX2_giveBack 4 = .ok (.iconst 1, 1) := by decide +kernel
theorem dX2_giveBack_5 : decode cX2_giveBack 5 = .ok (.if_icmp .ge 5, 3) := by decide +kernel
theorem dX2_giveBack_8 : decode cX2_giveBack 8 = .ok (.iconst 0, 1) := by decide +kernel
theorem dX2_giveBack_9 : decode cX2_giveBack 9 = .ok (.ireturn, 1) := by decide +kernel
theorem dX2_giveBack_10 : decode cX2_giveBack 10 = .ok (.aload_n 0, 1) := by decide +kernel
theorem dX2_giveBack_11 : decode cX2_giveBack 11 = .ok (.dup, 1) := by decide +kernel
theorem dX2_giveBack_12 : decode cX2_giveBack 12 = .ok (.getfield 28, 3) := by decide +kernel
theorem dX2_giveBack_15 : decode cX2_giveBack 15 = .ok (.iconst 1, 1) := by decide +kernel
theorem dX2_giveBack_16 : decode cX2_giveBack 16 = .ok (.isub, 1) := by decide +kernel
theorem dX2_giveBack_17 : decode cX2_giveBack 17 = .ok (.putfield 28, 3) := by decide +kernel
theorem dX2_giveBack_20 : decode cX2_giveBack 20 = .ok (.aload_n 0, 1) := by decide +kernel
theorem dX2_giveBack_21 : decode cX2_giveBack 21 = .ok (.dup, 1) := by decide +kernel
theorem dX2_giveBack_22 : decode cX2_giveBack 22 = .ok (.getfield 20, 3) := by decide +kernel
theorem dX2_giveBack_25 : decode cX2_giveBack 25 = .ok (.iconst 1, 1) := by decide +kernel
theorem dX2_giveBack_26 : decode cX2_giveBack 26 = .ok (.isub, 1) := by decide +kernel
theorem dX2_giveBack_27 : decode cX2_giveBack 27 = .ok (.putfield 20, 3) := by decide +kernel
theorem dX2_giveBack_30 : decode cX2_giveBack 30 = .ok (.aload_n 1, 1) := by decide +kernel
theorem dX2_giveBack_31 : decode cX2_giveBack 31 = .ok (.aload_n 0, 1) := by decide +kernel
theorem dX2_giveBack_32 : decode cX2_giveBack 32 = .ok (.getfield 11, 3) := by decide +kernel
theorem dX2_giveBack_35 : decode cX2_giveBack 35 = .ok (.aload_n 0, 1) := by decide +kernel
theorem dX2_giveBack_36 : decode cX2_giveBack 36 = .ok (.getfield 20, 3) := by decide +kernel
theorem dX2_giveBack_39 : decode cX2_giveBack 39 = .ok (.iconst 3, 1) := by decide +kernel
theorem dX2_giveBack_40 : decode cX2_giveBack 40 = .ok (.iand, 1) := by decide +kernel
theorem dX2_giveBack_41 : decode cX2_giveBack 41 = .ok (.aaload, 1) := by decide +kernel
theorem dX2_giveBack_42 : decode cX2_giveBack 42 = .ok (.invokevirtual 24, 3) := by decide +kernel
theorem dX2_giveBack_45 : decode cX2_giveBack 45 = .ok (.iconst 1, 1) := by decide +kernel
theorem dX2_giveBack_46 : decode cX2_giveBack 46 = .ok (.ireturn, 1) := by decide +kernel
theorem dX2_forget_0 : decode cX2_forget 0 = .ok (.aload_n 0, 1) := by decide +kernel
theorem dX2_forget_1 : decode cX2_forget 1 = .ok (.iconst 0, 1) := by decide +kernel
theorem dX2_forget_2 : decode cX2_forget 2 = .ok (.putfield 28, 3) := by decide +kernel
theorem dX2_forget_5 : decode cX2_forget 5 = .ok (.return_, 1) := by decide +kernel
theorem dX3_init_0 : decode cX3_init 0 = .ok (.aload_n 0, 1) := by decide +kernel
theorem dX3_init_1 : decode cX3_init 1 = .ok (.invokespecial 3, 3) := by decide +kernel
theorem dX3_init_4 : decode cX3_init 4 = .ok (.aload_n 0, 1) := by decide +kernel
theorem dX3_init_5 : decode cX3_init 5 = .ok (.bipush 6, 2) := by decide +kernel
theorem dX3_init_7 : decode cX3_init 7 = .ok (.newarray .int, 2) := by decide +kernel
theorem dX3_init_9 : decode cX3_init 9 = .ok (.putfield 9, 3) := by decide +kernel
theorem dX3_init_12 : decode cX3_init 12 = .ok (.aload_n 0, 1) := by decide +kernel
theorem dX3_init_13 : decode cX3_init 13 = .ok (.bipush 6, 2) := by decide +kernel
theorem dX3_init_15 : decode cX3_init 15 = .ok (.newarray .int, 2) := by decide +kernel
theorem dX3_init_17 : decode cX3_init 17 = .ok (.putfield 15, 3) := by decide +kernel
theorem dX3_init_20 : decode cX3_init 20 = .ok (.aload_n 0, 1) := by decide +kernel
theorem dX3_init_21 : decode cX3_init 21 = .ok (.bipush 6, 2) := by decide +kernel
theorem dX3_init_23 : decode cX3_init 23 = .ok (.newarray .int, 2) := by decide +kernel
theorem dX3_init_25 : decode cX3_init 25 = .ok (.putfield 18, 3) := by decide +kernel
theorem dX3_init_28 : decode cX3_init 28 = .ok (.return_, 1) := by decide +kernel
theorem dX3_clear_0 : decode cX3_clear 0 = .ok (.aload_n 0, 1) := by decide +kernel
theorem dX3_clear_1 : decode cX3_clear 1 = .ok (.iconst 0, 1) := by decide +kernel
theorem dX3_clear_2 : decode cX3_clear 2 = .ok (.putfield 21, 3) := by decide +kernel
theorem dX3_clear_5 : decode cX3_clear 5 = .ok (.aload_n 0, 1) := by decide +kernel
theorem dX3_clear_6 : decode cX3_clear 6 = .ok (.bipush 6, 2) := by decide +kernel
theorem dX3_clear_8 : decode cX3_clear 8 = .ok (.bipush 20, 2) := by decide +kernel
theorem dX3_clear_10 : decode cX3_clear 10 = .ok (.invokevirtual 25, 3) := by decide +kernel
theorem dX3_clear_13 : decode cX3_clear 13 = .ok (.return_, 1) := by decide +kernel
theorem dX3_addFile_0 : decode cX3_addFile 0 = .ok (.aload_n 0, 1) := by decide +kernel
theorem dX3_addFile_1 : decode cX3_addFile 1 = .ok (.getfield 21, 3) := by decide +kernel
theorem dX3_addFile_4 : decode cX3_addFile 4 = .ok (.ifCond .lt 12, 3) := by decide +kernel
theorem dX3_addFile_7 : decode cX3_addFile 7 = .ok (.aload_n 0, 1) := by decide +kernel
theorem dX3_addFile_8 : decode cX3_addFile 8 = .ok (.getfield 21, 3) := by decide +kernel
theorem dX3_addFile_11 : decode cX3_addFile 11 = .ok (.bipush 6, 2) := by decide +kernel
theorem dX3_addFile_13 : decode cX3_addFile 13 = .ok (.if_icmp .lt 5, 3) := by decide +kernel
theorem dX3_addFile_16 : decode cX3_addFile 16 = .ok (.iconst 0, 1) := by decide +kernel
theorem dX3_addFile_17 : decode cX3_addFile 17 = .ok (.ireturn, 1) := by decide +kernel
theorem dX3_addFile_18 : decode cX3_addFile 18 = .ok (.aload_n 0, 1) := by decide +kernel
theorem dX3_addFile_19 : decode cX3_addFile 19 = .ok (.getfield 9, 3) := by decide +kernel
theorem dX3_addFile_22 : decode cX3_addFile 22 = .ok (.aload_n 0, 1) := by decide +kernel
theorem dX3_addFile_23 : decode cX3_addFile 23 = .ok (.getfield 21, 3) := by decide +kernel
theorem dX3_addFile_26 : decode cX3_addFile 26 = .ok (.iload_n 1, 1) := by decide +kernel
theorem dX3_addFile_27 : decode cX3_addFile 27 = .ok (.iastore, 1) := by decide +kernel
theorem dX3_addFile_28 : decode cX3_addFile 28 = .ok (.aload_n 0, 1) := by decide +kernel
theorem dX3_addFile_29 : decode cX3_addFile 29 = .ok (.getfield 15, 3) := by decide +kernel
theorem dX3_addFile_32 : decode cX3_addFile 32 = .ok (.aload_n 0, 1) := by decide +kernel
theorem dX3_addFile_33 : decode cX3_addFile 33 = .ok (.getfield 21, 3) := by decide +kernel
theorem dX3_addFile_36 : decode cX3_addFile 36 = .ok (.iload_n 2, 1) := by decide +kernel
theorem dX3_addFile_37 : decode cX3_addFile 37 = .ok (.iastore, 1) := by decide +kernel
theorem dX3_addFile_38 : decode cX3_addFile 38 = .ok (.aload_n 0, 1) := by decide +kernel
theorem dX3_addFile_39 : decode cX3_addFile 39 = .ok (.getfield 18, 3) := by decide +kernel
theorem dX3_addFile_42 : decode cX3_addFile 42 = .ok (.aload_n 0, 1) := by decide +kernel
theorem dX3_addFile_43 : decode cX3_addFile 43 = .ok (.getfield 21, 3) := by decide +kernel
theorem dX3_addFile_46 : decode cX3_addFile 46 = .ok (.iload_n 3, 1) := by decide +kernel
theorem dX3_addFile_47 : decode cX3_addFile 47 = .ok (.iastore, 1) := by decide +kernel
theorem dX3_addFile_48 : decode cX3_addFile 48 = .ok (.aload_n 0, 1) := by decide +kernel
theorem dX3_addFile_49 : decode cX3_addFile 49 = .ok (.dup, 1) := by decide +kernel
theorem dX3_addFile_50 : decode cX3_addFile 50 = .ok (.getfield 21, 3) := by decide +kernel
theorem dX3_addFile_53 : decode cX3_addFile 53 = .ok (.iconst 1, 1) := by decide +kernel
theorem dX3_addFile_54 : decode cX3_addFile 54 = .ok (.iadd, 1) := by decide +kernel
theorem dX3_addFile_55 : decode cX3_addFile 55 = .ok (.putfield 21, 3) := by decide +kernel
theorem dX3_addFile_58 : decode cX3_addFile 58 = .ok (.iconst 1, 1) := by decide +kernel
theorem dX3_addFile_59 : decode cX3_addFile 59 = .ok (.ireturn, 1) := by decide +kernel
theorem dX3_setTable_0 : decode cX3_setTable 0 = .ok (.aload_n 0, 1) := by decide +kernel
theorem dX3_setTable_1 : decode cX3_setTable 1 = .ok (.iload_n 1, 1) := by decide +kernel
theorem dX3_setTable_2 : decode cX3_setTable 2 = .ok (.putfield 29, 3) := by decide +kernel
theorem dX3_setTable_5 : decode cX3_setTable 5 = .ok (.aload_n 0, 1) := by decide +kernel
theorem dX3_setTable_6 : decode cX3_setTable 6 = .ok (.iload_n 2, 1) := by decide +kernel
theorem dX3_setTable_7 : decode cX3_setTable 7 = .ok (.putfield 32, 3) := by decide +kernel
theorem dX3_setTable_10 : decode cX3_setTable 10 = .ok (.return_, 1) := by decide +kernel
theorem dX3_hasFile_0 : decode cX3_hasFile 0 = .ok (.iload_n 1, 1) := by decide +kernel
theorem dX3_hasFile_1 : decode cX3_hasFile 1 = .ok (.ifCond .lt 15, 3) := by decide +kernel
theorem dX3_hasFile_4 : decode cX3_hasFile 4 = .ok (.iload_n 1, 1) := by decide +kernel
theorem dX3_hasFile_5 : decode cX3_hasFile 5 = .ok (.aload_n 0, 1) := by decide +kernel
theorem dX3_hasFile_6 : decode cX3_hasFile 6 = .ok (.getfield 21, 3) := by decide +kernel
theorem dX3_hasFile_9 : decode cX3_hasFile 9 = .ok (.if_icmp .ge 7, 3) := by decide +kernel
theorem dX3_hasFile_12 : decode cX3_hasFile 12 = .ok (.iconst 1, 1) := by decide +kernel
theorem dX3_hasFile_13 : decode cX3_hasFile 13 = .ok (.goto 4, 3) := by decide +kernel
theorem dX3_hasFile_16 : decode cX3_hasFile 16 = .ok (.iconst 0, 1) := by decide +kernel
theorem dX3_hasFile_17 : decode cX3_hasFile 17 = .ok (.ireturn, 1) := by decide +kernel
theorem dX3_symbolsOf_0 : decode cX3_symbolsOf 0 = .ok (.aload_n 0, 1) := by decide +kernel
theorem dX3_symbolsOf_1 : decode cX3_symbolsOf 1 = .ok (.getfield 9, 3) := by decide +kernel
theorem dX3_symbolsOf_4 : decode cX3_symbolsOf 4 = .ok (.iload_n 1, 1) := by decide +kernel
theorem dX3_symbolsOf_5 : decode cX3_symbolsOf 5 = .ok (.iaload, 1) := by decide +kernel
theorem dX3_symbolsOf_6 : decode cX3_symbolsOf 6 = .ok (.aload_n 0, 1) := by decide +kernel
theorem dX3_symbolsOf_7 : decode cX3_symbolsOf 7 = .ok (.getfield 15, 3) := by decide +kernel
theorem dX3_symbolsOf_10 : decode cX3_symbolsOf 10 = .ok (.iload_n 1, 1) := by decide +kernel
theorem dX3_symbolsOf_11 : decode cX3_symbolsOf 11 = .ok (.iaload, 1) := by decide +kernel
theorem dX3_symbolsOf_12 : decode cX3_symbolsOf 12 = .ok (.iadd, 1) := by decide +kernel
theorem dX3_symbolsOf_13 : decode cX3_symbolsOf 13 = .ok (.ireturn, 1) := by decide +kernel
theorem dX3_isTableTurn_0 : decode cX3_isTableTurn 0 = .ok (.aload_n 0, 1) := by decide +kernel
theorem dX3_isTableTurn_1 : decode cX3_isTableTurn 1 = .ok (.getfield 29, 3) := by decide +kernel
theorem dX3_isTableTurn_4 : decode cX3_isTableTurn 4 = .ok (.ifCond .le 16, 3) := by decide +kernel
theorem dX3_isTableTurn_7 : decode cX3_isTableTurn 7 = .ok (.iload_n 1, 1) := by decide +kernel
theorem dX3_isTableTurn_8 : decode cX3_isTableTurn 8 = .ok (.aload_n 0, 1) := by decide +kernel
theorem dX3_isTableTurn_9 : decode cX3_isTableTurn 9 = .ok (.getfield 29, 3) := by decide +kernel
theorem dX3_isTableTurn_12 : decode cX3_isTableTurn 12 = .ok (.irem, 1) := by decide +kernel
theorem dX3_isTableTurn_13 : decode cX3_isTableTurn 13 = .ok (.ifCond .ne 7, 3) := by decide +kernel
theorem dX3_isTableTurn_16 : decode cX3_isTableTurn 16 = .ok (.iconst 1, 1) := by decide +kernel
theorem dX3_isTableTurn_17 : decode cX3_isTableTurn 17 = .ok (.goto 4, 3) := by decide +kernel
theorem dX3_isTableTurn_20 : decode cX3_isTableTurn 20 = .ok (.iconst 0, 1) := by decide +kernel
theorem dX3_isTableTurn_21 : decode cX3_isTableTurn 21 = .ok (.ireturn, 1) := by decide +kernel
theorem dX3_become_0 : decode cX3_become 0 = .ok (.aload_n 1, 1) := by decide +kernel
theorem dX3_become_1 : decode cX3_become 1 = .ok (.getfield 9, 3) := by decide +kernel
theorem dX3_become_4 : decode cX3_become 4 = .ok (.iconst 0, 1) := by decide +kernel
theorem dX3_become_5 : decode cX3_become 5 = .ok (.aload_n 0, 1) := by decide +kernel
theorem dX3_become_6 : decode cX3_become 6 = .ok (.getfield 9, 3) := by decide +kernel
theorem dX3_become_9 : decode cX3_become 9 = .ok (.iconst 0, 1) := by decide +kernel
theorem dX3_become_10 : decode cX3_become 10 = .ok (.bipush 6, 2) := by decide +kernel
theorem dX3_become_12 : decode cX3_become 12 = .ok (.invokestatic 35, 3) := by decide +kernel
theorem dX3_become_15 : decode cX3_become 15 = .ok (.aload_n 1, 1) := by decide +kernel
theorem dX3_become_16 : decode cX3_become 16 = .ok (.getfield 15, 3) := by decide +kernel
theorem dX3_become_19 : decode cX3_become 19 = .ok (.iconst 0, 1) := by decide +kernel
theorem dX3_become_20 : decode cX3_become 20 = .ok (.aload_n 0, 1) := by decide +kernel
theorem dX3_become_21 : decode cX3_become 21 = .ok (.getfield 15, 3) := by decide +kernel
theorem dX3_become_24 : decode cX3_become 24 = .ok (.iconst 0, 1) := by decide +kernel
theorem dX3_become_25 : decode cX3_become 25 = .ok (.bipush 6, 2) := by decide +kernel
theorem dX3_become_27 : decode cX3_become 27 = .ok (.invokestatic 35, 3) := by decide +kernel
theorem dX3_become_30 : decode cX3_become 30 = .ok (.aload_n 1, 1) := by decide +kernel
theorem dX3_become_31 : decode cX3_become 31 = .ok (.getfield 18, 3) := by decide +kernel
theorem dX3_become_34 : decode cX3_become 34 = .ok (.iconst 0, 1) := by decide +kernel
theorem dX3_become_35 : decode cX3_become 35 = .ok (.aload_n 0, 1) := by decide +kernel
theorem dX3_become_36 : decode cX3_become 36 = .ok (.getfield 18, 3) := by decide +kernel
theorem dX3_become_39 : decode cX3_become 39 = .ok (.iconst 0, 1) := by decide +kernel
theorem dX3_become_40 : decode cX3_become 40 = .ok (.bipush 6, 2) := by decide +kernel
theorem dX3_become_42 : decode cX3_become 42 = .ok (.invokestatic 35, 3) := by decide +kernel
theorem dX3_become_45 : decode cX3_become 45 = .ok (.aload_n 0, 1) := by decide +kernel
theorem dX3_become_46 : decode cX3_become 46 = .ok (.aload_n 1, 1) := by decide +kernel
theorem dX3_become_47 : decode cX3_become 47 = .ok (.getfield 21, 3) := by decide +kernel
theorem dX3_become_50 : decode cX3_become 50 = .ok (.putfield 21, 3) := by decide +kernel
theorem dX3_become_53 : decode cX3_become 53 = .ok (.aload_n 0, 1) := by decide +kernel
theorem dX3_become_54 : decode cX3_become 54 = .ok (.aload_n 1, 1) := by decide +kernel
theorem dX3_become_55 : decode cX3_become 55 = .ok (.getfield 29, 3) := by decide +kernel
theorem dX3_become_58 : decode cX3_become 58 = .ok (.putfield 29, 3) := by decide +kernel
theorem dX3_become_61 : decode cX3_become 61 = .ok (.aload_n 0, 1) := by decide +kernel
theorem dX3_become_62 : decode cX3_become 62 = .ok (.aload_n 1, 1) := by decide +kernel
theorem dX3_become_63 : decode cX3_become 63 = .ok (.getfield 32, 3) := by decide +kernel
theorem dX3_become_66 : decode cX3_become 66 = .ok (.putfield 32, 3) := by decide +kernel
theorem dX3_become_69 : decode cX3_become 69 = .ok (.return_, 1) := by decide +kernel
theorem dX4_init_0 : decode cX4_init 0 = .ok (.aload_n 0, 1) := by decide +kernel
theorem dX4_init_1 : decode cX4_init 1 = .ok (.invokespecial 3, 3) := by decide +kernel
theorem dX4_init_4 : decode cX4_init 4 = .ok (.aload_n 0, 1) := by decide +kernel
theorem dX4_init_5 : decode cX4_init 5 = .ok (.iconst 4, 1) := by decide +kernel
theorem dX4_init_6 : decode cX4_init 6 = .ok (.anewarray 9, 3) := by decide +kernel
theorem dX4_init_9 : decode cX4_init 9 = .ok (.putfield 11, 3) := by decide +kernel
theorem dX4_init_12 : decode cX4_init 12 = .ok (.aload_n 0, 1) := by decide +kernel
theorem dX4_init_13 : decode cX4_init 13 = .ok (.new 17, 3) := by decide +kernel
theorem dX4_init_16 : decode cX4_init 16 = .ok (.dup, 1) := by decide +kernel
theorem dX4_init_17 : decode cX4_init 17 = .ok (.aload_n 1, 1) := by decide +kernel
theorem dX4_init_18 : decode cX4_init 18 = .ok (.invokespecial 19, 3) := by decide +kernel
theorem dX4_init_21 : decode cX4_init 21 = .ok (.putfield 22, 3) := by decide +kernel
theorem dX4_init_24 : decode cX4_init 24 = .ok (.iconst 0, 1) := by decide +kernel
theorem dX4_init_25 : decode cX4_init 25 = .ok (.istore_n 2, 1) := by decide +kernel
theorem dX4_init_26 : decode cX4_init 26 = .ok (.iload_n 2, 1) := by decide +kernel
theorem dX4_init_27 : decode cX4_init 27 = .ok (.iconst 4, 1) := by decide +kernel
theorem dX4_init_28 : decode cX4_init 28 = .ok (.if_icmp .ge 24, 3) := by decide +kernel
theorem dX4_init_31 : decode cX4_init 31 = .ok (.aload_n 0, 1) := by decide +kernel
theorem dX4_init_32 : decode cX4_init 32 = .ok (.getfield 11, 3) := by decide +kernel
theorem dX4_init_35 : decode cX4_init 35 = .ok (.iload_n 2, 1) := by decide +kernel
theorem dX4_init_36 : decode cX4_init 36 = .ok (.new 9, 3) := by decide +kernel
theorem dX4_init_39 : decode cX4_init 39 = .ok (.dup, 1) := by decide +kernel
theorem dX4_init_40 : decode cX4_init 40 = .ok (.aload_n 1, 1) := by decide +kernel
theorem dX4_init_41 : decode cX4_init 41 = .ok (.iload_n 2, 1) := by decide +kernel
theorem dX4_init_42 : decode cX4_init 42 = .ok (.invokespecial 26, 3) := by decide +kernel
theorem dX4_init_45 : decode cX4_init 45 = .ok (.aastore, 1) := by decide +kernel
theorem dX4_init_46 : decode cX4_init 46 = .ok (.iinc 2 1, 3) := by decide +kernel
theorem dX4_init_49 : decode cX4_init 49 = .ok (.goto (-23), 3) := by decide +kernel
theorem dX4_init_52 : decode cX4_init 52 = .ok (.return_, 1) := by decide +kernel
theorem dX4_begin_0 : decode cX4_begin 0 = .ok (.aload_n 0, 1) := by decide +kernel
theorem dX4_begin_1 : decode cX4_begin 1 = .ok (.getfield 22, 3) := by decide +kernel
theorem dX4_begin_4 : decode cX4_begin 4 = .ok (.invokevirtual 29, 3) := by decide +kernel
theorem dX4_begin_7 : decode cX4_begin 7 = .ok (.aload_n 0, 1) := by decide +kernel
theorem dX4_begin_8 : decode cX4_begin 8 = .ok (.iconst 0, 1) := by decide +kernel
theorem dX4_begin_9 : decode cX4_begin 9 = .ok (.putfield 32, 3) := by decide +kernel
theorem dX4_begin_12 : decode cX4_begin 12 = .ok (.return_, 1) := by decide +kernel
theorem dX4_become_0 : decode cX4_become 0 = .ok (.aload_n 0, 1) := by decide +kernel
theorem dX4_become_1 : decode cX4_become 1 = .ok (.getfield 22, 3) := by decide +kernel
theorem dX4_become_4 : decode cX4_become 4 = .ok (.aload_n 1, 1) := by decide +kernel
theorem dX4_become_5 : decode cX4_become 5 = .ok (.getfield 22, 3) := by decide +kernel
theorem dX4_become_8 : decode cX4_become 8 = .ok (.invokevirtual 36, 3) := by decide +kernel
theorem dX4_become_11 : decode cX4_become 11 = .ok (.aload_n 0, 1) := by decide +kernel
theorem dX4_become_12 : decode cX4_become 12 = .ok (.aload_n 1, 1) := by decide +kernel
theorem dX4_become_13 : decode cX4_become 13 = .ok (.getfield 32, 3) := by decide +kernel
theorem dX4_become_16 : decode cX4_become 16 = .ok (.putfield 32, 3) := by decide +kernel
theorem dX4_become_19 : decode cX4_become 19 = .ok (.iconst 0, 1) := by decide +kernel
theorem dX4_become_20 : decode cX4_become 20 = .ok (.istore_n 2, 1) := by decide +kernel
theorem dX4_become_21 : decode cX4_become 21 = .ok (.iload_n 2, 1) := by decide +kernel
theorem dX4_become_22 : decode cX4_become 22 = .ok (.aload_n 0, 1) := by decide +kernel
theorem dX4_become_23 : decode cX4_become 23 = .ok (.getfield 32, 3) := by decide +kernel
theorem dX4_become_26 : decode cX4_become 26 = .ok (.if_icmp .ge 24, 3) := by decide +kernel
theorem dX4_become_29 : decode cX4_become 29 = .ok (.aload_n 0, 1) := by decide +kernel
theorem dX4_become_30 : decode cX4_become 30 = .ok (.getfield 11, 3) := by decide +kernel
theorem dX4_become_33 : decode cX4_become 33 = .ok (.iload_n 2, 1) := by decide +kernel
theorem dX4_become_34 : decode cX4_become 34 = .ok (.aaload, 1) := by decide +kernel
theorem dX4_become_35 : decode cX4_become 35 = .ok (.aload_n 1, 1) := by decide +kernel
theorem dX4_become_36 : decode cX4_become 36 = .ok (.getfield 11, 3) := by decide +kernel
theorem dX4_become_39 : decode cX4_become 39 = .ok (.iload_n 2, 1) := by decide +kernel
theorem dX4_become_40 : decode cX4_become 40 = .ok (.aaload, 1) := by decide +kernel
theorem dX4_become_41 : decode cX4_become 41 = .ok (.invokevirtual 40, 3) := by decide +kernel
theorem dX4_become_44 : decode cX4_become 44 = .ok (.iinc 2 1, 3) := by decide +kernel
theorem dX4_become_47 : decode cX4_become 47 = .ok (.goto (-26), 3) := by decide +kernel
theorem dX4_become_50 : decode cX4_become 50 = .ok (.return_, 1) := by decide +kernel
theorem dX4_hasListener_0 : decode cX4_hasListener 0 = .ok (.iload_n 1, 1) := by decide +kernel
theorem dX4_hasListener_1 : decode cX4_hasListener 1 = .ok (.ifCond .lt 15, 3) := by decide +kernel
theorem dX4_hasListener_4 : decode cX4_hasListener 4 = .ok (.iload_n 1, 1) := by decide +kernel
theorem dX4_hasListener_5 : decode cX4_hasListener 5 = .ok (.aload_n 0, 1) := by decide +kernel
theorem dX4_hasListener_6 : decode cX4_hasListener 6 = .ok (.getfield 32, 3) := by decide +kernel
theorem dX4_hasListener_9 : decode cX4_hasListener 9 = .ok (.if_icmp .ge 7, 3) := by decide +kernel
theorem dX4_hasListener_12 : decode cX4_hasListener 12 = .ok (.iconst 1, 1) := by decide +kernel
theorem dX4_hasListener_13 : decode cX4_hasListener 13 = .ok (.goto 4, 3) := by decide +kernel
theorem dX4_hasListener_16 : decode cX4_hasListener 16 = .ok (.iconst 0, 1) := by decide +kernel
theorem dX4_hasListener_17 : decode cX4_hasListener 17 = .ok (.ireturn, 1) := by decide +kernel
theorem dX4_hasRoom_0 : decode cX4_hasRoom 0 = .ok (.aload_n 0, 1) := by decide +kernel
theorem dX4_hasRoom_1 : decode cX4_hasRoom 1 = .ok (.getfield 32, 3) := by decide +kernel
theorem dX4_hasRoom_4 : decode cX4_hasRoom 4 = .ok (.ifCond .lt 15, 3) := by decide +kernel
theorem dX4_hasRoom_7 : decode cX4_hasRoom 7 = .ok (.aload_n 0, 1) := by decide +kernel
theorem dX4_hasRoom_8 : decode cX4_hasRoom 8 = .ok (.getfield 32, 3) := by decide +kernel
theorem dX4_hasRoom_11 : decode cX4_hasRoom 11 = .ok (.iconst 4, 1) := by decide +kernel
theorem dX4_hasRoom_12 : decode cX4_hasRoom 12 = .ok (.if_icmp .ge 7, 3) := by decide +kernel
theorem dX4_hasRoom_15 : decode cX4_hasRoom 15 = .ok (.iconst 1, 1) := by decide +kernel
theorem dX4_hasRoom_16 : decode cX4_hasRoom 16 = .ok (.goto 4, 3) := by decide +kernel
theorem dX4_hasRoom_19 : decode cX4_hasRoom 19 = .ok (.iconst 0, 1) := by decide +kernel
theorem dX4_hasRoom_20 : decode cX4_hasRoom 20 = .ok (.ireturn, 1) := by decide +kernel
theorem dX4_addListener_0 : decode cX4_addListener 0 = .ok (.aload_n 0, 1) := by decide +kernel
theorem dX4_addListener_1 : decode cX4_addListener 1 = .ok (.getfield 32, 3) := by decide +kernel
theorem dX4_addListener_4 : decode cX4_addListener 4 = .ok (.istore_n 2, 1) := by decide +kernel
theorem dX4_addListener_5 : decode cX4_addListener 5 = .ok (.aload_n 0, 1) := by decide +kernel
theorem dX4_addListener_6 : decode cX4_addListener 6 = .ok (.getfield 11, 3) := by decide +kernel
theorem dX4_addListener_9 : decode cX4_addListener 9 = .ok (.iload_n 2, 1) := by decide +kernel
theorem dX4_addListener_10 : decode cX4_addListener 10 = .ok (.aaload, 1) := by decide +kernel
theorem dX4_addListener_11 : decode cX4_addListener 11 = .ok (.iload_n 1, 1) := by decide +kernel
theorem dX4_addListener_12 : decode cX4_addListener 12 = .ok (.aload_n 0, 1) := by decide +kernel
theorem dX4_addListener_13 : decode cX4_addListener 13 = .ok (.getfield 22, 3) := by decide +kernel
theorem dX4_addListener_16 : decode cX4_addListener 16 = .ok (.getfield 43, 3) := by decide +kernel
theorem dX4_addListener_19 : decode cX4_addListener 19 = .ok (.invokevirtual 46, 3) := by decide +kernel
theorem dX4_addListener_22 : decode cX4_addListener 22 = .ok (.aload_n 0, 1) := by decide +kernel
theorem dX4_addListener_23 : decode cX4_addListener 23 = .ok (.iload_n 2, 1) := by decide +kernel
theorem dX4_addListener_24 : decode cX4_addListener 24 = .ok (.iconst 1, 1) := by decide +kernel
theorem dX4_addListener_25 : decode cX4_addListener 25 = .ok (.iadd, 1) := by decide +kernel
theorem dX4_addListener_26 : decode cX4_addListener 26 = .ok (.putfield 32, 3) := by decide +kernel
theorem dX4_addListener_29 : decode cX4_addListener 29 = .ok (.iload_n 2, 1) := by decide +kernel
theorem dX4_addListener_30 : decode cX4_addListener 30 = .ok (.ireturn, 1) := by decide +kernel
theorem dX4_advance_0 : decode cX4_advance 0 = .ok (.aload_n 0, 1) := by decide +kernel
theorem dX4_advance_1 : decode cX4_advance 1 = .ok (.getfield 22, 3) := by decide +kernel
theorem dX4_advance_4 : decode cX4_advance 4 = .ok (.getfield 43, 3) := by decide +kernel
theorem dX4_advance_7 : decode cX4_advance 7 = .ok (.istore_n 1, 1) := by decide +kernel
theorem dX4_advance_8 : decode cX4_advance 8 = .ok (.aload_n 0, 1) := by decide +kernel
theorem dX4_advance_9 : decode cX4_advance 9 = .ok (.getfield 22, 3) := by decide +kernel
theorem dX4_advance_12 : decode cX4_advance 12 = .ok (.invokevirtual 50, 3) := by decide +kernel
theorem dX4_advance_15 : decode cX4_advance 15 = .ok (.iconst 0, 1) := by decide +kernel
theorem dX4_advance_16 : decode cX4_advance 16 = .ok (.istore_n 2, 1) := by decide +kernel
theorem dX4_advance_17 : decode cX4_advance 17 = .ok (.iload_n 2, 1) := by decide +kernel
theorem dX4_advance_18 : decode cX4_advance 18 = .ok (.aload_n 0, 1) := by decide +kernel
theorem dX4_advance_19 : decode cX4_advance 19 = .ok (.getfield 32, 3) := by decide +kernel
theorem dX4_advance_22 : decode cX4_advance 22 = .ok (.if_icmp .ge 23, 3) := by decide +kernel
theorem dX4_advance_25 : decode cX4_advance 25 = .ok (.aload_n 0, 1) := by decide +kernel
theorem dX4_advance_26 : decode cX4_advance 26 = .ok (.getfield 11, 3) := by decide +kernel
theorem dX4_advance_29 : decode cX4_advance 29 = .ok (.iload_n 2, 1) := by decide +kernel
theorem dX4_advance_30 : decode cX4_advance 30 = .ok (.aaload, 1) := by decide +kernel
theorem dX4_advance_31 : decode cX4_advance 31 = .ok (.aload_n 0, 1) := by decide +kernel
theorem dX4_advance_32 : decode cX4_advance 32 = .ok (.getfield 22, 3) := by decide +kernel
theorem dX4_advance_35 : decode cX4_advance 35 = .ok (.iload_n 1, 1) := by decide +kernel
theorem dX4_advance_36 : decode cX4_advance 36 = .ok (.invokevirtual 53, 3) := by decide +kernel
theorem dX4_advance_39 : decode cX4_advance 39 = .ok (.iinc 2 1, 3) := by decide +kernel
theorem dX4_advance_42 : decode cX4_advance 42 = .ok (.goto (-25), 3) := by decide +kernel
theorem dX4_advance_45 : decode cX4_advance 45 = .ok (.return_, 1) := by decide +kernel
theorem dX5_init_0 : decode cX5_init 0 = .ok (.aload_n 0, 1) := by decide +kernel
theorem dX5_init_1 : decode cX5_init 1 = .ok (.invokespecial 3, 3) := by decide +kernel
theorem dX5_init_4 : decode cX5_init 4 = .ok (.aload_n 0, 1) := by decide +kernel
theorem dX5_init_5 : decode cX5_init 5 = .ok (.sipush 200, 3) := by decide +kernel
theorem dX5_init_8 : decode cX5_init 8 = .ok (.newarray .int, 2) := by decide +kernel
theorem dX5_init_10 : decode cX5_init 10 = .ok (.putfield 9, 3) := by decide +kernel
theorem dX5_init_13 : decode cX5_init 13 = .ok (.return_, 1) := by decide +kernel
theorem dX5_append_0 : decode cX5_append 0 = .ok (.aload_n 0, 1) := by decide +kernel
theorem dX5_append_1 : decode cX5_append 1 = .ok (.getfield 15, 3) := by decide +kernel
theorem dX5_append_4 : decode cX5_append 4 = .ok (.ifCond .lt 13, 3) := by decide +kernel
theorem dX5_append_7 : decode cX5_append 7 = .ok (.aload_n 0, 1) := by decide +kernel
theorem dX5_append_8 : decode cX5_append 8 = .ok (.getfield 15, 3) := by decide +kernel
theorem dX5_append_11 : decode cX5_append 11 = .ok (.sipush 200, 3) := by decide +kernel
theorem dX5_append_14 : decode cX5_append 14 = .ok (.if_icmp .lt 5, 3) := by decide +kernel
theorem dX5_append_17 : decode cX5_append 17 = .ok (.iconst 0, 1) := by decide +kernel
theorem dX5_append_18 : decode cX5_append 18 = .ok (.ireturn, 1) := by decide +kernel
theorem dX5_append_19 : decode cX5_append 19 = .ok (.aload_n 0, 1) := by decide +kernel
theorem dX5_append_20 : decode cX5_append 20 = .ok (.getfield 9, 3) := by decide +kernel
theorem dX5_append_23 : decode cX5_append 23 = .ok (.aload_n 0, 1) := by decide +kernel
theorem dX5_append_24 : decode cX5_append 24 = .ok (.getfield 15, 3) := by decide +kernel
theorem dX5_append_27 : decode cX5_append 27 = .ok (.iload_n 1, 1) := by decide +kernel
theorem dX5_append_28 : decode cX5_append 28 = .ok (.iastore, 1) := by decide +kernel
theorem dX5_append_29 : decode cX5_append 29 = .ok (.aload_n 0, 1) := by decide +kernel
theorem dX5_append_30 : decode cX5_append 30 = .ok (.dup, 1) := by decide +kernel
theorem dX5_append_31 : decode cX5_append 31 = .ok (.getfield 15, 3) := by decide +kernel
theorem dX5_append_34 : decode cX5_append 34 = .ok (.iconst 1, 1) := by decide +kernel
theorem dX5_append_35 : decode cX5_append 35 = .ok (.iadd, 1) := by decide +kernel
theorem dX5_append_36 : decode cX5_append 36 = .ok (.putfield 15, 3) := by decide +kernel
theorem dX5_append_39 : decode cX5_append 39 = .ok (.iconst 1, 1) := by decide +kernel
theorem dX5_append_40 : decode cX5_append 40 = .ok (.ireturn, 1) := by decide +kernel
theorem dX5_firstFault_0 : decode cX5_firstFault 0 = .ok (.aload_n 1, 1) := by decide +kernel
theorem dX5_firstFault_1 : decode cX5_firstFault 1 = .ok (.invokevirtual 19, 3) := by decide +kernel
theorem dX5_firstFault_4 : decode cX5_firstFault 4 = .ok (.aload_n 0, 1) := by decide +kernel
theorem dX5_firstFault_5 : decode cX5_firstFault 5 = .ok (.iconst 0, 1) := by decide +kernel
theorem dX5_firstFault_6 : decode cX5_firstFault 6 = .ok (.putfield 24, 3) := by decide +kernel
theorem dX5_firstFault_9 : decode cX5_firstFault 9 = .ok (.iconst 0, 1) := by decide +kernel
theorem dX5_firstFault_10 : decode cX5_firstFault 10 = .ok (.istore_n 2, 1) := by decide +kernel
theorem dX5_firstFault_11 : decode cX5_firstFault 11 = .ok (.iload_n 2, 1) := by decide +kernel
theorem dX5_firstFault_12 : decode cX5_firstFault 12 = .ok (.sipush 200, 3) := by decide +kernel
theorem dX5_firstFault_15 : decode cX5_firstFault 15 = .ok (.if_icmp .ge 35, 3) := by decide +kernel
theorem dX5_firstFault_18 : decode cX5_firstFault 18 = .ok (.aload_n 0, 1) := by decide +kernel
theorem dX5_firstFault_19 : decode cX5_firstFault 19 = .ok (.getfield 24, 3) := by decide +kernel
theorem dX5_firstFault_22 : decode cX5_firstFault 22 = .ok (.aload_n 0, 1) := by decide +kernel
theorem dX5_firstFault_23 : decode cX5_firstFault 23 = .ok (.getfield 15, 3) := by decide +kernel
theorem dX5_firstFault_26 : decode cX5_firstFault 26 = .ok (.if_icmp .ge 24, 3) := by decide +kernel
theorem dX5_firstFault_29 : decode cX5_firstFault 29 = .ok (.aload_n 0, 1) := by decide +kernel
theorem dX5_firstFault_30 : decode cX5_firstFault 30 = .ok (.getfield 24, 3) := by decide +kernel
theorem dX5_firstFault_33 : decode cX5_firstFault 33 = .ok (.istore_n 3, 1) := by decide +kernel
theorem dX5_firstFault_34 : decode cX5_firstFault 34 = .ok (.aload_n 0, 1) := by decide +kernel
theorem dX5_firstFault_35 : decode cX5_firstFault 35 = .ok (.aload_n 1, 1) := by decide +kernel
theorem dX5_firstFault_36 : decode cX5_firstFault 36 = .ok (.invokevirtual 27, 3) := by decide +kernel
theorem dX5_firstFault_39 : decode cX5_firstFault 39 = .ok (.ifCond .ne 5, 3) := by decide +kernel
theorem dX5_firstFault_42 : decode cX5_firstFault 42 = .ok (.iload_n 3, 1) := by decide +kernel
theorem dX5_firstFault_43 : decode cX5_firstFault 43 = .ok (.ireturn, 1) := by decide +kernel
theorem dX5_firstFault_44 : decode cX5_firstFault 44 = .ok (.iinc 2 1, 3) := by decide +kernel
theorem dX5_firstFault_47 : decode cX5_firstFault 47 = .ok (.goto (-36), 3) := by decide +kernel
theorem dX5_firstFault_50 : decode cX5_firstFault 50 = .ok (.bipush (-4), 2) := by decide +kernel
theorem dX5_firstFault_52 : decode cX5_firstFault 52 = .ok (.ireturn, 1) := by decide +kernel
theorem dX5_readItem_0 : decode cX5_readItem 0 = .ok (.aload_n 0, 1) := by decide +kernel
theorem dX5_readItem_1 : decode cX5_readItem 1 = .ok (.bipush 102, 2) := by decide +kernel
theorem dX5_readItem_3 : decode cX5_readItem 3 = .ok (.invokevirtual 31, 3) := by decide +kernel
theorem dX5_readItem_6 : decode cX5_readItem 6 = .ok (.ifCond .eq 9, 3) := by decide +kernel
theorem dX5_readItem_9 : decode cX5_readItem 9 = .ok (.aload_n 0, 1) := by decide +kernel
theorem dX5_readItem_10 : decode cX5_readItem 10 = .ok (.aload_n 1, 1) := by decide +kernel
theorem dX5_readItem_11 : decode cX5_readItem 11 = .ok (.invokevirtual 35, 3) := by decide +kernel
theorem dX5_readItem_14 : decode cX5_readItem 14 = .ok (.ireturn, 1) := by decide +kernel
theorem dX5_readItem_15 : decode cX5_readItem 15 = .ok (.aload_n 0, 1) := by decide +kernel
theorem dX5_readItem_16 : decode cX5_readItem 16 = .ok (.bipush 116, 2) := by decide +kernel
theorem dX5_readItem_18 : decode cX5_readItem 18 = .ok (.invokevirtual 31, 3) := by decide +kernel
theorem dX5_readItem_21 : decode cX5_readItem 21 = .ok (.ifCond .eq 15, 3) := by decide +kernel
theorem dX5_readItem_24 : decode cX5_readItem 24 = .ok (.aload_n 0, 1) := by decide +kernel
theorem dX5_readItem_25 : decode cX5_readItem 25 = .ok (.aload_n 1, 1) := by decide +kernel
theorem dX5_readItem_26 : decode cX5_readItem 26 = .ok (.invokevirtual 38, 3) := by decide +kernel
theorem dX5_readItem_29 : decode cX5_readItem 29 = .ok (.ifCond .eq 7, 3) := by decide +kernel
theorem dX5_readItem_32 : decode cX5_readItem 32 = .ok (.iconst 1, 1) := by decide +kernel
theorem dX5_readItem_33 : decode cX5_readItem 33 = .ok (.goto 4, 3) := by decide +kernel
theorem dX5_readItem_36 : decode cX5_readItem 36 = .ok (.iconst 0, 1) := by decide +kernel
theorem dX5_readItem_37 : decode cX5_readItem 37 = .ok (.ireturn, 1) := by decide +kernel
theorem dX5_readFile_0 : decode cX5_readFile 0 = .ok (.aload_n 0, 1) := by decide +kernel
theorem dX5_readFile_1 : decode cX5_readFile 1 = .ok (.bipush 44, 2) := by decide +kernel
theorem dX5_readFile_3 : decode cX5_readFile 3 = .ok (.invokevirtual 41, 3) := by decide +kernel
theorem dX5_readFile_6 : decode cX5_readFile 6 = .ok (.istore_n 2, 1) := by decide +kernel
theorem dX5_readFile_7 : decode cX5_readFile 7 = .ok (.aload_n 0, 1) := by decide +kernel
theorem dX5_readFile_8 : decode cX5_readFile 8 = .ok (.bipush 44, 2) := by decide +kernel
theorem dX5_readFile_10 : decode cX5_readFile 10 = .ok (.invokevirtual 41, 3) := by decide +kernel
theorem dX5_readFile_13 : decode cX5_readFile 13 = .ok (.istore_n 3, 1) := by decide +kernel
theorem dX5_readFile_14 : decode cX5_readFile 14 = .ok (.aload_n 0, 1) := by decide +kernel
theorem dX5_readFile_15 : decode cX5_readFile 15 = .ok (.bipush 59, 2) := by decide +kernel
theorem dX5_readFile_17 : decode cX5_readFile 17 = .ok (.invokevirtual 41, 3) := by decide +kernel
theorem dX5_readFile_20 : decode cX5_readFile 20 = .ok (.istore 4, 2) := by decide +kernel
theorem dX5_readFile_22 : decode cX5_readFile 22 = .ok (.iload_n 2, 1) := by decide +kernel
theorem dX5_readFile_23 : decode cX5_readFile 23 = .ok (.iconst 1, 1) := by decide +kernel
theorem dX5_readFile_24 : decode cX5_readFile 24 = .ok (.if_icmp .lt 19, 3) := by decide +kernel
theorem dX5_readFile_27 : decode cX5_readFile 27 = .ok (.iload_n 2, 1) := by decide +kernel
theorem dX5_readFile_28 : decode cX5_readFile 28 = .ok (.bipush 12, 2) := by decide +kernel
theorem dX5_readFile_30 : decode cX5_readFile 30 = .ok (.if_icmp .gt 13, 3) := by decide +kernel
theorem dX5_readFile_33 : decode cX5_readFile 33 = .ok (.iload_n 3, 1) := by decide +kernel
theorem dX5_readFile_34 : decode cX5_readFile 34 = .ok (.ifCond .lt 9, 3) := by decide +kernel
theorem dX5_readFile_37 : decode cX5_readFile 37 = .ok (.iload_n 3, 1) := by decide +kernel
theorem dX5_readFile_38 : decode cX5_readFile 38 = .ok (.bipush 6, 2) := by decide +kernel
theorem dX5_readFile_40 : decode cX5_readFile 40 = .ok (.if_icmp .le 5, 3) := by decide +kernel
theorem dX5_readFile_43 : decode cX5_readFile 43 = .ok (.iconst 0, 1) := by decide +kernel
theorem dX5_readFile_44 : decode cX5_readFile 44 = .ok (.ireturn, 1) := by decide +kernel
theorem dX5_readFile_45 : decode cX5_readFile 45 = .ok (.iload 4, 2) := by decide +kernel
theorem dX5_readFile_47 : decode cX5_readFile 47 = .ok (.iconst 1, 1) := by decide +kernel
theorem dX5_readFile_48 : decode cX5_readFile 48 = .ok (.if_icmp .lt 25, 3) := by decide +kernel
theorem dX5_readFile_51 : decode cX5_readFile 51 = .ok (.iload 4, 2) := by decide +kernel
theorem dX5_readFile_53 : decode cX5_readFile 53 = .ok (.bipush 9, 2) := by decide +kernel
theorem dX5_readFile_55 : decode cX5_readFile 55 = .ok (.if_icmp .gt 18, 3) := by decide +kernel
theorem dX5_readFile_58 : decode cX5_readFile 58 = .ok (.aload_n 1, 1) := by decide +kernel
theorem dX5_readFile_59 : decode cX5_readFile 59 = .ok (.iload_n 2, 1) := by decide +kernel
theorem dX5_readFile_60 : decode cX5_readFile 60 = .ok (.iload_n 3, 1) := by decide +kernel
theorem dX5_readFile_61 : decode cX5_readFile 61 = .ok (.iload 4, 2) := by decide +kernel
theorem dX5_readFile_63 : decode cX5_readFile 63 = .ok (.invokevirtual 45, 3) := by decide +kernel
theorem dX5_readFile_66 : decode cX5_readFile 66 = .ok (.ifCond .eq 7, 3) := by decide +kernel
theorem dX5_readFile_69 : decode cX5_readFile 69 = .ok (.iconst 1, 1) := by decide +kernel
theorem dX5_readFile_70 : decode cX5_readFile 70 = .ok (.goto 4, 3) := by decide +kernel
theorem dX5_readFile_73 : decode cX5_readFile 73 = .ok (.iconst 0, 1) := by decide +kernel
theorem dX5_readFile_74 : decode cX5_readFile 74 = .ok (.ireturn, 1) := by decide +kernel
theorem dX5_readTable_0 : decode cX5_readTable 0 = .ok (.aload_n 0, 1) := by decide +kernel
theorem dX5_readTable_1 : decode cX5_readTable 1 = .ok (.bipush 44, 2) := by decide +kernel
theorem dX5_readTable_3 : decode cX5_readTable 3 = .ok (.invokevirtual 41, 3) := by decide +kernel
theorem dX5_readTable_6 : decode cX5_readTable 6 = .ok (.istore_n 2, 1) := by decide +kernel
theorem dX5_readTable_7 : decode cX5_readTable 7 = .ok (.aload_n 0, 1) := by decide +kernel
theorem dX5_readTable_8 : decode cX5_readTable 8 = .ok (.bipush 59, 2) := by decide +kernel
theorem dX5_readTable_10 : decode cX5_readTable 10 = .ok (.invokevirtual 41, 3) := by decide +kernel
theorem dX5_readTable_13 : decode cX5_readTable 13 = .ok (.istore_n 3, 1) := by decide +kernel
theorem dX5_readTable_14 : decode cX5_readTable 14 = .ok (.iload_n 2, 1) := by decide +kernel
theorem dX5_readTable_15 : decode cX5_readTable 15 = .ok (.iconst 3, 1) := by decide +kernel
theorem dX5_readTable_16 : decode cX5_readTable 16 = .ok (.if_icmp .lt 14, 3) := by decide +kernel
theorem dX5_readTable_19 : decode cX5_readTable 19 = .ok (.iload_n 2, 1) := by decide +kernel
theorem dX5_readTable_20 : decode cX5_readTable 20 = .ok (.bipush 20, 2) := by decide +kernel
theorem dX5_readTable_22 : decode cX5_readTable 22 = .ok (.if_icmp .gt 8, 3) := by decide +kernel
theorem dX5_readTable_25 : decode cX5_readTable 25 = .ok (.iload_n 3, 1) := by decide +kernel
theorem dX5_readTable_26 : decode cX5_readTable 26 = .ok (.iconst 1, 1) := by decide +kernel
theorem dX5_readTable_27 : decode cX5_readTable 27 = .ok (.if_icmp .ge 5, 3) := by decide +kernel
theorem dX5_readTable_30 : decode cX5_readTable 30 = .ok (.iconst 0, 1) := by decide +kernel
theorem dX5_readTable_31 : decode cX5_readTable 31 = .ok (.ireturn, 1) := by decide +kernel
theorem dX5_readTable_32 : decode cX5_readTable 32 = .ok (.aload_n 1, 1) := by decide +kernel
theorem dX5_readTable_33 : decode cX5_readTable 33 = .ok (.iload_n 2, 1) := by decide +kernel
theorem dX5_readTable_34 : decode cX5_readTable 34 = .ok (.iload_n 3, 1) := by decide +kernel
theorem dX5_readTable_35 : decode cX5_readTable 35 = .ok (.invokevirtual 49, 3) := by decide +kernel
theorem dX5_readTable_38 : decode cX5_readTable 38 = .ok (.iconst 1, 1) := by decide +kernel
theorem dX5_readTable_39 : decode cX5_readTable 39 = .ok (.ireturn, 1) := by decide +kernel
theorem dX5_readNumber_0 : decode cX5_readNumber 0 = .ok (.aload_n 0, 1) := by decide +kernel
theorem dX5_readNumber_1 : decode cX5_readNumber 1 = .ok (.invokevirtual 53, 3) := by decide +kernel
theorem dX5_readNumber_4 : decode cX5_readNumber 4 = .ok (.istore_n 2, 1) := by decide +kernel
theorem dX5_readNumber_5 : decode cX5_readNumber 5 = .ok (.iload_n 2, 1) := by decide +kernel
theorem dX5_readNumber_6 : decode cX5_readNumber 6 = .ok (.iconst (-1), 1) := by decide +kernel
theorem dX5_readNumber_7 : decode cX5_readNumber 7 = .ok (.if_icmp .ne 5, 3) := by decide +kernel
theorem dX5_readNumber_10 : decode cX5_readNumber 10 = .ok (.iconst (-1), 1) := by decide +kernel
theorem dX5_readNumber_11 : decode cX5_readNumber 11 = .ok (.ireturn, 1) := by decide +kernel
theorem dX5_readNumber_12 : decode cX5_readNumber 12 = .ok (.aload_n 0, 1) := by decide +kernel
theorem dX5_readNumber_13 : decode cX5_readNumber 13 = .ok (.invokevirtual 53, 3) := by decide +kernel
theorem dX5_readNumber_16 : decode cX5_readNumber 16 = .ok (.istore_n 3, 1) := by decide +kernel
theorem dX5_readNumber_17 : decode cX5_readNumber 17 = .ok (.iload_n 3, 1) := by decide +kernel
theorem dX5_readNumber_18 : decode cX5_readNumber 18 = .ok (.iconst (-1), 1) := by decide +kernel
theorem dX5_readNumber_19 : decode cX5_readNumber 19 = .ok (.if_icmp .eq 10, 3) := by decide +kernel
theorem dX5_readNumber_22 : decode cX5_readNumber 22 = .ok (.iload_n 2, 1) := by decide +kernel
theorem dX5_readNumber_23 : decode cX5_readNumber 23 = .ok (.bipush 10, 2) := by decide +kernel
theorem dX5_readNumber_25 : decode cX5_readNumber 25 = .ok (.imul, 1) := by decide +kernel
theorem dX5_readNumber_26 : decode cX5_readNumber 26 = .ok (.iload_n 3, 1) := by decide +kernel
theorem dX5_readNumber_27 : decode cX5_readNumber 27 = .ok (.iadd, 1) := by decide +kernel
theorem dX5_readNumber_28 : decode cX5_readNumber 28 = .ok (.istore_n 2, 1) := by decide +kernel
theorem dX5_readNumber_29 : decode cX5_readNumber 29 = .ok (.aload_n 0, 1) := by decide +kernel
theorem dX5_readNumber_30 : decode cX5_readNumber 30 = .ok (.iload_n 1, 1) := by decide +kernel
theorem dX5_readNumber_31 : decode cX5_readNumber 31 = .ok (.invokevirtual 31, 3) := by decide +kernel
theorem dX5_readNumber_34 : decode cX5_readNumber 34 = .ok (.ifCond .eq 7, 3) := by decide +kernel
theorem dX5_readNumber_37 : decode cX5_readNumber 37 = .ok (.iload_n 2, 1) := by decide +kernel
theorem dX5_readNumber_38 : decode cX5_readNumber 38 = .ok (.goto 4, 3) := by decide +kernel
theorem dX5_readNumber_41 : decode cX5_readNumber 41 = .ok (.iconst (-1), 1) := by decide +kernel
theorem dX5_readNumber_42 : decode cX5_readNumber 42 = .ok (.ireturn, 1) := by decide +kernel
theorem dX5_readFigure_0 : decode cX5_readFigure 0 = .ok (.aload_n 0, 1) := by decide +kernel
theorem dX5_readFigure_1 : decode cX5_readFigure 1 = .ok (.getfield 24, 3) := by decide +kernel
theorem dX5_readFigure_4 : decode cX5_readFigure 4 = .ok (.ifCond .lt 42, 3) := by decide +kernel
theorem dX5_readFigure_7 : decode cX5_readFigure 7 = .ok (.aload_n 0, 1) := by decide +kernel
theorem dX5_readFigure_8 : decode cX5_readFigure 8 = .ok (.getfield 24, 3) := by decide +kernel
theorem dX5_readFigure_11 : decode cX5_readFigure 11 = .ok (.aload_n 0, 1) := by decide +kernel
theorem dX5_readFigure_12 : decode cX5_readFigure 12 = .ok (.getfield 15, 3) := by decide +kernel
theorem dX5_readFigure_15 : decode cX5_readFigure 15 = .ok (.if_icmp .ge 31, 3) := by decide +kernel
theorem dX5_readFigure_18 : decode cX5_readFigure 18 = .ok (.aload_n 0, 1) := by decide +kernel
theorem dX5_readFigure_19 : decode cX5_readFigure 19 = .ok (.getfield 9, 3) := by decide +kernel
theorem dX5_readFigure_22 : decode cX5_readFigure 22 = .ok (.aload_n 0, 1) := by decide +kernel
theorem dX5_readFigure_23 : decode cX5_readFigure 23 = .ok (.getfield 24, 3) := by decide +kernel
theorem dX5_readFigure_26 : decode cX5_readFigure 26 = .ok (.iaload, 1) := by decide +kernel
theorem dX5_readFigure_27 : decode cX5_readFigure 27 = .ok (.bipush 48, 2) := by decide +kernel
theorem dX5_readFigure_29 : decode cX5_readFigure 29 = .ok (.if_icmp .lt 17, 3) := by decide +kernel
theorem dX5_readFigure_32 : decode cX5_readFigure 32 = .ok (.aload_n 0, 1) := by decide +kernel
theorem dX5_readFigure_33 : decode cX5_readFigure 33 = .ok (.getfield 9, 3) := by decide +kernel
theorem dX5_readFigure_36 : decode cX5_readFigure 36 = .ok (.aload_n 0, 1) := by decide +kernel
theorem dX5_readFigure_37 : decode cX5_readFigure 37 = .ok (.getfield 24, 3) := by decide +kernel
theorem dX5_readFigure_40 : decode cX5_readFigure 40 = .ok (.iaload, 1) := by decide +kernel
theorem dX5_readFigure_41 : decode cX5_readFigure 41 = .ok (.bipush 57, 2) := by decide +kernel
theorem dX5_readFigure_43 : decode cX5_readFigure 43 = .ok (.if_icmp .le 5, 3) := by decide +kernel
theorem dX5_readFigure_46 : decode cX5_readFigure 46 = .ok (.iconst (-1), 1) := by decide +kernel
theorem dX5_readFigure_47 : decode cX5_readFigure 47 = .ok (.ireturn, 1) := by decide +kernel
theorem dX5_readFigure_48 : decode cX5_readFigure 48 = .ok (.aload_n 0, 1) := by decide +kernel
theorem dX5_readFigure_49 : decode cX5_readFigure 49 = .ok (.getfield 9, 3) := by decide +kernel
theorem dX5_readFigure_52 : decode cX5_readFigure 52 = .ok (.aload_n 0, 1) := by decide +kernel
theorem dX5_readFigure_53 : decode cX5_readFigure 53 = .ok (.getfield 24, 3) := by decide +kernel
theorem dX5_readFigure_56 : decode cX5_readFigure 56 = .ok (.iaload, 1) := by decide +kernel
theorem dX5_readFigure_57 : decode cX5_readFigure 57 = .ok (.bipush 48, 2) := by decide +kernel
theorem dX5_readFigure_59 : decode cX5_readFigure 59 = .ok (.isub, 1) := by decide +kernel
theorem dX5_readFigure_60 : decode cX5_readFigure 60 = .ok (.istore_n 1, 1) := by decide +kernel
theorem dX5_readFigure_61 : decode cX5_readFigure 61 = .ok (.aload_n 0, 1) := by decide +kernel
theorem dX5_readFigure_62 : decode cX5_readFigure 62 = .ok (.dup, 1) := by decide +kernel
theorem dX5_readFigure_63 : decode cX5_readFigure 63 = .ok (.getfield 24, 3) := by decide +kernel
theorem dX5_readFigure_66 : decode cX5_readFigure 66 = .ok (.iconst 1, 1) := by decide +kernel
theorem dX5_readFigure_67 : decode cX5_readFigure 67 = .ok (.iadd, 1) := by decide +kernel
theorem dX5_readFigure_68 : decode cX5_readFigure 68 = .ok (.putfield 24, 3) := by decide +kernel
theorem dX5_readFigure_71 : decode cX5_readFigure 71 = .ok (.iload_n 1, 1) := by decide +kernel
theorem dX5_readFigure_72 : decode cX5_readFigure 72 = .ok (.ireturn, 1) := by decide +kernel
theorem dX5_takes_0 : decode cX5_takes 0 = .ok (.aload_n 0, 1) := by decide +kernel
theorem dX5_takes_1 : decode cX5_takes 1 = .ok (.getfield 24, 3) := by decide +kernel
theorem dX5_takes_4 : decode cX5_takes 4 = .ok (.ifCond .lt 27, 3) := by decide +kernel
theorem dX5_takes_7 : decode cX5_takes 7 = .ok (.aload_n 0, 1) := by decide +kernel
theorem dX5_takes_8 : decode cX5_takes 8 = .ok (.getfield 24, 3) := by decide +kernel
theorem dX5_takes_11 : decode cX5_takes 11 = .ok (.aload_n 0, 1) := by decide +kernel
theorem dX5_takes_12 : decode cX5_takes 12 = .ok (.getfield 15, 3) := by decide +kernel
theorem dX5_takes_15 : decode cX5_takes 15 = .ok (.if_icmp .ge 16, 3) := by decide +kernel
theorem dX5_takes_18 : decode cX5_takes 18 = .ok (.aload_n 0, 1) := by decide +kernel
theorem dX5_takes_19 : decode cX5_takes 19 = .ok (.getfield 9, 3) := by decide +kernel
theorem dX5_takes_22 : decode cX5_takes 22 = .ok (.aload_n 0, 1) := by decide +kernel
theorem dX5_takes_23 : decode cX5_takes 23 = .ok (.getfield 24, 3) := by decide +kernel
theorem dX5_takes_26 : decode cX5_takes 26 = .ok (.iaload, 1) := by decide +kernel
theorem dX5_takes_27 : decode cX5_takes 27 = .ok (.iload_n 1, 1) := by decide +kernel
theorem dX5_takes_28 : decode cX5_takes 28 = .ok (.if_icmp .eq 5, 3) := by decide +kernel
theorem dX5_takes_31 : decode cX5_takes 31 = .ok (.iconst 0, 1) := by decide +kernel
theorem dX5_takes_32 : decode cX5_takes 32 = .ok (.ireturn, 1) := by decide +kernel
theorem dX5_takes_33 : decode cX5_takes 33 = .ok (.aload_n 0, 1) := by decide +kernel
theorem dX5_takes_34 : decode cX5_takes 34 = .ok (.dup, 1) := by decide +kernel
theorem dX5_takes_35 : decode cX5_takes 35 = .ok (.getfield 24, 3) := by decide +kernel
theorem dX5_takes_38 : decode cX5_takes 38 = .ok (.iconst 1, 1) := by decide +kernel
theorem dX5_takes_39 : decode cX5_takes 39 = .ok (.iadd, 1) := by decide +kernel
theorem dX5_takes_40 : decode cX5_takes 40 = .ok (.putfield 24, 3) := by decide +kernel
theorem dX5_takes_43 : decode cX5_takes 43 = .ok (.iconst 1, 1) := by decide +kernel
theorem dX5_takes_44 : decode cX5_takes 44 = .ok (.ireturn, 1) := by decide +kernel
theorem dX6_init_0 : decode cX6_init 0 = .ok (.aload_n 0, 1) := by decide +kernel
theorem dX6_init_1 : decode cX6_init 1 = .ok (.invokespecial 3, 3) := by decide +kernel
theorem dX6_init_4 : decode cX6_init 4 = .ok (.aload_n 0, 1) := by decide +kernel
theorem dX6_init_5 : decode cX6_init 5 = .ok (.bipush 6, 2) := by decide +kernel
theorem dX6_init_7 : decode cX6_init 7 = .ok (.newarray .int, 2) := by decide +kernel
theorem dX6_init_9 : decode cX6_init 9 = .ok (.putfield 9, 3) := by decide +kernel
theorem dX6_init_12 : decode cX6_init 12 = .ok (.aload_n 0, 1) := by decide +kernel
theorem dX6_init_13 : decode cX6_init 13 = .ok (.bipush 6, 2) := by decide +kernel
theorem dX6_init_15 : decode cX6_init 15 = .ok (.newarray .int, 2) := by decide +kernel
theorem dX6_init_17 : decode cX6_init 17 = .ok (.putfield 15, 3) := by decide +kernel
theorem dX6_init_20 : decode cX6_init 20 = .ok (.aload_n 0, 1) := by decide +kernel
theorem dX6_init_21 : decode cX6_init 21 = .ok (.bipush 6, 2) := by decide +kernel
theorem dX6_init_23 : decode cX6_init 23 = .ok (.newarray .int, 2) := by decide +kernel
theorem dX6_init_25 : decode cX6_init 25 = .ok (.putfield 18, 3) := by decide +kernel
theorem dX6_init_28 : decode cX6_init 28 = .ok (.aload_n 0, 1) := by decide +kernel
theorem dX6_init_29 : decode cX6_init 29 = .ok (.bipush 6, 2) := by decide +kernel
theorem dX6_init_31 : decode cX6_init 31 = .ok (.newarray .int, 2) := by decide +kernel
theorem dX6_init_33 : decode cX6_init 33 = .ok (.putfield 21, 3) := by decide +kernel
theorem dX6_init_36 : decode cX6_init 36 = .ok (.aload_n 0, 1) := by decide +kernel
theorem dX6_init_37 : decode cX6_init 37 = .ok (.bipush 6, 2) := by decide +kernel
theorem dX6_init_39 : decode cX6_init 39 = .ok (.newarray .int, 2) := by decide +kernel
theorem dX6_init_41 : decode cX6_init 41 = .ok (.putfield 24, 3) := by decide +kernel
theorem dX6_init_44 : decode cX6_init 44 = .ok (.aload_n 0, 1) := by decide +kernel
theorem dX6_init_45 : decode cX6_init 45 = .ok (.bipush 10, 2) := by decide +kernel
theorem dX6_init_47 : decode cX6_init 47 = .ok (.newarray .int, 2) := by decide +kernel
theorem dX6_init_49 : decode cX6_init 49 = .ok (.putfield 27, 3) := by decide +kernel
theorem dX6_init_52 : decode cX6_init 52 = .ok (.aload_n 0, 1) := by decide +kernel
theorem dX6_init_53 : decode cX6_init 53 = .ok (.bipush 10, 2) := by decide +kernel
theorem dX6_init_55 : decode cX6_init 55 = .ok (.newarray .int, 2) := by decide +kernel
theorem dX6_init_57 : decode cX6_init 57 = .ok (.putfield 30, 3) := by decide +kernel
theorem dX6_init_60 : decode cX6_init 60 = .ok (.aload_n 0, 1) := by decide +kernel
theorem dX6_init_61 : decode cX6_init 61 = .ok (.bipush 10, 2) := by decide +kernel
theorem dX6_init_63 : decode cX6_init 63 = .ok (.newarray .int, 2) := by decide +kernel
theorem dX6_init_65 : decode cX6_init 65 = .ok (.putfield 33, 3) := by decide +kernel
theorem dX6_init_68 : decode cX6_init 68 = .ok (.aload_n 0, 1) := by decide +kernel
theorem dX6_init_69 : decode cX6_init 69 = .ok (.aload_n 1, 1) := by decide +kernel
theorem dX6_init_70 : decode cX6_init 70 = .ok (.putfield 36, 3) := by decide +kernel
theorem dX6_init_73 : decode cX6_init 73 = .ok (.return_, 1) := by decide +kernel
theorem dX6_begin_0 : decode cX6_begin 0 = .ok (.aload_n 0, 1) := by decide +kernel
theorem dX6_begin_1 : decode cX6_begin 1 = .ok (.getfield 36, 3) := by decide +kernel
theorem dX6_begin_4 : decode cX6_begin 4 = .ok (.getfield 40, 3) := by decide +kernel
theorem dX6_begin_7 : decode cX6_begin 7 = .ok (.iconst 0, 1) := by decide +kernel
theorem dX6_begin_8 : decode cX6_begin 8 = .ok (.aload_n 0, 1) := by decide +kernel
theorem dX6_begin_9 : decode cX6_begin 9 = .ok (.getfield 9, 3) := by decide +kernel
theorem dX6_begin_12 : decode cX6_begin 12 = .ok (.iconst 0, 1) := by decide +kernel
theorem dX6_begin_13 : decode cX6_begin 13 = .ok (.bipush 6, 2) := by decide +kernel
theorem dX6_begin_15 : decode cX6_begin 15 = .ok (.invokestatic 45, 3) := by decide +kernel
theorem dX6_begin_18 : decode cX6_begin 18 = .ok (.iconst 0, 1) := by decide +kernel
theorem dX6_begin_19 : decode cX6_begin 19 = .ok (.istore_n 1, 1) := by decide +kernel
theorem dX6_begin_20 : decode cX6_begin 20 = .ok (.iload_n 1, 1) := by decide +kernel
theorem dX6_begin_21 : decode cX6_begin 21 = .ok (.bipush 6, 2) := by decide +kernel
theorem dX6_begin_23 : decode cX6_begin 23 = .ok (.if_icmp .ge 37, 3) := by decide +kernel
theorem dX6_begin_26 : decode cX6_begin 26 = .ok (.aload_n 0, 1) := by decide +kernel
theorem dX6_begin_27 : decode cX6_begin 27 = .ok (.getfield 15, 3) := by decide +kernel
theorem dX6_begin_30 : decode cX6_begin 30 = .ok (.iload_n 1, 1) := by decide +kernel
theorem dX6_begin_31 : decode cX6_begin 31 = .ok (.iconst 0, 1) := by decide +kernel
theorem dX6_begin_32 : decode cX6_begin 32 = .ok (.iastore, 1) := by decide +kernel
theorem dX6_begin_33 : decode cX6_begin 33 = .ok (.aload_n 0, 1) := by decide +kernel
theorem dX6_begin_34 : decode cX6_begin 34 = .ok (.getfield 18, 3) := by decide +kernel
theorem dX6_begin_37 : decode cX6_begin 37 = .ok (.iload_n 1, 1) := by decide +kernel
theorem dX6_begin_38 : decode cX6_begin 38 = .ok (.iconst 0, 1) := by decide +kernel
theorem dX6_begin_39 : decode cX6_begin 39 = .ok (.iastore, 1) := by decide +kernel
theorem dX6_begin_40 : decode cX6_begin 40 = .ok (.aload_n 0, 1) := by decide +kernel
theorem dX6_begin_41 : decode cX6_begin 41 = .ok (.getfield 21, 3) := by decide +kernel
theorem dX6_begin_44 : decode cX6_begin 44 = .ok (.iload_n 1, 1) := by decide +kernel
theorem dX6_begin_45 : decode cX6_begin 45 = .ok (.iconst 0, 1) := by decide +kernel
theorem dX6_begin_46 : decode cX6_begin 46 = .ok (.iastore, 1) := by decide +kernel
theorem dX6_begin_47 : decode cX6_begin 47 = .ok (.aload_n 0, 1) := by decide +kernel
theorem dX6_begin_48 : decode cX6_begin 48 = .ok (.getfield 24, 3) := by decide +kernel
theorem dX6_begin_51 : decode cX6_begin 51 = .ok (.iload_n 1, 1) := by decide +kernel
theorem dX6_begin_52 : decode cX6_begin 52 = .ok (.iconst 0, 1) := by decide +kernel
theorem dX6_begin_53 : decode cX6_begin 53 = .ok (.iastore, 1) := by decide +kernel
theorem dX6_begin_54 : decode cX6_begin 54 = .ok (.iinc 1 1, 3) := by decide +kernel
theorem dX6_begin_57 : decode cX6_begin 57 = .ok (.goto (-37), 3) := by decide +kernel
theorem dX6_begin_60 : decode cX6_begin 60 = .ok (.aload_n 0, 1) := by decide +kernel
theorem dX6_begin_61 : decode cX6_begin 61 = .ok (.iconst 0, 1) := by decide +kernel
theorem dX6_begin_62 : decode cX6_begin 62 = .ok (.putfield 51, 3) := by decide +kernel
theorem dX6_begin_65 : decode cX6_begin 65 = .ok (.aload_n 0, 1) := by decide +kernel
theorem dX6_begin_66 : decode cX6_begin 66 = .ok (.iconst 0, 1) := by decide +kernel
theorem dX6_begin_67 : decode cX6_begin 67 = .ok (.putfield 55, 3) := by decide +kernel
theorem dX6_begin_70 : decode cX6_begin 70 = .ok (.aload_n 0, 1) := by decide +kernel
theorem dX6_begin_71 : decode cX6_begin 71 = .ok (.iconst 0, 1) := by decide +kernel
theorem dX6_begin_72 : decode cX6_begin 72 = .ok (.putfield 58, 3) := by decide +kernel
theorem dX6_begin_75 : decode cX6_begin 75 = .ok (.return_, 1) := by decide +kernel
theorem dX6_become_0 : decode cX6_become 0 = .ok (.aload_n 1, 1) := by decide +kernel
theorem dX6_become_1 : decode cX6_become 1 = .ok (.getfield 9, 3) := by decide +kernel
theorem dX6_become_4 : decode cX6_become 4 = .ok (.iconst 0, 1) := by decide +kernel
theorem dX6_become_5 : decode cX6_become 5 = .ok (.aload_n 0, 1) := by decide +kernel
theorem dX6_become_6 : decode cX6_become 6 = .ok (.getfield 9, 3) := by decide +kernel
theorem dX6_become_9 : decode cX6_become 9 = .ok (.iconst 0, 1) := by decide +kernel
theorem dX6_become_10 : decode cX6_become 10 = .ok (.bipush 6, 2) := by decide +kernel
theorem dX6_become_12 : decode cX6_become 12 = .ok (.invokestatic 45, 3) := by decide +kernel
theorem dX6_become_15 : decode cX6_become 15 = .ok (.aload_n 1, 1) := by decide +kernel
theorem dX6_become_16 : decode cX6_become 16 = .ok (.getfield 15, 3) := by decide +kernel
theorem dX6_become_19 : decode cX6_become 19 = .ok (.iconst 0, 1) := by decide +kernel
theorem dX6_become_20 : decode cX6_become 20 = .ok (.aload_n 0, 1) := by decide +kernel
theorem dX6_become_21 : decode cX6_become 21 = .ok (.getfield 15, 3) := by decide +kernel
theorem dX6_become_24 : decode cX6_become 24 = .ok (.iconst 0, 1) := by decide +kernel
theorem dX6_become_25 : decode cX6_become 25 = .ok (.bipush 6, 2) := by decide +kernel
theorem dX6_become_27 : decode cX6_become 27 = .ok (.invokestatic 45, 3) := by decide +kernel
theorem dX6_become_30 : decode cX6_become 30 = .ok (.aload_n 1, 1) := by decide +kernel
theorem dX6_become_31 : decode cX6_become 31 = .ok (.getfield 18, 3) := by decide +kernel
theorem dX6_become_34 : decode cX6_become 34 = .ok (.iconst 0, 1) := by decide +kernel
theorem dX6_become_35 : decode cX6_become 35 = .ok (.aload_n 0, 1) := by decide +kernel
theorem dX6_become_36 : decode cX6_become 36 = .ok (.getfield 18, 3) := by decide +kernel
theorem dX6_become_39 : decode cX6_become 39 = .ok (.iconst 0, 1) := by decide +kernel
theorem dX6_become_40 : decode cX6_become 40 = .ok (.bipush 6, 2) := by decide +kernel
theorem dX6_become_42 : decode cX6_become 42 = .ok (.invokestatic 45, 3) := by decide +kernel
theorem dX6_become_45 : decode cX6_become 45 = .ok (.aload_n 1, 1) := by decide +kernel
theorem dX6_become_46 : decode cX6_become 46 = .ok (.getfield 21, 3) := by decide +kernel
theorem dX6_become_49 : decode cX6_become 49 = .ok (.iconst 0, 1) := by decide +kernel
theorem dX6_become_50 : decode cX6_become 50 = .ok (.aload_n 0, 1) := by decide +kernel
theorem dX6_become_51 : decode cX6_become 51 = .ok (.getfield 21, 3) := by decide +kernel
theorem dX6_become_54 : decode cX6_become 54 = .ok (.iconst 0, 1) := by decide +kernel
theorem dX6_become_55 : decode cX6_become 55 = .ok (.bipush 6, 2) := by decide +kernel
theorem dX6_become_57 : decode cX6_become 57 = .ok (.invokestatic 45, 3) := by decide +kernel
theorem dX6_become_60 : decode cX6_become 60 = .ok (.aload_n 1, 1) := by decide +kernel
theorem dX6_become_61 : decode cX6_become 61 = .ok (.getfield 24, 3) := by decide +kernel
theorem dX6_become_64 : decode cX6_become 64 = .ok (.iconst 0, 1) := by decide +kernel
theorem dX6_become_65 : decode cX6_become 65 = .ok (.aload_n 0, 1) := by decide +kernel
theorem dX6_become_66 : decode cX6_become 66 = .ok (.getfield 24, 3) := by decide +kernel
theorem dX6_become_69 : decode cX6_become 69 = .ok (.iconst 0, 1) := by decide +kernel
theorem dX6_become_70 : decode cX6_become 70 = .ok (.bipush 6, 2) := by decide +kernel
theorem dX6_become_72 : decode cX6_become 72 = .ok (.invokestatic 45, 3) := by decide +kernel
theorem dX6_become_75 : decode cX6_become 75 = .ok (.aload_n 1, 1) := by decide +kernel
theorem dX6_become_76 : decode cX6_become 76 = .ok (.getfield 27, 3) := by decide +kernel
theorem dX6_become_79 : decode cX6_become 79 = .ok (.iconst 0, 1) := by decide +kernel
theorem dX6_become_80 : decode cX6_become 80 = .ok (.aload_n 0, 1) := by decide +kernel
theorem dX6_become_81 : decode cX6_become 81 = .ok (.getfield 27, 3) := by decide +kernel
theorem dX6_become_84 : decode cX6_become 84 = .ok (.iconst 0, 1) := by decide +kernel
theorem dX6_become_85 : decode cX6_become 85 = .ok (.bipush 10, 2) := by decide +kernel
theorem dX6_become_87 : decode cX6_become 87 = .ok (.invokestatic 45, 3) := by decide +kernel
theorem dX6_become_90 : decode cX6_become 90 = .ok (.aload_n 1, 1) := by decide +kernel
theorem dX6_become_91 : decode cX6_become 91 = .ok (.getfield 30, 3) := by decide +kernel
theorem dX6_become_94 : decode cX6_become 94 = .ok (.iconst 0, 1) := by decide +kernel
theorem dX6_become_95 : decode cX6_become 95 = .ok (.aload_n 0, 1) := by decide +kernel
theorem dX6_become_96 : decode cX6_become 96 = .ok (.getfield 30, 3) := by decide +kernel
theorem dX6_become_99 : decode cX6_become 99 = .ok (.iconst 0, 1) := by decide +kernel
theorem dX6_become_100 : decode cX6_become 100 = .ok (.bipush 10, 2) := by decide +kernel
theorem dX6_become_102 : decode cX6_become 102 = .ok (.invokestatic 45, 3) := by decide +kernel
theorem dX6_become_105 : decode cX6_become 105 = .ok (.aload_n 1, 1) := by decide +kernel
theorem dX6_become_106 : decode cX6_become 106 = .ok (.getfield 33, 3) := by decide +kernel
theorem dX6_become_109 : decode cX6_become 109 = .ok (.iconst 0, 1) := by decide +kernel
theorem dX6_become_110 : decode cX6_become 110 = .ok (.aload_n 0, 1) := by decide +kernel
theorem dX6_become_111 : decode cX6_become 111 = .ok (.getfield 33, 3) := by decide +kernel
theorem dX6_become_114 : decode cX6_become 114 = .ok (.iconst 0, 1) := by decide +kernel
theorem dX6_become_115 : decode cX6_become 115 = .ok (.bipush 10, 2) := by decide +kernel
theorem dX6_become_117 : decode cX6_become 117 = .ok (.invokestatic 45, 3) := by decide +kernel
theorem dX6_become_120 : decode cX6_become 120 = .ok (.aload_n 0, 1) := by decide +kernel
theorem dX6_become_121 : decode cX6_become 121 = .ok (.aload_n 1, 1) := by decide +kernel
theorem dX6_become_122 : decode cX6_become 122 = .ok (.getfield 51, 3) := by decide +kernel
theorem dX6_become_125 : decode cX6_become 125 = .ok (.putfield 51, 3) := by decide +kernel
theorem dX6_become_128 : decode cX6_become 128 = .ok (.aload_n 0, 1) := by decide +kernel
theorem dX6_become_129 : decode cX6_become 129 = .ok (.aload_n 1, 1) := by decide +kernel
theorem dX6_become_130 : decode cX6_become 130 = .ok (.getfield 55, 3) := by decide +kernel
theorem dX6_become_133 : decode cX6_become 133 = .ok (.putfield 55, 3) := by decide +kernel
theorem dX6_become_136 : decode cX6_become 136 = .ok (.aload_n 0, 1) := by decide +kernel
theorem dX6_become_137 : decode cX6_become 137 = .ok (.aload_n 1, 1) := by decide +kernel
theorem dX6_become_138 : decode cX6_become 138 = .ok (.getfield 58, 3) := by decide +kernel
theorem dX6_become_141 : decode cX6_become 141 = .ok (.putfield 58, 3) := by decide +kernel
theorem dX6_become_144 : decode cX6_become 144 = .ok (.return_, 1) := by decide +kernel
theorem dX6_step_0 : decode cX6_step 0 = .ok (.aload_n 0, 1) := by decide +kernel
theorem dX6_step_1 : decode cX6_step 1 = .ok (.getfield 36, 3) := by decide +kernel
theorem dX6_step_4 : decode cX6_step 4 = .ok (.aload_n 0, 1) := by decide +kernel
theorem dX6_step_5 : decode cX6_step 5 = .ok (.getfield 51, 3) := by decide +kernel
theorem dX6_step_8 : decode cX6_step 8 = .ok (.invokevirtual 61, 3) := by decide +kernel
theorem dX6_step_11 : decode cX6_step 11 = .ok (.ifCond .eq 26, 3) := by decide +kernel
theorem dX6_step_14 : decode cX6_step 14 = .ok (.aload_n 0, 1) := by decide +kernel
theorem dX6_step_15 : decode cX6_step 15 = .ok (.bipush (-4), 2) := by decide +kernel
theorem dX6_step_17 : decode cX6_step 17 = .ok (.bipush (-4), 2) := by decide +kernel
theorem dX6_step_19 : decode cX6_step 19 = .ok (.bipush (-4), 2) := by decide +kernel
theorem dX6_step_21 : decode cX6_step 21 = .ok (.invokevirtual 65, 3) := by decide +kernel
theorem dX6_step_24 : decode cX6_step 24 = .ok (.aload_n 0, 1) := by decide +kernel
theorem dX6_step_25 : decode cX6_step 25 = .ok (.dup, 1) := by decide +kernel
theorem dX6_step_26 : decode cX6_step 26 = .ok (.getfield 55, 3) := by decide +kernel
theorem dX6_step_29 : decode cX6_step 29 = .ok (.iconst 1, 1) := by decide +kernel
theorem dX6_step_30 : decode cX6_step 30 = .ok (.iadd, 1) := by decide +kernel
theorem dX6_step_31 : decode cX6_step 31 = .ok (.putfield 55, 3) := by decide +kernel
theorem dX6_step_34 : decode cX6_step 34 = .ok (.goto 11, 3) := by decide +kernel
theorem dX6_step_37 : decode cX6_step 37 = .ok (.aload_n 0, 1) := by decide +kernel
theorem dX6_step_38 : decode cX6_step 38 = .ok (.aload_n 0, 1) := by decide +kernel
theorem dX6_step_39 : decode cX6_step 39 = .ok (.invokevirtual 69, 3) := by decide +kernel
theorem dX6_step_42 : decode cX6_step 42 = .ok (.invokevirtual 73, 3) := by decide +kernel
theorem dX6_step_45 : decode cX6_step 45 = .ok (.aload_n 0, 1) := by decide +kernel
theorem dX6_step_46 : decode cX6_step 46 = .ok (.dup, 1) := by decide +kernel
theorem dX6_step_47 : decode cX6_step 47 = .ok (.getfield 51, 3) := by decide +kernel
theorem dX6_step_50 : decode cX6_step 50 = .ok (.iconst 1, 1) := by decide +kernel
theorem dX6_step_51 : decode cX6_step 51 = .ok (.iadd, 1) := by decide +kernel
theorem dX6_step_52 : decode cX6_step 52 = .ok (.putfield 51, 3) := by decide +kernel
theorem dX6_step_55 : decode cX6_step 55 = .ok (.return_, 1) := by decide +kernel
theorem dX6_chooseFile_0 : decode cX6_chooseFile 0 = .ok (.aload_n 0, 1) := by decide +kernel
theorem dX6_chooseFile_1 : decode cX6_chooseFile 1 = .ok (.invokevirtual 77, 3) := by decide +kernel
theorem dX6_chooseFile_4 : decode cX6_chooseFile 4 = .ok (.istore_n 1, 1) := by decide +kernel
theorem dX6_chooseFile_5 : decode cX6_chooseFile 5 = .ok (.iconst 0, 1) := by decide +kernel
theorem dX6_chooseFile_6 : decode cX6_chooseFile 6 = .ok (.istore_n 2, 1) := by decide +kernel
theorem dX6_chooseFile_7 : decode cX6_chooseFile 7 = .ok (.iconst 0, 1) := by decide +kernel
theorem dX6_chooseFile_8 : decode cX6_chooseFile 8 = .ok (.istore_n 3, 1) := by decide +kernel
theorem dX6_chooseFile_9 : decode cX6_chooseFile 9 = .ok (.iload_n 3, 1) := by decide +kernel
theorem dX6_chooseFile_10 : decode cX6_chooseFile 10 = .ok (.aload_n 0, 1) := by decide +kernel
theorem dX6_chooseFile_11 : decode cX6_chooseFile 11 = .ok (.getfield 36, 3) := by decide +kernel
theorem dX6_chooseFile_14 : decode cX6_chooseFile 14 = .ok (.getfield 80, 3) := by decide +kernel
theorem dX6_chooseFile_17 : decode cX6_chooseFile 17 = .ok (.if_icmp .ge 41, 3) := by decide +kernel
theorem dX6_chooseFile_20 : decode cX6_chooseFile 20 = .ok (.aload_n 0, 1) := by decide +kernel
theorem dX6_chooseFile_21 : decode cX6_chooseFile 21 = .ok (.getfield 21, 3) := by decide +kernel
theorem dX6_chooseFile_24 : decode cX6_chooseFile 24 = .ok (.iload_n 3, 1) := by decide +kernel
theorem dX6_chooseFile_25 : decode cX6_chooseFile 25 = .ok (.dup2, 1) := by decide +kernel
theorem dX6_chooseFile_26 : decode cX6_chooseFile 26 = .ok (.iaload, 1) := by decide +kernel
theorem dX6_chooseFile_27 : decode cX6_chooseFile 27 = .ok (.aload_n 0, 1) := by decide +kernel
theorem dX6_chooseFile_28 : decode cX6_chooseFile 28 = .ok (.getfield 9, 3) := by decide +kernel
theorem dX6_chooseFile_31 : decode cX6_chooseFile 31 = .ok (.iload_n 3, 1) := by decide +kernel
theorem dX6_chooseFile_32 : decode cX6_chooseFile 32 = .ok (.iaload, 1) := by decide +kernel
theorem dX6_chooseFile_33 : decode cX6_chooseFile 33 = .ok (.iadd, 1) := by decide +kernel
theorem dX6_chooseFile_34 : decode cX6_chooseFile 34 = .ok (.iastore, 1) := by decide +kernel
theorem dX6_chooseFile_35 : decode cX6_chooseFile 35 = .ok (.aload_n 0, 1) := by decide +kernel
theorem dX6_chooseFile_36 : decode cX6_chooseFile 36 = .ok (.getfield 21, 3) := by decide +kernel
theorem dX6_chooseFile_39 : decode cX6_chooseFile 39 = .ok (.iload_n 3, 1) := by decide +kernel
theorem dX6_chooseFile_40 : decode cX6_chooseFile 40 = .ok (.iaload, 1) := by decide +kernel
theorem dX6_chooseFile_41 : decode cX6_chooseFile 41 = .ok (.aload_n 0, 1) := by decide +kernel
theorem dX6_chooseFile_42 : decode cX6_chooseFile 42 = .ok (.getfield 21, 3) := by decide +kernel
theorem dX6_chooseFile_45 : decode cX6_chooseFile 45 = .ok (.iload_n 2, 1) := by decide +kernel
theorem dX6_chooseFile_46 : decode cX6_chooseFile 46 = .ok (.iaload, 1) := by decide +kernel
theorem dX6_chooseFile_47 : decode cX6_chooseFile 47 = .ok (.if_icmp .le 5, 3) := by decide +kernel
theorem dX6_chooseFile_50 : decode cX6_chooseFile 50 = .ok (.iload_n 3, 1) := by decide +kernel
theorem dX6_chooseFile_51 : decode cX6_chooseFile 51 = .ok (.istore_n 2, 1) := by decide +kernel
theorem dX6_chooseFile_52 : decode cX6_chooseFile 52 = .ok (.iinc 3 1, 3) := by decide +kernel
theorem dX6_chooseFile_55 : decode cX6_chooseFile 55 = .ok (.goto (-46), 3) := by decide +kernel
theorem dX6_chooseFile_58 : decode cX6_chooseFile 58 = .ok (.aload_n 0, 1) := by decide +kernel
theorem dX6_chooseFile_59 : decode cX6_chooseFile 59 = .ok (.getfield 21, 3) := by decide +kernel
theorem dX6_chooseFile_62 : decode cX6_chooseFile 62 = .ok (.iload_n 2, 1) := by decide +kernel
theorem dX6_chooseFile_63 : decode cX6_chooseFile 63 = .ok (.dup2, 1) := by decide +kernel
theorem dX6_chooseFile_64 : decode cX6_chooseFile 64 = .ok (.iaload, 1) := by decide +kernel
theorem dX6_chooseFile_65 : decode cX6_chooseFile 65 = .ok (.iload_n 1, 1) := by decide +kernel
theorem dX6_chooseFile_66 : decode cX6_chooseFile 66 = .ok (.isub, 1) := by decide +kernel
theorem dX6_chooseFile_67 : decode cX6_chooseFile 67 = .ok (.iastore, 1) := by decide +kernel
theorem dX6_chooseFile_68 : decode cX6_chooseFile 68 = .ok (.iload_n 2, 1) := by decide +kernel
theorem dX6_chooseFile_69 : decode cX6_chooseFile 69 = .ok (.ireturn, 1) := by decide +kernel
theorem dX6_sendSymbol_0 : decode cX6_sendSymbol 0 = .ok (.aload_n 0, 1) := by decide +kernel
theorem dX6_sendSymbol_1 : decode cX6_sendSymbol 1 = .ok (.getfield 18, 3) := by decide +kernel
theorem dX6_sendSymbol_4 : decode cX6_sendSymbol 4 = .ok (.iload_n 1, 1) := by decide +kernel
theorem dX6_sendSymbol_5 : decode cX6_sendSymbol 5 = .ok (.iaload, 1) := by decide +kernel
theorem dX6_sendSymbol_6 : decode cX6_sendSymbol 6 = .ok (.istore_n 2, 1) := by decide +kernel
theorem dX6_sendSymbol_7 : decode cX6_sendSymbol 7 = .ok (.aload_n 0, 1) := by decide +kernel
theorem dX6_sendSymbol_8 : decode cX6_sendSymbol 8 = .ok (.iload_n 1, 1) := by decide +kernel
theorem dX6_sendSymbol_9 : decode cX6_sendSymbol 9 = .ok (.iload_n 2, 1) := by decide +kernel
theorem dX6_sendSymbol_10 : decode cX6_sendSymbol 10 = .ok (.aload_n 0, 1) := by decide +kernel
theorem dX6_sendSymbol_11 : decode cX6_sendSymbol 11 = .ok (.getfield 15, 3) := by decide +kernel
theorem dX6_sendSymbol_14 : decode cX6_sendSymbol 14 = .ok (.iload_n 1, 1) := by decide +kernel
theorem dX6_sendSymbol_15 : decode cX6_sendSymbol 15 = .ok (.iaload, 1) := by decide +kernel
theorem dX6_sendSymbol_16 : decode cX6_sendSymbol 16 = .ok (.invokevirtual 65, 3) := by decide +kernel
theorem dX6_sendSymbol_19 : decode cX6_sendSymbol 19 = .ok (.aload_n 0, 1) := by decide +kernel
theorem dX6_sendSymbol_20 : decode cX6_sendSymbol 20 = .ok (.getfield 18, 3) := by decide +kernel
theorem dX6_sendSymbol_23 : decode cX6_sendSymbol 23 = .ok (.iload_n 1, 1) := by decide +kernel
theorem dX6_sendSymbol_24 : decode cX6_sendSymbol 24 = .ok (.iload_n 2, 1) := by decide +kernel
theorem dX6_sendSymbol_25 : decode cX6_sendSymbol 25 = .ok (.iconst 1, 1) := by decide +kernel
theorem dX6_sendSymbol_26 : decode cX6_sendSymbol 26 = .ok (.iadd, 1) := by decide +kernel
theorem dX6_sendSymbol_27 : decode cX6_sendSymbol 27 = .ok (.aload_n 0, 1) := by decide +kernel
theorem dX6_sendSymbol_28 : decode cX6_sendSymbol 28 = .ok (.getfield 36, 3) := by decide +kernel
theorem dX6_sendSymbol_31 : decode cX6_sendSymbol 31 = .ok (.iload_n 1, 1) := by decide +kernel
theorem dX6_sendSymbol_32 : decode cX6_sendSymbol 32 = .ok (.invokevirtual 83, 3) := by decide +kernel
theorem dX6_sendSymbol_35 : decode cX6_sendSymbol 35 = .ok (.if_icmp .ge 9, 3) := by decide +kernel
theorem dX6_sendSymbol_38 : decode cX6_sendSymbol 38 = .ok (.iload_n 2, 1) := by decide +kernel
theorem dX6_sendSymbol_39 : decode cX6_sendSymbol 39 = .ok (.iconst 1, 1) := by decide +kernel
theorem dX6_sendSymbol_40 : decode cX6_sendSymbol 40 = .ok (.iadd, 1) := by decide +kernel
theorem dX6_sendSymbol_41 : decode cX6_sendSymbol 41 = .ok (.goto 4, 3) := by decide +kernel
theorem dX6_sendSymbol_44 : decode cX6_sendSymbol 44 = .ok (.iconst 0, 1) := by decide +kernel
theorem dX6_sendSymbol_45 : decode cX6_sendSymbol 45 = .ok (.iastore, 1) := by decide +kernel
theorem dX6_sendSymbol_46 : decode cX6_sendSymbol 46 = .ok (.aload_n 0, 1) := by decide +kernel
theorem dX6_sendSymbol_47 : decode cX6_sendSymbol 47 = .ok (.getfield 24, 3) := by decide +kernel
theorem dX6_sendSymbol_50 : decode cX6_sendSymbol 50 = .ok (.iload_n 1, 1) := by decide +kernel
theorem dX6_sendSymbol_51 : decode cX6_sendSymbol 51 = .ok (.dup2, 1) := by decide +kernel
theorem dX6_sendSymbol_52 : decode cX6_sendSymbol 52 = .ok (.iaload, 1) := by decide +kernel
theorem dX6_sendSymbol_53 : decode cX6_sendSymbol 53 = .ok (.iconst 1, 1) := by decide +kernel
theorem dX6_sendSymbol_54 : decode cX6_sendSymbol 54 = .ok (.iadd, 1) := by decide +kernel
theorem dX6_sendSymbol_55 : decode cX6_sendSymbol 55 = .ok (.iastore, 1) := by decide +kernel
theorem dX6_sendSymbol_56 : decode cX6_sendSymbol 56 = .ok (.aload_n 0, 1) := by decide +kernel
theorem dX6_sendSymbol_57 : decode cX6_sendSymbol 57 = .ok (.dup, 1) := by decide +kernel
theorem dX6_sendSymbol_58 : decode cX6_sendSymbol 58 = .ok (.getfield 58, 3) := by decide +kernel
theorem dX6_sendSymbol_61 : decode cX6_sendSymbol 61 = .ok (.iconst 1, 1) := by decide +kernel
theorem dX6_sendSymbol_62 : decode cX6_sendSymbol 62 = .ok (.iadd, 1) := by decide +kernel
theorem dX6_sendSymbol_63 : decode cX6_sendSymbol 63 = .ok (.putfield 58, 3) := by decide +kernel
theorem dX6_sendSymbol_66 : decode cX6_sendSymbol 66 = .ok (.return_, 1) := by decide +kernel
theorem dX6_note_0 : decode cX6_note 0 = .ok (.aload_n 0, 1) := by decide +kernel
theorem dX6_note_1 : decode cX6_note 1 = .ok (.getfield 51, 3) := by decide +kernel
theorem dX6_note_4 : decode cX6_note 4 = .ok (.invokestatic 87, 3) := by decide +kernel
theorem dX6_note_7 : decode cX6_note 7 = .ok (.istore 4, 2) := by decide +kernel
theorem dX6_note_9 : decode cX6_note 9 = .ok (.aload_n 0, 1) := by decide +kernel
theorem dX6_note_10 : decode cX6_note 10 = .ok (.getfield 27, 3) := by decide +kernel
theorem dX6_note_13 : decode cX6_note 13 = .ok (.iload 4, 2) := by decide +kernel
theorem dX6_note_15 : decode cX6_note 15 = .ok (.iload_n 1, 1) := by decide +kernel
theorem dX6_note_16 : decode cX6_note 16 = .ok (.iastore, 1) := by decide +kernel
theorem dX6_note_17 : decode cX6_note 17 = .ok (.aload_n 0, 1) := by decide +kernel
theorem dX6_note_18 : decode cX6_note 18 = .ok (.getfield 30, 3) := by decide +kernel
theorem dX6_note_21 : decode cX6_note 21 = .ok (.iload 4, 2) := by decide +kernel
theorem dX6_note_23 : decode cX6_note 23 = .ok (.iload_n 2, 1) := by decide +kernel
theorem dX6_note_24 : decode cX6_note 24 = .ok (.iastore, 1) := by decide +kernel
theorem dX6_note_25 : decode cX6_note 25 = .ok (.aload_n 0, 1) := by decide +kernel
theorem dX6_note_26 : decode cX6_note 26 = .ok (.getfield 33, 3) := by decide +kernel
theorem dX6_note_29 : decode cX6_note 29 = .ok (.iload 4, 2) := by decide +kernel
theorem dX6_note_31 : decode cX6_note 31 = .ok (.iload_n 3, 1) := by decide +kernel
theorem dX6_note_32 : decode cX6_note 32 = .ok (.iastore, 1) := by decide +kernel
theorem dX6_note_33 : decode cX6_note 33 = .ok (.return_, 1) := by decide +kernel
theorem dX6_placeOf_0 : decode cX6_placeOf 0 = .ok (.iload_n 0, 1) := by decide +kernel
theorem dX6_placeOf_1 : decode cX6_placeOf 1 = .ok (.bipush 10, 2) := by decide +kernel
theorem dX6_placeOf_3 : decode cX6_placeOf 3 = .ok (.invokestatic 90, 3) := by decide +kernel
theorem dX6_placeOf_6 : decode cX6_placeOf 6 = .ok (.ireturn, 1) := by decide +kernel
theorem dX6_fileIn_0 : decode cX6_fileIn 0 = .ok (.aload_n 0, 1) := by decide +kernel
theorem dX6_fileIn_1 : decode cX6_fileIn 1 = .ok (.getfield 27, 3) := by decide +kernel
theorem dX6_fileIn_4 : decode cX6_fileIn 4 = .ok (.iload_n 1, 1) := by decide +kernel
theorem dX6_fileIn_5 : decode cX6_fileIn 5 = .ok (.invokestatic 87, 3) := by decide +kernel
theorem dX6_fileIn_8 : decode cX6_fileIn 8 = .ok (.iaload, 1) := by decide +kernel
theorem dX6_fileIn_9 : decode cX6_fileIn 9 = .ok (.ireturn, 1) := by decide +kernel
theorem dX6_symbolIn_0 : decode cX6_symbolIn 0 = .ok (.aload_n 0, 1) := by decide +kernel
theorem dX6_symbolIn_1 : decode cX6_symbolIn 1 = .ok (.getfield 30, 3) := by decide +kernel
theorem dX6_symbolIn_4 : decode cX6_symbolIn 4 = .ok (.iload_n 1, 1) := by decide +kernel
theorem dX6_symbolIn_5 : decode cX6_symbolIn 5 = .ok (.invokestatic 87, 3) := by decide +kernel
theorem dX6_symbolIn_8 : decode cX6_symbolIn 8 = .ok (.iaload, 1) := by decide +kernel
theorem dX6_symbolIn_9 : decode cX6_symbolIn 9 = .ok (.ireturn, 1) := by decide +kernel
theorem dX6_versionIn_0 : decode cX6_versionIn 0 = .ok (.aload_n 0, 1) := by decide +kernel
theorem dX6_versionIn_1 : decode cX6_versionIn 1 = .ok (.getfield 33, 3) := by decide +kernel
theorem dX6_versionIn_4 : decode cX6_versionIn 4 = .ok (.iload_n 1, 1) := by decide +kernel
theorem dX6_versionIn_5 : decode cX6_versionIn 5 = .ok (.invokestatic 87, 3) := by decide +kernel
theorem dX6_versionIn_8 : decode cX6_versionIn 8 = .ok (.iaload, 1) := by decide +kernel
theorem dX6_versionIn_9 : decode cX6_versionIn 9 = .ok (.ireturn, 1) := by decide +kernel
theorem dX6_startNewVersion_0 : decode cX6_startNewVersion 0 = .ok (.aload_n 0, 1) := by decide +kernel
theorem dX6_startNewVersion_1 : decode cX6_startNewVersion 1 = .ok (.getfield 15, 3) := by decide +kernel
theorem dX6_startNewVersion_4 : decode cX6_startNewVersion 4 = .ok (.iload_n 1, 1) := by decide +kernel
theorem dX6_startNewVersion_5 : decode cX6_startNewVersion 5 = .ok (.aload_n 0, 1) := by decide +kernel
theorem dX6_startNewVersion_6 : decode cX6_startNewVersion 6 = .ok (.getfield 15, 3) := by decide +kernel
theorem dX6_startNewVersion_9 : decode cX6_startNewVersion 9 = .ok (.iload_n 1, 1) := by decide +kernel
theorem dX6_startNewVersion_10 : decode cX6_startNewVersion 10 = .ok (.iaload, 1) := by decide +kernel
theorem dX6_startNewVersion_11 : decode cX6_startNewVersion 11 = .ok (.bipush 99, 2) := by decide +kernel
theorem dX6_startNewVersion_13 : decode cX6_startNewVersion 13 = .ok (.if_icmp .ge 14, 3) := by decide +kernel
theorem dX6_startNewVersion_16 : decode cX6_startNewVersion 16 = .ok (.aload_n 0, 1) := by decide +kernel
theorem dX6_startNewVersion_17 : decode cX6_startNewVersion 17 = .ok (.getfield 15, 3) := by decide +kernel
theorem dX6_startNewVersion_20 : decode cX6_startNewVersion 20 = .ok (.iload_n 1, 1) := by decide +kernel
theorem dX6_startNewVersion_21 : decode cX6_startNewVersion 21 = .ok (.iaload, 1) := by decide +kernel
theorem dX6_startNewVersion_22 : decode cX6_startNewVersion 22 = .ok (.iconst 1, 1) := by decide +kernel
theorem dX6_startNewVersion_23 : decode cX6_startNewVersion 23 = .ok (.iadd, 1) := by decide +kernel
theorem dX6_startNewVersion_24 : decode cX6_startNewVersion 24 = .ok (.goto 4, 3) := by decide +kernel
theorem dX6_startNewVersion_27 : decode cX6_startNewVersion 27 = .ok (.iconst 0, 1) := by decide +kernel
theorem dX6_startNewVersion_28 : decode cX6_startNewVersion 28 = .ok (.iastore, 1) := by decide +kernel
theorem dX6_startNewVersion_29 : decode cX6_startNewVersion 29 = .ok (.aload_n 0, 1) := by decide +kernel
theorem dX6_startNewVersion_30 : decode cX6_startNewVersion 30 = .ok (.getfield 18, 3) := by decide +kernel
theorem dX6_startNewVersion_33 : decode cX6_startNewVersion 33 = .ok (.iload_n 1, 1) := by decide +kernel
theorem dX6_startNewVersion_34 : decode cX6_startNewVersion 34 = .ok (.iconst 0, 1) := by decide +kernel
theorem dX6_startNewVersion_35 : decode cX6_startNewVersion 35 = .ok (.iastore, 1) := by decide +kernel
theorem dX6_startNewVersion_36 : decode cX6_startNewVersion 36 = .ok (.aload_n 0, 1) := by decide +kernel
theorem dX6_startNewVersion_37 : decode cX6_startNewVersion 37 = .ok (.getfield 15, 3) := by decide +kernel
theorem dX6_startNewVersion_40 : decode cX6_startNewVersion 40 = .ok (.iload_n 1, 1) := by decide +kernel
theorem dX6_startNewVersion_41 : decode cX6_startNewVersion 41 = .ok (.iaload, 1) := by decide +kernel
theorem dX6_startNewVersion_42 : decode cX6_startNewVersion 42 = .ok (.ireturn, 1) := by decide +kernel
theorem dX6_allWeights_0 : decode cX6_allWeights 0 = .ok (.iconst 0, 1) := by decide +kernel
theorem dX6_allWeights_1 : decode cX6_allWeights 1 = .ok (.istore_n 1, 1) := by decide +kernel
theorem dX6_allWeights_2 : decode cX6_allWeights 2 = .ok (.iconst 0, 1) := by decide +kernel
theorem dX6_allWeights_3 : decode cX6_allWeights 3 = .ok (.istore_n 2, 1) := by decide +kernel
theorem dX6_allWeights_4 : decode cX6_allWeights 4 = .ok (.iload_n 2, 1) := by decide +kernel
theorem dX6_allWeights_5 : decode cX6_allWeights 5 = .ok (.aload_n 0, 1) := by decide +kernel
theorem dX6_allWeights_6 : decode cX6_allWeights 6 = .ok (.getfield 36, 3) := by decide +kernel
theorem dX6_allWeights_9 : decode cX6_allWeights 9 = .ok (.getfield 80, 3) := by decide +kernel
theorem dX6_allWeights_12 : decode cX6_allWeights 12 = .ok (.if_icmp .ge 18, 3) := by decide +kernel
theorem dX6_allWeights_15 : decode cX6_allWeights 15 = .ok (.iload_n 1, 1) := by decide +kernel
theorem dX6_allWeights_16 : decode cX6_allWeights 16 = .ok (.aload_n 0, 1) := by decide +kernel
theorem dX6_allWeights_17 : decode cX6_allWeights 17 = .ok (.getfield 9, 3) := by decide +kernel
theorem dX6_allWeights_20 : decode cX6_allWeights 20 = .ok (.iload_n 2, 1) := by decide +kernel
theorem dX6_allWeights_21 : decode cX6_allWeights 21 = .ok (.iaload, 1) := by decide +kernel
theorem dX6_allWeights_22 : decode cX6_allWeights 22 = .ok (.iadd, 1) := by decide +kernel
theorem dX6_allWeights_23 : decode cX6_allWeights 23 = .ok (.istore_n 1, 1) := by decide +kernel
theorem dX6_allWeights_24 : decode cX6_allWeights 24 = .ok (.iinc 2 1, 3) := by decide +kernel
theorem dX6_allWeights_27 : decode cX6_allWeights 27 = .ok (.goto (-23), 3) := by decide +kernel
theorem dX6_allWeights_30 : decode cX6_allWeights 30 = .ok (.iload_n 1, 1) := by decide +kernel
theorem dX6_allWeights_31 : decode cX6_allWeights 31 = .ok (.ireturn, 1) := by decide +kernel
theorem dJxf58ca_isNaN_12338_0 : decode cJxf58ca_isNaN_12338 0 = .ok (.fload_n 0, 1) := by decide +kernel
theorem dJxf58ca_isNaN_12338_1 : decode cJxf58ca_isNaN_12338 1 = .ok (.fload_n 0, 1) := by decide +kernel
theorem dJxf58ca_isNaN_12338_2 : decode cJxf58ca_isNaN_12338 2 = .ok (.fcmp .l, 1) := by decide +kernel
theorem dJxf58ca_isNaN_12338_3 : decode cJxf58ca_isNaN_12338 3 = .ok (.ifCond .eq 7, 3) := by decide +kernel
theorem dJxf58ca_isNaN_12338_6 : decode cJxf58ca_isNaN_12338 6 = .ok (.iconst 1, 1) := by decide +kernel
theorem dJxf58ca_isNaN_12338_7 : decode cJxf58ca_isNaN_12338 7 = .ok (.goto 4, 3) := by decide +kernel
theorem dJxf58ca_isNaN_12338_10 : decode cJxf58ca_isNaN_12338 10 = .ok (.iconst 0, 1) := by decide +kernel
theorem dJxf58ca_isNaN_12338_11 : decode cJxf58ca_isNaN_12338 11 = .ok (.ireturn, 1) := by decide +kernel
theorem dJxf58ca_floatToIntBits_5c35a_0 : decode cJxf58ca_floatToIntBits_5c35a 0 = .ok (.fload_n 0, 1) := by decide +kernel
theorem dJxf58ca_floatToIntBits_5c35a_1 : decode cJxf58ca_floatToIntBits_5c35a 1 = .ok (.invokestatic 59, 3) := by decide +kernel
theorem dJxf58ca_floatToIntBits_5c35a_4 : decode cJxf58ca_floatToIntBits_5c35a 4 = .ok (.ifCond .ne 8, 3) := by decide +kernel
theorem dJxf58ca_floatToIntBits_5c35a_7 : decode cJxf58ca_floatToIntBits_5c35a 7 = .ok (.fload_n 0, 1) := by decide +kernel
theorem dJxf58ca_floatToIntBits_5c35a_8 : decode cJxf58ca_floatToIntBits_5c35a 8 = .ok (.invokestatic 74, 3) := by decide +kernel
theorem dJxf58ca_floatToIntBits_5c35a_11 : decode cJxf58ca_floatToIntBits_5c35a 11 = .ok (.ireturn, 1) := by decide +kernel
theorem dJxf58ca_floatToIntBits_5c35a_12 : decode cJxf58ca_floatToIntBits_5c35a 12 = .ok (.ldc 77, 2) := by decide +kernel
theorem dJxf58ca_floatToIntBits_5c35a_14 : decode cJxf58ca_floatToIntBits_5c35a 14 = .ok (.ireturn, 1) := by decide +kernel
theorem dJ6_bitCount_0f7a4_0 : decode cJ6_bitCount_0f7a4 0 = .ok (.iload_n 0, 1) := by decide +kernel
theorem dJ6_bitCount_0f7a4_1 : decode cJ6_bitCount_0f7a4 1 = .ok (.iload_n 0, 1) := by decide +kernel
theorem dJ6_bitCount_0f7a4_2 : decode cJ6_bitCount_0f7a4 2 = .ok (.iconst 1, 1) := by decide +kernel
theorem dJ6_bitCount_0f7a4_3 : decode cJ6_bitCount_0f7a4 3 = .ok (.iushr, 1) := by decide +kernel
theorem dJ6_bitCount_0f7a4_4 : decode cJ6_bitCount_0f7a4 4 = .ok (.ldc_w 265, 3) := by decide +kernel
theorem dJ6_bitCount_0f7a4_7 : decode cJ6_bitCount_0f7a4 7 = .ok (.iand, 1) := by decide +kernel
theorem dJ6_bitCount_0f7a4_8 : decode cJ6_bitCount_0f7a4 8 = .ok (.isub, 1) := by decide +kernel
theorem dJ6_bitCount_0f7a4_9 : decode cJ6_bitCount_0f7a4 9 = .ok (.istore_n 0, 1) := by decide +kernel
theorem dJ6_bitCount_0f7a4_10 : decode cJ6_bitCount_0f7a4 10 = .ok (.iload_n 0, 1) := by decide +kernel
theorem dJ6_bitCount_0f7a4_11 : decode cJ6_bitCount_0f7a4 11 = .ok (.ldc_w 266, 3) := by decide +kernel
theorem dJ6_bitCount_0f7a4_14 : decode cJ6_bitCount_0f7a4 14 = .ok (.iand, 1) := by decide +kernel
theorem dJ6_bitCount_0f7a4_15 : decode cJ6_bitCount_0f7a4 15 = .ok (.iload_n 0, 1) := by decide +kernel
theorem dJ6_bitCount_0f7a4_16 : decode cJ6_bitCount_0f7a4 16 = .ok (.iconst 2, 1) := by decide +kernel
theorem dJ6_bitCount_0f7a4_17 : decode cJ6_bitCount_0f7a4 17 = .ok (.iushr, 1) := by decide +kernel
theorem dJ6_bitCount_0f7a4_18 : decode cJ6_bitCount_0f7a4 18 = .ok (.ldc_w 266, 3) := by decide +kernel
theorem dJ6_bitCount_0f7a4_21 : decode cJ6_bitCount_0f7a4 21 = .ok (.iand, 1) := by decide +kernel
theorem dJ6_bitCount_0f7a4_22 : decode cJ6_bitCount_0f7a4 22 = .ok (.iadd, 1) := by decide +kernel
theorem dJ6_bitCount_0f7a4_23 : decode cJ6_bitCount_0f7a4 23 = .ok (.istore_n 0, 1) := by decide +kernel
theorem dJ6_bitCount_0f7a4_24 : decode cJ6_bitCount_0f7a4 24 = .ok (.iload_n 0, 1) := by decide +kernel
theorem dJ6_bitCount_0f7a4_25 : decode cJ6_bitCount_0f7a4 25 = .ok (.iload_n 0, 1) := by decide +kernel
theorem dJ6_bitCount_0f7a4_26 : decode cJ6_bitCount_0f7a4 26 = .ok (.iconst 4, 1) := by decide +kernel
theorem dJ6_bitCount_0f7a4_27 : decode cJ6_bitCount_0f7a4 27 = .ok (.iushr, 1) := by decide +kernel
theorem dJ6_bitCount_0f7a4_28 : decode cJ6_bitCount_0f7a4 28 = .ok (.iadd, 1) := by decide +kernel
theorem dJ6_bitCount_0f7a4_29 : decode cJ6_bitCount_0f7a4 29 = .ok (.ldc_w 267, 3) := by decide +kernel
theorem dJ6_bitCount_0f7a4_32 : decode cJ6_bitCount_0f7a4 32 = .ok (.iand, 1) := by decide +kernel
theorem dJ6_bitCount_0f7a4_33 : decode cJ6_bitCount_0f7a4 33 = .ok (.istore_n 0, 1) := by decide +kernel
theorem dJ6_bitCount_0f7a4_34 : decode cJ6_bitCount_0f7a4 34 = .ok (.iload_n 0, 1) := by decide +kernel
theorem dJ6_bitCount_0f7a4_35 : decode cJ6_bitCount_0f7a4 35 = .ok (.iload_n 0, 1) := by decide +kernel
theorem dJ6_bitCount_0f7a4_36 : decode cJ6_bitCount_0f7a4 36 = .ok (.bipush 8, 2) := by decide +kernel
theorem dJ6_bitCount_0f7a4_38 : decode cJ6_bitCount_0f7a4 38 = .ok (.iushr, 1) := by decide +kernel
theorem dJ6_bitCount_0f7a4_39 : decode cJ6_bitCount_0f7a4 39 = .ok (.iadd, 1) := by decide +kernel
theorem dJ6_bitCount_0f7a4_40 : decode cJ6_bitCount_0f7a4 40 = .ok (.istore_n 0, 1) := by decide +kernel
theorem dJ6_bitCount_0f7a4_41 : decode cJ6_bitCount_0f7a4 41 = .ok (.iload_n 0, 1) := by decide +kernel
theorem dJ6_bitCount_0f7a4_42 : decode cJ6_bitCount_0f7a4 42 = .ok (.iload_n 0, 1) := by decide +kernel
theorem dJ6_bitCount_0f7a4_43 : decode cJ6_bitCount_0f7a4 43 = .ok (.bipush 16, 2) := by decide +kernel
theorem dJ6_bitCount_0f7a4_45 : decode cJ6_bitCount_0f7a4 45 = .ok (.iushr, 1) := by decide +kernel
theorem dJ6_bitCount_0f7a4_46 : decode cJ6_bitCount_0f7a4 46 = .ok (.iadd, 1) := by decide +kernel
theorem dJ6_bitCount_0f7a4_47 : decode cJ6_bitCount_0f7a4 47 = .ok (.istore_n 0, 1) := by decide +kernel
theorem dJ6_bitCount_0f7a4_48 : decode cJ6_bitCount_0f7a4 48 = .ok (.iload_n 0, 1) := by decide +kernel
theorem dJ6_bitCount_0f7a4_49 : decode cJ6_bitCount_0f7a4 49 = .ok (.bipush 63, 2) := by decide +kernel
theorem dJ6_bitCount_0f7a4_51 : decode cJ6_bitCount_0f7a4 51 = .ok (.iand, 1) := by decide +kernel
theorem dJ6_bitCount_0f7a4_52 : decode cJ6_bitCount_0f7a4 52 = .ok (.ireturn, 1) := by decide +kernel
theorem dJ9_floorMod_7cf53_0 : decode cJ9_floorMod_7cf53 0 = .ok (.iload_n 0, 1) := by decide +kernel
theorem dJ9_floorMod_7cf53_1 : decode cJ9_floorMod_7cf53 1 = .ok (.iload_n 1, 1) := by decide +kernel
theorem dJ9_floorMod_7cf53_2 : decode cJ9_floorMod_7cf53 2 = .ok (.irem, 1) := by decide +kernel
theorem dJ9_floorMod_7cf53_3 : decode cJ9_floorMod_7cf53 3 = .ok (.istore_n 2, 1) := by decide +kernel
theorem dJ9_floorMod_7cf53_4 : decode cJ9_floorMod_7cf53 4 = .ok (.iload_n 0, 1) := by decide +kernel
theorem dJ9_floorMod_7cf53_5 : decode cJ9_floorMod_7cf53 5 = .ok (.iload_n 1, 1) := by decide +kernel
theorem dJ9_floorMod_7cf53_6 : decode cJ9_floorMod_7cf53 6 = .ok (.ixor, 1) := by decide +kernel
theorem dJ9_floorMod_7cf53_7 : decode cJ9_floorMod_7cf53 7 = .ok (.ifCond .ge 11, 3) := by decide +kernel
theorem dJ9_floorMod_7cf53_10 : decode cJ9_floorMod_7cf53 10 = .ok (.iload_n 2, 1) := by decide +kernel
theorem dJ9_floorMod_7cf53_11 : decode cJ9_floorMod_7cf53 11 = .ok (.ifCond .eq 7, 3) := by decide +kernel
theorem dJ9_floorMod_7cf53_14 : decode cJ9_floorMod_7cf53 14 = .ok (.iload_n 2, 1) := by decide +kernel
theorem dJ9_floorMod_7cf53_15 : decode cJ9_floorMod_7cf53 15 = .ok (.iload_n 1, 1) := by decide +kernel
theorem dJ9_floorMod_7cf53_16 : decode cJ9_floorMod_7cf53 16 = .ok (.iadd, 1) := by decide +kernel
theorem dJ9_floorMod_7cf53_17 : decode cJ9_floorMod_7cf53 17 = .ok (.ireturn, 1) := by decide +kernel
theorem dJ9_floorMod_7cf53_18 : decode cJ9_floorMod_7cf53 18 = .ok (.iload_n 2, 1) := by decide +kernel
theorem dJ9_floorMod_7cf53_19 : decode cJ9_floorMod_7cf53 19 = .ok (.ireturn, 1) := by decide +kernel
theorem dJ9_max_7cf53_0 : decode cJ9_max_7cf53 0 = .ok (.iload_n 0, 1) := by decide +kernel
theorem dJ9_max_7cf53_1 : decode cJ9_max_7cf53 1 = .ok (.iload_n 1, 1) := by decide +kernel
theorem dJ9_max_7cf53_2 : decode cJ9_max_7cf53 2 = .ok (.if_icmp .lt 7, 3) := by decide +kernel
theorem dJ9_max_7cf53_5 : decode cJ9_max_7cf53 5 = .ok (.iload_n 0, 1) := by decide +kernel
theorem dJ9_max_7cf53_6 : decode cJ9_max_7cf53 6 = .ok (.goto 4, 3) := by decide +kernel
theorem dJ9_max_7cf53_9 : decode cJ9_max_7cf53 9 = .ok (.iload_n 1, 1) := by decide +kernel
theorem dJ9_max_7cf53_10 : decode cJ9_max_7cf53 10 = .ok (.ireturn, 1) := by decide +kernel
theorem dJ9_min_7cf53_0 : decode cJ9_min_7cf53 0 = .ok (.iload_n 0, 1) := by decide +kernel
theorem dJ9_min_7cf53_1 : decode cJ9_min_7cf53 1 = .ok (.iload_n 1, 1) := by decide +kernel
theorem dJ9_min_7cf53_2 : decode cJ9_min_7cf53 2 = .ok (.if_icmp .gt 7, 3) := by decide +kernel
theorem dJ9_min_7cf53_5 : decode cJ9_min_7cf53 5 = .ok (.iload_n 0, 1) := by decide +kernel
theorem dJ9_min_7cf53_6 : decode cJ9_min_7cf53 6 = .ok (.goto 4, 3) := by decide +kernel
theorem dJ9_min_7cf53_9 : decode cJ9_min_7cf53 9 = .ok (.iload_n 1, 1) := by decide +kernel
theorem dJ9_min_7cf53_10 : decode cJ9_min_7cf53 10 = .ok (.ireturn, 1) := by decide +kernel
end
section
theorem dX7_init_0 : decode cX7_init 0 = .ok (.aload_n 0, 1) := by decide +kernel
theorem dX7_init_1 : decode cX7_init 1 = .ok (.invokespecial 3, 3) := by decide +kernel
theorem dX7_init_4 : decode cX7_init 4 = .ok (.aload_n 0, 1) := by decide +kernel
theorem dX7_init_5 : decode cX7_init 5 = .ok (.new 9, 3) := by decide +kernel
theorem dX7_init_8 : decode cX7_init 8 = .ok (.dup, 1) := by decide +kernel
theorem dX7_init_9 : decode cX7_init 9 = .ok (.invokespecial 11, 3) := by decide +kernel
theorem dX7_init_12 : decode cX7_init 12 = .ok (.putfield 12, 3) := by decide +kernel
theorem dX7_init_15 : decode cX7_init 15 = .ok (.aload_n 0, 1) := by decide +kernel
theorem dX7_init_16 : decode cX7_init 16 = .ok (.new 16, 3) := by decide +kernel
theorem dX7_init_19 : decode cX7_init 19 = .ok (.dup, 1) := by decide +kernel
theorem dX7_init_20 : decode cX7_init 20 = .ok (.invokespecial 18, 3) := by decide +kernel
theorem dX7_init_23 : decode cX7_init 23 = .ok (.putfield 19, 3) := by decide +kernel
theorem dX7_init_26 : decode cX7_init 26 = .ok (.aload_n 0, 1) := by decide +kernel
theorem dX7_init_27 : decode cX7_init 27 = .ok (.new 16, 3) := by decide +kernel
theorem dX7_init_30 : decode cX7_init 30 = .ok (.dup, 1) := by decide +kernel
theorem dX7_init_31 : decode cX7_init 31 = .ok (.invokespecial 18, 3) := by decide +kernel
theorem dX7_init_34 : decode cX7_init 34 = .ok (.putfield 23, 3) := by decide +kernel
theorem dX7_init_37 : decode cX7_init 37 = .ok (.aload_n 0, 1) := by decide +kernel
theorem dX7_init_38 : decode cX7_init 38 = .ok (.getfield 23, 3) := by decide +kernel
theorem dX7_init_41 : decode cX7_init 41 = .ok (.iconst 4, 1) := by decide +kernel
theorem dX7_init_42 : decode cX7_init 42 = .ok (.iconst 2, 1) := by decide +kernel
theorem dX7_init_43 : decode cX7_init 43 = .ok (.iconst 3, 1) := by decide +kernel
theorem dX7_init_44 : decode cX7_init 44 = .ok (.invokevirtual 26, 3) := by decide +kernel
theorem dX7_init_47 : decode cX7_init 47 = .ok (.pop, 1) := by decide +kernel
theorem dX7_init_48 : decode cX7_init 48 = .ok (.aload_n 0, 1) := by decide +kernel
theorem dX7_init_49 : decode cX7_init 49 = .ok (.getfield 23, 3) := by decide +kernel
theorem dX7_init_52 : decode cX7_init 52 = .ok (.bipush 6, 2) := by decide +kernel
theorem dX7_init_54 : decode cX7_init 54 = .ok (.iconst 0, 1) := by decide +kernel
theorem dX7_init_55 : decode cX7_init 55 = .ok (.iconst 1, 1) := by decide +kernel
theorem dX7_init_56 : decode cX7_init 56 = .ok (.invokevirtual 26, 3) := by decide +kernel
theorem dX7_init_59 : decode cX7_init 59 = .ok (.pop, 1) := by decide +kernel
theorem dX7_init_60 : decode cX7_init 60 = .ok (.aload_n 0, 1) := by decide +kernel
theorem dX7_init_61 : decode cX7_init 61 = .ok (.getfield 23, 3) := by decide +kernel
theorem dX7_init_64 : decode cX7_init 64 = .ok (.iconst 2, 1) := by decide +kernel
theorem dX7_init_65 : decode cX7_init 65 = .ok (.iconst 1, 1) := by decide +kernel
theorem dX7_init_66 : decode cX7_init 66 = .ok (.iconst 2, 1) := by decide +kernel
theorem dX7_init_67 : decode cX7_init 67 = .ok (.invokevirtual 26, 3) := by decide +kernel
theorem dX7_init_70 : decode cX7_init 70 = .ok (.pop, 1) := by decide +kernel
theorem dX7_init_71 : decode cX7_init 71 = .ok (.aload_n 0, 1) := by decide +kernel
theorem dX7_init_72 : decode cX7_init 72 = .ok (.getfield 23, 3) := by decide +kernel
theorem dX7_init_75 : decode cX7_init 75 = .ok (.iconst 5, 1) := by decide +kernel
theorem dX7_init_76 : decode cX7_init 76 = .ok (.bipush 12, 2) := by decide +kernel
theorem dX7_init_78 : decode cX7_init 78 = .ok (.invokevirtual 30, 3) := by decide +kernel
theorem dX7_init_81 : decode cX7_init 81 = .ok (.aload_n 0, 1) := by decide +kernel
theorem dX7_init_82 : decode cX7_init 82 = .ok (.new 34, 3) := by decide +kernel
theorem dX7_init_85 : decode cX7_init 85 = .ok (.dup, 1) := by decide +kernel
theorem dX7_init_86 : decode cX7_init 86 = .ok (.aload_n 0, 1) := by decide +kernel
theorem dX7_init_87 : decode cX7_init 87 = .ok (.getfield 23, 3) := by decide +kernel
theorem dX7_init_90 : decode cX7_init 90 = .ok (.invokespecial 36, 3) := by decide +kernel
theorem dX7_init_93 : decode cX7_init 93 = .ok (.putfield 39, 3) := by decide +kernel
theorem dX7_init_96 : decode cX7_init 96 = .ok (.aload_n 0, 1) := by decide +kernel
theorem dX7_init_97 : decode cX7_init 97 = .ok (.getfield 39, 3) := by decide +kernel
theorem dX7_init_100 : decode cX7_init 100 = .ok (.invokevirtual 43, 3) := by decide +kernel
theorem dX7_init_103 : decode cX7_init 103 = .ok (.aload_n 0, 1) := by decide +kernel
theorem dX7_init_104 : decode cX7_init 104 = .ok (.new 46, 3) := by decide +kernel
theorem dX7_init_107 : decode cX7_init 107 = .ok (.dup, 1) := by decide +kernel
theorem dX7_init_108 : decode cX7_init 108 = .ok (.aload_n 0, 1) := by decide +kernel
theorem dX7_init_109 : decode cX7_init 109 = .ok (.getfield 23, 3) := by decide +kernel
theorem dX7_init_112 : decode cX7_init 112 = .ok (.invokespecial 48, 3) := by decide +kernel
theorem dX7_init_115 : decode cX7_init 115 = .ok (.putfield 49, 3) := by decide +kernel
theorem dX7_init_118 : decode cX7_init 118 = .ok (.aload_n 0, 1) := by decide +kernel
theorem dX7_init_119 : decode cX7_init 119 = .ok (.new 53, 3) := by decide +kernel
theorem dX7_init_122 : decode cX7_init 122 = .ok (.dup, 1) := by decide +kernel
theorem dX7_init_123 : decode cX7_init 123 = .ok (.aload_n 0, 1) := by decide +kernel
theorem dX7_init_124 : decode cX7_init 124 = .ok (.getfield 23, 3) := by decide +kernel
theorem dX7_init_127 : decode cX7_init 127 = .ok (.invokespecial 55, 3) := by decide +kernel
theorem dX7_init_130 : decode cX7_init 130 = .ok (.putfield 56, 3) := by decide +kernel
theorem dX7_init_133 : decode cX7_init 133 = .ok (.return_, 1) := by decide +kernel
theorem dX7_write_0 : decode cX7_write 0 = .ok (.iload_n 1, 1) := by decide +kernel
theorem dX7_write_1 : decode cX7_write 1 = .ok (.bipush 32, 2) := by decide +kernel
theorem dX7_write_3 : decode cX7_write 3 = .ok (.if_icmp .lt 9, 3) := by decide +kernel
theorem dX7_write_6 : decode cX7_write 6 = .ok (.iload_n 1, 1) := by decide +kernel
theorem dX7_write_7 : decode cX7_write 7 = .ok (.bipush 126, 2) := by decide +kernel
theorem dX7_write_9 : decode cX7_write 9 = .ok (.if_icmp .le 5, 3) := by decide +kernel
theorem dX7_write_12 : decode cX7_write 12 = .ok (.iconst (-1), 1) := by decide +kernel
theorem dX7_write_13 : decode cX7_write 13 = .ok (.ireturn, 1) := by decide +kernel
theorem dX7_write_14 : decode cX7_write 14 = .ok (.aload_n 0, 1) := by decide +kernel
theorem dX7_write_15 : decode cX7_write 15 = .ok (.getfield 12, 3) := by decide +kernel
theorem dX7_write_18 : decode cX7_write 18 = .ok (.iload_n 1, 1) := by decide +kernel
theorem dX7_write_19 : decode cX7_write 19 = .ok (.invokevirtual 60, 3) := by decide +kernel
theorem dX7_write_22 : decode cX7_write 22 = .ok (.ifCond .eq 13, 3) := by decide +kernel
theorem dX7_write_25 : decode cX7_write 25 = .ok (.aload_n 0, 1) := by decide +kernel
theorem dX7_write_26 : decode cX7_write 26 = .ok (.getfield 12, 3) := by decide +kernel
theorem dX7_write_29 : decode cX7_write 29 = .ok (.getfield 64, 3) := by decide +kernel
theorem dX7_write_32 : decode cX7_write 32 = .ok (.goto 5, 3) := by decide +kernel
theorem dX7_write_35 : decode cX7_write 35 = .ok (.bipush (-3), 2) := by decide +kernel
theorem dX7_write_37 : decode cX7_write 37 = .ok (.ireturn, 1) := by decide +kernel
theorem dX7_wipe_0 : decode cX7_wipe 0 = .ok (.aload_n 0, 1) := by decide +kernel
theorem dX7_wipe_1 : decode cX7_wipe 1 = .ok (.getfield 12, 3) := by decide +kernel
theorem dX7_wipe_4 : decode cX7_wipe 4 = .ok (.getfield 64, 3) := by decide +kernel
theorem dX7_wipe_7 : decode cX7_wipe 7 = .ok (.istore_n 1, 1) := by decide +kernel
theorem dX7_wipe_8 : decode cX7_wipe 8 = .ok (.aload_n 0, 1) := by decide +kernel
theorem dX7_wipe_9 : decode cX7_wipe 9 = .ok (.getfield 12, 3) := by decide +kernel
theorem dX7_wipe_12 : decode cX7_wipe 12 = .ok (.iconst 0, 1) := by decide +kernel
theorem dX7_wipe_13 : decode cX7_wipe 13 = .ok (.putfield 64, 3) := by decide +kernel
theorem dX7_wipe_16 : decode cX7_wipe 16 = .ok (.iload_n 1, 1) := by decide +kernel
theorem dX7_wipe_17 : decode cX7_wipe 17 = .ok (.ireturn, 1) := by decide +kernel
theorem dX7_fault_0 : decode cX7_fault 0 = .ok (.aload_n 0, 1) := by decide +kernel
theorem dX7_fault_1 : decode cX7_fault 1 = .ok (.getfield 12, 3) := by decide +kernel
theorem dX7_fault_4 : decode cX7_fault 4 = .ok (.aload_n 0, 1) := by decide +kernel
theorem dX7_fault_5 : decode cX7_fault 5 = .ok (.getfield 19, 3) := by decide +kernel
theorem dX7_fault_8 : decode cX7_fault 8 = .ok (.invokevirtual 68, 3) := by decide +kernel
theorem dX7_fault_11 : decode cX7_fault 11 = .ok (.ireturn, 1) := by decide +kernel
theorem dX7_lay_0 : decode cX7_lay 0 = .ok (.aload_n 0, 1) := by decide +kernel
theorem dX7_lay_1 : decode cX7_lay 1 = .ok (.getfield 12, 3) := by decide +kernel
theorem dX7_lay_4 : decode cX7_lay 4 = .ok (.aload_n 0, 1) := by decide +kernel
theorem dX7_lay_5 : decode cX7_lay 5 = .ok (.getfield 19, 3) := by decide +kernel
theorem dX7_lay_8 : decode cX7_lay 8 = .ok (.invokevirtual 68, 3) := by decide +kernel
theorem dX7_lay_11 : decode cX7_lay 11 = .ok (.bipush (-4), 2) := by decide +kernel
theorem dX7_lay_13 : decode cX7_lay 13 = .ok (.if_icmp .ne 13, 3) := by decide +kernel
theorem dX7_lay_16 : decode cX7_lay 16 = .ok (.aload_n 0, 1) := by decide +kernel
theorem dX7_lay_17 : decode cX7_lay 17 = .ok (.getfield 19, 3) := by decide +kernel
theorem dX7_lay_20 : decode cX7_lay 20 = .ok (.getfield 72, 3) := by decide +kernel
theorem dX7_lay_23 : decode cX7_lay 23 = .ok (.ifCond .ne 6, 3) := by decide +kernel
theorem dX7_lay_26 : decode cX7_lay 26 = .ok (.bipush (-2), 2) := by decide +kernel
theorem dX7_lay_28 : decode cX7_lay 28 = .ok (.ireturn, 1) := by decide +kernel
theorem dX7_lay_29 : decode cX7_lay 29 = .ok (.aload_n 0, 1) := by decide +kernel
theorem dX7_lay_30 : decode cX7_lay 30 = .ok (.getfield 23, 3) := by decide +kernel
theorem dX7_lay_33 : decode cX7_lay 33 = .ok (.aload_n 0, 1) := by decide +kernel
theorem dX7_lay_34 : decode cX7_lay 34 = .ok (.getfield 19, 3) := by decide +kernel
theorem dX7_lay_37 : decode cX7_lay 37 = .ok (.invokevirtual 75, 3) := by decide +kernel
theorem dX7_lay_40 : decode cX7_lay 40 = .ok (.aload_n 0, 1) := by decide +kernel
theorem dX7_lay_41 : decode cX7_lay 41 = .ok (.getfield 39, 3) := by decide +kernel
theorem dX7_lay_44 : decode cX7_lay 44 = .ok (.invokevirtual 43, 3) := by decide +kernel
theorem dX7_lay_47 : decode cX7_lay 47 = .ok (.aload_n 0, 1) := by decide +kernel
theorem dX7_lay_48 : decode cX7_lay 48 = .ok (.getfield 49, 3) := by decide +kernel
theorem dX7_lay_51 : decode cX7_lay 51 = .ok (.invokevirtual 78, 3) := by decide +kernel
theorem dX7_lay_54 : decode cX7_lay 54 = .ok (.aload_n 0, 1) := by decide +kernel
theorem dX7_lay_55 : decode cX7_lay 55 = .ok (.getfield 23, 3) := by decide +kernel
theorem dX7_lay_58 : decode cX7_lay 58 = .ok (.getfield 72, 3) := by decide +kernel
theorem dX7_lay_61 : decode cX7_lay 61 = .ok (.ireturn, 1) := by decide +kernel
theorem dX7_tick_0 : decode cX7_tick 0 = .ok (.iload_n 1, 1) := by decide +kernel
theorem dX7_tick_1 : decode cX7_tick 1 = .ok (.iconst 1, 1) := by decide +kernel
theorem dX7_tick_2 : decode cX7_tick 2 = .ok (.if_icmp .lt 9, 3) := by decide +kernel
theorem dX7_tick_5 : decode cX7_tick 5 = .ok (.iload_n 1, 1) := by decide +kernel
theorem dX7_tick_6 : decode cX7_tick 6 = .ok (.bipush 99, 2) := by decide +kernel
theorem dX7_tick_8 : decode cX7_tick 8 = .ok (.if_icmp .le 5, 3) := by decide +kernel
theorem dX7_tick_11 : decode cX7_tick 11 = .ok (.iconst (-1), 1) := by decide +kernel
theorem dX7_tick_12 : decode cX7_tick 12 = .ok (.ireturn, 1) := by decide +kernel
theorem dX7_tick_13 : decode cX7_tick 13 = .ok (.aload_n 0, 1) := by decide +kernel
theorem dX7_tick_14 : decode cX7_tick 14 = .ok (.getfield 39, 3) := by decide +kernel
theorem dX7_tick_17 : decode cX7_tick 17 = .ok (.getfield 81, 3) := by decide +kernel
theorem dX7_tick_20 : decode cX7_tick 20 = .ok (.getfield 85, 3) := by decide +kernel
theorem dX7_tick_23 : decode cX7_tick 23 = .ok (.iload_n 1, 1) := by decide +kernel
theorem dX7_tick_24 : decode cX7_tick 24 = .ok (.iadd, 1) := by decide +kernel
theorem dX7_tick_25 : decode cX7_tick 25 = .ok (.sipush 9999, 3) := by decide +kernel
theorem dX7_tick_28 : decode cX7_tick 28 = .ok (.if_icmp .le 6, 3) := by decide +kernel
theorem dX7_tick_31 : decode cX7_tick 31 = .ok (.bipush (-2), 2) := by decide +kernel
theorem dX7_tick_33 : decode cX7_tick 33 = .ok (.ireturn, 1) := by decide +kernel
theorem dX7_tick_34 : decode cX7_tick 34 = .ok (.aload_n 0, 1) := by decide +kernel
theorem dX7_tick_35 : decode cX7_tick 35 = .ok (.getfield 49, 3) := by decide +kernel
theorem dX7_tick_38 : decode cX7_tick 38 = .ok (.aload_n 0, 1) := by decide +kernel
theorem dX7_tick_39 : decode cX7_tick 39 = .ok (.getfield 39, 3) := by decide +kernel
theorem dX7_tick_42 : decode cX7_tick 42 = .ok (.invokevirtual 90, 3) := by decide +kernel
theorem dX7_tick_45 : decode cX7_tick 45 = .ok (.aload_n 0, 1) := by decide +kernel
theorem dX7_tick_46 : decode cX7_tick 46 = .ok (.getfield 39, 3) := by decide +kernel
theorem dX7_tick_49 : decode cX7_tick 49 = .ok (.getfield 81, 3) := by decide +kernel
theorem dX7_tick_52 : decode cX7_tick 52 = .ok (.getfield 94, 3) := by decide +kernel
theorem dX7_tick_55 : decode cX7_tick 55 = .ok (.istore_n 2, 1) := by decide +kernel
theorem dX7_tick_56 : decode cX7_tick 56 = .ok (.iconst 0, 1) := by decide +kernel
theorem dX7_tick_57 : decode cX7_tick 57 = .ok (.istore_n 3, 1) := by decide +kernel
theorem dX7_tick_58 : decode cX7_tick 58 = .ok (.iload_n 3, 1) := by decide +kernel
theorem dX7_tick_59 : decode cX7_tick 59 = .ok (.iload_n 1, 1) := by decide +kernel
theorem dX7_tick_60 : decode cX7_tick 60 = .ok (.if_icmp .ge 16, 3) := by decide +kernel
theorem dX7_tick_63 : decode cX7_tick 63 = .ok (.aload_n 0, 1) := by decide +kernel
theorem dX7_tick_64 : decode cX7_tick 64 = .ok (.getfield 39, 3) := by decide +kernel
theorem dX7_tick_67 : decode cX7_tick 67 = .ok (.invokevirtual 97, 3) := by decide +kernel
theorem dX7_tick_70 : decode cX7_tick 70 = .ok (.iinc 3 1, 3) := by decide +kernel
theorem dX7_tick_73 : decode cX7_tick 73 = .ok (.goto (-15), 3) := by decide +kernel
theorem dX7_tick_76 : decode cX7_tick 76 = .ok (.aload_n 0, 1) := by decide +kernel
theorem dX7_tick_77 : decode cX7_tick 77 = .ok (.getfield 39, 3) := by decide +kernel
theorem dX7_tick_80 : decode cX7_tick 80 = .ok (.getfield 81, 3) := by decide +kernel
theorem dX7_tick_83 : decode cX7_tick 83 = .ok (.getfield 94, 3) := by decide +kernel
theorem dX7_tick_86 : decode cX7_tick 86 = .ok (.iload_n 2, 1) := by decide +kernel
theorem dX7_tick_87 : decode cX7_tick 87 = .ok (.isub, 1) := by decide +kernel
theorem dX7_tick_88 : decode cX7_tick 88 = .ok (.ireturn, 1) := by decide +kernel
theorem dX7_renew_0 : decode cX7_renew 0 = .ok (.aload_n 0, 1) := by decide +kernel
theorem dX7_renew_1 : decode cX7_renew 1 = .ok (.getfield 23, 3) := by decide +kernel
theorem dX7_renew_4 : decode cX7_renew 4 = .ok (.iload_n 1, 1) := by decide +kernel
theorem dX7_renew_5 : decode cX7_renew 5 = .ok (.invokevirtual 100, 3) := by decide +kernel
theorem dX7_renew_8 : decode cX7_renew 8 = .ok (.ifCond .ne 5, 3) := by decide +kernel
theorem dX7_renew_11 : decode cX7_renew 11 = .ok (.iconst (-1), 1) := by decide +kernel
theorem dX7_renew_12 : decode cX7_renew 12 = .ok (.ireturn, 1) := by decide +kernel
theorem dX7_renew_13 : decode cX7_renew 13 = .ok (.aload_n 0, 1) := by decide +kernel
theorem dX7_renew_14 : decode cX7_renew 14 = .ok (.getfield 49, 3) := by decide +kernel
theorem dX7_renew_17 : decode cX7_renew 17 = .ok (.aload_n 0, 1) := by decide +kernel
theorem dX7_renew_18 : decode cX7_renew 18 = .ok (.getfield 39, 3) := by decide +kernel
theorem dX7_renew_21 : decode cX7_renew 21 = .ok (.invokevirtual 90, 3) := by decide +kernel
theorem dX7_renew_24 : decode cX7_renew 24 = .ok (.aload_n 0, 1) := by decide +kernel
theorem dX7_renew_25 : decode cX7_renew 25 = .ok (.getfield 39, 3) := by decide +kernel
theorem dX7_renew_28 : decode cX7_renew 28 = .ok (.getfield 81, 3) := by decide +kernel
theorem dX7_renew_31 : decode cX7_renew 31 = .ok (.iload_n 1, 1) := by decide +kernel
theorem dX7_renew_32 : decode cX7_renew 32 = .ok (.invokevirtual 103, 3) := by decide +kernel
theorem dX7_renew_35 : decode cX7_renew 35 = .ok (.ireturn, 1) := by decide +kernel
theorem dX7_weigh_0 : decode cX7_weigh 0 = .ok (.aload_n 0, 1) := by decide +kernel
theorem dX7_weigh_1 : decode cX7_weigh 1 = .ok (.getfield 23, 3) := by decide +kernel
theorem dX7_weigh_4 : decode cX7_weigh 4 = .ok (.iload_n 1, 1) := by decide +kernel
theorem dX7_weigh_5 : decode cX7_weigh 5 = .ok (.invokevirtual 100, 3) := by decide +kernel
theorem dX7_weigh_8 : decode cX7_weigh 8 = .ok (.ifCond .eq 14, 3) := by decide +kernel
theorem dX7_weigh_11 : decode cX7_weigh 11 = .ok (.iload_n 2, 1) := by decide +kernel
theorem dX7_weigh_12 : decode cX7_weigh 12 = .ok (.iconst 1, 1) := by decide +kernel
theorem dX7_weigh_13 : decode cX7_weigh 13 = .ok (.if_icmp .lt 9, 3) := by decide +kernel
theorem dX7_weigh_16 : decode cX7_weigh 16 = .ok (.iload_n 2, 1) := by decide +kernel
theorem dX7_weigh_17 : decode cX7_weigh 17 = .ok (.bipush 9, 2) := by decide +kernel
theorem dX7_weigh_19 : decode cX7_weigh 19 = .ok (.if_icmp .le 5, 3) := by decide +kernel
theorem dX7_weigh_22 : decode cX7_weigh 22 = .ok (.iconst (-1), 1) := by decide +kernel
theorem dX7_weigh_23 : decode cX7_weigh 23 = .ok (.ireturn, 1) := by decide +kernel
theorem dX7_weigh_24 : decode cX7_weigh 24 = .ok (.aload_n 0, 1) := by decide +kernel
theorem dX7_weigh_25 : decode cX7_weigh 25 = .ok (.getfield 39, 3) := by decide +kernel
theorem dX7_weigh_28 : decode cX7_weigh 28 = .ok (.getfield 81, 3) := by decide +kernel
theorem dX7_weigh_31 : decode cX7_weigh 31 = .ok (.getfield 107, 3) := by decide +kernel
theorem dX7_weigh_34 : decode cX7_weigh 34 = .ok (.iload_n 1, 1) := by decide +kernel
theorem dX7_weigh_35 : decode cX7_weigh 35 = .ok (.iaload, 1) := by decide +kernel
theorem dX7_weigh_36 : decode cX7_weigh 36 = .ok (.istore_n 3, 1) := by decide +kernel
theorem dX7_weigh_37 : decode cX7_weigh 37 = .ok (.iload_n 3, 1) := by decide +kernel
theorem dX7_weigh_38 : decode cX7_weigh 38 = .ok (.iload_n 2, 1) := by decide +kernel
theorem dX7_weigh_39 : decode cX7_weigh 39 = .ok (.if_icmp .ne 6, 3) := by decide +kernel
theorem dX7_weigh_42 : decode cX7_weigh 42 = .ok (.bipush (-2), 2) := by decide +kernel
theorem dX7_weigh_44 : decode cX7_weigh 44 = .ok (.ireturn, 1) := by decide +kernel
theorem dX7_weigh_45 : decode cX7_weigh 45 = .ok (.aload_n 0, 1) := by decide +kernel
theorem dX7_weigh_46 : decode cX7_weigh 46 = .ok (.getfield 49, 3) := by decide +kernel
theorem dX7_weigh_49 : decode cX7_weigh 49 = .ok (.aload_n 0, 1) := by decide +kernel
theorem dX7_weigh_50 : decode cX7_weigh 50 = .ok (.getfield 39, 3) := by decide +kernel
theorem dX7_weigh_53 : decode cX7_weigh 53 = .ok (.invokevirtual 90, 3) := by decide +kernel
theorem dX7_weigh_56 : decode cX7_weigh 56 = .ok (.aload_n 0, 1) := by decide +kernel
theorem dX7_weigh_57 : decode cX7_weigh 57 = .ok (.getfield 39, 3) := by decide +kernel
theorem dX7_weigh_60 : decode cX7_weigh 60 = .ok (.getfield 81, 3) := by decide +kernel
theorem dX7_weigh_63 : decode cX7_weigh 63 = .ok (.getfield 107, 3) := by decide +kernel
theorem dX7_weigh_66 : decode cX7_weigh 66 = .ok (.iload_n 1, 1) := by decide +kernel
theorem dX7_weigh_67 : decode cX7_weigh 67 = .ok (.iload_n 2, 1) := by decide +kernel
theorem dX7_weigh_68 : decode cX7_weigh 68 = .ok (.iastore, 1) := by decide +kernel
theorem dX7_weigh_69 : decode cX7_weigh 69 = .ok (.iload_n 3, 1) := by decide +kernel
theorem dX7_weigh_70 : decode cX7_weigh 70 = .ok (.ireturn, 1) := by decide +kernel
theorem dX7_join_0 : decode cX7_join 0 = .ok (.iload_n 1, 1) := by decide +kernel
theorem dX7_join_1 : decode cX7_join 1 = .ok (.ifCond .lt 9, 3) := by decide +kernel
theorem dX7_join_4 : decode cX7_join 4 = .ok (.iload_n 1, 1) := by decide +kernel
theorem dX7_join_5 : decode cX7_join 5 = .ok (.bipush 99, 2) := by decide +kernel
theorem dX7_join_7 : decode cX7_join 7 = .ok (.if_icmp .le 5, 3) := by decide +kernel
theorem dX7_join_10 : decode cX7_join 10 = .ok (.iconst (-1), 1) := by decide +kernel
theorem dX7_join_11 : decode cX7_join 11 = .ok (.ireturn, 1) := by decide +kernel
theorem dX7_join_12 : decode cX7_join 12 = .ok (.aload_n 0, 1) := by decide +kernel
theorem dX7_join_13 : decode cX7_join 13 = .ok (.getfield 39, 3) := by decide +kernel
theorem dX7_join_16 : decode cX7_join 16 = .ok (.invokevirtual 111, 3) := by decide +kernel
theorem dX7_join_19 : decode cX7_join 19 = .ok (.ifCond .ne 6, 3) := by decide +kernel
theorem dX7_join_22 : decode cX7_join 22 = .ok (.bipush (-3), 2) := by decide +kernel
theorem dX7_join_24 : decode cX7_join 24 = .ok (.ireturn, 1) := by decide +kernel
theorem dX7_join_25 : decode cX7_join 25 = .ok (.aload_n 0, 1) := by decide +kernel
theorem dX7_join_26 : decode cX7_join 26 = .ok (.getfield 49, 3) := by decide +kernel
theorem dX7_join_29 : decode cX7_join 29 = .ok (.aload_n 0, 1) := by decide +kernel
theorem dX7_join_30 : decode cX7_join 30 = .ok (.getfield 39, 3) := by decide +kernel
theorem dX7_join_33 : decode cX7_join 33 = .ok (.invokevirtual 90, 3) := by decide +kernel
theorem dX7_join_36 : decode cX7_join 36 = .ok (.aload_n 0, 1) := by decide +kernel
theorem dX7_join_37 : decode cX7_join 37 = .ok (.getfield 39, 3) := by decide +kernel
theorem dX7_join_40 : decode cX7_join 40 = .ok (.iload_n 1, 1) := by decide +kernel
theorem dX7_join_41 : decode cX7_join 41 = .ok (.invokevirtual 115, 3) := by decide +kernel
theorem dX7_join_44 : decode cX7_join 44 = .ok (.ireturn, 1) := by decide +kernel
theorem dX7_repair_0 : decode cX7_repair 0 = .ok (.aload_n 0, 1) := by decide +kernel
theorem dX7_repair_1 : decode cX7_repair 1 = .ok (.getfield 39, 3) := by decide +kernel
theorem dX7_repair_4 : decode cX7_repair 4 = .ok (.iload_n 1, 1) := by decide +kernel
theorem dX7_repair_5 : decode cX7_repair 5 = .ok (.invokevirtual 118, 3) := by decide +kernel
theorem dX7_repair_8 : decode cX7_repair 8 = .ok (.ifCond .eq 14, 3) := by decide +kernel
theorem dX7_repair_11 : decode cX7_repair 11 = .ok (.aload_n 0, 1) := by decide +kernel
theorem dX7_repair_12 : decode cX7_repair 12 = .ok (.getfield 23, 3) := by decide +kernel
theorem dX7_repair_15 : decode cX7_repair 15 = .ok (.iload_n 2, 1) := by decide +kernel
theorem dX7_repair_16 : decode cX7_repair 16 = .ok (.invokevirtual 100, 3) := by decide +kernel
theorem dX7_repair_19 : decode cX7_repair 19 = .ok (.ifCond .ne 5, 3) := by decide +kernel
theorem dX7_repair_22 : decode cX7_repair 22 = .ok (.iconst (-1), 1) := by decide +kernel
theorem dX7_repair_23 : decode cX7_repair 23 = .ok (.ireturn, 1) := by decide +kernel
theorem dX7_repair_24 : decode cX7_repair 24 = .ok (.aload_n 0, 1) := by decide +kernel
theorem dX7_repair_25 : decode cX7_repair 25 = .ok (.getfield 39, 3) := by decide +kernel
theorem dX7_repair_28 : decode cX7_repair 28 = .ok (.getfield 121, 3) := by decide +kernel
theorem dX7_repair_31 : decode cX7_repair 31 = .ok (.iload_n 1, 1) := by decide +kernel
theorem dX7_repair_32 : decode cX7_repair 32 = .ok (.aaload, 1) := by decide +kernel
theorem dX7_repair_33 : decode cX7_repair 33 = .ok (.astore_n 3, 1) := by decide +kernel
theorem dX7_repair_34 : decode cX7_repair 34 = .ok (.aload_n 3, 1) := by decide +kernel
theorem dX7_repair_35 : decode cX7_repair 35 = .ok (.aload_n 0, 1) := by decide +kernel
theorem dX7_repair_36 : decode cX7_repair 36 = .ok (.getfield 39, 3) := by decide +kernel
theorem dX7_repair_39 : decode cX7_repair 39 = .ok (.getfield 81, 3) := by decide +kernel
theorem dX7_repair_42 : decode cX7_repair 42 = .ok (.getfield 85, 3) := by decide +kernel
theorem dX7_repair_45 : decode cX7_repair 45 = .ok (.invokevirtual 125, 3) := by decide +kernel
theorem dX7_repair_48 : decode cX7_repair 48 = .ok (.ifCond .eq 11, 3) := by decide +kernel
theorem dX7_repair_51 : decode cX7_repair 51 = .ok (.aload_n 3, 1) := by decide +kernel
theorem dX7_repair_52 : decode cX7_repair 52 = .ok (.iload_n 2, 1) := by decide +kernel
theorem dX7_repair_53 : decode cX7_repair 53 = .ok (.invokevirtual 130, 3) := by decide +kernel
theorem dX7_repair_56 : decode cX7_repair 56 = .ok (.ifCond .ne 6, 3) := by decide +kernel
theorem dX7_repair_59 : decode cX7_repair 59 = .ok (.bipush (-2), 2) := by decide +kernel
theorem dX7_repair_61 : decode cX7_repair 61 = .ok (.ireturn, 1) := by decide +kernel
theorem dX7_repair_62 : decode cX7_repair 62 = .ok (.aload_n 0, 1) := by decide +kernel
theorem dX7_repair_63 : decode cX7_repair 63 = .ok (.getfield 49, 3) := by decide +kernel
theorem dX7_repair_66 : decode cX7_repair 66 = .ok (.aload_n 0, 1) := by decide +kernel
theorem dX7_repair_67 : decode cX7_repair 67 = .ok (.getfield 39, 3) := by decide +kernel
theorem dX7_repair_70 : decode cX7_repair 70 = .ok (.invokevirtual 90, 3) := by decide +kernel
theorem dX7_repair_73 : decode cX7_repair 73 = .ok (.aload_n 3, 1) := by decide +kernel
theorem dX7_repair_74 : decode cX7_repair 74 = .ok (.iload_n 2, 1) := by decide +kernel
theorem dX7_repair_75 : decode cX7_repair 75 = .ok (.invokevirtual 133, 3) := by decide +kernel
theorem dX7_repair_78 : decode cX7_repair 78 = .ok (.ireturn, 1) := by decide +kernel
theorem dX7_undo_0 : decode cX7_undo 0 = .ok (.aload_n 0, 1) := by decide +kernel
theorem dX7_undo_1 : decode cX7_undo 1 = .ok (.getfield 49, 3) := by decide +kernel
theorem dX7_undo_4 : decode cX7_undo 4 = .ok (.aload_n 0, 1) := by decide +kernel
theorem dX7_undo_5 : decode cX7_undo 5 = .ok (.getfield 39, 3) := by decide +kernel
theorem dX7_undo_8 : decode cX7_undo 8 = .ok (.invokevirtual 136, 3) := by decide +kernel
theorem dX7_undo_11 : decode cX7_undo 11 = .ok (.ifCond .eq 13, 3) := by decide +kernel
theorem dX7_undo_14 : decode cX7_undo 14 = .ok (.aload_n 0, 1) := by decide +kernel
theorem dX7_undo_15 : decode cX7_undo 15 = .ok (.getfield 49, 3) := by decide +kernel
theorem dX7_undo_18 : decode cX7_undo 18 = .ok (.getfield 140, 3) := by decide +kernel
theorem dX7_undo_21 : decode cX7_undo 21 = .ok (.goto 5, 3) := by decide +kernel
theorem dX7_undo_24 : decode cX7_undo 24 = .ok (.bipush (-2), 2) := by decide +kernel
theorem dX7_undo_26 : decode cX7_undo 26 = .ok (.ireturn, 1) := by decide +kernel
theorem dX7_file_0 : decode cX7_file 0 = .ok (.aload_n 0, 1) := by decide +kernel
theorem dX7_file_1 : decode cX7_file 1 = .ok (.getfield 23, 3) := by decide +kernel
theorem dX7_file_4 : decode cX7_file 4 = .ok (.iload_n 1, 1) := by decide +kernel
theorem dX7_file_5 : decode cX7_file 5 = .ok (.invokevirtual 100, 3) := by decide +kernel
theorem dX7_file_8 : decode cX7_file 8 = .ok (.ifCond .ne 5, 3) := by decide +kernel
theorem dX7_file_11 : decode cX7_file 11 = .ok (.iconst (-1), 1) := by decide +kernel
theorem dX7_file_12 : decode cX7_file 12 = .ok (.ireturn, 1) := by decide +kernel
theorem dX7_file_13 : decode cX7_file 13 = .ok (.aload_n 0, 1) := by decide +kernel
theorem dX7_file_14 : decode cX7_file 14 = .ok (.getfield 39, 3) := by decide +kernel
theorem dX7_file_17 : decode cX7_file 17 = .ok (.getfield 81, 3) := by decide +kernel
theorem dX7_file_20 : decode cX7_file 20 = .ok (.astore_n 3, 1) := by decide +kernel
theorem dX7_file_21 : decode cX7_file 21 = .ok (.iload_n 2, 1) := by decide +kernel
theorem dX7_file_22 : decode cX7_file 22 = .ok (.tableswitch 119 0 7 #[46, 56, 66, 73, 80, 87, 98, 105], 46) := by decide +kernel
theorem dX7_file_68 : decode cX7_file 68 = .ok (.aload_n 0, 1) := by decide +kernel
theorem dX7_file_69 : decode cX7_file 69 = .ok (.getfield 23, 3) := by decide +kernel
theorem dX7_file_72 : decode cX7_file 72 = .ok (.getfield 143, 3) := by decide +kernel
theorem dX7_file_75 : decode cX7_file 75 = .ok (.iload_n 1, 1) := by decide +kernel
theorem dX7_file_76 : decode cX7_file 76 = .ok (.iaload, 1) := by decide +kernel
theorem dX7_file_77 : decode cX7_file 77 = .ok (.ireturn, 1) := by decide +kernel
theorem dX7_file_78 : decode cX7_file 78 = .ok (.aload_n 0, 1) := by decide +kernel
theorem dX7_file_79 : decode cX7_file 79 = .ok (.getfield 23, 3) := by decide +kernel
theorem dX7_file_82 : decode cX7_file 82 = .ok (.getfield 146, 3) := by decide +kernel
theorem dX7_file_85 : decode cX7_file 85 = .ok (.iload_n 1, 1) := by decide +kernel
theorem dX7_file_86 : decode cX7_file 86 = .ok (.iaload, 1) := by decide +kernel
theorem dX7_file_87 : decode cX7_file 87 = .ok (.ireturn, 1) := by decide +kernel
theorem dX7_file_88 : decode cX7_file 88 = .ok (.aload_n 3, 1) := by decide +kernel
theorem dX7_file_89 : decode cX7_file 89 = .ok (.getfield 107, 3) := by decide +kernel
theorem dX7_file_92 : decode cX7_file 92 = .ok (.iload_n 1, 1) := by decide +kernel
theorem dX7_file_93 : decode cX7_file 93 = .ok (.iaload, 1) := by decide +kernel
theorem dX7_file_94 : decode cX7_file 94 = .ok (.ireturn, 1) := by decide +kernel
theorem dX7_file_95 : decode cX7_file 95 = .ok (.aload_n 3, 1) := by decide +kernel
theorem dX7_file_96 : decode cX7_file 96 = .ok (.getfield 149, 3) := by decide +kernel
theorem dX7_file_99 : decode cX7_file 99 = .ok (.iload_n 1, 1) := by decide +kernel
theorem dX7_file_100 : decode cX7_file 100 = .ok (.iaload, 1) := by decide +kernel
theorem dX7_file_101 : decode cX7_file 101 = .ok (.ireturn, 1) := by decide +kernel
theorem dX7_file_102 : decode cX7_file 102 = .ok (.aload_n 3, 1) := by decide +kernel
theorem dX7_file_103 : decode cX7_file 103 = .ok (.getfield 152, 3) := by decide +kernel
theorem dX7_file_106 : decode cX7_file 106 = .ok (.iload_n 1, 1) := by decide +kernel
theorem dX7_file_107 : decode cX7_file 107 = .ok (.iaload, 1) := by decide +kernel
theorem dX7_file_108 : decode cX7_file 108 = .ok (.ireturn, 1) := by decide +kernel
theorem dX7_file_109 : decode cX7_file 109 = .ok (.aload_n 3, 1) := by decide +kernel
theorem dX7_file_110 : decode cX7_file 110 = .ok (.getfield 155, 3) := by decide +kernel
theorem dX7_file_113 : decode cX7_file 113 = .ok (.iload_n 1, 1) := by decide +kernel
theorem dX7_file_114 : decode cX7_file 114 = .ok (.iaload, 1) := by decide +kernel
theorem dX7_file_115 : decode cX7_file 115 = .ok (.sipush 1000, 3) := by decide +kernel
theorem dX7_file_118 : decode cX7_file 118 = .ok (.iadd, 1) := by decide +kernel
theorem dX7_file_119 : decode cX7_file 119 = .ok (.ireturn, 1) := by decide +kernel
theorem dX7_file_120 : decode cX7_file 120 = .ok (.aload_n 3, 1) := by decide +kernel
theorem dX7_file_121 : decode cX7_file 121 = .ok (.getfield 158, 3) := by decide +kernel
theorem dX7_file_124 : decode cX7_file 124 = .ok (.iload_n 1, 1) := by decide +kernel
theorem dX7_file_125 : decode cX7_file 125 = .ok (.iaload, 1) := by decide +kernel
theorem dX7_file_126 : decode cX7_file 126 = .ok (.ireturn, 1) := by decide +kernel
theorem dX7_file_127 : decode cX7_file 127 = .ok (.aload_n 3, 1) := by decide +kernel
theorem dX7_file_128 : decode cX7_file 128 = .ok (.getfield 158, 3) := by decide +kernel
theorem dX7_file_131 : decode cX7_file 131 = .ok (.iload_n 1, 1) := by decide +kernel
theorem dX7_file_132 : decode cX7_file 132 = .ok (.iaload, 1) := by decide +kernel
theorem dX7_file_133 : decode cX7_file 133 = .ok (.aload_n 3, 1) := by decide +kernel
theorem dX7_file_134 : decode cX7_file 134 = .ok (.getfield 94, 3) := by decide +kernel
theorem dX7_file_137 : decode cX7_file 137 = .ok (.invokestatic 161, 3) := by decide +kernel
theorem dX7_file_140 : decode cX7_file 140 = .ok (.ireturn, 1) := by decide +kernel
theorem dX7_file_141 : decode cX7_file 141 = .ok (.iconst (-1), 1) := by decide +kernel
theorem dX7_file_142 : decode cX7_file 142 = .ok (.ireturn, 1) := by decide +kernel
theorem dX7_sent_0 : decode cX7_sent 0 = .ok (.iload_n 1, 1) := by decide +kernel
theorem dX7_sent_1 : decode cX7_sent 1 = .ok (.ifCond .lt 18, 3) := by decide +kernel
theorem dX7_sent_4 : decode cX7_sent 4 = .ok (.iload_n 1, 1) := by decide +kernel
theorem dX7_sent_5 : decode cX7_sent 5 = .ok (.bipush 10, 2) := by decide +kernel
theorem dX7_sent_7 : decode cX7_sent 7 = .ok (.if_icmp .ge 12, 3) := by decide +kernel
theorem dX7_sent_10 : decode cX7_sent 10 = .ok (.iload_n 2, 1) := by decide +kernel
theorem dX7_sent_11 : decode cX7_sent 11 = .ok (.ifCond .lt 8, 3) := by decide +kernel
theorem dX7_sent_14 : decode cX7_sent 14 = .ok (.iload_n 2, 1) := by decide +kernel
theorem dX7_sent_15 : decode cX7_sent 15 = .ok (.iconst 3, 1) := by decide +kernel
theorem dX7_sent_16 : decode cX7_sent 16 = .ok (.if_icmp .le 5, 3) := by decide +kernel
theorem dX7_sent_19 : decode cX7_sent 19 = .ok (.iconst (-1), 1) := by decide +kernel
theorem dX7_sent_20 : decode cX7_sent 20 = .ok (.ireturn, 1) := by decide +kernel
theorem dX7_sent_21 : decode cX7_sent 21 = .ok (.aload_n 0, 1) := by decide +kernel
theorem dX7_sent_22 : decode cX7_sent 22 = .ok (.getfield 39, 3) := by decide +kernel
theorem dX7_sent_25 : decode cX7_sent 25 = .ok (.getfield 81, 3) := by decide +kernel
theorem dX7_sent_28 : decode cX7_sent 28 = .ok (.getfield 85, 3) := by decide +kernel
theorem dX7_sent_31 : decode cX7_sent 31 = .ok (.iconst 1, 1) := by decide +kernel
theorem dX7_sent_32 : decode cX7_sent 32 = .ok (.isub, 1) := by decide +kernel
theorem dX7_sent_33 : decode cX7_sent 33 = .ok (.iload_n 1, 1) := by decide +kernel
theorem dX7_sent_34 : decode cX7_sent 34 = .ok (.isub, 1) := by decide +kernel
theorem dX7_sent_35 : decode cX7_sent 35 = .ok (.istore_n 3, 1) := by decide +kernel
theorem dX7_sent_36 : decode cX7_sent 36 = .ok (.iload_n 3, 1) := by decide +kernel
theorem dX7_sent_37 : decode cX7_sent 37 = .ok (.ifCond .ge 6, 3) := by decide +kernel
theorem dX7_sent_40 : decode cX7_sent 40 = .ok (.bipush (-4), 2) := by decide +kernel
theorem dX7_sent_42 : decode cX7_sent 42 = .ok (.ireturn, 1) := by decide +kernel
theorem dX7_sent_43 : decode cX7_sent 43 = .ok (.iload_n 2, 1) := by decide +kernel
theorem dX7_sent_44 : decode cX7_sent 44 = .ok (.tableswitch 64 0 2 #[28, 40, 52], 28) := by decide +kernel
theorem dX7_sent_72 : decode cX7_sent 72 = .ok (.aload_n 0, 1) := by decide +kernel
theorem dX7_sent_73 : decode cX7_sent 73 = .ok (.getfield 39, 3) := by decide +kernel
theorem dX7_sent_76 : decode cX7_sent 76 = .ok (.getfield 81, 3) := by decide +kernel
theorem dX7_sent_79 : decode cX7_sent 79 = .ok (.iload_n 3, 1) := by decide +kernel
theorem dX7_sent_80 : decode cX7_sent 80 = .ok (.invokevirtual 165, 3) := by decide +kernel
theorem dX7_sent_83 : decode cX7_sent 83 = .ok (.ireturn, 1) := by decide +kernel
theorem dX7_sent_84 : decode cX7_sent 84 = .ok (.aload_n 0, 1) := by decide +kernel
theorem dX7_sent_85 : decode cX7_sent 85 = .ok (.getfield 39, 3) := by decide +kernel
theorem dX7_sent_88 : decode cX7_sent 88 = .ok (.getfield 81, 3) := by decide +kernel
theorem dX7_sent_91 : decode cX7_sent 91 = .ok (.iload_n 3, 1) := by decide +kernel
theorem dX7_sent_92 : decode cX7_sent 92 = .ok (.invokevirtual 168, 3) := by decide +kernel
theorem dX7_sent_95 : decode cX7_sent 95 = .ok (.ireturn, 1) := by decide +kernel
theorem dX7_sent_96 : decode cX7_sent 96 = .ok (.aload_n 0, 1) := by decide +kernel
theorem dX7_sent_97 : decode cX7_sent 97 = .ok (.getfield 39, 3) := by decide +kernel
theorem dX7_sent_100 : decode cX7_sent 100 = .ok (.getfield 81, 3) := by decide +kernel
theorem dX7_sent_103 : decode cX7_sent 103 = .ok (.iload_n 3, 1) := by decide +kernel
theorem dX7_sent_104 : decode cX7_sent 104 = .ok (.invokevirtual 171, 3) := by decide +kernel
theorem dX7_sent_107 : decode cX7_sent 107 = .ok (.ireturn, 1) := by decide +kernel
theorem dX7_sent_108 : decode cX7_sent 108 = .ok (.iload_n 3, 1) := by decide +kernel
theorem dX7_sent_109 : decode cX7_sent 109 = .ok (.ireturn, 1) := by decide +kernel
theorem dX7_listener_0 : decode cX7_listener 0 = .ok (.aload_n 0, 1) := by decide +kernel
theorem dX7_listener_1 : decode cX7_listener 1 = .ok (.getfield 39, 3) := by decide +kernel
theorem dX7_listener_4 : decode cX7_listener 4 = .ok (.iload_n 1, 1) := by decide +kernel
theorem dX7_listener_5 : decode cX7_listener 5 = .ok (.invokevirtual 118, 3) := by decide +kernel
theorem dX7_listener_8 : decode cX7_listener 8 = .ok (.ifCond .ne 5, 3) := by decide +kernel
theorem dX7_listener_11 : decode cX7_listener 11 = .ok (.iconst (-1), 1) := by decide +kernel
theorem dX7_listener_12 : decode cX7_listener 12 = .ok (.ireturn, 1) := by decide +kernel
theorem dX7_listener_13 : decode cX7_listener 13 = .ok (.aload_n 0, 1) := by decide +kernel
theorem dX7_listener_14 : decode cX7_listener 14 = .ok (.getfield 39, 3) := by decide +kernel
theorem dX7_listener_17 : decode cX7_listener 17 = .ok (.getfield 121, 3) := by decide +kernel
theorem dX7_listener_20 : decode cX7_listener 20 = .ok (.iload_n 1, 1) := by decide +kernel
theorem dX7_listener_21 : decode cX7_listener 21 = .ok (.aaload, 1) := by decide +kernel
theorem dX7_listener_22 : decode cX7_listener 22 = .ok (.astore_n 3, 1) := by decide +kernel
theorem dX7_listener_23 : decode cX7_listener 23 = .ok (.iload_n 2, 1) := by decide +kernel
theorem dX7_listener_24 : decode cX7_listener 24 = .ok (.tableswitch 88 0 5 #[40, 45, 50, 73, 78, 83], 40) := by decide +kernel
theorem dX7_listener_64 : decode cX7_listener 64 = .ok (.aload_n 3, 1) := by decide +kernel
theorem dX7_listener_65 : decode cX7_listener 65 = .ok (.getfield 174, 3) := by decide +kernel
theorem dX7_listener_68 : decode cX7_listener 68 = .ok (.ireturn, 1) := by decide +kernel
theorem dX7_listener_69 : decode cX7_listener 69 = .ok (.aload_n 3, 1) := by decide +kernel
theorem dX7_listener_70 : decode cX7_listener 70 = .ok (.getfield 177, 3) := by decide +kernel
theorem dX7_listener_73 : decode cX7_listener 73 = .ok (.ireturn, 1) := by decide +kernel
theorem dX7_listener_74 : decode cX7_listener 74 = .ok (.aload_n 3, 1) := by decide +kernel
theorem dX7_listener_75 : decode cX7_listener 75 = .ok (.aload_n 0, 1) := by decide +kernel
theorem dX7_listener_76 : decode cX7_listener 76 = .ok (.getfield 39, 3) := by decide +kernel
theorem dX7_listener_79 : decode cX7_listener 79 = .ok (.getfield 81, 3) := by decide +kernel
theorem dX7_listener_82 : decode cX7_listener 82 = .ok (.getfield 85, 3) := by decide +kernel
theorem dX7_listener_85 : decode cX7_listener 85 = .ok (.invokevirtual 125, 3) := by decide +kernel
theorem dX7_listener_88 : decode cX7_listener 88 = .ok (.ifCond .eq 7, 3) := by decide +kernel
theorem dX7_listener_91 : decode cX7_listener 91 = .ok (.iconst 1, 1) := by decide +kernel
theorem dX7_listener_92 : decode cX7_listener 92 = .ok (.goto 4, 3) := by decide +kernel
theorem dX7_listener_95 : decode cX7_listener 95 = .ok (.iconst 0, 1) := by decide +kernel
theorem dX7_listener_96 : decode cX7_listener 96 = .ok (.ireturn, 1) := by decide +kernel
theorem dX7_listener_97 : decode cX7_listener 97 = .ok (.aload_n 3, 1) := by decide +kernel
theorem dX7_listener_98 : decode cX7_listener 98 = .ok (.getfield 180, 3) := by decide +kernel
theorem dX7_listener_101 : decode cX7_listener 101 = .ok (.ireturn, 1) := by decide +kernel
theorem dX7_listener_102 : decode cX7_listener 102 = .ok (.aload_n 3, 1) := by decide +kernel
theorem dX7_listener_103 : decode cX7_listener 103 = .ok (.invokevirtual 183, 3) := by decide +kernel
theorem dX7_listener_106 : decode cX7_listener 106 = .ok (.ireturn, 1) := by decide +kernel
theorem dX7_listener_107 : decode cX7_listener 107 = .ok (.aload_n 3, 1) := by decide +kernel
theorem dX7_listener_108 : decode cX7_listener 108 = .ok (.getfield 187, 3) := by decide +kernel
theorem dX7_listener_111 : decode cX7_listener 111 = .ok (.ireturn, 1) := by decide +kernel
theorem dX7_listener_112 : decode cX7_listener 112 = .ok (.iconst (-1), 1) := by decide +kernel
theorem dX7_listener_113 : decode cX7_listener 113 = .ok (.ireturn, 1) := by decide +kernel
theorem dX7_holds_0 : decode cX7_holds 0 = .ok (.aload_n 0, 1) := by decide +kernel
theorem dX7_holds_1 : decode cX7_holds 1 = .ok (.getfield 39, 3) := by decide +kernel
theorem dX7_holds_4 : decode cX7_holds 4 = .ok (.iload_n 1, 1) := by decide +kernel
theorem dX7_holds_5 : decode cX7_holds 5 = .ok (.invokevirtual 118, 3) := by decide +kernel
theorem dX7_holds_8 : decode cX7_holds 8 = .ok (.ifCond .eq 14, 3) := by decide +kernel
theorem dX7_holds_11 : decode cX7_holds 11 = .ok (.aload_n 0, 1) := by decide +kernel
theorem dX7_holds_12 : decode cX7_holds 12 = .ok (.getfield 23, 3) := by decide +kernel
theorem dX7_holds_15 : decode cX7_holds 15 = .ok (.iload_n 2, 1) := by decide +kernel
theorem dX7_holds_16 : decode cX7_holds 16 = .ok (.invokevirtual 100, 3) := by decide +kernel
theorem dX7_holds_19 : decode cX7_holds 19 = .ok (.ifCond .ne 5, 3) := by decide +kernel
theorem dX7_holds_22 : decode cX7_holds 22 = .ok (.iconst (-1), 1) := by decide +kernel
theorem dX7_holds_23 : decode cX7_holds 23 = .ok (.ireturn, 1) := by decide +kernel
theorem dX7_holds_24 : decode cX7_holds 24 = .ok (.aload_n 0, 1) := by decide +kernel
theorem dX7_holds_25 : decode cX7_holds 25 = .ok (.getfield 39, 3) := by decide +kernel
theorem dX7_holds_28 : decode cX7_holds 28 = .ok (.getfield 121, 3) := by decide +kernel
theorem dX7_holds_31 : decode cX7_holds 31 = .ok (.iload_n 1, 1) := by decide +kernel
theorem dX7_holds_32 : decode cX7_holds 32 = .ok (.aaload, 1) := by decide +kernel
theorem dX7_holds_33 : decode cX7_holds 33 = .ok (.astore 4, 2) := by decide +kernel
theorem dX7_holds_35 : decode cX7_holds 35 = .ok (.iload_n 3, 1) := by decide +kernel
theorem dX7_holds_36 : decode cX7_holds 36 = .ok (.tableswitch 51 0 2 #[28, 36, 44], 28) := by decide +kernel
theorem dX7_holds_64 : decode cX7_holds 64 = .ok (.aload 4, 2) := by decide +kernel
theorem dX7_holds_66 : decode cX7_holds 66 = .ok (.getfield 190, 3) := by decide +kernel
theorem dX7_holds_69 : decode cX7_holds 69 = .ok (.iload_n 2, 1) := by decide +kernel
theorem dX7_holds_70 : decode cX7_holds 70 = .ok (.iaload, 1) := by decide +kernel
theorem dX7_holds_71 : decode cX7_holds 71 = .ok (.ireturn, 1) := by decide +kernel
theorem dX7_holds_72 : decode cX7_holds 72 = .ok (.aload 4, 2) := by decide +kernel
theorem dX7_holds_74 : decode cX7_holds 74 = .ok (.getfield 193, 3) := by decide +kernel
theorem dX7_holds_77 : decode cX7_holds 77 = .ok (.iload_n 2, 1) := by decide +kernel
theorem dX7_holds_78 : decode cX7_holds 78 = .ok (.iaload, 1) := by decide +kernel
theorem dX7_holds_79 : decode cX7_holds 79 = .ok (.ireturn, 1) := by decide +kernel
theorem dX7_holds_80 : decode cX7_holds 80 = .ok (.aload 4, 2) := by decide +kernel
theorem dX7_holds_82 : decode cX7_holds 82 = .ok (.iload_n 2, 1) := by decide +kernel
theorem dX7_holds_83 : decode cX7_holds 83 = .ok (.invokevirtual 130, 3) := by decide +kernel
theorem dX7_holds_86 : decode cX7_holds 86 = .ok (.ireturn, 1) := by decide +kernel
theorem dX7_holds_87 : decode cX7_holds 87 = .ok (.iconst (-1), 1) := by decide +kernel
theorem dX7_holds_88 : decode cX7_holds 88 = .ok (.ireturn, 1) := by decide +kernel
theorem dX7_waits_0 : decode cX7_waits 0 = .ok (.aload_n 0, 1) := by decide +kernel
theorem dX7_waits_1 : decode cX7_waits 1 = .ok (.getfield 23, 3) := by decide +kernel
theorem dX7_waits_4 : decode cX7_waits 4 = .ok (.iload_n 1, 1) := by decide +kernel
theorem dX7_waits_5 : decode cX7_waits 5 = .ok (.invokevirtual 100, 3) := by decide +kernel
theorem dX7_waits_8 : decode cX7_waits 8 = .ok (.ifCond .eq 13, 3) := by decide +kernel
theorem dX7_waits_11 : decode cX7_waits 11 = .ok (.iload_n 2, 1) := by decide +kernel
theorem dX7_waits_12 : decode cX7_waits 12 = .ok (.ifCond .lt 9, 3) := by decide +kernel
theorem dX7_waits_15 : decode cX7_waits 15 = .ok (.iload_n 2, 1) := by decide +kernel
theorem dX7_waits_16 : decode cX7_waits 16 = .ok (.bipush 99, 2) := by decide +kernel
theorem dX7_waits_18 : decode cX7_waits 18 = .ok (.if_icmp .le 5, 3) := by decide +kernel
theorem dX7_waits_21 : decode cX7_waits 21 = .ok (.iconst (-1), 1) := by decide +kernel
theorem dX7_waits_22 : decode cX7_waits 22 = .ok (.ireturn, 1) := by decide +kernel
theorem dX7_waits_23 : decode cX7_waits 23 = .ok (.aload_n 0, 1) := by decide +kernel
theorem dX7_waits_24 : decode cX7_waits 24 = .ok (.getfield 56, 3) := by decide +kernel
theorem dX7_waits_27 : decode cX7_waits 27 = .ok (.aload_n 0, 1) := by decide +kernel
theorem dX7_waits_28 : decode cX7_waits 28 = .ok (.getfield 39, 3) := by decide +kernel
theorem dX7_waits_31 : decode cX7_waits 31 = .ok (.getfield 81, 3) := by decide +kernel
theorem dX7_waits_34 : decode cX7_waits 34 = .ok (.iload_n 1, 1) := by decide +kernel
theorem dX7_waits_35 : decode cX7_waits 35 = .ok (.iload_n 2, 1) := by decide +kernel
theorem dX7_waits_36 : decode cX7_waits 36 = .ok (.sipush 400, 3) := by decide +kernel
theorem dX7_waits_39 : decode cX7_waits 39 = .ok (.iadd, 1) := by decide +kernel
theorem dX7_waits_40 : decode cX7_waits 40 = .ok (.invokevirtual 196, 3) := by decide +kernel
theorem dX7_waits_43 : decode cX7_waits 43 = .ok (.aload_n 0, 1) := by decide +kernel
theorem dX7_waits_44 : decode cX7_waits 44 = .ok (.getfield 56, 3) := by decide +kernel
theorem dX7_waits_47 : decode cX7_waits 47 = .ok (.iload_n 2, 1) := by decide +kernel
theorem dX7_waits_48 : decode cX7_waits 48 = .ok (.invokevirtual 200, 3) := by decide +kernel
theorem dX7_waits_51 : decode cX7_waits 51 = .ok (.ireturn, 1) := by decide +kernel
theorem dX7_mean_0 : decode cX7_mean 0 = .ok (.aload_n 0, 1) := by decide +kernel
theorem dX7_mean_1 : decode cX7_mean 1 = .ok (.getfield 23, 3) := by decide +kernel
theorem dX7_mean_4 : decode cX7_mean 4 = .ok (.iload_n 1, 1) := by decide +kernel
theorem dX7_mean_5 : decode cX7_mean 5 = .ok (.invokevirtual 100, 3) := by decide +kernel
theorem dX7_mean_8 : decode cX7_mean 8 = .ok (.ifCond .eq 23, 3) := by decide +kernel
theorem dX7_mean_11 : decode cX7_mean 11 = .ok (.iload_n 2, 1) := by decide +kernel
theorem dX7_mean_12 : decode cX7_mean 12 = .ok (.iconst 1, 1) := by decide +kernel
theorem dX7_mean_13 : decode cX7_mean 13 = .ok (.if_icmp .lt 18, 3) := by decide +kernel
theorem dX7_mean_16 : decode cX7_mean 16 = .ok (.iload_n 2, 1) := by decide +kernel
theorem dX7_mean_17 : decode cX7_mean 17 = .ok (.bipush 40, 2) := by decide +kernel
theorem dX7_mean_19 : decode cX7_mean 19 = .ok (.if_icmp .gt 12, 3) := by decide +kernel
theorem dX7_mean_22 : decode cX7_mean 22 = .ok (.iload_n 3, 1) := by decide +kernel
theorem dX7_mean_23 : decode cX7_mean 23 = .ok (.ifCond .lt 8, 3) := by decide +kernel
theorem dX7_mean_26 : decode cX7_mean 26 = .ok (.iload_n 3, 1) := by decide +kernel
theorem dX7_mean_27 : decode cX7_mean 27 = .ok (.iconst 2, 1) := by decide +kernel
theorem dX7_mean_28 : decode cX7_mean 28 = .ok (.if_icmp .le 5, 3) := by decide +kernel
theorem dX7_mean_31 : decode cX7_mean 31 = .ok (.iconst (-1), 1) := by decide +kernel
theorem dX7_mean_32 : decode cX7_mean 32 = .ok (.ireturn, 1) := by decide +kernel
theorem dX7_mean_33 : decode cX7_mean 33 = .ok (.aload_n 0, 1) := by decide +kernel
theorem dX7_mean_34 : decode cX7_mean 34 = .ok (.getfield 56, 3) := by decide +kernel
theorem dX7_mean_37 : decode cX7_mean 37 = .ok (.aload_n 0, 1) := by decide +kernel
theorem dX7_mean_38 : decode cX7_mean 38 = .ok (.getfield 39, 3) := by decide +kernel
theorem dX7_mean_41 : decode cX7_mean 41 = .ok (.getfield 81, 3) := by decide +kernel
theorem dX7_mean_44 : decode cX7_mean 44 = .ok (.iload_n 1, 1) := by decide +kernel
theorem dX7_mean_45 : decode cX7_mean 45 = .ok (.iload_n 2, 1) := by decide +kernel
theorem dX7_mean_46 : decode cX7_mean 46 = .ok (.iconst 1, 1) := by decide +kernel
theorem dX7_mean_47 : decode cX7_mean 47 = .ok (.isub, 1) := by decide +kernel
theorem dX7_mean_48 : decode cX7_mean 48 = .ok (.sipush 400, 3) := by decide +kernel
theorem dX7_mean_51 : decode cX7_mean 51 = .ok (.iadd, 1) := by decide +kernel
theorem dX7_mean_52 : decode cX7_mean 52 = .ok (.invokevirtual 196, 3) := by decide +kernel
theorem dX7_mean_55 : decode cX7_mean 55 = .ok (.iconst 0, 1) := by decide +kernel
theorem dX7_mean_56 : decode cX7_mean 56 = .ok (.istore 4, 2) := by decide +kernel
theorem dX7_mean_58 : decode cX7_mean 58 = .ok (.iconst 0, 1) := by decide +kernel
theorem dX7_mean_59 : decode cX7_mean 59 = .ok (.istore 5, 2) := by decide +kernel
theorem dX7_mean_61 : decode cX7_mean 61 = .ok (.iconst 0, 1) := by decide +kernel
theorem dX7_mean_62 : decode cX7_mean 62 = .ok (.istore 6, 2) := by decide +kernel
theorem dX7_mean_64 : decode cX7_mean 64 = .ok (.iload 6, 2) := by decide +kernel
theorem dX7_mean_66 : decode cX7_mean 66 = .ok (.iload_n 2, 1) := by decide +kernel
theorem dX7_mean_67 : decode cX7_mean 67 = .ok (.if_icmp .ge 46, 3) := by decide +kernel
theorem dX7_mean_70 : decode cX7_mean 70 = .ok (.aload_n 0, 1) := by decide +kernel
theorem dX7_mean_71 : decode cX7_mean 71 = .ok (.getfield 56, 3) := by decide +kernel
theorem dX7_mean_74 : decode cX7_mean 74 = .ok (.iload 6, 2) := by decide +kernel
theorem dX7_mean_76 : decode cX7_mean 76 = .ok (.invokevirtual 200, 3) := by decide +kernel
theorem dX7_mean_79 : decode cX7_mean 79 = .ok (.istore 7, 2) := by decide +kernel
theorem dX7_mean_81 : decode cX7_mean 81 = .ok (.iload 7, 2) := by decide +kernel
theorem dX7_mean_83 : decode cX7_mean 83 = .ok (.bipush (-4), 2) := by decide +kernel
theorem dX7_mean_85 : decode cX7_mean 85 = .ok (.if_icmp .ne 6, 3) := by decide +kernel
theorem dX7_mean_88 : decode cX7_mean 88 = .ok (.bipush (-4), 2) := by decide +kernel
theorem dX7_mean_90 : decode cX7_mean 90 = .ok (.ireturn, 1) := by decide +kernel
theorem dX7_mean_91 : decode cX7_mean 91 = .ok (.iload 4, 2) := by decide +kernel
theorem dX7_mean_93 : decode cX7_mean 93 = .ok (.iload 7, 2) := by decide +kernel
theorem dX7_mean_95 : decode cX7_mean 95 = .ok (.iadd, 1) := by decide +kernel
theorem dX7_mean_96 : decode cX7_mean 96 = .ok (.istore 4, 2) := by decide +kernel
theorem dX7_mean_98 : decode cX7_mean 98 = .ok (.iload 5, 2) := by decide +kernel
theorem dX7_mean_100 : decode cX7_mean 100 = .ok (.iload 7, 2) := by decide +kernel
theorem dX7_mean_102 : decode cX7_mean 102 = .ok (.invokestatic 203, 3) := by decide +kernel
theorem dX7_mean_105 : decode cX7_mean 105 = .ok (.istore 5, 2) := by decide +kernel
theorem dX7_mean_107 : decode cX7_mean 107 = .ok (.iinc 6 1, 3) := by decide +kernel
theorem dX7_mean_110 : decode cX7_mean 110 = .ok (.goto (-46), 3) := by decide +kernel
theorem dX7_mean_113 : decode cX7_mean 113 = .ok (.iload 4, 2) := by decide +kernel
theorem dX7_mean_115 : decode cX7_mean 115 = .ok (.i2f, 1) := by decide +kernel
theorem dX7_mean_116 : decode cX7_mean 116 = .ok (.iload_n 2, 1) := by decide +kernel
theorem dX7_mean_117 : decode cX7_mean 117 = .ok (.i2f, 1) := by decide +kernel
theorem dX7_mean_118 : decode cX7_mean 118 = .ok (.fdiv, 1) := by decide +kernel
theorem dX7_mean_119 : decode cX7_mean 119 = .ok (.fstore 6, 2) := by decide +kernel
theorem dX7_mean_121 : decode cX7_mean 121 = .ok (.iload_n 3, 1) := by decide +kernel
theorem dX7_mean_122 : decode cX7_mean 122 = .ok (.lookupswitch 36 #[(0, 26), (1, 32)], 26) := by decide +kernel
theorem dX7_mean_148 : decode cX7_mean 148 = .ok (.fload 6, 2) := by decide +kernel
theorem dX7_mean_150 : decode cX7_mean 150 = .ok (.invokestatic 208, 3) := by decide +kernel
theorem dX7_mean_153 : decode cX7_mean 153 = .ok (.ireturn, 1) := by decide +kernel
theorem dX7_mean_154 : decode cX7_mean 154 = .ok (.fload 6, 2) := by decide +kernel
theorem dX7_mean_156 : decode cX7_mean 156 = .ok (.f2i, 1) := by decide +kernel
theorem dX7_mean_157 : decode cX7_mean 157 = .ok (.ireturn, 1) := by decide +kernel
theorem dX7_mean_158 : decode cX7_mean 158 = .ok (.iload 5, 2) := by decide +kernel
theorem dX7_mean_160 : decode cX7_mean 160 = .ok (.ireturn, 1) := by decide +kernel
theorem dX7_count_0 : decode cX7_count 0 = .ok (.iload_n 1, 1) := by decide +kernel
theorem dX7_count_1 : decode cX7_count 1 = .ok (.tableswitch 147 0 9 #[55, 63, 74, 82, 90, 98, 109, 120, 131, 139], 55) := by decide +kernel
theorem dX7_count_56 : decode cX7_count 56 = .ok (.aload_n 0, 1) := by decide +kernel
theorem dX7_count_57 : decode cX7_count 57 = .ok (.getfield 23, 3) := by decide +kernel
theorem dX7_count_60 : decode cX7_count 60 = .ok (.getfield 72, 3) := by decide +kernel
theorem dX7_count_63 : decode cX7_count 63 = .ok (.ireturn, 1) := by decide +kernel
theorem dX7_count_64 : decode cX7_count 64 = .ok (.aload_n 0, 1) := by decide +kernel
theorem dX7_count_65 : decode cX7_count 65 = .ok (.getfield 39, 3) := by decide +kernel
theorem dX7_count_68 : decode cX7_count 68 = .ok (.getfield 81, 3) := by decide +kernel
theorem dX7_count_71 : decode cX7_count 71 = .ok (.getfield 85, 3) := by decide +kernel
theorem dX7_count_74 : decode cX7_count 74 = .ok (.ireturn, 1) := by decide +kernel
theorem dX7_count_75 : decode cX7_count 75 = .ok (.aload_n 0, 1) := by decide +kernel
theorem dX7_count_76 : decode cX7_count 76 = .ok (.getfield 23, 3) := by decide +kernel
theorem dX7_count_79 : decode cX7_count 79 = .ok (.getfield 212, 3) := by decide +kernel
theorem dX7_count_82 : decode cX7_count 82 = .ok (.ireturn, 1) := by decide +kernel
theorem dX7_count_83 : decode cX7_count 83 = .ok (.aload_n 0, 1) := by decide +kernel
theorem dX7_count_84 : decode cX7_count 84 = .ok (.getfield 23, 3) := by decide +kernel
theorem dX7_count_87 : decode cX7_count 87 = .ok (.getfield 215, 3) := by decide +kernel
theorem dX7_count_90 : decode cX7_count 90 = .ok (.ireturn, 1) := by decide +kernel
theorem dX7_count_91 : decode cX7_count 91 = .ok (.aload_n 0, 1) := by decide +kernel
theorem dX7_count_92 : decode cX7_count 92 = .ok (.getfield 39, 3) := by decide +kernel
theorem dX7_count_95 : decode cX7_count 95 = .ok (.getfield 218, 3) := by decide +kernel
theorem dX7_count_98 : decode cX7_count 98 = .ok (.ireturn, 1) := by decide +kernel
theorem dX7_count_99 : decode cX7_count 99 = .ok (.aload_n 0, 1) := by decide +kernel
theorem dX7_count_100 : decode cX7_count 100 = .ok (.getfield 39, 3) := by decide +kernel
theorem dX7_count_103 : decode cX7_count 103 = .ok (.getfield 81, 3) := by decide +kernel
theorem dX7_count_106 : decode cX7_count 106 = .ok (.getfield 221, 3) := by decide +kernel
theorem dX7_count_109 : decode cX7_count 109 = .ok (.ireturn, 1) := by decide +kernel
theorem dX7_count_110 : decode cX7_count 110 = .ok (.aload_n 0, 1) := by decide +kernel
theorem dX7_count_111 : decode cX7_count 111 = .ok (.getfield 39, 3) := by decide +kernel
theorem dX7_count_114 : decode cX7_count 114 = .ok (.getfield 81, 3) := by decide +kernel
theorem dX7_count_117 : decode cX7_count 117 = .ok (.getfield 94, 3) := by decide +kernel
theorem dX7_count_120 : decode cX7_count 120 = .ok (.ireturn, 1) := by decide +kernel
theorem dX7_count_121 : decode cX7_count 121 = .ok (.aload_n 0, 1) := by decide +kernel
theorem dX7_count_122 : decode cX7_count 122 = .ok (.getfield 39, 3) := by decide +kernel
theorem dX7_count_125 : decode cX7_count 125 = .ok (.getfield 81, 3) := by decide +kernel
theorem dX7_count_128 : decode cX7_count 128 = .ok (.invokevirtual 224, 3) := by decide +kernel
theorem dX7_count_131 : decode cX7_count 131 = .ok (.ireturn, 1) := by decide +kernel
theorem dX7_count_132 : decode cX7_count 132 = .ok (.aload_n 0, 1) := by decide +kernel
theorem dX7_count_133 : decode cX7_count 133 = .ok (.getfield 49, 3) := by decide +kernel
theorem dX7_count_136 : decode cX7_count 136 = .ok (.getfield 140, 3) := by decide +kernel
theorem dX7_count_139 : decode cX7_count 139 = .ok (.ireturn, 1) := by decide +kernel
theorem dX7_count_140 : decode cX7_count 140 = .ok (.aload_n 0, 1) := by decide +kernel
theorem dX7_count_141 : decode cX7_count 141 = .ok (.getfield 12, 3) := by decide +kernel
theorem dX7_count_144 : decode cX7_count 144 = .ok (.getfield 64, 3) := by decide +kernel
theorem dX7_count_147 : decode cX7_count 147 = .ok (.ireturn, 1) := by decide +kernel
theorem dX7_count_148 : decode cX7_count 148 = .ok (.iconst (-1), 1) := by decide +kernel
theorem dX7_count_149 : decode cX7_count 149 = .ok (.ireturn, 1) := by decide +kernel
theorem dX7_partBits_0 : decode cX7_partBits 0 = .ok (.iload_n 1, 1) := by decide +kernel
theorem dX7_partBits_1 : decode cX7_partBits 1 = .ok (.iconst 1, 1) := by decide +kernel
theorem dX7_partBits_2 : decode cX7_partBits 2 = .ok (.if_icmp .ge 6, 3) := by decide +kernel
theorem dX7_partBits_5 : decode cX7_partBits 5 = .ok (.bipush (-4), 2) := by decide +kernel
theorem dX7_partBits_7 : decode cX7_partBits 7 = .ok (.ireturn, 1) := by decide +kernel
theorem dX7_partBits_8 : decode cX7_partBits 8 = .ok (.iload_n 0, 1) := by decide +kernel
theorem dX7_partBits_9 : decode cX7_partBits 9 = .ok (.i2f, 1) := by decide +kernel
theorem dX7_partBits_10 : decode cX7_partBits 10 = .ok (.iload_n 1, 1) := by decide +kernel
theorem dX7_partBits_11 : decode cX7_partBits 11 = .ok (.i2f, 1) := by decide +kernel
theorem dX7_partBits_12 : decode cX7_partBits 12 = .ok (.fdiv, 1) := by decide +kernel
theorem dX7_partBits_13 : decode cX7_partBits 13 = .ok (.invokestatic 208, 3) := by decide +kernel
theorem dX7_partBits_16 : decode cX7_partBits 16 = .ok (.ireturn, 1) := by decide +kernel
theorem dX7_bitsOf_0 : decode cX7_bitsOf 0 = .ok (.fload_n 0, 1) := by decide +kernel
theorem dX7_bitsOf_1 : decode cX7_bitsOf 1 = .ok (.fconst 0, 1) := by decide +kernel
theorem dX7_bitsOf_2 : decode cX7_bitsOf 2 = .ok (.fcmp .l, 1) := by decide +kernel
theorem dX7_bitsOf_3 : decode cX7_bitsOf 3 = .ok (.ifCond .gt 5, 3) := by decide +kernel
theorem dX7_bitsOf_6 : decode cX7_bitsOf 6 = .ok (.iconst 0, 1) := by decide +kernel
theorem dX7_bitsOf_7 : decode cX7_bitsOf 7 = .ok (.ireturn, 1) := by decide +kernel
theorem dX7_bitsOf_8 : decode cX7_bitsOf 8 = .ok (.fload_n 0, 1) := by decide +kernel
theorem dX7_bitsOf_9 : decode cX7_bitsOf 9 = .ok (.fstore_n 1, 1) := by decide +kernel
theorem dX7_bitsOf_10 : decode cX7_bitsOf 10 = .ok (.bipush 127, 2) := by decide +kernel
theorem dX7_bitsOf_12 : decode cX7_bitsOf 12 = .ok (.istore_n 2, 1) := by decide +kernel
theorem dX7_bitsOf_13 : decode cX7_bitsOf 13 = .ok (.iconst 0, 1) := by decide +kernel
theorem dX7_bitsOf_14 : decode cX7_bitsOf 14 = .ok (.istore_n 3, 1) := by decide +kernel
theorem dX7_bitsOf_15 : decode cX7_bitsOf 15 = .ok (.iload_n 3, 1) := by decide +kernel
theorem dX7_bitsOf_16 : decode cX7_bitsOf 16 = .ok (.sipush 128, 3) := by decide +kernel
theorem dX7_bitsOf_19 : decode cX7_bitsOf 19 = .ok (.if_icmp .ge 22, 3) := by decide +kernel
theorem dX7_bitsOf_22 : decode cX7_bitsOf 22 = .ok (.fload_n 1, 1) := by decide +kernel
theorem dX7_bitsOf_23 : decode cX7_bitsOf 23 = .ok (.fconst 2, 1) := by decide +kernel
theorem dX7_bitsOf_24 : decode cX7_bitsOf 24 = .ok (.fcmp .l, 1) := by decide +kernel
theorem dX7_bitsOf_25 : decode cX7_bitsOf 25 = .ok (.ifCond .lt 16, 3) := by decide +kernel
theorem dX7_bitsOf_28 : decode cX7_bitsOf 28 = .ok (.fload_n 1, 1) := by decide +kernel
theorem dX7_bitsOf_29 : decode cX7_bitsOf 29 = .ok (.fconst 2, 1) := by decide +kernel
theorem dX7_bitsOf_30 : decode cX7_bitsOf 30 = .ok (.fdiv, 1) := by decide +kernel
theorem dX7_bitsOf_31 : decode cX7_bitsOf 31 = .ok (.fstore_n 1, 1) := by decide +kernel
theorem dX7_bitsOf_32 : decode cX7_bitsOf 32 = .ok (.iinc 2 1, 3) := by decide +kernel
theorem dX7_bitsOf_35 : decode cX7_bitsOf 35 = .ok (.iinc 3 1, 3) := by decide +kernel
theorem dX7_bitsOf_38 : decode cX7_bitsOf 38 = .ok (.goto (-23), 3) := by decide +kernel
theorem dX7_bitsOf_41 : decode cX7_bitsOf 41 = .ok (.iconst 0, 1) := by decide +kernel
theorem dX7_bitsOf_42 : decode cX7_bitsOf 42 = .ok (.istore_n 3, 1) := by decide +kernel
theorem dX7_bitsOf_43 : decode cX7_bitsOf 43 = .ok (.iload_n 3, 1) := by decide +kernel
theorem dX7_bitsOf_44 : decode cX7_bitsOf 44 = .ok (.sipush 128, 3) := by decide +kernel
theorem dX7_bitsOf_47 : decode cX7_bitsOf 47 = .ok (.if_icmp .ge 22, 3) := by decide +kernel
theorem dX7_bitsOf_50 : decode cX7_bitsOf 50 = .ok (.fload_n 1, 1) := by decide +kernel
theorem dX7_bitsOf_51 : decode cX7_bitsOf 51 = .ok (.fconst 1, 1) := by decide +kernel
theorem dX7_bitsOf_52 : decode cX7_bitsOf 52 = .ok (.fcmp .g, 1) := by decide +kernel
theorem dX7_bitsOf_53 : decode cX7_bitsOf 53 = .ok (.ifCond .ge 16, 3) := by decide +kernel
theorem dX7_bitsOf_56 : decode cX7_bitsOf 56 = .ok (.fload_n 1, 1) := by decide +kernel
theorem dX7_bitsOf_57 : decode cX7_bitsOf 57 = .ok (.fconst 2, 1) := by decide +kernel
theorem dX7_bitsOf_58 : decode cX7_bitsOf 58 = .ok (.fmul, 1) := by decide +kernel
theorem dX7_bitsOf_59 : decode cX7_bitsOf 59 = .ok (.fstore_n 1, 1) := by decide +kernel
theorem dX7_bitsOf_60 : decode cX7_bitsOf 60 = .ok (.iinc 2 (-1), 3) := by decide +kernel
theorem dX7_bitsOf_63 : decode cX7_bitsOf 63 = .ok (.iinc 3 1, 3) := by decide +kernel
theorem dX7_bitsOf_66 : decode cX7_bitsOf 66 = .ok (.goto (-23), 3) := by decide +kernel
theorem dX7_bitsOf_69 : decode cX7_bitsOf 69 = .ok (.iload_n 2, 1) := by decide +kernel
theorem dX7_bitsOf_70 : decode cX7_bitsOf 70 = .ok (.bipush 23, 2) := by decide +kernel
theorem dX7_bitsOf_72 : decode cX7_bitsOf 72 = .ok (.ishl, 1) := by decide +kernel
theorem dX7_bitsOf_73 : decode cX7_bitsOf 73 = .ok (.fload_n 1, 1) := by decide +kernel
theorem dX7_bitsOf_74 : decode cX7_bitsOf 74 = .ok (.fconst 1, 1) := by decide +kernel
theorem dX7_bitsOf_75 : decode cX7_bitsOf 75 = .ok (.fsub, 1) := by decide +kernel
theorem dX7_bitsOf_76 : decode cX7_bitsOf 76 = .ok (.ldc 227, 2) := by decide +kernel
theorem dX7_bitsOf_78 : decode cX7_bitsOf 78 = .ok (.fmul, 1) := by decide +kernel
theorem dX7_bitsOf_79 : decode cX7_bitsOf 79 = .ok (.f2i, 1) := by decide +kernel
theorem dX7_bitsOf_80 : decode cX7_bitsOf 80 = .ok (.iadd, 1) := by decide +kernel
theorem dX7_bitsOf_81 : decode cX7_bitsOf 81 = .ok (.ireturn, 1) := by decide +kernel
end
section
theorem dX8_init_0 : decode cX8_init 0 = .ok (.aload_n 0, 1) := by decide +kernel
theorem dX8_init_1 : decode cX8_init 1 = .ok (.invokespecial 1, 3) := by decide +kernel
theorem dX8_init_4 : decode cX8_init 4 = .ok (.aload_n 0, 1) := by decide +kernel
theorem dX8_init_5 : decode cX8_init 5 = .ok (.sipush 918, 3) := by decide +kernel
theorem dX8_init_8 : decode cX8_init 8 = .ok (.newarray .int, 2) := by decide +kernel
theorem dX8_init_10 : decode cX8_init 10 = .ok (.putfield 7, 3) := by decide +kernel
theorem dX8_init_13 : decode cX8_init 13 = .ok (.aload_n 0, 1) := by decide +kernel
theorem dX8_init_14 : decode cX8_init 14 = .ok (.sipush 200, 3) := by decide +kernel
theorem dX8_init_17 : decode cX8_init 17 = .ok (.newarray .int, 2) := by decide +kernel
theorem dX8_init_19 : decode cX8_init 19 = .ok (.putfield 13, 3) := by decide +kernel
theorem dX8_init_22 : decode cX8_init 22 = .ok (.aload_n 0, 1) := by decide +kernel
theorem dX8_init_23 : decode cX8_init 23 = .ok (.bipush 20, 2) := by decide +kernel
theorem dX8_init_25 : decode cX8_init 25 = .ok (.newarray .int, 2) := by decide +kernel
theorem dX8_init_27 : decode cX8_init 27 = .ok (.putfield 16, 3) := by decide +kernel
theorem dX8_init_30 : decode cX8_init 30 = .ok (.aload_n 0, 1) := by decide +kernel
theorem dX8_init_31 : decode cX8_init 31 = .ok (.getfield 16, 3) := by decide +kernel
theorem dX8_init_34 : decode cX8_init 34 = .ok (.iconst 0, 1) := by decide +kernel
theorem dX8_init_35 : decode cX8_init 35 = .ok (.iconst 3, 1) := by decide +kernel
theorem dX8_init_36 : decode cX8_init 36 = .ok (.iastore, 1) := by decide +kernel
theorem dX8_init_37 : decode cX8_init 37 = .ok (.aload_n 0, 1) := by decide +kernel
theorem dX8_init_38 : decode cX8_init 38 = .ok (.iconst 0, 1) := by decide +kernel
theorem dX8_init_39 : decode cX8_init 39 = .ok (.iconst 4, 1) := by decide +kernel
theorem dX8_init_40 : decode cX8_init 40 = .ok (.iconst 2, 1) := by decide +kernel
theorem dX8_init_41 : decode cX8_init 41 = .ok (.iconst 3, 1) := by decide +kernel
theorem dX8_init_42 : decode cX8_init 42 = .ok (.invokevirtual 19, 3) := by decide +kernel
theorem dX8_init_45 : decode cX8_init 45 = .ok (.aload_n 0, 1) := by decide +kernel
theorem dX8_init_46 : decode cX8_init 46 = .ok (.iconst 1, 1) := by decide +kernel
theorem dX8_init_47 : decode cX8_init 47 = .ok (.bipush 6, 2) := by decide +kernel
theorem dX8_init_49 : decode cX8_init 49 = .ok (.iconst 0, 1) := by decide +kernel
theorem dX8_init_50 : decode cX8_init 50 = .ok (.iconst 1, 1) := by decide +kernel
theorem dX8_init_51 : decode cX8_init 51 = .ok (.invokevirtual 19, 3) := by decide +kernel
theorem dX8_init_54 : decode cX8_init 54 = .ok (.aload_n 0, 1) := by decide +kernel
theorem dX8_init_55 : decode cX8_init 55 = .ok (.iconst 2, 1) := by decide +kernel
theorem dX8_init_56 : decode cX8_init 56 = .ok (.iconst 2, 1) := by decide +kernel
theorem dX8_init_57 : decode cX8_init 57 = .ok (.iconst 1, 1) := by decide +kernel
theorem dX8_init_58 : decode cX8_init 58 = .ok (.iconst 2, 1) := by decide +kernel
theorem dX8_init_59 : decode cX8_init 59 = .ok (.invokevirtual 19, 3) := by decide +kernel
theorem dX8_init_62 : decode cX8_init 62 = .ok (.aload_n 0, 1) := by decide +kernel
theorem dX8_init_63 : decode cX8_init 63 = .ok (.iconst 5, 1) := by decide +kernel
theorem dX8_init_64 : decode cX8_init 64 = .ok (.bipush 12, 2) := by decide +kernel
theorem dX8_init_66 : decode cX8_init 66 = .ok (.invokevirtual 23, 3) := by decide +kernel
theorem dX8_init_69 : decode cX8_init 69 = .ok (.return_, 1) := by decide +kernel
theorem dX8_within_0 : decode cX8_within 0 = .ok (.iload_n 0, 1) := by decide +kernel
theorem dX8_within_1 : decode cX8_within 1 = .ok (.iload_n 1, 1) := by decide +kernel
theorem dX8_within_2 : decode cX8_within 2 = .ok (.if_icmp .lt 12, 3) := by decide +kernel
theorem dX8_within_5 : decode cX8_within 5 = .ok (.iload_n 0, 1) := by decide +kernel
theorem dX8_within_6 : decode cX8_within 6 = .ok (.iload_n 2, 1) := by decide +kernel
theorem dX8_within_7 : decode cX8_within 7 = .ok (.if_icmp .gt 7, 3) := by decide +kernel
theorem dX8_within_10 : decode cX8_within 10 = .ok (.iconst 1, 1) := by decide +kernel
theorem dX8_within_11 : decode cX8_within 11 = .ok (.goto 4, 3) := by decide +kernel
theorem dX8_within_14 : decode cX8_within 14 = .ok (.iconst 0, 1) := by decide +kernel
theorem dX8_within_15 : decode cX8_within 15 = .ok (.ireturn, 1) := by decide +kernel
theorem dX8_ones_0 : decode cX8_ones 0 = .ok (.iconst 0, 1) := by decide +kernel
theorem dX8_ones_1 : decode cX8_ones 1 = .ok (.istore_n 1, 1) := by decide +kernel
theorem dX8_ones_2 : decode cX8_ones 2 = .ok (.iconst 0, 1) := by decide +kernel
theorem dX8_ones_3 : decode cX8_ones 3 = .ok (.istore_n 2, 1) := by decide +kernel
theorem dX8_ones_4 : decode cX8_ones 4 = .ok (.iload_n 2, 1) := by decide +kernel
theorem dX8_ones_5 : decode cX8_ones 5 = .ok (.bipush 18, 2) := by decide +kernel
theorem dX8_ones_7 : decode cX8_ones 7 = .ok (.if_icmp .ge 17, 3) := by decide +kernel
theorem dX8_ones_10 : decode cX8_ones 10 = .ok (.iload_n 1, 1) := by decide +kernel
theorem dX8_ones_11 : decode cX8_ones 11 = .ok (.iload_n 0, 1) := by decide +kernel
theorem dX8_ones_12 : decode cX8_ones 12 = .ok (.iload_n 2, 1) := by decide +kernel
theorem dX8_ones_13 : decode cX8_ones 13 = .ok (.ishr, 1) := by decide +kernel
theorem dX8_ones_14 : decode cX8_ones 14 = .ok (.iconst 1, 1) := by decide +kernel
theorem dX8_ones_15 : decode cX8_ones 15 = .ok (.iand, 1) := by decide +kernel
theorem dX8_ones_16 : decode cX8_ones 16 = .ok (.iadd, 1) := by decide +kernel
theorem dX8_ones_17 : decode cX8_ones 17 = .ok (.istore_n 1, 1) := by decide +kernel
theorem dX8_ones_18 : decode cX8_ones 18 = .ok (.iinc 2 1, 3) := by decide +kernel
theorem dX8_ones_21 : decode cX8_ones 21 = .ok (.goto (-17), 3) := by decide +kernel
theorem dX8_ones_24 : decode cX8_ones 24 = .ok (.iload_n 1, 1) := by decide +kernel
theorem dX8_ones_25 : decode cX8_ones 25 = .ok (.ireturn, 1) := by decide +kernel
theorem dX8_laysFile_0 : decode cX8_laysFile 0 = .ok (.aload_n 0, 1) := by decide +kernel
theorem dX8_laysFile_1 : decode cX8_laysFile 1 = .ok (.getfield 16, 3) := by decide +kernel
theorem dX8_laysFile_4 : decode cX8_laysFile 4 = .ok (.iconst 1, 1) := by decide +kernel
theorem dX8_laysFile_5 : decode cX8_laysFile 5 = .ok (.iconst 3, 1) := by decide +kernel
theorem dX8_laysFile_6 : decode cX8_laysFile 6 = .ok (.iload_n 1, 1) := by decide +kernel
theorem dX8_laysFile_7 : decode cX8_laysFile 7 = .ok (.imul, 1) := by decide +kernel
theorem dX8_laysFile_8 : decode cX8_laysFile 8 = .ok (.iadd, 1) := by decide +kernel
theorem dX8_laysFile_9 : decode cX8_laysFile 9 = .ok (.iload_n 2, 1) := by decide +kernel
theorem dX8_laysFile_10 : decode cX8_laysFile 10 = .ok (.iastore, 1) := by decide +kernel
theorem dX8_laysFile_11 : decode cX8_laysFile 11 = .ok (.aload_n 0, 1) := by decide +kernel
theorem dX8_laysFile_12 : decode cX8_laysFile 12 = .ok (.getfield 16, 3) := by decide +kernel
theorem dX8_laysFile_15 : decode cX8_laysFile 15 = .ok (.iconst 2, 1) := by decide +kernel
theorem dX8_laysFile_16 : decode cX8_laysFile 16 = .ok (.iconst 3, 1) := by decide +kernel
theorem dX8_laysFile_17 : decode cX8_laysFile 17 = .ok (.iload_n 1, 1) := by decide +kernel
theorem dX8_laysFile_18 : decode cX8_laysFile 18 = .ok (.imul, 1) := by decide +kernel
theorem dX8_laysFile_19 : decode cX8_laysFile 19 = .ok (.iadd, 1) := by decide +kernel
theorem dX8_laysFile_20 : decode cX8_laysFile 20 = .ok (.iload_n 3, 1) := by decide +kernel
theorem dX8_laysFile_21 : decode cX8_laysFile 21 = .ok (.iastore, 1) := by decide +kernel
theorem dX8_laysFile_22 : decode cX8_laysFile 22 = .ok (.aload_n 0, 1) := by decide +kernel
theorem dX8_laysFile_23 : decode cX8_laysFile 23 = .ok (.getfield 16, 3) := by decide +kernel
theorem dX8_laysFile_26 : decode cX8_laysFile 26 = .ok (.iconst 3, 1) := by decide +kernel
theorem dX8_laysFile_27 : decode cX8_laysFile 27 = .ok (.iconst 3, 1) := by decide +kernel
theorem dX8_laysFile_28 : decode cX8_laysFile 28 = .ok (.iload_n 1, 1) := by decide +kernel
theorem dX8_laysFile_29 : decode cX8_laysFile 29 = .ok (.imul, 1) := by decide +kernel
theorem dX8_laysFile_30 : decode cX8_laysFile 30 = .ok (.iadd, 1) := by decide +kernel
theorem dX8_laysFile_31 : decode cX8_laysFile 31 = .ok (.iload 4, 2) := by decide +kernel
theorem dX8_laysFile_33 : decode cX8_laysFile 33 = .ok (.iastore, 1) := by decide +kernel
theorem dX8_laysFile_34 : decode cX8_laysFile 34 = .ok (.return_, 1) := by decide +kernel
theorem dX8_begins_0 : decode cX8_begins 0 = .ok (.iconst 0, 1) := by decide +kernel
theorem dX8_begins_1 : decode cX8_begins 1 = .ok (.istore_n 3, 1) := by decide +kernel
theorem dX8_begins_2 : decode cX8_begins 2 = .ok (.iload_n 3, 1) := by decide +kernel
theorem dX8_begins_3 : decode cX8_begins 3 = .ok (.sipush 153, 3) := by decide +kernel
theorem dX8_begins_6 : decode cX8_begins 6 = .ok (.if_icmp .ge 16, 3) := by decide +kernel
theorem dX8_begins_9 : decode cX8_begins 9 = .ok (.aload_n 0, 1) := by decide +kernel
theorem dX8_begins_10 : decode cX8_begins 10 = .ok (.getfield 7, 3) := by decide +kernel
theorem dX8_begins_13 : decode cX8_begins 13 = .ok (.iload_n 3, 1) := by decide +kernel
theorem dX8_begins_14 : decode cX8_begins 14 = .ok (.iconst 0, 1) := by decide +kernel
theorem dX8_begins_15 : decode cX8_begins 15 = .ok (.iastore, 1) := by decide +kernel
theorem dX8_begins_16 : decode cX8_begins 16 = .ok (.iinc 3 1, 3) := by decide +kernel
theorem dX8_begins_19 : decode cX8_begins 19 = .ok (.goto (-17), 3) := by decide +kernel
theorem dX8_begins_22 : decode cX8_begins 22 = .ok (.aload_n 0, 1) := by decide +kernel
theorem dX8_begins_23 : decode cX8_begins 23 = .ok (.getfield 7, 3) := by decide +kernel
theorem dX8_begins_26 : decode cX8_begins 26 = .ok (.bipush 42, 2) := by decide +kernel
theorem dX8_begins_28 : decode cX8_begins 28 = .ok (.aload_n 0, 1) := by decide +kernel
theorem dX8_begins_29 : decode cX8_begins 29 = .ok (.getfield 16, 3) := by decide +kernel
theorem dX8_begins_32 : decode cX8_begins 32 = .ok (.iconst 0, 1) := by decide +kernel
theorem dX8_begins_33 : decode cX8_begins 33 = .ok (.iaload, 1) := by decide +kernel
theorem dX8_begins_34 : decode cX8_begins 34 = .ok (.iastore, 1) := by decide +kernel
theorem dX8_begins_35 : decode cX8_begins 35 = .ok (.iconst 0, 1) := by decide +kernel
theorem dX8_begins_36 : decode cX8_begins 36 = .ok (.istore_n 3, 1) := by decide +kernel
theorem dX8_begins_37 : decode cX8_begins 37 = .ok (.iload_n 3, 1) := by decide +kernel
theorem dX8_begins_38 : decode cX8_begins 38 = .ok (.aload_n 0, 1) := by decide +kernel
theorem dX8_begins_39 : decode cX8_begins 39 = .ok (.getfield 16, 3) := by decide +kernel
theorem dX8_begins_42 : decode cX8_begins 42 = .ok (.iconst 0, 1) := by decide +kernel
theorem dX8_begins_43 : decode cX8_begins 43 = .ok (.iaload, 1) := by decide +kernel
theorem dX8_begins_44 : decode cX8_begins 44 = .ok (.if_icmp .ge 65, 3) := by decide +kernel
theorem dX8_begins_47 : decode cX8_begins 47 = .ok (.aload_n 0, 1) := by decide +kernel
theorem dX8_begins_48 : decode cX8_begins 48 = .ok (.getfield 7, 3) := by decide +kernel
theorem dX8_begins_51 : decode cX8_begins 51 = .ok (.iconst 0, 1) := by decide +kernel
theorem dX8_begins_52 : decode cX8_begins 52 = .ok (.iload_n 3, 1) := by decide +kernel
theorem dX8_begins_53 : decode cX8_begins 53 = .ok (.iadd, 1) := by decide +kernel
theorem dX8_begins_54 : decode cX8_begins 54 = .ok (.aload_n 0, 1) := by decide +kernel
theorem dX8_begins_55 : decode cX8_begins 55 = .ok (.getfield 16, 3) := by decide +kernel
theorem dX8_begins_58 : decode cX8_begins 58 = .ok (.iconst 1, 1) := by decide +kernel
theorem dX8_begins_59 : decode cX8_begins 59 = .ok (.iconst 3, 1) := by decide +kernel
theorem dX8_begins_60 : decode cX8_begins 60 = .ok (.iload_n 3, 1) := by decide +kernel
theorem dX8_begins_61 : decode cX8_begins 61 = .ok (.imul, 1) := by decide +kernel
theorem dX8_begins_62 : decode cX8_begins 62 = .ok (.iadd, 1) := by decide +kernel
theorem dX8_begins_63 : decode cX8_begins 63 = .ok (.iaload, 1) := by decide +kernel
theorem dX8_begins_64 : decode cX8_begins 64 = .ok (.iastore, 1) := by decide +kernel
theorem dX8_begins_65 : decode cX8_begins 65 = .ok (.aload_n 0, 1) := by decide +kernel
theorem dX8_begins_66 : decode cX8_begins 66 = .ok (.getfield 7, 3) := by decide +kernel
theorem dX8_begins_69 : decode cX8_begins 69 = .ok (.bipush 6, 2) := by decide +kernel
theorem dX8_begins_71 : decode cX8_begins 71 = .ok (.iload_n 3, 1) := by decide +kernel
theorem dX8_begins_72 : decode cX8_begins 72 = .ok (.iadd, 1) := by decide +kernel
theorem dX8_begins_73 : decode cX8_begins 73 = .ok (.aload_n 0, 1) := by decide +kernel
theorem dX8_begins_74 : decode cX8_begins 74 = .ok (.getfield 16, 3) := by decide +kernel
theorem dX8_begins_77 : decode cX8_begins 77 = .ok (.iconst 2, 1) := by decide +kernel
theorem dX8_begins_78 : decode cX8_begins 78 = .ok (.iconst 3, 1) := by decide +kernel
theorem dX8_begins_79 : decode cX8_begins 79 = .ok (.iload_n 3, 1) := by decide +kernel
theorem dX8_begins_80 : decode cX8_begins 80 = .ok (.imul, 1) := by decide +kernel
theorem dX8_begins_81 : decode cX8_begins 81 = .ok (.iadd, 1) := by decide +kernel
theorem dX8_begins_82 : decode cX8_begins 82 = .ok (.iaload, 1) := by decide +kernel
theorem dX8_begins_83 : decode cX8_begins 83 = .ok (.iastore, 1) := by decide +kernel
theorem dX8_begins_84 : decode cX8_begins 84 = .ok (.aload_n 0, 1) := by decide +kernel
theorem dX8_begins_85 : decode cX8_begins 85 = .ok (.getfield 7, 3) := by decide +kernel
theorem dX8_begins_88 : decode cX8_begins 88 = .ok (.bipush 12, 2) := by decide +kernel
theorem dX8_begins_90 : decode cX8_begins 90 = .ok (.iload_n 3, 1) := by decide +kernel
theorem dX8_begins_91 : decode cX8_begins 91 = .ok (.iadd, 1) := by decide +kernel
theorem dX8_begins_92 : decode cX8_begins 92 = .ok (.aload_n 0, 1) := by decide +kernel
theorem dX8_begins_93 : decode cX8_begins 93 = .ok (.getfield 16, 3) := by decide +kernel
theorem dX8_begins_96 : decode cX8_begins 96 = .ok (.iconst 3, 1) := by decide +kernel
theorem dX8_begins_97 : decode cX8_begins 97 = .ok (.iconst 3, 1) := by decide +kernel
theorem dX8_begins_98 : decode cX8_begins 98 = .ok (.iload_n 3, 1) := by decide +kernel
theorem dX8_begins_99 : decode cX8_begins 99 = .ok (.imul, 1) := by decide +kernel
theorem dX8_begins_100 : decode cX8_begins 100 = .ok (.iadd, 1) := by decide +kernel
theorem dX8_begins_101 : decode cX8_begins 101 = .ok (.iaload, 1) := by decide +kernel
theorem dX8_begins_102 : decode cX8_begins 102 = .ok (.iastore, 1) := by decide +kernel
theorem dX8_begins_103 : decode cX8_begins 103 = .ok (.iinc 3 1, 3) := by decide +kernel
theorem dX8_begins_106 : decode cX8_begins 106 = .ok (.goto (-69), 3) := by decide +kernel
theorem dX8_begins_109 : decode cX8_begins 109 = .ok (.aload_n 0, 1) := by decide +kernel
theorem dX8_begins_110 : decode cX8_begins 110 = .ok (.getfield 7, 3) := by decide +kernel
theorem dX8_begins_113 : decode cX8_begins 113 = .ok (.bipush 43, 2) := by decide +kernel
theorem dX8_begins_115 : decode cX8_begins 115 = .ok (.iload_n 1, 1) := by decide +kernel
theorem dX8_begins_116 : decode cX8_begins 116 = .ok (.iastore, 1) := by decide +kernel
theorem dX8_begins_117 : decode cX8_begins 117 = .ok (.aload_n 0, 1) := by decide +kernel
theorem dX8_begins_118 : decode cX8_begins 118 = .ok (.getfield 7, 3) := by decide +kernel
theorem dX8_begins_121 : decode cX8_begins 121 = .ok (.bipush 44, 2) := by decide +kernel
theorem dX8_begins_123 : decode cX8_begins 123 = .ok (.iload_n 2, 1) := by decide +kernel
theorem dX8_begins_124 : decode cX8_begins 124 = .ok (.iastore, 1) := by decide +kernel
theorem dX8_begins_125 : decode cX8_begins 125 = .ok (.aload_n 0, 1) := by decide +kernel
theorem dX8_begins_126 : decode cX8_begins 126 = .ok (.iconst 0, 1) := by decide +kernel
theorem dX8_begins_127 : decode cX8_begins 127 = .ok (.putfield 27, 3) := by decide +kernel
theorem dX8_begins_130 : decode cX8_begins 130 = .ok (.return_, 1) := by decide +kernel
theorem dX8_write_0 : decode cX8_write 0 = .ok (.iload_n 1, 1) := by decide +kernel
theorem dX8_write_1 : decode cX8_write 1 = .ok (.bipush 32, 2) := by decide +kernel
theorem dX8_write_3 : decode cX8_write 3 = .ok (.bipush 126, 2) := by decide +kernel
theorem dX8_write_5 : decode cX8_write 5 = .ok (.invokestatic 31, 3) := by decide +kernel
theorem dX8_write_8 : decode cX8_write 8 = .ok (.ifCond .ne 5, 3) := by decide +kernel
theorem dX8_write_11 : decode cX8_write 11 = .ok (.iconst (-1), 1) := by decide +kernel
theorem dX8_write_12 : decode cX8_write 12 = .ok (.ireturn, 1) := by decide +kernel
theorem dX8_write_13 : decode cX8_write 13 = .ok (.aload_n 0, 1) := by decide +kernel
theorem dX8_write_14 : decode cX8_write 14 = .ok (.getfield 35, 3) := by decide +kernel
theorem dX8_write_17 : decode cX8_write 17 = .ok (.sipush 200, 3) := by decide +kernel
theorem dX8_write_20 : decode cX8_write 20 = .ok (.if_icmp .ne 6, 3) := by decide +kernel
theorem dX8_write_23 : decode cX8_write 23 = .ok (.bipush (-3), 2) := by decide +kernel
theorem dX8_write_25 : decode cX8_write 25 = .ok (.ireturn, 1) := by decide +kernel
theorem dX8_write_26 : decode cX8_write 26 = .ok (.aload_n 0, 1) := by decide +kernel
theorem dX8_write_27 : decode cX8_write 27 = .ok (.getfield 13, 3) := by decide +kernel
theorem dX8_write_30 : decode cX8_write 30 = .ok (.aload_n 0, 1) := by decide +kernel
theorem dX8_write_31 : decode cX8_write 31 = .ok (.getfield 35, 3) := by decide +kernel
theorem dX8_write_34 : decode cX8_write 34 = .ok (.iload_n 1, 1) := by decide +kernel
theorem dX8_write_35 : decode cX8_write 35 = .ok (.iastore, 1) := by decide +kernel
theorem dX8_write_36 : decode cX8_write 36 = .ok (.aload_n 0, 1) := by decide +kernel
theorem dX8_write_37 : decode cX8_write 37 = .ok (.dup, 1) := by decide +kernel
theorem dX8_write_38 : decode cX8_write 38 = .ok (.getfield 35, 3) := by decide +kernel
theorem dX8_write_41 : decode cX8_write 41 = .ok (.iconst 1, 1) := by decide +kernel
theorem dX8_write_42 : decode cX8_write 42 = .ok (.iadd, 1) := by decide +kernel
theorem dX8_write_43 : decode cX8_write 43 = .ok (.putfield 35, 3) := by decide +kernel
theorem dX8_write_46 : decode cX8_write 46 = .ok (.aload_n 0, 1) := by decide +kernel
theorem dX8_write_47 : decode cX8_write 47 = .ok (.getfield 35, 3) := by decide +kernel
theorem dX8_write_50 : decode cX8_write 50 = .ok (.ireturn, 1) := by decide +kernel
theorem dX8_wipe_0 : decode cX8_wipe 0 = .ok (.aload_n 0, 1) := by decide +kernel
theorem dX8_wipe_1 : decode cX8_wipe 1 = .ok (.getfield 35, 3) := by decide +kernel
theorem dX8_wipe_4 : decode cX8_wipe 4 = .ok (.istore_n 1, 1) := by decide +kernel
theorem dX8_wipe_5 : decode cX8_wipe 5 = .ok (.aload_n 0, 1) := by decide +kernel
theorem dX8_wipe_6 : decode cX8_wipe 6 = .ok (.iconst 0, 1) := by decide +kernel
theorem dX8_wipe_7 : decode cX8_wipe 7 = .ok (.putfield 35, 3) := by decide +kernel
theorem dX8_wipe_10 : decode cX8_wipe 10 = .ok (.iload_n 1, 1) := by decide +kernel
theorem dX8_wipe_11 : decode cX8_wipe 11 = .ok (.ireturn, 1) := by decide +kernel
theorem dX8_here_0 : decode cX8_here 0 = .ok (.aload_n 0, 1) := by decide +kernel
theorem dX8_here_1 : decode cX8_here 1 = .ok (.getfield 38, 3) := by decide +kernel
theorem dX8_here_4 : decode cX8_here 4 = .ok (.aload_n 0, 1) := by decide +kernel
theorem dX8_here_5 : decode cX8_here 5 = .ok (.getfield 35, 3) := by decide +kernel
theorem dX8_here_8 : decode cX8_here 8 = .ok (.if_icmp .ge 15, 3) := by decide +kernel
theorem dX8_here_11 : decode cX8_here 11 = .ok (.aload_n 0, 1) := by decide +kernel
theorem dX8_here_12 : decode cX8_here 12 = .ok (.getfield 13, 3) := by decide +kernel
theorem dX8_here_15 : decode cX8_here 15 = .ok (.aload_n 0, 1) := by decide +kernel
theorem dX8_here_16 : decode cX8_here 16 = .ok (.getfield 38, 3) := by decide +kernel
theorem dX8_here_19 : decode cX8_here 19 = .ok (.iaload, 1) := by decide +kernel
theorem dX8_here_20 : decode cX8_here 20 = .ok (.goto 4, 3) := by decide +kernel
theorem dX8_here_23 : decode cX8_here 23 = .ok (.iconst 0, 1) := by decide +kernel
theorem dX8_here_24 : decode cX8_here 24 = .ok (.ireturn, 1) := by decide +kernel
theorem dX8_passes_0 : decode cX8_passes 0 = .ok (.iconst 0, 1) := by decide +kernel
theorem dX8_passes_1 : decode cX8_passes 1 = .ok (.istore 4, 2) := by decide +kernel
theorem dX8_passes_3 : decode cX8_passes 3 = .ok (.aload_n 0, 1) := by decide +kernel
theorem dX8_passes_4 : decode cX8_passes 4 = .ok (.iconst 0, 1) := by decide +kernel
theorem dX8_passes_5 : decode cX8_passes 5 = .ok (.putfield 41, 3) := by decide +kernel
theorem dX8_passes_8 : decode cX8_passes 8 = .ok (.aload_n 0, 1) := by decide +kernel
theorem dX8_passes_9 : decode cX8_passes 9 = .ok (.invokevirtual 44, 3) := by decide +kernel
theorem dX8_passes_12 : decode cX8_passes 12 = .ok (.bipush 48, 2) := by decide +kernel
theorem dX8_passes_14 : decode cX8_passes 14 = .ok (.bipush 57, 2) := by decide +kernel
theorem dX8_passes_16 : decode cX8_passes 16 = .ok (.invokestatic 31, 3) := by decide +kernel
theorem dX8_passes_19 : decode cX8_passes 19 = .ok (.ifCond .eq 44, 3) := by decide +kernel
theorem dX8_passes_22 : decode cX8_passes 22 = .ok (.iload 4, 2) := by decide +kernel
theorem dX8_passes_24 : decode cX8_passes 24 = .ok (.iconst 2, 1) := by decide +kernel
theorem dX8_passes_25 : decode cX8_passes 25 = .ok (.if_icmp .ge 38, 3) := by decide +kernel
theorem dX8_passes_28 : decode cX8_passes 28 = .ok (.aload_n 0, 1) := by decide +kernel
theorem dX8_passes_29 : decode cX8_passes 29 = .ok (.bipush 10, 2) := by decide +kernel
theorem dX8_passes_31 : decode cX8_passes 31 = .ok (.aload_n 0, 1) := by decide +kernel
theorem dX8_passes_32 : decode cX8_passes 32 = .ok (.getfield 41, 3) := by decide +kernel
theorem dX8_passes_35 : decode cX8_passes 35 = .ok (.imul, 1) := by decide +kernel
theorem dX8_passes_36 : decode cX8_passes 36 = .ok (.aload_n 0, 1) := by decide +kernel
theorem dX8_passes_37 : decode cX8_passes 37 = .ok (.invokevirtual 44, 3) := by decide +kernel
theorem dX8_passes_40 : decode cX8_passes 40 = .ok (.iadd, 1) := by decide +kernel
theorem dX8_passes_41 : decode cX8_passes 41 = .ok (.bipush 48, 2) := by decide +kernel
theorem dX8_passes_43 : decode cX8_passes 43 = .ok (.isub, 1) := by decide +kernel
theorem dX8_passes_44 : decode cX8_passes 44 = .ok (.putfield 41, 3) := by decide +kernel
theorem dX8_passes_47 : decode cX8_passes 47 = .ok (.aload_n 0, 1) := by decide +kernel
theorem dX8_passes_48 : decode cX8_passes 48 = .ok (.dup, 1) := by decide +kernel
theorem dX8_passes_49 : decode cX8_passes 49 = .ok (.getfield 38, 3) := by decide +kernel
theorem dX8_passes_52 : decode cX8_passes 52 = .ok (.iconst 1, 1) := by decide +kernel
theorem dX8_passes_53 : decode cX8_passes 53 = .ok (.iadd, 1) := by decide +kernel
theorem dX8_passes_54 : decode cX8_passes 54 = .ok (.putfield 38, 3) := by decide +kernel
theorem dX8_passes_57 : decode cX8_passes 57 = .ok (.iinc 4 1, 3) := by decide +kernel
theorem dX8_passes_60 : decode cX8_passes 60 = .ok (.goto (-52), 3) := by decide +kernel
theorem dX8_passes_63 : decode cX8_passes 63 = .ok (.iload 4, 2) := by decide +kernel
theorem dX8_passes_65 : decode cX8_passes 65 = .ok (.ifCond .le 27, 3) := by decide +kernel
theorem dX8_passes_68 : decode cX8_passes 68 = .ok (.aload_n 0, 1) := by decide +kernel
theorem dX8_passes_69 : decode cX8_passes 69 = .ok (.getfield 41, 3) := by decide +kernel
theorem dX8_passes_72 : decode cX8_passes 72 = .ok (.iload_n 1, 1) := by decide +kernel
theorem dX8_passes_73 : decode cX8_passes 73 = .ok (.iload_n 2, 1) := by decide +kernel
theorem dX8_passes_74 : decode cX8_passes 74 = .ok (.invokestatic 31, 3) := by decide +kernel
theorem dX8_passes_77 : decode cX8_passes 77 = .ok (.ifCond .eq 15, 3) := by decide +kernel
theorem dX8_passes_80 : decode cX8_passes 80 = .ok (.aload_n 0, 1) := by decide +kernel
theorem dX8_passes_81 : decode cX8_passes 81 = .ok (.invokevirtual 44, 3) := by decide +kernel
theorem dX8_passes_84 : decode cX8_passes 84 = .ok (.iload_n 3, 1) := by decide +kernel
theorem dX8_passes_85 : decode cX8_passes 85 = .ok (.if_icmp .ne 7, 3) := by decide +kernel
theorem dX8_passes_88 : decode cX8_passes 88 = .ok (.iconst 1, 1) := by decide +kernel
theorem dX8_passes_89 : decode cX8_passes 89 = .ok (.goto 4, 3) := by decide +kernel
theorem dX8_passes_92 : decode cX8_passes 92 = .ok (.iconst 0, 1) := by decide +kernel
theorem dX8_passes_93 : decode cX8_passes 93 = .ok (.istore 5, 2) := by decide +kernel
theorem dX8_passes_95 : decode cX8_passes 95 = .ok (.aload_n 0, 1) := by decide +kernel
theorem dX8_passes_96 : decode cX8_passes 96 = .ok (.dup, 1) := by decide +kernel
theorem dX8_passes_97 : decode cX8_passes 97 = .ok (.getfield 38, 3) := by decide +kernel
theorem dX8_passes_100 : decode cX8_passes 100 = .ok (.iconst 1, 1) := by decide +kernel
theorem dX8_passes_101 : decode cX8_passes 101 = .ok (.iadd, 1) := by decide +kernel
theorem dX8_passes_102 : decode cX8_passes 102 = .ok (.putfield 38, 3) := by decide +kernel
theorem dX8_passes_105 : decode cX8_passes 105 = .ok (.iload 5, 2) := by decide +kernel
theorem dX8_passes_107 : decode cX8_passes 107 = .ok (.ireturn, 1) := by decide +kernel
theorem dX8_passesFile_0 : decode cX8_passesFile 0 = .ok (.aload_n 0, 1) := by decide +kernel
theorem dX8_passesFile_1 : decode cX8_passesFile 1 = .ok (.getfield 16, 3) := by decide +kernel
theorem dX8_passesFile_4 : decode cX8_passesFile 4 = .ok (.iconst 0, 1) := by decide +kernel
theorem dX8_passesFile_5 : decode cX8_passesFile 5 = .ok (.iaload, 1) := by decide +kernel
theorem dX8_passesFile_6 : decode cX8_passesFile 6 = .ok (.istore_n 1, 1) := by decide +kernel
theorem dX8_passesFile_7 : decode cX8_passesFile 7 = .ok (.iload_n 1, 1) := by decide +kernel
theorem dX8_passesFile_8 : decode cX8_passesFile 8 = .ok (.bipush 6, 2) := by decide +kernel
theorem dX8_passesFile_10 : decode cX8_passesFile 10 = .ok (.if_icmp .eq 15, 3) := by decide +kernel
theorem dX8_passesFile_13 : decode cX8_passesFile 13 = .ok (.aload_n 0, 1) := by decide +kernel
theorem dX8_passesFile_14 : decode cX8_passesFile 14 = .ok (.iconst 1, 1) := by decide +kernel
theorem dX8_passesFile_15 : decode cX8_passesFile 15 = .ok (.bipush 12, 2) := by decide +kernel
theorem dX8_passesFile_17 : decode cX8_passesFile 17 = .ok (.bipush 44, 2) := by decide +kernel
theorem dX8_passesFile_19 : decode cX8_passesFile 19 = .ok (.invokevirtual 48, 3) := by decide +kernel
theorem dX8_passesFile_22 : decode cX8_passesFile 22 = .ok (.ifCond .ne 5, 3) := by decide +kernel
theorem dX8_passesFile_25 : decode cX8_passesFile 25 = .ok (.iconst 0, 1) := by decide +kernel
theorem dX8_passesFile_26 : decode cX8_passesFile 26 = .ok (.ireturn, 1) := by decide +kernel
theorem dX8_passesFile_27 : decode cX8_passesFile 27 = .ok (.aload_n 0, 1) := by decide +kernel
theorem dX8_passesFile_28 : decode cX8_passesFile 28 = .ok (.getfield 41, 3) := by decide +kernel
theorem dX8_passesFile_31 : decode cX8_passesFile 31 = .ok (.istore_n 2, 1) := by decide +kernel
theorem dX8_passesFile_32 : decode cX8_passesFile 32 = .ok (.aload_n 0, 1) := by decide +kernel
theorem dX8_passesFile_33 : decode cX8_passesFile 33 = .ok (.iconst 0, 1) := by decide +kernel
theorem dX8_passesFile_34 : decode cX8_passesFile 34 = .ok (.bipush 6, 2) := by decide +kernel
theorem dX8_passesFile_36 : decode cX8_passesFile 36 = .ok (.bipush 44, 2) := by decide +kernel
theorem dX8_passesFile_38 : decode cX8_passesFile 38 = .ok (.invokevirtual 48, 3) := by decide +kernel
theorem dX8_passesFile_41 : decode cX8_passesFile 41 = .ok (.ifCond .ne 5, 3) := by decide +kernel
theorem dX8_passesFile_44 : decode cX8_passesFile 44 = .ok (.iconst 0, 1) := by decide +kernel
theorem dX8_passesFile_45 : decode cX8_passesFile 45 = .ok (.ireturn, 1) := by decide +kernel
theorem dX8_passesFile_46 : decode cX8_passesFile 46 = .ok (.aload_n 0, 1) := by decide +kernel
theorem dX8_passesFile_47 : decode cX8_passesFile 47 = .ok (.getfield 41, 3) := by decide +kernel
theorem dX8_passesFile_50 : decode cX8_passesFile 50 = .ok (.istore_n 3, 1) := by decide +kernel
theorem dX8_passesFile_51 : decode cX8_passesFile 51 = .ok (.aload_n 0, 1) := by decide +kernel
theorem dX8_passesFile_52 : decode cX8_passesFile 52 = .ok (.iconst 1, 1) := by decide +kernel
theorem dX8_passesFile_53 : decode cX8_passesFile 53 = .ok (.bipush 9, 2) := by decide +kernel
theorem dX8_passesFile_55 : decode cX8_passesFile 55 = .ok (.bipush 59, 2) := by decide +kernel
theorem dX8_passesFile_57 : decode cX8_passesFile 57 = .ok (.invokevirtual 48, 3) := by decide +kernel
theorem dX8_passesFile_60 : decode cX8_passesFile 60 = .ok (.ifCond .ne 5, 3) := by decide +kernel
theorem dX8_passesFile_63 : decode cX8_passesFile 63 = .ok (.iconst 0, 1) := by decide +kernel
theorem dX8_passesFile_64 : decode cX8_passesFile 64 = .ok (.ireturn, 1) := by decide +kernel
theorem dX8_passesFile_65 : decode cX8_passesFile 65 = .ok (.aload_n 0, 1) := by decide +kernel
theorem dX8_passesFile_66 : decode cX8_passesFile 66 = .ok (.iload_n 1, 1) := by decide +kernel
theorem dX8_passesFile_67 : decode cX8_passesFile 67 = .ok (.iload_n 2, 1) := by decide +kernel
theorem dX8_passesFile_68 : decode cX8_passesFile 68 = .ok (.iload_n 3, 1) := by decide +kernel
theorem dX8_passesFile_69 : decode cX8_passesFile 69 = .ok (.aload_n 0, 1) := by decide +kernel
theorem dX8_passesFile_70 : decode cX8_passesFile 70 = .ok (.getfield 41, 3) := by decide +kernel
theorem dX8_passesFile_73 : decode cX8_passesFile 73 = .ok (.invokevirtual 19, 3) := by decide +kernel
theorem dX8_passesFile_76 : decode cX8_passesFile 76 = .ok (.aload_n 0, 1) := by decide +kernel
theorem dX8_passesFile_77 : decode cX8_passesFile 77 = .ok (.getfield 16, 3) := by decide +kernel
theorem dX8_passesFile_80 : decode cX8_passesFile 80 = .ok (.iconst 0, 1) := by decide +kernel
theorem dX8_passesFile_81 : decode cX8_passesFile 81 = .ok (.dup2, 1) := by decide +kernel
theorem dX8_passesFile_82 : decode cX8_passesFile 82 = .ok (.iaload, 1) := by decide +kernel
theorem dX8_passesFile_83 : decode cX8_passesFile 83 = .ok (.iconst 1, 1) := by decide +kernel
theorem dX8_passesFile_84 : decode cX8_passesFile 84 = .ok (.iadd, 1) := by decide +kernel
theorem dX8_passesFile_85 : decode cX8_passesFile 85 = .ok (.iastore, 1) := by decide +kernel
theorem dX8_passesFile_86 : decode cX8_passesFile 86 = .ok (.iconst 1, 1) := by decide +kernel
theorem dX8_passesFile_87 : decode cX8_passesFile 87 = .ok (.ireturn, 1) := by decide +kernel
theorem dX8_passesTable_0 : decode cX8_passesTable 0 = .ok (.aload_n 0, 1) := by decide +kernel
theorem dX8_passesTable_1 : decode cX8_passesTable 1 = .ok (.iconst 3, 1) := by decide +kernel
theorem dX8_passesTable_2 : decode cX8_passesTable 2 = .ok (.bipush 20, 2) := by decide +kernel
theorem dX8_passesTable_4 : decode cX8_passesTable 4 = .ok (.bipush 44, 2) := by decide +kernel
theorem dX8_passesTable_6 : decode cX8_passesTable 6 = .ok (.invokevirtual 48, 3) := by decide +kernel
theorem dX8_passesTable_9 : decode cX8_passesTable 9 = .ok (.ifCond .ne 5, 3) := by decide +kernel
theorem dX8_passesTable_12 : decode cX8_passesTable 12 = .ok (.iconst 0, 1) := by decide +kernel
theorem dX8_passesTable_13 : decode cX8_passesTable 13 = .ok (.ireturn, 1) := by decide +kernel
theorem dX8_passesTable_14 : decode cX8_passesTable 14 = .ok (.aload_n 0, 1) := by decide +kernel
theorem dX8_passesTable_15 : decode cX8_passesTable 15 = .ok (.aload_n 0, 1) := by decide +kernel
theorem dX8_passesTable_16 : decode cX8_passesTable 16 = .ok (.getfield 41, 3) := by decide +kernel
theorem dX8_passesTable_19 : decode cX8_passesTable 19 = .ok (.putfield 51, 3) := by decide +kernel
theorem dX8_passesTable_22 : decode cX8_passesTable 22 = .ok (.aload_n 0, 1) := by decide +kernel
theorem dX8_passesTable_23 : decode cX8_passesTable 23 = .ok (.iconst 1, 1) := by decide +kernel
theorem dX8_passesTable_24 : decode cX8_passesTable 24 = .ok (.bipush 99, 2) := by decide +kernel
theorem dX8_passesTable_26 : decode cX8_passesTable 26 = .ok (.bipush 59, 2) := by decide +kernel
theorem dX8_passesTable_28 : decode cX8_passesTable 28 = .ok (.invokevirtual 48, 3) := by decide +kernel
theorem dX8_passesTable_31 : decode cX8_passesTable 31 = .ok (.istore_n 1, 1) := by decide +kernel
theorem dX8_passesTable_32 : decode cX8_passesTable 32 = .ok (.aload_n 0, 1) := by decide +kernel
theorem dX8_passesTable_33 : decode cX8_passesTable 33 = .ok (.aload_n 0, 1) := by decide +kernel
theorem dX8_passesTable_34 : decode cX8_passesTable 34 = .ok (.getfield 41, 3) := by decide +kernel
theorem dX8_passesTable_37 : decode cX8_passesTable 37 = .ok (.putfield 54, 3) := by decide +kernel
theorem dX8_passesTable_40 : decode cX8_passesTable 40 = .ok (.iload_n 1, 1) := by decide +kernel
theorem dX8_passesTable_41 : decode cX8_passesTable 41 = .ok (.ireturn, 1) := by decide +kernel
theorem dX8_faultIs_0 : decode cX8_faultIs 0 = .ok (.aload_n 0, 1) := by decide +kernel
theorem dX8_faultIs_1 : decode cX8_faultIs 1 = .ok (.getfield 16, 3) := by decide +kernel
theorem dX8_faultIs_4 : decode cX8_faultIs 4 = .ok (.iconst 0, 1) := by decide +kernel
theorem dX8_faultIs_5 : decode cX8_faultIs 5 = .ok (.iconst 0, 1) := by decide +kernel
theorem dX8_faultIs_6 : decode cX8_faultIs 6 = .ok (.iastore, 1) := by decide +kernel
theorem dX8_faultIs_7 : decode cX8_faultIs 7 = .ok (.aload_n 0, 1) := by decide +kernel
theorem dX8_faultIs_8 : decode cX8_faultIs 8 = .ok (.bipush 6, 2) := by decide +kernel
theorem dX8_faultIs_10 : decode cX8_faultIs 10 = .ok (.putfield 51, 3) := by decide +kernel
theorem dX8_faultIs_13 : decode cX8_faultIs 13 = .ok (.aload_n 0, 1) := by decide +kernel
theorem dX8_faultIs_14 : decode cX8_faultIs 14 = .ok (.bipush 20, 2) := by decide +kernel
theorem dX8_faultIs_16 : decode cX8_faultIs 16 = .ok (.putfield 54, 3) := by decide +kernel
theorem dX8_faultIs_19 : decode cX8_faultIs 19 = .ok (.aload_n 0, 1) := by decide +kernel
theorem dX8_faultIs_20 : decode cX8_faultIs 20 = .ok (.iconst 0, 1) := by decide +kernel
theorem dX8_faultIs_21 : decode cX8_faultIs 21 = .ok (.putfield 38, 3) := by decide +kernel
theorem dX8_faultIs_24 : decode cX8_faultIs 24 = .ok (.aload_n 0, 1) := by decide +kernel
theorem dX8_faultIs_25 : decode cX8_faultIs 25 = .ok (.getfield 38, 3) := by decide +kernel
theorem dX8_faultIs_28 : decode cX8_faultIs 28 = .ok (.aload_n 0, 1) := by decide +kernel
theorem dX8_faultIs_29 : decode cX8_faultIs 29 = .ok (.getfield 35, 3) := by decide +kernel
theorem dX8_faultIs_32 : decode cX8_faultIs 32 = .ok (.if_icmp .ge 57, 3) := by decide +kernel
theorem dX8_faultIs_35 : decode cX8_faultIs 35 = .ok (.aload_n 0, 1) := by decide +kernel
theorem dX8_faultIs_36 : decode cX8_faultIs 36 = .ok (.getfield 38, 3) := by decide +kernel
theorem dX8_faultIs_39 : decode cX8_faultIs 39 = .ok (.istore_n 1, 1) := by decide +kernel
theorem dX8_faultIs_40 : decode cX8_faultIs 40 = .ok (.aload_n 0, 1) := by decide +kernel
theorem dX8_faultIs_41 : decode cX8_faultIs 41 = .ok (.invokevirtual 44, 3) := by decide +kernel
theorem dX8_faultIs_44 : decode cX8_faultIs 44 = .ok (.istore_n 2, 1) := by decide +kernel
theorem dX8_faultIs_45 : decode cX8_faultIs 45 = .ok (.aload_n 0, 1) := by decide +kernel
theorem dX8_faultIs_46 : decode cX8_faultIs 46 = .ok (.dup, 1) := by decide +kernel
theorem dX8_faultIs_47 : decode cX8_faultIs 47 = .ok (.getfield 38, 3) := by decide +kernel
theorem dX8_faultIs_50 : decode cX8_faultIs 50 = .ok (.iconst 1, 1) := by decide +kernel
theorem dX8_faultIs_51 : decode cX8_faultIs 51 = .ok (.iadd, 1) := by decide +kernel
theorem dX8_faultIs_52 : decode cX8_faultIs 52 = .ok (.putfield 38, 3) := by decide +kernel
theorem dX8_faultIs_55 : decode cX8_faultIs 55 = .ok (.iload_n 2, 1) := by decide +kernel
theorem dX8_faultIs_56 : decode cX8_faultIs 56 = .ok (.bipush 102, 2) := by decide +kernel
theorem dX8_faultIs_58 : decode cX8_faultIs 58 = .ok (.if_icmp .ne 13, 3) := by decide +kernel
theorem dX8_faultIs_61 : decode cX8_faultIs 61 = .ok (.aload_n 0, 1) := by decide +kernel
theorem dX8_faultIs_62 : decode cX8_faultIs 62 = .ok (.invokevirtual 57, 3) := by decide +kernel
theorem dX8_faultIs_65 : decode cX8_faultIs 65 = .ok (.ifCond .eq 19, 3) := by decide +kernel
theorem dX8_faultIs_68 : decode cX8_faultIs 68 = .ok (.goto 18, 3) := by decide +kernel
theorem dX8_faultIs_71 : decode cX8_faultIs 71 = .ok (.iload_n 2, 1) := by decide +kernel
theorem dX8_faultIs_72 : decode cX8_faultIs 72 = .ok (.bipush 116, 2) := by decide +kernel
theorem dX8_faultIs_74 : decode cX8_faultIs 74 = .ok (.if_icmp .ne 10, 3) := by decide +kernel
theorem dX8_faultIs_77 : decode cX8_faultIs 77 = .ok (.aload_n 0, 1) := by decide +kernel
theorem dX8_faultIs_78 : decode cX8_faultIs 78 = .ok (.invokevirtual 61, 3) := by decide +kernel
theorem dX8_faultIs_81 : decode cX8_faultIs 81 = .ok (.ifCond .ne 5, 3) := by decide +kernel
theorem dX8_faultIs_84 : decode cX8_faultIs 84 = .ok (.iload_n 1, 1) := by decide +kernel
theorem dX8_faultIs_85 : decode cX8_faultIs 85 = .ok (.ireturn, 1) := by decide +kernel
theorem dX8_faultIs_86 : decode cX8_faultIs 86 = .ok (.goto (-62), 3) := by decide +kernel
theorem dX8_faultIs_89 : decode cX8_faultIs 89 = .ok (.bipush (-4), 2) := by decide +kernel
theorem dX8_faultIs_91 : decode cX8_faultIs 91 = .ok (.ireturn, 1) := by decide +kernel
theorem dX8_fault_0 : decode cX8_fault 0 = .ok (.aload_n 0, 1) := by decide +kernel
theorem dX8_fault_1 : decode cX8_fault 1 = .ok (.invokevirtual 64, 3) := by decide +kernel
theorem dX8_fault_4 : decode cX8_fault 4 = .ok (.ireturn, 1) := by decide +kernel
theorem dX8_lay_0 : decode cX8_lay 0 = .ok (.aload_n 0, 1) := by decide +kernel
theorem dX8_lay_1 : decode cX8_lay 1 = .ok (.invokevirtual 64, 3) := by decide +kernel
theorem dX8_lay_4 : decode cX8_lay 4 = .ok (.bipush (-4), 2) := by decide +kernel
theorem dX8_lay_6 : decode cX8_lay 6 = .ok (.if_icmp .ne 12, 3) := by decide +kernel
theorem dX8_lay_9 : decode cX8_lay 9 = .ok (.aload_n 0, 1) := by decide +kernel
theorem dX8_lay_10 : decode cX8_lay 10 = .ok (.getfield 16, 3) := by decide +kernel
theorem dX8_lay_13 : decode cX8_lay 13 = .ok (.iconst 0, 1) := by decide +kernel
theorem dX8_lay_14 : decode cX8_lay 14 = .ok (.iaload, 1) := by decide +kernel
theorem dX8_lay_15 : decode cX8_lay 15 = .ok (.ifCond .ne 6, 3) := by decide +kernel
theorem dX8_lay_18 : decode cX8_lay 18 = .ok (.bipush (-2), 2) := by decide +kernel
theorem dX8_lay_20 : decode cX8_lay 20 = .ok (.ireturn, 1) := by decide +kernel
theorem dX8_lay_21 : decode cX8_lay 21 = .ok (.aload_n 0, 1) := by decide +kernel
theorem dX8_lay_22 : decode cX8_lay 22 = .ok (.aload_n 0, 1) := by decide +kernel
theorem dX8_lay_23 : decode cX8_lay 23 = .ok (.getfield 51, 3) := by decide +kernel
theorem dX8_lay_26 : decode cX8_lay 26 = .ok (.aload_n 0, 1) := by decide +kernel
theorem dX8_lay_27 : decode cX8_lay 27 = .ok (.getfield 54, 3) := by decide +kernel
theorem dX8_lay_30 : decode cX8_lay 30 = .ok (.invokevirtual 23, 3) := by decide +kernel
theorem dX8_lay_33 : decode cX8_lay 33 = .ok (.aload_n 0, 1) := by decide +kernel
theorem dX8_lay_34 : decode cX8_lay 34 = .ok (.getfield 7, 3) := by decide +kernel
theorem dX8_lay_37 : decode cX8_lay 37 = .ok (.bipush 42, 2) := by decide +kernel
theorem dX8_lay_39 : decode cX8_lay 39 = .ok (.iaload, 1) := by decide +kernel
theorem dX8_lay_40 : decode cX8_lay 40 = .ok (.ireturn, 1) := by decide +kernel
theorem dX8_sendsNext_0 : decode cX8_sendsNext 0 = .ok (.iconst 0, 1) := by decide +kernel
theorem dX8_sendsNext_1 : decode cX8_sendsNext 1 = .ok (.istore_n 2, 1) := by decide +kernel
theorem dX8_sendsNext_2 : decode cX8_sendsNext 2 = .ok (.iconst 0, 1) := by decide +kernel
theorem dX8_sendsNext_3 : decode cX8_sendsNext 3 = .ok (.istore_n 3, 1) := by decide +kernel
theorem dX8_sendsNext_4 : decode cX8_sendsNext 4 = .ok (.iconst 0, 1) := by decide +kernel
theorem dX8_sendsNext_5 : decode cX8_sendsNext 5 = .ok (.istore 4, 2) := by decide +kernel
theorem dX8_sendsNext_7 : decode cX8_sendsNext 7 = .ok (.iload 4, 2) := by decide +kernel
theorem dX8_sendsNext_9 : decode cX8_sendsNext 9 = .ok (.aload_n 0, 1) := by decide +kernel
theorem dX8_sendsNext_10 : decode cX8_sendsNext 10 = .ok (.getfield 7, 3) := by decide +kernel
theorem dX8_sendsNext_13 : decode cX8_sendsNext 13 = .ok (.iload_n 1, 1) := by decide +kernel
theorem dX8_sendsNext_14 : decode cX8_sendsNext 14 = .ok (.bipush 42, 2) := by decide +kernel
theorem dX8_sendsNext_16 : decode cX8_sendsNext 16 = .ok (.iadd, 1) := by decide +kernel
theorem dX8_sendsNext_17 : decode cX8_sendsNext 17 = .ok (.iaload, 1) := by decide +kernel
theorem dX8_sendsNext_18 : decode cX8_sendsNext 18 = .ok (.if_icmp .ge 84, 3) := by decide +kernel
theorem dX8_sendsNext_21 : decode cX8_sendsNext 21 = .ok (.aload_n 0, 1) := by decide +kernel
theorem dX8_sendsNext_22 : decode cX8_sendsNext 22 = .ok (.getfield 7, 3) := by decide +kernel
theorem dX8_sendsNext_25 : decode cX8_sendsNext 25 = .ok (.iload_n 1, 1) := by decide +kernel
theorem dX8_sendsNext_26 : decode cX8_sendsNext 26 = .ok (.bipush 30, 2) := by decide +kernel
theorem dX8_sendsNext_28 : decode cX8_sendsNext 28 = .ok (.iadd, 1) := by decide +kernel
theorem dX8_sendsNext_29 : decode cX8_sendsNext 29 = .ok (.iload 4, 2) := by decide +kernel
theorem dX8_sendsNext_31 : decode cX8_sendsNext 31 = .ok (.iadd, 1) := by decide +kernel
theorem dX8_sendsNext_32 : decode cX8_sendsNext 32 = .ok (.dup2, 1) := by decide +kernel
theorem dX8_sendsNext_33 : decode cX8_sendsNext 33 = .ok (.iaload, 1) := by decide +kernel
theorem dX8_sendsNext_34 : decode cX8_sendsNext 34 = .ok (.aload_n 0, 1) := by decide +kernel
theorem dX8_sendsNext_35 : decode cX8_sendsNext 35 = .ok (.getfield 7, 3) := by decide +kernel
theorem dX8_sendsNext_38 : decode cX8_sendsNext 38 = .ok (.iload_n 1, 1) := by decide +kernel
theorem dX8_sendsNext_39 : decode cX8_sendsNext 39 = .ok (.bipush 12, 2) := by decide +kernel
theorem dX8_sendsNext_41 : decode cX8_sendsNext 41 = .ok (.iadd, 1) := by decide +kernel
theorem dX8_sendsNext_42 : decode cX8_sendsNext 42 = .ok (.iload 4, 2) := by decide +kernel
theorem dX8_sendsNext_44 : decode cX8_sendsNext 44 = .ok (.iadd, 1) := by decide +kernel
theorem dX8_sendsNext_45 : decode cX8_sendsNext 45 = .ok (.iaload, 1) := by decide +kernel
theorem dX8_sendsNext_46 : decode cX8_sendsNext 46 = .ok (.iadd, 1) := by decide +kernel
theorem dX8_sendsNext_47 : decode cX8_sendsNext 47 = .ok (.iastore, 1) := by decide +kernel
theorem dX8_sendsNext_48 : decode cX8_sendsNext 48 = .ok (.iload_n 2, 1) := by decide +kernel
theorem dX8_sendsNext_49 : decode cX8_sendsNext 49 = .ok (.aload_n 0, 1) := by decide +kernel
theorem dX8_sendsNext_50 : decode cX8_sendsNext 50 = .ok (.getfield 7, 3) := by decide +kernel
theorem dX8_sendsNext_53 : decode cX8_sendsNext 53 = .ok (.iload_n 1, 1) := by decide +kernel
theorem dX8_sendsNext_54 : decode cX8_sendsNext 54 = .ok (.bipush 12, 2) := by decide +kernel
theorem dX8_sendsNext_56 : decode cX8_sendsNext 56 = .ok (.iadd, 1) := by decide +kernel
theorem dX8_sendsNext_57 : decode cX8_sendsNext 57 = .ok (.iload 4, 2) := by decide +kernel
theorem dX8_sendsNext_59 : decode cX8_sendsNext 59 = .ok (.iadd, 1) := by decide +kernel
theorem dX8_sendsNext_60 : decode cX8_sendsNext 60 = .ok (.iaload, 1) := by decide +kernel
theorem dX8_sendsNext_61 : decode cX8_sendsNext 61 = .ok (.iadd, 1) := by decide +kernel
theorem dX8_sendsNext_62 : decode cX8_sendsNext 62 = .ok (.istore_n 2, 1) := by decide +kernel
theorem dX8_sendsNext_63 : decode cX8_sendsNext 63 = .ok (.aload_n 0, 1) := by decide +kernel
theorem dX8_sendsNext_64 : decode cX8_sendsNext 64 = .ok (.getfield 7, 3) := by decide +kernel
theorem dX8_sendsNext_67 : decode cX8_sendsNext 67 = .ok (.iload_n 1, 1) := by decide +kernel
theorem dX8_sendsNext_68 : decode cX8_sendsNext 68 = .ok (.bipush 30, 2) := by decide +kernel
theorem dX8_sendsNext_70 : decode cX8_sendsNext 70 = .ok (.iadd, 1) := by decide +kernel
theorem dX8_sendsNext_71 : decode cX8_sendsNext 71 = .ok (.iload 4, 2) := by decide +kernel
theorem dX8_sendsNext_73 : decode cX8_sendsNext 73 = .ok (.iadd, 1) := by decide +kernel
theorem dX8_sendsNext_74 : decode cX8_sendsNext 74 = .ok (.iaload, 1) := by decide +kernel
theorem dX8_sendsNext_75 : decode cX8_sendsNext 75 = .ok (.aload_n 0, 1) := by decide +kernel
theorem dX8_sendsNext_76 : decode cX8_sendsNext 76 = .ok (.getfield 7, 3) := by decide +kernel
theorem dX8_sendsNext_79 : decode cX8_sendsNext 79 = .ok (.iload_n 1, 1) := by decide +kernel
theorem dX8_sendsNext_80 : decode cX8_sendsNext 80 = .ok (.bipush 30, 2) := by decide +kernel
theorem dX8_sendsNext_82 : decode cX8_sendsNext 82 = .ok (.iadd, 1) := by decide +kernel
theorem dX8_sendsNext_83 : decode cX8_sendsNext 83 = .ok (.iload_n 3, 1) := by decide +kernel
theorem dX8_sendsNext_84 : decode cX8_sendsNext 84 = .ok (.iadd, 1) := by decide +kernel
theorem dX8_sendsNext_85 : decode cX8_sendsNext 85 = .ok (.iaload, 1) := by decide +kernel
theorem dX8_sendsNext_86 : decode cX8_sendsNext 86 = .ok (.if_icmp .le 8, 3) := by decide +kernel
theorem dX8_sendsNext_89 : decode cX8_sendsNext 89 = .ok (.iload 4, 2) := by decide +kernel
theorem dX8_sendsNext_91 : decode cX8_sendsNext 91 = .ok (.goto 4, 3) := by decide +kernel
theorem dX8_sendsNext_94 : decode cX8_sendsNext 94 = .ok (.iload_n 3, 1) := by decide +kernel
theorem dX8_sendsNext_95 : decode cX8_sendsNext 95 = .ok (.istore_n 3, 1) := by decide +kernel
theorem dX8_sendsNext_96 : decode cX8_sendsNext 96 = .ok (.iinc 4 1, 3) := by decide +kernel
theorem dX8_sendsNext_99 : decode cX8_sendsNext 99 = .ok (.goto (-92), 3) := by decide +kernel
theorem dX8_sendsNext_102 : decode cX8_sendsNext 102 = .ok (.aload_n 0, 1) := by decide +kernel
theorem dX8_sendsNext_103 : decode cX8_sendsNext 103 = .ok (.getfield 7, 3) := by decide +kernel
theorem dX8_sendsNext_106 : decode cX8_sendsNext 106 = .ok (.iload_n 1, 1) := by decide +kernel
theorem dX8_sendsNext_107 : decode cX8_sendsNext 107 = .ok (.bipush 30, 2) := by decide +kernel
theorem dX8_sendsNext_109 : decode cX8_sendsNext 109 = .ok (.iadd, 1) := by decide +kernel
theorem dX8_sendsNext_110 : decode cX8_sendsNext 110 = .ok (.iload_n 3, 1) := by decide +kernel
theorem dX8_sendsNext_111 : decode cX8_sendsNext 111 = .ok (.iadd, 1) := by decide +kernel
theorem dX8_sendsNext_112 : decode cX8_sendsNext 112 = .ok (.dup2, 1) := by decide +kernel
theorem dX8_sendsNext_113 : decode cX8_sendsNext 113 = .ok (.iaload, 1) := by decide +kernel
theorem dX8_sendsNext_114 : decode cX8_sendsNext 114 = .ok (.iload_n 2, 1) := by decide +kernel
theorem dX8_sendsNext_115 : decode cX8_sendsNext 115 = .ok (.isub, 1) := by decide +kernel
theorem dX8_sendsNext_116 : decode cX8_sendsNext 116 = .ok (.iastore, 1) := by decide +kernel
theorem dX8_sendsNext_117 : decode cX8_sendsNext 117 = .ok (.iload_n 3, 1) := by decide +kernel
theorem dX8_sendsNext_118 : decode cX8_sendsNext 118 = .ok (.ireturn, 1) := by decide +kernel
theorem dX8_logs_0 : decode cX8_logs 0 = .ok (.bipush 39, 2) := by decide +kernel
theorem dX8_logs_2 : decode cX8_logs 2 = .ok (.istore 5, 2) := by decide +kernel
theorem dX8_logs_4 : decode cX8_logs 4 = .ok (.iload 5, 2) := by decide +kernel
theorem dX8_logs_6 : decode cX8_logs 6 = .ok (.iconst 3, 1) := by decide +kernel
theorem dX8_logs_7 : decode cX8_logs 7 = .ok (.if_icmp .le 35, 3) := by decide +kernel
theorem dX8_logs_10 : decode cX8_logs 10 = .ok (.aload_n 0, 1) := by decide +kernel
theorem dX8_logs_11 : decode cX8_logs 11 = .ok (.getfield 7, 3) := by decide +kernel
theorem dX8_logs_14 : decode cX8_logs 14 = .ok (.iload_n 1, 1) := by decide +kernel
theorem dX8_logs_15 : decode cX8_logs 15 = .ok (.bipush 49, 2) := by decide +kernel
theorem dX8_logs_17 : decode cX8_logs 17 = .ok (.iadd, 1) := by decide +kernel
theorem dX8_logs_18 : decode cX8_logs 18 = .ok (.iload 5, 2) := by decide +kernel
theorem dX8_logs_20 : decode cX8_logs 20 = .ok (.iadd, 1) := by decide +kernel
theorem dX8_logs_21 : decode cX8_logs 21 = .ok (.aload_n 0, 1) := by decide +kernel
theorem dX8_logs_22 : decode cX8_logs 22 = .ok (.getfield 7, 3) := by decide +kernel
theorem dX8_logs_25 : decode cX8_logs 25 = .ok (.iload_n 1, 1) := by decide +kernel
theorem dX8_logs_26 : decode cX8_logs 26 = .ok (.bipush 49, 2) := by decide +kernel
theorem dX8_logs_28 : decode cX8_logs 28 = .ok (.iadd, 1) := by decide +kernel
theorem dX8_logs_29 : decode cX8_logs 29 = .ok (.iload 5, 2) := by decide +kernel
theorem dX8_logs_31 : decode cX8_logs 31 = .ok (.iadd, 1) := by decide +kernel
theorem dX8_logs_32 : decode cX8_logs 32 = .ok (.iconst 4, 1) := by decide +kernel
theorem dX8_logs_33 : decode cX8_logs 33 = .ok (.isub, 1) := by decide +kernel
theorem dX8_logs_34 : decode cX8_logs 34 = .ok (.iaload, 1) := by decide +kernel
theorem dX8_logs_35 : decode cX8_logs 35 = .ok (.iastore, 1) := by decide +kernel
theorem dX8_logs_36 : decode cX8_logs 36 = .ok (.iinc 5 (-1), 3) := by decide +kernel
theorem dX8_logs_39 : decode cX8_logs 39 = .ok (.goto (-35), 3) := by decide +kernel
theorem dX8_logs_42 : decode cX8_logs 42 = .ok (.aload_n 0, 1) := by decide +kernel
theorem dX8_logs_43 : decode cX8_logs 43 = .ok (.getfield 7, 3) := by decide +kernel
theorem dX8_logs_46 : decode cX8_logs 46 = .ok (.iload_n 1, 1) := by decide +kernel
theorem dX8_logs_47 : decode cX8_logs 47 = .ok (.bipush 49, 2) := by decide +kernel
theorem dX8_logs_49 : decode cX8_logs 49 = .ok (.iadd, 1) := by decide +kernel
theorem dX8_logs_50 : decode cX8_logs 50 = .ok (.iload_n 2, 1) := by decide +kernel
theorem dX8_logs_51 : decode cX8_logs 51 = .ok (.iastore, 1) := by decide +kernel
theorem dX8_logs_52 : decode cX8_logs 52 = .ok (.aload_n 0, 1) := by decide +kernel
theorem dX8_logs_53 : decode cX8_logs 53 = .ok (.getfield 7, 3) := by decide +kernel
theorem dX8_logs_56 : decode cX8_logs 56 = .ok (.iload_n 1, 1) := by decide +kernel
theorem dX8_logs_57 : decode cX8_logs 57 = .ok (.bipush 49, 2) := by decide +kernel
theorem dX8_logs_59 : decode cX8_logs 59 = .ok (.iadd, 1) := by decide +kernel
theorem dX8_logs_60 : decode cX8_logs 60 = .ok (.iconst 1, 1) := by decide +kernel
theorem dX8_logs_61 : decode cX8_logs 61 = .ok (.iadd, 1) := by decide +kernel
theorem dX8_logs_62 : decode cX8_logs 62 = .ok (.iload_n 3, 1) := by decide +kernel
theorem dX8_logs_63 : decode cX8_logs 63 = .ok (.iastore, 1) := by decide +kernel
theorem dX8_logs_64 : decode cX8_logs 64 = .ok (.aload_n 0, 1) := by decide +kernel
theorem dX8_logs_65 : decode cX8_logs 65 = .ok (.getfield 7, 3) := by decide +kernel
theorem dX8_logs_68 : decode cX8_logs 68 = .ok (.iload_n 1, 1) := by decide +kernel
theorem dX8_logs_69 : decode cX8_logs 69 = .ok (.bipush 49, 2) := by decide +kernel
theorem dX8_logs_71 : decode cX8_logs 71 = .ok (.iadd, 1) := by decide +kernel
theorem dX8_logs_72 : decode cX8_logs 72 = .ok (.iconst 2, 1) := by decide +kernel
theorem dX8_logs_73 : decode cX8_logs 73 = .ok (.iadd, 1) := by decide +kernel
theorem dX8_logs_74 : decode cX8_logs 74 = .ok (.iload 4, 2) := by decide +kernel
theorem dX8_logs_76 : decode cX8_logs 76 = .ok (.iastore, 1) := by decide +kernel
theorem dX8_logs_77 : decode cX8_logs 77 = .ok (.aload_n 0, 1) := by decide +kernel
theorem dX8_logs_78 : decode cX8_logs 78 = .ok (.getfield 7, 3) := by decide +kernel
theorem dX8_logs_81 : decode cX8_logs 81 = .ok (.iload_n 1, 1) := by decide +kernel
theorem dX8_logs_82 : decode cX8_logs 82 = .ok (.bipush 49, 2) := by decide +kernel
theorem dX8_logs_84 : decode cX8_logs 84 = .ok (.iadd, 1) := by decide +kernel
theorem dX8_logs_85 : decode cX8_logs 85 = .ok (.iconst 3, 1) := by decide +kernel
theorem dX8_logs_86 : decode cX8_logs 86 = .ok (.iadd, 1) := by decide +kernel
theorem dX8_logs_87 : decode cX8_logs 87 = .ok (.aload_n 0, 1) := by decide +kernel
theorem dX8_logs_88 : decode cX8_logs 88 = .ok (.getfield 7, 3) := by decide +kernel
theorem dX8_logs_91 : decode cX8_logs 91 = .ok (.iload_n 1, 1) := by decide +kernel
theorem dX8_logs_92 : decode cX8_logs 92 = .ok (.bipush 45, 2) := by decide +kernel
theorem dX8_logs_94 : decode cX8_logs 94 = .ok (.iadd, 1) := by decide +kernel
theorem dX8_logs_95 : decode cX8_logs 95 = .ok (.iaload, 1) := by decide +kernel
theorem dX8_logs_96 : decode cX8_logs 96 = .ok (.iastore, 1) := by decide +kernel
theorem dX8_logs_97 : decode cX8_logs 97 = .ok (.return_, 1) := by decide +kernel
theorem dX8_isLost_0 : decode cX8_isLost 0 = .ok (.ldc2_w 67, 3) := by decide +kernel
theorem dX8_isLost_3 : decode cX8_isLost 3 = .ok (.iload_n 2, 1) := by decide +kernel
theorem dX8_isLost_4 : decode cX8_isLost 4 = .ok (.i2l, 1) := by decide +kernel
theorem dX8_isLost_5 : decode cX8_isLost 5 = .ok (.lmul, 1) := by decide +kernel
theorem dX8_isLost_6 : decode cX8_isLost 6 = .ok (.ldc2_w 69, 3) := by decide +kernel
theorem dX8_isLost_9 : decode cX8_isLost 9 = .ok (.aload_n 0, 1) := by decide +kernel
theorem dX8_isLost_10 : decode cX8_isLost 10 = .ok (.getfield 7, 3) := by decide +kernel
theorem dX8_isLost_13 : decode cX8_isLost 13 = .ok (.iload_n 1, 1) := by decide +kernel
theorem dX8_isLost_14 : decode cX8_isLost 14 = .ok (.bipush 45, 2) := by decide +kernel
theorem dX8_isLost_16 : decode cX8_isLost 16 = .ok (.iadd, 1) := by decide +kernel
theorem dX8_isLost_17 : decode cX8_isLost 17 = .ok (.iaload, 1) := by decide +kernel
theorem dX8_isLost_18 : decode cX8_isLost 18 = .ok (.i2l, 1) := by decide +kernel
theorem dX8_isLost_19 : decode cX8_isLost 19 = .ok (.lmul, 1) := by decide +kernel
theorem dX8_isLost_20 : decode cX8_isLost 20 = .ok (.ladd, 1) := by decide +kernel
theorem dX8_isLost_21 : decode cX8_isLost 21 = .ok (.lconst 1, 1) := by decide +kernel
theorem dX8_isLost_22 : decode cX8_isLost 22 = .ok (.ladd, 1) := by decide +kernel
theorem dX8_isLost_23 : decode cX8_isLost 23 = .ok (.lstore_n 3, 1) := by decide +kernel
theorem dX8_isLost_24 : decode cX8_isLost 24 = .ok (.lload_n 3, 1) := by decide +kernel
theorem dX8_isLost_25 : decode cX8_isLost 25 = .ok (.lload_n 3, 1) := by decide +kernel
theorem dX8_isLost_26 : decode cX8_isLost 26 = .ok (.lmul, 1) := by decide +kernel
theorem dX8_isLost_27 : decode cX8_isLost 27 = .ok (.ldc2_w 71, 3) := by decide +kernel
theorem dX8_isLost_30 : decode cX8_isLost 30 = .ok (.lrem, 1) := by decide +kernel
theorem dX8_isLost_31 : decode cX8_isLost 31 = .ok (.ldc2_w 73, 3) := by decide +kernel
theorem dX8_isLost_34 : decode cX8_isLost 34 = .ok (.lrem, 1) := by decide +kernel
theorem dX8_isLost_35 : decode cX8_isLost 35 = .ok (.aload_n 0, 1) := by decide +kernel
theorem dX8_isLost_36 : decode cX8_isLost 36 = .ok (.getfield 7, 3) := by decide +kernel
theorem dX8_isLost_39 : decode cX8_isLost 39 = .ok (.iload_n 1, 1) := by decide +kernel
theorem dX8_isLost_40 : decode cX8_isLost 40 = .ok (.bipush 89, 2) := by decide +kernel
theorem dX8_isLost_42 : decode cX8_isLost 42 = .ok (.iadd, 1) := by decide +kernel
theorem dX8_isLost_43 : decode cX8_isLost 43 = .ok (.bipush 16, 2) := by decide +kernel
theorem dX8_isLost_45 : decode cX8_isLost 45 = .ok (.iload_n 2, 1) := by decide +kernel
theorem dX8_isLost_46 : decode cX8_isLost 46 = .ok (.imul, 1) := by decide +kernel
theorem dX8_isLost_47 : decode cX8_isLost 47 = .ok (.iadd, 1) := by decide +kernel
theorem dX8_isLost_48 : decode cX8_isLost 48 = .ok (.iconst 0, 1) := by decide +kernel
theorem dX8_isLost_49 : decode cX8_isLost 49 = .ok (.iadd, 1) := by decide +kernel
theorem dX8_isLost_50 : decode cX8_isLost 50 = .ok (.iaload, 1) := by decide +kernel
theorem dX8_isLost_51 : decode cX8_isLost 51 = .ok (.i2l, 1) := by decide +kernel
theorem dX8_isLost_52 : decode cX8_isLost 52 = .ok (.lcmp, 1) := by decide +kernel
theorem dX8_isLost_53 : decode cX8_isLost 53 = .ok (.ifCond .ge 7, 3) := by decide +kernel
theorem dX8_isLost_56 : decode cX8_isLost 56 = .ok (.iconst 1, 1) := by decide +kernel
theorem dX8_isLost_57 : decode cX8_isLost 57 = .ok (.goto 4, 3) := by decide +kernel
theorem dX8_isLost_60 : decode cX8_isLost 60 = .ok (.iconst 0, 1) := by decide +kernel
theorem dX8_isLost_61 : decode cX8_isLost 61 = .ok (.ireturn, 1) := by decide +kernel
theorem dX8_hearsTable_0 : decode cX8_hearsTable 0 = .ok (.aload_n 0, 1) := by decide +kernel
theorem dX8_hearsTable_1 : decode cX8_hearsTable 1 = .ok (.getfield 7, 3) := by decide +kernel
theorem dX8_hearsTable_4 : decode cX8_hearsTable 4 = .ok (.iload_n 2, 1) := by decide +kernel
theorem dX8_hearsTable_5 : decode cX8_hearsTable 5 = .ok (.iconst 2, 1) := by decide +kernel
theorem dX8_hearsTable_6 : decode cX8_hearsTable 6 = .ok (.iadd, 1) := by decide +kernel
theorem dX8_hearsTable_7 : decode cX8_hearsTable 7 = .ok (.aload_n 0, 1) := by decide +kernel
theorem dX8_hearsTable_8 : decode cX8_hearsTable 8 = .ok (.getfield 7, 3) := by decide +kernel
theorem dX8_hearsTable_11 : decode cX8_hearsTable 11 = .ok (.iload_n 1, 1) := by decide +kernel
theorem dX8_hearsTable_12 : decode cX8_hearsTable 12 = .ok (.bipush 45, 2) := by decide +kernel
theorem dX8_hearsTable_14 : decode cX8_hearsTable 14 = .ok (.iadd, 1) := by decide +kernel
theorem dX8_hearsTable_15 : decode cX8_hearsTable 15 = .ok (.iaload, 1) := by decide +kernel
theorem dX8_hearsTable_16 : decode cX8_hearsTable 16 = .ok (.aload_n 0, 1) := by decide +kernel
theorem dX8_hearsTable_17 : decode cX8_hearsTable 17 = .ok (.getfield 7, 3) := by decide +kernel
theorem dX8_hearsTable_20 : decode cX8_hearsTable 20 = .ok (.iload_n 1, 1) := by decide +kernel
theorem dX8_hearsTable_21 : decode cX8_hearsTable 21 = .ok (.bipush 44, 2) := by decide +kernel
theorem dX8_hearsTable_23 : decode cX8_hearsTable 23 = .ok (.iadd, 1) := by decide +kernel
theorem dX8_hearsTable_24 : decode cX8_hearsTable 24 = .ok (.iaload, 1) := by decide +kernel
theorem dX8_hearsTable_25 : decode cX8_hearsTable 25 = .ok (.iadd, 1) := by decide +kernel
theorem dX8_hearsTable_26 : decode cX8_hearsTable 26 = .ok (.iconst 1, 1) := by decide +kernel
theorem dX8_hearsTable_27 : decode cX8_hearsTable 27 = .ok (.isub, 1) := by decide +kernel
theorem dX8_hearsTable_28 : decode cX8_hearsTable 28 = .ok (.iastore, 1) := by decide +kernel
theorem dX8_hearsTable_29 : decode cX8_hearsTable 29 = .ok (.iconst 0, 1) := by decide +kernel
theorem dX8_hearsTable_30 : decode cX8_hearsTable 30 = .ok (.istore_n 3, 1) := by decide +kernel
theorem dX8_hearsTable_31 : decode cX8_hearsTable 31 = .ok (.iload_n 3, 1) := by decide +kernel
theorem dX8_hearsTable_32 : decode cX8_hearsTable 32 = .ok (.aload_n 0, 1) := by decide +kernel
theorem dX8_hearsTable_33 : decode cX8_hearsTable 33 = .ok (.getfield 7, 3) := by decide +kernel
theorem dX8_hearsTable_36 : decode cX8_hearsTable 36 = .ok (.iload_n 1, 1) := by decide +kernel
theorem dX8_hearsTable_37 : decode cX8_hearsTable 37 = .ok (.bipush 42, 2) := by decide +kernel
theorem dX8_hearsTable_39 : decode cX8_hearsTable 39 = .ok (.iadd, 1) := by decide +kernel
theorem dX8_hearsTable_40 : decode cX8_hearsTable 40 = .ok (.iaload, 1) := by decide +kernel
theorem dX8_hearsTable_41 : decode cX8_hearsTable 41 = .ok (.if_icmp .ge 92, 3) := by decide +kernel
theorem dX8_hearsTable_44 : decode cX8_hearsTable 44 = .ok (.aload_n 0, 1) := by decide +kernel
theorem dX8_hearsTable_45 : decode cX8_hearsTable 45 = .ok (.getfield 7, 3) := by decide +kernel
theorem dX8_hearsTable_48 : decode cX8_hearsTable 48 = .ok (.iload_n 2, 1) := by decide +kernel
theorem dX8_hearsTable_49 : decode cX8_hearsTable 49 = .ok (.iconst 4, 1) := by decide +kernel
theorem dX8_hearsTable_50 : decode cX8_hearsTable 50 = .ok (.iadd, 1) := by decide +kernel
theorem dX8_hearsTable_51 : decode cX8_hearsTable 51 = .ok (.iload_n 3, 1) := by decide +kernel
theorem dX8_hearsTable_52 : decode cX8_hearsTable 52 = .ok (.iadd, 1) := by decide +kernel
theorem dX8_hearsTable_53 : decode cX8_hearsTable 53 = .ok (.iaload, 1) := by decide +kernel
theorem dX8_hearsTable_54 : decode cX8_hearsTable 54 = .ok (.aload_n 0, 1) := by decide +kernel
theorem dX8_hearsTable_55 : decode cX8_hearsTable 55 = .ok (.getfield 7, 3) := by decide +kernel
theorem dX8_hearsTable_58 : decode cX8_hearsTable 58 = .ok (.iload_n 1, 1) := by decide +kernel
theorem dX8_hearsTable_59 : decode cX8_hearsTable 59 = .ok (.bipush 18, 2) := by decide +kernel
theorem dX8_hearsTable_61 : decode cX8_hearsTable 61 = .ok (.iadd, 1) := by decide +kernel
theorem dX8_hearsTable_62 : decode cX8_hearsTable 62 = .ok (.iload_n 3, 1) := by decide +kernel
theorem dX8_hearsTable_63 : decode cX8_hearsTable 63 = .ok (.iadd, 1) := by decide +kernel
theorem dX8_hearsTable_64 : decode cX8_hearsTable 64 = .ok (.iaload, 1) := by decide +kernel
theorem dX8_hearsTable_65 : decode cX8_hearsTable 65 = .ok (.if_icmp .ne 7, 3) := by decide +kernel
theorem dX8_hearsTable_68 : decode cX8_hearsTable 68 = .ok (.iconst 1, 1) := by decide +kernel
theorem dX8_hearsTable_69 : decode cX8_hearsTable 69 = .ok (.goto 4, 3) := by decide +kernel
theorem dX8_hearsTable_72 : decode cX8_hearsTable 72 = .ok (.iconst 0, 1) := by decide +kernel
theorem dX8_hearsTable_73 : decode cX8_hearsTable 73 = .ok (.istore 4, 2) := by decide +kernel
theorem dX8_hearsTable_75 : decode cX8_hearsTable 75 = .ok (.aload_n 0, 1) := by decide +kernel
theorem dX8_hearsTable_76 : decode cX8_hearsTable 76 = .ok (.getfield 7, 3) := by decide +kernel
theorem dX8_hearsTable_79 : decode cX8_hearsTable 79 = .ok (.iload_n 2, 1) := by decide +kernel
theorem dX8_hearsTable_80 : decode cX8_hearsTable 80 = .ok (.bipush 10, 2) := by decide +kernel
theorem dX8_hearsTable_82 : decode cX8_hearsTable 82 = .ok (.iadd, 1) := by decide +kernel
theorem dX8_hearsTable_83 : decode cX8_hearsTable 83 = .ok (.iload_n 3, 1) := by decide +kernel
theorem dX8_hearsTable_84 : decode cX8_hearsTable 84 = .ok (.iadd, 1) := by decide +kernel
theorem dX8_hearsTable_85 : decode cX8_hearsTable 85 = .ok (.iload 4, 2) := by decide +kernel
theorem dX8_hearsTable_87 : decode cX8_hearsTable 87 = .ok (.ifCond .eq 17, 3) := by decide +kernel
theorem dX8_hearsTable_90 : decode cX8_hearsTable 90 = .ok (.aload_n 0, 1) := by decide +kernel
theorem dX8_hearsTable_91 : decode cX8_hearsTable 91 = .ok (.getfield 7, 3) := by decide +kernel
theorem dX8_hearsTable_94 : decode cX8_hearsTable 94 = .ok (.iload_n 2, 1) := by decide +kernel
theorem dX8_hearsTable_95 : decode cX8_hearsTable 95 = .ok (.bipush 10, 2) := by decide +kernel
theorem dX8_hearsTable_97 : decode cX8_hearsTable 97 = .ok (.iadd, 1) := by decide +kernel
theorem dX8_hearsTable_98 : decode cX8_hearsTable 98 = .ok (.iload_n 3, 1) := by decide +kernel
theorem dX8_hearsTable_99 : decode cX8_hearsTable 99 = .ok (.iadd, 1) := by decide +kernel
theorem dX8_hearsTable_100 : decode cX8_hearsTable 100 = .ok (.iaload, 1) := by decide +kernel
theorem dX8_hearsTable_101 : decode cX8_hearsTable 101 = .ok (.goto 4, 3) := by decide +kernel
theorem dX8_hearsTable_104 : decode cX8_hearsTable 104 = .ok (.iconst 0, 1) := by decide +kernel
theorem dX8_hearsTable_105 : decode cX8_hearsTable 105 = .ok (.iastore, 1) := by decide +kernel
theorem dX8_hearsTable_106 : decode cX8_hearsTable 106 = .ok (.aload_n 0, 1) := by decide +kernel
theorem dX8_hearsTable_107 : decode cX8_hearsTable 107 = .ok (.getfield 7, 3) := by decide +kernel
theorem dX8_hearsTable_110 : decode cX8_hearsTable 110 = .ok (.iload_n 2, 1) := by decide +kernel
theorem dX8_hearsTable_111 : decode cX8_hearsTable 111 = .ok (.iconst 4, 1) := by decide +kernel
theorem dX8_hearsTable_112 : decode cX8_hearsTable 112 = .ok (.iadd, 1) := by decide +kernel
theorem dX8_hearsTable_113 : decode cX8_hearsTable 113 = .ok (.iload_n 3, 1) := by decide +kernel
theorem dX8_hearsTable_114 : decode cX8_hearsTable 114 = .ok (.iadd, 1) := by decide +kernel
theorem dX8_hearsTable_115 : decode cX8_hearsTable 115 = .ok (.aload_n 0, 1) := by decide +kernel
theorem dX8_hearsTable_116 : decode cX8_hearsTable 116 = .ok (.getfield 7, 3) := by decide +kernel
theorem dX8_hearsTable_119 : decode cX8_hearsTable 119 = .ok (.iload_n 1, 1) := by decide +kernel
theorem dX8_hearsTable_120 : decode cX8_hearsTable 120 = .ok (.bipush 18, 2) := by decide +kernel
theorem dX8_hearsTable_122 : decode cX8_hearsTable 122 = .ok (.iadd, 1) := by decide +kernel
theorem dX8_hearsTable_123 : decode cX8_hearsTable 123 = .ok (.iload_n 3, 1) := by decide +kernel
theorem dX8_hearsTable_124 : decode cX8_hearsTable 124 = .ok (.iadd, 1) := by decide +kernel
theorem dX8_hearsTable_125 : decode cX8_hearsTable 125 = .ok (.iaload, 1) := by decide +kernel
theorem dX8_hearsTable_126 : decode cX8_hearsTable 126 = .ok (.iastore, 1) := by decide +kernel
theorem dX8_hearsTable_127 : decode cX8_hearsTable 127 = .ok (.iinc 3 1, 3) := by decide +kernel
theorem dX8_hearsTable_130 : decode cX8_hearsTable 130 = .ok (.goto (-99), 3) := by decide +kernel
theorem dX8_hearsTable_133 : decode cX8_hearsTable 133 = .ok (.return_, 1) := by decide +kernel
theorem dX8_hearsSymbol_0 : decode cX8_hearsSymbol 0 = .ok (.aload_n 0, 1) := by decide +kernel
theorem dX8_hearsSymbol_1 : decode cX8_hearsSymbol 1 = .ok (.getfield 7, 3) := by decide +kernel
theorem dX8_hearsSymbol_4 : decode cX8_hearsSymbol 4 = .ok (.iload_n 2, 1) := by decide +kernel
theorem dX8_hearsSymbol_5 : decode cX8_hearsSymbol 5 = .ok (.iconst 2, 1) := by decide +kernel
theorem dX8_hearsSymbol_6 : decode cX8_hearsSymbol 6 = .ok (.iadd, 1) := by decide +kernel
theorem dX8_hearsSymbol_7 : decode cX8_hearsSymbol 7 = .ok (.iaload, 1) := by decide +kernel
theorem dX8_hearsSymbol_8 : decode cX8_hearsSymbol 8 = .ok (.aload_n 0, 1) := by decide +kernel
theorem dX8_hearsSymbol_9 : decode cX8_hearsSymbol 9 = .ok (.getfield 7, 3) := by decide +kernel
theorem dX8_hearsSymbol_12 : decode cX8_hearsSymbol 12 = .ok (.iload_n 1, 1) := by decide +kernel
theorem dX8_hearsSymbol_13 : decode cX8_hearsSymbol 13 = .ok (.bipush 45, 2) := by decide +kernel
theorem dX8_hearsSymbol_15 : decode cX8_hearsSymbol 15 = .ok (.iadd, 1) := by decide +kernel
theorem dX8_hearsSymbol_16 : decode cX8_hearsSymbol 16 = .ok (.iaload, 1) := by decide +kernel
theorem dX8_hearsSymbol_17 : decode cX8_hearsSymbol 17 = .ok (.if_icmp .lt 45, 3) := by decide +kernel
theorem dX8_hearsSymbol_20 : decode cX8_hearsSymbol 20 = .ok (.aload_n 0, 1) := by decide +kernel
theorem dX8_hearsSymbol_21 : decode cX8_hearsSymbol 21 = .ok (.getfield 7, 3) := by decide +kernel
theorem dX8_hearsSymbol_24 : decode cX8_hearsSymbol 24 = .ok (.iload_n 2, 1) := by decide +kernel
theorem dX8_hearsSymbol_25 : decode cX8_hearsSymbol 25 = .ok (.iconst 4, 1) := by decide +kernel
theorem dX8_hearsSymbol_26 : decode cX8_hearsSymbol 26 = .ok (.iadd, 1) := by decide +kernel
theorem dX8_hearsSymbol_27 : decode cX8_hearsSymbol 27 = .ok (.iload_n 3, 1) := by decide +kernel
theorem dX8_hearsSymbol_28 : decode cX8_hearsSymbol 28 = .ok (.iadd, 1) := by decide +kernel
theorem dX8_hearsSymbol_29 : decode cX8_hearsSymbol 29 = .ok (.iaload, 1) := by decide +kernel
theorem dX8_hearsSymbol_30 : decode cX8_hearsSymbol 30 = .ok (.aload_n 0, 1) := by decide +kernel
theorem dX8_hearsSymbol_31 : decode cX8_hearsSymbol 31 = .ok (.getfield 7, 3) := by decide +kernel
theorem dX8_hearsSymbol_34 : decode cX8_hearsSymbol 34 = .ok (.iload_n 1, 1) := by decide +kernel
theorem dX8_hearsSymbol_35 : decode cX8_hearsSymbol 35 = .ok (.bipush 18, 2) := by decide +kernel
theorem dX8_hearsSymbol_37 : decode cX8_hearsSymbol 37 = .ok (.iadd, 1) := by decide +kernel
theorem dX8_hearsSymbol_38 : decode cX8_hearsSymbol 38 = .ok (.iload_n 3, 1) := by decide +kernel
theorem dX8_hearsSymbol_39 : decode cX8_hearsSymbol 39 = .ok (.iadd, 1) := by decide +kernel
theorem dX8_hearsSymbol_40 : decode cX8_hearsSymbol 40 = .ok (.iaload, 1) := by decide +kernel
theorem dX8_hearsSymbol_41 : decode cX8_hearsSymbol 41 = .ok (.if_icmp .ne 21, 3) := by decide +kernel
theorem dX8_hearsSymbol_44 : decode cX8_hearsSymbol 44 = .ok (.aload_n 0, 1) := by decide +kernel
theorem dX8_hearsSymbol_45 : decode cX8_hearsSymbol 45 = .ok (.getfield 7, 3) := by decide +kernel
theorem dX8_hearsSymbol_48 : decode cX8_hearsSymbol 48 = .ok (.iload_n 2, 1) := by decide +kernel
theorem dX8_hearsSymbol_49 : decode cX8_hearsSymbol 49 = .ok (.bipush 10, 2) := by decide +kernel
theorem dX8_hearsSymbol_51 : decode cX8_hearsSymbol 51 = .ok (.iadd, 1) := by decide +kernel
theorem dX8_hearsSymbol_52 : decode cX8_hearsSymbol 52 = .ok (.iload_n 3, 1) := by decide +kernel
theorem dX8_hearsSymbol_53 : decode cX8_hearsSymbol 53 = .ok (.iadd, 1) := by decide +kernel
theorem dX8_hearsSymbol_54 : decode cX8_hearsSymbol 54 = .ok (.dup2, 1) := by decide +kernel
theorem dX8_hearsSymbol_55 : decode cX8_hearsSymbol 55 = .ok (.iaload, 1) := by decide +kernel
theorem dX8_hearsSymbol_56 : decode cX8_hearsSymbol 56 = .ok (.iconst 1, 1) := by decide +kernel
theorem dX8_hearsSymbol_57 : decode cX8_hearsSymbol 57 = .ok (.iload 4, 2) := by decide +kernel
theorem dX8_hearsSymbol_59 : decode cX8_hearsSymbol 59 = .ok (.ishl, 1) := by decide +kernel
theorem dX8_hearsSymbol_60 : decode cX8_hearsSymbol 60 = .ok (.ior, 1) := by decide +kernel
theorem dX8_hearsSymbol_61 : decode cX8_hearsSymbol 61 = .ok (.iastore, 1) := by decide +kernel
theorem dX8_hearsSymbol_62 : decode cX8_hearsSymbol 62 = .ok (.return_, 1) := by decide +kernel
theorem dX8_ticks_0 : decode cX8_ticks 0 = .ok (.aload_n 0, 1) := by decide +kernel
theorem dX8_ticks_1 : decode cX8_ticks 1 = .ok (.getfield 7, 3) := by decide +kernel
theorem dX8_ticks_4 : decode cX8_ticks 4 = .ok (.iload_n 1, 1) := by decide +kernel
theorem dX8_ticks_5 : decode cX8_ticks 5 = .ok (.bipush 45, 2) := by decide +kernel
theorem dX8_ticks_7 : decode cX8_ticks 7 = .ok (.iadd, 1) := by decide +kernel
theorem dX8_ticks_8 : decode cX8_ticks 8 = .ok (.iaload, 1) := by decide +kernel
theorem dX8_ticks_9 : decode cX8_ticks 9 = .ok (.aload_n 0, 1) := by decide +kernel
theorem dX8_ticks_10 : decode cX8_ticks 10 = .ok (.getfield 7, 3) := by decide +kernel
theorem dX8_ticks_13 : decode cX8_ticks 13 = .ok (.iload_n 1, 1) := by decide +kernel
theorem dX8_ticks_14 : decode cX8_ticks 14 = .ok (.bipush 43, 2) := by decide +kernel
theorem dX8_ticks_16 : decode cX8_ticks 16 = .ok (.iadd, 1) := by decide +kernel
theorem dX8_ticks_17 : decode cX8_ticks 17 = .ok (.iaload, 1) := by decide +kernel
theorem dX8_ticks_18 : decode cX8_ticks 18 = .ok (.irem, 1) := by decide +kernel
theorem dX8_ticks_19 : decode cX8_ticks 19 = .ok (.ifCond .ne 7, 3) := by decide +kernel
theorem dX8_ticks_22 : decode cX8_ticks 22 = .ok (.iconst 1, 1) := by decide +kernel
theorem dX8_ticks_23 : decode cX8_ticks 23 = .ok (.goto 4, 3) := by decide +kernel
theorem dX8_ticks_26 : decode cX8_ticks 26 = .ok (.iconst 0, 1) := by decide +kernel
theorem dX8_ticks_27 : decode cX8_ticks 27 = .ok (.istore_n 2, 1) := by decide +kernel
theorem dX8_ticks_28 : decode cX8_ticks 28 = .ok (.iload_n 2, 1) := by decide +kernel
theorem dX8_ticks_29 : decode cX8_ticks 29 = .ok (.ifCond .eq 8, 3) := by decide +kernel
theorem dX8_ticks_32 : decode cX8_ticks 32 = .ok (.bipush (-4), 2) := by decide +kernel
theorem dX8_ticks_34 : decode cX8_ticks 34 = .ok (.goto 8, 3) := by decide +kernel
theorem dX8_ticks_37 : decode cX8_ticks 37 = .ok (.aload_n 0, 1) := by decide +kernel
theorem dX8_ticks_38 : decode cX8_ticks 38 = .ok (.iload_n 1, 1) := by decide +kernel
theorem dX8_ticks_39 : decode cX8_ticks 39 = .ok (.invokevirtual 75, 3) := by decide +kernel
theorem dX8_ticks_42 : decode cX8_ticks 42 = .ok (.istore_n 3, 1) := by decide +kernel
theorem dX8_ticks_43 : decode cX8_ticks 43 = .ok (.iload_n 2, 1) := by decide +kernel
theorem dX8_ticks_44 : decode cX8_ticks 44 = .ok (.ifCond .eq 8, 3) := by decide +kernel
theorem dX8_ticks_47 : decode cX8_ticks 47 = .ok (.bipush (-4), 2) := by decide +kernel
theorem dX8_ticks_49 : decode cX8_ticks 49 = .ok (.goto 14, 3) := by decide +kernel
theorem dX8_ticks_52 : decode cX8_ticks 52 = .ok (.aload_n 0, 1) := by decide +kernel
theorem dX8_ticks_53 : decode cX8_ticks 53 = .ok (.getfield 7, 3) := by decide +kernel
theorem dX8_ticks_56 : decode cX8_ticks 56 = .ok (.iload_n 1, 1) := by decide +kernel
theorem dX8_ticks_57 : decode cX8_ticks 57 = .ok (.bipush 24, 2) := by decide +kernel
theorem dX8_ticks_59 : decode cX8_ticks 59 = .ok (.iadd, 1) := by decide +kernel
theorem dX8_ticks_60 : decode cX8_ticks 60 = .ok (.iload_n 3, 1) := by decide +kernel
theorem dX8_ticks_61 : decode cX8_ticks 61 = .ok (.iadd, 1) := by decide +kernel
theorem dX8_ticks_62 : decode cX8_ticks 62 = .ok (.iaload, 1) := by decide +kernel
theorem dX8_ticks_63 : decode cX8_ticks 63 = .ok (.istore 4, 2) := by decide +kernel
theorem dX8_ticks_65 : decode cX8_ticks 65 = .ok (.aload_n 0, 1) := by decide +kernel
theorem dX8_ticks_66 : decode cX8_ticks 66 = .ok (.iload_n 1, 1) := by decide +kernel
theorem dX8_ticks_67 : decode cX8_ticks 67 = .ok (.iload_n 3, 1) := by decide +kernel
theorem dX8_ticks_68 : decode cX8_ticks 68 = .ok (.iload 4, 2) := by decide +kernel
theorem dX8_ticks_70 : decode cX8_ticks 70 = .ok (.iload_n 2, 1) := by decide +kernel
theorem dX8_ticks_71 : decode cX8_ticks 71 = .ok (.ifCond .eq 8, 3) := by decide +kernel
theorem dX8_ticks_74 : decode cX8_ticks 74 = .ok (.bipush (-4), 2) := by decide +kernel
theorem dX8_ticks_76 : decode cX8_ticks 76 = .ok (.goto 14, 3) := by decide +kernel
theorem dX8_ticks_79 : decode cX8_ticks 79 = .ok (.aload_n 0, 1) := by decide +kernel
theorem dX8_ticks_80 : decode cX8_ticks 80 = .ok (.getfield 7, 3) := by decide +kernel
theorem dX8_ticks_83 : decode cX8_ticks 83 = .ok (.iload_n 1, 1) := by decide +kernel
theorem dX8_ticks_84 : decode cX8_ticks 84 = .ok (.bipush 18, 2) := by decide +kernel
theorem dX8_ticks_86 : decode cX8_ticks 86 = .ok (.iadd, 1) := by decide +kernel
theorem dX8_ticks_87 : decode cX8_ticks 87 = .ok (.iload_n 3, 1) := by decide +kernel
theorem dX8_ticks_88 : decode cX8_ticks 88 = .ok (.iadd, 1) := by decide +kernel
theorem dX8_ticks_89 : decode cX8_ticks 89 = .ok (.iaload, 1) := by decide +kernel
theorem dX8_ticks_90 : decode cX8_ticks 90 = .ok (.invokevirtual 79, 3) := by decide +kernel
theorem dX8_ticks_93 : decode cX8_ticks 93 = .ok (.iconst 0, 1) := by decide +kernel
theorem dX8_ticks_94 : decode cX8_ticks 94 = .ok (.istore 5, 2) := by decide +kernel
theorem dX8_ticks_96 : decode cX8_ticks 96 = .ok (.iload 5, 2) := by decide +kernel
theorem dX8_ticks_98 : decode cX8_ticks 98 = .ok (.aload_n 0, 1) := by decide +kernel
theorem dX8_ticks_99 : decode cX8_ticks 99 = .ok (.getfield 7, 3) := by decide +kernel
theorem dX8_ticks_102 : decode cX8_ticks 102 = .ok (.iload_n 1, 1) := by decide +kernel
theorem dX8_ticks_103 : decode cX8_ticks 103 = .ok (.bipush 48, 2) := by decide +kernel
theorem dX8_ticks_105 : decode cX8_ticks 105 = .ok (.iadd, 1) := by decide +kernel
theorem dX8_ticks_106 : decode cX8_ticks 106 = .ok (.iaload, 1) := by decide +kernel
theorem dX8_ticks_107 : decode cX8_ticks 107 = .ok (.if_icmp .ge 71, 3) := by decide +kernel
theorem dX8_ticks_110 : decode cX8_ticks 110 = .ok (.iload_n 1, 1) := by decide +kernel
theorem dX8_ticks_111 : decode cX8_ticks 111 = .ok (.bipush 89, 2) := by decide +kernel
theorem dX8_ticks_113 : decode cX8_ticks 113 = .ok (.iadd, 1) := by decide +kernel
theorem dX8_ticks_114 : decode cX8_ticks 114 = .ok (.bipush 16, 2) := by decide +kernel
theorem dX8_ticks_116 : decode cX8_ticks 116 = .ok (.iload 5, 2) := by decide +kernel
theorem dX8_ticks_118 : decode cX8_ticks 118 = .ok (.imul, 1) := by decide +kernel
theorem dX8_ticks_119 : decode cX8_ticks 119 = .ok (.iadd, 1) := by decide +kernel
theorem dX8_ticks_120 : decode cX8_ticks 120 = .ok (.istore 6, 2) := by decide +kernel
theorem dX8_ticks_122 : decode cX8_ticks 122 = .ok (.aload_n 0, 1) := by decide +kernel
theorem dX8_ticks_123 : decode cX8_ticks 123 = .ok (.iload_n 1, 1) := by decide +kernel
theorem dX8_ticks_124 : decode cX8_ticks 124 = .ok (.iload 5, 2) := by decide +kernel
theorem dX8_ticks_126 : decode cX8_ticks 126 = .ok (.invokevirtual 82, 3) := by decide +kernel
theorem dX8_ticks_129 : decode cX8_ticks 129 = .ok (.ifCond .eq 19, 3) := by decide +kernel
theorem dX8_ticks_132 : decode cX8_ticks 132 = .ok (.aload_n 0, 1) := by decide +kernel
theorem dX8_ticks_133 : decode cX8_ticks 133 = .ok (.getfield 7, 3) := by decide +kernel
theorem dX8_ticks_136 : decode cX8_ticks 136 = .ok (.iload 6, 2) := by decide +kernel
theorem dX8_ticks_138 : decode cX8_ticks 138 = .ok (.iconst 3, 1) := by decide +kernel
theorem dX8_ticks_139 : decode cX8_ticks 139 = .ok (.iadd, 1) := by decide +kernel
theorem dX8_ticks_140 : decode cX8_ticks 140 = .ok (.dup2, 1) := by decide +kernel
theorem dX8_ticks_141 : decode cX8_ticks 141 = .ok (.iaload, 1) := by decide +kernel
theorem dX8_ticks_142 : decode cX8_ticks 142 = .ok (.iconst 1, 1) := by decide +kernel
theorem dX8_ticks_143 : decode cX8_ticks 143 = .ok (.iadd, 1) := by decide +kernel
theorem dX8_ticks_144 : decode cX8_ticks 144 = .ok (.iastore, 1) := by decide +kernel
theorem dX8_ticks_145 : decode cX8_ticks 145 = .ok (.goto 27, 3) := by decide +kernel
theorem dX8_ticks_148 : decode cX8_ticks 148 = .ok (.iload_n 2, 1) := by decide +kernel
theorem dX8_ticks_149 : decode cX8_ticks 149 = .ok (.ifCond .eq 13, 3) := by decide +kernel
theorem dX8_ticks_152 : decode cX8_ticks 152 = .ok (.aload_n 0, 1) := by decide +kernel
theorem dX8_ticks_153 : decode cX8_ticks 153 = .ok (.iload_n 1, 1) := by decide +kernel
theorem dX8_ticks_154 : decode cX8_ticks 154 = .ok (.iload 6, 2) := by decide +kernel
theorem dX8_ticks_156 : decode cX8_ticks 156 = .ok (.invokevirtual 86, 3) := by decide +kernel
theorem dX8_ticks_159 : decode cX8_ticks 159 = .ok (.goto 13, 3) := by decide +kernel
theorem dX8_ticks_162 : decode cX8_ticks 162 = .ok (.aload_n 0, 1) := by decide +kernel
theorem dX8_ticks_163 : decode cX8_ticks 163 = .ok (.iload_n 1, 1) := by decide +kernel
theorem dX8_ticks_164 : decode cX8_ticks 164 = .ok (.iload 6, 2) := by decide +kernel
theorem dX8_ticks_166 : decode cX8_ticks 166 = .ok (.iload_n 3, 1) := by decide +kernel
theorem dX8_ticks_167 : decode cX8_ticks 167 = .ok (.iload 4, 2) := by decide +kernel
theorem dX8_ticks_169 : decode cX8_ticks 169 = .ok (.invokevirtual 89, 3) := by decide +kernel
theorem dX8_ticks_172 : decode cX8_ticks 172 = .ok (.iinc 5 1, 3) := by decide +kernel
theorem dX8_ticks_175 : decode cX8_ticks 175 = .ok (.goto (-79), 3) := by decide +kernel
theorem dX8_ticks_178 : decode cX8_ticks 178 = .ok (.iload_n 2, 1) := by decide +kernel
theorem dX8_ticks_179 : decode cX8_ticks 179 = .ok (.ifCond .eq 19, 3) := by decide +kernel
theorem dX8_ticks_182 : decode cX8_ticks 182 = .ok (.aload_n 0, 1) := by decide +kernel
theorem dX8_ticks_183 : decode cX8_ticks 183 = .ok (.getfield 7, 3) := by decide +kernel
theorem dX8_ticks_186 : decode cX8_ticks 186 = .ok (.iload_n 1, 1) := by decide +kernel
theorem dX8_ticks_187 : decode cX8_ticks 187 = .ok (.bipush 46, 2) := by decide +kernel
theorem dX8_ticks_189 : decode cX8_ticks 189 = .ok (.iadd, 1) := by decide +kernel
theorem dX8_ticks_190 : decode cX8_ticks 190 = .ok (.dup2, 1) := by decide +kernel
theorem dX8_ticks_191 : decode cX8_ticks 191 = .ok (.iaload, 1) := by decide +kernel
theorem dX8_ticks_192 : decode cX8_ticks 192 = .ok (.iconst 1, 1) := by decide +kernel
theorem dX8_ticks_193 : decode cX8_ticks 193 = .ok (.iadd, 1) := by decide +kernel
theorem dX8_ticks_194 : decode cX8_ticks 194 = .ok (.iastore, 1) := by decide +kernel
theorem dX8_ticks_195 : decode cX8_ticks 195 = .ok (.goto 69, 3) := by decide +kernel
theorem dX8_ticks_198 : decode cX8_ticks 198 = .ok (.aload_n 0, 1) := by decide +kernel
theorem dX8_ticks_199 : decode cX8_ticks 199 = .ok (.getfield 7, 3) := by decide +kernel
theorem dX8_ticks_202 : decode cX8_ticks 202 = .ok (.iload_n 1, 1) := by decide +kernel
theorem dX8_ticks_203 : decode cX8_ticks 203 = .ok (.bipush 24, 2) := by decide +kernel
theorem dX8_ticks_205 : decode cX8_ticks 205 = .ok (.iadd, 1) := by decide +kernel
theorem dX8_ticks_206 : decode cX8_ticks 206 = .ok (.iload_n 3, 1) := by decide +kernel
theorem dX8_ticks_207 : decode cX8_ticks 207 = .ok (.iadd, 1) := by decide +kernel
theorem dX8_ticks_208 : decode cX8_ticks 208 = .ok (.iload 4, 2) := by decide +kernel
theorem dX8_ticks_210 : decode cX8_ticks 210 = .ok (.iconst 1, 1) := by decide +kernel
theorem dX8_ticks_211 : decode cX8_ticks 211 = .ok (.iadd, 1) := by decide +kernel
theorem dX8_ticks_212 : decode cX8_ticks 212 = .ok (.aload_n 0, 1) := by decide +kernel
theorem dX8_ticks_213 : decode cX8_ticks 213 = .ok (.getfield 7, 3) := by decide +kernel
theorem dX8_ticks_216 : decode cX8_ticks 216 = .ok (.iload_n 1, 1) := by decide +kernel
theorem dX8_ticks_217 : decode cX8_ticks 217 = .ok (.iconst 0, 1) := by decide +kernel
theorem dX8_ticks_218 : decode cX8_ticks 218 = .ok (.iadd, 1) := by decide +kernel
theorem dX8_ticks_219 : decode cX8_ticks 219 = .ok (.iload_n 3, 1) := by decide +kernel
theorem dX8_ticks_220 : decode cX8_ticks 220 = .ok (.iadd, 1) := by decide +kernel
theorem dX8_ticks_221 : decode cX8_ticks 221 = .ok (.iaload, 1) := by decide +kernel
theorem dX8_ticks_222 : decode cX8_ticks 222 = .ok (.aload_n 0, 1) := by decide +kernel
theorem dX8_ticks_223 : decode cX8_ticks 223 = .ok (.getfield 7, 3) := by decide +kernel
theorem dX8_ticks_226 : decode cX8_ticks 226 = .ok (.iload_n 1, 1) := by decide +kernel
theorem dX8_ticks_227 : decode cX8_ticks 227 = .ok (.bipush 6, 2) := by decide +kernel
theorem dX8_ticks_229 : decode cX8_ticks 229 = .ok (.iadd, 1) := by decide +kernel
theorem dX8_ticks_230 : decode cX8_ticks 230 = .ok (.iload_n 3, 1) := by decide +kernel
theorem dX8_ticks_231 : decode cX8_ticks 231 = .ok (.iadd, 1) := by decide +kernel
theorem dX8_ticks_232 : decode cX8_ticks 232 = .ok (.iaload, 1) := by decide +kernel
theorem dX8_ticks_233 : decode cX8_ticks 233 = .ok (.iadd, 1) := by decide +kernel
theorem dX8_ticks_234 : decode cX8_ticks 234 = .ok (.irem, 1) := by decide +kernel
theorem dX8_ticks_235 : decode cX8_ticks 235 = .ok (.iastore, 1) := by decide +kernel
theorem dX8_ticks_236 : decode cX8_ticks 236 = .ok (.aload_n 0, 1) := by decide +kernel
theorem dX8_ticks_237 : decode cX8_ticks 237 = .ok (.getfield 7, 3) := by decide +kernel
theorem dX8_ticks_240 : decode cX8_ticks 240 = .ok (.iload_n 1, 1) := by decide +kernel
theorem dX8_ticks_241 : decode cX8_ticks 241 = .ok (.bipush 36, 2) := by decide +kernel
theorem dX8_ticks_243 : decode cX8_ticks 243 = .ok (.iadd, 1) := by decide +kernel
theorem dX8_ticks_244 : decode cX8_ticks 244 = .ok (.iload_n 3, 1) := by decide +kernel
theorem dX8_ticks_245 : decode cX8_ticks 245 = .ok (.iadd, 1) := by decide +kernel
theorem dX8_ticks_246 : decode cX8_ticks 246 = .ok (.dup2, 1) := by decide +kernel
theorem dX8_ticks_247 : decode cX8_ticks 247 = .ok (.iaload, 1) := by decide +kernel
theorem dX8_ticks_248 : decode cX8_ticks 248 = .ok (.iconst 1, 1) := by decide +kernel
theorem dX8_ticks_249 : decode cX8_ticks 249 = .ok (.iadd, 1) := by decide +kernel
theorem dX8_ticks_250 : decode cX8_ticks 250 = .ok (.iastore, 1) := by decide +kernel
theorem dX8_ticks_251 : decode cX8_ticks 251 = .ok (.aload_n 0, 1) := by decide +kernel
theorem dX8_ticks_252 : decode cX8_ticks 252 = .ok (.getfield 7, 3) := by decide +kernel
theorem dX8_ticks_255 : decode cX8_ticks 255 = .ok (.iload_n 1, 1) := by decide +kernel
theorem dX8_ticks_256 : decode cX8_ticks 256 = .ok (.bipush 47, 2) := by decide +kernel
theorem dX8_ticks_258 : decode cX8_ticks 258 = .ok (.iadd, 1) := by decide +kernel
theorem dX8_ticks_259 : decode cX8_ticks 259 = .ok (.dup2, 1) := by decide +kernel
theorem dX8_ticks_260 : decode cX8_ticks 260 = .ok (.iaload, 1) := by decide +kernel
theorem dX8_ticks_261 : decode cX8_ticks 261 = .ok (.iconst 1, 1) := by decide +kernel
theorem dX8_ticks_262 : decode cX8_ticks 262 = .ok (.iadd, 1) := by decide +kernel
theorem dX8_ticks_263 : decode cX8_ticks 263 = .ok (.iastore, 1) := by decide +kernel
theorem dX8_ticks_264 : decode cX8_ticks 264 = .ok (.aload_n 0, 1) := by decide +kernel
theorem dX8_ticks_265 : decode cX8_ticks 265 = .ok (.getfield 7, 3) := by decide +kernel
theorem dX8_ticks_268 : decode cX8_ticks 268 = .ok (.iload_n 1, 1) := by decide +kernel
theorem dX8_ticks_269 : decode cX8_ticks 269 = .ok (.bipush 45, 2) := by decide +kernel
theorem dX8_ticks_271 : decode cX8_ticks 271 = .ok (.iadd, 1) := by decide +kernel
theorem dX8_ticks_272 : decode cX8_ticks 272 = .ok (.dup2, 1) := by decide +kernel
theorem dX8_ticks_273 : decode cX8_ticks 273 = .ok (.iaload, 1) := by decide +kernel
theorem dX8_ticks_274 : decode cX8_ticks 274 = .ok (.iconst 1, 1) := by decide +kernel
theorem dX8_ticks_275 : decode cX8_ticks 275 = .ok (.iadd, 1) := by decide +kernel
theorem dX8_ticks_276 : decode cX8_ticks 276 = .ok (.iastore, 1) := by decide +kernel
theorem dX8_ticks_277 : decode cX8_ticks 277 = .ok (.iload_n 3, 1) := by decide +kernel
theorem dX8_ticks_278 : decode cX8_ticks 278 = .ok (.ireturn, 1) := by decide +kernel
theorem dX8_copies_0 : decode cX8_copies 0 = .ok (.iconst 0, 1) := by decide +kernel
theorem dX8_copies_1 : decode cX8_copies 1 = .ok (.istore_n 3, 1) := by decide +kernel
theorem dX8_copies_2 : decode cX8_copies 2 = .ok (.iload_n 3, 1) := by decide +kernel
theorem dX8_copies_3 : decode cX8_copies 3 = .ok (.sipush 153, 3) := by decide +kernel
theorem dX8_copies_6 : decode cX8_copies 6 = .ok (.if_icmp .ge 25, 3) := by decide +kernel
theorem dX8_copies_9 : decode cX8_copies 9 = .ok (.aload_n 0, 1) := by decide +kernel
theorem dX8_copies_10 : decode cX8_copies 10 = .ok (.getfield 7, 3) := by decide +kernel
theorem dX8_copies_13 : decode cX8_copies 13 = .ok (.iload_n 2, 1) := by decide +kernel
theorem dX8_copies_14 : decode cX8_copies 14 = .ok (.iload_n 3, 1) := by decide +kernel
theorem dX8_copies_15 : decode cX8_copies 15 = .ok (.iadd, 1) := by decide +kernel
theorem dX8_copies_16 : decode cX8_copies 16 = .ok (.aload_n 0, 1) := by decide +kernel
theorem dX8_copies_17 : decode cX8_copies 17 = .ok (.getfield 7, 3) := by decide +kernel
theorem dX8_copies_20 : decode cX8_copies 20 = .ok (.iload_n 1, 1) := by decide +kernel
theorem dX8_copies_21 : decode cX8_copies 21 = .ok (.iload_n 3, 1) := by decide +kernel
theorem dX8_copies_22 : decode cX8_copies 22 = .ok (.iadd, 1) := by decide +kernel
theorem dX8_copies_23 : decode cX8_copies 23 = .ok (.iaload, 1) := by decide +kernel
theorem dX8_copies_24 : decode cX8_copies 24 = .ok (.iastore, 1) := by decide +kernel
theorem dX8_copies_25 : decode cX8_copies 25 = .ok (.iinc 3 1, 3) := by decide +kernel
theorem dX8_copies_28 : decode cX8_copies 28 = .ok (.goto (-26), 3) := by decide +kernel
theorem dX8_copies_31 : decode cX8_copies 31 = .ok (.return_, 1) := by decide +kernel
theorem dX8_minds_0 : decode cX8_minds 0 = .ok (.aload_n 0, 1) := by decide +kernel
theorem dX8_minds_1 : decode cX8_minds 1 = .ok (.getfield 27, 3) := by decide +kernel
theorem dX8_minds_4 : decode cX8_minds 4 = .ok (.iconst 4, 1) := by decide +kernel
theorem dX8_minds_5 : decode cX8_minds 5 = .ok (.if_icmp .ne 42, 3) := by decide +kernel
theorem dX8_minds_8 : decode cX8_minds 8 = .ok (.iconst 2, 1) := by decide +kernel
theorem dX8_minds_9 : decode cX8_minds 9 = .ok (.istore_n 1, 1) := by decide +kernel
theorem dX8_minds_10 : decode cX8_minds 10 = .ok (.iload_n 1, 1) := by decide +kernel
theorem dX8_minds_11 : decode cX8_minds 11 = .ok (.iconst 5, 1) := by decide +kernel
theorem dX8_minds_12 : decode cX8_minds 12 = .ok (.if_icmp .ge 25, 3) := by decide +kernel
theorem dX8_minds_15 : decode cX8_minds 15 = .ok (.aload_n 0, 1) := by decide +kernel
theorem dX8_minds_16 : decode cX8_minds 16 = .ok (.sipush 153, 3) := by decide +kernel
theorem dX8_minds_19 : decode cX8_minds 19 = .ok (.iload_n 1, 1) := by decide +kernel
theorem dX8_minds_20 : decode cX8_minds 20 = .ok (.iconst 1, 1) := by decide +kernel
theorem dX8_minds_21 : decode cX8_minds 21 = .ok (.iadd, 1) := by decide +kernel
theorem dX8_minds_22 : decode cX8_minds 22 = .ok (.imul, 1) := by decide +kernel
theorem dX8_minds_23 : decode cX8_minds 23 = .ok (.sipush 153, 3) := by decide +kernel
theorem dX8_minds_26 : decode cX8_minds 26 = .ok (.iload_n 1, 1) := by decide +kernel
theorem dX8_minds_27 : decode cX8_minds 27 = .ok (.imul, 1) := by decide +kernel
theorem dX8_minds_28 : decode cX8_minds 28 = .ok (.invokevirtual 92, 3) := by decide +kernel
theorem dX8_minds_31 : decode cX8_minds 31 = .ok (.iinc 1 1, 3) := by decide +kernel
theorem dX8_minds_34 : decode cX8_minds 34 = .ok (.goto (-24), 3) := by decide +kernel
theorem dX8_minds_37 : decode cX8_minds 37 = .ok (.aload_n 0, 1) := by decide +kernel
theorem dX8_minds_38 : decode cX8_minds 38 = .ok (.dup, 1) := by decide +kernel
theorem dX8_minds_39 : decode cX8_minds 39 = .ok (.getfield 27, 3) := by decide +kernel
theorem dX8_minds_42 : decode cX8_minds 42 = .ok (.iconst 1, 1) := by decide +kernel
theorem dX8_minds_43 : decode cX8_minds 43 = .ok (.isub, 1) := by decide +kernel
theorem dX8_minds_44 : decode cX8_minds 44 = .ok (.putfield 27, 3) := by decide +kernel
theorem dX8_minds_47 : decode cX8_minds 47 = .ok (.aload_n 0, 1) := by decide +kernel
theorem dX8_minds_48 : decode cX8_minds 48 = .ok (.iconst 0, 1) := by decide +kernel
theorem dX8_minds_49 : decode cX8_minds 49 = .ok (.sipush 153, 3) := by decide +kernel
theorem dX8_minds_52 : decode cX8_minds 52 = .ok (.iconst 2, 1) := by decide +kernel
theorem dX8_minds_53 : decode cX8_minds 53 = .ok (.aload_n 0, 1) := by decide +kernel
theorem dX8_minds_54 : decode cX8_minds 54 = .ok (.getfield 27, 3) := by decide +kernel
theorem dX8_minds_57 : decode cX8_minds 57 = .ok (.iadd, 1) := by decide +kernel
theorem dX8_minds_58 : decode cX8_minds 58 = .ok (.imul, 1) := by decide +kernel
theorem dX8_minds_59 : decode cX8_minds 59 = .ok (.invokevirtual 92, 3) := by decide +kernel
theorem dX8_minds_62 : decode cX8_minds 62 = .ok (.aload_n 0, 1) := by decide +kernel
theorem dX8_minds_63 : decode cX8_minds 63 = .ok (.dup, 1) := by decide +kernel
theorem dX8_minds_64 : decode cX8_minds 64 = .ok (.getfield 27, 3) := by decide +kernel
theorem dX8_minds_67 : decode cX8_minds 67 = .ok (.iconst 1, 1) := by decide +kernel
theorem dX8_minds_68 : decode cX8_minds 68 = .ok (.iadd, 1) := by decide +kernel
theorem dX8_minds_69 : decode cX8_minds 69 = .ok (.putfield 27, 3) := by decide +kernel
theorem dX8_minds_72 : decode cX8_minds 72 = .ok (.return_, 1) := by decide +kernel
theorem dX8_undo_0 : decode cX8_undo 0 = .ok (.aload_n 0, 1) := by decide +kernel
theorem dX8_undo_1 : decode cX8_undo 1 = .ok (.getfield 27, 3) := by decide +kernel
theorem dX8_undo_4 : decode cX8_undo 4 = .ok (.ifCond .ne 6, 3) := by decide +kernel
theorem dX8_undo_7 : decode cX8_undo 7 = .ok (.bipush (-2), 2) := by decide +kernel
theorem dX8_undo_9 : decode cX8_undo 9 = .ok (.ireturn, 1) := by decide +kernel
theorem dX8_undo_10 : decode cX8_undo 10 = .ok (.aload_n 0, 1) := by decide +kernel
theorem dX8_undo_11 : decode cX8_undo 11 = .ok (.dup, 1) := by decide +kernel
theorem dX8_undo_12 : decode cX8_undo 12 = .ok (.getfield 27, 3) := by decide +kernel
theorem dX8_undo_15 : decode cX8_undo 15 = .ok (.iconst 1, 1) := by decide +kernel
theorem dX8_undo_16 : decode cX8_undo 16 = .ok (.isub, 1) := by decide +kernel
theorem dX8_undo_17 : decode cX8_undo 17 = .ok (.putfield 27, 3) := by decide +kernel
theorem dX8_undo_20 : decode cX8_undo 20 = .ok (.aload_n 0, 1) := by decide +kernel
theorem dX8_undo_21 : decode cX8_undo 21 = .ok (.sipush 153, 3) := by decide +kernel
theorem dX8_undo_24 : decode cX8_undo 24 = .ok (.iconst 2, 1) := by decide +kernel
theorem dX8_undo_25 : decode cX8_undo 25 = .ok (.aload_n 0, 1) := by decide +kernel
theorem dX8_undo_26 : decode cX8_undo 26 = .ok (.getfield 27, 3) := by decide +kernel
theorem dX8_undo_29 : decode cX8_undo 29 = .ok (.iadd, 1) := by decide +kernel
theorem dX8_undo_30 : decode cX8_undo 30 = .ok (.imul, 1) := by decide +kernel
theorem dX8_undo_31 : decode cX8_undo 31 = .ok (.iconst 0, 1) := by decide +kernel
theorem dX8_undo_32 : decode cX8_undo 32 = .ok (.invokevirtual 92, 3) := by decide +kernel
theorem dX8_undo_35 : decode cX8_undo 35 = .ok (.aload_n 0, 1) := by decide +kernel
theorem dX8_undo_36 : decode cX8_undo 36 = .ok (.getfield 27, 3) := by decide +kernel
theorem dX8_undo_39 : decode cX8_undo 39 = .ok (.ireturn, 1) := by decide +kernel
theorem dX8_tick_0 : decode cX8_tick 0 = .ok (.iload_n 1, 1) := by decide +kernel
theorem dX8_tick_1 : decode cX8_tick 1 = .ok (.iconst 1, 1) := by decide +kernel
theorem dX8_tick_2 : decode cX8_tick 2 = .ok (.bipush 99, 2) := by decide +kernel
theorem dX8_tick_4 : decode cX8_tick 4 = .ok (.invokestatic 31, 3) := by decide +kernel
theorem dX8_tick_7 : decode cX8_tick 7 = .ok (.ifCond .ne 5, 3) := by decide +kernel
theorem dX8_tick_10 : decode cX8_tick 10 = .ok (.iconst (-1), 1) := by decide +kernel
theorem dX8_tick_11 : decode cX8_tick 11 = .ok (.ireturn, 1) := by decide +kernel
theorem dX8_tick_12 : decode cX8_tick 12 = .ok (.aload_n 0, 1) := by decide +kernel
theorem dX8_tick_13 : decode cX8_tick 13 = .ok (.getfield 7, 3) := by decide +kernel
theorem dX8_tick_16 : decode cX8_tick 16 = .ok (.bipush 45, 2) := by decide +kernel
theorem dX8_tick_18 : decode cX8_tick 18 = .ok (.iaload, 1) := by decide +kernel
theorem dX8_tick_19 : decode cX8_tick 19 = .ok (.iload_n 1, 1) := by decide +kernel
theorem dX8_tick_20 : decode cX8_tick 20 = .ok (.iadd, 1) := by decide +kernel
theorem dX8_tick_21 : decode cX8_tick 21 = .ok (.sipush 9999, 3) := by decide +kernel
theorem dX8_tick_24 : decode cX8_tick 24 = .ok (.if_icmp .le 6, 3) := by decide +kernel
theorem dX8_tick_27 : decode cX8_tick 27 = .ok (.bipush (-2), 2) := by decide +kernel
theorem dX8_tick_29 : decode cX8_tick 29 = .ok (.ireturn, 1) := by decide +kernel
theorem dX8_tick_30 : decode cX8_tick 30 = .ok (.aload_n 0, 1) := by decide +kernel
theorem dX8_tick_31 : decode cX8_tick 31 = .ok (.invokevirtual 95, 3) := by decide +kernel
theorem dX8_tick_34 : decode cX8_tick 34 = .ok (.aload_n 0, 1) := by decide +kernel
theorem dX8_tick_35 : decode cX8_tick 35 = .ok (.getfield 7, 3) := by decide +kernel
theorem dX8_tick_38 : decode cX8_tick 38 = .ok (.bipush 47, 2) := by decide +kernel
theorem dX8_tick_40 : decode cX8_tick 40 = .ok (.iaload, 1) := by decide +kernel
theorem dX8_tick_41 : decode cX8_tick 41 = .ok (.istore_n 2, 1) := by decide +kernel
theorem dX8_tick_42 : decode cX8_tick 42 = .ok (.iconst 0, 1) := by decide +kernel
theorem dX8_tick_43 : decode cX8_tick 43 = .ok (.istore_n 3, 1) := by decide +kernel
theorem dX8_tick_44 : decode cX8_tick 44 = .ok (.iload_n 3, 1) := by decide +kernel
theorem dX8_tick_45 : decode cX8_tick 45 = .ok (.iload_n 1, 1) := by decide +kernel
theorem dX8_tick_46 : decode cX8_tick 46 = .ok (.if_icmp .ge 15, 3) := by decide +kernel
theorem dX8_tick_49 : decode cX8_tick 49 = .ok (.aload_n 0, 1) := by decide +kernel
theorem dX8_tick_50 : decode cX8_tick 50 = .ok (.iconst 0, 1) := by decide +kernel
theorem dX8_tick_51 : decode cX8_tick 51 = .ok (.invokevirtual 98, 3) := by decide +kernel
theorem dX8_tick_54 : decode cX8_tick 54 = .ok (.pop, 1) := by decide +kernel
theorem dX8_tick_55 : decode cX8_tick 55 = .ok (.iinc 3 1, 3) := by decide +kernel
theorem dX8_tick_58 : decode cX8_tick 58 = .ok (.goto (-14), 3) := by decide +kernel
theorem dX8_tick_61 : decode cX8_tick 61 = .ok (.aload_n 0, 1) := by decide +kernel
theorem dX8_tick_62 : decode cX8_tick 62 = .ok (.getfield 7, 3) := by decide +kernel
theorem dX8_tick_65 : decode cX8_tick 65 = .ok (.bipush 47, 2) := by decide +kernel
theorem dX8_tick_67 : decode cX8_tick 67 = .ok (.iaload, 1) := by decide +kernel
theorem dX8_tick_68 : decode cX8_tick 68 = .ok (.iload_n 2, 1) := by decide +kernel
theorem dX8_tick_69 : decode cX8_tick 69 = .ok (.isub, 1) := by decide +kernel
theorem dX8_tick_70 : decode cX8_tick 70 = .ok (.ireturn, 1) := by decide +kernel
theorem dX8_isFile_0 : decode cX8_isFile 0 = .ok (.iload_n 1, 1) := by decide +kernel
theorem dX8_isFile_1 : decode cX8_isFile 1 = .ok (.iconst 0, 1) := by decide +kernel
theorem dX8_isFile_2 : decode cX8_isFile 2 = .ok (.aload_n 0, 1) := by decide +kernel
theorem dX8_isFile_3 : decode cX8_isFile 3 = .ok (.getfield 7, 3) := by decide +kernel
theorem dX8_isFile_6 : decode cX8_isFile 6 = .ok (.bipush 42, 2) := by decide +kernel
theorem dX8_isFile_8 : decode cX8_isFile 8 = .ok (.iaload, 1) := by decide +kernel
theorem dX8_isFile_9 : decode cX8_isFile 9 = .ok (.iconst 1, 1) := by decide +kernel
theorem dX8_isFile_10 : decode cX8_isFile 10 = .ok (.isub, 1) := by decide +kernel
theorem dX8_isFile_11 : decode cX8_isFile 11 = .ok (.invokestatic 31, 3) := by decide +kernel
theorem dX8_isFile_14 : decode cX8_isFile 14 = .ok (.ireturn, 1) := by decide +kernel
theorem dX8_isListener_0 : decode cX8_isListener 0 = .ok (.iload_n 1, 1) := by decide +kernel
theorem dX8_isListener_1 : decode cX8_isListener 1 = .ok (.iconst 0, 1) := by decide +kernel
theorem dX8_isListener_2 : decode cX8_isListener 2 = .ok (.aload_n 0, 1) := by decide +kernel
theorem dX8_isListener_3 : decode cX8_isListener 3 = .ok (.getfield 7, 3) := by decide +kernel
theorem dX8_isListener_6 : decode cX8_isListener 6 = .ok (.bipush 48, 2) := by decide +kernel
theorem dX8_isListener_8 : decode cX8_isListener 8 = .ok (.iaload, 1) := by decide +kernel
theorem dX8_isListener_9 : decode cX8_isListener 9 = .ok (.iconst 1, 1) := by decide +kernel
theorem dX8_isListener_10 : decode cX8_isListener 10 = .ok (.isub, 1) := by decide +kernel
theorem dX8_isListener_11 : decode cX8_isListener 11 = .ok (.invokestatic 31, 3) := by decide +kernel
theorem dX8_isListener_14 : decode cX8_isListener 14 = .ok (.ireturn, 1) := by decide +kernel
theorem dX8_renew_0 : decode cX8_renew 0 = .ok (.aload_n 0, 1) := by decide +kernel
theorem dX8_renew_1 : decode cX8_renew 1 = .ok (.iload_n 1, 1) := by decide +kernel
theorem dX8_renew_2 : decode cX8_renew 2 = .ok (.invokevirtual 101, 3) := by decide +kernel
theorem dX8_renew_5 : decode cX8_renew 5 = .ok (.ifCond .ne 5, 3) := by decide +kernel
theorem dX8_renew_8 : decode cX8_renew 8 = .ok (.iconst (-1), 1) := by decide +kernel
theorem dX8_renew_9 : decode cX8_renew 9 = .ok (.ireturn, 1) := by decide +kernel
theorem dX8_renew_10 : decode cX8_renew 10 = .ok (.aload_n 0, 1) := by decide +kernel
theorem dX8_renew_11 : decode cX8_renew 11 = .ok (.invokevirtual 95, 3) := by decide +kernel
theorem dX8_renew_14 : decode cX8_renew 14 = .ok (.aload_n 0, 1) := by decide +kernel
theorem dX8_renew_15 : decode cX8_renew 15 = .ok (.getfield 7, 3) := by decide +kernel
theorem dX8_renew_18 : decode cX8_renew 18 = .ok (.bipush 18, 2) := by decide +kernel
theorem dX8_renew_20 : decode cX8_renew 20 = .ok (.iload_n 1, 1) := by decide +kernel
theorem dX8_renew_21 : decode cX8_renew 21 = .ok (.iadd, 1) := by decide +kernel
theorem dX8_renew_22 : decode cX8_renew 22 = .ok (.aload_n 0, 1) := by decide +kernel
theorem dX8_renew_23 : decode cX8_renew 23 = .ok (.getfield 7, 3) := by decide +kernel
theorem dX8_renew_26 : decode cX8_renew 26 = .ok (.bipush 18, 2) := by decide +kernel
theorem dX8_renew_28 : decode cX8_renew 28 = .ok (.iload_n 1, 1) := by decide +kernel
theorem dX8_renew_29 : decode cX8_renew 29 = .ok (.iadd, 1) := by decide +kernel
theorem dX8_renew_30 : decode cX8_renew 30 = .ok (.iaload, 1) := by decide +kernel
theorem dX8_renew_31 : decode cX8_renew 31 = .ok (.iconst 1, 1) := by decide +kernel
theorem dX8_renew_32 : decode cX8_renew 32 = .ok (.iadd, 1) := by decide +kernel
theorem dX8_renew_33 : decode cX8_renew 33 = .ok (.bipush 100, 2) := by decide +kernel
theorem dX8_renew_35 : decode cX8_renew 35 = .ok (.irem, 1) := by decide +kernel
theorem dX8_renew_36 : decode cX8_renew 36 = .ok (.iastore, 1) := by decide +kernel
theorem dX8_renew_37 : decode cX8_renew 37 = .ok (.aload_n 0, 1) := by decide +kernel
theorem dX8_renew_38 : decode cX8_renew 38 = .ok (.getfield 7, 3) := by decide +kernel
theorem dX8_renew_41 : decode cX8_renew 41 = .ok (.bipush 24, 2) := by decide +kernel
theorem dX8_renew_43 : decode cX8_renew 43 = .ok (.iload_n 1, 1) := by decide +kernel
theorem dX8_renew_44 : decode cX8_renew 44 = .ok (.iadd, 1) := by decide +kernel
theorem dX8_renew_45 : decode cX8_renew 45 = .ok (.iconst 0, 1) := by decide +kernel
theorem dX8_renew_46 : decode cX8_renew 46 = .ok (.iastore, 1) := by decide +kernel
theorem dX8_renew_47 : decode cX8_renew 47 = .ok (.aload_n 0, 1) := by decide +kernel
theorem dX8_renew_48 : decode cX8_renew 48 = .ok (.getfield 7, 3) := by decide +kernel
theorem dX8_renew_51 : decode cX8_renew 51 = .ok (.bipush 18, 2) := by decide +kernel
theorem dX8_renew_53 : decode cX8_renew 53 = .ok (.iload_n 1, 1) := by decide +kernel
theorem dX8_renew_54 : decode cX8_renew 54 = .ok (.iadd, 1) := by decide +kernel
theorem dX8_renew_55 : decode cX8_renew 55 = .ok (.iaload, 1) := by decide +kernel
theorem dX8_renew_56 : decode cX8_renew 56 = .ok (.ireturn, 1) := by decide +kernel
theorem dX8_weigh_0 : decode cX8_weigh 0 = .ok (.aload_n 0, 1) := by decide +kernel
theorem dX8_weigh_1 : decode cX8_weigh 1 = .ok (.iload_n 1, 1) := by decide +kernel
theorem dX8_weigh_2 : decode cX8_weigh 2 = .ok (.invokevirtual 101, 3) := by decide +kernel
theorem dX8_weigh_5 : decode cX8_weigh 5 = .ok (.ifCond .eq 13, 3) := by decide +kernel
theorem dX8_weigh_8 : decode cX8_weigh 8 = .ok (.iload_n 2, 1) := by decide +kernel
theorem dX8_weigh_9 : decode cX8_weigh 9 = .ok (.iconst 1, 1) := by decide +kernel
theorem dX8_weigh_10 : decode cX8_weigh 10 = .ok (.bipush 9, 2) := by decide +kernel
theorem dX8_weigh_12 : decode cX8_weigh 12 = .ok (.invokestatic 31, 3) := by decide +kernel
theorem dX8_weigh_15 : decode cX8_weigh 15 = .ok (.ifCond .ne 5, 3) := by decide +kernel
theorem dX8_weigh_18 : decode cX8_weigh 18 = .ok (.iconst (-1), 1) := by decide +kernel
theorem dX8_weigh_19 : decode cX8_weigh 19 = .ok (.ireturn, 1) := by decide +kernel
theorem dX8_weigh_20 : decode cX8_weigh 20 = .ok (.aload_n 0, 1) := by decide +kernel
theorem dX8_weigh_21 : decode cX8_weigh 21 = .ok (.getfield 7, 3) := by decide +kernel
theorem dX8_weigh_24 : decode cX8_weigh 24 = .ok (.bipush 12, 2) := by decide +kernel
theorem dX8_weigh_26 : decode cX8_weigh 26 = .ok (.iload_n 1, 1) := by decide +kernel
theorem dX8_weigh_27 : decode cX8_weigh 27 = .ok (.iadd, 1) := by decide +kernel
theorem dX8_weigh_28 : decode cX8_weigh 28 = .ok (.iaload, 1) := by decide +kernel
theorem dX8_weigh_29 : decode cX8_weigh 29 = .ok (.istore_n 3, 1) := by decide +kernel
theorem dX8_weigh_30 : decode cX8_weigh 30 = .ok (.iload_n 3, 1) := by decide +kernel
theorem dX8_weigh_31 : decode cX8_weigh 31 = .ok (.iload_n 2, 1) := by decide +kernel
theorem dX8_weigh_32 : decode cX8_weigh 32 = .ok (.if_icmp .ne 6, 3) := by decide +kernel
theorem dX8_weigh_35 : decode cX8_weigh 35 = .ok (.bipush (-2), 2) := by decide +kernel
theorem dX8_weigh_37 : decode cX8_weigh 37 = .ok (.ireturn, 1) := by decide +kernel
theorem dX8_weigh_38 : decode cX8_weigh 38 = .ok (.aload_n 0, 1) := by decide +kernel
theorem dX8_weigh_39 : decode cX8_weigh 39 = .ok (.invokevirtual 95, 3) := by decide +kernel
theorem dX8_weigh_42 : decode cX8_weigh 42 = .ok (.aload_n 0, 1) := by decide +kernel
theorem dX8_weigh_43 : decode cX8_weigh 43 = .ok (.getfield 7, 3) := by decide +kernel
theorem dX8_weigh_46 : decode cX8_weigh 46 = .ok (.bipush 12, 2) := by decide +kernel
theorem dX8_weigh_48 : decode cX8_weigh 48 = .ok (.iload_n 1, 1) := by decide +kernel
theorem dX8_weigh_49 : decode cX8_weigh 49 = .ok (.iadd, 1) := by decide +kernel
theorem dX8_weigh_50 : decode cX8_weigh 50 = .ok (.iload_n 2, 1) := by decide +kernel
theorem dX8_weigh_51 : decode cX8_weigh 51 = .ok (.iastore, 1) := by decide +kernel
theorem dX8_weigh_52 : decode cX8_weigh 52 = .ok (.iload_n 3, 1) := by decide +kernel
theorem dX8_weigh_53 : decode cX8_weigh 53 = .ok (.ireturn, 1) := by decide +kernel
theorem dX8_join_0 : decode cX8_join 0 = .ok (.iload_n 1, 1) := by decide +kernel
theorem dX8_join_1 : decode cX8_join 1 = .ok (.iconst 0, 1) := by decide +kernel
theorem dX8_join_2 : decode cX8_join 2 = .ok (.bipush 99, 2) := by decide +kernel
theorem dX8_join_4 : decode cX8_join 4 = .ok (.invokestatic 31, 3) := by decide +kernel
theorem dX8_join_7 : decode cX8_join 7 = .ok (.ifCond .ne 5, 3) := by decide +kernel
theorem dX8_join_10 : decode cX8_join 10 = .ok (.iconst (-1), 1) := by decide +kernel
theorem dX8_join_11 : decode cX8_join 11 = .ok (.ireturn, 1) := by decide +kernel
theorem dX8_join_12 : decode cX8_join 12 = .ok (.aload_n 0, 1) := by decide +kernel
theorem dX8_join_13 : decode cX8_join 13 = .ok (.getfield 7, 3) := by decide +kernel
theorem dX8_join_16 : decode cX8_join 16 = .ok (.bipush 48, 2) := by decide +kernel
theorem dX8_join_18 : decode cX8_join 18 = .ok (.iaload, 1) := by decide +kernel
theorem dX8_join_19 : decode cX8_join 19 = .ok (.iconst 4, 1) := by decide +kernel
theorem dX8_join_20 : decode cX8_join 20 = .ok (.if_icmp .ne 6, 3) := by decide +kernel
theorem dX8_join_23 : decode cX8_join 23 = .ok (.bipush (-3), 2) := by decide +kernel
theorem dX8_join_25 : decode cX8_join 25 = .ok (.ireturn, 1) := by decide +kernel
theorem dX8_join_26 : decode cX8_join 26 = .ok (.aload_n 0, 1) := by decide +kernel
theorem dX8_join_27 : decode cX8_join 27 = .ok (.invokevirtual 95, 3) := by decide +kernel
theorem dX8_join_30 : decode cX8_join 30 = .ok (.bipush 89, 2) := by decide +kernel
theorem dX8_join_32 : decode cX8_join 32 = .ok (.bipush 16, 2) := by decide +kernel
theorem dX8_join_34 : decode cX8_join 34 = .ok (.aload_n 0, 1) := by decide +kernel
theorem dX8_join_35 : decode cX8_join 35 = .ok (.getfield 7, 3) := by decide +kernel
theorem dX8_join_38 : decode cX8_join 38 = .ok (.bipush 48, 2) := by decide +kernel
theorem dX8_join_40 : decode cX8_join 40 = .ok (.iaload, 1) := by decide +kernel
theorem dX8_join_41 : decode cX8_join 41 = .ok (.imul, 1) := by decide +kernel
theorem dX8_join_42 : decode cX8_join 42 = .ok (.iadd, 1) := by decide +kernel
theorem dX8_join_43 : decode cX8_join 43 = .ok (.istore_n 2, 1) := by decide +kernel
theorem dX8_join_44 : decode cX8_join 44 = .ok (.iconst 0, 1) := by decide +kernel
theorem dX8_join_45 : decode cX8_join 45 = .ok (.istore_n 3, 1) := by decide +kernel
theorem dX8_join_46 : decode cX8_join 46 = .ok (.iload_n 3, 1) := by decide +kernel
theorem dX8_join_47 : decode cX8_join 47 = .ok (.bipush 16, 2) := by decide +kernel
theorem dX8_join_49 : decode cX8_join 49 = .ok (.if_icmp .ge 18, 3) := by decide +kernel
theorem dX8_join_52 : decode cX8_join 52 = .ok (.aload_n 0, 1) := by decide +kernel
theorem dX8_join_53 : decode cX8_join 53 = .ok (.getfield 7, 3) := by decide +kernel
theorem dX8_join_56 : decode cX8_join 56 = .ok (.iload_n 2, 1) := by decide +kernel
theorem dX8_join_57 : decode cX8_join 57 = .ok (.iload_n 3, 1) := by decide +kernel
theorem dX8_join_58 : decode cX8_join 58 = .ok (.iadd, 1) := by decide +kernel
theorem dX8_join_59 : decode cX8_join 59 = .ok (.iconst 0, 1) := by decide +kernel
theorem dX8_join_60 : decode cX8_join 60 = .ok (.iastore, 1) := by decide +kernel
theorem dX8_join_61 : decode cX8_join 61 = .ok (.iinc 3 1, 3) := by decide +kernel
theorem dX8_join_64 : decode cX8_join 64 = .ok (.goto (-18), 3) := by decide +kernel
theorem dX8_join_67 : decode cX8_join 67 = .ok (.aload_n 0, 1) := by decide +kernel
theorem dX8_join_68 : decode cX8_join 68 = .ok (.getfield 7, 3) := by decide +kernel
theorem dX8_join_71 : decode cX8_join 71 = .ok (.iload_n 2, 1) := by decide +kernel
theorem dX8_join_72 : decode cX8_join 72 = .ok (.iconst 0, 1) := by decide +kernel
theorem dX8_join_73 : decode cX8_join 73 = .ok (.iadd, 1) := by decide +kernel
theorem dX8_join_74 : decode cX8_join 74 = .ok (.iload_n 1, 1) := by decide +kernel
theorem dX8_join_75 : decode cX8_join 75 = .ok (.iastore, 1) := by decide +kernel
theorem dX8_join_76 : decode cX8_join 76 = .ok (.aload_n 0, 1) := by decide +kernel
theorem dX8_join_77 : decode cX8_join 77 = .ok (.getfield 7, 3) := by decide +kernel
theorem dX8_join_80 : decode cX8_join 80 = .ok (.iload_n 2, 1) := by decide +kernel
theorem dX8_join_81 : decode cX8_join 81 = .ok (.iconst 1, 1) := by decide +kernel
theorem dX8_join_82 : decode cX8_join 82 = .ok (.iadd, 1) := by decide +kernel
theorem dX8_join_83 : decode cX8_join 83 = .ok (.aload_n 0, 1) := by decide +kernel
theorem dX8_join_84 : decode cX8_join 84 = .ok (.getfield 7, 3) := by decide +kernel
theorem dX8_join_87 : decode cX8_join 87 = .ok (.bipush 45, 2) := by decide +kernel
theorem dX8_join_89 : decode cX8_join 89 = .ok (.iaload, 1) := by decide +kernel
theorem dX8_join_90 : decode cX8_join 90 = .ok (.iastore, 1) := by decide +kernel
theorem dX8_join_91 : decode cX8_join 91 = .ok (.aload_n 0, 1) := by decide +kernel
theorem dX8_join_92 : decode cX8_join 92 = .ok (.getfield 7, 3) := by decide +kernel
theorem dX8_join_95 : decode cX8_join 95 = .ok (.iload_n 2, 1) := by decide +kernel
theorem dX8_join_96 : decode cX8_join 96 = .ok (.iconst 2, 1) := by decide +kernel
theorem dX8_join_97 : decode cX8_join 97 = .ok (.iadd, 1) := by decide +kernel
theorem dX8_join_98 : decode cX8_join 98 = .ok (.bipush (-4), 2) := by decide +kernel
theorem dX8_join_100 : decode cX8_join 100 = .ok (.iastore, 1) := by decide +kernel
theorem dX8_join_101 : decode cX8_join 101 = .ok (.aload_n 0, 1) := by decide +kernel
theorem dX8_join_102 : decode cX8_join 102 = .ok (.getfield 7, 3) := by decide +kernel
theorem dX8_join_105 : decode cX8_join 105 = .ok (.bipush 48, 2) := by decide +kernel
theorem dX8_join_107 : decode cX8_join 107 = .ok (.dup2, 1) := by decide +kernel
theorem dX8_join_108 : decode cX8_join 108 = .ok (.iaload, 1) := by decide +kernel
theorem dX8_join_109 : decode cX8_join 109 = .ok (.iconst 1, 1) := by decide +kernel
theorem dX8_join_110 : decode cX8_join 110 = .ok (.iadd, 1) := by decide +kernel
theorem dX8_join_111 : decode cX8_join 111 = .ok (.iastore, 1) := by decide +kernel
theorem dX8_join_112 : decode cX8_join 112 = .ok (.aload_n 0, 1) := by decide +kernel
theorem dX8_join_113 : decode cX8_join 113 = .ok (.getfield 7, 3) := by decide +kernel
theorem dX8_join_116 : decode cX8_join 116 = .ok (.bipush 48, 2) := by decide +kernel
theorem dX8_join_118 : decode cX8_join 118 = .ok (.iaload, 1) := by decide +kernel
theorem dX8_join_119 : decode cX8_join 119 = .ok (.iconst 1, 1) := by decide +kernel
theorem dX8_join_120 : decode cX8_join 120 = .ok (.isub, 1) := by decide +kernel
theorem dX8_join_121 : decode cX8_join 121 = .ok (.ireturn, 1) := by decide +kernel
theorem dX8_knows_0 : decode cX8_knows 0 = .ok (.aload_n 0, 1) := by decide +kernel
theorem dX8_knows_1 : decode cX8_knows 1 = .ok (.getfield 7, 3) := by decide +kernel
theorem dX8_knows_4 : decode cX8_knows 4 = .ok (.bipush 89, 2) := by decide +kernel
theorem dX8_knows_6 : decode cX8_knows 6 = .ok (.bipush 16, 2) := by decide +kernel
theorem dX8_knows_8 : decode cX8_knows 8 = .ok (.iload_n 1, 1) := by decide +kernel
theorem dX8_knows_9 : decode cX8_knows 9 = .ok (.imul, 1) := by decide +kernel
theorem dX8_knows_10 : decode cX8_knows 10 = .ok (.iadd, 1) := by decide +kernel
theorem dX8_knows_11 : decode cX8_knows 11 = .ok (.iconst 2, 1) := by decide +kernel
theorem dX8_knows_12 : decode cX8_knows 12 = .ok (.iadd, 1) := by decide +kernel
theorem dX8_knows_13 : decode cX8_knows 13 = .ok (.iaload, 1) := by decide +kernel
theorem dX8_knows_14 : decode cX8_knows 14 = .ok (.aload_n 0, 1) := by decide +kernel
theorem dX8_knows_15 : decode cX8_knows 15 = .ok (.getfield 7, 3) := by decide +kernel
theorem dX8_knows_18 : decode cX8_knows 18 = .ok (.bipush 45, 2) := by decide +kernel
theorem dX8_knows_20 : decode cX8_knows 20 = .ok (.iaload, 1) := by decide +kernel
theorem dX8_knows_21 : decode cX8_knows 21 = .ok (.if_icmp .lt 7, 3) := by decide +kernel
theorem dX8_knows_24 : decode cX8_knows 24 = .ok (.iconst 1, 1) := by decide +kernel
theorem dX8_knows_25 : decode cX8_knows 25 = .ok (.goto 4, 3) := by decide +kernel
theorem dX8_knows_28 : decode cX8_knows 28 = .ok (.iconst 0, 1) := by decide +kernel
theorem dX8_knows_29 : decode cX8_knows 29 = .ok (.ireturn, 1) := by decide +kernel
theorem dX8_lacks_0 : decode cX8_lacks 0 = .ok (.aload_n 0, 1) := by decide +kernel
theorem dX8_lacks_1 : decode cX8_lacks 1 = .ok (.getfield 7, 3) := by decide +kernel
theorem dX8_lacks_4 : decode cX8_lacks 4 = .ok (.iconst 0, 1) := by decide +kernel
theorem dX8_lacks_5 : decode cX8_lacks 5 = .ok (.iload_n 2, 1) := by decide +kernel
theorem dX8_lacks_6 : decode cX8_lacks 6 = .ok (.iadd, 1) := by decide +kernel
theorem dX8_lacks_7 : decode cX8_lacks 7 = .ok (.iaload, 1) := by decide +kernel
theorem dX8_lacks_8 : decode cX8_lacks 8 = .ok (.aload_n 0, 1) := by decide +kernel
theorem dX8_lacks_9 : decode cX8_lacks 9 = .ok (.getfield 7, 3) := by decide +kernel
theorem dX8_lacks_12 : decode cX8_lacks 12 = .ok (.bipush 89, 2) := by decide +kernel
theorem dX8_lacks_14 : decode cX8_lacks 14 = .ok (.bipush 16, 2) := by decide +kernel
theorem dX8_lacks_16 : decode cX8_lacks 16 = .ok (.iload_n 1, 1) := by decide +kernel
theorem dX8_lacks_17 : decode cX8_lacks 17 = .ok (.imul, 1) := by decide +kernel
theorem dX8_lacks_18 : decode cX8_lacks 18 = .ok (.iadd, 1) := by decide +kernel
theorem dX8_lacks_19 : decode cX8_lacks 19 = .ok (.bipush 10, 2) := by decide +kernel
theorem dX8_lacks_21 : decode cX8_lacks 21 = .ok (.iadd, 1) := by decide +kernel
theorem dX8_lacks_22 : decode cX8_lacks 22 = .ok (.iload_n 2, 1) := by decide +kernel
theorem dX8_lacks_23 : decode cX8_lacks 23 = .ok (.iadd, 1) := by decide +kernel
theorem dX8_lacks_24 : decode cX8_lacks 24 = .ok (.iaload, 1) := by decide +kernel
theorem dX8_lacks_25 : decode cX8_lacks 25 = .ok (.invokestatic 105, 3) := by decide +kernel
theorem dX8_lacks_28 : decode cX8_lacks 28 = .ok (.isub, 1) := by decide +kernel
theorem dX8_lacks_29 : decode cX8_lacks 29 = .ok (.istore_n 3, 1) := by decide +kernel
theorem dX8_lacks_30 : decode cX8_lacks 30 = .ok (.iload_n 3, 1) := by decide +kernel
theorem dX8_lacks_31 : decode cX8_lacks 31 = .ok (.ifCond .ge 7, 3) := by decide +kernel
theorem dX8_lacks_34 : decode cX8_lacks 34 = .ok (.iconst 0, 1) := by decide +kernel
theorem dX8_lacks_35 : decode cX8_lacks 35 = .ok (.goto 4, 3) := by decide +kernel
theorem dX8_lacks_38 : decode cX8_lacks 38 = .ok (.iload_n 3, 1) := by decide +kernel
theorem dX8_lacks_39 : decode cX8_lacks 39 = .ok (.ireturn, 1) := by decide +kernel
theorem dX8_repair_0 : decode cX8_repair 0 = .ok (.aload_n 0, 1) := by decide +kernel
theorem dX8_repair_1 : decode cX8_repair 1 = .ok (.iload_n 1, 1) := by decide +kernel
theorem dX8_repair_2 : decode cX8_repair 2 = .ok (.invokevirtual 108, 3) := by decide +kernel
theorem dX8_repair_5 : decode cX8_repair 5 = .ok (.ifCond .eq 11, 3) := by decide +kernel
theorem dX8_repair_8 : decode cX8_repair 8 = .ok (.aload_n 0, 1) := by decide +kernel
theorem dX8_repair_9 : decode cX8_repair 9 = .ok (.iload_n 2, 1) := by decide +kernel
theorem dX8_repair_10 : decode cX8_repair 10 = .ok (.invokevirtual 101, 3) := by decide +kernel
theorem dX8_repair_13 : decode cX8_repair 13 = .ok (.ifCond .ne 5, 3) := by decide +kernel
theorem dX8_repair_16 : decode cX8_repair 16 = .ok (.iconst (-1), 1) := by decide +kernel
theorem dX8_repair_17 : decode cX8_repair 17 = .ok (.ireturn, 1) := by decide +kernel
theorem dX8_repair_18 : decode cX8_repair 18 = .ok (.aload_n 0, 1) := by decide +kernel
theorem dX8_repair_19 : decode cX8_repair 19 = .ok (.iload_n 1, 1) := by decide +kernel
theorem dX8_repair_20 : decode cX8_repair 20 = .ok (.iload_n 2, 1) := by decide +kernel
theorem dX8_repair_21 : decode cX8_repair 21 = .ok (.invokevirtual 111, 3) := by decide +kernel
theorem dX8_repair_24 : decode cX8_repair 24 = .ok (.istore_n 3, 1) := by decide +kernel
theorem dX8_repair_25 : decode cX8_repair 25 = .ok (.aload_n 0, 1) := by decide +kernel
theorem dX8_repair_26 : decode cX8_repair 26 = .ok (.iload_n 1, 1) := by decide +kernel
theorem dX8_repair_27 : decode cX8_repair 27 = .ok (.invokevirtual 115, 3) := by decide +kernel
theorem dX8_repair_30 : decode cX8_repair 30 = .ok (.ifCond .eq 7, 3) := by decide +kernel
theorem dX8_repair_33 : decode cX8_repair 33 = .ok (.iload_n 3, 1) := by decide +kernel
theorem dX8_repair_34 : decode cX8_repair 34 = .ok (.ifCond .ne 6, 3) := by decide +kernel
theorem dX8_repair_37 : decode cX8_repair 37 = .ok (.bipush (-2), 2) := by decide +kernel
theorem dX8_repair_39 : decode cX8_repair 39 = .ok (.ireturn, 1) := by decide +kernel
theorem dX8_repair_40 : decode cX8_repair 40 = .ok (.aload_n 0, 1) := by decide +kernel
theorem dX8_repair_41 : decode cX8_repair 41 = .ok (.invokevirtual 95, 3) := by decide +kernel
theorem dX8_repair_44 : decode cX8_repair 44 = .ok (.bipush 89, 2) := by decide +kernel
theorem dX8_repair_46 : decode cX8_repair 46 = .ok (.bipush 16, 2) := by decide +kernel
theorem dX8_repair_48 : decode cX8_repair 48 = .ok (.iload_n 1, 1) := by decide +kernel
theorem dX8_repair_49 : decode cX8_repair 49 = .ok (.imul, 1) := by decide +kernel
theorem dX8_repair_50 : decode cX8_repair 50 = .ok (.iadd, 1) := by decide +kernel
theorem dX8_repair_51 : decode cX8_repair 51 = .ok (.bipush 10, 2) := by decide +kernel
theorem dX8_repair_53 : decode cX8_repair 53 = .ok (.iadd, 1) := by decide +kernel
theorem dX8_repair_54 : decode cX8_repair 54 = .ok (.iload_n 2, 1) := by decide +kernel
theorem dX8_repair_55 : decode cX8_repair 55 = .ok (.iadd, 1) := by decide +kernel
theorem dX8_repair_56 : decode cX8_repair 56 = .ok (.istore 4, 2) := by decide +kernel
theorem dX8_repair_58 : decode cX8_repair 58 = .ok (.iload_n 3, 1) := by decide +kernel
theorem dX8_repair_59 : decode cX8_repair 59 = .ok (.istore 5, 2) := by decide +kernel
theorem dX8_repair_61 : decode cX8_repair 61 = .ok (.iconst 0, 1) := by decide +kernel
theorem dX8_repair_62 : decode cX8_repair 62 = .ok (.istore 6, 2) := by decide +kernel
theorem dX8_repair_64 : decode cX8_repair 64 = .ok (.iload 5, 2) := by decide +kernel
theorem dX8_repair_66 : decode cX8_repair 66 = .ok (.ifCond .le 42, 3) := by decide +kernel
theorem dX8_repair_69 : decode cX8_repair 69 = .ok (.iload 5, 2) := by decide +kernel
theorem dX8_repair_71 : decode cX8_repair 71 = .ok (.aload_n 0, 1) := by decide +kernel
theorem dX8_repair_72 : decode cX8_repair 72 = .ok (.getfield 7, 3) := by decide +kernel
theorem dX8_repair_75 : decode cX8_repair 75 = .ok (.iload 4, 2) := by decide +kernel
theorem dX8_repair_77 : decode cX8_repair 77 = .ok (.iaload, 1) := by decide +kernel
theorem dX8_repair_78 : decode cX8_repair 78 = .ok (.iload 6, 2) := by decide +kernel
theorem dX8_repair_80 : decode cX8_repair 80 = .ok (.ishr, 1) := by decide +kernel
theorem dX8_repair_81 : decode cX8_repair 81 = .ok (.iconst 1, 1) := by decide +kernel
theorem dX8_repair_82 : decode cX8_repair 82 = .ok (.iand, 1) := by decide +kernel
theorem dX8_repair_83 : decode cX8_repair 83 = .ok (.iconst 1, 1) := by decide +kernel
theorem dX8_repair_84 : decode cX8_repair 84 = .ok (.ixor, 1) := by decide +kernel
theorem dX8_repair_85 : decode cX8_repair 85 = .ok (.isub, 1) := by decide +kernel
theorem dX8_repair_86 : decode cX8_repair 86 = .ok (.istore 5, 2) := by decide +kernel
theorem dX8_repair_88 : decode cX8_repair 88 = .ok (.aload_n 0, 1) := by decide +kernel
theorem dX8_repair_89 : decode cX8_repair 89 = .ok (.getfield 7, 3) := by decide +kernel
theorem dX8_repair_92 : decode cX8_repair 92 = .ok (.iload 4, 2) := by decide +kernel
theorem dX8_repair_94 : decode cX8_repair 94 = .ok (.dup2, 1) := by decide +kernel
theorem dX8_repair_95 : decode cX8_repair 95 = .ok (.iaload, 1) := by decide +kernel
theorem dX8_repair_96 : decode cX8_repair 96 = .ok (.iconst 1, 1) := by decide +kernel
theorem dX8_repair_97 : decode cX8_repair 97 = .ok (.iload 6, 2) := by decide +kernel
theorem dX8_repair_99 : decode cX8_repair 99 = .ok (.ishl, 1) := by decide +kernel
theorem dX8_repair_100 : decode cX8_repair 100 = .ok (.ior, 1) := by decide +kernel
theorem dX8_repair_101 : decode cX8_repair 101 = .ok (.iastore, 1) := by decide +kernel
theorem dX8_repair_102 : decode cX8_repair 102 = .ok (.iinc 6 1, 3) := by decide +kernel
theorem dX8_repair_105 : decode cX8_repair 105 = .ok (.goto (-41), 3) := by decide +kernel
theorem dX8_repair_108 : decode cX8_repair 108 = .ok (.iload_n 3, 1) := by decide +kernel
theorem dX8_repair_109 : decode cX8_repair 109 = .ok (.ireturn, 1) := by decide +kernel
theorem dX8_partBits_0 : decode cX8_partBits 0 = .ok (.aload_n 0, 1) := by decide +kernel
theorem dX8_partBits_1 : decode cX8_partBits 1 = .ok (.getfield 7, 3) := by decide +kernel
theorem dX8_partBits_4 : decode cX8_partBits 4 = .ok (.bipush 47, 2) := by decide +kernel
theorem dX8_partBits_6 : decode cX8_partBits 6 = .ok (.iaload, 1) := by decide +kernel
theorem dX8_partBits_7 : decode cX8_partBits 7 = .ok (.ifCond .ne 8, 3) := by decide +kernel
theorem dX8_partBits_10 : decode cX8_partBits 10 = .ok (.bipush (-4), 2) := by decide +kernel
theorem dX8_partBits_12 : decode cX8_partBits 12 = .ok (.goto 25, 3) := by decide +kernel
theorem dX8_partBits_15 : decode cX8_partBits 15 = .ok (.aload_n 0, 1) := by decide +kernel
theorem dX8_partBits_16 : decode cX8_partBits 16 = .ok (.getfield 7, 3) := by decide +kernel
theorem dX8_partBits_19 : decode cX8_partBits 19 = .ok (.bipush 36, 2) := by decide +kernel
theorem dX8_partBits_21 : decode cX8_partBits 21 = .ok (.iload_n 1, 1) := by decide +kernel
theorem dX8_partBits_22 : decode cX8_partBits 22 = .ok (.iadd, 1) := by decide +kernel
theorem dX8_partBits_23 : decode cX8_partBits 23 = .ok (.iaload, 1) := by decide +kernel
theorem dX8_partBits_24 : decode cX8_partBits 24 = .ok (.i2f, 1) := by decide +kernel
theorem dX8_partBits_25 : decode cX8_partBits 25 = .ok (.aload_n 0, 1) := by decide +kernel
theorem dX8_partBits_26 : decode cX8_partBits 26 = .ok (.getfield 7, 3) := by decide +kernel
theorem dX8_partBits_29 : decode cX8_partBits 29 = .ok (.bipush 47, 2) := by decide +kernel
theorem dX8_partBits_31 : decode cX8_partBits 31 = .ok (.iaload, 1) := by decide +kernel
theorem dX8_partBits_32 : decode cX8_partBits 32 = .ok (.i2f, 1) := by decide +kernel
theorem dX8_partBits_33 : decode cX8_partBits 33 = .ok (.fdiv, 1) := by decide +kernel
theorem dX8_partBits_34 : decode cX8_partBits 34 = .ok (.invokestatic 118, 3) := by decide +kernel
theorem dX8_partBits_37 : decode cX8_partBits 37 = .ok (.ireturn, 1) := by decide +kernel
theorem dX8_file_0 : decode cX8_file 0 = .ok (.aload_n 0, 1) := by decide +kernel
theorem dX8_file_1 : decode cX8_file 1 = .ok (.iload_n 1, 1) := by decide +kernel
theorem dX8_file_2 : decode cX8_file 2 = .ok (.invokevirtual 101, 3) := by decide +kernel
theorem dX8_file_5 : decode cX8_file 5 = .ok (.ifCond .eq 13, 3) := by decide +kernel
theorem dX8_file_8 : decode cX8_file 8 = .ok (.iload_n 2, 1) := by decide +kernel
theorem dX8_file_9 : decode cX8_file 9 = .ok (.iconst 0, 1) := by decide +kernel
theorem dX8_file_10 : decode cX8_file 10 = .ok (.bipush 7, 2) := by decide +kernel
theorem dX8_file_12 : decode cX8_file 12 = .ok (.invokestatic 31, 3) := by decide +kernel
theorem dX8_file_15 : decode cX8_file 15 = .ok (.ifCond .ne 5, 3) := by decide +kernel
theorem dX8_file_18 : decode cX8_file 18 = .ok (.iconst (-1), 1) := by decide +kernel
theorem dX8_file_19 : decode cX8_file 19 = .ok (.ireturn, 1) := by decide +kernel
theorem dX8_file_20 : decode cX8_file 20 = .ok (.iload_n 2, 1) := by decide +kernel
theorem dX8_file_21 : decode cX8_file 21 = .ok (.bipush 7, 2) := by decide +kernel
theorem dX8_file_23 : decode cX8_file 23 = .ok (.if_icmp .ne 11, 3) := by decide +kernel
theorem dX8_file_26 : decode cX8_file 26 = .ok (.aload_n 0, 1) := by decide +kernel
theorem dX8_file_27 : decode cX8_file 27 = .ok (.iload_n 1, 1) := by decide +kernel
theorem dX8_file_28 : decode cX8_file 28 = .ok (.invokevirtual 124, 3) := by decide +kernel
theorem dX8_file_31 : decode cX8_file 31 = .ok (.goto 35, 3) := by decide +kernel
theorem dX8_file_34 : decode cX8_file 34 = .ok (.iload_n 2, 1) := by decide +kernel
theorem dX8_file_35 : decode cX8_file 35 = .ok (.iconst 5, 1) := by decide +kernel
theorem dX8_file_36 : decode cX8_file 36 = .ok (.if_icmp .ne 19, 3) := by decide +kernel
theorem dX8_file_39 : decode cX8_file 39 = .ok (.aload_n 0, 1) := by decide +kernel
theorem dX8_file_40 : decode cX8_file 40 = .ok (.getfield 7, 3) := by decide +kernel
theorem dX8_file_43 : decode cX8_file 43 = .ok (.bipush 30, 2) := by decide +kernel
theorem dX8_file_45 : decode cX8_file 45 = .ok (.iload_n 1, 1) := by decide +kernel
theorem dX8_file_46 : decode cX8_file 46 = .ok (.iadd, 1) := by decide +kernel
theorem dX8_file_47 : decode cX8_file 47 = .ok (.iaload, 1) := by decide +kernel
theorem dX8_file_48 : decode cX8_file 48 = .ok (.sipush 1000, 3) := by decide +kernel
theorem dX8_file_51 : decode cX8_file 51 = .ok (.iadd, 1) := by decide +kernel
theorem dX8_file_52 : decode cX8_file 52 = .ok (.goto 14, 3) := by decide +kernel
theorem dX8_file_55 : decode cX8_file 55 = .ok (.aload_n 0, 1) := by decide +kernel
theorem dX8_file_56 : decode cX8_file 56 = .ok (.getfield 7, 3) := by decide +kernel
theorem dX8_file_59 : decode cX8_file 59 = .ok (.bipush 6, 2) := by decide +kernel
theorem dX8_file_61 : decode cX8_file 61 = .ok (.iload_n 2, 1) := by decide +kernel
theorem dX8_file_62 : decode cX8_file 62 = .ok (.imul, 1) := by decide +kernel
theorem dX8_file_63 : decode cX8_file 63 = .ok (.iload_n 1, 1) := by decide +kernel
theorem dX8_file_64 : decode cX8_file 64 = .ok (.iadd, 1) := by decide +kernel
theorem dX8_file_65 : decode cX8_file 65 = .ok (.iaload, 1) := by decide +kernel
theorem dX8_file_66 : decode cX8_file 66 = .ok (.ireturn, 1) := by decide +kernel
theorem dX8_sent_0 : decode cX8_sent 0 = .ok (.iload_n 1, 1) := by decide +kernel
theorem dX8_sent_1 : decode cX8_sent 1 = .ok (.iconst 0, 1) := by decide +kernel
theorem dX8_sent_2 : decode cX8_sent 2 = .ok (.bipush 9, 2) := by decide +kernel
theorem dX8_sent_4 : decode cX8_sent 4 = .ok (.invokestatic 31, 3) := by decide +kernel
theorem dX8_sent_7 : decode cX8_sent 7 = .ok (.ifCond .eq 12, 3) := by decide +kernel
theorem dX8_sent_10 : decode cX8_sent 10 = .ok (.iload_n 2, 1) := by decide +kernel
theorem dX8_sent_11 : decode cX8_sent 11 = .ok (.iconst 0, 1) := by decide +kernel
theorem dX8_sent_12 : decode cX8_sent 12 = .ok (.iconst 3, 1) := by decide +kernel
theorem dX8_sent_13 : decode cX8_sent 13 = .ok (.invokestatic 31, 3) := by decide +kernel
theorem dX8_sent_16 : decode cX8_sent 16 = .ok (.ifCond .ne 5, 3) := by decide +kernel
theorem dX8_sent_19 : decode cX8_sent 19 = .ok (.iconst (-1), 1) := by decide +kernel
theorem dX8_sent_20 : decode cX8_sent 20 = .ok (.ireturn, 1) := by decide +kernel
theorem dX8_sent_21 : decode cX8_sent 21 = .ok (.iload_n 1, 1) := by decide +kernel
theorem dX8_sent_22 : decode cX8_sent 22 = .ok (.aload_n 0, 1) := by decide +kernel
theorem dX8_sent_23 : decode cX8_sent 23 = .ok (.getfield 7, 3) := by decide +kernel
theorem dX8_sent_26 : decode cX8_sent 26 = .ok (.bipush 45, 2) := by decide +kernel
theorem dX8_sent_28 : decode cX8_sent 28 = .ok (.iaload, 1) := by decide +kernel
theorem dX8_sent_29 : decode cX8_sent 29 = .ok (.if_icmp .lt 8, 3) := by decide +kernel
theorem dX8_sent_32 : decode cX8_sent 32 = .ok (.bipush (-4), 2) := by decide +kernel
theorem dX8_sent_34 : decode cX8_sent 34 = .ok (.goto 16, 3) := by decide +kernel
theorem dX8_sent_37 : decode cX8_sent 37 = .ok (.aload_n 0, 1) := by decide +kernel
theorem dX8_sent_38 : decode cX8_sent 38 = .ok (.getfield 7, 3) := by decide +kernel
theorem dX8_sent_41 : decode cX8_sent 41 = .ok (.bipush 49, 2) := by decide +kernel
theorem dX8_sent_43 : decode cX8_sent 43 = .ok (.iconst 4, 1) := by decide +kernel
theorem dX8_sent_44 : decode cX8_sent 44 = .ok (.iload_n 1, 1) := by decide +kernel
theorem dX8_sent_45 : decode cX8_sent 45 = .ok (.imul, 1) := by decide +kernel
theorem dX8_sent_46 : decode cX8_sent 46 = .ok (.iadd, 1) := by decide +kernel
theorem dX8_sent_47 : decode cX8_sent 47 = .ok (.iload_n 2, 1) := by decide +kernel
theorem dX8_sent_48 : decode cX8_sent 48 = .ok (.iadd, 1) := by decide +kernel
theorem dX8_sent_49 : decode cX8_sent 49 = .ok (.iaload, 1) := by decide +kernel
theorem dX8_sent_50 : decode cX8_sent 50 = .ok (.ireturn, 1) := by decide +kernel
theorem dX8_wholes_0 : decode cX8_wholes 0 = .ok (.iconst 0, 1) := by decide +kernel
theorem dX8_wholes_1 : decode cX8_wholes 1 = .ok (.istore_n 2, 1) := by decide +kernel
theorem dX8_wholes_2 : decode cX8_wholes 2 = .ok (.iconst 0, 1) := by decide +kernel
theorem dX8_wholes_3 : decode cX8_wholes 3 = .ok (.istore_n 3, 1) := by decide +kernel
theorem dX8_wholes_4 : decode cX8_wholes 4 = .ok (.iload_n 3, 1) := by decide +kernel
theorem dX8_wholes_5 : decode cX8_wholes 5 = .ok (.aload_n 0, 1) := by decide +kernel
theorem dX8_wholes_6 : decode cX8_wholes 6 = .ok (.getfield 7, 3) := by decide +kernel
theorem dX8_wholes_9 : decode cX8_wholes 9 = .ok (.bipush 42, 2) := by decide +kernel
theorem dX8_wholes_11 : decode cX8_wholes 11 = .ok (.iaload, 1) := by decide +kernel
theorem dX8_wholes_12 : decode cX8_wholes 12 = .ok (.if_icmp .ge 28, 3) := by decide +kernel
theorem dX8_wholes_15 : decode cX8_wholes 15 = .ok (.iload_n 2, 1) := by decide +kernel
theorem dX8_wholes_16 : decode cX8_wholes 16 = .ok (.aload_n 0, 1) := by decide +kernel
theorem dX8_wholes_17 : decode cX8_wholes 17 = .ok (.iload_n 1, 1) := by decide +kernel
theorem dX8_wholes_18 : decode cX8_wholes 18 = .ok (.iload_n 3, 1) := by decide +kernel
theorem dX8_wholes_19 : decode cX8_wholes 19 = .ok (.invokevirtual 111, 3) := by decide +kernel
theorem dX8_wholes_22 : decode cX8_wholes 22 = .ok (.ifCond .ne 9, 3) := by decide +kernel
theorem dX8_wholes_25 : decode cX8_wholes 25 = .ok (.iconst 1, 1) := by decide +kernel
theorem dX8_wholes_26 : decode cX8_wholes 26 = .ok (.iload_n 3, 1) := by decide +kernel
theorem dX8_wholes_27 : decode cX8_wholes 27 = .ok (.ishl, 1) := by decide +kernel
theorem dX8_wholes_28 : decode cX8_wholes 28 = .ok (.goto 4, 3) := by decide +kernel
theorem dX8_wholes_31 : decode cX8_wholes 31 = .ok (.iconst 0, 1) := by decide +kernel
theorem dX8_wholes_32 : decode cX8_wholes 32 = .ok (.ior, 1) := by decide +kernel
theorem dX8_wholes_33 : decode cX8_wholes 33 = .ok (.istore_n 2, 1) := by decide +kernel
theorem dX8_wholes_34 : decode cX8_wholes 34 = .ok (.iinc 3 1, 3) := by decide +kernel
theorem dX8_wholes_37 : decode cX8_wholes 37 = .ok (.goto (-33), 3) := by decide +kernel
theorem dX8_wholes_40 : decode cX8_wholes 40 = .ok (.iload_n 2, 1) := by decide +kernel
theorem dX8_wholes_41 : decode cX8_wholes 41 = .ok (.ireturn, 1) := by decide +kernel
theorem dX8_listener_0 : decode cX8_listener 0 = .ok (.aload_n 0, 1) := by decide +kernel
theorem dX8_listener_1 : decode cX8_listener 1 = .ok (.iload_n 1, 1) := by decide +kernel
theorem dX8_listener_2 : decode cX8_listener 2 = .ok (.invokevirtual 108, 3) := by decide +kernel
theorem dX8_listener_5 : decode cX8_listener 5 = .ok (.ifCond .eq 12, 3) := by decide +kernel
theorem dX8_listener_8 : decode cX8_listener 8 = .ok (.iload_n 2, 1) := by decide +kernel
theorem dX8_listener_9 : decode cX8_listener 9 = .ok (.iconst 0, 1) := by decide +kernel
theorem dX8_listener_10 : decode cX8_listener 10 = .ok (.iconst 5, 1) := by decide +kernel
theorem dX8_listener_11 : decode cX8_listener 11 = .ok (.invokestatic 31, 3) := by decide +kernel
theorem dX8_listener_14 : decode cX8_listener 14 = .ok (.ifCond .ne 5, 3) := by decide +kernel
theorem dX8_listener_17 : decode cX8_listener 17 = .ok (.iconst (-1), 1) := by decide +kernel
theorem dX8_listener_18 : decode cX8_listener 18 = .ok (.ireturn, 1) := by decide +kernel
theorem dX8_listener_19 : decode cX8_listener 19 = .ok (.bipush 89, 2) := by decide +kernel
theorem dX8_listener_21 : decode cX8_listener 21 = .ok (.bipush 16, 2) := by decide +kernel
theorem dX8_listener_23 : decode cX8_listener 23 = .ok (.iload_n 1, 1) := by decide +kernel
theorem dX8_listener_24 : decode cX8_listener 24 = .ok (.imul, 1) := by decide +kernel
theorem dX8_listener_25 : decode cX8_listener 25 = .ok (.iadd, 1) := by decide +kernel
theorem dX8_listener_26 : decode cX8_listener 26 = .ok (.istore_n 3, 1) := by decide +kernel
theorem dX8_listener_27 : decode cX8_listener 27 = .ok (.iload_n 2, 1) := by decide +kernel
theorem dX8_listener_28 : decode cX8_listener 28 = .ok (.tableswitch 83 0 4 #[36, 45, 54, 68, 77], 36) := by decide +kernel
theorem dX8_listener_64 : decode cX8_listener 64 = .ok (.aload_n 0, 1) := by decide +kernel
theorem dX8_listener_65 : decode cX8_listener 65 = .ok (.getfield 7, 3) := by decide +kernel
theorem dX8_listener_68 : decode cX8_listener 68 = .ok (.iload_n 3, 1) := by decide +kernel
theorem dX8_listener_69 : decode cX8_listener 69 = .ok (.iconst 0, 1) := by decide +kernel
theorem dX8_listener_70 : decode cX8_listener 70 = .ok (.iadd, 1) := by decide +kernel
theorem dX8_listener_71 : decode cX8_listener 71 = .ok (.iaload, 1) := by decide +kernel
theorem dX8_listener_72 : decode cX8_listener 72 = .ok (.ireturn, 1) := by decide +kernel
theorem dX8_listener_73 : decode cX8_listener 73 = .ok (.aload_n 0, 1) := by decide +kernel
theorem dX8_listener_74 : decode cX8_listener 74 = .ok (.getfield 7, 3) := by decide +kernel
theorem dX8_listener_77 : decode cX8_listener 77 = .ok (.iload_n 3, 1) := by decide +kernel
theorem dX8_listener_78 : decode cX8_listener 78 = .ok (.iconst 1, 1) := by decide +kernel
theorem dX8_listener_79 : decode cX8_listener 79 = .ok (.iadd, 1) := by decide +kernel
theorem dX8_listener_80 : decode cX8_listener 80 = .ok (.iaload, 1) := by decide +kernel
theorem dX8_listener_81 : decode cX8_listener 81 = .ok (.ireturn, 1) := by decide +kernel
theorem dX8_listener_82 : decode cX8_listener 82 = .ok (.aload_n 0, 1) := by decide +kernel
theorem dX8_listener_83 : decode cX8_listener 83 = .ok (.iload_n 1, 1) := by decide +kernel
theorem dX8_listener_84 : decode cX8_listener 84 = .ok (.invokevirtual 115, 3) := by decide +kernel
theorem dX8_listener_87 : decode cX8_listener 87 = .ok (.ifCond .eq 7, 3) := by decide +kernel
theorem dX8_listener_90 : decode cX8_listener 90 = .ok (.iconst 1, 1) := by decide +kernel
theorem dX8_listener_91 : decode cX8_listener 91 = .ok (.goto 4, 3) := by decide +kernel
theorem dX8_listener_94 : decode cX8_listener 94 = .ok (.iconst 0, 1) := by decide +kernel
theorem dX8_listener_95 : decode cX8_listener 95 = .ok (.ireturn, 1) := by decide +kernel
theorem dX8_listener_96 : decode cX8_listener 96 = .ok (.aload_n 0, 1) := by decide +kernel
theorem dX8_listener_97 : decode cX8_listener 97 = .ok (.getfield 7, 3) := by decide +kernel
theorem dX8_listener_100 : decode cX8_listener 100 = .ok (.iload_n 3, 1) := by decide +kernel
theorem dX8_listener_101 : decode cX8_listener 101 = .ok (.iconst 2, 1) := by decide +kernel
theorem dX8_listener_102 : decode cX8_listener 102 = .ok (.iadd, 1) := by decide +kernel
theorem dX8_listener_103 : decode cX8_listener 103 = .ok (.iaload, 1) := by decide +kernel
theorem dX8_listener_104 : decode cX8_listener 104 = .ok (.ireturn, 1) := by decide +kernel
theorem dX8_listener_105 : decode cX8_listener 105 = .ok (.aload_n 0, 1) := by decide +kernel
theorem dX8_listener_106 : decode cX8_listener 106 = .ok (.iload_n 1, 1) := by decide +kernel
theorem dX8_listener_107 : decode cX8_listener 107 = .ok (.invokevirtual 127, 3) := by decide +kernel
theorem dX8_listener_110 : decode cX8_listener 110 = .ok (.ireturn, 1) := by decide +kernel
theorem dX8_listener_111 : decode cX8_listener 111 = .ok (.aload_n 0, 1) := by decide +kernel
theorem dX8_listener_112 : decode cX8_listener 112 = .ok (.getfield 7, 3) := by decide +kernel
theorem dX8_listener_115 : decode cX8_listener 115 = .ok (.iload_n 3, 1) := by decide +kernel
theorem dX8_listener_116 : decode cX8_listener 116 = .ok (.iconst 3, 1) := by decide +kernel
theorem dX8_listener_117 : decode cX8_listener 117 = .ok (.iadd, 1) := by decide +kernel
theorem dX8_listener_118 : decode cX8_listener 118 = .ok (.iaload, 1) := by decide +kernel
theorem dX8_listener_119 : decode cX8_listener 119 = .ok (.ireturn, 1) := by decide +kernel
theorem dX8_holds_0 : decode cX8_holds 0 = .ok (.aload_n 0, 1) := by decide +kernel
theorem dX8_holds_1 : decode cX8_holds 1 = .ok (.iload_n 1, 1) := by decide +kernel
theorem dX8_holds_2 : decode cX8_holds 2 = .ok (.invokevirtual 108, 3) := by decide +kernel
theorem dX8_holds_5 : decode cX8_holds 5 = .ok (.ifCond .eq 20, 3) := by decide +kernel
theorem dX8_holds_8 : decode cX8_holds 8 = .ok (.aload_n 0, 1) := by decide +kernel
theorem dX8_holds_9 : decode cX8_holds 9 = .ok (.iload_n 2, 1) := by decide +kernel
theorem dX8_holds_10 : decode cX8_holds 10 = .ok (.invokevirtual 101, 3) := by decide +kernel
theorem dX8_holds_13 : decode cX8_holds 13 = .ok (.ifCond .eq 12, 3) := by decide +kernel
theorem dX8_holds_16 : decode cX8_holds 16 = .ok (.iload_n 3, 1) := by decide +kernel
theorem dX8_holds_17 : decode cX8_holds 17 = .ok (.iconst 0, 1) := by decide +kernel
theorem dX8_holds_18 : decode cX8_holds 18 = .ok (.iconst 2, 1) := by decide +kernel
theorem dX8_holds_19 : decode cX8_holds 19 = .ok (.invokestatic 31, 3) := by decide +kernel
theorem dX8_holds_22 : decode cX8_holds 22 = .ok (.ifCond .ne 5, 3) := by decide +kernel
theorem dX8_holds_25 : decode cX8_holds 25 = .ok (.iconst (-1), 1) := by decide +kernel
theorem dX8_holds_26 : decode cX8_holds 26 = .ok (.ireturn, 1) := by decide +kernel
theorem dX8_holds_27 : decode cX8_holds 27 = .ok (.bipush 89, 2) := by decide +kernel
theorem dX8_holds_29 : decode cX8_holds 29 = .ok (.bipush 16, 2) := by decide +kernel
theorem dX8_holds_31 : decode cX8_holds 31 = .ok (.iload_n 1, 1) := by decide +kernel
theorem dX8_holds_32 : decode cX8_holds 32 = .ok (.imul, 1) := by decide +kernel
theorem dX8_holds_33 : decode cX8_holds 33 = .ok (.iadd, 1) := by decide +kernel
theorem dX8_holds_34 : decode cX8_holds 34 = .ok (.istore 4, 2) := by decide +kernel
theorem dX8_holds_36 : decode cX8_holds 36 = .ok (.iload_n 3, 1) := by decide +kernel
theorem dX8_holds_37 : decode cX8_holds 37 = .ok (.ifCond .ne 18, 3) := by decide +kernel
theorem dX8_holds_40 : decode cX8_holds 40 = .ok (.aload_n 0, 1) := by decide +kernel
theorem dX8_holds_41 : decode cX8_holds 41 = .ok (.getfield 7, 3) := by decide +kernel
theorem dX8_holds_44 : decode cX8_holds 44 = .ok (.iload 4, 2) := by decide +kernel
theorem dX8_holds_46 : decode cX8_holds 46 = .ok (.bipush 10, 2) := by decide +kernel
theorem dX8_holds_48 : decode cX8_holds 48 = .ok (.iadd, 1) := by decide +kernel
theorem dX8_holds_49 : decode cX8_holds 49 = .ok (.iload_n 2, 1) := by decide +kernel
theorem dX8_holds_50 : decode cX8_holds 50 = .ok (.iadd, 1) := by decide +kernel
theorem dX8_holds_51 : decode cX8_holds 51 = .ok (.iaload, 1) := by decide +kernel
theorem dX8_holds_52 : decode cX8_holds 52 = .ok (.goto 47, 3) := by decide +kernel
theorem dX8_holds_55 : decode cX8_holds 55 = .ok (.iload_n 3, 1) := by decide +kernel
theorem dX8_holds_56 : decode cX8_holds 56 = .ok (.iconst 2, 1) := by decide +kernel
theorem dX8_holds_57 : decode cX8_holds 57 = .ok (.if_icmp .ne 12, 3) := by decide +kernel
theorem dX8_holds_60 : decode cX8_holds 60 = .ok (.aload_n 0, 1) := by decide +kernel
theorem dX8_holds_61 : decode cX8_holds 61 = .ok (.iload_n 1, 1) := by decide +kernel
theorem dX8_holds_62 : decode cX8_holds 62 = .ok (.iload_n 2, 1) := by decide +kernel
theorem dX8_holds_63 : decode cX8_holds 63 = .ok (.invokevirtual 111, 3) := by decide +kernel
theorem dX8_holds_66 : decode cX8_holds 66 = .ok (.goto 33, 3) := by decide +kernel
theorem dX8_holds_69 : decode cX8_holds 69 = .ok (.aload_n 0, 1) := by decide +kernel
theorem dX8_holds_70 : decode cX8_holds 70 = .ok (.getfield 7, 3) := by decide +kernel
theorem dX8_holds_73 : decode cX8_holds 73 = .ok (.iload 4, 2) := by decide +kernel
theorem dX8_holds_75 : decode cX8_holds 75 = .ok (.iconst 2, 1) := by decide +kernel
theorem dX8_holds_76 : decode cX8_holds 76 = .ok (.iadd, 1) := by decide +kernel
theorem dX8_holds_77 : decode cX8_holds 77 = .ok (.iaload, 1) := by decide +kernel
theorem dX8_holds_78 : decode cX8_holds 78 = .ok (.bipush (-4), 2) := by decide +kernel
theorem dX8_holds_80 : decode cX8_holds 80 = .ok (.if_icmp .ne 8, 3) := by decide +kernel
theorem dX8_holds_83 : decode cX8_holds 83 = .ok (.bipush (-4), 2) := by decide +kernel
theorem dX8_holds_85 : decode cX8_holds 85 = .ok (.goto 14, 3) := by decide +kernel
theorem dX8_holds_88 : decode cX8_holds 88 = .ok (.aload_n 0, 1) := by decide +kernel
theorem dX8_holds_89 : decode cX8_holds 89 = .ok (.getfield 7, 3) := by decide +kernel
theorem dX8_holds_92 : decode cX8_holds 92 = .ok (.iload 4, 2) := by decide +kernel
theorem dX8_holds_94 : decode cX8_holds 94 = .ok (.iconst 4, 1) := by decide +kernel
theorem dX8_holds_95 : decode cX8_holds 95 = .ok (.iadd, 1) := by decide +kernel
theorem dX8_holds_96 : decode cX8_holds 96 = .ok (.iload_n 2, 1) := by decide +kernel
theorem dX8_holds_97 : decode cX8_holds 97 = .ok (.iadd, 1) := by decide +kernel
theorem dX8_holds_98 : decode cX8_holds 98 = .ok (.iaload, 1) := by decide +kernel
theorem dX8_holds_99 : decode cX8_holds 99 = .ok (.ireturn, 1) := by decide +kernel
theorem dX8_waitsFrom_0 : decode cX8_waitsFrom 0 = .ok (.bipush (-4), 2) := by decide +kernel
theorem dX8_waitsFrom_2 : decode cX8_waitsFrom 2 = .ok (.istore_n 2, 1) := by decide +kernel
theorem dX8_waitsFrom_3 : decode cX8_waitsFrom 3 = .ok (.iconst 0, 1) := by decide +kernel
theorem dX8_waitsFrom_4 : decode cX8_waitsFrom 4 = .ok (.istore_n 3, 1) := by decide +kernel
theorem dX8_waitsFrom_5 : decode cX8_waitsFrom 5 = .ok (.iconst 1, 1) := by decide +kernel
theorem dX8_waitsFrom_6 : decode cX8_waitsFrom 6 = .ok (.istore 4, 2) := by decide +kernel
theorem dX8_waitsFrom_8 : decode cX8_waitsFrom 8 = .ok (.iload 4, 2) := by decide +kernel
theorem dX8_waitsFrom_10 : decode cX8_waitsFrom 10 = .ok (.sipush 400, 3) := by decide +kernel
theorem dX8_waitsFrom_13 : decode cX8_waitsFrom 13 = .ok (.if_icmp .gt 106, 3) := by decide +kernel
theorem dX8_waitsFrom_16 : decode cX8_waitsFrom 16 = .ok (.aload_n 0, 1) := by decide +kernel
theorem dX8_waitsFrom_17 : decode cX8_waitsFrom 17 = .ok (.getfield 7, 3) := by decide +kernel
theorem dX8_waitsFrom_20 : decode cX8_waitsFrom 20 = .ok (.sipush 198, 3) := by decide +kernel
theorem dX8_waitsFrom_23 : decode cX8_waitsFrom 23 = .ok (.iaload, 1) := by decide +kernel
theorem dX8_waitsFrom_24 : decode cX8_waitsFrom 24 = .ok (.istore 5, 2) := by decide +kernel
theorem dX8_waitsFrom_26 : decode cX8_waitsFrom 26 = .ok (.aload_n 0, 1) := by decide +kernel
theorem dX8_waitsFrom_27 : decode cX8_waitsFrom 27 = .ok (.getfield 7, 3) := by decide +kernel
theorem dX8_waitsFrom_30 : decode cX8_waitsFrom 30 = .ok (.sipush 177, 3) := by decide +kernel
theorem dX8_waitsFrom_33 : decode cX8_waitsFrom 33 = .ok (.iload_n 1, 1) := by decide +kernel
theorem dX8_waitsFrom_34 : decode cX8_waitsFrom 34 = .ok (.iadd, 1) := by decide +kernel
theorem dX8_waitsFrom_35 : decode cX8_waitsFrom 35 = .ok (.iaload, 1) := by decide +kernel
theorem dX8_waitsFrom_36 : decode cX8_waitsFrom 36 = .ok (.istore 6, 2) := by decide +kernel
theorem dX8_waitsFrom_38 : decode cX8_waitsFrom 38 = .ok (.aload_n 0, 1) := by decide +kernel
theorem dX8_waitsFrom_39 : decode cX8_waitsFrom 39 = .ok (.sipush 153, 3) := by decide +kernel
theorem dX8_waitsFrom_42 : decode cX8_waitsFrom 42 = .ok (.invokevirtual 98, 3) := by decide +kernel
theorem dX8_waitsFrom_45 : decode cX8_waitsFrom 45 = .ok (.istore 7, 2) := by decide +kernel
theorem dX8_waitsFrom_47 : decode cX8_waitsFrom 47 = .ok (.iload 7, 2) := by decide +kernel
theorem dX8_waitsFrom_49 : decode cX8_waitsFrom 49 = .ok (.bipush (-4), 2) := by decide +kernel
theorem dX8_waitsFrom_51 : decode cX8_waitsFrom 51 = .ok (.if_icmp .ne 19, 3) := by decide +kernel
theorem dX8_waitsFrom_54 : decode cX8_waitsFrom 54 = .ok (.iload 5, 2) := by decide +kernel
theorem dX8_waitsFrom_56 : decode cX8_waitsFrom 56 = .ok (.aload_n 0, 1) := by decide +kernel
theorem dX8_waitsFrom_57 : decode cX8_waitsFrom 57 = .ok (.getfield 7, 3) := by decide +kernel
theorem dX8_waitsFrom_60 : decode cX8_waitsFrom 60 = .ok (.sipush 197, 3) := by decide +kernel
theorem dX8_waitsFrom_63 : decode cX8_waitsFrom 63 = .ok (.iaload, 1) := by decide +kernel
theorem dX8_waitsFrom_64 : decode cX8_waitsFrom 64 = .ok (.iadd, 1) := by decide +kernel
theorem dX8_waitsFrom_65 : decode cX8_waitsFrom 65 = .ok (.iconst 1, 1) := by decide +kernel
theorem dX8_waitsFrom_66 : decode cX8_waitsFrom 66 = .ok (.isub, 1) := by decide +kernel
theorem dX8_waitsFrom_67 : decode cX8_waitsFrom 67 = .ok (.goto 4, 3) := by decide +kernel
theorem dX8_waitsFrom_70 : decode cX8_waitsFrom 70 = .ok (.iload_n 2, 1) := by decide +kernel
theorem dX8_waitsFrom_71 : decode cX8_waitsFrom 71 = .ok (.istore_n 2, 1) := by decide +kernel
theorem dX8_waitsFrom_72 : decode cX8_waitsFrom 72 = .ok (.iload_n 3, 1) := by decide +kernel
theorem dX8_waitsFrom_73 : decode cX8_waitsFrom 73 = .ok (.iload 7, 2) := by decide +kernel
theorem dX8_waitsFrom_75 : decode cX8_waitsFrom 75 = .ok (.iload_n 1, 1) := by decide +kernel
theorem dX8_waitsFrom_76 : decode cX8_waitsFrom 76 = .ok (.if_icmp .ne 16, 3) := by decide +kernel
theorem dX8_waitsFrom_79 : decode cX8_waitsFrom 79 = .ok (.iload_n 2, 1) := by decide +kernel
theorem dX8_waitsFrom_80 : decode cX8_waitsFrom 80 = .ok (.iload 5, 2) := by decide +kernel
theorem dX8_waitsFrom_82 : decode cX8_waitsFrom 82 = .ok (.if_icmp .lt 10, 3) := by decide +kernel
theorem dX8_waitsFrom_85 : decode cX8_waitsFrom 85 = .ok (.iconst 1, 1) := by decide +kernel
theorem dX8_waitsFrom_86 : decode cX8_waitsFrom 86 = .ok (.iload 6, 2) := by decide +kernel
theorem dX8_waitsFrom_88 : decode cX8_waitsFrom 88 = .ok (.ishl, 1) := by decide +kernel
theorem dX8_waitsFrom_89 : decode cX8_waitsFrom 89 = .ok (.goto 4, 3) := by decide +kernel
theorem dX8_waitsFrom_92 : decode cX8_waitsFrom 92 = .ok (.iconst 0, 1) := by decide +kernel
theorem dX8_waitsFrom_93 : decode cX8_waitsFrom 93 = .ok (.ior, 1) := by decide +kernel
theorem dX8_waitsFrom_94 : decode cX8_waitsFrom 94 = .ok (.istore_n 3, 1) := by decide +kernel
theorem dX8_waitsFrom_95 : decode cX8_waitsFrom 95 = .ok (.iload_n 3, 1) := by decide +kernel
theorem dX8_waitsFrom_96 : decode cX8_waitsFrom 96 = .ok (.invokestatic 105, 3) := by decide +kernel
theorem dX8_waitsFrom_99 : decode cX8_waitsFrom 99 = .ok (.aload_n 0, 1) := by decide +kernel
theorem dX8_waitsFrom_100 : decode cX8_waitsFrom 100 = .ok (.getfield 7, 3) := by decide +kernel
theorem dX8_waitsFrom_103 : decode cX8_waitsFrom 103 = .ok (.iconst 0, 1) := by decide +kernel
theorem dX8_waitsFrom_104 : decode cX8_waitsFrom 104 = .ok (.iload_n 1, 1) := by decide +kernel
theorem dX8_waitsFrom_105 : decode cX8_waitsFrom 105 = .ok (.iadd, 1) := by decide +kernel
theorem dX8_waitsFrom_106 : decode cX8_waitsFrom 106 = .ok (.iaload, 1) := by decide +kernel
theorem dX8_waitsFrom_107 : decode cX8_waitsFrom 107 = .ok (.if_icmp .lt 6, 3) := by decide +kernel
theorem dX8_waitsFrom_110 : decode cX8_waitsFrom 110 = .ok (.iload 4, 2) := by decide +kernel
theorem dX8_waitsFrom_112 : decode cX8_waitsFrom 112 = .ok (.ireturn, 1) := by decide +kernel
theorem dX8_waitsFrom_113 : decode cX8_waitsFrom 113 = .ok (.iinc 4 1, 3) := by decide +kernel
theorem dX8_waitsFrom_116 : decode cX8_waitsFrom 116 = .ok (.goto (-108), 3) := by decide +kernel
theorem dX8_waitsFrom_119 : decode cX8_waitsFrom 119 = .ok (.bipush (-4), 2) := by decide +kernel
theorem dX8_waitsFrom_121 : decode cX8_waitsFrom 121 = .ok (.ireturn, 1) := by decide +kernel
theorem dX8_waitIs_0 : decode cX8_waitIs 0 = .ok (.aload_n 0, 1) := by decide +kernel
theorem dX8_waitIs_1 : decode cX8_waitIs 1 = .ok (.iconst 0, 1) := by decide +kernel
theorem dX8_waitIs_2 : decode cX8_waitIs 2 = .ok (.sipush 153, 3) := by decide +kernel
theorem dX8_waitIs_5 : decode cX8_waitIs 5 = .ok (.invokevirtual 92, 3) := by decide +kernel
theorem dX8_waitIs_8 : decode cX8_waitIs 8 = .ok (.aload_n 0, 1) := by decide +kernel
theorem dX8_waitIs_9 : decode cX8_waitIs 9 = .ok (.getfield 7, 3) := by decide +kernel
theorem dX8_waitIs_12 : decode cX8_waitIs 12 = .ok (.sipush 201, 3) := by decide +kernel
theorem dX8_waitIs_15 : decode cX8_waitIs 15 = .ok (.iconst 0, 1) := by decide +kernel
theorem dX8_waitIs_16 : decode cX8_waitIs 16 = .ok (.iastore, 1) := by decide +kernel
theorem dX8_waitIs_17 : decode cX8_waitIs 17 = .ok (.iconst 0, 1) := by decide +kernel
theorem dX8_waitIs_18 : decode cX8_waitIs 18 = .ok (.istore_n 3, 1) := by decide +kernel
theorem dX8_waitIs_19 : decode cX8_waitIs 19 = .ok (.iload_n 3, 1) := by decide +kernel
theorem dX8_waitIs_20 : decode cX8_waitIs 20 = .ok (.iload_n 2, 1) := by decide +kernel
theorem dX8_waitIs_21 : decode cX8_waitIs 21 = .ok (.if_icmp .ge 17, 3) := by decide +kernel
theorem dX8_waitIs_24 : decode cX8_waitIs 24 = .ok (.aload_n 0, 1) := by decide +kernel
theorem dX8_waitIs_25 : decode cX8_waitIs 25 = .ok (.sipush 153, 3) := by decide +kernel
theorem dX8_waitIs_28 : decode cX8_waitIs 28 = .ok (.invokevirtual 98, 3) := by decide +kernel
theorem dX8_waitIs_31 : decode cX8_waitIs 31 = .ok (.pop, 1) := by decide +kernel
theorem dX8_waitIs_32 : decode cX8_waitIs 32 = .ok (.iinc 3 1, 3) := by decide +kernel
theorem dX8_waitIs_35 : decode cX8_waitIs 35 = .ok (.goto (-16), 3) := by decide +kernel
theorem dX8_waitIs_38 : decode cX8_waitIs 38 = .ok (.aload_n 0, 1) := by decide +kernel
theorem dX8_waitIs_39 : decode cX8_waitIs 39 = .ok (.iload_n 1, 1) := by decide +kernel
theorem dX8_waitIs_40 : decode cX8_waitIs 40 = .ok (.invokevirtual 130, 3) := by decide +kernel
theorem dX8_waitIs_43 : decode cX8_waitIs 43 = .ok (.ireturn, 1) := by decide +kernel
theorem dX8_waits_0 : decode cX8_waits 0 = .ok (.aload_n 0, 1) := by decide +kernel
theorem dX8_waits_1 : decode cX8_waits 1 = .ok (.iload_n 1, 1) := by decide +kernel
theorem dX8_waits_2 : decode cX8_waits 2 = .ok (.invokevirtual 101, 3) := by decide +kernel
theorem dX8_waits_5 : decode cX8_waits 5 = .ok (.ifCond .eq 22, 3) := by decide +kernel
theorem dX8_waits_8 : decode cX8_waits 8 = .ok (.iload_n 2, 1) := by decide +kernel
theorem dX8_waits_9 : decode cX8_waits 9 = .ok (.iconst 0, 1) := by decide +kernel
theorem dX8_waits_10 : decode cX8_waits 10 = .ok (.bipush 99, 2) := by decide +kernel
theorem dX8_waits_12 : decode cX8_waits 12 = .ok (.invokestatic 31, 3) := by decide +kernel
theorem dX8_waits_15 : decode cX8_waits 15 = .ok (.ifCond .eq 12, 3) := by decide +kernel
theorem dX8_waits_18 : decode cX8_waits 18 = .ok (.aload_n 0, 1) := by decide +kernel
theorem dX8_waits_19 : decode cX8_waits 19 = .ok (.iload_n 1, 1) := by decide +kernel
theorem dX8_waits_20 : decode cX8_waits 20 = .ok (.iload_n 2, 1) := by decide +kernel
theorem dX8_waits_21 : decode cX8_waits 21 = .ok (.invokevirtual 133, 3) := by decide +kernel
theorem dX8_waits_24 : decode cX8_waits 24 = .ok (.goto 4, 3) := by decide +kernel
theorem dX8_waits_27 : decode cX8_waits 27 = .ok (.iconst (-1), 1) := by decide +kernel
theorem dX8_waits_28 : decode cX8_waits 28 = .ok (.ireturn, 1) := by decide +kernel
theorem dX8_mean_0 : decode cX8_mean 0 = .ok (.aload_n 0, 1) := by decide +kernel
theorem dX8_mean_1 : decode cX8_mean 1 = .ok (.iload_n 1, 1) := by decide +kernel
theorem dX8_mean_2 : decode cX8_mean 2 = .ok (.invokevirtual 101, 3) := by decide +kernel
theorem dX8_mean_5 : decode cX8_mean 5 = .ok (.ifCond .eq 22, 3) := by decide +kernel
theorem dX8_mean_8 : decode cX8_mean 8 = .ok (.iload_n 2, 1) := by decide +kernel
theorem dX8_mean_9 : decode cX8_mean 9 = .ok (.iconst 1, 1) := by decide +kernel
theorem dX8_mean_10 : decode cX8_mean 10 = .ok (.bipush 40, 2) := by decide +kernel
theorem dX8_mean_12 : decode cX8_mean 12 = .ok (.invokestatic 31, 3) := by decide +kernel
theorem dX8_mean_15 : decode cX8_mean 15 = .ok (.ifCond .eq 12, 3) := by decide +kernel
theorem dX8_mean_18 : decode cX8_mean 18 = .ok (.iload_n 3, 1) := by decide +kernel
theorem dX8_mean_19 : decode cX8_mean 19 = .ok (.iconst 0, 1) := by decide +kernel
theorem dX8_mean_20 : decode cX8_mean 20 = .ok (.iconst 2, 1) := by decide +kernel
theorem dX8_mean_21 : decode cX8_mean 21 = .ok (.invokestatic 31, 3) := by decide +kernel
theorem dX8_mean_24 : decode cX8_mean 24 = .ok (.ifCond .ne 5, 3) := by decide +kernel
theorem dX8_mean_27 : decode cX8_mean 27 = .ok (.iconst (-1), 1) := by decide +kernel
theorem dX8_mean_28 : decode cX8_mean 28 = .ok (.ireturn, 1) := by decide +kernel
theorem dX8_mean_29 : decode cX8_mean 29 = .ok (.iconst 0, 1) := by decide +kernel
theorem dX8_mean_30 : decode cX8_mean 30 = .ok (.istore 4, 2) := by decide +kernel
theorem dX8_mean_32 : decode cX8_mean 32 = .ok (.iconst 0, 1) := by decide +kernel
theorem dX8_mean_33 : decode cX8_mean 33 = .ok (.istore 5, 2) := by decide +kernel
theorem dX8_mean_35 : decode cX8_mean 35 = .ok (.iconst 0, 1) := by decide +kernel
theorem dX8_mean_36 : decode cX8_mean 36 = .ok (.istore 6, 2) := by decide +kernel
theorem dX8_mean_38 : decode cX8_mean 38 = .ok (.iload 6, 2) := by decide +kernel
theorem dX8_mean_40 : decode cX8_mean 40 = .ok (.iload_n 2, 1) := by decide +kernel
theorem dX8_mean_41 : decode cX8_mean 41 = .ok (.if_icmp .ge 51, 3) := by decide +kernel
theorem dX8_mean_44 : decode cX8_mean 44 = .ok (.aload_n 0, 1) := by decide +kernel
theorem dX8_mean_45 : decode cX8_mean 45 = .ok (.iload_n 1, 1) := by decide +kernel
theorem dX8_mean_46 : decode cX8_mean 46 = .ok (.iload 6, 2) := by decide +kernel
theorem dX8_mean_48 : decode cX8_mean 48 = .ok (.invokevirtual 133, 3) := by decide +kernel
theorem dX8_mean_51 : decode cX8_mean 51 = .ok (.istore 7, 2) := by decide +kernel
theorem dX8_mean_53 : decode cX8_mean 53 = .ok (.iload 7, 2) := by decide +kernel
theorem dX8_mean_55 : decode cX8_mean 55 = .ok (.bipush (-4), 2) := by decide +kernel
theorem dX8_mean_57 : decode cX8_mean 57 = .ok (.if_icmp .ne 6, 3) := by decide +kernel
theorem dX8_mean_60 : decode cX8_mean 60 = .ok (.bipush (-4), 2) := by decide +kernel
theorem dX8_mean_62 : decode cX8_mean 62 = .ok (.ireturn, 1) := by decide +kernel
theorem dX8_mean_63 : decode cX8_mean 63 = .ok (.iload 4, 2) := by decide +kernel
theorem dX8_mean_65 : decode cX8_mean 65 = .ok (.iload 7, 2) := by decide +kernel
theorem dX8_mean_67 : decode cX8_mean 67 = .ok (.iadd, 1) := by decide +kernel
theorem dX8_mean_68 : decode cX8_mean 68 = .ok (.istore 4, 2) := by decide +kernel
theorem dX8_mean_70 : decode cX8_mean 70 = .ok (.iload 7, 2) := by decide +kernel
theorem dX8_mean_72 : decode cX8_mean 72 = .ok (.iload 5, 2) := by decide +kernel
theorem dX8_mean_74 : decode cX8_mean 74 = .ok (.if_icmp .le 8, 3) := by decide +kernel
theorem dX8_mean_77 : decode cX8_mean 77 = .ok (.iload 7, 2) := by decide +kernel
theorem dX8_mean_79 : decode cX8_mean 79 = .ok (.goto 5, 3) := by decide +kernel
theorem dX8_mean_82 : decode cX8_mean 82 = .ok (.iload 5, 2) := by decide +kernel
theorem dX8_mean_84 : decode cX8_mean 84 = .ok (.istore 5, 2) := by decide +kernel
theorem dX8_mean_86 : decode cX8_mean 86 = .ok (.iinc 6 1, 3) := by decide +kernel
theorem dX8_mean_89 : decode cX8_mean 89 = .ok (.goto (-51), 3) := by decide +kernel
theorem dX8_mean_92 : decode cX8_mean 92 = .ok (.iload 4, 2) := by decide +kernel
theorem dX8_mean_94 : decode cX8_mean 94 = .ok (.i2f, 1) := by decide +kernel
theorem dX8_mean_95 : decode cX8_mean 95 = .ok (.iload_n 2, 1) := by decide +kernel
theorem dX8_mean_96 : decode cX8_mean 96 = .ok (.i2f, 1) := by decide +kernel
theorem dX8_mean_97 : decode cX8_mean 97 = .ok (.fdiv, 1) := by decide +kernel
theorem dX8_mean_98 : decode cX8_mean 98 = .ok (.fstore 6, 2) := by decide +kernel
theorem dX8_mean_100 : decode cX8_mean 100 = .ok (.iload_n 3, 1) := by decide +kernel
theorem dX8_mean_101 : decode cX8_mean 101 = .ok (.ifCond .ne 11, 3) := by decide +kernel
theorem dX8_mean_104 : decode cX8_mean 104 = .ok (.fload 6, 2) := by decide +kernel
theorem dX8_mean_106 : decode cX8_mean 106 = .ok (.invokestatic 118, 3) := by decide +kernel
theorem dX8_mean_109 : decode cX8_mean 109 = .ok (.goto 16, 3) := by decide +kernel
theorem dX8_mean_112 : decode cX8_mean 112 = .ok (.iload_n 3, 1) := by decide +kernel
theorem dX8_mean_113 : decode cX8_mean 113 = .ok (.iconst 1, 1) := by decide +kernel
theorem dX8_mean_114 : decode cX8_mean 114 = .ok (.if_icmp .ne 9, 3) := by decide +kernel
theorem dX8_mean_117 : decode cX8_mean 117 = .ok (.fload 6, 2) := by decide +kernel
theorem dX8_mean_119 : decode cX8_mean 119 = .ok (.f2i, 1) := by decide +kernel
theorem dX8_mean_120 : decode cX8_mean 120 = .ok (.goto 5, 3) := by decide +kernel
theorem dX8_mean_123 : decode cX8_mean 123 = .ok (.iload 5, 2) := by decide +kernel
theorem dX8_mean_125 : decode cX8_mean 125 = .ok (.ireturn, 1) := by decide +kernel
theorem dX8_count_0 : decode cX8_count 0 = .ok (.iload_n 1, 1) := by decide +kernel
theorem dX8_count_1 : decode cX8_count 1 = .ok (.tableswitch 169 0 9 #[55, 63, 71, 79, 87, 95, 103, 111, 159, 164], 55) := by decide +kernel
theorem dX8_count_56 : decode cX8_count 56 = .ok (.aload_n 0, 1) := by decide +kernel
theorem dX8_count_57 : decode cX8_count 57 = .ok (.getfield 7, 3) := by decide +kernel
theorem dX8_count_60 : decode cX8_count 60 = .ok (.bipush 42, 2) := by decide +kernel
theorem dX8_count_62 : decode cX8_count 62 = .ok (.iaload, 1) := by decide +kernel
theorem dX8_count_63 : decode cX8_count 63 = .ok (.ireturn, 1) := by decide +kernel
theorem dX8_count_64 : decode cX8_count 64 = .ok (.aload_n 0, 1) := by decide +kernel
theorem dX8_count_65 : decode cX8_count 65 = .ok (.getfield 7, 3) := by decide +kernel
theorem dX8_count_68 : decode cX8_count 68 = .ok (.bipush 45, 2) := by decide +kernel
theorem dX8_count_70 : decode cX8_count 70 = .ok (.iaload, 1) := by decide +kernel
theorem dX8_count_71 : decode cX8_count 71 = .ok (.ireturn, 1) := by decide +kernel
theorem dX8_count_72 : decode cX8_count 72 = .ok (.aload_n 0, 1) := by decide +kernel
theorem dX8_count_73 : decode cX8_count 73 = .ok (.getfield 7, 3) := by decide +kernel
theorem dX8_count_76 : decode cX8_count 76 = .ok (.bipush 43, 2) := by decide +kernel
theorem dX8_count_78 : decode cX8_count 78 = .ok (.iaload, 1) := by decide +kernel
theorem dX8_count_79 : decode cX8_count 79 = .ok (.ireturn, 1) := by decide +kernel
theorem dX8_count_80 : decode cX8_count 80 = .ok (.aload_n 0, 1) := by decide +kernel
theorem dX8_count_81 : decode cX8_count 81 = .ok (.getfield 7, 3) := by decide +kernel
theorem dX8_count_84 : decode cX8_count 84 = .ok (.bipush 44, 2) := by decide +kernel
theorem dX8_count_86 : decode cX8_count 86 = .ok (.iaload, 1) := by decide +kernel
theorem dX8_count_87 : decode cX8_count 87 = .ok (.ireturn, 1) := by decide +kernel
theorem dX8_count_88 : decode cX8_count 88 = .ok (.aload_n 0, 1) := by decide +kernel
theorem dX8_count_89 : decode cX8_count 89 = .ok (.getfield 7, 3) := by decide +kernel
theorem dX8_count_92 : decode cX8_count 92 = .ok (.bipush 48, 2) := by decide +kernel
theorem dX8_count_94 : decode cX8_count 94 = .ok (.iaload, 1) := by decide +kernel
theorem dX8_count_95 : decode cX8_count 95 = .ok (.ireturn, 1) := by decide +kernel
theorem dX8_count_96 : decode cX8_count 96 = .ok (.aload_n 0, 1) := by decide +kernel
theorem dX8_count_97 : decode cX8_count 97 = .ok (.getfield 7, 3) := by decide +kernel
theorem dX8_count_100 : decode cX8_count 100 = .ok (.bipush 46, 2) := by decide +kernel
theorem dX8_count_102 : decode cX8_count 102 = .ok (.iaload, 1) := by decide +kernel
theorem dX8_count_103 : decode cX8_count 103 = .ok (.ireturn, 1) := by decide +kernel
theorem dX8_count_104 : decode cX8_count 104 = .ok (.aload_n 0, 1) := by decide +kernel
theorem dX8_count_105 : decode cX8_count 105 = .ok (.getfield 7, 3) := by decide +kernel
theorem dX8_count_108 : decode cX8_count 108 = .ok (.bipush 47, 2) := by decide +kernel
theorem dX8_count_110 : decode cX8_count 110 = .ok (.iaload, 1) := by decide +kernel
theorem dX8_count_111 : decode cX8_count 111 = .ok (.ireturn, 1) := by decide +kernel
theorem dX8_count_112 : decode cX8_count 112 = .ok (.aload_n 0, 1) := by decide +kernel
theorem dX8_count_113 : decode cX8_count 113 = .ok (.getfield 7, 3) := by decide +kernel
theorem dX8_count_116 : decode cX8_count 116 = .ok (.bipush 12, 2) := by decide +kernel
theorem dX8_count_118 : decode cX8_count 118 = .ok (.iaload, 1) := by decide +kernel
theorem dX8_count_119 : decode cX8_count 119 = .ok (.aload_n 0, 1) := by decide +kernel
theorem dX8_count_120 : decode cX8_count 120 = .ok (.getfield 7, 3) := by decide +kernel
theorem dX8_count_123 : decode cX8_count 123 = .ok (.bipush 13, 2) := by decide +kernel
theorem dX8_count_125 : decode cX8_count 125 = .ok (.iaload, 1) := by decide +kernel
theorem dX8_count_126 : decode cX8_count 126 = .ok (.iadd, 1) := by decide +kernel
theorem dX8_count_127 : decode cX8_count 127 = .ok (.aload_n 0, 1) := by decide +kernel
theorem dX8_count_128 : decode cX8_count 128 = .ok (.getfield 7, 3) := by decide +kernel
theorem dX8_count_131 : decode cX8_count 131 = .ok (.bipush 14, 2) := by decide +kernel
theorem dX8_count_133 : decode cX8_count 133 = .ok (.iaload, 1) := by decide +kernel
theorem dX8_count_134 : decode cX8_count 134 = .ok (.iadd, 1) := by decide +kernel
theorem dX8_count_135 : decode cX8_count 135 = .ok (.aload_n 0, 1) := by decide +kernel
theorem dX8_count_136 : decode cX8_count 136 = .ok (.getfield 7, 3) := by decide +kernel
theorem dX8_count_139 : decode cX8_count 139 = .ok (.bipush 15, 2) := by decide +kernel
theorem dX8_count_141 : decode cX8_count 141 = .ok (.iaload, 1) := by decide +kernel
theorem dX8_count_142 : decode cX8_count 142 = .ok (.iadd, 1) := by decide +kernel
theorem dX8_count_143 : decode cX8_count 143 = .ok (.aload_n 0, 1) := by decide +kernel
theorem dX8_count_144 : decode cX8_count 144 = .ok (.getfield 7, 3) := by decide +kernel
theorem dX8_count_147 : decode cX8_count 147 = .ok (.bipush 16, 2) := by decide +kernel
theorem dX8_count_149 : decode cX8_count 149 = .ok (.iaload, 1) := by decide +kernel
theorem dX8_count_150 : decode cX8_count 150 = .ok (.iadd, 1) := by decide +kernel
theorem dX8_count_151 : decode cX8_count 151 = .ok (.aload_n 0, 1) := by decide +kernel
theorem dX8_count_152 : decode cX8_count 152 = .ok (.getfield 7, 3) := by decide +kernel
theorem dX8_count_155 : decode cX8_count 155 = .ok (.bipush 17, 2) := by decide +kernel
theorem dX8_count_157 : decode cX8_count 157 = .ok (.iaload, 1) := by decide +kernel
theorem dX8_count_158 : decode cX8_count 158 = .ok (.iadd, 1) := by decide +kernel
theorem dX8_count_159 : decode cX8_count 159 = .ok (.ireturn, 1) := by decide +kernel
theorem dX8_count_160 : decode cX8_count 160 = .ok (.aload_n 0, 1) := by decide +kernel
theorem dX8_count_161 : decode cX8_count 161 = .ok (.getfield 27, 3) := by decide +kernel
theorem dX8_count_164 : decode cX8_count 164 = .ok (.ireturn, 1) := by decide +kernel
theorem dX8_count_165 : decode cX8_count 165 = .ok (.aload_n 0, 1) := by decide +kernel
theorem dX8_count_166 : decode cX8_count 166 = .ok (.getfield 35, 3) := by decide +kernel
theorem dX8_count_169 : decode cX8_count 169 = .ok (.ireturn, 1) := by decide +kernel
theorem dX8_count_170 : decode cX8_count 170 = .ok (.iconst (-1), 1) := by decide +kernel
theorem dX8_count_171 : decode cX8_count 171 = .ok (.ireturn, 1) := by decide +kernel
end
section
theorem dL_law_0 : decode cL_law 0 = .ok (.new 7, 3) := by decide +kernel
theorem dL_law_3 : decode cL_law 3 = .ok (.dup, 1) := by decide +kernel
theorem dL_law_4 : decode cL_law 4 = .ok (.invokespecial 9, 3) := by decide +kernel
theorem dL_law_7 : decode cL_law 7 = .ok (.astore_n 1, 1) := by decide +kernel
theorem dL_law_8 : decode cL_law 8 = .ok (.new 10, 3) := by decide +kernel
theorem dL_law_11 : decode cL_law 11 = .ok (.dup, 1) := by decide +kernel
theorem dL_law_12 : decode cL_law 12 = .ok (.invokespecial 12, 3) := by decide +kernel
theorem dL_law_15 : decode cL_law 15 = .ok (.astore_n 2, 1) := by decide +kernel
theorem dL_law_16 : decode cL_law 16 = .ok (.iconst 0, 1) := by decide +kernel
theorem dL_law_17 : decode cL_law 17 = .ok (.istore_n 3, 1) := by decide +kernel
theorem dL_law_18 : decode cL_law 18 = .ok (.iload_n 3, 1) := by decide +kernel
theorem dL_law_19 : decode cL_law 19 = .ok (.aload_n 0, 1) := by decide +kernel
theorem dL_law_20 : decode cL_law 20 = .ok (.arraylength, 1) := by decide +kernel
theorem dL_law_21 : decode cL_law 21 = .ok (.iconst 4, 1) := by decide +kernel
theorem dL_law_22 : decode cL_law 22 = .ok (.isub, 1) := by decide +kernel
theorem dL_law_23 : decode cL_law 23 = .ok (.if_icmp .gt 550, 3) := by decide +kernel
theorem dL_law_26 : decode cL_law 26 = .ok (.aload_n 0, 1) := by decide +kernel
theorem dL_law_27 : decode cL_law 27 = .ok (.iload_n 3, 1) := by decide +kernel
theorem dL_law_28 : decode cL_law 28 = .ok (.iaload, 1) := by decide +kernel
theorem dL_law_29 : decode cL_law 29 = .ok (.bipush 31, 2) := by decide +kernel
theorem dL_law_31 : decode cL_law 31 = .ok (.iand, 1) := by decide +kernel
theorem dL_law_32 : decode cL_law 32 = .ok (.tableswitch 535 0 16 #[84, 107, 120, 133, 146, 169, 192, 225, 248, 281, 294, 327, 360, 393, 436, 469, 512], 84) := by decide +kernel
theorem dL_law_116 : decode cL_law 116 = .ok (.aload_n 1, 1) := by decide +kernel
theorem dL_law_117 : decode cL_law 117 = .ok (.aload_n 0, 1) := by decide +kernel
theorem dL_law_118 : decode cL_law 118 = .ok (.iload_n 3, 1) := by decide +kernel
theorem dL_law_119 : decode cL_law 119 = .ok (.iconst 1, 1) := by decide +kernel
theorem dL_law_120 : decode cL_law 120 = .ok (.iadd, 1) := by decide +kernel
theorem dL_law_121 : decode cL_law 121 = .ok (.iaload, 1) := by decide +kernel
theorem dL_law_122 : decode cL_law 122 = .ok (.invokevirtual 13, 3) := by decide +kernel
theorem dL_law_125 : decode cL_law 125 = .ok (.aload_n 2, 1) := by decide +kernel
theorem dL_law_126 : decode cL_law 126 = .ok (.aload_n 0, 1) := by decide +kernel
theorem dL_law_127 : decode cL_law 127 = .ok (.iload_n 3, 1) := by decide +kernel
theorem dL_law_128 : decode cL_law 128 = .ok (.iconst 1, 1) := by decide +kernel
theorem dL_law_129 : decode cL_law 129 = .ok (.iadd, 1) := by decide +kernel
theorem dL_law_130 : decode cL_law 130 = .ok (.iaload, 1) := by decide +kernel
theorem dL_law_131 : decode cL_law 131 = .ok (.invokevirtual 17, 3) := by decide +kernel
theorem dL_law_134 : decode cL_law 134 = .ok (.if_icmp .eq 433, 3) := by decide +kernel
theorem dL_law_137 : decode cL_law 137 = .ok (.iconst 0, 1) := by decide +kernel
theorem dL_law_138 : decode cL_law 138 = .ok (.ireturn, 1) := by decide +kernel
theorem dL_law_139 : decode cL_law 139 = .ok (.aload_n 1, 1) := by decide +kernel
theorem dL_law_140 : decode cL_law 140 = .ok (.invokevirtual 18, 3) := by decide +kernel
theorem dL_law_143 : decode cL_law 143 = .ok (.aload_n 2, 1) := by decide +kernel
theorem dL_law_144 : decode cL_law 144 = .ok (.invokevirtual 22, 3) := by decide +kernel
theorem dL_law_147 : decode cL_law 147 = .ok (.if_icmp .eq 420, 3) := by decide +kernel
theorem dL_law_150 : decode cL_law 150 = .ok (.iconst 0, 1) := by decide +kernel
theorem dL_law_151 : decode cL_law 151 = .ok (.ireturn, 1) := by decide +kernel
theorem dL_law_152 : decode cL_law 152 = .ok (.aload_n 1, 1) := by decide +kernel
theorem dL_law_153 : decode cL_law 153 = .ok (.invokevirtual 23, 3) := by decide +kernel
theorem dL_law_156 : decode cL_law 156 = .ok (.aload_n 2, 1) := by decide +kernel
theorem dL_law_157 : decode cL_law 157 = .ok (.invokevirtual 26, 3) := by decide +kernel
theorem dL_law_160 : decode cL_law 160 = .ok (.if_icmp .eq 407, 3) := by decide +kernel
theorem dL_law_163 : decode cL_law 163 = .ok (.iconst 0, 1) := by decide +kernel
theorem dL_law_164 : decode cL_law 164 = .ok (.ireturn, 1) := by decide +kernel
theorem dL_law_165 : decode cL_law 165 = .ok (.aload_n 1, 1) := by decide +kernel
theorem dL_law_166 : decode cL_law 166 = .ok (.invokevirtual 27, 3) := by decide +kernel
theorem dL_law_169 : decode cL_law 169 = .ok (.aload_n 2, 1) := by decide +kernel
theorem dL_law_170 : decode cL_law 170 = .ok (.invokevirtual 30, 3) := by decide +kernel
theorem dL_law_173 : decode cL_law 173 = .ok (.if_icmp .eq 394, 3) := by decide +kernel
theorem dL_law_176 : decode cL_law 176 = .ok (.iconst 0, 1) := by decide +kernel
theorem dL_law_177 : decode cL_law 177 = .ok (.ireturn, 1) := by decide +kernel
theorem dL_law_178 : decode cL_law 178 = .ok (.aload_n 1, 1) := by decide +kernel
theorem dL_law_179 : decode cL_law 179 = .ok (.aload_n 0, 1) := by decide +kernel
theorem dL_law_180 : decode cL_law 180 = .ok (.iload_n 3, 1) := by decide +kernel
theorem dL_law_181 : decode cL_law 181 = .ok (.iconst 1, 1) := by decide +kernel
theorem dL_law_182 : decode cL_law 182 = .ok (.iadd, 1) := by decide +kernel
theorem dL_law_183 : decode cL_law 183 = .ok (.iaload, 1) := by decide +kernel
theorem dL_law_184 : decode cL_law 184 = .ok (.invokevirtual 31, 3) := by decide +kernel
theorem dL_law_187 : decode cL_law 187 = .ok (.aload_n 2, 1) := by decide +kernel
theorem dL_law_188 : decode cL_law 188 = .ok (.aload_n 0, 1) := by decide +kernel
theorem dL_law_189 : decode cL_law 189 = .ok (.iload_n 3, 1) := by decide +kernel
theorem dL_law_190 : decode cL_law 190 = .ok (.iconst 1, 1) := by decide +kernel
theorem dL_law_191 : decode cL_law 191 = .ok (.iadd, 1) := by decide +kernel
theorem dL_law_192 : decode cL_law 192 = .ok (.iaload, 1) := by decide +kernel
theorem dL_law_193 : decode cL_law 193 = .ok (.invokevirtual 34, 3) := by decide +kernel
theorem dL_law_196 : decode cL_law 196 = .ok (.if_icmp .eq 371, 3) := by decide +kernel
theorem dL_law_199 : decode cL_law 199 = .ok (.iconst 0, 1) := by decide +kernel
theorem dL_law_200 : decode cL_law 200 = .ok (.ireturn, 1) := by decide +kernel
theorem dL_law_201 : decode cL_law 201 = .ok (.aload_n 1, 1) := by decide +kernel
theorem dL_law_202 : decode cL_law 202 = .ok (.aload_n 0, 1) := by decide +kernel
theorem dL_law_203 : decode cL_law 203 = .ok (.iload_n 3, 1) := by decide +kernel
theorem dL_law_204 : decode cL_law 204 = .ok (.iconst 1, 1) := by decide +kernel
theorem dL_law_205 : decode cL_law 205 = .ok (.iadd, 1) := by decide +kernel
theorem dL_law_206 : decode cL_law 206 = .ok (.iaload, 1) := by decide +kernel
theorem dL_law_207 : decode cL_law 207 = .ok (.invokevirtual 35, 3) := by decide +kernel
theorem dL_law_210 : decode cL_law 210 = .ok (.aload_n 2, 1) := by decide +kernel
theorem dL_law_211 : decode cL_law 211 = .ok (.aload_n 0, 1) := by decide +kernel
theorem dL_law_212 : decode cL_law 212 = .ok (.iload_n 3, 1) := by decide +kernel
theorem dL_law_213 : decode cL_law 213 = .ok (.iconst 1, 1) := by decide +kernel
theorem dL_law_214 : decode cL_law 214 = .ok (.iadd, 1) := by decide +kernel
theorem dL_law_215 : decode cL_law 215 = .ok (.iaload, 1) := by decide +kernel
theorem dL_law_216 : decode cL_law 216 = .ok (.invokevirtual 38, 3) := by decide +kernel
theorem dL_law_219 : decode cL_law 219 = .ok (.if_icmp .eq 348, 3) := by decide +kernel
theorem dL_law_222 : decode cL_law 222 = .ok (.iconst 0, 1) := by decide +kernel
theorem dL_law_223 : decode cL_law 223 = .ok (.ireturn, 1) := by decide +kernel
theorem dL_law_224 : decode cL_law 224 = .ok (.aload_n 1, 1) := by decide +kernel
theorem dL_law_225 : decode cL_law 225 = .ok (.aload_n 0, 1) := by decide +kernel
theorem dL_law_226 : decode cL_law 226 = .ok (.iload_n 3, 1) := by decide +kernel
theorem dL_law_227 : decode cL_law 227 = .ok (.iconst 1, 1) := by decide +kernel
theorem dL_law_228 : decode cL_law 228 = .ok (.iadd, 1) := by decide +kernel
theorem dL_law_229 : decode cL_law 229 = .ok (.iaload, 1) := by decide +kernel
theorem dL_law_230 : decode cL_law 230 = .ok (.aload_n 0, 1) := by decide +kernel
theorem dL_law_231 : decode cL_law 231 = .ok (.iload_n 3, 1) := by decide +kernel
theorem dL_law_232 : decode cL_law 232 = .ok (.iconst 2, 1) := by decide +kernel
theorem dL_law_233 : decode cL_law 233 = .ok (.iadd, 1) := by decide +kernel
theorem dL_law_234 : decode cL_law 234 = .ok (.iaload, 1) := by decide +kernel
theorem dL_law_235 : decode cL_law 235 = .ok (.invokevirtual 39, 3) := by decide +kernel
theorem dL_law_238 : decode cL_law 238 = .ok (.aload_n 2, 1) := by decide +kernel
theorem dL_law_239 : decode cL_law 239 = .ok (.aload_n 0, 1) := by decide +kernel
theorem dL_law_240 : decode cL_law 240 = .ok (.iload_n 3, 1) := by decide +kernel
theorem dL_law_241 : decode cL_law 241 = .ok (.iconst 1, 1) := by decide +kernel
theorem dL_law_242 : decode cL_law 242 = .ok (.iadd, 1) := by decide +kernel
theorem dL_law_243 : decode cL_law 243 = .ok (.iaload, 1) := by decide +kernel
theorem dL_law_244 : decode cL_law 244 = .ok (.aload_n 0, 1) := by decide +kernel
theorem dL_law_245 : decode cL_law 245 = .ok (.iload_n 3, 1) := by decide +kernel
theorem dL_law_246 : decode cL_law 246 = .ok (.iconst 2, 1) := by decide +kernel
theorem dL_law_247 : decode cL_law 247 = .ok (.iadd, 1) := by decide +kernel
theorem dL_law_248 : decode cL_law 248 = .ok (.iaload, 1) := by decide +kernel
theorem dL_law_249 : decode cL_law 249 = .ok (.invokevirtual 43, 3) := by decide +kernel
theorem dL_law_252 : decode cL_law 252 = .ok (.if_icmp .eq 315, 3) := by decide +kernel
theorem dL_law_255 : decode cL_law 255 = .ok (.iconst 0, 1) := by decide +kernel
theorem dL_law_256 : decode cL_law 256 = .ok (.ireturn, 1) := by decide +kernel
theorem dL_law_257 : decode cL_law 257 = .ok (.aload_n 1, 1) := by decide +kernel
theorem dL_law_258 : decode cL_law 258 = .ok (.aload_n 0, 1) := by decide +kernel
theorem dL_law_259 : decode cL_law 259 = .ok (.iload_n 3, 1) := by decide +kernel
theorem dL_law_260 : decode cL_law 260 = .ok (.iconst 1, 1) := by decide +kernel
theorem dL_law_261 : decode cL_law 261 = .ok (.iadd, 1) := by decide +kernel
theorem dL_law_262 : decode cL_law 262 = .ok (.iaload, 1) := by decide +kernel
theorem dL_law_263 : decode cL_law 263 = .ok (.invokevirtual 44, 3) := by decide +kernel
theorem dL_law_266 : decode cL_law 266 = .ok (.aload_n 2, 1) := by decide +kernel
theorem dL_law_267 : decode cL_law 267 = .ok (.aload_n 0, 1) := by decide +kernel
theorem dL_law_268 : decode cL_law 268 = .ok (.iload_n 3, 1) := by decide +kernel
theorem dL_law_269 : decode cL_law 269 = .ok (.iconst 1, 1) := by decide +kernel
theorem dL_law_270 : decode cL_law 270 = .ok (.iadd, 1) := by decide +kernel
theorem dL_law_271 : decode cL_law 271 = .ok (.iaload, 1) := by decide +kernel
theorem dL_law_272 : decode cL_law 272 = .ok (.invokevirtual 47, 3) := by decide +kernel
theorem dL_law_275 : decode cL_law 275 = .ok (.if_icmp .eq 292, 3) := by decide +kernel
theorem dL_law_278 : decode cL_law 278 = .ok (.iconst 0, 1) := by decide +kernel
theorem dL_law_279 : decode cL_law 279 = .ok (.ireturn, 1) := by decide +kernel
theorem dL_law_280 : decode cL_law 280 = .ok (.aload_n 1, 1) := by decide +kernel
theorem dL_law_281 : decode cL_law 281 = .ok (.aload_n 0, 1) := by decide +kernel
theorem dL_law_282 : decode cL_law 282 = .ok (.iload_n 3, 1) := by decide +kernel
theorem dL_law_283 : decode cL_law 283 = .ok (.iconst 1, 1) := by decide +kernel
theorem dL_law_284 : decode cL_law 284 = .ok (.iadd, 1) := by decide +kernel
theorem dL_law_285 : decode cL_law 285 = .ok (.iaload, 1) := by decide +kernel
theorem dL_law_286 : decode cL_law 286 = .ok (.aload_n 0, 1) := by decide +kernel
theorem dL_law_287 : decode cL_law 287 = .ok (.iload_n 3, 1) := by decide +kernel
theorem dL_law_288 : decode cL_law 288 = .ok (.iconst 2, 1) := by decide +kernel
theorem dL_law_289 : decode cL_law 289 = .ok (.iadd, 1) := by decide +kernel
theorem dL_law_290 : decode cL_law 290 = .ok (.iaload, 1) := by decide +kernel
theorem dL_law_291 : decode cL_law 291 = .ok (.invokevirtual 48, 3) := by decide +kernel
theorem dL_law_294 : decode cL_law 294 = .ok (.aload_n 2, 1) := by decide +kernel
theorem dL_law_295 : decode cL_law 295 = .ok (.aload_n 0, 1) := by decide +kernel
theorem dL_law_296 : decode cL_law 296 = .ok (.iload_n 3, 1) := by decide +kernel
theorem dL_law_297 : decode cL_law 297 = .ok (.iconst 1, 1) := by decide +kernel
theorem dL_law_298 : decode cL_law 298 = .ok (.iadd, 1) := by decide +kernel
theorem dL_law_299 : decode cL_law 299 = .ok (.iaload, 1) := by decide +kernel
theorem dL_law_300 : decode cL_law 300 = .ok (.aload_n 0, 1) := by decide +kernel
theorem dL_law_301 : decode cL_law 301 = .ok (.iload_n 3, 1) := by decide +kernel
theorem dL_law_302 : decode cL_law 302 = .ok (.iconst 2, 1) := by decide +kernel
theorem dL_law_303 : decode cL_law 303 = .ok (.iadd, 1) := by decide +kernel
theorem dL_law_304 : decode cL_law 304 = .ok (.iaload, 1) := by decide +kernel
theorem dL_law_305 : decode cL_law 305 = .ok (.invokevirtual 51, 3) := by decide +kernel
theorem dL_law_308 : decode cL_law 308 = .ok (.if_icmp .eq 259, 3) := by decide +kernel
theorem dL_law_311 : decode cL_law 311 = .ok (.iconst 0, 1) := by decide +kernel
theorem dL_law_312 : decode cL_law 312 = .ok (.ireturn, 1) := by decide +kernel
theorem dL_law_313 : decode cL_law 313 = .ok (.aload_n 1, 1) := by decide +kernel
theorem dL_law_314 : decode cL_law 314 = .ok (.invokevirtual 52, 3) := by decide +kernel
theorem dL_law_317 : decode cL_law 317 = .ok (.aload_n 2, 1) := by decide +kernel
theorem dL_law_318 : decode cL_law 318 = .ok (.invokevirtual 55, 3) := by decide +kernel
theorem dL_law_321 : decode cL_law 321 = .ok (.if_icmp .eq 246, 3) := by decide +kernel
theorem dL_law_324 : decode cL_law 324 = .ok (.iconst 0, 1) := by decide +kernel
theorem dL_law_325 : decode cL_law 325 = .ok (.ireturn, 1) := by decide +kernel
theorem dL_law_326 : decode cL_law 326 = .ok (.aload_n 1, 1) := by decide +kernel
theorem dL_law_327 : decode cL_law 327 = .ok (.aload_n 0, 1) := by decide +kernel
theorem dL_law_328 : decode cL_law 328 = .ok (.iload_n 3, 1) := by decide +kernel
theorem dL_law_329 : decode cL_law 329 = .ok (.iconst 1, 1) := by decide +kernel
theorem dL_law_330 : decode cL_law 330 = .ok (.iadd, 1) := by decide +kernel
theorem dL_law_331 : decode cL_law 331 = .ok (.iaload, 1) := by decide +kernel
theorem dL_law_332 : decode cL_law 332 = .ok (.aload_n 0, 1) := by decide +kernel
theorem dL_law_333 : decode cL_law 333 = .ok (.iload_n 3, 1) := by decide +kernel
theorem dL_law_334 : decode cL_law 334 = .ok (.iconst 2, 1) := by decide +kernel
theorem dL_law_335 : decode cL_law 335 = .ok (.iadd, 1) := by decide +kernel
theorem dL_law_336 : decode cL_law 336 = .ok (.iaload, 1) := by decide +kernel
theorem dL_law_337 : decode cL_law 337 = .ok (.invokevirtual 56, 3) := by decide +kernel
theorem dL_law_340 : decode cL_law 340 = .ok (.aload_n 2, 1) := by decide +kernel
theorem dL_law_341 : decode cL_law 341 = .ok (.aload_n 0, 1) := by decide +kernel
theorem dL_law_342 : decode cL_law 342 = .ok (.iload_n 3, 1) := by decide +kernel
theorem dL_law_343 : decode cL_law 343 = .ok (.iconst 1, 1) := by decide +kernel
theorem dL_law_344 : decode cL_law 344 = .ok (.iadd, 1) := by decide +kernel
theorem dL_law_345 : decode cL_law 345 = .ok (.iaload, 1) := by decide +kernel
theorem dL_law_346 : decode cL_law 346 = .ok (.aload_n 0, 1) := by decide +kernel
theorem dL_law_347 : decode cL_law 347 = .ok (.iload_n 3, 1) := by decide +kernel
theorem dL_law_348 : decode cL_law 348 = .ok (.iconst 2, 1) := by decide +kernel
theorem dL_law_349 : decode cL_law 349 = .ok (.iadd, 1) := by decide +kernel
theorem dL_law_350 : decode cL_law 350 = .ok (.iaload, 1) := by decide +kernel
theorem dL_law_351 : decode cL_law 351 = .ok (.invokevirtual 59, 3) := by decide +kernel
theorem dL_law_354 : decode cL_law 354 = .ok (.if_icmp .eq 213, 3) := by decide +kernel
theorem dL_law_357 : decode cL_law 357 = .ok (.iconst 0, 1) := by decide +kernel
theorem dL_law_358 : decode cL_law 358 = .ok (.ireturn, 1) := by decide +kernel
theorem dL_law_359 : decode cL_law 359 = .ok (.aload_n 1, 1) := by decide +kernel
theorem dL_law_360 : decode cL_law 360 = .ok (.aload_n 0, 1) := by decide +kernel
theorem dL_law_361 : decode cL_law 361 = .ok (.iload_n 3, 1) := by decide +kernel
theorem dL_law_362 : decode cL_law 362 = .ok (.iconst 1, 1) := by decide +kernel
theorem dL_law_363 : decode cL_law 363 = .ok (.iadd, 1) := by decide +kernel
theorem dL_law_364 : decode cL_law 364 = .ok (.iaload, 1) := by decide +kernel
theorem dL_law_365 : decode cL_law 365 = .ok (.aload_n 0, 1) := by decide +kernel
theorem dL_law_366 : decode cL_law 366 = .ok (.iload_n 3, 1) := by decide +kernel
theorem dL_law_367 : decode cL_law 367 = .ok (.iconst 2, 1) := by decide +kernel
theorem dL_law_368 : decode cL_law 368 = .ok (.iadd, 1) := by decide +kernel
theorem dL_law_369 : decode cL_law 369 = .ok (.iaload, 1) := by decide +kernel
theorem dL_law_370 : decode cL_law 370 = .ok (.invokevirtual 60, 3) := by decide +kernel
theorem dL_law_373 : decode cL_law 373 = .ok (.aload_n 2, 1) := by decide +kernel
theorem dL_law_374 : decode cL_law 374 = .ok (.aload_n 0, 1) := by decide +kernel
theorem dL_law_375 : decode cL_law 375 = .ok (.iload_n 3, 1) := by decide +kernel
theorem dL_law_376 : decode cL_law 376 = .ok (.iconst 1, 1) := by decide +kernel
theorem dL_law_377 : decode cL_law 377 = .ok (.iadd, 1) := by decide +kernel
theorem dL_law_378 : decode cL_law 378 = .ok (.iaload, 1) := by decide +kernel
theorem dL_law_379 : decode cL_law 379 = .ok (.aload_n 0, 1) := by decide +kernel
theorem dL_law_380 : decode cL_law 380 = .ok (.iload_n 3, 1) := by decide +kernel
theorem dL_law_381 : decode cL_law 381 = .ok (.iconst 2, 1) := by decide +kernel
theorem dL_law_382 : decode cL_law 382 = .ok (.iadd, 1) := by decide +kernel
theorem dL_law_383 : decode cL_law 383 = .ok (.iaload, 1) := by decide +kernel
theorem dL_law_384 : decode cL_law 384 = .ok (.invokevirtual 63, 3) := by decide +kernel
theorem dL_law_387 : decode cL_law 387 = .ok (.if_icmp .eq 180, 3) := by decide +kernel
theorem dL_law_390 : decode cL_law 390 = .ok (.iconst 0, 1) := by decide +kernel
theorem dL_law_391 : decode cL_law 391 = .ok (.ireturn, 1) := by decide +kernel
theorem dL_law_392 : decode cL_law 392 = .ok (.aload_n 1, 1) := by decide +kernel
theorem dL_law_393 : decode cL_law 393 = .ok (.aload_n 0, 1) := by decide +kernel
theorem dL_law_394 : decode cL_law 394 = .ok (.iload_n 3, 1) := by decide +kernel
theorem dL_law_395 : decode cL_law 395 = .ok (.iconst 1, 1) := by decide +kernel
theorem dL_law_396 : decode cL_law 396 = .ok (.iadd, 1) := by decide +kernel
theorem dL_law_397 : decode cL_law 397 = .ok (.iaload, 1) := by decide +kernel
theorem dL_law_398 : decode cL_law 398 = .ok (.aload_n 0, 1) := by decide +kernel
theorem dL_law_399 : decode cL_law 399 = .ok (.iload_n 3, 1) := by decide +kernel
theorem dL_law_400 : decode cL_law 400 = .ok (.iconst 2, 1) := by decide +kernel
theorem dL_law_401 : decode cL_law 401 = .ok (.iadd, 1) := by decide +kernel
theorem dL_law_402 : decode cL_law 402 = .ok (.iaload, 1) := by decide +kernel
theorem dL_law_403 : decode cL_law 403 = .ok (.invokevirtual 64, 3) := by decide +kernel
theorem dL_law_406 : decode cL_law 406 = .ok (.aload_n 2, 1) := by decide +kernel
theorem dL_law_407 : decode cL_law 407 = .ok (.aload_n 0, 1) := by decide +kernel
theorem dL_law_408 : decode cL_law 408 = .ok (.iload_n 3, 1) := by decide +kernel
theorem dL_law_409 : decode cL_law 409 = .ok (.iconst 1, 1) := by decide +kernel
theorem dL_law_410 : decode cL_law 410 = .ok (.iadd, 1) := by decide +kernel
theorem dL_law_411 : decode cL_law 411 = .ok (.iaload, 1) := by decide +kernel
theorem dL_law_412 : decode cL_law 412 = .ok (.aload_n 0, 1) := by decide +kernel
theorem dL_law_413 : decode cL_law 413 = .ok (.iload_n 3, 1) := by decide +kernel
theorem dL_law_414 : decode cL_law 414 = .ok (.iconst 2, 1) := by decide +kernel
theorem dL_law_415 : decode cL_law 415 = .ok (.iadd, 1) := by decide +kernel
theorem dL_law_416 : decode cL_law 416 = .ok (.iaload, 1) := by decide +kernel
theorem dL_law_417 : decode cL_law 417 = .ok (.invokevirtual 67, 3) := by decide +kernel
theorem dL_law_420 : decode cL_law 420 = .ok (.if_icmp .eq 147, 3) := by decide +kernel
theorem dL_law_423 : decode cL_law 423 = .ok (.iconst 0, 1) := by decide +kernel
theorem dL_law_424 : decode cL_law 424 = .ok (.ireturn, 1) := by decide +kernel
theorem dL_law_425 : decode cL_law 425 = .ok (.aload_n 1, 1) := by decide +kernel
theorem dL_law_426 : decode cL_law 426 = .ok (.aload_n 0, 1) := by decide +kernel
theorem dL_law_427 : decode cL_law 427 = .ok (.iload_n 3, 1) := by decide +kernel
theorem dL_law_428 : decode cL_law 428 = .ok (.iconst 1, 1) := by decide +kernel
theorem dL_law_429 : decode cL_law 429 = .ok (.iadd, 1) := by decide +kernel
theorem dL_law_430 : decode cL_law 430 = .ok (.iaload, 1) := by decide +kernel
theorem dL_law_431 : decode cL_law 431 = .ok (.aload_n 0, 1) := by decide +kernel
theorem dL_law_432 : decode cL_law 432 = .ok (.iload_n 3, 1) := by decide +kernel
theorem dL_law_433 : decode cL_law 433 = .ok (.iconst 2, 1) := by decide +kernel
theorem dL_law_434 : decode cL_law 434 = .ok (.iadd, 1) := by decide +kernel
theorem dL_law_435 : decode cL_law 435 = .ok (.iaload, 1) := by decide +kernel
theorem dL_law_436 : decode cL_law 436 = .ok (.aload_n 0, 1) := by decide +kernel
theorem dL_law_437 : decode cL_law 437 = .ok (.iload_n 3, 1) := by decide +kernel
theorem dL_law_438 : decode cL_law 438 = .ok (.iconst 3, 1) := by decide +kernel
theorem dL_law_439 : decode cL_law 439 = .ok (.iadd, 1) := by decide +kernel
theorem dL_law_440 : decode cL_law 440 = .ok (.iaload, 1) := by decide +kernel
theorem dL_law_441 : decode cL_law 441 = .ok (.invokevirtual 68, 3) := by decide +kernel
theorem dL_law_444 : decode cL_law 444 = .ok (.aload_n 2, 1) := by decide +kernel
theorem dL_law_445 : decode cL_law 445 = .ok (.aload_n 0, 1) := by decide +kernel
theorem dL_law_446 : decode cL_law 446 = .ok (.iload_n 3, 1) := by decide +kernel
theorem dL_law_447 : decode cL_law 447 = .ok (.iconst 1, 1) := by decide +kernel
theorem dL_law_448 : decode cL_law 448 = .ok (.iadd, 1) := by decide +kernel
theorem dL_law_449 : decode cL_law 449 = .ok (.iaload, 1) := by decide +kernel
theorem dL_law_450 : decode cL_law 450 = .ok (.aload_n 0, 1) := by decide +kernel
theorem dL_law_451 : decode cL_law 451 = .ok (.iload_n 3, 1) := by decide +kernel
theorem dL_law_452 : decode cL_law 452 = .ok (.iconst 2, 1) := by decide +kernel
theorem dL_law_453 : decode cL_law 453 = .ok (.iadd, 1) := by decide +kernel
theorem dL_law_454 : decode cL_law 454 = .ok (.iaload, 1) := by decide +kernel
theorem dL_law_455 : decode cL_law 455 = .ok (.aload_n 0, 1) := by decide +kernel
theorem dL_law_456 : decode cL_law 456 = .ok (.iload_n 3, 1) := by decide +kernel
theorem dL_law_457 : decode cL_law 457 = .ok (.iconst 3, 1) := by decide +kernel
theorem dL_law_458 : decode cL_law 458 = .ok (.iadd, 1) := by decide +kernel
theorem dL_law_459 : decode cL_law 459 = .ok (.iaload, 1) := by decide +kernel
theorem dL_law_460 : decode cL_law 460 = .ok (.invokevirtual 72, 3) := by decide +kernel
theorem dL_law_463 : decode cL_law 463 = .ok (.if_icmp .eq 104, 3) := by decide +kernel
theorem dL_law_466 : decode cL_law 466 = .ok (.iconst 0, 1) := by decide +kernel
theorem dL_law_467 : decode cL_law 467 = .ok (.ireturn, 1) := by decide +kernel
theorem dL_law_468 : decode cL_law 468 = .ok (.aload_n 1, 1) := by decide +kernel
theorem dL_law_469 : decode cL_law 469 = .ok (.aload_n 0, 1) := by decide +kernel
theorem dL_law_470 : decode cL_law 470 = .ok (.iload_n 3, 1) := by decide +kernel
theorem dL_law_471 : decode cL_law 471 = .ok (.iconst 1, 1) := by decide +kernel
theorem dL_law_472 : decode cL_law 472 = .ok (.iadd, 1) := by decide +kernel
theorem dL_law_473 : decode cL_law 473 = .ok (.iaload, 1) := by decide +kernel
theorem dL_law_474 : decode cL_law 474 = .ok (.aload_n 0, 1) := by decide +kernel
theorem dL_law_475 : decode cL_law 475 = .ok (.iload_n 3, 1) := by decide +kernel
theorem dL_law_476 : decode cL_law 476 = .ok (.iconst 2, 1) := by decide +kernel
theorem dL_law_477 : decode cL_law 477 = .ok (.iadd, 1) := by decide +kernel
theorem dL_law_478 : decode cL_law 478 = .ok (.iaload, 1) := by decide +kernel
theorem dL_law_479 : decode cL_law 479 = .ok (.invokevirtual 73, 3) := by decide +kernel
theorem dL_law_482 : decode cL_law 482 = .ok (.aload_n 2, 1) := by decide +kernel
theorem dL_law_483 : decode cL_law 483 = .ok (.aload_n 0, 1) := by decide +kernel
theorem dL_law_484 : decode cL_law 484 = .ok (.iload_n 3, 1) := by decide +kernel
theorem dL_law_485 : decode cL_law 485 = .ok (.iconst 1, 1) := by decide +kernel
theorem dL_law_486 : decode cL_law 486 = .ok (.iadd, 1) := by decide +kernel
theorem dL_law_487 : decode cL_law 487 = .ok (.iaload, 1) := by decide +kernel
theorem dL_law_488 : decode cL_law 488 = .ok (.aload_n 0, 1) := by decide +kernel
theorem dL_law_489 : decode cL_law 489 = .ok (.iload_n 3, 1) := by decide +kernel
theorem dL_law_490 : decode cL_law 490 = .ok (.iconst 2, 1) := by decide +kernel
theorem dL_law_491 : decode cL_law 491 = .ok (.iadd, 1) := by decide +kernel
theorem dL_law_492 : decode cL_law 492 = .ok (.iaload, 1) := by decide +kernel
theorem dL_law_493 : decode cL_law 493 = .ok (.invokevirtual 76, 3) := by decide +kernel
theorem dL_law_496 : decode cL_law 496 = .ok (.if_icmp .eq 71, 3) := by decide +kernel
theorem dL_law_499 : decode cL_law 499 = .ok (.iconst 0, 1) := by decide +kernel
theorem dL_law_500 : decode cL_law 500 = .ok (.ireturn, 1) := by decide +kernel
theorem dL_law_501 : decode cL_law 501 = .ok (.aload_n 1, 1) := by decide +kernel
theorem dL_law_502 : decode cL_law 502 = .ok (.aload_n 0, 1) := by decide +kernel
theorem dL_law_503 : decode cL_law 503 = .ok (.iload_n 3, 1) := by decide +kernel
theorem dL_law_504 : decode cL_law 504 = .ok (.iconst 1, 1) := by decide +kernel
theorem dL_law_505 : decode cL_law 505 = .ok (.iadd, 1) := by decide +kernel
theorem dL_law_506 : decode cL_law 506 = .ok (.iaload, 1) := by decide +kernel
theorem dL_law_507 : decode cL_law 507 = .ok (.aload_n 0, 1) := by decide +kernel
theorem dL_law_508 : decode cL_law 508 = .ok (.iload_n 3, 1) := by decide +kernel
theorem dL_law_509 : decode cL_law 509 = .ok (.iconst 2, 1) := by decide +kernel
theorem dL_law_510 : decode cL_law 510 = .ok (.iadd, 1) := by decide +kernel
theorem dL_law_511 : decode cL_law 511 = .ok (.iaload, 1) := by decide +kernel
theorem dL_law_512 : decode cL_law 512 = .ok (.aload_n 0, 1) := by decide +kernel
theorem dL_law_513 : decode cL_law 513 = .ok (.iload_n 3, 1) := by decide +kernel
theorem dL_law_514 : decode cL_law 514 = .ok (.iconst 3, 1) := by decide +kernel
theorem dL_law_515 : decode cL_law 515 = .ok (.iadd, 1) := by decide +kernel
theorem dL_law_516 : decode cL_law 516 = .ok (.iaload, 1) := by decide +kernel
theorem dL_law_517 : decode cL_law 517 = .ok (.invokevirtual 77, 3) := by decide +kernel
theorem dL_law_520 : decode cL_law 520 = .ok (.aload_n 2, 1) := by decide +kernel
theorem dL_law_521 : decode cL_law 521 = .ok (.aload_n 0, 1) := by decide +kernel
theorem dL_law_522 : decode cL_law 522 = .ok (.iload_n 3, 1) := by decide +kernel
theorem dL_law_523 : decode cL_law 523 = .ok (.iconst 1, 1) := by decide +kernel
theorem dL_law_524 : decode cL_law 524 = .ok (.iadd, 1) := by decide +kernel
theorem dL_law_525 : decode cL_law 525 = .ok (.iaload, 1) := by decide +kernel
theorem dL_law_526 : decode cL_law 526 = .ok (.aload_n 0, 1) := by decide +kernel
theorem dL_law_527 : decode cL_law 527 = .ok (.iload_n 3, 1) := by decide +kernel
theorem dL_law_528 : decode cL_law 528 = .ok (.iconst 2, 1) := by decide +kernel
theorem dL_law_529 : decode cL_law 529 = .ok (.iadd, 1) := by decide +kernel
theorem dL_law_530 : decode cL_law 530 = .ok (.iaload, 1) := by decide +kernel
theorem dL_law_531 : decode cL_law 531 = .ok (.aload_n 0, 1) := by decide +kernel
theorem dL_law_532 : decode cL_law 532 = .ok (.iload_n 3, 1) := by decide +kernel
theorem dL_law_533 : decode cL_law 533 = .ok (.iconst 3, 1) := by decide +kernel
theorem dL_law_534 : decode cL_law 534 = .ok (.iadd, 1) := by decide +kernel
theorem dL_law_535 : decode cL_law 535 = .ok (.iaload, 1) := by decide +kernel
theorem dL_law_536 : decode cL_law 536 = .ok (.invokevirtual 80, 3) := by decide +kernel
theorem dL_law_539 : decode cL_law 539 = .ok (.if_icmp .eq 28, 3) := by decide +kernel
theorem dL_law_542 : decode cL_law 542 = .ok (.iconst 0, 1) := by decide +kernel
theorem dL_law_543 : decode cL_law 543 = .ok (.ireturn, 1) := by decide +kernel
theorem dL_law_544 : decode cL_law 544 = .ok (.aload_n 1, 1) := by decide +kernel
theorem dL_law_545 : decode cL_law 545 = .ok (.aload_n 0, 1) := by decide +kernel
theorem dL_law_546 : decode cL_law 546 = .ok (.iload_n 3, 1) := by decide +kernel
theorem dL_law_547 : decode cL_law 547 = .ok (.iconst 1, 1) := by decide +kernel
theorem dL_law_548 : decode cL_law 548 = .ok (.iadd, 1) := by decide +kernel
theorem dL_law_549 : decode cL_law 549 = .ok (.iaload, 1) := by decide +kernel
theorem dL_law_550 : decode cL_law 550 = .ok (.invokevirtual 81, 3) := by decide +kernel
theorem dL_law_553 : decode cL_law 553 = .ok (.aload_n 2, 1) := by decide +kernel
theorem dL_law_554 : decode cL_law 554 = .ok (.aload_n 0, 1) := by decide +kernel
theorem dL_law_555 : decode cL_law 555 = .ok (.iload_n 3, 1) := by decide +kernel
theorem dL_law_556 : decode cL_law 556 = .ok (.iconst 1, 1) := by decide +kernel
theorem dL_law_557 : decode cL_law 557 = .ok (.iadd, 1) := by decide +kernel
theorem dL_law_558 : decode cL_law 558 = .ok (.iaload, 1) := by decide +kernel
theorem dL_law_559 : decode cL_law 559 = .ok (.invokevirtual 84, 3) := by decide +kernel
theorem dL_law_562 : decode cL_law 562 = .ok (.if_icmp .eq 5, 3) := by decide +kernel
theorem dL_law_565 : decode cL_law 565 = .ok (.iconst 0, 1) := by decide +kernel
theorem dL_law_566 : decode cL_law 566 = .ok (.ireturn, 1) := by decide +kernel
theorem dL_law_567 : decode cL_law 567 = .ok (.iinc 3 4, 3) := by decide +kernel
theorem dL_law_570 : decode cL_law 570 = .ok (.goto (-552), 3) := by decide +kernel
theorem dL_law_573 : decode cL_law 573 = .ok (.iconst 1, 1) := by decide +kernel
theorem dL_law_574 : decode cL_law 574 = .ok (.ireturn, 1) := by decide +kernel
end
section
/-! the cells by their numbers: 0 the FileRounds, 1 its script, 3 and 7 its plans, 11 its rounds, 34 its past, 36, 59, 82, 105 what that keeps, 128 its forecast; 139 the reference. Kinds: 0 to 8 the classes, 9 int[], 10 Listener[], 11 Rounds[] -/
def KDl : List Nat := [7, 5, 9, 3, 9, 9, 9, 3, 9, 9, 9, 4, 10, 6, 9, 9, 9, 9, 9, 9, 9, 9, 1, 9, 9, 1, 9, 9, 1, 9, 9, 1, 9, 9, 2, 11, 4, 10, 6, 9, 9, 9, 9, 9, 9, 9, 9, 1, 9, 9, 1, 9, 9, 1, 9, 9, 1, 9, 9, 4, 10, 6, 9, 9, 9, 9, 9, 9, 9, 9, 1, 9, 9, 1, 9, 9, 1, 9, 9, 1, 9, 9, 4, 10, 6, 9, 9, 9, 9, 9, 9, 9, 9, 1, 9, 9, 1, 9, 9, 1, 9, 9, 1, 9, 9, 4, 10, 6, 9, 9, 9, 9, 9, 9, 9, 9, 1, 9, 9, 1, 9, 9, 1, 9, 9, 1, 9, 9, 0, 9, 6, 9, 9, 9, 9, 9, 9, 9, 9, 8, 9, 9, 9]
def LNl : List Nat := [0, 0, 200, 0, 6, 6, 6, 0, 6, 6, 6, 0, 4, 0, 6, 6, 6, 6, 6, 10, 10, 10, 0, 6, 6, 0, 6, 6, 0, 6, 6, 0, 6, 6, 0, 4, 0, 4, 0, 6, 6, 6, 6, 6, 10, 10, 10, 0, 6, 6, 0, 6, 6, 0, 6, 6, 0, 6, 6, 0, 4, 0, 6, 6, 6, 6, 6, 10, 10, 10, 0, 6, 6, 0, 6, 6, 0, 6, 6, 0, 6, 6, 0, 4, 0, 6, 6, 6, 6, 6, 10, 10, 10, 0, 6, 6, 0, 6, 6, 0, 6, 6, 0, 6, 6, 0, 4, 0, 6, 6, 6, 6, 6, 10, 10, 10, 0, 6, 6, 0, 6, 6, 0, 6, 6, 0, 6, 6, 0, 499, 0, 6, 6, 6, 6, 6, 10, 10, 10, 0, 918, 200, 20]
def KD (i : Nat) : Nat := KDl.getD i 12
def LN (i : Nat) : Nat := LNl.getD i 0
abbrev Mem : Type := Nat → Nat → Int32
/-- a cell's place is written -/
def MU (M : Mem) (i k : Nat) (v : Int32) : Mem := fun j => if j = i then upd (M i) k v else M j
/-- a value whose references are cells' numbers, as the machine has it -/
def CV (ad : Nat → Nat) (v : Value) : Value := match v with
  | .ref i => .ref (ad i)
  | v => v
/-- an object's fields -/
def FA (i : Nat) (r : Nat → Int32) : List Value :=
  if KD i = 0 then [.ref 7, .ref (i + 2), .ref (i + 1), .int (r 3), .int (r 4)]
  else if KD i = 1 then [.ref 7, .int (r 1), .ref (i + 1), .ref (i + 2), .int (r 4), .int (r 5), .int (r 6), .int (r 7)]
  else if KD i = 2 then [.ref (i + 1), .int (r 1), .int (r 2)]
  else if KD i = 3 then [.ref (i + 1), .ref (i + 2), .ref (i + 3), .int (r 3), .int (r 4), .int (r 5)]
  else if KD i = 4 then [.ref (i + 2), .ref (i + 1), .int (r 2)]
  else if KD i = 5 then [.ref (i + 1), .int (r 1), .int (r 2)]
  else if KD i = 6 then [.ref 7, .ref (i + 1), .ref (i + 2), .ref (i + 3), .ref (i + 4), .ref (i + 5), .ref (i + 6), .ref (i + 7), .ref (i + 8), .int (r 9), .int (r 10), .int (r 11)]
  else if KD i = 7 then [.ref 1, .ref 3, .ref 7, .ref 11, .ref 34, .ref 128]
  else [.ref (i + 1), .int (r 1), .ref (i + 2), .int (r 3), .ref (i + 3), .int (r 5), .int (r 6), .int (r 7), .int (r 8)]
/-- a cell of the world -/
def EA (ad : Nat → Nat) (cs : ClassId × ClassId × ClassId) (i : Nat) (r : Nat → Int32) : va_E :=
  if KD i = 9 then .inl (cs.1, LN i, .inl r)
  else if KD i = 10 then .inl (cs.2.1, 4, .inr (.inr (.inr (.inr (fun l => some (ad (i + 10 + 3 * l)))))))
  else if KD i = 11 then .inl (cs.2.2, 4, .inr (.inr (.inr (.inr (fun l => some (ad (i + 1 + 23 * l)))))))
  else .inr (KD i, (FA i r).map (CV ad))
def WL (ad : Nat → Nat) (cs : ClassId × ClassId × ClassId) (L : List Nat) (M : Mem) : va_W := L.map (fun i => (ad i, EA ad cs i (M i)))
abbrev TY (cs : ClassId × ClassId × ClassId) : List (ClassId × FieldType) := [(cs.1, .int), (cs.2.1, .object "FileRounds$Listener"), (cs.2.2, .object "FileRounds$Rounds")]
/-- cell i is there, of kind c, of length n -/
def AC (L : List Nat) (i c n : Nat) : Prop := i ∈ L ∧ KD i = c ∧ LN i = n
theorem MU_at (M : Mem) (i k : Nat) (v : Int32) : MU M i k v i = upd (M i) k v := by simp [MU]
theorem MU_ne {M : Mem} {i k j : Nat} {v : Int32} (h : j ≠ i) : MU M i k v j = M j := by simp [MU, h]
theorem WL_get {ad : Nat → Nat} {cs : ClassId × ClassId × ClassId} {L : List Nat} {M : Mem} {i : Nat} (h : i ∈ L) : ∃ q : Nat, L[q]? = some i ∧ (WL ad cs L M)[q]? = some (ad i, EA ad cs i (M i)) := by
  obtain ⟨q, hq⟩ := List.getElem?_of_mem h
  exact ⟨q, hq, by simp [WL, List.getElem?_map, hq]⟩
theorem WL_set {ad : Nat → Nat} {cs : ClassId × ClassId × ClassId} {L : List Nat} {M : Mem} {i q : Nat} (hn : L.Nodup) (hq : L[q]? = some i) (r : Nat → Int32) : (WL ad cs L M).set q (ad i, EA ad cs i r) = WL ad cs L (fun j => if j = i then r else M j) := by
  apply List.ext_getElem?
  intro k
  have hlt : q < L.length := (List.getElem?_eq_some_iff.mp hq).1
  by_cases hk : k = q
  · subst hk
    rw [List.getElem?_set_self (by simpa [WL] using hlt)]
    simp [WL, List.getElem?_map, hq]
  · rw [List.getElem?_set_ne (Ne.symm hk)]
    simp only [WL, List.getElem?_map]
    cases hj : L[k]? with
    | none => rfl
    | some j =>
      have hne : j ≠ i := by
        intro e
        subst e
        have h1 := (List.getElem?_eq_some_iff.mp hj)
        have h2 := (List.getElem?_eq_some_iff.mp hq)
        obtain ⟨l1, e1⟩ := h1
        obtain ⟨l2, e2⟩ := h2
        exact hk ((List.getElem_inj hn).mp (e1.trans e2.symm))
      simp [hne]
/-- the locals: by their numbers, what is known of them -/
def lvl (ad : Nat → Nat) (lo : List (Option Value)) : List (Nat × Value) := lo.zipIdx.filterMap (fun q => q.1.map (fun v => (q.2, CV ad v)))
def LO (ad : Nat → Nat) (ls : Array Slot) (lo : List (Option Value)) : Prop := lv_has ls lo.length (lvl ad lo)
theorem CV_cat (ad : Nat → Nat) (v : Value) : (CV ad v).category = v.category := by cases v <;> rfl
theorem lvl_mem {ad : Nat → Nat} {lo : List (Option Value)} {q : Nat × Value} : q ∈ lvl ad lo ↔ ∃ v, lo[q.1]? = some (some v) ∧ q.2 = CV ad v := by
  unfold lvl
  rw [List.mem_filterMap]
  constructor
  · rintro ⟨⟨a, i⟩, h1, h2⟩
    rw [List.mem_zipIdx_iff_getElem?] at h1
    cases a with
    | none => simp at h2
    | some v =>
      simp at h2
      subst h2
      exact ⟨v, h1, rfl⟩
  · rintro ⟨v, h1, h2⟩
    refine ⟨(some v, q.1), ?_, ?_⟩
    · rw [List.mem_zipIdx_iff_getElem?]
      exact h1
    · simp [← h2]
theorem LO_at {ad : Nat → Nat} {ls : Array Slot} {lo : List (Option Value)} (h : LO ad ls lo) {i : Nat} {v : Value} (hi : lo[i]? = some (some v)) : ls[i]? = some (.val (CV ad v)) := h.2.2 (i, CV ad v) (lvl_mem.mpr ⟨v, hi, rfl⟩)
/-- no long stands just ahead of local i -/
def noL (lo : List (Option Value)) (i : Nat) : Bool := match i with
  | 0 => true
  | j + 1 => match lo[j]? with
    | some (some w) => w.category == 1
    | _ => true
theorem noL_of {lo : List (Option Value)} {i j : Nat} {v : Value} (h : noL lo i = true) (hj : j + 1 = i) (hv : lo[j]? = some (some v)) : v.category = 1 := by
  subst hj
  simp [noL, hv] at h
  exact h
theorem LO_st1 {ad : Nat → Nat} {ls : Array Slot} {lo lo' : List (Option Value)} {i : Nat} {v : Value} (he : lo.set i (some v) = lo') (hn : noL lo i = true)
    (h : lv_has ls lo.length ((i, CV ad v) :: (lvl ad lo).filter (fun q => !(q.1 == i) && !(q.1 + 1 == i && q.2.category == 2)))) : LO ad ls lo' := by
  subst he
  refine ⟨by rw [List.length_set]; exact h.1, h.2.1, fun q hq => h.2.2 q ?_⟩
  obtain ⟨w, hw, hq2⟩ := lvl_mem.mp hq
  by_cases hqi : q.1 = i
  · have hi : i < lo.length := by
      have := (List.getElem?_eq_some_iff.mp hw).1
      rw [List.length_set] at this
      omega
    rw [hqi, List.getElem?_set_self hi] at hw
    cases hw
    have e : q = (i, CV ad v) := by rw [← hqi, ← hq2]
    rw [e]
    exact List.mem_cons_self
  · rw [List.getElem?_set_ne (Ne.symm hqi)] at hw
    refine List.mem_cons_of_mem _ (List.mem_filter.mpr ⟨lvl_mem.mpr ⟨w, hw, hq2⟩, ?_⟩)
    simp only [Bool.and_eq_true, Bool.not_eq_true', beq_eq_false_iff_ne, ne_eq, hqi, not_false_eq_true, Bool.and_eq_false_iff, true_and]
    by_cases h1 : q.1 + 1 = i
    · right
      have := noL_of hn h1 hw
      rw [hq2, CV_cat, this]
      simp
    · left; exact h1
theorem LO_st2 {ad : Nat → Nat} {ls : Array Slot} {lo lo' : List (Option Value)} {i : Nat} {v : Value} (he : (lo.set i (some v)).set (i + 1) none = lo') (hn : noL lo i = true)
    (h : lv_has ls lo.length ((i, CV ad v) :: (lvl ad lo).filter (fun q => !(q.1 == i) && (!(q.1 == i + 1) && !(q.1 + 1 == i && q.2.category == 2))))) : LO ad ls lo' := by
  subst he
  refine ⟨by rw [List.length_set, List.length_set]; exact h.1, h.2.1, fun q hq => h.2.2 q ?_⟩
  obtain ⟨w, hw, hq2⟩ := lvl_mem.mp hq
  have hq1 : ¬ q.1 = i + 1 := by
    intro e
    rw [e] at hw
    by_cases hl : i + 1 < (lo.set i (some v)).length
    · rw [List.getElem?_set_self hl] at hw
      cases hw
    · rw [List.getElem?_eq_none (by rw [List.length_set]; omega)] at hw
      cases hw
  rw [List.getElem?_set_ne (fun e => hq1 e.symm)] at hw
  by_cases hqi : q.1 = i
  · have hi : i < lo.length := by
      have := (List.getElem?_eq_some_iff.mp hw).1
      rw [List.length_set] at this
      omega
    rw [hqi, List.getElem?_set_self hi] at hw
    cases hw
    have e : q = (i, CV ad v) := by rw [← hqi, ← hq2]
    rw [e]
    exact List.mem_cons_self
  · rw [List.getElem?_set_ne (Ne.symm hqi)] at hw
    refine List.mem_cons_of_mem _ (List.mem_filter.mpr ⟨lvl_mem.mpr ⟨w, hw, hq2⟩, ?_⟩)
    simp only [Bool.and_eq_true, Bool.not_eq_true', beq_eq_false_iff_ne, ne_eq, hqi, hq1, not_false_eq_true, Bool.and_eq_false_iff, true_and]
    by_cases h1 : q.1 + 1 = i
    · right
      have := noL_of hn h1 hw
      rw [hq2, CV_cat, this]
      simp
    · left; exact h1
/-- what is fixed along a walk -/
abbrev CT : Type := Program × Launch × Env × Room × State × MethodId × Array Value × List Frame × Method × Code × (Nat → Prop) × (State → Prop) × va_G × (ClassId × ClassId × ClassId) × (Nat → Nat) × Nat × Nat
def BS (x : CT) (L : List Nat) (cc : ByteArray) (nL : Nat) (own : String) (R : Room) : Prop := match x with
  | (p, _, _, R', s, m, args, _, meth, c, A, _, D, cs, _, kc, ks) => R' = R ∧ p.tables.exec = Jvm.exec ∧ c.code = cc ∧ c.maxLocals = nL ∧ s.vm.findClass own = some m.cls ∧ (∀ w ∈ wd_G, w.before args s = true) ∧ (∀ w ∈ wd_N, va_Nw w s) ∧ meth.locks = false ∧ (∀ q, s.heap.size ≤ q → A q) ∧ va_K D vwCl (TY cs) s ∧ L.Nodup ∧ kc ≤ R.cells ∧ ks ≤ R.slots
/-- from here the machine comes to its end -/
def WP (x : CT) (L : List Nat) (pc : Nat) (lo : List (Option Value)) (st : List Value) (M : Mem) : Prop := match x with
  | (p, l, e, R, s, m, args, below, meth, c, A, QQ, D, cs, ad, kc, ks) => ∀ (H : Heap) (locs : List Loc) (ls : Array Slot), va_P D vwCl (WL ad cs L M) H → va_D A (WL ad cs L M) → va_S A s.heap H locs → LO ad ls lo → W p l e R s m args below meth c H locs kc ks QQ (F0 m pc ls (st.map (CV ad)))
/-- a method: name, code, locals, answer, room -/
abbrev MI : Type := MethodName × ByteArray × Nat × Option FieldType × Room
def PR (D : va_G) (cs : ClassId × ClassId × ClassId) (ad : Nat → Nat) (L : List Nat) (M : Mem) (sz : Nat) (U : State) : Prop := U.heap.size = sz ∧ va_P D vwCl (WL ad cs L M) U.heap ∧ va_K D vwCl (TY cs) U ∧ va_D (fun _ => True) (WL ad cs L M) ∧ ∀ w ∈ wd_N, va_Nw w U
def BK (D : va_G) (cs : ClassId × ClassId × ClassId) (ad : Nat → Nat) (L : List Nat) (A : Nat → Prop) (M : Mem) (t : State) : Prop := va_P D vwCl (WL ad cs L M) t.heap ∧ va_K D vwCl (TY cs) t ∧ va_D A (WL ad cs L M)
def QR (ret : Option FieldType) (Q : Int32 → Mem → Prop) (B : Mem → State → Prop) (A : Nat → Prop) : Array Value → State → Outcome → State → Prop := match ret with
  | none => va_Qv (Q 0) B A
  | some _ => va_Qi Q B A
def RT (x : CT) (L : List Nat) (ret : Option FieldType) (Q : Int32 → Mem → Prop) : Prop := match x with
  | (_, _, _, _, s, _, args, below, meth, _, A, QQ, D, cs, ad, kc, ks) => meth.sig.returnType = ret ∧ kc = 0 ∧ ks = 0 ∧ QQ = MQ below (QR ret Q (BK D cs ad L A) A) args s 0 0 A
/-- the contract of a method that makes nothing: from memory M it comes back with Q -/
def CM (mm : MI) (L : List Nat) (av : List Value) (M : Mem) (Q : Int32 → Mem → Prop) : Prop := ∃ Q0 : Int32 → Mem → Prop, (∀ r M', Q0 r M' → Q r M') ∧ ∀ (l : Launch) (D : va_G) (cs : ClassId × ClassId × ClassId) (ad : Nat → Nat) (sz : Nat), Met l mm.1 (.code mm.1 mm.2.1 mm.2.2.1 mm.2.2.2.1 :: wd_G) mm.2.2.2.2 (va_Pc (av.map (CV ad)) (PR D cs ad L M sz)) (QR mm.2.2.2.1 Q0 (BK D cs ad L (va_A (WL ad cs L M) sz)) (va_A (WL ad cs L M) sz)) 0 0 (va_A (WL ad cs L M) sz)
theorem CM.mono {mm : MI} {L : List Nat} {av : List Value} {M : Mem} {Q Q' : Int32 → Mem → Prop} (h : CM mm L av M Q) (hq : ∀ r M', Q r M' → Q' r M') : CM mm L av M Q' := by
  obtain ⟨Q0, h1, h2⟩ := h
  exact ⟨Q0, fun r M' h => hq r M' (h1 r M' h), h2⟩
end
section
theorem wp_iconst {x : CT} {L : List Nat} {cc : ByteArray} {nL : Nat} {own : String} {R : Room} {pc : Nat} {lo : List (Option Value)} {st : List Value} {M : Mem} (X : BS x L cc nL own R) {n : Int} {v : Int32} (hd : decode cc pc = .ok (.iconst n, 1)) (hv : Int32.ofInt n = v) (k : WP x L (pc + 1) lo (.int v :: st) M) : WP x L pc lo (st) M := by
  obtain ⟨p, l, e, R', s, m, args, below, meth, c, A, QQ, D, cs, ad, kc, ks⟩ := x
  obtain ⟨hR, hx, hb, hml, hown, hts, hnw, hlk, hA, hK, hnd, hkc, hks⟩ := X
  intro H locs ls hP hD hS hl
  exact lv_iconst hx hb hd hv (k H locs ls hP hD hS hl)
theorem wp_bipush {x : CT} {L : List Nat} {cc : ByteArray} {nL : Nat} {own : String} {R : Room} {pc : Nat} {lo : List (Option Value)} {st : List Value} {M : Mem} (X : BS x L cc nL own R) {n : Int} {v : Int32} (hd : decode cc pc = .ok (.bipush n, 2)) (hv : (Int8.ofInt n).toInt32 = v) (k : WP x L (pc + 2) lo (.int v :: st) M) : WP x L pc lo (st) M := by
  obtain ⟨p, l, e, R', s, m, args, below, meth, c, A, QQ, D, cs, ad, kc, ks⟩ := x
  obtain ⟨hR, hx, hb, hml, hown, hts, hnw, hlk, hA, hK, hnd, hkc, hks⟩ := X
  intro H locs ls hP hD hS hl
  exact lv_bipush hx hb hd hv (k H locs ls hP hD hS hl)
theorem wp_sipush {x : CT} {L : List Nat} {cc : ByteArray} {nL : Nat} {own : String} {R : Room} {pc : Nat} {lo : List (Option Value)} {st : List Value} {M : Mem} (X : BS x L cc nL own R) {n : Int} {v : Int32} (hd : decode cc pc = .ok (.sipush n, 3)) (hv : (Int16.ofInt n).toInt32 = v) (k : WP x L (pc + 3) lo (.int v :: st) M) : WP x L pc lo (st) M := by
  obtain ⟨p, l, e, R', s, m, args, below, meth, c, A, QQ, D, cs, ad, kc, ks⟩ := x
  obtain ⟨hR, hx, hb, hml, hown, hts, hnw, hlk, hA, hK, hnd, hkc, hks⟩ := X
  intro H locs ls hP hD hS hl
  exact lv_sipush hx hb hd hv (k H locs ls hP hD hS hl)
theorem wp_lconst {x : CT} {L : List Nat} {cc : ByteArray} {nL : Nat} {own : String} {R : Room} {pc : Nat} {lo : List (Option Value)} {st : List Value} {M : Mem} (X : BS x L cc nL own R) {n : Fin 2} {v : Int64} (hd : decode cc pc = .ok (.lconst n, 1)) (hv : Int64.ofNat (n : Nat) = v) (k : WP x L (pc + 1) lo (.long v :: st) M) : WP x L pc lo (st) M := by
  obtain ⟨p, l, e, R', s, m, args, below, meth, c, A, QQ, D, cs, ad, kc, ks⟩ := x
  obtain ⟨hR, hx, hb, hml, hown, hts, hnw, hlk, hA, hK, hnd, hkc, hks⟩ := X
  intro H locs ls hP hD hS hl
  exact lv_lconst hx hb hd hv (k H locs ls hP hD hS hl)
theorem wp_iload_n {x : CT} {L : List Nat} {cc : ByteArray} {nL : Nat} {own : String} {R : Room} {pc : Nat} {lo : List (Option Value)} {st : List Value} {M : Mem} (X : BS x L cc nL own R) {k4 : Fin 4} {i : Nat} {v : Int32} (hd : decode cc pc = .ok (.iload_n k4, 1)) (hi : (k4 : Nat) = i) (hv : lo[i]? = some (some (.int v))) (k : WP x L (pc + 1) lo (.int v :: st) M) : WP x L pc lo (st) M := by
  obtain ⟨p, l, e, R', s, m, args, below, meth, c, A, QQ, D, cs, ad, kc, ks⟩ := x
  obtain ⟨hR, hx, hb, hml, hown, hts, hnw, hlk, hA, hK, hnd, hkc, hks⟩ := X
  intro H locs ls hP hD hS hl
  exact lv_iload_n hx hb hd hi (LO_at hl hv) (k H locs ls hP hD hS hl)
theorem wp_iload {x : CT} {L : List Nat} {cc : ByteArray} {nL : Nat} {own : String} {R : Room} {pc : Nat} {lo : List (Option Value)} {st : List Value} {M : Mem} (X : BS x L cc nL own R) {i : Nat} {v : Int32} (hd : decode cc pc = .ok (.iload i, 2)) (hv : lo[i]? = some (some (.int v))) (k : WP x L (pc + 2) lo (.int v :: st) M) : WP x L pc lo (st) M := by
  obtain ⟨p, l, e, R', s, m, args, below, meth, c, A, QQ, D, cs, ad, kc, ks⟩ := x
  obtain ⟨hR, hx, hb, hml, hown, hts, hnw, hlk, hA, hK, hnd, hkc, hks⟩ := X
  intro H locs ls hP hD hS hl
  exact lv_iload hx hb hd (LO_at hl hv) (k H locs ls hP hD hS hl)
theorem wp_lload_n {x : CT} {L : List Nat} {cc : ByteArray} {nL : Nat} {own : String} {R : Room} {pc : Nat} {lo : List (Option Value)} {st : List Value} {M : Mem} (X : BS x L cc nL own R) {k4 : Fin 4} {i : Nat} {v : Int64} (hd : decode cc pc = .ok (.lload_n k4, 1)) (hi : (k4 : Nat) = i) (hv : lo[i]? = some (some (.long v))) (k : WP x L (pc + 1) lo (.long v :: st) M) : WP x L pc lo (st) M := by
  obtain ⟨p, l, e, R', s, m, args, below, meth, c, A, QQ, D, cs, ad, kc, ks⟩ := x
  obtain ⟨hR, hx, hb, hml, hown, hts, hnw, hlk, hA, hK, hnd, hkc, hks⟩ := X
  intro H locs ls hP hD hS hl
  exact lv_lload_n hx hb hd hi (LO_at hl hv) (k H locs ls hP hD hS hl)
theorem wp_lload {x : CT} {L : List Nat} {cc : ByteArray} {nL : Nat} {own : String} {R : Room} {pc : Nat} {lo : List (Option Value)} {st : List Value} {M : Mem} (X : BS x L cc nL own R) {i : Nat} {v : Int64} (hd : decode cc pc = .ok (.lload i, 2)) (hv : lo[i]? = some (some (.long v))) (k : WP x L (pc + 2) lo (.long v :: st) M) : WP x L pc lo (st) M := by
  obtain ⟨p, l, e, R', s, m, args, below, meth, c, A, QQ, D, cs, ad, kc, ks⟩ := x
  obtain ⟨hR, hx, hb, hml, hown, hts, hnw, hlk, hA, hK, hnd, hkc, hks⟩ := X
  intro H locs ls hP hD hS hl
  exact lv_lload hx hb hd (LO_at hl hv) (k H locs ls hP hD hS hl)
theorem wp_fload_n {x : CT} {L : List Nat} {cc : ByteArray} {nL : Nat} {own : String} {R : Room} {pc : Nat} {lo : List (Option Value)} {st : List Value} {M : Mem} (X : BS x L cc nL own R) {k4 : Fin 4} {i : Nat} {v : UInt32} (hd : decode cc pc = .ok (.fload_n k4, 1)) (hi : (k4 : Nat) = i) (hv : lo[i]? = some (some (.float v))) (k : WP x L (pc + 1) lo (.float v :: st) M) : WP x L pc lo (st) M := by
  obtain ⟨p, l, e, R', s, m, args, below, meth, c, A, QQ, D, cs, ad, kc, ks⟩ := x
  obtain ⟨hR, hx, hb, hml, hown, hts, hnw, hlk, hA, hK, hnd, hkc, hks⟩ := X
  intro H locs ls hP hD hS hl
  exact lv_fload_n hx hb hd hi (LO_at hl hv) (k H locs ls hP hD hS hl)
theorem wp_fload {x : CT} {L : List Nat} {cc : ByteArray} {nL : Nat} {own : String} {R : Room} {pc : Nat} {lo : List (Option Value)} {st : List Value} {M : Mem} (X : BS x L cc nL own R) {i : Nat} {v : UInt32} (hd : decode cc pc = .ok (.fload i, 2)) (hv : lo[i]? = some (some (.float v))) (k : WP x L (pc + 2) lo (.float v :: st) M) : WP x L pc lo (st) M := by
  obtain ⟨p, l, e, R', s, m, args, below, meth, c, A, QQ, D, cs, ad, kc, ks⟩ := x
  obtain ⟨hR, hx, hb, hml, hown, hts, hnw, hlk, hA, hK, hnd, hkc, hks⟩ := X
  intro H locs ls hP hD hS hl
  exact lv_fload hx hb hd (LO_at hl hv) (k H locs ls hP hD hS hl)
theorem wp_aload_n {x : CT} {L : List Nat} {cc : ByteArray} {nL : Nat} {own : String} {R : Room} {pc : Nat} {lo : List (Option Value)} {st : List Value} {M : Mem} (X : BS x L cc nL own R) {k4 : Fin 4} {i : Nat} {v : Nat} (hd : decode cc pc = .ok (.aload_n k4, 1)) (hi : (k4 : Nat) = i) (hv : lo[i]? = some (some (.ref v))) (k : WP x L (pc + 1) lo (.ref v :: st) M) : WP x L pc lo (st) M := by
  obtain ⟨p, l, e, R', s, m, args, below, meth, c, A, QQ, D, cs, ad, kc, ks⟩ := x
  obtain ⟨hR, hx, hb, hml, hown, hts, hnw, hlk, hA, hK, hnd, hkc, hks⟩ := X
  intro H locs ls hP hD hS hl
  exact lv_aload_n hx hb hd hi (LO_at hl hv) (k H locs ls hP hD hS hl)
theorem wp_aload {x : CT} {L : List Nat} {cc : ByteArray} {nL : Nat} {own : String} {R : Room} {pc : Nat} {lo : List (Option Value)} {st : List Value} {M : Mem} (X : BS x L cc nL own R) {i : Nat} {v : Nat} (hd : decode cc pc = .ok (.aload i, 2)) (hv : lo[i]? = some (some (.ref v))) (k : WP x L (pc + 2) lo (.ref v :: st) M) : WP x L pc lo (st) M := by
  obtain ⟨p, l, e, R', s, m, args, below, meth, c, A, QQ, D, cs, ad, kc, ks⟩ := x
  obtain ⟨hR, hx, hb, hml, hown, hts, hnw, hlk, hA, hK, hnd, hkc, hks⟩ := X
  intro H locs ls hP hD hS hl
  exact lv_aload hx hb hd (LO_at hl hv) (k H locs ls hP hD hS hl)
theorem wp_iadd {x : CT} {L : List Nat} {cc : ByteArray} {nL : Nat} {own : String} {R : Room} {pc : Nat} {lo : List (Option Value)} {st : List Value} {M : Mem} (X : BS x L cc nL own R) {a b : Int32} (hd : decode cc pc = .ok (.iadd, 1))  (k : WP x L (pc + 1) lo (.int (a + b) :: st) M) : WP x L pc lo (.int b :: .int a :: st) M := by
  obtain ⟨p, l, e, R', s, m, args, below, meth, c, A, QQ, D, cs, ad, kc, ks⟩ := x
  obtain ⟨hR, hx, hb, hml, hown, hts, hnw, hlk, hA, hK, hnd, hkc, hks⟩ := X
  intro H locs ls hP hD hS hl
  exact lv_iadd hx hb hd (k H locs ls hP hD hS hl)
theorem wp_isub {x : CT} {L : List Nat} {cc : ByteArray} {nL : Nat} {own : String} {R : Room} {pc : Nat} {lo : List (Option Value)} {st : List Value} {M : Mem} (X : BS x L cc nL own R) {a b : Int32} (hd : decode cc pc = .ok (.isub, 1))  (k : WP x L (pc + 1) lo (.int (a - b) :: st) M) : WP x L pc lo (.int b :: .int a :: st) M := by
  obtain ⟨p, l, e, R', s, m, args, below, meth, c, A, QQ, D, cs, ad, kc, ks⟩ := x
  obtain ⟨hR, hx, hb, hml, hown, hts, hnw, hlk, hA, hK, hnd, hkc, hks⟩ := X
  intro H locs ls hP hD hS hl
  exact lv_isub hx hb hd (k H locs ls hP hD hS hl)
theorem wp_imul {x : CT} {L : List Nat} {cc : ByteArray} {nL : Nat} {own : String} {R : Room} {pc : Nat} {lo : List (Option Value)} {st : List Value} {M : Mem} (X : BS x L cc nL own R) {a b : Int32} (hd : decode cc pc = .ok (.imul, 1))  (k : WP x L (pc + 1) lo (.int (a * b) :: st) M) : WP x L pc lo (.int b :: .int a :: st) M := by
  obtain ⟨p, l, e, R', s, m, args, below, meth, c, A, QQ, D, cs, ad, kc, ks⟩ := x
  obtain ⟨hR, hx, hb, hml, hown, hts, hnw, hlk, hA, hK, hnd, hkc, hks⟩ := X
  intro H locs ls hP hD hS hl
  exact lv_imul hx hb hd (k H locs ls hP hD hS hl)
theorem wp_iand {x : CT} {L : List Nat} {cc : ByteArray} {nL : Nat} {own : String} {R : Room} {pc : Nat} {lo : List (Option Value)} {st : List Value} {M : Mem} (X : BS x L cc nL own R) {a b : Int32} (hd : decode cc pc = .ok (.iand, 1))  (k : WP x L (pc + 1) lo (.int (a &&& b) :: st) M) : WP x L pc lo (.int b :: .int a :: st) M := by
  obtain ⟨p, l, e, R', s, m, args, below, meth, c, A, QQ, D, cs, ad, kc, ks⟩ := x
  obtain ⟨hR, hx, hb, hml, hown, hts, hnw, hlk, hA, hK, hnd, hkc, hks⟩ := X
  intro H locs ls hP hD hS hl
  exact lv_iand hx hb hd (k H locs ls hP hD hS hl)
theorem wp_ior {x : CT} {L : List Nat} {cc : ByteArray} {nL : Nat} {own : String} {R : Room} {pc : Nat} {lo : List (Option Value)} {st : List Value} {M : Mem} (X : BS x L cc nL own R) {a b : Int32} (hd : decode cc pc = .ok (.ior, 1))  (k : WP x L (pc + 1) lo (.int (a ||| b) :: st) M) : WP x L pc lo (.int b :: .int a :: st) M := by
  obtain ⟨p, l, e, R', s, m, args, below, meth, c, A, QQ, D, cs, ad, kc, ks⟩ := x
  obtain ⟨hR, hx, hb, hml, hown, hts, hnw, hlk, hA, hK, hnd, hkc, hks⟩ := X
  intro H locs ls hP hD hS hl
  exact lv_ior hx hb hd (k H locs ls hP hD hS hl)
theorem wp_ixor {x : CT} {L : List Nat} {cc : ByteArray} {nL : Nat} {own : String} {R : Room} {pc : Nat} {lo : List (Option Value)} {st : List Value} {M : Mem} (X : BS x L cc nL own R) {a b : Int32} (hd : decode cc pc = .ok (.ixor, 1))  (k : WP x L (pc + 1) lo (.int (a ^^^ b) :: st) M) : WP x L pc lo (.int b :: .int a :: st) M := by
  obtain ⟨p, l, e, R', s, m, args, below, meth, c, A, QQ, D, cs, ad, kc, ks⟩ := x
  obtain ⟨hR, hx, hb, hml, hown, hts, hnw, hlk, hA, hK, hnd, hkc, hks⟩ := X
  intro H locs ls hP hD hS hl
  exact lv_ixor hx hb hd (k H locs ls hP hD hS hl)
theorem wp_ishl {x : CT} {L : List Nat} {cc : ByteArray} {nL : Nat} {own : String} {R : Room} {pc : Nat} {lo : List (Option Value)} {st : List Value} {M : Mem} (X : BS x L cc nL own R) {a b : Int32} (hd : decode cc pc = .ok (.ishl, 1))  (k : WP x L (pc + 1) lo (.int (a <<< (b &&& 31)) :: st) M) : WP x L pc lo (.int b :: .int a :: st) M := by
  obtain ⟨p, l, e, R', s, m, args, below, meth, c, A, QQ, D, cs, ad, kc, ks⟩ := x
  obtain ⟨hR, hx, hb, hml, hown, hts, hnw, hlk, hA, hK, hnd, hkc, hks⟩ := X
  intro H locs ls hP hD hS hl
  exact lv_ishl hx hb hd (k H locs ls hP hD hS hl)
theorem wp_ishr {x : CT} {L : List Nat} {cc : ByteArray} {nL : Nat} {own : String} {R : Room} {pc : Nat} {lo : List (Option Value)} {st : List Value} {M : Mem} (X : BS x L cc nL own R) {a b : Int32} (hd : decode cc pc = .ok (.ishr, 1))  (k : WP x L (pc + 1) lo (.int (a >>> (b &&& 31)) :: st) M) : WP x L pc lo (.int b :: .int a :: st) M := by
  obtain ⟨p, l, e, R', s, m, args, below, meth, c, A, QQ, D, cs, ad, kc, ks⟩ := x
  obtain ⟨hR, hx, hb, hml, hown, hts, hnw, hlk, hA, hK, hnd, hkc, hks⟩ := X
  intro H locs ls hP hD hS hl
  exact lv_ishr hx hb hd (k H locs ls hP hD hS hl)
theorem wp_irem {x : CT} {L : List Nat} {cc : ByteArray} {nL : Nat} {own : String} {R : Room} {pc : Nat} {lo : List (Option Value)} {st : List Value} {M : Mem} (X : BS x L cc nL own R) {a b : Int32} (hd : decode cc pc = .ok (.irem, 1)) (hne : ¬ b = 0) (k : WP x L (pc + 1) lo (.int (a - a / b * b) :: st) M) : WP x L pc lo (.int b :: .int a :: st) M := by
  obtain ⟨p, l, e, R', s, m, args, below, meth, c, A, QQ, D, cs, ad, kc, ks⟩ := x
  obtain ⟨hR, hx, hb, hml, hown, hts, hnw, hlk, hA, hK, hnd, hkc, hks⟩ := X
  intro H locs ls hP hD hS hl
  exact lv_irem hx hb hd hne (k H locs ls hP hD hS hl)
theorem wp_iushr {x : CT} {L : List Nat} {cc : ByteArray} {nL : Nat} {own : String} {R : Room} {pc : Nat} {lo : List (Option Value)} {st : List Value} {M : Mem} (X : BS x L cc nL own R) {a b : Int32} (hd : decode cc pc = .ok (.iushr, 1))  (k : WP x L (pc + 1) lo (.int (a.toUInt32 >>> (b.toUInt32 &&& Int32.toUInt32 31)).toInt32 :: st) M) : WP x L pc lo (.int b :: .int a :: st) M := by
  obtain ⟨p, l, e, R', s, m, args, below, meth, c, A, QQ, D, cs, ad, kc, ks⟩ := x
  obtain ⟨hR, hx, hb, hml, hown, hts, hnw, hlk, hA, hK, hnd, hkc, hks⟩ := X
  intro H locs ls hP hD hS hl
  exact lv_iushr hx hb hd rfl (k H locs ls hP hD hS hl)
theorem wp_ladd {x : CT} {L : List Nat} {cc : ByteArray} {nL : Nat} {own : String} {R : Room} {pc : Nat} {lo : List (Option Value)} {st : List Value} {M : Mem} (X : BS x L cc nL own R) {a b : Int64} (hd : decode cc pc = .ok (.ladd, 1))  (k : WP x L (pc + 1) lo (.long (a + b) :: st) M) : WP x L pc lo (.long b :: .long a :: st) M := by
  obtain ⟨p, l, e, R', s, m, args, below, meth, c, A, QQ, D, cs, ad, kc, ks⟩ := x
  obtain ⟨hR, hx, hb, hml, hown, hts, hnw, hlk, hA, hK, hnd, hkc, hks⟩ := X
  intro H locs ls hP hD hS hl
  exact lv_ladd hx hb hd (k H locs ls hP hD hS hl)
theorem wp_lmul {x : CT} {L : List Nat} {cc : ByteArray} {nL : Nat} {own : String} {R : Room} {pc : Nat} {lo : List (Option Value)} {st : List Value} {M : Mem} (X : BS x L cc nL own R) {a b : Int64} (hd : decode cc pc = .ok (.lmul, 1))  (k : WP x L (pc + 1) lo (.long (a * b) :: st) M) : WP x L pc lo (.long b :: .long a :: st) M := by
  obtain ⟨p, l, e, R', s, m, args, below, meth, c, A, QQ, D, cs, ad, kc, ks⟩ := x
  obtain ⟨hR, hx, hb, hml, hown, hts, hnw, hlk, hA, hK, hnd, hkc, hks⟩ := X
  intro H locs ls hP hD hS hl
  exact lv_lmul hx hb hd (k H locs ls hP hD hS hl)
theorem wp_lrem {x : CT} {L : List Nat} {cc : ByteArray} {nL : Nat} {own : String} {R : Room} {pc : Nat} {lo : List (Option Value)} {st : List Value} {M : Mem} (X : BS x L cc nL own R) {a b : Int64} (hd : decode cc pc = .ok (.lrem, 1)) (hne : ¬ b = 0) (k : WP x L (pc + 1) lo (.long (a - a / b * b) :: st) M) : WP x L pc lo (.long b :: .long a :: st) M := by
  obtain ⟨p, l, e, R', s, m, args, below, meth, c, A, QQ, D, cs, ad, kc, ks⟩ := x
  obtain ⟨hR, hx, hb, hml, hown, hts, hnw, hlk, hA, hK, hnd, hkc, hks⟩ := X
  intro H locs ls hP hD hS hl
  exact lv_lrem hx hb hd hne (k H locs ls hP hD hS hl)
theorem wp_lcmp {x : CT} {L : List Nat} {cc : ByteArray} {nL : Nat} {own : String} {R : Room} {pc : Nat} {lo : List (Option Value)} {st : List Value} {M : Mem} (X : BS x L cc nL own R) {a b : Int64} (hd : decode cc pc = .ok (.lcmp, 1))  (k : WP x L (pc + 1) lo (.int (lg_cmp a b) :: st) M) : WP x L pc lo (.long b :: .long a :: st) M := by
  obtain ⟨p, l, e, R', s, m, args, below, meth, c, A, QQ, D, cs, ad, kc, ks⟩ := x
  obtain ⟨hR, hx, hb, hml, hown, hts, hnw, hlk, hA, hK, hnd, hkc, hks⟩ := X
  intro H locs ls hP hD hS hl
  exact W.lcmp hx hb hd (k H locs ls hP hD hS hl)
theorem wp_i2l {x : CT} {L : List Nat} {cc : ByteArray} {nL : Nat} {own : String} {R : Room} {pc : Nat} {lo : List (Option Value)} {st : List Value} {M : Mem} (X : BS x L cc nL own R) {a : Int32} (hd : decode cc pc = .ok (.i2l, 1))  (k : WP x L (pc + 1) lo (.long a.toInt64 :: st) M) : WP x L pc lo (.int a :: st) M := by
  obtain ⟨p, l, e, R', s, m, args, below, meth, c, A, QQ, D, cs, ad, kc, ks⟩ := x
  obtain ⟨hR, hx, hb, hml, hown, hts, hnw, hlk, hA, hK, hnd, hkc, hks⟩ := X
  intro H locs ls hP hD hS hl
  exact lv_i2l hx hb hd rfl (k H locs ls hP hD hS hl)
theorem wp_i2f {x : CT} {L : List Nat} {cc : ByteArray} {nL : Nat} {own : String} {R : Room} {pc : Nat} {lo : List (Option Value)} {st : List Value} {M : Mem} (X : BS x L cc nL own R) {a : Int32} (hd : decode cc pc = .ok (.i2f, 1))  (k : WP x L (pc + 1) lo (.float (FP.i2f a) :: st) M) : WP x L pc lo (.int a :: st) M := by
  obtain ⟨p, l, e, R', s, m, args, below, meth, c, A, QQ, D, cs, ad, kc, ks⟩ := x
  obtain ⟨hR, hx, hb, hml, hown, hts, hnw, hlk, hA, hK, hnd, hkc, hks⟩ := X
  intro H locs ls hP hD hS hl
  exact lv_i2f hx hb hd (k H locs ls hP hD hS hl)
theorem wp_f2i {x : CT} {L : List Nat} {cc : ByteArray} {nL : Nat} {own : String} {R : Room} {pc : Nat} {lo : List (Option Value)} {st : List Value} {M : Mem} (X : BS x L cc nL own R) {a : UInt32} (hd : decode cc pc = .ok (.f2i, 1))  (k : WP x L (pc + 1) lo (.int (FP.f2i a) :: st) M) : WP x L pc lo (.float a :: st) M := by
  obtain ⟨p, l, e, R', s, m, args, below, meth, c, A, QQ, D, cs, ad, kc, ks⟩ := x
  obtain ⟨hR, hx, hb, hml, hown, hts, hnw, hlk, hA, hK, hnd, hkc, hks⟩ := X
  intro H locs ls hP hD hS hl
  exact lv_f2i hx hb hd (k H locs ls hP hD hS hl)
theorem wp_fdiv {x : CT} {L : List Nat} {cc : ByteArray} {nL : Nat} {own : String} {R : Room} {pc : Nat} {lo : List (Option Value)} {st : List Value} {M : Mem} (X : BS x L cc nL own R) {a b : UInt32} (hd : decode cc pc = .ok (.fdiv, 1)) (hne : vf_n32 (FP.fdiv a b)) (k : WP x L (pc + 1) lo (.float (FP.fdiv a b) :: st) M) : WP x L pc lo (.float b :: .float a :: st) M := by
  obtain ⟨p, l, e, R', s, m, args, below, meth, c, A, QQ, D, cs, ad, kc, ks⟩ := x
  obtain ⟨hR, hx, hb, hml, hown, hts, hnw, hlk, hA, hK, hnd, hkc, hks⟩ := X
  intro H locs ls hP hD hS hl
  exact lv_fdiv hx hb hd hne (k H locs ls hP hD hS hl)
theorem wp_fmul {x : CT} {L : List Nat} {cc : ByteArray} {nL : Nat} {own : String} {R : Room} {pc : Nat} {lo : List (Option Value)} {st : List Value} {M : Mem} (X : BS x L cc nL own R) {a b : UInt32} (hd : decode cc pc = .ok (.fmul, 1)) (hne : vf_n32 (FP.fmul a b)) (k : WP x L (pc + 1) lo (.float (FP.fmul a b) :: st) M) : WP x L pc lo (.float b :: .float a :: st) M := by
  obtain ⟨p, l, e, R', s, m, args, below, meth, c, A, QQ, D, cs, ad, kc, ks⟩ := x
  obtain ⟨hR, hx, hb, hml, hown, hts, hnw, hlk, hA, hK, hnd, hkc, hks⟩ := X
  intro H locs ls hP hD hS hl
  exact lv_fmul hx hb hd hne (k H locs ls hP hD hS hl)
theorem wp_fsub {x : CT} {L : List Nat} {cc : ByteArray} {nL : Nat} {own : String} {R : Room} {pc : Nat} {lo : List (Option Value)} {st : List Value} {M : Mem} (X : BS x L cc nL own R) {a b : UInt32} (hd : decode cc pc = .ok (.fsub, 1)) (hne : vf_n32 (FP.fsub a b)) (k : WP x L (pc + 1) lo (.float (FP.fsub a b) :: st) M) : WP x L pc lo (.float b :: .float a :: st) M := by
  obtain ⟨p, l, e, R', s, m, args, below, meth, c, A, QQ, D, cs, ad, kc, ks⟩ := x
  obtain ⟨hR, hx, hb, hml, hown, hts, hnw, hlk, hA, hK, hnd, hkc, hks⟩ := X
  intro H locs ls hP hD hS hl
  exact lv_fsub hx hb hd hne (k H locs ls hP hD hS hl)
theorem wp_fcmp {x : CT} {L : List Nat} {cc : ByteArray} {nL : Nat} {own : String} {R : Room} {pc : Nat} {lo : List (Option Value)} {st : List Value} {M : Mem} (X : BS x L cc nL own R) {a b : UInt32} {op : CmpOp} (hd : decode cc pc = .ok (.fcmp op, 1))  (k : WP x L (pc + 1) lo (.int (Op.cmpValue (FP.fcmp a b) op) :: st) M) : WP x L pc lo (.float b :: .float a :: st) M := by
  obtain ⟨p, l, e, R', s, m, args, below, meth, c, A, QQ, D, cs, ad, kc, ks⟩ := x
  obtain ⟨hR, hx, hb, hml, hown, hts, hnw, hlk, hA, hK, hnd, hkc, hks⟩ := X
  intro H locs ls hP hD hS hl
  exact lv_fcmp hx hb hd (k H locs ls hP hD hS hl)
theorem wp_fconst0 {x : CT} {L : List Nat} {cc : ByteArray} {nL : Nat} {own : String} {R : Room} {pc : Nat} {lo : List (Option Value)} {st : List Value} {M : Mem} (X : BS x L cc nL own R)  (hd : decode cc pc = .ok (.fconst 0, 1))  (k : WP x L (pc + 1) lo (.float FP.fconst0 :: st) M) : WP x L pc lo (st) M := by
  obtain ⟨p, l, e, R', s, m, args, below, meth, c, A, QQ, D, cs, ad, kc, ks⟩ := x
  obtain ⟨hR, hx, hb, hml, hown, hts, hnw, hlk, hA, hK, hnd, hkc, hks⟩ := X
  intro H locs ls hP hD hS hl
  exact lv_fconst0 hx hb hd (k H locs ls hP hD hS hl)
theorem wp_fconst1 {x : CT} {L : List Nat} {cc : ByteArray} {nL : Nat} {own : String} {R : Room} {pc : Nat} {lo : List (Option Value)} {st : List Value} {M : Mem} (X : BS x L cc nL own R)  (hd : decode cc pc = .ok (.fconst 1, 1))  (k : WP x L (pc + 1) lo (.float FP.fconst1 :: st) M) : WP x L pc lo (st) M := by
  obtain ⟨p, l, e, R', s, m, args, below, meth, c, A, QQ, D, cs, ad, kc, ks⟩ := x
  obtain ⟨hR, hx, hb, hml, hown, hts, hnw, hlk, hA, hK, hnd, hkc, hks⟩ := X
  intro H locs ls hP hD hS hl
  exact lv_fconst1 hx hb hd (k H locs ls hP hD hS hl)
theorem wp_fconst2 {x : CT} {L : List Nat} {cc : ByteArray} {nL : Nat} {own : String} {R : Room} {pc : Nat} {lo : List (Option Value)} {st : List Value} {M : Mem} (X : BS x L cc nL own R)  (hd : decode cc pc = .ok (.fconst 2, 1))  (k : WP x L (pc + 1) lo (.float FP.fconst2 :: st) M) : WP x L pc lo (st) M := by
  obtain ⟨p, l, e, R', s, m, args, below, meth, c, A, QQ, D, cs, ad, kc, ks⟩ := x
  obtain ⟨hR, hx, hb, hml, hown, hts, hnw, hlk, hA, hK, hnd, hkc, hks⟩ := X
  intro H locs ls hP hD hS hl
  exact lv_fconst2 hx hb hd (k H locs ls hP hD hS hl)
theorem wp_dup {x : CT} {L : List Nat} {cc : ByteArray} {nL : Nat} {own : String} {R : Room} {pc : Nat} {lo : List (Option Value)} {st : List Value} {M : Mem} (X : BS x L cc nL own R) {va : Value} (hd : decode cc pc = .ok (.dup, 1)) (hva : va.category = 1) (k : WP x L (pc + 1) lo (va :: va :: st) M) : WP x L pc lo (va :: st) M := by
  obtain ⟨p, l, e, R', s, m, args, below, meth, c, A, QQ, D, cs, ad, kc, ks⟩ := x
  obtain ⟨hR, hx, hb, hml, hown, hts, hnw, hlk, hA, hK, hnd, hkc, hks⟩ := X
  intro H locs ls hP hD hS hl
  exact lv_dup hx hb hd (by rw [CV_cat]; exact hva) (k H locs ls hP hD hS hl)
theorem wp_pop {x : CT} {L : List Nat} {cc : ByteArray} {nL : Nat} {own : String} {R : Room} {pc : Nat} {lo : List (Option Value)} {st : List Value} {M : Mem} (X : BS x L cc nL own R) {va : Value} (hd : decode cc pc = .ok (.pop, 1)) (hva : va.category = 1) (k : WP x L (pc + 1) lo (st) M) : WP x L pc lo (va :: st) M := by
  obtain ⟨p, l, e, R', s, m, args, below, meth, c, A, QQ, D, cs, ad, kc, ks⟩ := x
  obtain ⟨hR, hx, hb, hml, hown, hts, hnw, hlk, hA, hK, hnd, hkc, hks⟩ := X
  intro H locs ls hP hD hS hl
  exact lv_pop hx hb hd (by rw [CV_cat]; exact hva) (k H locs ls hP hD hS hl)
theorem wp_dup2 {x : CT} {L : List Nat} {cc : ByteArray} {nL : Nat} {own : String} {R : Room} {pc : Nat} {lo : List (Option Value)} {st : List Value} {M : Mem} (X : BS x L cc nL own R) {va vb : Value} (hd : decode cc pc = .ok (.dup2, 1)) (hva : va.category = 1) (hvb : vb.category = 1) (k : WP x L (pc + 1) lo (va :: vb :: va :: vb :: st) M) : WP x L pc lo (va :: vb :: st) M := by
  obtain ⟨p, l, e, R', s, m, args, below, meth, c, A, QQ, D, cs, ad, kc, ks⟩ := x
  obtain ⟨hR, hx, hb, hml, hown, hts, hnw, hlk, hA, hK, hnd, hkc, hks⟩ := X
  intro H locs ls hP hD hS hl
  exact lv_dup2_11 hx hb hd (by rw [CV_cat]; exact hva) (by rw [CV_cat]; exact hvb) (k H locs ls hP hD hS hl)
theorem wp_ldc {x : CT} {L : List Nat} {cc : ByteArray} {nL : Nat} {own : String} {R : Room} {pc : Nat} {lo : List (Option Value)} {st : List Value} {M : Mem} (X : BS x L cc nL own R) {idx : Nat} {v : Int32} (hd : decode cc pc = .ok (.ldc idx, 2)) (hw : Cond.constant own idx v ∈ wd_G) (k : WP x L (pc + 2) lo (.int v :: st) M) : WP x L pc lo (st) M := by
  obtain ⟨p, l, e, R', s, m, args, below, meth, c, A, QQ, D, cs, ad, kc, ks⟩ := x
  obtain ⟨hR, hx, hb, hml, hown, hts, hnw, hlk, hA, hK, hnd, hkc, hks⟩ := X
  intro H locs ls hP hD hS hl
  exact lv_ldc hx hb hown (hts _ hw) hd (k H locs ls hP hD hS hl)
theorem wp_ldcw {x : CT} {L : List Nat} {cc : ByteArray} {nL : Nat} {own : String} {R : Room} {pc : Nat} {lo : List (Option Value)} {st : List Value} {M : Mem} (X : BS x L cc nL own R) {idx : Nat} {v : Int32} (hd : decode cc pc = .ok (.ldc_w idx, 3)) (hw : Cond.constant own idx v ∈ wd_G) (k : WP x L (pc + 3) lo (.int v :: st) M) : WP x L pc lo (st) M := by
  obtain ⟨p, l, e, R', s, m, args, below, meth, c, A, QQ, D, cs, ad, kc, ks⟩ := x
  obtain ⟨hR, hx, hb, hml, hown, hts, hnw, hlk, hA, hK, hnd, hkc, hks⟩ := X
  intro H locs ls hP hD hS hl
  exact lv_ldcw hx hb hown (hts _ hw) hd (k H locs ls hP hD hS hl)
theorem wp_ldcf {x : CT} {L : List Nat} {cc : ByteArray} {nL : Nat} {own : String} {R : Room} {pc : Nat} {lo : List (Option Value)} {st : List Value} {M : Mem} (X : BS x L cc nL own R) {idx : Nat} {v : UInt32} (hd : decode cc pc = .ok (.ldc idx, 2)) (hw : Cond.constantFloat own idx v ∈ wd_G) (k : WP x L (pc + 2) lo (.float v :: st) M) : WP x L pc lo (st) M := by
  obtain ⟨p, l, e, R', s, m, args, below, meth, c, A, QQ, D, cs, ad, kc, ks⟩ := x
  obtain ⟨hR, hx, hb, hml, hown, hts, hnw, hlk, hA, hK, hnd, hkc, hks⟩ := X
  intro H locs ls hP hD hS hl
  exact lv_ldcf hx hb hown (hts _ hw) hd (k H locs ls hP hD hS hl)
theorem wp_ldc2 {x : CT} {L : List Nat} {cc : ByteArray} {nL : Nat} {own : String} {R : Room} {pc : Nat} {lo : List (Option Value)} {st : List Value} {M : Mem} (X : BS x L cc nL own R) {idx : Nat} {v : Int64} (hd : decode cc pc = .ok (.ldc2_w idx, 3)) (hw : Cond.constantLong own idx v ∈ wd_G) (k : WP x L (pc + 3) lo (.long v :: st) M) : WP x L pc lo (st) M := by
  obtain ⟨p, l, e, R', s, m, args, below, meth, c, A, QQ, D, cs, ad, kc, ks⟩ := x
  obtain ⟨hR, hx, hb, hml, hown, hts, hnw, hlk, hA, hK, hnd, hkc, hks⟩ := X
  intro H locs ls hP hD hS hl
  exact lv_ldc2 hx hb hown (hts _ hw) hd (k H locs ls hP hD hS hl)
theorem wp_istore_n {x : CT} {L : List Nat} {cc : ByteArray} {nL : Nat} {own : String} {R : Room} {pc : Nat} {lo : List (Option Value)} {st : List Value} {M : Mem} (X : BS x L cc nL own R) {k4 : Fin 4} {i : Nat} {v : Int32} {lo' : List (Option Value)} (hd : decode cc pc = .ok (.istore_n k4, 1)) (hi : (k4 : Nat) = i) (hi2 : i < lo.length) (hn : noL lo i = true) (he : lo.set i (some (.int v)) = lo') (k : WP x L (pc + 1) lo' st M) : WP x L pc lo (.int v :: st) M := by
  obtain ⟨p, l, e, R', s, m, args, below, meth, c, A, QQ, D, cs, ad, kc, ks⟩ := x
  obtain ⟨hR, hx, hb, hml, hown, hts, hnw, hlk, hA, hK, hnd, hkc, hks⟩ := X
  intro H locs ls hP hD hS hl
  exact lv_istore_n hx hb hd hi hl hi2 rfl (fun ls' hl' => k H locs ls' hP hD hS (LO_st1 he hn hl'))
theorem wp_istore {x : CT} {L : List Nat} {cc : ByteArray} {nL : Nat} {own : String} {R : Room} {pc : Nat} {lo : List (Option Value)} {st : List Value} {M : Mem} (X : BS x L cc nL own R) {i : Nat} {v : Int32} {lo' : List (Option Value)} (hd : decode cc pc = .ok (.istore i, 2)) (hi2 : i < lo.length) (hn : noL lo i = true) (he : lo.set i (some (.int v)) = lo') (k : WP x L (pc + 2) lo' st M) : WP x L pc lo (.int v :: st) M := by
  obtain ⟨p, l, e, R', s, m, args, below, meth, c, A, QQ, D, cs, ad, kc, ks⟩ := x
  obtain ⟨hR, hx, hb, hml, hown, hts, hnw, hlk, hA, hK, hnd, hkc, hks⟩ := X
  intro H locs ls hP hD hS hl
  exact lv_istore hx hb hd hl hi2 rfl (fun ls' hl' => k H locs ls' hP hD hS (LO_st1 he hn hl'))
theorem wp_fstore_n {x : CT} {L : List Nat} {cc : ByteArray} {nL : Nat} {own : String} {R : Room} {pc : Nat} {lo : List (Option Value)} {st : List Value} {M : Mem} (X : BS x L cc nL own R) {k4 : Fin 4} {i : Nat} {v : UInt32} {lo' : List (Option Value)} (hd : decode cc pc = .ok (.fstore_n k4, 1)) (hi : (k4 : Nat) = i) (hi2 : i < lo.length) (hn : noL lo i = true) (he : lo.set i (some (.float v)) = lo') (k : WP x L (pc + 1) lo' st M) : WP x L pc lo (.float v :: st) M := by
  obtain ⟨p, l, e, R', s, m, args, below, meth, c, A, QQ, D, cs, ad, kc, ks⟩ := x
  obtain ⟨hR, hx, hb, hml, hown, hts, hnw, hlk, hA, hK, hnd, hkc, hks⟩ := X
  intro H locs ls hP hD hS hl
  exact lv_fstore_n hx hb hd hi hl hi2 rfl (fun ls' hl' => k H locs ls' hP hD hS (LO_st1 he hn hl'))
theorem wp_fstore {x : CT} {L : List Nat} {cc : ByteArray} {nL : Nat} {own : String} {R : Room} {pc : Nat} {lo : List (Option Value)} {st : List Value} {M : Mem} (X : BS x L cc nL own R) {i : Nat} {v : UInt32} {lo' : List (Option Value)} (hd : decode cc pc = .ok (.fstore i, 2)) (hi2 : i < lo.length) (hn : noL lo i = true) (he : lo.set i (some (.float v)) = lo') (k : WP x L (pc + 2) lo' st M) : WP x L pc lo (.float v :: st) M := by
  obtain ⟨p, l, e, R', s, m, args, below, meth, c, A, QQ, D, cs, ad, kc, ks⟩ := x
  obtain ⟨hR, hx, hb, hml, hown, hts, hnw, hlk, hA, hK, hnd, hkc, hks⟩ := X
  intro H locs ls hP hD hS hl
  exact lv_fstore hx hb hd hl hi2 rfl (fun ls' hl' => k H locs ls' hP hD hS (LO_st1 he hn hl'))
theorem wp_astore_n {x : CT} {L : List Nat} {cc : ByteArray} {nL : Nat} {own : String} {R : Room} {pc : Nat} {lo : List (Option Value)} {st : List Value} {M : Mem} (X : BS x L cc nL own R) {k4 : Fin 4} {i : Nat} {v : Nat} {lo' : List (Option Value)} (hd : decode cc pc = .ok (.astore_n k4, 1)) (hi : (k4 : Nat) = i) (hi2 : i < lo.length) (hn : noL lo i = true) (he : lo.set i (some (.ref v)) = lo') (k : WP x L (pc + 1) lo' st M) : WP x L pc lo (.ref v :: st) M := by
  obtain ⟨p, l, e, R', s, m, args, below, meth, c, A, QQ, D, cs, ad, kc, ks⟩ := x
  obtain ⟨hR, hx, hb, hml, hown, hts, hnw, hlk, hA, hK, hnd, hkc, hks⟩ := X
  intro H locs ls hP hD hS hl
  exact lv_astore_n hx hb hd hi hl hi2 rfl (fun ls' hl' => k H locs ls' hP hD hS (LO_st1 he hn hl'))
theorem wp_astore {x : CT} {L : List Nat} {cc : ByteArray} {nL : Nat} {own : String} {R : Room} {pc : Nat} {lo : List (Option Value)} {st : List Value} {M : Mem} (X : BS x L cc nL own R) {i : Nat} {v : Nat} {lo' : List (Option Value)} (hd : decode cc pc = .ok (.astore i, 2)) (hi2 : i < lo.length) (hn : noL lo i = true) (he : lo.set i (some (.ref v)) = lo') (k : WP x L (pc + 2) lo' st M) : WP x L pc lo (.ref v :: st) M := by
  obtain ⟨p, l, e, R', s, m, args, below, meth, c, A, QQ, D, cs, ad, kc, ks⟩ := x
  obtain ⟨hR, hx, hb, hml, hown, hts, hnw, hlk, hA, hK, hnd, hkc, hks⟩ := X
  intro H locs ls hP hD hS hl
  exact lv_astore hx hb hd hl hi2 rfl (fun ls' hl' => k H locs ls' hP hD hS (LO_st1 he hn hl'))
theorem wp_lstore_n {x : CT} {L : List Nat} {cc : ByteArray} {nL : Nat} {own : String} {R : Room} {pc : Nat} {lo : List (Option Value)} {st : List Value} {M : Mem} (X : BS x L cc nL own R) {k4 : Fin 4} {i : Nat} {v : Int64} {lo' : List (Option Value)} (hd : decode cc pc = .ok (.lstore_n k4, 1)) (hi : (k4 : Nat) = i) (hi2 : i + 1 < lo.length) (hn : noL lo i = true) (he : (lo.set i (some (.long v))).set (i + 1) none = lo') (k : WP x L (pc + 1) lo' st M) : WP x L pc lo (.long v :: st) M := by
  obtain ⟨p, l, e, R', s, m, args, below, meth, c, A, QQ, D, cs, ad, kc, ks⟩ := x
  obtain ⟨hR, hx, hb, hml, hown, hts, hnw, hlk, hA, hK, hnd, hkc, hks⟩ := X
  intro H locs ls hP hD hS hl
  exact lv_lstore_n hx hb hd hi hl hi2 rfl (fun ls' hl' => k H locs ls' hP hD hS (LO_st2 he hn hl'))
theorem wp_iinc {x : CT} {L : List Nat} {cc : ByteArray} {nL : Nat} {own : String} {R : Room} {pc : Nat} {lo : List (Option Value)} {st : List Value} {M : Mem} (X : BS x L cc nL own R) {i : Nat} {n : Int} {a v : Int32} {lo' : List (Option Value)} (hd : decode cc pc = .ok (.iinc i n, 3)) (ha : lo[i]? = some (some (.int a))) (hv : a + Int32.ofInt n = v) (hn : noL lo i = true) (he : lo.set i (some (.int v)) = lo') (k : WP x L (pc + 3) lo' st M) : WP x L pc lo st M := by
  obtain ⟨p, l, e, R', s, m, args, below, meth, c, A, QQ, D, cs, ad, kc, ks⟩ := x
  obtain ⟨hR, hx, hb, hml, hown, hts, hnw, hlk, hA, hK, hnd, hkc, hks⟩ := X
  intro H locs ls hP hD hS hl
  obtain ⟨q, hq⟩ := List.getElem?_of_mem (lvl_mem (ad := ad) (lo := lo) (q := (i, .int a)).mpr ⟨_, ha, rfl⟩)
  exact lv_iinc hx hb hd hl hq hv (List.getElem?_eq_some_iff.mp ha).1 rfl (fun ls' hl' => k H locs ls' hP hD hS (LO_st1 he hn hl'))
theorem wp_icmp_eq {x : CT} {L : List Nat} {cc : ByteArray} {nL : Nat} {own : String} {R : Room} {pc : Nat} {lo : List (Option Value)} {st : List Value} {M : Mem} (X : BS x L cc nL own R) {a b : Int32} {off : Int} {tgt : Nat} (hd : decode cc pc = .ok (.if_icmp .eq off, 3)) (ht : (pc : Int) + off = (tgt : Int)) (kt : a = b → WP x L tgt lo st M) (kf : ¬ a = b → WP x L (pc + 3) lo st M) : WP x L pc lo (.int b :: .int a :: st) M := by
  obtain ⟨p, l, e, R', s, m, args, below, meth, c, A, QQ, D, cs, ad, kc, ks⟩ := x
  obtain ⟨hR, hx, hb, hml, hown, hts, hnw, hlk, hA, hK, hnd, hkc, hks⟩ := X
  intro H locs ls hP hD hS hl
  exact lv_icmp_eq hx hb hd ht (fun h => kt h H locs ls hP hD hS hl) (fun h => kf h H locs ls hP hD hS hl)
theorem wp_if_eq {x : CT} {L : List Nat} {cc : ByteArray} {nL : Nat} {own : String} {R : Room} {pc : Nat} {lo : List (Option Value)} {st : List Value} {M : Mem} (X : BS x L cc nL own R) {a : Int32} {off : Int} {tgt : Nat} (hd : decode cc pc = .ok (.ifCond .eq off, 3)) (ht : (pc : Int) + off = (tgt : Int)) (kt : a = 0 → WP x L tgt lo st M) (kf : ¬ a = 0 → WP x L (pc + 3) lo st M) : WP x L pc lo (.int a :: st) M := by
  obtain ⟨p, l, e, R', s, m, args, below, meth, c, A, QQ, D, cs, ad, kc, ks⟩ := x
  obtain ⟨hR, hx, hb, hml, hown, hts, hnw, hlk, hA, hK, hnd, hkc, hks⟩ := X
  intro H locs ls hP hD hS hl
  exact lv_if_eq hx hb hd ht (fun h => kt h H locs ls hP hD hS hl) (fun h => kf h H locs ls hP hD hS hl)
theorem wp_icmp_ne {x : CT} {L : List Nat} {cc : ByteArray} {nL : Nat} {own : String} {R : Room} {pc : Nat} {lo : List (Option Value)} {st : List Value} {M : Mem} (X : BS x L cc nL own R) {a b : Int32} {off : Int} {tgt : Nat} (hd : decode cc pc = .ok (.if_icmp .ne off, 3)) (ht : (pc : Int) + off = (tgt : Int)) (kt : ¬ a = b → WP x L tgt lo st M) (kf : a = b → WP x L (pc + 3) lo st M) : WP x L pc lo (.int b :: .int a :: st) M := by
  obtain ⟨p, l, e, R', s, m, args, below, meth, c, A, QQ, D, cs, ad, kc, ks⟩ := x
  obtain ⟨hR, hx, hb, hml, hown, hts, hnw, hlk, hA, hK, hnd, hkc, hks⟩ := X
  intro H locs ls hP hD hS hl
  exact lv_icmp_ne hx hb hd ht (fun h => kt h H locs ls hP hD hS hl) (fun h => kf h H locs ls hP hD hS hl)
theorem wp_if_ne {x : CT} {L : List Nat} {cc : ByteArray} {nL : Nat} {own : String} {R : Room} {pc : Nat} {lo : List (Option Value)} {st : List Value} {M : Mem} (X : BS x L cc nL own R) {a : Int32} {off : Int} {tgt : Nat} (hd : decode cc pc = .ok (.ifCond .ne off, 3)) (ht : (pc : Int) + off = (tgt : Int)) (kt : ¬ a = 0 → WP x L tgt lo st M) (kf : a = 0 → WP x L (pc + 3) lo st M) : WP x L pc lo (.int a :: st) M := by
  obtain ⟨p, l, e, R', s, m, args, below, meth, c, A, QQ, D, cs, ad, kc, ks⟩ := x
  obtain ⟨hR, hx, hb, hml, hown, hts, hnw, hlk, hA, hK, hnd, hkc, hks⟩ := X
  intro H locs ls hP hD hS hl
  exact lv_if_ne hx hb hd ht (fun h => kt h H locs ls hP hD hS hl) (fun h => kf h H locs ls hP hD hS hl)
theorem wp_icmp_lt {x : CT} {L : List Nat} {cc : ByteArray} {nL : Nat} {own : String} {R : Room} {pc : Nat} {lo : List (Option Value)} {st : List Value} {M : Mem} (X : BS x L cc nL own R) {a b : Int32} {off : Int} {tgt : Nat} (hd : decode cc pc = .ok (.if_icmp .lt off, 3)) (ht : (pc : Int) + off = (tgt : Int)) (kt : a < b → WP x L tgt lo st M) (kf : ¬ a < b → WP x L (pc + 3) lo st M) : WP x L pc lo (.int b :: .int a :: st) M := by
  obtain ⟨p, l, e, R', s, m, args, below, meth, c, A, QQ, D, cs, ad, kc, ks⟩ := x
  obtain ⟨hR, hx, hb, hml, hown, hts, hnw, hlk, hA, hK, hnd, hkc, hks⟩ := X
  intro H locs ls hP hD hS hl
  exact lv_icmp_lt hx hb hd ht (fun h => kt h H locs ls hP hD hS hl) (fun h => kf h H locs ls hP hD hS hl)
theorem wp_if_lt {x : CT} {L : List Nat} {cc : ByteArray} {nL : Nat} {own : String} {R : Room} {pc : Nat} {lo : List (Option Value)} {st : List Value} {M : Mem} (X : BS x L cc nL own R) {a : Int32} {off : Int} {tgt : Nat} (hd : decode cc pc = .ok (.ifCond .lt off, 3)) (ht : (pc : Int) + off = (tgt : Int)) (kt : a < 0 → WP x L tgt lo st M) (kf : ¬ a < 0 → WP x L (pc + 3) lo st M) : WP x L pc lo (.int a :: st) M := by
  obtain ⟨p, l, e, R', s, m, args, below, meth, c, A, QQ, D, cs, ad, kc, ks⟩ := x
  obtain ⟨hR, hx, hb, hml, hown, hts, hnw, hlk, hA, hK, hnd, hkc, hks⟩ := X
  intro H locs ls hP hD hS hl
  exact lv_if_lt hx hb hd ht (fun h => kt h H locs ls hP hD hS hl) (fun h => kf h H locs ls hP hD hS hl)
theorem wp_icmp_ge {x : CT} {L : List Nat} {cc : ByteArray} {nL : Nat} {own : String} {R : Room} {pc : Nat} {lo : List (Option Value)} {st : List Value} {M : Mem} (X : BS x L cc nL own R) {a b : Int32} {off : Int} {tgt : Nat} (hd : decode cc pc = .ok (.if_icmp .ge off, 3)) (ht : (pc : Int) + off = (tgt : Int)) (kt : b ≤ a → WP x L tgt lo st M) (kf : ¬ b ≤ a → WP x L (pc + 3) lo st M) : WP x L pc lo (.int b :: .int a :: st) M := by
  obtain ⟨p, l, e, R', s, m, args, below, meth, c, A, QQ, D, cs, ad, kc, ks⟩ := x
  obtain ⟨hR, hx, hb, hml, hown, hts, hnw, hlk, hA, hK, hnd, hkc, hks⟩ := X
  intro H locs ls hP hD hS hl
  exact lv_icmp_ge hx hb hd ht (fun h => kt h H locs ls hP hD hS hl) (fun h => kf h H locs ls hP hD hS hl)
theorem wp_if_ge {x : CT} {L : List Nat} {cc : ByteArray} {nL : Nat} {own : String} {R : Room} {pc : Nat} {lo : List (Option Value)} {st : List Value} {M : Mem} (X : BS x L cc nL own R) {a : Int32} {off : Int} {tgt : Nat} (hd : decode cc pc = .ok (.ifCond .ge off, 3)) (ht : (pc : Int) + off = (tgt : Int)) (kt : 0 ≤ a → WP x L tgt lo st M) (kf : ¬ 0 ≤ a → WP x L (pc + 3) lo st M) : WP x L pc lo (.int a :: st) M := by
  obtain ⟨p, l, e, R', s, m, args, below, meth, c, A, QQ, D, cs, ad, kc, ks⟩ := x
  obtain ⟨hR, hx, hb, hml, hown, hts, hnw, hlk, hA, hK, hnd, hkc, hks⟩ := X
  intro H locs ls hP hD hS hl
  exact lv_if_ge hx hb hd ht (fun h => kt h H locs ls hP hD hS hl) (fun h => kf h H locs ls hP hD hS hl)
theorem wp_icmp_gt {x : CT} {L : List Nat} {cc : ByteArray} {nL : Nat} {own : String} {R : Room} {pc : Nat} {lo : List (Option Value)} {st : List Value} {M : Mem} (X : BS x L cc nL own R) {a b : Int32} {off : Int} {tgt : Nat} (hd : decode cc pc = .ok (.if_icmp .gt off, 3)) (ht : (pc : Int) + off = (tgt : Int)) (kt : b < a → WP x L tgt lo st M) (kf : ¬ b < a → WP x L (pc + 3) lo st M) : WP x L pc lo (.int b :: .int a :: st) M := by
  obtain ⟨p, l, e, R', s, m, args, below, meth, c, A, QQ, D, cs, ad, kc, ks⟩ := x
  obtain ⟨hR, hx, hb, hml, hown, hts, hnw, hlk, hA, hK, hnd, hkc, hks⟩ := X
  intro H locs ls hP hD hS hl
  exact lv_icmp_gt hx hb hd ht (fun h => kt h H locs ls hP hD hS hl) (fun h => kf h H locs ls hP hD hS hl)
theorem wp_if_gt {x : CT} {L : List Nat} {cc : ByteArray} {nL : Nat} {own : String} {R : Room} {pc : Nat} {lo : List (Option Value)} {st : List Value} {M : Mem} (X : BS x L cc nL own R) {a : Int32} {off : Int} {tgt : Nat} (hd : decode cc pc = .ok (.ifCond .gt off, 3)) (ht : (pc : Int) + off = (tgt : Int)) (kt : 0 < a → WP x L tgt lo st M) (kf : ¬ 0 < a → WP x L (pc + 3) lo st M) : WP x L pc lo (.int a :: st) M := by
  obtain ⟨p, l, e, R', s, m, args, below, meth, c, A, QQ, D, cs, ad, kc, ks⟩ := x
  obtain ⟨hR, hx, hb, hml, hown, hts, hnw, hlk, hA, hK, hnd, hkc, hks⟩ := X
  intro H locs ls hP hD hS hl
  exact lv_if_gt hx hb hd ht (fun h => kt h H locs ls hP hD hS hl) (fun h => kf h H locs ls hP hD hS hl)
theorem wp_icmp_le {x : CT} {L : List Nat} {cc : ByteArray} {nL : Nat} {own : String} {R : Room} {pc : Nat} {lo : List (Option Value)} {st : List Value} {M : Mem} (X : BS x L cc nL own R) {a b : Int32} {off : Int} {tgt : Nat} (hd : decode cc pc = .ok (.if_icmp .le off, 3)) (ht : (pc : Int) + off = (tgt : Int)) (kt : a ≤ b → WP x L tgt lo st M) (kf : ¬ a ≤ b → WP x L (pc + 3) lo st M) : WP x L pc lo (.int b :: .int a :: st) M := by
  obtain ⟨p, l, e, R', s, m, args, below, meth, c, A, QQ, D, cs, ad, kc, ks⟩ := x
  obtain ⟨hR, hx, hb, hml, hown, hts, hnw, hlk, hA, hK, hnd, hkc, hks⟩ := X
  intro H locs ls hP hD hS hl
  exact lv_icmp_le hx hb hd ht (fun h => kt h H locs ls hP hD hS hl) (fun h => kf h H locs ls hP hD hS hl)
theorem wp_if_le {x : CT} {L : List Nat} {cc : ByteArray} {nL : Nat} {own : String} {R : Room} {pc : Nat} {lo : List (Option Value)} {st : List Value} {M : Mem} (X : BS x L cc nL own R) {a : Int32} {off : Int} {tgt : Nat} (hd : decode cc pc = .ok (.ifCond .le off, 3)) (ht : (pc : Int) + off = (tgt : Int)) (kt : a ≤ 0 → WP x L tgt lo st M) (kf : ¬ a ≤ 0 → WP x L (pc + 3) lo st M) : WP x L pc lo (.int a :: st) M := by
  obtain ⟨p, l, e, R', s, m, args, below, meth, c, A, QQ, D, cs, ad, kc, ks⟩ := x
  obtain ⟨hR, hx, hb, hml, hown, hts, hnw, hlk, hA, hK, hnd, hkc, hks⟩ := X
  intro H locs ls hP hD hS hl
  exact lv_if_le hx hb hd ht (fun h => kt h H locs ls hP hD hS hl) (fun h => kf h H locs ls hP hD hS hl)
theorem wn_icmp_eq {x : CT} {L : List Nat} {cc : ByteArray} {nL : Nat} {own : String} {R : Room} {pc : Nat} {lo : List (Option Value)} {st : List Value} {M : Mem} (X : BS x L cc nL own R) {a b : Nat} {off : Int} {tgt : Nat} (hd : decode cc pc = .ok (.if_icmp .eq off, 3)) (ht : (pc : Int) + off = (tgt : Int)) (ha2 : a < 2 ^ 31) (hb2 : b < 2 ^ 31) (kt : a = b → WP x L tgt lo st M) (kf : ¬ a = b → WP x L (pc + 3) lo st M) : WP x L pc lo (.int (nI b) :: .int (nI a) :: st) M := wp_icmp_eq X hd ht (fun h => kt ((nI_eq ha2 hb2).mp h)) (fun h => kf (fun q => h ((nI_eq ha2 hb2).mpr q)))
theorem wn_icmp_ne {x : CT} {L : List Nat} {cc : ByteArray} {nL : Nat} {own : String} {R : Room} {pc : Nat} {lo : List (Option Value)} {st : List Value} {M : Mem} (X : BS x L cc nL own R) {a b : Nat} {off : Int} {tgt : Nat} (hd : decode cc pc = .ok (.if_icmp .ne off, 3)) (ht : (pc : Int) + off = (tgt : Int)) (ha2 : a < 2 ^ 31) (hb2 : b < 2 ^ 31) (kt : ¬ a = b → WP x L tgt lo st M) (kf : a = b → WP x L (pc + 3) lo st M) : WP x L pc lo (.int (nI b) :: .int (nI a) :: st) M := wp_icmp_ne X hd ht (fun h => kt (fun q => h ((nI_eq ha2 hb2).mpr q))) (fun h => kf ((nI_eq ha2 hb2).mp h))
theorem wn_icmp_lt {x : CT} {L : List Nat} {cc : ByteArray} {nL : Nat} {own : String} {R : Room} {pc : Nat} {lo : List (Option Value)} {st : List Value} {M : Mem} (X : BS x L cc nL own R) {a b : Nat} {off : Int} {tgt : Nat} (hd : decode cc pc = .ok (.if_icmp .lt off, 3)) (ht : (pc : Int) + off = (tgt : Int)) (ha2 : a < 2 ^ 31) (hb2 : b < 2 ^ 31) (kt : a < b → WP x L tgt lo st M) (kf : b ≤ a → WP x L (pc + 3) lo st M) : WP x L pc lo (.int (nI b) :: .int (nI a) :: st) M := wp_icmp_lt X hd ht (fun h => kt ((nI_ltI ha2 hb2).mp h)) (fun h => kf (Nat.not_lt.mp (fun q => h ((nI_ltI ha2 hb2).mpr q))))
theorem wn_icmp_ge {x : CT} {L : List Nat} {cc : ByteArray} {nL : Nat} {own : String} {R : Room} {pc : Nat} {lo : List (Option Value)} {st : List Value} {M : Mem} (X : BS x L cc nL own R) {a b : Nat} {off : Int} {tgt : Nat} (hd : decode cc pc = .ok (.if_icmp .ge off, 3)) (ht : (pc : Int) + off = (tgt : Int)) (ha2 : a < 2 ^ 31) (hb2 : b < 2 ^ 31) (kt : b ≤ a → WP x L tgt lo st M) (kf : a < b → WP x L (pc + 3) lo st M) : WP x L pc lo (.int (nI b) :: .int (nI a) :: st) M := wp_icmp_ge X hd ht (fun h => kt ((nI_leI hb2 ha2).mp h)) (fun h => kf (Nat.not_le.mp (fun q => h ((nI_leI hb2 ha2).mpr q))))
theorem wn_icmp_gt {x : CT} {L : List Nat} {cc : ByteArray} {nL : Nat} {own : String} {R : Room} {pc : Nat} {lo : List (Option Value)} {st : List Value} {M : Mem} (X : BS x L cc nL own R) {a b : Nat} {off : Int} {tgt : Nat} (hd : decode cc pc = .ok (.if_icmp .gt off, 3)) (ht : (pc : Int) + off = (tgt : Int)) (ha2 : a < 2 ^ 31) (hb2 : b < 2 ^ 31) (kt : b < a → WP x L tgt lo st M) (kf : a ≤ b → WP x L (pc + 3) lo st M) : WP x L pc lo (.int (nI b) :: .int (nI a) :: st) M := wp_icmp_gt X hd ht (fun h => kt ((nI_ltI hb2 ha2).mp h)) (fun h => kf (Nat.not_lt.mp (fun q => h ((nI_ltI hb2 ha2).mpr q))))
theorem wn_icmp_le {x : CT} {L : List Nat} {cc : ByteArray} {nL : Nat} {own : String} {R : Room} {pc : Nat} {lo : List (Option Value)} {st : List Value} {M : Mem} (X : BS x L cc nL own R) {a b : Nat} {off : Int} {tgt : Nat} (hd : decode cc pc = .ok (.if_icmp .le off, 3)) (ht : (pc : Int) + off = (tgt : Int)) (ha2 : a < 2 ^ 31) (hb2 : b < 2 ^ 31) (kt : a ≤ b → WP x L tgt lo st M) (kf : b < a → WP x L (pc + 3) lo st M) : WP x L pc lo (.int (nI b) :: .int (nI a) :: st) M := wp_icmp_le X hd ht (fun h => kt ((nI_leI ha2 hb2).mp h)) (fun h => kf (Nat.not_le.mp (fun q => h ((nI_leI ha2 hb2).mpr q))))
theorem wp_goto {x : CT} {L : List Nat} {cc : ByteArray} {nL : Nat} {own : String} {R : Room} {pc : Nat} {lo : List (Option Value)} {st : List Value} {M : Mem} (X : BS x L cc nL own R) {off : Int} {tgt : Nat} (hd : decode cc pc = .ok (.goto off, 3)) (ht : (pc : Int) + off = (tgt : Int)) (k : WP x L tgt lo st M) : WP x L pc lo st M := by
  obtain ⟨p, l, e, R', s, m, args, below, meth, c, A, QQ, D, cs, ad, kc, ks⟩ := x
  obtain ⟨hR, hx, hb, hml, hown, hts, hnw, hlk, hA, hK, hnd, hkc, hks⟩ := X
  intro H locs ls hP hD hS hl
  exact lv_goto hx hb hd ht (k H locs ls hP hD hS hl)
theorem wp_tabIn {x : CT} {L : List Nat} {cc : ByteArray} {nL : Nat} {own : String} {R : Room} {pc : Nat} {lo : List (Option Value)} {st : List Value} {M : Mem} (X : BS x L cc nL own R) {dflt l0 h0 : Int} {offs : Array Int} {len : Nat} {a : Int32} {off : Int} {tgt : Nat} (hd : decode cc pc = .ok (.tableswitch dflt l0 h0 offs, len)) (h1 : ¬ a.toInt < l0) (h2 : ¬ h0 < a.toInt) (ho : offs[(a.toInt - l0).toNat]? = some off) (ht : (pc : Int) + off = (tgt : Int)) (k : WP x L tgt lo st M) : WP x L pc lo (.int a :: st) M := by
  obtain ⟨p, l, e, R', s, m, args, below, meth, c, A, QQ, D, cs, ad, kc, ks⟩ := x
  obtain ⟨hR, hx, hb, hml, hown, hts, hnw, hlk, hA, hK, hnd, hkc, hks⟩ := X
  intro H locs ls hP hD hS hl
  exact lv_tableIn hx hb hd h1 h2 ho ht (k H locs ls hP hD hS hl)
theorem wp_tabOut {x : CT} {L : List Nat} {cc : ByteArray} {nL : Nat} {own : String} {R : Room} {pc : Nat} {lo : List (Option Value)} {st : List Value} {M : Mem} (X : BS x L cc nL own R) {dflt l0 h0 : Int} {offs : Array Int} {len : Nat} {a : Int32} {tgt : Nat} (hd : decode cc pc = .ok (.tableswitch dflt l0 h0 offs, len)) (h : a.toInt < l0 ∨ h0 < a.toInt) (ht : (pc : Int) + dflt = (tgt : Int)) (k : WP x L tgt lo st M) : WP x L pc lo (.int a :: st) M := by
  obtain ⟨p, l, e, R', s, m, args, below, meth, c, A, QQ, D, cs, ad, kc, ks⟩ := x
  obtain ⟨hR, hx, hb, hml, hown, hts, hnw, hlk, hA, hK, hnd, hkc, hks⟩ := X
  intro H locs ls hP hD hS hl
  exact lv_tableOut hx hb hd h ht (k H locs ls hP hD hS hl)
theorem wp_look {x : CT} {L : List Nat} {cc : ByteArray} {nL : Nat} {own : String} {R : Room} {pc : Nat} {lo : List (Option Value)} {st : List Value} {M : Mem} (X : BS x L cc nL own R) {dflt : Int} {ps : Array (Int × Int)} {len : Nat} {a : Int32} {off : Int} {tgt : Nat} (hd : decode cc pc = .ok (.lookupswitch dflt ps, len)) (hp : (ps.toList.zip (ps.toList.drop 1)).all (fun (a, next) => a.1 < next.1) = true) (ho : Op.lookupswitch.offset ps.toList dflt a.toInt = off) (ht : (pc : Int) + off = (tgt : Int)) (k : WP x L tgt lo st M) : WP x L pc lo (.int a :: st) M := by
  obtain ⟨p, l, e, R', s, m, args, below, meth, c, A, QQ, D, cs, ad, kc, ks⟩ := x
  obtain ⟨hR, hx, hb, hml, hown, hts, hnw, hlk, hA, hK, hnd, hkc, hks⟩ := X
  intro H locs ls hP hD hS hl
  exact lv_lookup hx hb hd hp ho ht (k H locs ls hP hD hS hl)
theorem wn_iadd {x : CT} {L : List Nat} {cc : ByteArray} {nL : Nat} {own : String} {R : Room} {pc : Nat} {lo : List (Option Value)} {st : List Value} {M : Mem} (X : BS x L cc nL own R) {a b : Nat} (hd : decode cc pc = .ok (.iadd, 1)) (k : WP x L (pc + 1) lo (.int (nI (a + b)) :: st) M) : WP x L pc lo (.int (nI b) :: .int (nI a) :: st) M := wp_iadd X hd (by rw [nI_add]; exact k)
theorem wn_isub {x : CT} {L : List Nat} {cc : ByteArray} {nL : Nat} {own : String} {R : Room} {pc : Nat} {lo : List (Option Value)} {st : List Value} {M : Mem} (X : BS x L cc nL own R) {a b : Nat} (hd : decode cc pc = .ok (.isub, 1)) (h : b ≤ a) (k : WP x L (pc + 1) lo (.int (nI (a - b)) :: st) M) : WP x L pc lo (.int (nI b) :: .int (nI a) :: st) M := wp_isub X hd (by rw [pk_sub h]; exact k)
theorem wn_imul {x : CT} {L : List Nat} {cc : ByteArray} {nL : Nat} {own : String} {R : Room} {pc : Nat} {lo : List (Option Value)} {st : List Value} {M : Mem} (X : BS x L cc nL own R) {a b : Nat} (hd : decode cc pc = .ok (.imul, 1)) (k : WP x L (pc + 1) lo (.int (nI (a * b)) :: st) M) : WP x L pc lo (.int (nI b) :: .int (nI a) :: st) M := wp_imul X hd (by rw [pk_mul]; exact k)
theorem wn_irem {x : CT} {L : List Nat} {cc : ByteArray} {nL : Nat} {own : String} {R : Room} {pc : Nat} {lo : List (Option Value)} {st : List Value} {M : Mem} (X : BS x L cc nL own R) {a b : Nat} (hd : decode cc pc = .ok (.irem, 1)) (ha : a < 2 ^ 31) (h0 : 0 < b) (hb2 : b < 2 ^ 31) (k : WP x L (pc + 1) lo (.int (nI (a % b)) :: st) M) : WP x L pc lo (.int (nI b) :: .int (nI a) :: st) M := wp_irem X hd (nI_ne0 h0 hb2) (by rw [pk_rem ha h0 hb2]; exact k)
theorem wn_iinc {x : CT} {L : List Nat} {cc : ByteArray} {nL : Nat} {own : String} {R : Room} {pc : Nat} {lo : List (Option Value)} {st : List Value} {M : Mem} (X : BS x L cc nL own R) {i : Nat} {n : Int} {a d : Nat} {lo' : List (Option Value)} (hd : decode cc pc = .ok (.iinc i n, 3)) (ha : lo[i]? = some (some (.int (nI a)))) (hv : Int32.ofInt n = nI d) (hn : noL lo i = true) (he : lo.set i (some (.int (nI (a + d)))) = lo') (k : WP x L (pc + 3) lo' st M) : WP x L pc lo st M := wp_iinc X hd ha (by rw [hv, nI_add]) hn he k
/-- a field's site: constant idx of class own names field k of class ci -/
def FL (own : String) (idx ci k : Nat) : Prop := ∃ (C : String) (T : u_T) (N : Nat), vwCl[ci]? = some (C, T, N) ∧ k < N ∧ (T k).1 = C ∧ (∀ w ∈ u_ws C T N, w ∈ wd_G) ∧ (Cond.fieldLink own idx C (T k).2.1 (T k).2.2.1 ∈ wd_G ∨ ∃ host : String, Cond.fieldLinkNest own idx C (T k).2.1 (T k).2.2.1 host ∈ wd_N)
/-- .. an int that may be written -/
def FP' (ci k : Nat) : Prop := ∃ (C : String) (T : u_T) (N : Nat) (ty0 : Nat → FieldType), vwCl[ci]? = some (C, T, N) ∧ (T k).2.2.2 = false ∧ parseFieldDescriptor (T k).2.2.1 = some .int ∧ (∀ j, j < N → parseFieldDescriptor (T j).2.2.1 = some (ty0 j)) ∧ (∀ a, a < N → ∀ b, b < N → a ≠ b → (T a).2.1 ≠ (T b).2.1)
theorem EA_o {ad : Nat → Nat} {cs : ClassId × ClassId × ClassId} {i ci : Nat} {r : Nat → Int32} (h : KD i = ci) (h9 : ci < 9) : EA ad cs i r = .inr (ci, (FA i r).map (CV ad)) := by
  unfold EA
  rw [if_neg (by omega), if_neg (by omega), if_neg (by omega), h]
theorem EA_i {ad : Nat → Nat} {cs : ClassId × ClassId × ClassId} {i : Nat} {r : Nat → Int32} (h : KD i = 9) : EA ad cs i r = .inl (cs.1, LN i, .inl r) := by
  unfold EA
  rw [if_pos h]
theorem wp_get {x : CT} {L : List Nat} {cc : ByteArray} {nL : Nat} {own : String} {R : Room} {pc : Nat} {lo : List (Option Value)} {st : List Value} {M : Mem} (X : BS x L cc nL own R) {idx ci k : Nat} (hF : FL own idx ci k) {i n : Nat} (hi : AC L i ci n) (h9 : ci < 9) {v : Value} (hv : (FA i (M i))[k]? = some v) (hd : decode cc pc = .ok (.getfield idx, 3)) (kk : WP x L (pc + 3) lo (v :: st) M) : WP x L pc lo (.ref i :: st) M := by
  obtain ⟨p, l, e, R', s, m, args, below, meth, c, A, QQ, D, cs, ad, kc, ks⟩ := x
  obtain ⟨hR, hx, hb, hml, hown, hts, hnw, hlk, hA, hK, hnd, hkc, hks⟩ := X
  intro H locs ls hP hD hS hl
  obtain ⟨C, T, N, hc, hk, hT, hin, hlk2⟩ := hF
  obtain ⟨q, -, hq⟩ := WL_get (ad := ad) (cs := cs) (M := M) hi.1
  rw [EA_o hi.2.1 h9] at hq
  have hv' : ((FA i (M i)).map (CV ad))[k]? = some (CV ad v) := by rw [List.getElem?_map, hv]; rfl
  rcases hlk2 with h | ⟨host, h⟩
  · exact va_get hx hb hts hin hown hK hP q hq hc k hk (hts _ h) (fun _ h9 => by rw [hT] at h9; exact h9) hv' hd (kk H locs ls hP hD hS hl)
  · exact va_getN hx hb hts hin hown hK hP q hq hc k hk (va_Nw.use rfl (hnw _ h)) (fun _ h9 => by rw [hT] at h9; exact h9) hv' hd (kk H locs ls hP hD hS hl)
theorem wp_put {x : CT} {L : List Nat} {cc : ByteArray} {nL : Nat} {own : String} {R : Room} {pc : Nat} {lo : List (Option Value)} {st : List Value} {M : Mem} (X : BS x L cc nL own R) {idx ci k : Nat} (hF : FL own idx ci k) (hF2 : FP' ci k) {i n : Nat} (hi : AC L i ci n) (h9 : ci < 9) {v : Int32} (hl2 : k < (FA i (M i)).length) (hv : (FA i (M i)).set k (.int v) = FA i (upd (M i) k v)) (hd : decode cc pc = .ok (.putfield idx, 3)) (kk : WP x L (pc + 3) lo st (MU M i k v)) : WP x L pc lo (.int v :: .ref i :: st) M := by
  obtain ⟨p, l, e, R', s, m, args, below, meth, c, A, QQ, D, cs, ad, kc, ks⟩ := x
  obtain ⟨hR, hx, hb, hml, hown, hts, hnw, hlk, hA, hK, hnd, hkc, hks⟩ := X
  intro H locs ls hP hD hS hl
  obtain ⟨C, T, N, hc, hk, hT, hin, hlk2⟩ := hF
  obtain ⟨C2, T2, N2, ty0, hc2, hfin, hde, hty, hnm⟩ := hF2
  rw [hc] at hc2
  cases hc2
  obtain ⟨q, hLq, hq⟩ := WL_get (ad := ad) (cs := cs) (M := M) hi.1
  rw [EA_o hi.2.1 h9] at hq
  have hset : (WL ad cs L M).set q (ad i, .inr (ci, ((FA i (M i)).map (CV ad)).set k (.int v))) = WL ad cs L (MU M i k v) := by
    have e1 : ((FA i (M i)).map (CV ad)).set k (.int v) = (FA i (upd (M i) k v)).map (CV ad) := by rw [← hv, List.map_set]; rfl
    rw [e1, ← EA_o (cs := cs) hi.2.1 h9]
    exact WL_set hnd hLq _
  have kk2 : ∀ (H1 : Heap) (locs1 : List Loc), va_P D vwCl ((WL ad cs L M).set q (ad i, .inr (ci, ((FA i (M i)).map (CV ad)).set k (.int v)))) H1 → va_D A ((WL ad cs L M).set q (ad i, .inr (ci, ((FA i (M i)).map (CV ad)).set k (.int v)))) → va_S A s.heap H1 locs1 → W p l e R' s m args below meth c H1 locs1 kc ks QQ (F0 m (pc + 3) ls (st.map (CV ad))) := by
    rw [hset]
    exact fun H1 locs1 a1 a2 a3 => kk H1 locs1 ls a1 a2 a3 hl
  rcases hlk2 with h | ⟨host, h⟩
  · exact va_put hx hb hts hin ty0 hty hnm hown hK hP hD hS q hq hc k hk (hts _ h) (fun _ h9 => by rw [hT] at h9; exact h9) hfin hde rfl rfl (by simpa using hl2) hd kk2
  · exact va_putN hx hb hts hin ty0 hty hnm hown hK hP hD hS q hq hc k hk (va_Nw.use rfl (hnw _ h)) (fun _ h9 => by rw [hT] at h9; exact h9) hfin hde rfl rfl (by simpa using hl2) hd kk2
theorem wp_iald {x : CT} {L : List Nat} {cc : ByteArray} {nL : Nat} {own : String} {R : Room} {pc : Nat} {lo : List (Option Value)} {st : List Value} {M : Mem} (X : BS x L cc nL own R) {i n : Nat} (hi : AC L i 9 n) {j : Int32} (hj : vp_in j n) (hd : decode cc pc = .ok (.iaload, 1)) (kk : WP x L (pc + 1) lo (.int (M i j.toNatClampNeg) :: st) M) : WP x L pc lo (.int j :: .ref i :: st) M := by
  obtain ⟨p, l, e, R', s, m, args, below, meth, c, A, QQ, D, cs, ad, kc, ks⟩ := x
  obtain ⟨hR, hx, hb, hml, hown, hts, hnw, hlk, hA, hK, hnd, hkc, hks⟩ := X
  intro H locs ls hP hD hS hl
  obtain ⟨q, -, hq⟩ := WL_get (ad := ad) (cs := cs) (M := M) hi.1
  rw [EA_i hi.2.1, hi.2.2] at hq
  exact va_iald hx hb hK hP q 0 hq rfl hj hd (kk H locs ls hP hD hS hl)
theorem wp_iast {x : CT} {L : List Nat} {cc : ByteArray} {nL : Nat} {own : String} {R : Room} {pc : Nat} {lo : List (Option Value)} {st : List Value} {M : Mem} (X : BS x L cc nL own R) {i n : Nat} (hi : AC L i 9 n) {j v : Int32} (hj : vp_in j n) (hd : decode cc pc = .ok (.iastore, 1)) (kk : WP x L (pc + 1) lo st (MU M i j.toNatClampNeg v)) : WP x L pc lo (.int v :: .int j :: .ref i :: st) M := by
  obtain ⟨p, l, e, R', s, m, args, below, meth, c, A, QQ, D, cs, ad, kc, ks⟩ := x
  obtain ⟨hR, hx, hb, hml, hown, hts, hnw, hlk, hA, hK, hnd, hkc, hks⟩ := X
  intro H locs ls hP hD hS hl
  obtain ⟨q, hLq, hq⟩ := WL_get (ad := ad) (cs := cs) (M := M) hi.1
  rw [EA_i hi.2.1, hi.2.2] at hq
  have hset : (WL ad cs L M).set q (ad i, .inl (cs.1, n, .inl (upd (M i) j.toNatClampNeg v))) = WL ad cs L (MU M i j.toNatClampNeg v) := by
    rw [← hi.2.2, ← EA_i (ad := ad) (cs := cs) hi.2.1]
    exact WL_set hnd hLq _
  refine va_iast hx hb hK hP hD hS q 0 hq rfl hj hd ?_
  rw [hset]
  exact fun H1 locs1 a1 a2 a3 => kk H1 locs1 ls a1 a2 a3 hl
theorem wn_iald {x : CT} {L : List Nat} {cc : ByteArray} {nL : Nat} {own : String} {R : Room} {pc : Nat} {lo : List (Option Value)} {st : List Value} {M : Mem} (X : BS x L cc nL own R) {i n : Nat} (hi : AC L i 9 n) {j : Nat} (hj : j < n) (hn : n < 2 ^ 31) (hd : decode cc pc = .ok (.iaload, 1)) (kk : WP x L (pc + 1) lo (.int (M i j) :: st) M) : WP x L pc lo (.int (nI j) :: .ref i :: st) M := wp_iald X hi (vp_in_nI hj hn) hd (by rw [nI_clamp (Nat.lt_trans hj hn)]; exact kk)
theorem wn_iast {x : CT} {L : List Nat} {cc : ByteArray} {nL : Nat} {own : String} {R : Room} {pc : Nat} {lo : List (Option Value)} {st : List Value} {M : Mem} (X : BS x L cc nL own R) {i n : Nat} (hi : AC L i 9 n) {j : Nat} {v : Int32} (hj : j < n) (hn : n < 2 ^ 31) (hd : decode cc pc = .ok (.iastore, 1)) (kk : WP x L (pc + 1) lo st (MU M i j v)) : WP x L pc lo (.int v :: .int (nI j) :: .ref i :: st) M := wp_iast X hi (vp_in_nI hj hn) hd (by rw [nI_clamp (Nat.lt_trans hj hn)]; exact kk)
theorem EA_l {ad : Nat → Nat} {cs : ClassId × ClassId × ClassId} {i : Nat} {r : Nat → Int32} (h : KD i = 10) : EA ad cs i r = .inl (cs.2.1, 4, .inr (.inr (.inr (.inr (fun l => some (ad (i + 10 + 3 * l))))))) := by
  unfold EA
  rw [if_neg (by omega), if_pos h]
theorem EA_r {ad : Nat → Nat} {cs : ClassId × ClassId × ClassId} {i : Nat} {r : Nat → Int32} (h : KD i = 11) : EA ad cs i r = .inl (cs.2.2, 4, .inr (.inr (.inr (.inr (fun l => some (ad (i + 1 + 23 * l))))))) := by
  unfold EA
  rw [if_neg (by omega), if_neg (by omega), if_pos h]
theorem wn_aaldl {x : CT} {L : List Nat} {cc : ByteArray} {nL : Nat} {own : String} {R : Room} {pc : Nat} {lo : List (Option Value)} {st : List Value} {M : Mem} (X : BS x L cc nL own R) {i n : Nat} (hi : AC L i 10 n) {j : Nat} (hj : j < 4) (hd : decode cc pc = .ok (.aaload, 1)) (kk : WP x L (pc + 1) lo (.ref (i + 10 + 3 * j) :: st) M) : WP x L pc lo (.int (nI j) :: .ref i :: st) M := by
  obtain ⟨p, l, e, R', s, m, args, below, meth, c, A, QQ, D, cs, ad, kc, ks⟩ := x
  obtain ⟨hR, hx, hb, hml, hown, hts, hnw, hlk, hA, hK, hnd, hkc, hks⟩ := X
  intro H locs ls hP hD hS hl
  obtain ⟨q, -, hq⟩ := WL_get (ad := ad) (cs := cs) (M := M) hi.1
  rw [EA_l hi.2.1] at hq
  refine va_aldq hx hb hK hP q 1 hq rfl (vp_in_nI hj (by decide)) hd ?_
  rw [nI_clamp (by omega)]
  exact kk H locs ls hP hD hS hl
theorem wn_aaldr {x : CT} {L : List Nat} {cc : ByteArray} {nL : Nat} {own : String} {R : Room} {pc : Nat} {lo : List (Option Value)} {st : List Value} {M : Mem} (X : BS x L cc nL own R) {i n : Nat} (hi : AC L i 11 n) {j : Nat} (hj : j < 4) (hd : decode cc pc = .ok (.aaload, 1)) (kk : WP x L (pc + 1) lo (.ref (i + 1 + 23 * j) :: st) M) : WP x L pc lo (.int (nI j) :: .ref i :: st) M := by
  obtain ⟨p, l, e, R', s, m, args, below, meth, c, A, QQ, D, cs, ad, kc, ks⟩ := x
  obtain ⟨hR, hx, hb, hml, hown, hts, hnw, hlk, hA, hK, hnd, hkc, hks⟩ := X
  intro H locs ls hP hD hS hl
  obtain ⟨q, -, hq⟩ := WL_get (ad := ad) (cs := cs) (M := M) hi.1
  rw [EA_r hi.2.1] at hq
  refine va_aldq hx hb hK hP q 2 hq rfl (vp_in_nI hj (by decide)) hd ?_
  rw [nI_clamp (by omega)]
  exact kk H locs ls hP hD hS hl
theorem wp_iret {x : CT} {L : List Nat} {cc : ByteArray} {nL : Nat} {own : String} {R : Room} {pc : Nat} {lo : List (Option Value)} {M : Mem} (X : BS x L cc nL own R) {Q : Int32 → Mem → Prop} (T : RT x L (some .int) Q) {v : Int32} (hd : decode cc pc = .ok (.ireturn, 1)) (h : Q v M) : WP x L pc lo [.int v] M := by
  obtain ⟨p, l, e, R', s, m, args, below, meth, c, A, QQ, D, cs, ad, kc, ks⟩ := x
  obtain ⟨hR, hx, hb, hml, hown, hts, hnw, hlk, hA, hK, hnd, hkc, hks⟩ := X
  intro H locs ls hP hD hS hl
  obtain ⟨hr, rfl, rfl, rfl⟩ := T
  exact W.iret hx hb hr (fun t ht hW => ⟨⟨v, M, rfl, h, by rw [ht]; exact hP, va_K.moved hW.alike hK, hD⟩, hS.F ht⟩) hS.2.2 hd hlk
theorem wp_zret {x : CT} {L : List Nat} {cc : ByteArray} {nL : Nat} {own : String} {R : Room} {pc : Nat} {lo : List (Option Value)} {M : Mem} (X : BS x L cc nL own R) {Q : Int32 → Mem → Prop} (T : RT x L (some .boolean) Q) {v : Int32} (hv : v = 0 ∨ v = 1) (hd : decode cc pc = .ok (.ireturn, 1)) (h : Q v M) : WP x L pc lo [.int v] M := by
  obtain ⟨p, l, e, R', s, m, args, below, meth, c, A, QQ, D, cs, ad, kc, ks⟩ := x
  obtain ⟨hR, hx, hb, hml, hown, hts, hnw, hlk, hA, hK, hnd, hkc, hks⟩ := X
  intro H locs ls hP hD hS hl
  obtain ⟨hr, rfl, rfl, rfl⟩ := T
  exact W.zret hx hb hr (by rcases hv with rfl | rfl <;> rfl) (fun t ht hW => ⟨⟨v, M, rfl, h, by rw [ht]; exact hP, va_K.moved hW.alike hK, hD⟩, hS.F ht⟩) hS.2.2 hd hlk
theorem wp_ret {x : CT} {L : List Nat} {cc : ByteArray} {nL : Nat} {own : String} {R : Room} {pc : Nat} {lo : List (Option Value)} {M : Mem} (X : BS x L cc nL own R) {Q : Int32 → Mem → Prop} (T : RT x L none Q) (hd : decode cc pc = .ok (.return_, 1)) (h : Q 0 M) : WP x L pc lo [] M := by
  obtain ⟨p, l, e, R', s, m, args, below, meth, c, A, QQ, D, cs, ad, kc, ks⟩ := x
  obtain ⟨hR, hx, hb, hml, hown, hts, hnw, hlk, hA, hK, hnd, hkc, hks⟩ := X
  intro H locs ls hP hD hS hl
  obtain ⟨hr, rfl, rfl, rfl⟩ := T
  exact W.vret hx hb hr (fun t ht hW => ⟨⟨M, rfl, h, by rw [ht]; exact hP, va_K.moved hW.alike hK, hD⟩, hS.F ht⟩) hS.2.2 hd hlk
end
section
theorem nw_tab : ∀ w ∈ wd_N, w.onTables = true := by decide +kernel
theorem nw_warm {s U : State} (hW : s.WarmedH U.vm) : ∀ w ∈ wd_N, va_Nw w s → va_Nw w U := by
  intro w hw h
  simp only [wd_N, List.mem_cons, List.not_mem_nil, or_false] at hw
  rcases hw with rfl | rfl | rfl | rfl | rfl | rfl | rfl | rfl | rfl | rfl | rfl | rfl | rfl | rfl | rfl | rfl | rfl | rfl | rfl | rfl | rfl | rfl | rfl | rfl | rfl | rfl | rfl | rfl | rfl | rfl | rfl | rfl | rfl | rfl | rfl | rfl <;> first | exact va_Nw.warmF hW h | exact va_Nw.warmM hW h
theorem PR_blind {D : va_G} {cs : ClassId × ClassId × ClassId} {ad : Nat → Nat} {L : List Nat} {M : Mem} {sz : Nat} {av : List Value} : FrameBlind (va_Pc av (PR D cs ad L M sz)) := fun a U g mk q => by
  obtain ⟨q0, q1, qP, qK, qD, qN⟩ := q
  exact ⟨q0, q1, qP, va_K.moved (u := U) (U := U.calling g mk a) (Vm.Alike.refl U.vm) qK, qD, fun w hw => va_Nw.same (u := U) (U := U.calling g mk a) (nw_tab w hw) (show U.vm = (U.calling g mk a).vm from rfl) (qN w hw)⟩
theorem wl_free {A : Nat → Prop} {ws : va_W} {H0 H : Heap} {locs : List Loc} (hD : va_D A ws) (hS : va_S A H0 H locs) (hA : ∀ q, H0.size ≤ q → A q) : ∀ q, va_A ws H.size q → A q := by
  intro q h
  rcases h with ⟨k, e, h⟩ | h
  · exact hD.2 k _ h
  · exact hA q (Nat.le_trans hS.1 h)
theorem CV_ref {ad : Nat → Nat} {i : Nat} : CV ad (.ref i) = .ref (ad i) := rfl
/-- entry locals -/
def EL (av : List Value) (nL : Nat) : List (Option Value) := av.map some ++ List.replicate (nL - av.length) none
theorem lv_args_mem (ad : Nat → Nat) : ∀ (av : List Value) (k : Nat), (∀ v ∈ av, v.category = 1) → ∀ (i : Nat) (v : Value), av[i]? = some v → (k + i, CV ad v) ∈ lv_args k (av.map (CV ad))
  | [], _, _, i, v, h => by simp at h
  | a :: av, k, hc, i, v, h => by
    have ha : ¬ (CV ad a).category = 2 := by rw [CV_cat, hc a List.mem_cons_self]; decide
    rw [List.map_cons, lv_args, if_neg ha]
    cases i with
    | zero =>
      simp at h
      subst h
      exact List.mem_cons_self
    | succ i =>
      have h2 := lv_args_mem ad av (k + 1) (fun v hv => hc v (List.mem_cons_of_mem _ hv)) i v (by simpa using h)
      have e : k + 1 + i = k + (i + 1) := by omega
      rw [e] at h2
      exact List.mem_cons_of_mem _ h2
theorem sl_len (ad : Nat → Nat) : ∀ av : List Value, (∀ v ∈ av, v.category = 1) → (lg_sl (av.map (CV ad))).length = av.length
  | [], _ => rfl
  | a :: av, hc => by
    have ha : ¬ (CV ad a).category = 2 := by rw [CV_cat, hc a List.mem_cons_self]; decide
    have ih := sl_len ad av (fun v hv => hc v (List.mem_cons_of_mem _ hv))
    simp only [lg_sl, List.map_cons, List.flatMap_cons, if_neg ha] at ih ⊢
    simp [ih]
theorem EL_LO {ad : Nat → Nat} {av : List Value} {nL : Nat} (hc : ∀ v ∈ av, v.category = 1) (hn : av.length ≤ nL) : LO ad ((lg_sl (av.map (CV ad)) ++ List.replicate (nL - (lg_sl (av.map (CV ad))).length) Slot.unset).toArray) (EL av nL) := by
  have h := lv_entry (av.map (CV ad)) (n := nL) (by rw [sl_len ad av hc]; exact hn)
  have hlen : (EL av nL).length = nL := by simp [EL]; omega
  refine ⟨by rw [hlen]; exact h.1, h.2.1, fun q hq => h.2.2 q ?_⟩
  obtain ⟨v, hv, hq2⟩ := lvl_mem.mp hq
  unfold EL at hv
  by_cases hl : q.1 < av.length
  · rw [List.getElem?_append_left (by simpa using hl), List.getElem?_map] at hv
    cases ha : av[q.1]? with
    | none => rw [ha] at hv; cases hv
    | some w =>
      rw [ha] at hv
      cases hv
      have := lv_args_mem ad av 0 hc q.1 v ha
      rw [Nat.zero_add, ← hq2] at this
      exact this
  · rw [List.getElem?_append_right (by simpa using hl)] at hv
    have := List.mem_of_getElem? hv
    simp at this
theorem CM.intro {y : MethodName} {cc : ByteArray} {nL : Nat} {ret : Option FieldType} {rm : Room} {own : String} {L : List Nat} {av : List Value} {M : Mem} {Q : Int32 → Mem → Prop} (hy : plainName y.cls = true) (hown : y.cls = own) (hc : ∀ v ∈ av, v.category = 1) (hn : av.length ≤ nL) (hnd : L.Nodup)
    (h : ∀ x : CT, BS x L cc nL own rm → RT x L ret Q → WP x L 0 (EL av nL) [] M) : CM (y, cc, nL, ret, rm) L av M Q := by
  refine ⟨Q, fun _ _ h => h, fun l D cs ad sz => ?_⟩
  refine Met.ofW (cc := cc) (maxL := nL) (ret := ret) hy rfl ?_
  intro p e s m args below meth c s₁ B hml hv
  obtain ⟨rfl, hsz, hP, hK, hD0, hnw⟩ := hv
  have hts := atoms_spec (ws := .code y cc nL ret :: wd_G) B.pre
  subst hsz
  have hD := hD0.self (sz := s.heap.size)
  generalize hAe : va_A (WL ad cs L M) s.heap.size = A at hD ⊢
  have hA : ∀ q : Nat, s.heap.size ≤ q → A q := fun q h => by rw [← hAe]; exact Or.inr h
  rw [lg_entry_eq]
  have hl := EL_LO (ad := ad) hc hn
  exact h (p, l, e, rm, s, m, (av.map (CV ad)).toArray, below, meth, c, A, MQ below (QR ret Q (BK D cs ad L A) A) (av.map (CV ad)).toArray s 0 0 A, D, cs, ad, 0, 0)
    ⟨rfl, B.exec, B.bytes, hml, by rw [← hown]; exact findClass_of_methodNamed B.named, fun w hw => hts w (List.mem_cons_of_mem _ hw), hnw, B.notSynchronized, hA, hK, hnd, Nat.zero_le _, Nat.zero_le _⟩
    ⟨B.returns, rfl, rfl, rfl⟩ s.heap [] _ hP hD va_S.rf hl
theorem CM_good {ws : List Cond} {mm : MI} (hc : Cond.code mm.1 mm.2.1 mm.2.2.1 mm.2.2.2.1 ∈ wd_G) (h : ∀ w ∈ ws, w ∈ wd_G) : GoodIn wd_G (ws ++ (.code mm.1 mm.2.1 mm.2.2.1 mm.2.2.2.1 :: wd_G)) := by
  intro w hw
  rcases List.mem_append.mp hw with h1 | h1
  · exact wd_good w (h w h1)
  · rcases List.mem_cons.mp h1 with rfl | h1
    · exact wd_good _ hc
    · exact wd_good w h1
/-- a call's site -/
def SV (own : String) (idx : Nat) (mm : MI) (n ci : Nat) : Prop := Cond.methodLink own idx mm.1 ∈ wd_G ∧ Cond.instanceMethod mm.1 ∈ wd_G ∧ Cond.selects mm.1.cls mm.1 mm.1 ∈ wd_G ∧ Cond.initialized mm.1.cls ∈ wd_G ∧ Cond.code mm.1 mm.2.1 mm.2.2.1 mm.2.2.2.1 ∈ wd_G ∧ (mm.1.cls ≠ "java/lang/invoke/MethodHandle" ∧ mm.1.cls ≠ "java/lang/invoke/VarHandle" ∧ (parseMethodDescriptor mm.1.desc).map (fun d => d.parameters.length) = some n) ∧ (∃ (T : u_T) (N : Nat), vwCl[ci]? = some (mm.1.cls, T, N)) ∧ mm.2.2.2.2.cells = 0 ∧ mm.2.2.2.2.slots = 0
def SS (own : String) (idx : Nat) (mm : MI) (n : Nat) : Prop := Cond.methodLink own idx mm.1 ∈ wd_G ∧ Cond.static mm.1 ∈ wd_G ∧ Cond.initialized mm.1.cls ∈ wd_G ∧ Cond.code mm.1 mm.2.1 mm.2.2.1 mm.2.2.2.1 ∈ wd_G ∧ (mm.1.cls ≠ "java/lang/invoke/MethodHandle" ∧ mm.1.cls ≠ "java/lang/invoke/VarHandle" ∧ (parseMethodDescriptor mm.1.desc).map (fun d => d.parameters.length) = some n) ∧ mm.2.2.2.2.cells = 0 ∧ mm.2.2.2.2.slots = 0
/-- the callee's room fits -/
def RF (R : Room) (mm : MI) : Prop := mm.2.2.2.2.frames + 1 ≤ R.frames ∧ 8 + (mm.2.2.1 + 11) + mm.2.2.2.2.locals ≤ R.locals
theorem wp_invV {x : CT} {L : List Nat} {cc : ByteArray} {own : String} {R : Room} {pc : Nat} {lo : List (Option Value)} {st : List Value} {M : Mem} (X : BS x L cc lo.length own R) {idx n ci : Nat} {mm : MI} {ty : FieldType} (hs : SV own idx mm n ci) {i n0 : Nat} (hi : AC L i ci n0) (h9 : ci < 9) (hret : mm.2.2.2.1 = some ty) (hr : RF R mm) {As : List Value} {stk : List Value} (hst : stk = As.reverse ++ .ref i :: st) (hn : As.length = n) (hw : (st.map fun v => v.category).sum ≤ 8) (hd : decode cc pc = .ok (.invokevirtual idx, 3)) (h : CM mm L (.ref i :: As) M (fun r M' => WP x L (pc + 3) lo (.int r :: st) M')) : WP x L pc lo stk M := by
  obtain ⟨p, l, e, R', s, m, args, below, meth, c, A, QQ, D, cs, ad, kc, ks⟩ := x
  obtain ⟨hR, hx, hb, hml, hown, hts, hnw, hlk, hA, hK, hnd, hkc, hks⟩ := X
  intro H locs ls hP hD hS hl
  obtain ⟨y, bytes, maxL, ret, rm⟩ := mm
  dsimp only at hret
  subst hret
  obtain ⟨Q0, hmono, hM⟩ := h
  subst hR
  subst hst
  have hFc := wl_free hD hS hA
  have hwc : ((st.map (CV ad)).map fun v => v.category).sum ≤ 8 := by
    have e : ((st.map (CV ad)).map fun v => v.category) = (st.map fun v => v.category) := by rw [List.map_map]; exact List.map_congr_left (fun v _ => CV_cat ad v)
    rw [e]; exact hw
  obtain ⟨k1, k2, k3, k3b, k4, k5, ⟨T, N, hcl⟩, k6, k7⟩ := hs
  have hG : GoodIn wd_G (wsV own idx y.cls y (.code y bytes maxL (some ty) :: wd_G)) := CM_good (mm := (y, bytes, maxL, some ty, rm)) k4 (fun w hw => by
    rcases List.mem_cons.mp hw with rfl | hw; · exact k1
    rcases List.mem_cons.mp hw with rfl | hw; · exact k2
    rcases List.mem_cons.mp hw with rfl | hw; · exact k3
    rw [List.mem_singleton] at hw; rw [hw]; exact k3b)
  obtain ⟨q, -, hq⟩ := WL_get (ad := ad) (cs := cs) (M := M) hi.1
  rw [EA_o hi.2.1 h9] at hq
  refine va_calli (va_runV (As := As.map (CV ad)) (rest := st.map (CV ad)) (b := ad i) ⟨hx, hb, hml, hown, hts⟩ (hM l D cs ad H.size) (cwV n hts hG rfl k6 k7 ⟨rfl, k5⟩ hr) ⟨PR_blind, va_recv hK hP hcl hq, fun U hU hW => ⟨rfl, by rw [hU], by rw [hU]; exact hP, va_K.moved hW.alike hK, hD.weaken (fun _ _ _ _ => trivial), fun w hw => nw_warm hW w hw (hnw w hw)⟩⟩ rfl (by rw [List.length_map]; exact hn) (hl.1) (by simp [List.map_reverse, CV]) (lv_room hwc) hd ⟨hkc, hks⟩) hS (fun q _ h => hFc q h) hFc (fun r M1 t H1 locs1 ht hvm hw1 hB hz1 hk1 hS1 => ?_)
  obtain ⟨hP1, hK1, hD1⟩ := hB
  rw [ht] at hP1
  exact hmono r M1 hw1 H1 locs1 ls hP1 (hD1.weaken (fun _ q _ h => hFc q.1 h)) hS1 hl
theorem wp_invVv {x : CT} {L : List Nat} {cc : ByteArray} {own : String} {R : Room} {pc : Nat} {lo : List (Option Value)} {st : List Value} {M : Mem} (X : BS x L cc lo.length own R) {idx n ci : Nat} {mm : MI} (hs : SV own idx mm n ci) {i n0 : Nat} (hi : AC L i ci n0) (h9 : ci < 9) (hret : mm.2.2.2.1 = none) (hr : RF R mm) {As : List Value} {stk : List Value} (hst : stk = As.reverse ++ .ref i :: st) (hn : As.length = n) (hw : (st.map fun v => v.category).sum ≤ 8) (hd : decode cc pc = .ok (.invokevirtual idx, 3)) (h : CM mm L (.ref i :: As) M (fun _ M' => WP x L (pc + 3) lo st M')) : WP x L pc lo stk M := by
  obtain ⟨p, l, e, R', s, m, args, below, meth, c, A, QQ, D, cs, ad, kc, ks⟩ := x
  obtain ⟨hR, hx, hb, hml, hown, hts, hnw, hlk, hA, hK, hnd, hkc, hks⟩ := X
  intro H locs ls hP hD hS hl
  obtain ⟨y, bytes, maxL, ret, rm⟩ := mm
  dsimp only at hret
  subst hret
  obtain ⟨Q0, hmono, hM⟩ := h
  subst hR
  subst hst
  have hFc := wl_free hD hS hA
  have hwc : ((st.map (CV ad)).map fun v => v.category).sum ≤ 8 := by
    have e : ((st.map (CV ad)).map fun v => v.category) = (st.map fun v => v.category) := by rw [List.map_map]; exact List.map_congr_left (fun v _ => CV_cat ad v)
    rw [e]; exact hw
  obtain ⟨k1, k2, k3, k3b, k4, k5, ⟨T, N, hcl⟩, k6, k7⟩ := hs
  have hG : GoodIn wd_G (wsV own idx y.cls y (.code y bytes maxL none :: wd_G)) := CM_good (mm := (y, bytes, maxL, none, rm)) k4 (fun w hw => by
    rcases List.mem_cons.mp hw with rfl | hw; · exact k1
    rcases List.mem_cons.mp hw with rfl | hw; · exact k2
    rcases List.mem_cons.mp hw with rfl | hw; · exact k3
    rw [List.mem_singleton] at hw; rw [hw]; exact k3b)
  obtain ⟨q, -, hq⟩ := WL_get (ad := ad) (cs := cs) (M := M) hi.1
  rw [EA_o hi.2.1 h9] at hq
  refine va_callv (va_runV (As := As.map (CV ad)) (rest := st.map (CV ad)) (b := ad i) ⟨hx, hb, hml, hown, hts⟩ (hM l D cs ad H.size) (cwV n hts hG rfl k6 k7 ⟨rfl, k5⟩ hr) ⟨PR_blind, va_recv hK hP hcl hq, fun U hU hW => ⟨rfl, by rw [hU], by rw [hU]; exact hP, va_K.moved hW.alike hK, hD.weaken (fun _ _ _ _ => trivial), fun w hw => nw_warm hW w hw (hnw w hw)⟩⟩ rfl (by rw [List.length_map]; exact hn) (hl.1) (by simp [List.map_reverse, CV]) (lv_room hwc) hd ⟨hkc, hks⟩) hS (fun q _ h => hFc q h) hFc (fun M1 t H1 locs1 ht hvm hw1 hB hz1 hk1 hS1 => ?_)
  obtain ⟨hP1, hK1, hD1⟩ := hB
  rw [ht] at hP1
  exact hmono 0 M1 hw1 H1 locs1 ls hP1 (hD1.weaken (fun _ q _ h => hFc q.1 h)) hS1 hl
theorem wp_invS {x : CT} {L : List Nat} {cc : ByteArray} {own : String} {R : Room} {pc : Nat} {lo : List (Option Value)} {st : List Value} {M : Mem} (X : BS x L cc lo.length own R) {idx n : Nat} {mm : MI} {ty : FieldType} (hs : SS own idx mm n) (hret : mm.2.2.2.1 = some ty) (hr : RF R mm) {As : List Value} {stk : List Value} (hst : stk = As.reverse ++ st) (hn : As.length = n) (hw : (st.map fun v => v.category).sum ≤ 8) (hd : decode cc pc = .ok (.invokestatic idx, 3)) (h : CM mm L As M (fun r M' => WP x L (pc + 3) lo (.int r :: st) M')) : WP x L pc lo stk M := by
  obtain ⟨p, l, e, R', s, m, args, below, meth, c, A, QQ, D, cs, ad, kc, ks⟩ := x
  obtain ⟨hR, hx, hb, hml, hown, hts, hnw, hlk, hA, hK, hnd, hkc, hks⟩ := X
  intro H locs ls hP hD hS hl
  obtain ⟨y, bytes, maxL, ret, rm⟩ := mm
  dsimp only at hret
  subst hret
  obtain ⟨Q0, hmono, hM⟩ := h
  subst hR
  subst hst
  have hFc := wl_free hD hS hA
  have hwc : ((st.map (CV ad)).map fun v => v.category).sum ≤ 8 := by
    have e : ((st.map (CV ad)).map fun v => v.category) = (st.map fun v => v.category) := by rw [List.map_map]; exact List.map_congr_left (fun v _ => CV_cat ad v)
    rw [e]; exact hw
  obtain ⟨k1, k2, k3, k4, k5, k6, k7⟩ := hs
  have hG : GoodIn wd_G (va_wsS own idx y (.code y bytes maxL (some ty) :: wd_G)) := CM_good (mm := (y, bytes, maxL, some ty, rm)) k4 (fun w hw => by
    rcases List.mem_cons.mp hw with rfl | hw; · exact k1
    rcases List.mem_cons.mp hw with rfl | hw; · exact k2
    rw [List.mem_singleton] at hw; rw [hw]; exact k3)
  refine va_calli (va_runS (As := As.map (CV ad)) (rest := st.map (CV ad)) ⟨hx, hb, hml, hown, hts⟩ (hM l D cs ad H.size) (va_cwS n hts hG rfl k6 k7 k5 hr) ⟨PR_blind, fun U hU hW => ⟨rfl, by rw [hU], by rw [hU]; exact hP, va_K.moved hW.alike hK, hD.weaken (fun _ _ _ _ => trivial), fun w hw => nw_warm hW w hw (hnw w hw)⟩⟩ rfl (by rw [List.length_map]; exact hn) (hl.1) (by simp [List.map_reverse]) (lv_room hwc) hd ⟨hkc, hks⟩) hS (fun q _ h => hFc q h) hFc (fun r M1 t H1 locs1 ht hvm hw1 hB hz1 hk1 hS1 => ?_)
  obtain ⟨hP1, hK1, hD1⟩ := hB
  rw [ht] at hP1
  exact hmono r M1 hw1 H1 locs1 ls hP1 (hD1.weaken (fun _ q _ h => hFc q.1 h)) hS1 hl
theorem wp_max {x : CT} {L : List Nat} {cc : ByteArray} {own : String} {R : Room} {pc : Nat} {lo : List (Option Value)} {st : List Value} {M : Mem} (X : BS x L cc lo.length own R) {idx : Nat} (h1 : Cond.methodLink own idx Lib.Math.max.name ∈ wd_G) (h2 : Cond.static Lib.Math.max.name ∈ wd_G) (h3 : Cond.initialized "java/lang/Math" ∈ wd_G) (h4 : Cond.code Lib.Math.max.name Lib.Math.max.code 2 (some .int) ∈ wd_G) {a b : Int32} (hf : 1 ≤ R.frames) (hw : (st.map fun v => v.category).sum + 13 ≤ R.locals) (hd : decode cc pc = .ok (.invokestatic idx, 3)) (kk : WP x L (pc + 3) lo (.int (if a < b then b else a) :: st) M) : WP x L pc lo (.int b :: .int a :: st) M := by
  obtain ⟨p, l, e, R', s, m, args, below, meth, c, A, QQ, D, cs, ad, kc, ks⟩ := x
  obtain ⟨hR, hx, hb, hml, hown, hts, hnw, hlk, hA, hK, hnd, hkc, hks⟩ := X
  intro H locs ls hP hD hS hl
  subst hR
  have hwc : ((st.map (CV ad)).map fun v => v.category).sum + 13 ≤ R'.locals := by
    have e : ((st.map (CV ad)).map fun v => v.category) = (st.map fun v => v.category) := by rw [List.map_map]; exact List.map_congr_left (fun v _ => CV_cat ad v)
    rw [e]; exact hw
  exact va_mmax hx hb (hml.trans hl.1.symm) hown (hts _ h1) (hts _ h2) (hts _ h3) (hts _ h4) hf hwc hkc hks hd (kk H locs ls hP hD hS hl)
theorem wp_min {x : CT} {L : List Nat} {cc : ByteArray} {own : String} {R : Room} {pc : Nat} {lo : List (Option Value)} {st : List Value} {M : Mem} (X : BS x L cc lo.length own R) {idx : Nat} (h1 : Cond.methodLink own idx Lib.Math.min.name ∈ wd_G) (h2 : Cond.static Lib.Math.min.name ∈ wd_G) (h3 : Cond.initialized "java/lang/Math" ∈ wd_G) (h4 : Cond.code Lib.Math.min.name Lib.Math.min.code 2 (some .int) ∈ wd_G) {a b : Int32} (hf : 1 ≤ R.frames) (hw : (st.map fun v => v.category).sum + 13 ≤ R.locals) (hd : decode cc pc = .ok (.invokestatic idx, 3)) (kk : WP x L (pc + 3) lo (.int (if b < a then b else a) :: st) M) : WP x L pc lo (.int b :: .int a :: st) M := by
  obtain ⟨p, l, e, R', s, m, args, below, meth, c, A, QQ, D, cs, ad, kc, ks⟩ := x
  obtain ⟨hR, hx, hb, hml, hown, hts, hnw, hlk, hA, hK, hnd, hkc, hks⟩ := X
  intro H locs ls hP hD hS hl
  subst hR
  have hwc : ((st.map (CV ad)).map fun v => v.category).sum + 13 ≤ R'.locals := by
    have e : ((st.map (CV ad)).map fun v => v.category) = (st.map fun v => v.category) := by rw [List.map_map]; exact List.map_congr_left (fun v _ => CV_cat ad v)
    rw [e]; exact hw
  exact va_mmin hx hb (hml.trans hl.1.symm) hown (hts _ h1) (hts _ h2) (hts _ h3) (hts _ h4) hf hwc hkc hks hd (kk H locs ls hP hD hS hl)
theorem wp_f2raw {x : CT} {L : List Nat} {cc : ByteArray} {own : String} {R : Room} {pc : Nat} {lo : List (Option Value)} {st : List Value} {M : Mem} (X : BS x L cc lo.length own R) {idx : Nat} (h1 : Cond.methodLink own idx ⟨"java/lang/Float", "floatToRawIntBits", "(F)I"⟩ ∈ wd_G) (h2 : Cond.native ⟨"java/lang/Float", "floatToRawIntBits", "(F)I"⟩ ∈ wd_G) (h3 : Cond.static ⟨"java/lang/Float", "floatToRawIntBits", "(F)I"⟩ ∈ wd_G) (h4 : Cond.initialized "java/lang/Float" ∈ wd_G) {b : UInt32} (hf : 1 ≤ R.frames) (hw : (st.map fun v => v.category).sum + 15 ≤ R.locals) (hd : decode cc pc = .ok (.invokestatic idx, 3)) (kk : WP x L (pc + 3) lo (.int b.toInt32 :: st) M) : WP x L pc lo (.float b :: st) M := by
  obtain ⟨p, l, e, R', s, m, args, below, meth, c, A, QQ, D, cs, ad, kc, ks⟩ := x
  obtain ⟨hR, hx, hb, hml, hown, hts, hnw, hlk, hA, hK, hnd, hkc, hks⟩ := X
  intro H locs ls hP hD hS hl
  subst hR
  have hwc : ((st.map (CV ad)).map fun v => v.category).sum + 15 ≤ R'.locals := by
    have e : ((st.map (CV ad)).map fun v => v.category) = (st.map fun v => v.category) := by rw [List.map_map]; exact List.map_congr_left (fun v _ => CV_cat ad v)
    rw [e]; exact hw
  exact vn_f2i hx hb (hml.trans hl.1.symm) hown (hts _ h1) (hts _ h2) (hts _ h3) (hts _ h4) hf hwc hd (kk H locs ls hP hD hS hl)
/-- a row is copied over another one -/
def MC (M : Mem) (i j n : Nat) : Mem := fun k => if k = j then (fun t => if t < n then M i t else M j t) else M k
theorem cpy_0 (f g : Nat → Int32) (n : Nat) : va_cpy f g 0 0 n = fun t => if t < n then f t else g t := by
  funext t
  unfold va_cpy
  by_cases h : t < n
  · rw [if_pos ⟨Nat.zero_le _, by omega⟩, if_pos h, Nat.zero_add, Nat.sub_zero]
  · rw [if_neg (by omega), if_neg h]
theorem wp_copy {x : CT} {L : List Nat} {cc : ByteArray} {own : String} {R : Room} {pc : Nat} {lo : List (Option Value)} {st : List Value} {M : Mem} (X : BS x L cc lo.length own R) {idx : Nat} (h1 : Cond.methodLink own idx arraycopyName ∈ wd_G) (h2 : Cond.native arraycopyName ∈ wd_G) (h3 : Cond.static arraycopyName ∈ wd_G) (h4 : Cond.initialized "java/lang/System" ∈ wd_G) {i j n0 n1 n : Nat} (hi : AC L i 9 n0) (hj : AC L j 9 n1) (hn0 : n ≤ n0) (hn1 : n ≤ n1) (hn : n < 2 ^ 31) (hf : 1 ≤ R.frames) (hw : (st.map fun v => v.category).sum + (nativeFrameWords "java/lang/System" "arraycopy" 5 + 11) ≤ R.locals) (hd : decode cc pc = .ok (.invokestatic idx, 3)) (kk : WP x L (pc + 3) lo st (MC M i j n)) : WP x L pc lo (.int (nI n) :: .int (nI 0) :: .ref j :: .int (nI 0) :: .ref i :: st) M := by
  obtain ⟨p, l, e, R', s, m, args, below, meth, c, A, QQ, D, cs, ad, kc, ks⟩ := x
  obtain ⟨hR, hx, hb, hml, hown, hts, hnw, hlk, hA, hK, hnd, hkc, hks⟩ := X
  intro H locs ls hP hD hS hl
  subst hR
  have hwc : ((st.map (CV ad)).map fun v => v.category).sum + (nativeFrameWords "java/lang/System" "arraycopy" 5 + 11) ≤ R'.locals := by
    have e : ((st.map (CV ad)).map fun v => v.category) = (st.map fun v => v.category) := by rw [List.map_map]; exact List.map_congr_left (fun v _ => CV_cat ad v)
    rw [e]; exact hw
  obtain ⟨q0, -, hq0⟩ := WL_get (ad := ad) (cs := cs) (M := M) hi.1
  obtain ⟨q1, hLq, hq1⟩ := WL_get (ad := ad) (cs := cs) (M := M) hj.1
  rw [EA_i hi.2.1, hi.2.2] at hq0
  rw [EA_i hj.2.1, hj.2.2] at hq1
  have hset : (WL ad cs L M).set q1 (ad j, .inl (cs.1, n1, .inl (va_cpy (M i) (M j) (nI 0).toNatClampNeg (nI 0).toNatClampNeg (nI n).toNatClampNeg))) = WL ad cs L (MC M i j n) := by
    rw [nI_clamp (by decide), nI_clamp hn, cpy_0, ← hj.2.2, ← EA_i (ad := ad) (cs := cs) hj.2.1]
    exact WL_set hnd hLq _
  refine va_copyi hx hb (hml.trans hl.1.symm) hown (hts _ h1) (hts _ h2) (hts _ h3) (hts _ h4) hK hP hD hS q0 q1 0 0 hq0 hq1 rfl rfl rfl (nI_pos (by decide)) (nI_pos (by decide)) (nI_pos hn) (by rw [nI_clamp (by decide), nI_clamp hn]; omega) (by rw [nI_clamp (by decide), nI_clamp hn]; omega) (fun _ _ => rfl) hf hwc hd ?_
  rw [hset]
  exact fun H1 locs1 a1 a2 a3 => kk H1 locs1 ls a1 a2 a3 hl
end
section
theorem k_0 : (.selects RX5 yX5_readItem yX5_readItem : Cond) ∈ wd_G := wd_in 0 (by decide +kernel) rfl
theorem k_1 : (.selects RX5 yX5_takes yX5_takes : Cond) ∈ wd_G := wd_in 1 (by decide +kernel) rfl
theorem k_2 : (.selects RX5 yX5_readFile yX5_readFile : Cond) ∈ wd_G := wd_in 2 (by decide +kernel) rfl
theorem k_3 : (.selects RX5 yX5_readNumber yX5_readNumber : Cond) ∈ wd_G := wd_in 3 (by decide +kernel) rfl
theorem k_4 : (.selects RX5 yX5_readFigure yX5_readFigure : Cond) ∈ wd_G := wd_in 4 (by decide +kernel) rfl
theorem k_5 : (.selects RX5 yX5_readTable yX5_readTable : Cond) ∈ wd_G := wd_in 5 (by decide +kernel) rfl
theorem k_6 : (.selects RX6 yX6_note yX6_note : Cond) ∈ wd_G := wd_in 6 (by decide +kernel) rfl
theorem k_7 : (.selects RX6 yX6_chooseFile yX6_chooseFile : Cond) ∈ wd_G := wd_in 7 (by decide +kernel) rfl
theorem k_8 : (.selects RX6 yX6_sendSymbol yX6_sendSymbol : Cond) ∈ wd_G := wd_in 8 (by decide +kernel) rfl
theorem k_9 : (.selects RX1 yX1_loses yX1_loses : Cond) ∈ wd_G := wd_in 9 (by decide +kernel) rfl
theorem k_10 : (.selects RX1 yX1_takeTable yX1_takeTable : Cond) ∈ wd_G := wd_in 10 (by decide +kernel) rfl
theorem k_11 : (.selects RX1 yX1_takeSymbol yX1_takeSymbol : Cond) ∈ wd_G := wd_in 11 (by decide +kernel) rfl
theorem k_12 : (.selects RX0 yX0_seenAs yX0_seenAs : Cond) ∈ wd_G := wd_in 12 (by decide +kernel) rfl
theorem k_13 : (.selects RX8 yX8_laysFile yX8_laysFile : Cond) ∈ wd_G := wd_in 13 (by decide +kernel) rfl
theorem k_14 : (.selects RX8 yX8_begins yX8_begins : Cond) ∈ wd_G := wd_in 14 (by decide +kernel) rfl
theorem k_15 : (.selects RX8 yX8_faultIs yX8_faultIs : Cond) ∈ wd_G := wd_in 15 (by decide +kernel) rfl
theorem k_16 : (.selects RX8 yX8_here yX8_here : Cond) ∈ wd_G := wd_in 16 (by decide +kernel) rfl
theorem k_17 : (.selects RX8 yX8_passesFile yX8_passesFile : Cond) ∈ wd_G := wd_in 17 (by decide +kernel) rfl
theorem k_18 : (.selects RX8 yX8_passes yX8_passes : Cond) ∈ wd_G := wd_in 18 (by decide +kernel) rfl
theorem k_19 : (.selects RX8 yX8_passesTable yX8_passesTable : Cond) ∈ wd_G := wd_in 19 (by decide +kernel) rfl
theorem k_20 : (.selects RX8 yX8_copies yX8_copies : Cond) ∈ wd_G := wd_in 20 (by decide +kernel) rfl
theorem k_21 : (.selects RX8 yX8_minds yX8_minds : Cond) ∈ wd_G := wd_in 21 (by decide +kernel) rfl
theorem k_22 : (.selects RX8 yX8_ticks yX8_ticks : Cond) ∈ wd_G := wd_in 22 (by decide +kernel) rfl
theorem k_23 : (.selects RX8 yX8_sendsNext yX8_sendsNext : Cond) ∈ wd_G := wd_in 23 (by decide +kernel) rfl
theorem k_24 : (.selects RX8 yX8_logs yX8_logs : Cond) ∈ wd_G := wd_in 24 (by decide +kernel) rfl
theorem k_25 : (.selects RX8 yX8_isLost yX8_isLost : Cond) ∈ wd_G := wd_in 25 (by decide +kernel) rfl
theorem k_26 : (.selects RX8 yX8_hearsTable yX8_hearsTable : Cond) ∈ wd_G := wd_in 26 (by decide +kernel) rfl
theorem k_27 : (.selects RX8 yX8_hearsSymbol yX8_hearsSymbol : Cond) ∈ wd_G := wd_in 27 (by decide +kernel) rfl
theorem k_28 : (.selects RX8 yX8_isFile yX8_isFile : Cond) ∈ wd_G := wd_in 28 (by decide +kernel) rfl
theorem k_29 : (.selects RX8 yX8_isListener yX8_isListener : Cond) ∈ wd_G := wd_in 29 (by decide +kernel) rfl
theorem k_30 : (.selects RX8 yX8_lacks yX8_lacks : Cond) ∈ wd_G := wd_in 30 (by decide +kernel) rfl
theorem k_31 : (.selects RX8 yX8_knows yX8_knows : Cond) ∈ wd_G := wd_in 31 (by decide +kernel) rfl
theorem k_32 : (.selects RX8 yX8_partBits yX8_partBits : Cond) ∈ wd_G := wd_in 32 (by decide +kernel) rfl
theorem k_33 : (.selects RX8 yX8_wholes yX8_wholes : Cond) ∈ wd_G := wd_in 33 (by decide +kernel) rfl
theorem k_34 : (.selects RX8 yX8_waitIs yX8_waitIs : Cond) ∈ wd_G := wd_in 34 (by decide +kernel) rfl
theorem k_35 : (.selects RX8 yX8_waitsFrom yX8_waitsFrom : Cond) ∈ wd_G := wd_in 35 (by decide +kernel) rfl
theorem k_36 : (.initialized RL : Cond) ∈ wd_G := wd_in 36 (by decide +kernel) rfl
theorem k_37 : (.initialized RX7 : Cond) ∈ wd_G := wd_in 37 (by decide +kernel) rfl
theorem k_38 : (.initialized RX5 : Cond) ∈ wd_G := wd_in 38 (by decide +kernel) rfl
theorem k_39 : (.initialized RX3 : Cond) ∈ wd_G := wd_in 39 (by decide +kernel) rfl
theorem k_40 : (.initialized RX4 : Cond) ∈ wd_G := wd_in 40 (by decide +kernel) rfl
theorem k_41 : (.initialized RX6 : Cond) ∈ wd_G := wd_in 41 (by decide +kernel) rfl
theorem k_42 : (.initialized RX1 : Cond) ∈ wd_G := wd_in 42 (by decide +kernel) rfl
theorem k_43 : (.initialized "java/lang/System" : Cond) ∈ wd_G := wd_in 43 (by decide +kernel) rfl
theorem k_44 : (.initialized RX2 : Cond) ∈ wd_G := wd_in 44 (by decide +kernel) rfl
theorem k_45 : (.initialized RX0 : Cond) ∈ wd_G := wd_in 45 (by decide +kernel) rfl
theorem k_46 : (.initialized RX8 : Cond) ∈ wd_G := wd_in 46 (by decide +kernel) rfl
theorem k_47 : (.initialized "java/lang/Math" : Cond) ∈ wd_G := wd_in 47 (by decide +kernel) rfl
theorem k_48 : (.initialized "java/lang/Integer" : Cond) ∈ wd_G := wd_in 48 (by decide +kernel) rfl
theorem k_49 : (.initialized "java/lang/Float" : Cond) ∈ wd_G := wd_in 49 (by decide +kernel) rfl
theorem k_52 : (.methodLink RL 9 yX7_init : Cond) ∈ wd_G := wd_in 52 (by decide +kernel) rfl
theorem k_53 : (.instanceMethod yX7_init : Cond) ∈ wd_G := wd_in 53 (by decide +kernel) rfl
theorem k_54 : (.code yX7_init cX7_init 1 none : Cond) ∈ wd_G := wd_in 54 (by decide +kernel) rfl
theorem k_61 : (.instanceMethod yX5_init : Cond) ∈ wd_G := wd_in 61 (by decide +kernel) rfl
theorem k_62 : (.code yX5_init cX5_init 1 none : Cond) ∈ wd_G := wd_in 62 (by decide +kernel) rfl
theorem k_64 : (.fieldLink RX5 9 "FileRounds$Script" "letters" "[I" : Cond) ∈ wd_G := wd_in 64 (by decide +kernel) rfl
theorem k_65 : (.fieldLink RX5 15 "FileRounds$Script" "length" "I" : Cond) ∈ wd_G := wd_in 65 (by decide +kernel) rfl
theorem k_67 : (.fieldLink RX5 24 "FileRounds$Script" "at" "I" : Cond) ∈ wd_G := wd_in 67 (by decide +kernel) rfl
theorem k_68 : (.laysFinal "FileRounds$Script" "FileRounds$Script" "letters" "[I" : Cond) ∈ wd_G := wd_in 68 (by decide +kernel) rfl
theorem k_70 : (.lays "FileRounds$Script" "FileRounds$Script" "length" "I" : Cond) ∈ wd_G := wd_in 70 (by decide +kernel) rfl
theorem k_72 : (.lays "FileRounds$Script" "FileRounds$Script" "at" "I" : Cond) ∈ wd_G := wd_in 72 (by decide +kernel) rfl
theorem k_79 : (.instanceMethod yX3_init : Cond) ∈ wd_G := wd_in 79 (by decide +kernel) rfl
theorem k_80 : (.code yX3_init cX3_init 1 none : Cond) ∈ wd_G := wd_in 80 (by decide +kernel) rfl
theorem k_82 : (.fieldLink RX3 9 "FileRounds$Plan" "need" "[I" : Cond) ∈ wd_G := wd_in 82 (by decide +kernel) rfl
theorem k_86 : (.fieldLink RX3 15 "FileRounds$Plan" "spare" "[I" : Cond) ∈ wd_G := wd_in 86 (by decide +kernel) rfl
theorem k_88 : (.fieldLink RX3 18 "FileRounds$Plan" "firstWeight" "[I" : Cond) ∈ wd_G := wd_in 88 (by decide +kernel) rfl
theorem k_90 : (.fieldLink RX3 21 "FileRounds$Plan" "files" "I" : Cond) ∈ wd_G := wd_in 90 (by decide +kernel) rfl
theorem k_94 : (.fieldLink RX3 29 "FileRounds$Plan" "every" "I" : Cond) ∈ wd_G := wd_in 94 (by decide +kernel) rfl
theorem k_96 : (.fieldLink RX3 32 "FileRounds$Plan" "life" "I" : Cond) ∈ wd_G := wd_in 96 (by decide +kernel) rfl
theorem k_100 : (.laysFinal "FileRounds$Plan" "FileRounds$Plan" "need" "[I" : Cond) ∈ wd_G := wd_in 100 (by decide +kernel) rfl
theorem k_102 : (.laysFinal "FileRounds$Plan" "FileRounds$Plan" "spare" "[I" : Cond) ∈ wd_G := wd_in 102 (by decide +kernel) rfl
theorem k_104 : (.laysFinal "FileRounds$Plan" "FileRounds$Plan" "firstWeight" "[I" : Cond) ∈ wd_G := wd_in 104 (by decide +kernel) rfl
theorem k_106 : (.lays "FileRounds$Plan" "FileRounds$Plan" "files" "I" : Cond) ∈ wd_G := wd_in 106 (by decide +kernel) rfl
theorem k_108 : (.lays "FileRounds$Plan" "FileRounds$Plan" "every" "I" : Cond) ∈ wd_G := wd_in 108 (by decide +kernel) rfl
theorem k_110 : (.lays "FileRounds$Plan" "FileRounds$Plan" "life" "I" : Cond) ∈ wd_G := wd_in 110 (by decide +kernel) rfl
theorem k_113 : (.methodLink RX7 26 yX3_addFile : Cond) ∈ wd_G := wd_in 113 (by decide +kernel) rfl
theorem k_114 : (.instanceMethod yX3_addFile : Cond) ∈ wd_G := wd_in 114 (by decide +kernel) rfl
theorem k_115 : (.selects RX3 yX3_addFile yX3_addFile : Cond) ∈ wd_G := wd_in 115 (by decide +kernel) rfl
theorem k_116 : (.code yX3_addFile cX3_addFile 4 (some .boolean) : Cond) ∈ wd_G := wd_in 116 (by decide +kernel) rfl
theorem k_117 : (.methodLink RX7 30 yX3_setTable : Cond) ∈ wd_G := wd_in 117 (by decide +kernel) rfl
theorem k_118 : (.instanceMethod yX3_setTable : Cond) ∈ wd_G := wd_in 118 (by decide +kernel) rfl
theorem k_119 : (.selects RX3 yX3_setTable yX3_setTable : Cond) ∈ wd_G := wd_in 119 (by decide +kernel) rfl
theorem k_120 : (.code yX3_setTable cX3_setTable 3 none : Cond) ∈ wd_G := wd_in 120 (by decide +kernel) rfl
theorem k_123 : (.methodLink RX7 36 yX4_init : Cond) ∈ wd_G := wd_in 123 (by decide +kernel) rfl
theorem k_124 : (.instanceMethod yX4_init : Cond) ∈ wd_G := wd_in 124 (by decide +kernel) rfl
theorem k_125 : (.code yX4_init cX4_init 3 none : Cond) ∈ wd_G := wd_in 125 (by decide +kernel) rfl
theorem k_131 : (.methodLink RX4 19 yX6_init : Cond) ∈ wd_G := wd_in 131 (by decide +kernel) rfl
theorem k_132 : (.instanceMethod yX6_init : Cond) ∈ wd_G := wd_in 132 (by decide +kernel) rfl
theorem k_133 : (.code yX6_init cX6_init 2 none : Cond) ∈ wd_G := wd_in 133 (by decide +kernel) rfl
theorem k_135 : (.fieldLink RX6 36 "FileRounds$Sender" "plan" "LFileRounds$Plan;" : Cond) ∈ wd_G := wd_in 135 (by decide +kernel) rfl
theorem k_136 : (.fieldLink RX6 9 "FileRounds$Sender" "weight" "[I" : Cond) ∈ wd_G := wd_in 136 (by decide +kernel) rfl
theorem k_138 : (.fieldLink RX6 15 "FileRounds$Sender" "version" "[I" : Cond) ∈ wd_G := wd_in 138 (by decide +kernel) rfl
theorem k_141 : (.fieldLink RX6 18 "FileRounds$Sender" "next" "[I" : Cond) ∈ wd_G := wd_in 141 (by decide +kernel) rfl
theorem k_143 : (.fieldLink RX6 21 "FileRounds$Sender" "credit" "[I" : Cond) ∈ wd_G := wd_in 143 (by decide +kernel) rfl
theorem k_145 : (.fieldLink RX6 24 "FileRounds$Sender" "sentOf" "[I" : Cond) ∈ wd_G := wd_in 145 (by decide +kernel) rfl
theorem k_147 : (.fieldLink RX6 27 "FileRounds$Sender" "lastFiles" "[I" : Cond) ∈ wd_G := wd_in 147 (by decide +kernel) rfl
theorem k_148 : (.fieldLink RX6 30 "FileRounds$Sender" "lastSymbols" "[I" : Cond) ∈ wd_G := wd_in 148 (by decide +kernel) rfl
theorem k_149 : (.fieldLink RX6 33 "FileRounds$Sender" "lastVersions" "[I" : Cond) ∈ wd_G := wd_in 149 (by decide +kernel) rfl
theorem k_151 : (.fieldLink RX6 51 "FileRounds$Sender" "clock" "I" : Cond) ∈ wd_G := wd_in 151 (by decide +kernel) rfl
theorem k_154 : (.fieldLink RX6 55 "FileRounds$Sender" "tables" "I" : Cond) ∈ wd_G := wd_in 154 (by decide +kernel) rfl
theorem k_156 : (.fieldLink RX6 58 "FileRounds$Sender" "symbols" "I" : Cond) ∈ wd_G := wd_in 156 (by decide +kernel) rfl
theorem k_158 : (.laysFinal "FileRounds$Sender" "FileRounds$Sender" "plan" "LFileRounds$Plan;" : Cond) ∈ wd_G := wd_in 158 (by decide +kernel) rfl
theorem k_160 : (.laysFinal "FileRounds$Sender" "FileRounds$Sender" "weight" "[I" : Cond) ∈ wd_G := wd_in 160 (by decide +kernel) rfl
theorem k_162 : (.laysFinal "FileRounds$Sender" "FileRounds$Sender" "version" "[I" : Cond) ∈ wd_G := wd_in 162 (by decide +kernel) rfl
theorem k_164 : (.laysFinal "FileRounds$Sender" "FileRounds$Sender" "next" "[I" : Cond) ∈ wd_G := wd_in 164 (by decide +kernel) rfl
theorem k_166 : (.laysFinal "FileRounds$Sender" "FileRounds$Sender" "credit" "[I" : Cond) ∈ wd_G := wd_in 166 (by decide +kernel) rfl
theorem k_168 : (.laysFinal "FileRounds$Sender" "FileRounds$Sender" "sentOf" "[I" : Cond) ∈ wd_G := wd_in 168 (by decide +kernel) rfl
theorem k_170 : (.laysFinal "FileRounds$Sender" "FileRounds$Sender" "lastFiles" "[I" : Cond) ∈ wd_G := wd_in 170 (by decide +kernel) rfl
theorem k_172 : (.laysFinal "FileRounds$Sender" "FileRounds$Sender" "lastSymbols" "[I" : Cond) ∈ wd_G := wd_in 172 (by decide +kernel) rfl
theorem k_174 : (.laysFinal "FileRounds$Sender" "FileRounds$Sender" "lastVersions" "[I" : Cond) ∈ wd_G := wd_in 174 (by decide +kernel) rfl
theorem k_176 : (.lays "FileRounds$Sender" "FileRounds$Sender" "clock" "I" : Cond) ∈ wd_G := wd_in 176 (by decide +kernel) rfl
theorem k_178 : (.lays "FileRounds$Sender" "FileRounds$Sender" "tables" "I" : Cond) ∈ wd_G := wd_in 178 (by decide +kernel) rfl
theorem k_180 : (.lays "FileRounds$Sender" "FileRounds$Sender" "symbols" "I" : Cond) ∈ wd_G := wd_in 180 (by decide +kernel) rfl
theorem k_184 : (.methodLink RX4 26 yX1_init : Cond) ∈ wd_G := wd_in 184 (by decide +kernel) rfl
theorem k_185 : (.instanceMethod yX1_init : Cond) ∈ wd_G := wd_in 185 (by decide +kernel) rfl
theorem k_186 : (.code yX1_init cX1_init 3 none : Cond) ∈ wd_G := wd_in 186 (by decide +kernel) rfl
theorem k_188 : (.fieldLink RX1 18 "FileRounds$Listener" "plan" "LFileRounds$Plan;" : Cond) ∈ wd_G := wd_in 188 (by decide +kernel) rfl
theorem k_189 : (.fieldLink RX1 22 "FileRounds$Listener" "number" "I" : Cond) ∈ wd_G := wd_in 189 (by decide +kernel) rfl
theorem k_190 : (.fieldLink RX1 9 "FileRounds$Listener" "held" "[I" : Cond) ∈ wd_G := wd_in 190 (by decide +kernel) rfl
theorem k_192 : (.fieldLink RX1 15 "FileRounds$Listener" "told" "[I" : Cond) ∈ wd_G := wd_in 192 (by decide +kernel) rfl
theorem k_194 : (.fieldLink RX1 26 "FileRounds$Listener" "loss" "I" : Cond) ∈ wd_G := wd_in 194 (by decide +kernel) rfl
theorem k_196 : (.fieldLink RX1 29 "FileRounds$Listener" "came" "I" : Cond) ∈ wd_G := wd_in 196 (by decide +kernel) rfl
theorem k_198 : (.fieldLink RX1 32 "FileRounds$Listener" "livesTo" "I" : Cond) ∈ wd_G := wd_in 198 (by decide +kernel) rfl
theorem k_200 : (.fieldLink RX1 35 "FileRounds$Listener" "missed" "I" : Cond) ∈ wd_G := wd_in 200 (by decide +kernel) rfl
theorem k_202 : (.laysFinal "FileRounds$Listener" "FileRounds$Listener" "plan" "LFileRounds$Plan;" : Cond) ∈ wd_G := wd_in 202 (by decide +kernel) rfl
theorem k_204 : (.laysFinal "FileRounds$Listener" "FileRounds$Listener" "number" "I" : Cond) ∈ wd_G := wd_in 204 (by decide +kernel) rfl
theorem k_206 : (.laysFinal "FileRounds$Listener" "FileRounds$Listener" "held" "[I" : Cond) ∈ wd_G := wd_in 206 (by decide +kernel) rfl
theorem k_208 : (.laysFinal "FileRounds$Listener" "FileRounds$Listener" "told" "[I" : Cond) ∈ wd_G := wd_in 208 (by decide +kernel) rfl
theorem k_210 : (.lays "FileRounds$Listener" "FileRounds$Listener" "loss" "I" : Cond) ∈ wd_G := wd_in 210 (by decide +kernel) rfl
theorem k_212 : (.lays "FileRounds$Listener" "FileRounds$Listener" "came" "I" : Cond) ∈ wd_G := wd_in 212 (by decide +kernel) rfl
theorem k_214 : (.lays "FileRounds$Listener" "FileRounds$Listener" "livesTo" "I" : Cond) ∈ wd_G := wd_in 214 (by decide +kernel) rfl
theorem k_216 : (.lays "FileRounds$Listener" "FileRounds$Listener" "missed" "I" : Cond) ∈ wd_G := wd_in 216 (by decide +kernel) rfl
theorem k_219 : (.fieldLink RX4 22 "FileRounds$Rounds" "sender" "LFileRounds$Sender;" : Cond) ∈ wd_G := wd_in 219 (by decide +kernel) rfl
theorem k_221 : (.fieldLink RX4 11 "FileRounds$Rounds" "listeners" "[LFileRounds$Listener;" : Cond) ∈ wd_G := wd_in 221 (by decide +kernel) rfl
theorem k_223 : (.fieldLink RX4 32 "FileRounds$Rounds" "joined" "I" : Cond) ∈ wd_G := wd_in 223 (by decide +kernel) rfl
theorem k_225 : (.laysFinal "FileRounds$Rounds" "FileRounds$Rounds" "sender" "LFileRounds$Sender;" : Cond) ∈ wd_G := wd_in 225 (by decide +kernel) rfl
theorem k_227 : (.laysFinal "FileRounds$Rounds" "FileRounds$Rounds" "listeners" "[LFileRounds$Listener;" : Cond) ∈ wd_G := wd_in 227 (by decide +kernel) rfl
theorem k_229 : (.lays "FileRounds$Rounds" "FileRounds$Rounds" "joined" "I" : Cond) ∈ wd_G := wd_in 229 (by decide +kernel) rfl
theorem k_232 : (.methodLink RX7 43 yX4_begin : Cond) ∈ wd_G := wd_in 232 (by decide +kernel) rfl
theorem k_233 : (.instanceMethod yX4_begin : Cond) ∈ wd_G := wd_in 233 (by decide +kernel) rfl
theorem k_234 : (.selects RX4 yX4_begin yX4_begin : Cond) ∈ wd_G := wd_in 234 (by decide +kernel) rfl
theorem k_235 : (.code yX4_begin cX4_begin 1 none : Cond) ∈ wd_G := wd_in 235 (by decide +kernel) rfl
theorem k_236 : (.methodLink RX4 29 yX6_begin : Cond) ∈ wd_G := wd_in 236 (by decide +kernel) rfl
theorem k_237 : (.instanceMethod yX6_begin : Cond) ∈ wd_G := wd_in 237 (by decide +kernel) rfl
theorem k_238 : (.selects RX6 yX6_begin yX6_begin : Cond) ∈ wd_G := wd_in 238 (by decide +kernel) rfl
theorem k_239 : (.code yX6_begin cX6_begin 2 none : Cond) ∈ wd_G := wd_in 239 (by decide +kernel) rfl
theorem k_240 : (.methodLink RX6 45 arraycopyName : Cond) ∈ wd_G := wd_in 240 (by decide +kernel) rfl
theorem k_241 : (.static arraycopyName : Cond) ∈ wd_G := wd_in 241 (by decide +kernel) rfl
theorem k_242 : (.native arraycopyName : Cond) ∈ wd_G := wd_in 242 (by decide +kernel) rfl
theorem k_245 : (.methodLink RX7 48 yX2_init : Cond) ∈ wd_G := wd_in 245 (by decide +kernel) rfl
theorem k_246 : (.instanceMethod yX2_init : Cond) ∈ wd_G := wd_in 246 (by decide +kernel) rfl
theorem k_247 : (.code yX2_init cX2_init 3 none : Cond) ∈ wd_G := wd_in 247 (by decide +kernel) rfl
theorem k_251 : (.methodLink RX2 17 yX4_init : Cond) ∈ wd_G := wd_in 251 (by decide +kernel) rfl
theorem k_252 : (.fieldLink RX2 11 "FileRounds$Past" "kept" "[LFileRounds$Rounds;" : Cond) ∈ wd_G := wd_in 252 (by decide +kernel) rfl
theorem k_253 : (.fieldLink RX2 20 "FileRounds$Past" "made" "I" : Cond) ∈ wd_G := wd_in 253 (by decide +kernel) rfl
theorem k_254 : (.fieldLink RX2 28 "FileRounds$Past" "size" "I" : Cond) ∈ wd_G := wd_in 254 (by decide +kernel) rfl
theorem k_256 : (.laysFinal "FileRounds$Past" "FileRounds$Past" "kept" "[LFileRounds$Rounds;" : Cond) ∈ wd_G := wd_in 256 (by decide +kernel) rfl
theorem k_258 : (.lays "FileRounds$Past" "FileRounds$Past" "made" "I" : Cond) ∈ wd_G := wd_in 258 (by decide +kernel) rfl
theorem k_260 : (.lays "FileRounds$Past" "FileRounds$Past" "size" "I" : Cond) ∈ wd_G := wd_in 260 (by decide +kernel) rfl
theorem k_265 : (.methodLink RX7 55 yX0_init : Cond) ∈ wd_G := wd_in 265 (by decide +kernel) rfl
theorem k_266 : (.instanceMethod yX0_init : Cond) ∈ wd_G := wd_in 266 (by decide +kernel) rfl
theorem k_267 : (.code yX0_init cX0_init 2 none : Cond) ∈ wd_G := wd_in 267 (by decide +kernel) rfl
theorem k_270 : (.methodLink RX0 21 yX6_init : Cond) ∈ wd_G := wd_in 270 (by decide +kernel) rfl
theorem k_271 : (.fieldLink RX0 15 "FileRounds$Forecast" "plan" "LFileRounds$Plan;" : Cond) ∈ wd_G := wd_in 271 (by decide +kernel) rfl
theorem k_272 : (.fieldLink RX0 24 "FileRounds$Forecast" "ahead" "LFileRounds$Sender;" : Cond) ∈ wd_G := wd_in 272 (by decide +kernel) rfl
theorem k_273 : (.fieldLink RX0 9 "FileRounds$Forecast" "coming" "[I" : Cond) ∈ wd_G := wd_in 273 (by decide +kernel) rfl
theorem k_274 : (.fieldLink RX0 49 "FileRounds$Forecast" "known" "I" : Cond) ∈ wd_G := wd_in 274 (by decide +kernel) rfl
theorem k_275 : (.fieldLink RX0 37 "FileRounds$Forecast" "need" "I" : Cond) ∈ wd_G := wd_in 275 (by decide +kernel) rfl
theorem k_276 : (.laysFinal "FileRounds$Forecast" "FileRounds$Forecast" "plan" "LFileRounds$Plan;" : Cond) ∈ wd_G := wd_in 276 (by decide +kernel) rfl
theorem k_278 : (.laysFinal "FileRounds$Forecast" "FileRounds$Forecast" "ahead" "LFileRounds$Sender;" : Cond) ∈ wd_G := wd_in 278 (by decide +kernel) rfl
theorem k_280 : (.laysFinal "FileRounds$Forecast" "FileRounds$Forecast" "coming" "[I" : Cond) ∈ wd_G := wd_in 280 (by decide +kernel) rfl
theorem k_282 : (.lays "FileRounds$Forecast" "FileRounds$Forecast" "known" "I" : Cond) ∈ wd_G := wd_in 282 (by decide +kernel) rfl
theorem k_284 : (.lays "FileRounds$Forecast" "FileRounds$Forecast" "need" "I" : Cond) ∈ wd_G := wd_in 284 (by decide +kernel) rfl
theorem k_287 : (.fieldLink RX7 12 "FileRounds" "script" "LFileRounds$Script;" : Cond) ∈ wd_G := wd_in 287 (by decide +kernel) rfl
theorem k_288 : (.fieldLink RX7 19 "FileRounds" "read" "LFileRounds$Plan;" : Cond) ∈ wd_G := wd_in 288 (by decide +kernel) rfl
theorem k_289 : (.fieldLink RX7 23 "FileRounds" "laid" "LFileRounds$Plan;" : Cond) ∈ wd_G := wd_in 289 (by decide +kernel) rfl
theorem k_290 : (.fieldLink RX7 39 "FileRounds" "now" "LFileRounds$Rounds;" : Cond) ∈ wd_G := wd_in 290 (by decide +kernel) rfl
theorem k_291 : (.fieldLink RX7 49 "FileRounds" "past" "LFileRounds$Past;" : Cond) ∈ wd_G := wd_in 291 (by decide +kernel) rfl
theorem k_292 : (.fieldLink RX7 56 "FileRounds" "forecast" "LFileRounds$Forecast;" : Cond) ∈ wd_G := wd_in 292 (by decide +kernel) rfl
theorem k_293 : (.laysFinal "FileRounds" "FileRounds" "script" "LFileRounds$Script;" : Cond) ∈ wd_G := wd_in 293 (by decide +kernel) rfl
theorem k_295 : (.laysFinal "FileRounds" "FileRounds" "read" "LFileRounds$Plan;" : Cond) ∈ wd_G := wd_in 295 (by decide +kernel) rfl
theorem k_297 : (.laysFinal "FileRounds" "FileRounds" "laid" "LFileRounds$Plan;" : Cond) ∈ wd_G := wd_in 297 (by decide +kernel) rfl
theorem k_299 : (.laysFinal "FileRounds" "FileRounds" "now" "LFileRounds$Rounds;" : Cond) ∈ wd_G := wd_in 299 (by decide +kernel) rfl
theorem k_301 : (.laysFinal "FileRounds" "FileRounds" "past" "LFileRounds$Past;" : Cond) ∈ wd_G := wd_in 301 (by decide +kernel) rfl
theorem k_303 : (.laysFinal "FileRounds" "FileRounds" "forecast" "LFileRounds$Forecast;" : Cond) ∈ wd_G := wd_in 303 (by decide +kernel) rfl
theorem k_306 : (.methodLink RL 13 yX7_write : Cond) ∈ wd_G := wd_in 306 (by decide +kernel) rfl
theorem k_307 : (.instanceMethod yX7_write : Cond) ∈ wd_G := wd_in 307 (by decide +kernel) rfl
theorem k_308 : (.selects RX7 yX7_write yX7_write : Cond) ∈ wd_G := wd_in 308 (by decide +kernel) rfl
theorem k_309 : (.code yX7_write cX7_write 2 (some .int) : Cond) ∈ wd_G := wd_in 309 (by decide +kernel) rfl
theorem k_310 : (.methodLink RX7 60 yX5_append : Cond) ∈ wd_G := wd_in 310 (by decide +kernel) rfl
theorem k_311 : (.instanceMethod yX5_append : Cond) ∈ wd_G := wd_in 311 (by decide +kernel) rfl
theorem k_312 : (.selects RX5 yX5_append yX5_append : Cond) ∈ wd_G := wd_in 312 (by decide +kernel) rfl
theorem k_313 : (.code yX5_append cX5_append 2 (some .boolean) : Cond) ∈ wd_G := wd_in 313 (by decide +kernel) rfl
theorem k_314 : (.methodLink RL 18 yX7_wipe : Cond) ∈ wd_G := wd_in 314 (by decide +kernel) rfl
theorem k_315 : (.instanceMethod yX7_wipe : Cond) ∈ wd_G := wd_in 315 (by decide +kernel) rfl
theorem k_316 : (.selects RX7 yX7_wipe yX7_wipe : Cond) ∈ wd_G := wd_in 316 (by decide +kernel) rfl
theorem k_317 : (.code yX7_wipe cX7_wipe 2 (some .int) : Cond) ∈ wd_G := wd_in 317 (by decide +kernel) rfl
theorem k_318 : (.methodLink RL 23 yX7_fault : Cond) ∈ wd_G := wd_in 318 (by decide +kernel) rfl
theorem k_319 : (.instanceMethod yX7_fault : Cond) ∈ wd_G := wd_in 319 (by decide +kernel) rfl
theorem k_320 : (.selects RX7 yX7_fault yX7_fault : Cond) ∈ wd_G := wd_in 320 (by decide +kernel) rfl
theorem k_321 : (.code yX7_fault cX7_fault 1 (some .int) : Cond) ∈ wd_G := wd_in 321 (by decide +kernel) rfl
theorem k_322 : (.methodLink RX7 68 yX5_firstFault : Cond) ∈ wd_G := wd_in 322 (by decide +kernel) rfl
theorem k_323 : (.instanceMethod yX5_firstFault : Cond) ∈ wd_G := wd_in 323 (by decide +kernel) rfl
theorem k_324 : (.selects RX5 yX5_firstFault yX5_firstFault : Cond) ∈ wd_G := wd_in 324 (by decide +kernel) rfl
theorem k_325 : (.code yX5_firstFault cX5_firstFault 4 (some .int) : Cond) ∈ wd_G := wd_in 325 (by decide +kernel) rfl
theorem k_326 : (.methodLink RX5 19 yX3_clear : Cond) ∈ wd_G := wd_in 326 (by decide +kernel) rfl
theorem k_327 : (.instanceMethod yX3_clear : Cond) ∈ wd_G := wd_in 327 (by decide +kernel) rfl
theorem k_328 : (.selects RX3 yX3_clear yX3_clear : Cond) ∈ wd_G := wd_in 328 (by decide +kernel) rfl
theorem k_329 : (.code yX3_clear cX3_clear 1 none : Cond) ∈ wd_G := wd_in 329 (by decide +kernel) rfl
theorem k_330 : (.methodLink RX3 25 yX3_setTable : Cond) ∈ wd_G := wd_in 330 (by decide +kernel) rfl
theorem k_331 : (.methodLink RX5 27 yX5_readItem : Cond) ∈ wd_G := wd_in 331 (by decide +kernel) rfl
theorem k_333 : (.instanceMethod yX5_readItem : Cond) ∈ wd_G := wd_in 333 (by decide +kernel) rfl
theorem k_334 : (.code yX5_readItem cX5_readItem 2 (some .boolean) : Cond) ∈ wd_G := wd_in 334 (by decide +kernel) rfl
theorem k_335 : (.methodLink RX5 31 yX5_takes : Cond) ∈ wd_G := wd_in 335 (by decide +kernel) rfl
theorem k_337 : (.instanceMethod yX5_takes : Cond) ∈ wd_G := wd_in 337 (by decide +kernel) rfl
theorem k_338 : (.code yX5_takes cX5_takes 2 (some .boolean) : Cond) ∈ wd_G := wd_in 338 (by decide +kernel) rfl
theorem k_339 : (.methodLink RX5 35 yX5_readFile : Cond) ∈ wd_G := wd_in 339 (by decide +kernel) rfl
theorem k_341 : (.instanceMethod yX5_readFile : Cond) ∈ wd_G := wd_in 341 (by decide +kernel) rfl
theorem k_342 : (.code yX5_readFile cX5_readFile 5 (some .boolean) : Cond) ∈ wd_G := wd_in 342 (by decide +kernel) rfl
theorem k_343 : (.methodLink RX5 41 yX5_readNumber : Cond) ∈ wd_G := wd_in 343 (by decide +kernel) rfl
theorem k_345 : (.instanceMethod yX5_readNumber : Cond) ∈ wd_G := wd_in 345 (by decide +kernel) rfl
theorem k_346 : (.code yX5_readNumber cX5_readNumber 4 (some .int) : Cond) ∈ wd_G := wd_in 346 (by decide +kernel) rfl
theorem k_347 : (.methodLink RX5 53 yX5_readFigure : Cond) ∈ wd_G := wd_in 347 (by decide +kernel) rfl
theorem k_349 : (.instanceMethod yX5_readFigure : Cond) ∈ wd_G := wd_in 349 (by decide +kernel) rfl
theorem k_350 : (.code yX5_readFigure cX5_readFigure 2 (some .int) : Cond) ∈ wd_G := wd_in 350 (by decide +kernel) rfl
theorem k_351 : (.methodLink RX5 45 yX3_addFile : Cond) ∈ wd_G := wd_in 351 (by decide +kernel) rfl
theorem k_352 : (.methodLink RX5 38 yX5_readTable : Cond) ∈ wd_G := wd_in 352 (by decide +kernel) rfl
theorem k_354 : (.instanceMethod yX5_readTable : Cond) ∈ wd_G := wd_in 354 (by decide +kernel) rfl
theorem k_355 : (.code yX5_readTable cX5_readTable 4 (some .boolean) : Cond) ∈ wd_G := wd_in 355 (by decide +kernel) rfl
theorem k_356 : (.methodLink RX5 49 yX3_setTable : Cond) ∈ wd_G := wd_in 356 (by decide +kernel) rfl
theorem k_357 : (.methodLink RL 27 yX7_lay : Cond) ∈ wd_G := wd_in 357 (by decide +kernel) rfl
theorem k_358 : (.instanceMethod yX7_lay : Cond) ∈ wd_G := wd_in 358 (by decide +kernel) rfl
theorem k_359 : (.selects RX7 yX7_lay yX7_lay : Cond) ∈ wd_G := wd_in 359 (by decide +kernel) rfl
theorem k_360 : (.code yX7_lay cX7_lay 1 (some .int) : Cond) ∈ wd_G := wd_in 360 (by decide +kernel) rfl
theorem k_361 : (.methodLink RX7 75 yX3_become : Cond) ∈ wd_G := wd_in 361 (by decide +kernel) rfl
theorem k_362 : (.instanceMethod yX3_become : Cond) ∈ wd_G := wd_in 362 (by decide +kernel) rfl
theorem k_363 : (.selects RX3 yX3_become yX3_become : Cond) ∈ wd_G := wd_in 363 (by decide +kernel) rfl
theorem k_364 : (.code yX3_become cX3_become 2 none : Cond) ∈ wd_G := wd_in 364 (by decide +kernel) rfl
theorem k_365 : (.methodLink RX3 35 arraycopyName : Cond) ∈ wd_G := wd_in 365 (by decide +kernel) rfl
theorem k_366 : (.methodLink RX7 78 yX2_forget : Cond) ∈ wd_G := wd_in 366 (by decide +kernel) rfl
theorem k_367 : (.instanceMethod yX2_forget : Cond) ∈ wd_G := wd_in 367 (by decide +kernel) rfl
theorem k_368 : (.selects RX2 yX2_forget yX2_forget : Cond) ∈ wd_G := wd_in 368 (by decide +kernel) rfl
theorem k_369 : (.code yX2_forget cX2_forget 1 none : Cond) ∈ wd_G := wd_in 369 (by decide +kernel) rfl
theorem k_370 : (.methodLink RL 31 yX7_tick : Cond) ∈ wd_G := wd_in 370 (by decide +kernel) rfl
theorem k_371 : (.instanceMethod yX7_tick : Cond) ∈ wd_G := wd_in 371 (by decide +kernel) rfl
theorem k_372 : (.selects RX7 yX7_tick yX7_tick : Cond) ∈ wd_G := wd_in 372 (by decide +kernel) rfl
theorem k_373 : (.code yX7_tick cX7_tick 4 (some .int) : Cond) ∈ wd_G := wd_in 373 (by decide +kernel) rfl
theorem k_374 : (.methodLink RX7 90 yX2_keep : Cond) ∈ wd_G := wd_in 374 (by decide +kernel) rfl
theorem k_375 : (.instanceMethod yX2_keep : Cond) ∈ wd_G := wd_in 375 (by decide +kernel) rfl
theorem k_376 : (.selects RX2 yX2_keep yX2_keep : Cond) ∈ wd_G := wd_in 376 (by decide +kernel) rfl
theorem k_377 : (.code yX2_keep cX2_keep 2 none : Cond) ∈ wd_G := wd_in 377 (by decide +kernel) rfl
theorem k_378 : (.methodLink RX2 24 yX4_become : Cond) ∈ wd_G := wd_in 378 (by decide +kernel) rfl
theorem k_379 : (.instanceMethod yX4_become : Cond) ∈ wd_G := wd_in 379 (by decide +kernel) rfl
theorem k_380 : (.selects RX4 yX4_become yX4_become : Cond) ∈ wd_G := wd_in 380 (by decide +kernel) rfl
theorem k_381 : (.code yX4_become cX4_become 3 none : Cond) ∈ wd_G := wd_in 381 (by decide +kernel) rfl
theorem k_382 : (.methodLink RX4 36 yX6_become : Cond) ∈ wd_G := wd_in 382 (by decide +kernel) rfl
theorem k_383 : (.instanceMethod yX6_become : Cond) ∈ wd_G := wd_in 383 (by decide +kernel) rfl
theorem k_384 : (.selects RX6 yX6_become yX6_become : Cond) ∈ wd_G := wd_in 384 (by decide +kernel) rfl
theorem k_385 : (.code yX6_become cX6_become 2 none : Cond) ∈ wd_G := wd_in 385 (by decide +kernel) rfl
theorem k_386 : (.methodLink RX4 40 yX1_become : Cond) ∈ wd_G := wd_in 386 (by decide +kernel) rfl
theorem k_387 : (.instanceMethod yX1_become : Cond) ∈ wd_G := wd_in 387 (by decide +kernel) rfl
theorem k_388 : (.selects RX1 yX1_become yX1_become : Cond) ∈ wd_G := wd_in 388 (by decide +kernel) rfl
theorem k_389 : (.code yX1_become cX1_become 2 none : Cond) ∈ wd_G := wd_in 389 (by decide +kernel) rfl
theorem k_390 : (.methodLink RX1 38 arraycopyName : Cond) ∈ wd_G := wd_in 390 (by decide +kernel) rfl
theorem k_391 : (.methodLink RX2 31 Lib.Math.min.name : Cond) ∈ wd_G := wd_in 391 (by decide +kernel) rfl
theorem k_392 : (.static Lib.Math.min.name : Cond) ∈ wd_G := wd_in 392 (by decide +kernel) rfl
theorem k_393 : (.code Lib.Math.min.name Lib.Math.min.code 2 (some .int) : Cond) ∈ wd_G := wd_in 393 (by decide +kernel) rfl
theorem k_394 : (.methodLink RX7 97 yX4_advance : Cond) ∈ wd_G := wd_in 394 (by decide +kernel) rfl
theorem k_395 : (.instanceMethod yX4_advance : Cond) ∈ wd_G := wd_in 395 (by decide +kernel) rfl
theorem k_396 : (.selects RX4 yX4_advance yX4_advance : Cond) ∈ wd_G := wd_in 396 (by decide +kernel) rfl
theorem k_397 : (.code yX4_advance cX4_advance 3 none : Cond) ∈ wd_G := wd_in 397 (by decide +kernel) rfl
theorem k_398 : (.methodLink RX4 50 yX6_step : Cond) ∈ wd_G := wd_in 398 (by decide +kernel) rfl
theorem k_399 : (.instanceMethod yX6_step : Cond) ∈ wd_G := wd_in 399 (by decide +kernel) rfl
theorem k_400 : (.selects RX6 yX6_step yX6_step : Cond) ∈ wd_G := wd_in 400 (by decide +kernel) rfl
theorem k_401 : (.code yX6_step cX6_step 1 none : Cond) ∈ wd_G := wd_in 401 (by decide +kernel) rfl
theorem k_402 : (.methodLink RX6 61 yX3_isTableTurn : Cond) ∈ wd_G := wd_in 402 (by decide +kernel) rfl
theorem k_403 : (.instanceMethod yX3_isTableTurn : Cond) ∈ wd_G := wd_in 403 (by decide +kernel) rfl
theorem k_404 : (.selects RX3 yX3_isTableTurn yX3_isTableTurn : Cond) ∈ wd_G := wd_in 404 (by decide +kernel) rfl
theorem k_405 : (.code yX3_isTableTurn cX3_isTableTurn 2 (some .boolean) : Cond) ∈ wd_G := wd_in 405 (by decide +kernel) rfl
theorem k_406 : (.methodLink RX6 65 yX6_note : Cond) ∈ wd_G := wd_in 406 (by decide +kernel) rfl
theorem k_408 : (.instanceMethod yX6_note : Cond) ∈ wd_G := wd_in 408 (by decide +kernel) rfl
theorem k_409 : (.code yX6_note cX6_note 5 none : Cond) ∈ wd_G := wd_in 409 (by decide +kernel) rfl
theorem k_410 : (.methodLink RX6 87 yX6_placeOf : Cond) ∈ wd_G := wd_in 410 (by decide +kernel) rfl
theorem k_411 : (.static yX6_placeOf : Cond) ∈ wd_G := wd_in 411 (by decide +kernel) rfl
theorem k_412 : (.code yX6_placeOf cX6_placeOf 1 (some .int) : Cond) ∈ wd_G := wd_in 412 (by decide +kernel) rfl
theorem k_413 : (.methodLink RX6 90 yJ9_floorMod_7cf53 : Cond) ∈ wd_G := wd_in 413 (by decide +kernel) rfl
theorem k_414 : (.static yJ9_floorMod_7cf53 : Cond) ∈ wd_G := wd_in 414 (by decide +kernel) rfl
theorem k_415 : (.code yJ9_floorMod_7cf53 cJ9_floorMod_7cf53 3 (some .int) : Cond) ∈ wd_G := wd_in 415 (by decide +kernel) rfl
theorem k_416 : (.methodLink RX6 69 yX6_chooseFile : Cond) ∈ wd_G := wd_in 416 (by decide +kernel) rfl
theorem k_418 : (.instanceMethod yX6_chooseFile : Cond) ∈ wd_G := wd_in 418 (by decide +kernel) rfl
theorem k_419 : (.code yX6_chooseFile cX6_chooseFile 4 (some .int) : Cond) ∈ wd_G := wd_in 419 (by decide +kernel) rfl
theorem k_420 : (.methodLink RX6 77 yX6_allWeights : Cond) ∈ wd_G := wd_in 420 (by decide +kernel) rfl
theorem k_421 : (.instanceMethod yX6_allWeights : Cond) ∈ wd_G := wd_in 421 (by decide +kernel) rfl
theorem k_422 : (.selects RX6 yX6_allWeights yX6_allWeights : Cond) ∈ wd_G := wd_in 422 (by decide +kernel) rfl
theorem k_423 : (.code yX6_allWeights cX6_allWeights 3 (some .int) : Cond) ∈ wd_G := wd_in 423 (by decide +kernel) rfl
theorem k_424 : (.methodLink RX6 73 yX6_sendSymbol : Cond) ∈ wd_G := wd_in 424 (by decide +kernel) rfl
theorem k_426 : (.instanceMethod yX6_sendSymbol : Cond) ∈ wd_G := wd_in 426 (by decide +kernel) rfl
theorem k_427 : (.code yX6_sendSymbol cX6_sendSymbol 3 none : Cond) ∈ wd_G := wd_in 427 (by decide +kernel) rfl
theorem k_428 : (.methodLink RX6 83 yX3_symbolsOf : Cond) ∈ wd_G := wd_in 428 (by decide +kernel) rfl
theorem k_429 : (.instanceMethod yX3_symbolsOf : Cond) ∈ wd_G := wd_in 429 (by decide +kernel) rfl
theorem k_430 : (.selects RX3 yX3_symbolsOf yX3_symbolsOf : Cond) ∈ wd_G := wd_in 430 (by decide +kernel) rfl
theorem k_431 : (.code yX3_symbolsOf cX3_symbolsOf 2 (some .int) : Cond) ∈ wd_G := wd_in 431 (by decide +kernel) rfl
theorem k_432 : (.methodLink RX4 53 yX1_hear : Cond) ∈ wd_G := wd_in 432 (by decide +kernel) rfl
theorem k_433 : (.instanceMethod yX1_hear : Cond) ∈ wd_G := wd_in 433 (by decide +kernel) rfl
theorem k_434 : (.selects RX1 yX1_hear yX1_hear : Cond) ∈ wd_G := wd_in 434 (by decide +kernel) rfl
theorem k_435 : (.code yX1_hear cX1_hear 4 none : Cond) ∈ wd_G := wd_in 435 (by decide +kernel) rfl
theorem k_436 : (.methodLink RX1 44 yX1_loses : Cond) ∈ wd_G := wd_in 436 (by decide +kernel) rfl
theorem k_438 : (.instanceMethod yX1_loses : Cond) ∈ wd_G := wd_in 438 (by decide +kernel) rfl
theorem k_439 : (.code yX1_loses cX1_loses 4 (some .boolean) : Cond) ∈ wd_G := wd_in 439 (by decide +kernel) rfl
theorem k_440 : (.constantLong RX1 76 7919 : Cond) ∈ wd_G := wd_in 440 (by decide +kernel) rfl
theorem k_441 : (.constantLong RX1 78 3571 : Cond) ∈ wd_G := wd_in 441 (by decide +kernel) rfl
theorem k_442 : (.constantLong RX1 80 65521 : Cond) ∈ wd_G := wd_in 442 (by decide +kernel) rfl
theorem k_443 : (.constantLong RX1 82 100 : Cond) ∈ wd_G := wd_in 443 (by decide +kernel) rfl
theorem k_444 : (.methodLink RX1 48 yX6_fileIn : Cond) ∈ wd_G := wd_in 444 (by decide +kernel) rfl
theorem k_445 : (.instanceMethod yX6_fileIn : Cond) ∈ wd_G := wd_in 445 (by decide +kernel) rfl
theorem k_446 : (.selects RX6 yX6_fileIn yX6_fileIn : Cond) ∈ wd_G := wd_in 446 (by decide +kernel) rfl
theorem k_447 : (.code yX6_fileIn cX6_fileIn 2 (some .int) : Cond) ∈ wd_G := wd_in 447 (by decide +kernel) rfl
theorem k_448 : (.methodLink RX1 57 yX1_takeTable : Cond) ∈ wd_G := wd_in 448 (by decide +kernel) rfl
theorem k_450 : (.instanceMethod yX1_takeTable : Cond) ∈ wd_G := wd_in 450 (by decide +kernel) rfl
theorem k_451 : (.code yX1_takeTable cX1_takeTable 4 none : Cond) ∈ wd_G := wd_in 451 (by decide +kernel) rfl
theorem k_452 : (.methodLink RX1 61 yX3_hasFile : Cond) ∈ wd_G := wd_in 452 (by decide +kernel) rfl
theorem k_453 : (.instanceMethod yX3_hasFile : Cond) ∈ wd_G := wd_in 453 (by decide +kernel) rfl
theorem k_454 : (.selects RX3 yX3_hasFile yX3_hasFile : Cond) ∈ wd_G := wd_in 454 (by decide +kernel) rfl
theorem k_455 : (.code yX3_hasFile cX3_hasFile 2 (some .boolean) : Cond) ∈ wd_G := wd_in 455 (by decide +kernel) rfl
theorem k_456 : (.methodLink RX1 66 yX6_symbolIn : Cond) ∈ wd_G := wd_in 456 (by decide +kernel) rfl
theorem k_457 : (.instanceMethod yX6_symbolIn : Cond) ∈ wd_G := wd_in 457 (by decide +kernel) rfl
theorem k_458 : (.selects RX6 yX6_symbolIn yX6_symbolIn : Cond) ∈ wd_G := wd_in 458 (by decide +kernel) rfl
theorem k_459 : (.code yX6_symbolIn cX6_symbolIn 2 (some .int) : Cond) ∈ wd_G := wd_in 459 (by decide +kernel) rfl
theorem k_460 : (.methodLink RX1 69 yX6_versionIn : Cond) ∈ wd_G := wd_in 460 (by decide +kernel) rfl
theorem k_461 : (.instanceMethod yX6_versionIn : Cond) ∈ wd_G := wd_in 461 (by decide +kernel) rfl
theorem k_462 : (.selects RX6 yX6_versionIn yX6_versionIn : Cond) ∈ wd_G := wd_in 462 (by decide +kernel) rfl
theorem k_463 : (.code yX6_versionIn cX6_versionIn 2 (some .int) : Cond) ∈ wd_G := wd_in 463 (by decide +kernel) rfl
theorem k_464 : (.methodLink RX1 72 yX1_takeSymbol : Cond) ∈ wd_G := wd_in 464 (by decide +kernel) rfl
theorem k_466 : (.instanceMethod yX1_takeSymbol : Cond) ∈ wd_G := wd_in 466 (by decide +kernel) rfl
theorem k_467 : (.code yX1_takeSymbol cX1_takeSymbol 5 none : Cond) ∈ wd_G := wd_in 467 (by decide +kernel) rfl
theorem k_468 : (.methodLink RX1 90 yX1_knowsIn : Cond) ∈ wd_G := wd_in 468 (by decide +kernel) rfl
theorem k_469 : (.instanceMethod yX1_knowsIn : Cond) ∈ wd_G := wd_in 469 (by decide +kernel) rfl
theorem k_470 : (.selects RX1 yX1_knowsIn yX1_knowsIn : Cond) ∈ wd_G := wd_in 470 (by decide +kernel) rfl
theorem k_471 : (.code yX1_knowsIn cX1_knowsIn 2 (some .boolean) : Cond) ∈ wd_G := wd_in 471 (by decide +kernel) rfl
theorem k_472 : (.methodLink RL 35 yX7_renew : Cond) ∈ wd_G := wd_in 472 (by decide +kernel) rfl
theorem k_473 : (.instanceMethod yX7_renew : Cond) ∈ wd_G := wd_in 473 (by decide +kernel) rfl
theorem k_474 : (.selects RX7 yX7_renew yX7_renew : Cond) ∈ wd_G := wd_in 474 (by decide +kernel) rfl
theorem k_475 : (.code yX7_renew cX7_renew 2 (some .int) : Cond) ∈ wd_G := wd_in 475 (by decide +kernel) rfl
theorem k_476 : (.methodLink RX7 100 yX3_hasFile : Cond) ∈ wd_G := wd_in 476 (by decide +kernel) rfl
theorem k_477 : (.methodLink RX7 103 yX6_startNewVersion : Cond) ∈ wd_G := wd_in 477 (by decide +kernel) rfl
theorem k_478 : (.instanceMethod yX6_startNewVersion : Cond) ∈ wd_G := wd_in 478 (by decide +kernel) rfl
theorem k_479 : (.selects RX6 yX6_startNewVersion yX6_startNewVersion : Cond) ∈ wd_G := wd_in 479 (by decide +kernel) rfl
theorem k_480 : (.code yX6_startNewVersion cX6_startNewVersion 2 (some .int) : Cond) ∈ wd_G := wd_in 480 (by decide +kernel) rfl
theorem k_481 : (.methodLink RL 39 yX7_weigh : Cond) ∈ wd_G := wd_in 481 (by decide +kernel) rfl
theorem k_482 : (.instanceMethod yX7_weigh : Cond) ∈ wd_G := wd_in 482 (by decide +kernel) rfl
theorem k_483 : (.selects RX7 yX7_weigh yX7_weigh : Cond) ∈ wd_G := wd_in 483 (by decide +kernel) rfl
theorem k_484 : (.code yX7_weigh cX7_weigh 4 (some .int) : Cond) ∈ wd_G := wd_in 484 (by decide +kernel) rfl
theorem k_485 : (.methodLink RL 44 yX7_join : Cond) ∈ wd_G := wd_in 485 (by decide +kernel) rfl
theorem k_486 : (.instanceMethod yX7_join : Cond) ∈ wd_G := wd_in 486 (by decide +kernel) rfl
theorem k_487 : (.selects RX7 yX7_join yX7_join : Cond) ∈ wd_G := wd_in 487 (by decide +kernel) rfl
theorem k_488 : (.code yX7_join cX7_join 2 (some .int) : Cond) ∈ wd_G := wd_in 488 (by decide +kernel) rfl
theorem k_489 : (.methodLink RX7 111 yX4_hasRoom : Cond) ∈ wd_G := wd_in 489 (by decide +kernel) rfl
theorem k_490 : (.instanceMethod yX4_hasRoom : Cond) ∈ wd_G := wd_in 490 (by decide +kernel) rfl
theorem k_491 : (.selects RX4 yX4_hasRoom yX4_hasRoom : Cond) ∈ wd_G := wd_in 491 (by decide +kernel) rfl
theorem k_492 : (.code yX4_hasRoom cX4_hasRoom 1 (some .boolean) : Cond) ∈ wd_G := wd_in 492 (by decide +kernel) rfl
theorem k_493 : (.methodLink RX7 115 yX4_addListener : Cond) ∈ wd_G := wd_in 493 (by decide +kernel) rfl
theorem k_494 : (.instanceMethod yX4_addListener : Cond) ∈ wd_G := wd_in 494 (by decide +kernel) rfl
theorem k_495 : (.selects RX4 yX4_addListener yX4_addListener : Cond) ∈ wd_G := wd_in 495 (by decide +kernel) rfl
theorem k_496 : (.code yX4_addListener cX4_addListener 3 (some .int) : Cond) ∈ wd_G := wd_in 496 (by decide +kernel) rfl
theorem k_497 : (.methodLink RX4 46 yX1_enter : Cond) ∈ wd_G := wd_in 497 (by decide +kernel) rfl
theorem k_498 : (.instanceMethod yX1_enter : Cond) ∈ wd_G := wd_in 498 (by decide +kernel) rfl
theorem k_499 : (.selects RX1 yX1_enter yX1_enter : Cond) ∈ wd_G := wd_in 499 (by decide +kernel) rfl
theorem k_500 : (.code yX1_enter cX1_enter 4 none : Cond) ∈ wd_G := wd_in 500 (by decide +kernel) rfl
theorem k_501 : (.methodLink RL 48 yX7_repair : Cond) ∈ wd_G := wd_in 501 (by decide +kernel) rfl
theorem k_502 : (.instanceMethod yX7_repair : Cond) ∈ wd_G := wd_in 502 (by decide +kernel) rfl
theorem k_503 : (.selects RX7 yX7_repair yX7_repair : Cond) ∈ wd_G := wd_in 503 (by decide +kernel) rfl
theorem k_504 : (.code yX7_repair cX7_repair 4 (some .int) : Cond) ∈ wd_G := wd_in 504 (by decide +kernel) rfl
theorem k_505 : (.methodLink RX7 118 yX4_hasListener : Cond) ∈ wd_G := wd_in 505 (by decide +kernel) rfl
theorem k_506 : (.instanceMethod yX4_hasListener : Cond) ∈ wd_G := wd_in 506 (by decide +kernel) rfl
theorem k_507 : (.selects RX4 yX4_hasListener yX4_hasListener : Cond) ∈ wd_G := wd_in 507 (by decide +kernel) rfl
theorem k_508 : (.code yX4_hasListener cX4_hasListener 2 (some .boolean) : Cond) ∈ wd_G := wd_in 508 (by decide +kernel) rfl
theorem k_509 : (.methodLink RX7 125 yX1_knowsIn : Cond) ∈ wd_G := wd_in 509 (by decide +kernel) rfl
theorem k_510 : (.methodLink RX7 130 yX1_lacks : Cond) ∈ wd_G := wd_in 510 (by decide +kernel) rfl
theorem k_511 : (.instanceMethod yX1_lacks : Cond) ∈ wd_G := wd_in 511 (by decide +kernel) rfl
theorem k_512 : (.selects RX1 yX1_lacks yX1_lacks : Cond) ∈ wd_G := wd_in 512 (by decide +kernel) rfl
theorem k_513 : (.code yX1_lacks cX1_lacks 2 (some .int) : Cond) ∈ wd_G := wd_in 513 (by decide +kernel) rfl
theorem k_514 : (.methodLink RX1 96 yJ6_bitCount_0f7a4 : Cond) ∈ wd_G := wd_in 514 (by decide +kernel) rfl
theorem k_515 : (.static yJ6_bitCount_0f7a4 : Cond) ∈ wd_G := wd_in 515 (by decide +kernel) rfl
theorem k_516 : (.code yJ6_bitCount_0f7a4 cJ6_bitCount_0f7a4 1 (some .int) : Cond) ∈ wd_G := wd_in 516 (by decide +kernel) rfl
theorem k_517 : (.constant RJ6 265 1431655765 : Cond) ∈ wd_G := wd_in 517 (by decide +kernel) rfl
theorem k_518 : (.constant RJ6 266 858993459 : Cond) ∈ wd_G := wd_in 518 (by decide +kernel) rfl
theorem k_519 : (.constant RJ6 267 252645135 : Cond) ∈ wd_G := wd_in 519 (by decide +kernel) rfl
theorem k_520 : (.methodLink RX1 101 Lib.Math.max.name : Cond) ∈ wd_G := wd_in 520 (by decide +kernel) rfl
theorem k_521 : (.static Lib.Math.max.name : Cond) ∈ wd_G := wd_in 521 (by decide +kernel) rfl
theorem k_522 : (.code Lib.Math.max.name Lib.Math.max.code 2 (some .int) : Cond) ∈ wd_G := wd_in 522 (by decide +kernel) rfl
theorem k_523 : (.methodLink RX7 133 yX1_fillUp : Cond) ∈ wd_G := wd_in 523 (by decide +kernel) rfl
theorem k_524 : (.instanceMethod yX1_fillUp : Cond) ∈ wd_G := wd_in 524 (by decide +kernel) rfl
theorem k_525 : (.selects RX1 yX1_fillUp yX1_fillUp : Cond) ∈ wd_G := wd_in 525 (by decide +kernel) rfl
theorem k_526 : (.code yX1_fillUp cX1_fillUp 6 (some .int) : Cond) ∈ wd_G := wd_in 526 (by decide +kernel) rfl
theorem k_527 : (.methodLink RX1 107 yX1_lacks : Cond) ∈ wd_G := wd_in 527 (by decide +kernel) rfl
theorem k_528 : (.methodLink RX1 110 yX3_symbolsOf : Cond) ∈ wd_G := wd_in 528 (by decide +kernel) rfl
theorem k_529 : (.methodLink RL 52 yX7_undo : Cond) ∈ wd_G := wd_in 529 (by decide +kernel) rfl
theorem k_530 : (.instanceMethod yX7_undo : Cond) ∈ wd_G := wd_in 530 (by decide +kernel) rfl
theorem k_531 : (.selects RX7 yX7_undo yX7_undo : Cond) ∈ wd_G := wd_in 531 (by decide +kernel) rfl
theorem k_532 : (.code yX7_undo cX7_undo 1 (some .int) : Cond) ∈ wd_G := wd_in 532 (by decide +kernel) rfl
theorem k_533 : (.methodLink RX7 136 yX2_giveBack : Cond) ∈ wd_G := wd_in 533 (by decide +kernel) rfl
theorem k_534 : (.instanceMethod yX2_giveBack : Cond) ∈ wd_G := wd_in 534 (by decide +kernel) rfl
theorem k_535 : (.selects RX2 yX2_giveBack yX2_giveBack : Cond) ∈ wd_G := wd_in 535 (by decide +kernel) rfl
theorem k_536 : (.code yX2_giveBack cX2_giveBack 2 (some .boolean) : Cond) ∈ wd_G := wd_in 536 (by decide +kernel) rfl
theorem k_537 : (.methodLink RL 56 yX7_file : Cond) ∈ wd_G := wd_in 537 (by decide +kernel) rfl
theorem k_538 : (.instanceMethod yX7_file : Cond) ∈ wd_G := wd_in 538 (by decide +kernel) rfl
theorem k_539 : (.selects RX7 yX7_file yX7_file : Cond) ∈ wd_G := wd_in 539 (by decide +kernel) rfl
theorem k_540 : (.code yX7_file cX7_file 4 (some .int) : Cond) ∈ wd_G := wd_in 540 (by decide +kernel) rfl
theorem k_541 : (.methodLink RX7 161 yX7_partBits : Cond) ∈ wd_G := wd_in 541 (by decide +kernel) rfl
theorem k_542 : (.static yX7_partBits : Cond) ∈ wd_G := wd_in 542 (by decide +kernel) rfl
theorem k_543 : (.code yX7_partBits cX7_partBits 2 (some .int) : Cond) ∈ wd_G := wd_in 543 (by decide +kernel) rfl
theorem k_544 : (.methodLink RX7 208 yX7_bitsOf : Cond) ∈ wd_G := wd_in 544 (by decide +kernel) rfl
theorem k_545 : (.static yX7_bitsOf : Cond) ∈ wd_G := wd_in 545 (by decide +kernel) rfl
theorem k_546 : (.code yX7_bitsOf cX7_bitsOf 4 (some .int) : Cond) ∈ wd_G := wd_in 546 (by decide +kernel) rfl
theorem k_547 : (.constantFloat RX7 227 1258291200 : Cond) ∈ wd_G := wd_in 547 (by decide +kernel) rfl
theorem k_548 : (.methodLink RL 60 yX7_sent : Cond) ∈ wd_G := wd_in 548 (by decide +kernel) rfl
theorem k_549 : (.instanceMethod yX7_sent : Cond) ∈ wd_G := wd_in 549 (by decide +kernel) rfl
theorem k_550 : (.selects RX7 yX7_sent yX7_sent : Cond) ∈ wd_G := wd_in 550 (by decide +kernel) rfl
theorem k_551 : (.code yX7_sent cX7_sent 4 (some .int) : Cond) ∈ wd_G := wd_in 551 (by decide +kernel) rfl
theorem k_552 : (.methodLink RX7 165 yX6_fileIn : Cond) ∈ wd_G := wd_in 552 (by decide +kernel) rfl
theorem k_553 : (.methodLink RX7 168 yX6_symbolIn : Cond) ∈ wd_G := wd_in 553 (by decide +kernel) rfl
theorem k_554 : (.methodLink RX7 171 yX6_versionIn : Cond) ∈ wd_G := wd_in 554 (by decide +kernel) rfl
theorem k_555 : (.methodLink RL 64 yX7_listener : Cond) ∈ wd_G := wd_in 555 (by decide +kernel) rfl
theorem k_556 : (.instanceMethod yX7_listener : Cond) ∈ wd_G := wd_in 556 (by decide +kernel) rfl
theorem k_557 : (.selects RX7 yX7_listener yX7_listener : Cond) ∈ wd_G := wd_in 557 (by decide +kernel) rfl
theorem k_558 : (.code yX7_listener cX7_listener 4 (some .int) : Cond) ∈ wd_G := wd_in 558 (by decide +kernel) rfl
theorem k_559 : (.methodLink RX7 183 yX1_wholeBits : Cond) ∈ wd_G := wd_in 559 (by decide +kernel) rfl
theorem k_560 : (.instanceMethod yX1_wholeBits : Cond) ∈ wd_G := wd_in 560 (by decide +kernel) rfl
theorem k_561 : (.selects RX1 yX1_wholeBits yX1_wholeBits : Cond) ∈ wd_G := wd_in 561 (by decide +kernel) rfl
theorem k_562 : (.code yX1_wholeBits cX1_wholeBits 3 (some .int) : Cond) ∈ wd_G := wd_in 562 (by decide +kernel) rfl
theorem k_563 : (.methodLink RL 68 yX7_holds : Cond) ∈ wd_G := wd_in 563 (by decide +kernel) rfl
theorem k_564 : (.instanceMethod yX7_holds : Cond) ∈ wd_G := wd_in 564 (by decide +kernel) rfl
theorem k_565 : (.selects RX7 yX7_holds yX7_holds : Cond) ∈ wd_G := wd_in 565 (by decide +kernel) rfl
theorem k_566 : (.code yX7_holds cX7_holds 5 (some .int) : Cond) ∈ wd_G := wd_in 566 (by decide +kernel) rfl
theorem k_567 : (.methodLink RL 73 yX7_waits : Cond) ∈ wd_G := wd_in 567 (by decide +kernel) rfl
theorem k_568 : (.instanceMethod yX7_waits : Cond) ∈ wd_G := wd_in 568 (by decide +kernel) rfl
theorem k_569 : (.selects RX7 yX7_waits yX7_waits : Cond) ∈ wd_G := wd_in 569 (by decide +kernel) rfl
theorem k_570 : (.code yX7_waits cX7_waits 3 (some .int) : Cond) ∈ wd_G := wd_in 570 (by decide +kernel) rfl
theorem k_571 : (.methodLink RX7 196 yX0_look : Cond) ∈ wd_G := wd_in 571 (by decide +kernel) rfl
theorem k_572 : (.instanceMethod yX0_look : Cond) ∈ wd_G := wd_in 572 (by decide +kernel) rfl
theorem k_573 : (.selects RX0 yX0_look yX0_look : Cond) ∈ wd_G := wd_in 573 (by decide +kernel) rfl
theorem k_574 : (.code yX0_look cX0_look 6 none : Cond) ∈ wd_G := wd_in 574 (by decide +kernel) rfl
theorem k_575 : (.methodLink RX0 28 yX6_become : Cond) ∈ wd_G := wd_in 575 (by decide +kernel) rfl
theorem k_576 : (.methodLink RX0 40 Lib.Math.min.name : Cond) ∈ wd_G := wd_in 576 (by decide +kernel) rfl
theorem k_577 : (.methodLink RX0 46 Lib.Math.max.name : Cond) ∈ wd_G := wd_in 577 (by decide +kernel) rfl
theorem k_578 : (.methodLink RX0 55 yX6_step : Cond) ∈ wd_G := wd_in 578 (by decide +kernel) rfl
theorem k_579 : (.methodLink RX0 58 yX0_seenAs : Cond) ∈ wd_G := wd_in 579 (by decide +kernel) rfl
theorem k_581 : (.instanceMethod yX0_seenAs : Cond) ∈ wd_G := wd_in 581 (by decide +kernel) rfl
theorem k_582 : (.code yX0_seenAs cX0_seenAs 4 (some .int) : Cond) ∈ wd_G := wd_in 582 (by decide +kernel) rfl
theorem k_583 : (.methodLink RX0 61 yX6_fileIn : Cond) ∈ wd_G := wd_in 583 (by decide +kernel) rfl
theorem k_584 : (.methodLink RX0 65 yX6_symbolIn : Cond) ∈ wd_G := wd_in 584 (by decide +kernel) rfl
theorem k_585 : (.methodLink RX7 200 yX0_waitBehind : Cond) ∈ wd_G := wd_in 585 (by decide +kernel) rfl
theorem k_586 : (.instanceMethod yX0_waitBehind : Cond) ∈ wd_G := wd_in 586 (by decide +kernel) rfl
theorem k_587 : (.selects RX0 yX0_waitBehind yX0_waitBehind : Cond) ∈ wd_G := wd_in 587 (by decide +kernel) rfl
theorem k_588 : (.code yX0_waitBehind cX0_waitBehind 6 (some .int) : Cond) ∈ wd_G := wd_in 588 (by decide +kernel) rfl
theorem k_589 : (.methodLink RX0 71 yJ6_bitCount_0f7a4 : Cond) ∈ wd_G := wd_in 589 (by decide +kernel) rfl
theorem k_590 : (.methodLink RL 77 yX7_mean : Cond) ∈ wd_G := wd_in 590 (by decide +kernel) rfl
theorem k_591 : (.instanceMethod yX7_mean : Cond) ∈ wd_G := wd_in 591 (by decide +kernel) rfl
theorem k_592 : (.selects RX7 yX7_mean yX7_mean : Cond) ∈ wd_G := wd_in 592 (by decide +kernel) rfl
theorem k_593 : (.code yX7_mean cX7_mean 8 (some .int) : Cond) ∈ wd_G := wd_in 593 (by decide +kernel) rfl
theorem k_594 : (.methodLink RX7 203 Lib.Math.max.name : Cond) ∈ wd_G := wd_in 594 (by decide +kernel) rfl
theorem k_595 : (.methodLink RL 81 yX7_count : Cond) ∈ wd_G := wd_in 595 (by decide +kernel) rfl
theorem k_596 : (.instanceMethod yX7_count : Cond) ∈ wd_G := wd_in 596 (by decide +kernel) rfl
theorem k_597 : (.selects RX7 yX7_count yX7_count : Cond) ∈ wd_G := wd_in 597 (by decide +kernel) rfl
theorem k_598 : (.code yX7_count cX7_count 2 (some .int) : Cond) ∈ wd_G := wd_in 598 (by decide +kernel) rfl
theorem k_599 : (.methodLink RX7 224 yX6_allWeights : Cond) ∈ wd_G := wd_in 599 (by decide +kernel) rfl
theorem k_602 : (.methodLink RL 12 yX8_init : Cond) ∈ wd_G := wd_in 602 (by decide +kernel) rfl
theorem k_603 : (.instanceMethod yX8_init : Cond) ∈ wd_G := wd_in 603 (by decide +kernel) rfl
theorem k_604 : (.code yX8_init cX8_init 1 none : Cond) ∈ wd_G := wd_in 604 (by decide +kernel) rfl
theorem k_606 : (.methodLink RX8 19 yX8_laysFile : Cond) ∈ wd_G := wd_in 606 (by decide +kernel) rfl
theorem k_608 : (.instanceMethod yX8_laysFile : Cond) ∈ wd_G := wd_in 608 (by decide +kernel) rfl
theorem k_609 : (.code yX8_laysFile cX8_laysFile 5 none : Cond) ∈ wd_G := wd_in 609 (by decide +kernel) rfl
theorem k_610 : (.methodLink RX8 23 yX8_begins : Cond) ∈ wd_G := wd_in 610 (by decide +kernel) rfl
theorem k_612 : (.instanceMethod yX8_begins : Cond) ∈ wd_G := wd_in 612 (by decide +kernel) rfl
theorem k_613 : (.code yX8_begins cX8_begins 4 none : Cond) ∈ wd_G := wd_in 613 (by decide +kernel) rfl
theorem k_614 : (.fieldLink RX8 7 "FileRoundsModel" "w" "[I" : Cond) ∈ wd_G := wd_in 614 (by decide +kernel) rfl
theorem k_615 : (.fieldLink RX8 27 "FileRoundsModel" "undos" "I" : Cond) ∈ wd_G := wd_in 615 (by decide +kernel) rfl
theorem k_616 : (.fieldLink RX8 13 "FileRoundsModel" "text" "[I" : Cond) ∈ wd_G := wd_in 616 (by decide +kernel) rfl
theorem k_617 : (.fieldLink RX8 35 "FileRoundsModel" "length" "I" : Cond) ∈ wd_G := wd_in 617 (by decide +kernel) rfl
theorem k_618 : (.fieldLink RX8 16 "FileRoundsModel" "laid" "[I" : Cond) ∈ wd_G := wd_in 618 (by decide +kernel) rfl
theorem k_619 : (.fieldLink RX8 38 "FileRoundsModel" "place" "I" : Cond) ∈ wd_G := wd_in 619 (by decide +kernel) rfl
theorem k_620 : (.fieldLink RX8 41 "FileRoundsModel" "number" "I" : Cond) ∈ wd_G := wd_in 620 (by decide +kernel) rfl
theorem k_621 : (.fieldLink RX8 51 "FileRoundsModel" "readEach" "I" : Cond) ∈ wd_G := wd_in 621 (by decide +kernel) rfl
theorem k_622 : (.fieldLink RX8 54 "FileRoundsModel" "readLife" "I" : Cond) ∈ wd_G := wd_in 622 (by decide +kernel) rfl
theorem k_623 : (.laysFinal "FileRoundsModel" "FileRoundsModel" "w" "[I" : Cond) ∈ wd_G := wd_in 623 (by decide +kernel) rfl
theorem k_625 : (.lays "FileRoundsModel" "FileRoundsModel" "undos" "I" : Cond) ∈ wd_G := wd_in 625 (by decide +kernel) rfl
theorem k_627 : (.laysFinal "FileRoundsModel" "FileRoundsModel" "text" "[I" : Cond) ∈ wd_G := wd_in 627 (by decide +kernel) rfl
theorem k_629 : (.lays "FileRoundsModel" "FileRoundsModel" "length" "I" : Cond) ∈ wd_G := wd_in 629 (by decide +kernel) rfl
theorem k_631 : (.laysFinal "FileRoundsModel" "FileRoundsModel" "laid" "[I" : Cond) ∈ wd_G := wd_in 631 (by decide +kernel) rfl
theorem k_633 : (.lays "FileRoundsModel" "FileRoundsModel" "place" "I" : Cond) ∈ wd_G := wd_in 633 (by decide +kernel) rfl
theorem k_635 : (.lays "FileRoundsModel" "FileRoundsModel" "number" "I" : Cond) ∈ wd_G := wd_in 635 (by decide +kernel) rfl
theorem k_637 : (.lays "FileRoundsModel" "FileRoundsModel" "readEach" "I" : Cond) ∈ wd_G := wd_in 637 (by decide +kernel) rfl
theorem k_639 : (.lays "FileRoundsModel" "FileRoundsModel" "readLife" "I" : Cond) ∈ wd_G := wd_in 639 (by decide +kernel) rfl
theorem k_642 : (.methodLink RL 17 yX8_write : Cond) ∈ wd_G := wd_in 642 (by decide +kernel) rfl
theorem k_643 : (.instanceMethod yX8_write : Cond) ∈ wd_G := wd_in 643 (by decide +kernel) rfl
theorem k_644 : (.selects RX8 yX8_write yX8_write : Cond) ∈ wd_G := wd_in 644 (by decide +kernel) rfl
theorem k_645 : (.code yX8_write cX8_write 2 (some .int) : Cond) ∈ wd_G := wd_in 645 (by decide +kernel) rfl
theorem k_646 : (.methodLink RX8 31 yX8_within : Cond) ∈ wd_G := wd_in 646 (by decide +kernel) rfl
theorem k_647 : (.static yX8_within : Cond) ∈ wd_G := wd_in 647 (by decide +kernel) rfl
theorem k_648 : (.code yX8_within cX8_within 3 (some .boolean) : Cond) ∈ wd_G := wd_in 648 (by decide +kernel) rfl
theorem k_649 : (.methodLink RL 22 yX8_wipe : Cond) ∈ wd_G := wd_in 649 (by decide +kernel) rfl
theorem k_650 : (.instanceMethod yX8_wipe : Cond) ∈ wd_G := wd_in 650 (by decide +kernel) rfl
theorem k_651 : (.selects RX8 yX8_wipe yX8_wipe : Cond) ∈ wd_G := wd_in 651 (by decide +kernel) rfl
theorem k_652 : (.code yX8_wipe cX8_wipe 2 (some .int) : Cond) ∈ wd_G := wd_in 652 (by decide +kernel) rfl
theorem k_653 : (.methodLink RL 26 yX8_fault : Cond) ∈ wd_G := wd_in 653 (by decide +kernel) rfl
theorem k_654 : (.instanceMethod yX8_fault : Cond) ∈ wd_G := wd_in 654 (by decide +kernel) rfl
theorem k_655 : (.selects RX8 yX8_fault yX8_fault : Cond) ∈ wd_G := wd_in 655 (by decide +kernel) rfl
theorem k_656 : (.code yX8_fault cX8_fault 1 (some .int) : Cond) ∈ wd_G := wd_in 656 (by decide +kernel) rfl
theorem k_657 : (.methodLink RX8 64 yX8_faultIs : Cond) ∈ wd_G := wd_in 657 (by decide +kernel) rfl
theorem k_659 : (.instanceMethod yX8_faultIs : Cond) ∈ wd_G := wd_in 659 (by decide +kernel) rfl
theorem k_660 : (.code yX8_faultIs cX8_faultIs 3 (some .int) : Cond) ∈ wd_G := wd_in 660 (by decide +kernel) rfl
theorem k_661 : (.methodLink RX8 44 yX8_here : Cond) ∈ wd_G := wd_in 661 (by decide +kernel) rfl
theorem k_663 : (.instanceMethod yX8_here : Cond) ∈ wd_G := wd_in 663 (by decide +kernel) rfl
theorem k_664 : (.code yX8_here cX8_here 1 (some .int) : Cond) ∈ wd_G := wd_in 664 (by decide +kernel) rfl
theorem k_665 : (.methodLink RX8 57 yX8_passesFile : Cond) ∈ wd_G := wd_in 665 (by decide +kernel) rfl
theorem k_667 : (.instanceMethod yX8_passesFile : Cond) ∈ wd_G := wd_in 667 (by decide +kernel) rfl
theorem k_668 : (.code yX8_passesFile cX8_passesFile 4 (some .boolean) : Cond) ∈ wd_G := wd_in 668 (by decide +kernel) rfl
theorem k_669 : (.methodLink RX8 48 yX8_passes : Cond) ∈ wd_G := wd_in 669 (by decide +kernel) rfl
theorem k_671 : (.instanceMethod yX8_passes : Cond) ∈ wd_G := wd_in 671 (by decide +kernel) rfl
theorem k_672 : (.code yX8_passes cX8_passes 6 (some .boolean) : Cond) ∈ wd_G := wd_in 672 (by decide +kernel) rfl
theorem k_673 : (.methodLink RX8 61 yX8_passesTable : Cond) ∈ wd_G := wd_in 673 (by decide +kernel) rfl
theorem k_675 : (.instanceMethod yX8_passesTable : Cond) ∈ wd_G := wd_in 675 (by decide +kernel) rfl
theorem k_676 : (.code yX8_passesTable cX8_passesTable 2 (some .boolean) : Cond) ∈ wd_G := wd_in 676 (by decide +kernel) rfl
theorem k_677 : (.methodLink RL 30 yX8_lay : Cond) ∈ wd_G := wd_in 677 (by decide +kernel) rfl
theorem k_678 : (.instanceMethod yX8_lay : Cond) ∈ wd_G := wd_in 678 (by decide +kernel) rfl
theorem k_679 : (.selects RX8 yX8_lay yX8_lay : Cond) ∈ wd_G := wd_in 679 (by decide +kernel) rfl
theorem k_680 : (.code yX8_lay cX8_lay 1 (some .int) : Cond) ∈ wd_G := wd_in 680 (by decide +kernel) rfl
theorem k_681 : (.methodLink RL 55 yX8_undo : Cond) ∈ wd_G := wd_in 681 (by decide +kernel) rfl
theorem k_682 : (.instanceMethod yX8_undo : Cond) ∈ wd_G := wd_in 682 (by decide +kernel) rfl
theorem k_683 : (.selects RX8 yX8_undo yX8_undo : Cond) ∈ wd_G := wd_in 683 (by decide +kernel) rfl
theorem k_684 : (.code yX8_undo cX8_undo 1 (some .int) : Cond) ∈ wd_G := wd_in 684 (by decide +kernel) rfl
theorem k_685 : (.methodLink RX8 92 yX8_copies : Cond) ∈ wd_G := wd_in 685 (by decide +kernel) rfl
theorem k_687 : (.instanceMethod yX8_copies : Cond) ∈ wd_G := wd_in 687 (by decide +kernel) rfl
theorem k_688 : (.code yX8_copies cX8_copies 4 none : Cond) ∈ wd_G := wd_in 688 (by decide +kernel) rfl
theorem k_689 : (.methodLink RL 34 yX8_tick : Cond) ∈ wd_G := wd_in 689 (by decide +kernel) rfl
theorem k_690 : (.instanceMethod yX8_tick : Cond) ∈ wd_G := wd_in 690 (by decide +kernel) rfl
theorem k_691 : (.selects RX8 yX8_tick yX8_tick : Cond) ∈ wd_G := wd_in 691 (by decide +kernel) rfl
theorem k_692 : (.code yX8_tick cX8_tick 4 (some .int) : Cond) ∈ wd_G := wd_in 692 (by decide +kernel) rfl
theorem k_693 : (.methodLink RX8 95 yX8_minds : Cond) ∈ wd_G := wd_in 693 (by decide +kernel) rfl
theorem k_695 : (.instanceMethod yX8_minds : Cond) ∈ wd_G := wd_in 695 (by decide +kernel) rfl
theorem k_696 : (.code yX8_minds cX8_minds 2 none : Cond) ∈ wd_G := wd_in 696 (by decide +kernel) rfl
theorem k_697 : (.methodLink RX8 98 yX8_ticks : Cond) ∈ wd_G := wd_in 697 (by decide +kernel) rfl
theorem k_699 : (.instanceMethod yX8_ticks : Cond) ∈ wd_G := wd_in 699 (by decide +kernel) rfl
theorem k_700 : (.code yX8_ticks cX8_ticks 7 (some .int) : Cond) ∈ wd_G := wd_in 700 (by decide +kernel) rfl
theorem k_701 : (.methodLink RX8 75 yX8_sendsNext : Cond) ∈ wd_G := wd_in 701 (by decide +kernel) rfl
theorem k_703 : (.instanceMethod yX8_sendsNext : Cond) ∈ wd_G := wd_in 703 (by decide +kernel) rfl
theorem k_704 : (.code yX8_sendsNext cX8_sendsNext 5 (some .int) : Cond) ∈ wd_G := wd_in 704 (by decide +kernel) rfl
theorem k_705 : (.methodLink RX8 79 yX8_logs : Cond) ∈ wd_G := wd_in 705 (by decide +kernel) rfl
theorem k_707 : (.instanceMethod yX8_logs : Cond) ∈ wd_G := wd_in 707 (by decide +kernel) rfl
theorem k_708 : (.code yX8_logs cX8_logs 6 none : Cond) ∈ wd_G := wd_in 708 (by decide +kernel) rfl
theorem k_709 : (.methodLink RX8 82 yX8_isLost : Cond) ∈ wd_G := wd_in 709 (by decide +kernel) rfl
theorem k_711 : (.instanceMethod yX8_isLost : Cond) ∈ wd_G := wd_in 711 (by decide +kernel) rfl
theorem k_712 : (.code yX8_isLost cX8_isLost 5 (some .boolean) : Cond) ∈ wd_G := wd_in 712 (by decide +kernel) rfl
theorem k_713 : (.constantLong RX8 67 7919 : Cond) ∈ wd_G := wd_in 713 (by decide +kernel) rfl
theorem k_714 : (.constantLong RX8 69 3571 : Cond) ∈ wd_G := wd_in 714 (by decide +kernel) rfl
theorem k_715 : (.constantLong RX8 71 65521 : Cond) ∈ wd_G := wd_in 715 (by decide +kernel) rfl
theorem k_716 : (.constantLong RX8 73 100 : Cond) ∈ wd_G := wd_in 716 (by decide +kernel) rfl
theorem k_717 : (.methodLink RX8 86 yX8_hearsTable : Cond) ∈ wd_G := wd_in 717 (by decide +kernel) rfl
theorem k_719 : (.instanceMethod yX8_hearsTable : Cond) ∈ wd_G := wd_in 719 (by decide +kernel) rfl
theorem k_720 : (.code yX8_hearsTable cX8_hearsTable 5 none : Cond) ∈ wd_G := wd_in 720 (by decide +kernel) rfl
theorem k_721 : (.methodLink RX8 89 yX8_hearsSymbol : Cond) ∈ wd_G := wd_in 721 (by decide +kernel) rfl
theorem k_723 : (.instanceMethod yX8_hearsSymbol : Cond) ∈ wd_G := wd_in 723 (by decide +kernel) rfl
theorem k_724 : (.code yX8_hearsSymbol cX8_hearsSymbol 5 none : Cond) ∈ wd_G := wd_in 724 (by decide +kernel) rfl
theorem k_725 : (.methodLink RL 38 yX8_renew : Cond) ∈ wd_G := wd_in 725 (by decide +kernel) rfl
theorem k_726 : (.instanceMethod yX8_renew : Cond) ∈ wd_G := wd_in 726 (by decide +kernel) rfl
theorem k_727 : (.selects RX8 yX8_renew yX8_renew : Cond) ∈ wd_G := wd_in 727 (by decide +kernel) rfl
theorem k_728 : (.code yX8_renew cX8_renew 2 (some .int) : Cond) ∈ wd_G := wd_in 728 (by decide +kernel) rfl
theorem k_729 : (.methodLink RX8 101 yX8_isFile : Cond) ∈ wd_G := wd_in 729 (by decide +kernel) rfl
theorem k_731 : (.instanceMethod yX8_isFile : Cond) ∈ wd_G := wd_in 731 (by decide +kernel) rfl
theorem k_732 : (.code yX8_isFile cX8_isFile 2 (some .boolean) : Cond) ∈ wd_G := wd_in 732 (by decide +kernel) rfl
theorem k_733 : (.methodLink RL 43 yX8_weigh : Cond) ∈ wd_G := wd_in 733 (by decide +kernel) rfl
theorem k_734 : (.instanceMethod yX8_weigh : Cond) ∈ wd_G := wd_in 734 (by decide +kernel) rfl
theorem k_735 : (.selects RX8 yX8_weigh yX8_weigh : Cond) ∈ wd_G := wd_in 735 (by decide +kernel) rfl
theorem k_736 : (.code yX8_weigh cX8_weigh 4 (some .int) : Cond) ∈ wd_G := wd_in 736 (by decide +kernel) rfl
theorem k_737 : (.methodLink RL 47 yX8_join : Cond) ∈ wd_G := wd_in 737 (by decide +kernel) rfl
theorem k_738 : (.instanceMethod yX8_join : Cond) ∈ wd_G := wd_in 738 (by decide +kernel) rfl
theorem k_739 : (.selects RX8 yX8_join yX8_join : Cond) ∈ wd_G := wd_in 739 (by decide +kernel) rfl
theorem k_740 : (.code yX8_join cX8_join 4 (some .int) : Cond) ∈ wd_G := wd_in 740 (by decide +kernel) rfl
theorem k_741 : (.methodLink RL 51 yX8_repair : Cond) ∈ wd_G := wd_in 741 (by decide +kernel) rfl
theorem k_742 : (.instanceMethod yX8_repair : Cond) ∈ wd_G := wd_in 742 (by decide +kernel) rfl
theorem k_743 : (.selects RX8 yX8_repair yX8_repair : Cond) ∈ wd_G := wd_in 743 (by decide +kernel) rfl
theorem k_744 : (.code yX8_repair cX8_repair 7 (some .int) : Cond) ∈ wd_G := wd_in 744 (by decide +kernel) rfl
theorem k_745 : (.methodLink RX8 108 yX8_isListener : Cond) ∈ wd_G := wd_in 745 (by decide +kernel) rfl
theorem k_747 : (.instanceMethod yX8_isListener : Cond) ∈ wd_G := wd_in 747 (by decide +kernel) rfl
theorem k_748 : (.code yX8_isListener cX8_isListener 2 (some .boolean) : Cond) ∈ wd_G := wd_in 748 (by decide +kernel) rfl
theorem k_749 : (.methodLink RX8 111 yX8_lacks : Cond) ∈ wd_G := wd_in 749 (by decide +kernel) rfl
theorem k_751 : (.instanceMethod yX8_lacks : Cond) ∈ wd_G := wd_in 751 (by decide +kernel) rfl
theorem k_752 : (.code yX8_lacks cX8_lacks 4 (some .int) : Cond) ∈ wd_G := wd_in 752 (by decide +kernel) rfl
theorem k_753 : (.methodLink RX8 105 yX8_ones : Cond) ∈ wd_G := wd_in 753 (by decide +kernel) rfl
theorem k_754 : (.static yX8_ones : Cond) ∈ wd_G := wd_in 754 (by decide +kernel) rfl
theorem k_755 : (.code yX8_ones cX8_ones 3 (some .int) : Cond) ∈ wd_G := wd_in 755 (by decide +kernel) rfl
theorem k_756 : (.methodLink RX8 115 yX8_knows : Cond) ∈ wd_G := wd_in 756 (by decide +kernel) rfl
theorem k_758 : (.instanceMethod yX8_knows : Cond) ∈ wd_G := wd_in 758 (by decide +kernel) rfl
theorem k_759 : (.code yX8_knows cX8_knows 2 (some .boolean) : Cond) ∈ wd_G := wd_in 759 (by decide +kernel) rfl
theorem k_760 : (.methodLink RL 59 yX8_file : Cond) ∈ wd_G := wd_in 760 (by decide +kernel) rfl
theorem k_761 : (.instanceMethod yX8_file : Cond) ∈ wd_G := wd_in 761 (by decide +kernel) rfl
theorem k_762 : (.selects RX8 yX8_file yX8_file : Cond) ∈ wd_G := wd_in 762 (by decide +kernel) rfl
theorem k_763 : (.code yX8_file cX8_file 3 (some .int) : Cond) ∈ wd_G := wd_in 763 (by decide +kernel) rfl
theorem k_764 : (.methodLink RX8 124 yX8_partBits : Cond) ∈ wd_G := wd_in 764 (by decide +kernel) rfl
theorem k_766 : (.instanceMethod yX8_partBits : Cond) ∈ wd_G := wd_in 766 (by decide +kernel) rfl
theorem k_767 : (.code yX8_partBits cX8_partBits 2 (some .int) : Cond) ∈ wd_G := wd_in 767 (by decide +kernel) rfl
theorem k_768 : (.methodLink RX8 118 yJxf58ca_floatToIntBits_5c35a : Cond) ∈ wd_G := wd_in 768 (by decide +kernel) rfl
theorem k_769 : (.static yJxf58ca_floatToIntBits_5c35a : Cond) ∈ wd_G := wd_in 769 (by decide +kernel) rfl
theorem k_770 : (.code yJxf58ca_floatToIntBits_5c35a cJxf58ca_floatToIntBits_5c35a 1 (some .int) : Cond) ∈ wd_G := wd_in 770 (by decide +kernel) rfl
theorem k_771 : (.methodLink RJxf58ca 59 yJxf58ca_isNaN_12338 : Cond) ∈ wd_G := wd_in 771 (by decide +kernel) rfl
theorem k_772 : (.static yJxf58ca_isNaN_12338 : Cond) ∈ wd_G := wd_in 772 (by decide +kernel) rfl
theorem k_773 : (.code yJxf58ca_isNaN_12338 cJxf58ca_isNaN_12338 1 (some .boolean) : Cond) ∈ wd_G := wd_in 773 (by decide +kernel) rfl
theorem k_774 : (.methodLink RJxf58ca 74 ⟨"java/lang/Float", "floatToRawIntBits", "(F)I"⟩ : Cond) ∈ wd_G := wd_in 774 (by decide +kernel) rfl
theorem k_775 : (.static ⟨"java/lang/Float", "floatToRawIntBits", "(F)I"⟩ : Cond) ∈ wd_G := wd_in 775 (by decide +kernel) rfl
theorem k_776 : (.native ⟨"java/lang/Float", "floatToRawIntBits", "(F)I"⟩ : Cond) ∈ wd_G := wd_in 776 (by decide +kernel) rfl
theorem k_777 : (.constant RJxf58ca 77 2143289344 : Cond) ∈ wd_G := wd_in 777 (by decide +kernel) rfl
theorem k_778 : (.methodLink RL 63 yX8_sent : Cond) ∈ wd_G := wd_in 778 (by decide +kernel) rfl
theorem k_779 : (.instanceMethod yX8_sent : Cond) ∈ wd_G := wd_in 779 (by decide +kernel) rfl
theorem k_780 : (.selects RX8 yX8_sent yX8_sent : Cond) ∈ wd_G := wd_in 780 (by decide +kernel) rfl
theorem k_781 : (.code yX8_sent cX8_sent 3 (some .int) : Cond) ∈ wd_G := wd_in 781 (by decide +kernel) rfl
theorem k_782 : (.methodLink RL 67 yX8_listener : Cond) ∈ wd_G := wd_in 782 (by decide +kernel) rfl
theorem k_783 : (.instanceMethod yX8_listener : Cond) ∈ wd_G := wd_in 783 (by decide +kernel) rfl
theorem k_784 : (.selects RX8 yX8_listener yX8_listener : Cond) ∈ wd_G := wd_in 784 (by decide +kernel) rfl
theorem k_785 : (.code yX8_listener cX8_listener 4 (some .int) : Cond) ∈ wd_G := wd_in 785 (by decide +kernel) rfl
theorem k_786 : (.methodLink RX8 127 yX8_wholes : Cond) ∈ wd_G := wd_in 786 (by decide +kernel) rfl
theorem k_788 : (.instanceMethod yX8_wholes : Cond) ∈ wd_G := wd_in 788 (by decide +kernel) rfl
theorem k_789 : (.code yX8_wholes cX8_wholes 4 (some .int) : Cond) ∈ wd_G := wd_in 789 (by decide +kernel) rfl
theorem k_790 : (.methodLink RL 72 yX8_holds : Cond) ∈ wd_G := wd_in 790 (by decide +kernel) rfl
theorem k_791 : (.instanceMethod yX8_holds : Cond) ∈ wd_G := wd_in 791 (by decide +kernel) rfl
theorem k_792 : (.selects RX8 yX8_holds yX8_holds : Cond) ∈ wd_G := wd_in 792 (by decide +kernel) rfl
theorem k_793 : (.code yX8_holds cX8_holds 5 (some .int) : Cond) ∈ wd_G := wd_in 793 (by decide +kernel) rfl
theorem k_794 : (.methodLink RL 76 yX8_waits : Cond) ∈ wd_G := wd_in 794 (by decide +kernel) rfl
theorem k_795 : (.instanceMethod yX8_waits : Cond) ∈ wd_G := wd_in 795 (by decide +kernel) rfl
theorem k_796 : (.selects RX8 yX8_waits yX8_waits : Cond) ∈ wd_G := wd_in 796 (by decide +kernel) rfl
theorem k_797 : (.code yX8_waits cX8_waits 3 (some .int) : Cond) ∈ wd_G := wd_in 797 (by decide +kernel) rfl
theorem k_798 : (.methodLink RX8 133 yX8_waitIs : Cond) ∈ wd_G := wd_in 798 (by decide +kernel) rfl
theorem k_800 : (.instanceMethod yX8_waitIs : Cond) ∈ wd_G := wd_in 800 (by decide +kernel) rfl
theorem k_801 : (.code yX8_waitIs cX8_waitIs 4 (some .int) : Cond) ∈ wd_G := wd_in 801 (by decide +kernel) rfl
theorem k_802 : (.methodLink RX8 130 yX8_waitsFrom : Cond) ∈ wd_G := wd_in 802 (by decide +kernel) rfl
theorem k_804 : (.instanceMethod yX8_waitsFrom : Cond) ∈ wd_G := wd_in 804 (by decide +kernel) rfl
theorem k_805 : (.code yX8_waitsFrom cX8_waitsFrom 8 (some .int) : Cond) ∈ wd_G := wd_in 805 (by decide +kernel) rfl
theorem k_806 : (.methodLink RL 80 yX8_mean : Cond) ∈ wd_G := wd_in 806 (by decide +kernel) rfl
theorem k_807 : (.instanceMethod yX8_mean : Cond) ∈ wd_G := wd_in 807 (by decide +kernel) rfl
theorem k_808 : (.selects RX8 yX8_mean yX8_mean : Cond) ∈ wd_G := wd_in 808 (by decide +kernel) rfl
theorem k_809 : (.code yX8_mean cX8_mean 8 (some .int) : Cond) ∈ wd_G := wd_in 809 (by decide +kernel) rfl
theorem k_810 : (.methodLink RL 84 yX8_count : Cond) ∈ wd_G := wd_in 810 (by decide +kernel) rfl
theorem k_811 : (.instanceMethod yX8_count : Cond) ∈ wd_G := wd_in 811 (by decide +kernel) rfl
theorem k_812 : (.selects RX8 yX8_count yX8_count : Cond) ∈ wd_G := wd_in 812 (by decide +kernel) rfl
theorem k_813 : (.code yX8_count cX8_count 2 (some .int) : Cond) ∈ wd_G := wd_in 813 (by decide +kernel) rfl
end
section
theorem in_X0 : ∀ w ∈ u_ws RX0 TX0 5, w ∈ wd_G := by
  intro w hw
  obtain ⟨k, hk, rfl⟩ := List.mem_map.mp hw
  rw [List.mem_range] at hk
  rcases (show k = 0 ∨ k = 1 ∨ k = 2 ∨ k = 3 ∨ k = 4 by omega) with rfl | rfl | rfl | rfl | rfl
  · exact k_276
  · exact k_278
  · exact k_280
  · exact k_282
  · exact k_284
theorem in_X1 : ∀ w ∈ u_ws RX1 TX1 8, w ∈ wd_G := by
  intro w hw
  obtain ⟨k, hk, rfl⟩ := List.mem_map.mp hw
  rw [List.mem_range] at hk
  rcases (show k = 0 ∨ k = 1 ∨ k = 2 ∨ k = 3 ∨ k = 4 ∨ k = 5 ∨ k = 6 ∨ k = 7 by omega) with rfl | rfl | rfl | rfl | rfl | rfl | rfl | rfl
  · exact k_202
  · exact k_204
  · exact k_206
  · exact k_208
  · exact k_210
  · exact k_212
  · exact k_214
  · exact k_216
theorem in_X2 : ∀ w ∈ u_ws RX2 TX2 3, w ∈ wd_G := by
  intro w hw
  obtain ⟨k, hk, rfl⟩ := List.mem_map.mp hw
  rw [List.mem_range] at hk
  rcases (show k = 0 ∨ k = 1 ∨ k = 2 by omega) with rfl | rfl | rfl
  · exact k_256
  · exact k_258
  · exact k_260
theorem in_X3 : ∀ w ∈ u_ws RX3 TX3 6, w ∈ wd_G := by
  intro w hw
  obtain ⟨k, hk, rfl⟩ := List.mem_map.mp hw
  rw [List.mem_range] at hk
  rcases (show k = 0 ∨ k = 1 ∨ k = 2 ∨ k = 3 ∨ k = 4 ∨ k = 5 by omega) with rfl | rfl | rfl | rfl | rfl | rfl
  · exact k_100
  · exact k_102
  · exact k_104
  · exact k_106
  · exact k_108
  · exact k_110
theorem in_X4 : ∀ w ∈ u_ws RX4 TX4 3, w ∈ wd_G := by
  intro w hw
  obtain ⟨k, hk, rfl⟩ := List.mem_map.mp hw
  rw [List.mem_range] at hk
  rcases (show k = 0 ∨ k = 1 ∨ k = 2 by omega) with rfl | rfl | rfl
  · exact k_225
  · exact k_227
  · exact k_229
theorem in_X5 : ∀ w ∈ u_ws RX5 TX5 3, w ∈ wd_G := by
  intro w hw
  obtain ⟨k, hk, rfl⟩ := List.mem_map.mp hw
  rw [List.mem_range] at hk
  rcases (show k = 0 ∨ k = 1 ∨ k = 2 by omega) with rfl | rfl | rfl
  · exact k_68
  · exact k_70
  · exact k_72
theorem in_X6 : ∀ w ∈ u_ws RX6 TX6 12, w ∈ wd_G := by
  intro w hw
  obtain ⟨k, hk, rfl⟩ := List.mem_map.mp hw
  rw [List.mem_range] at hk
  rcases (show k = 0 ∨ k = 1 ∨ k = 2 ∨ k = 3 ∨ k = 4 ∨ k = 5 ∨ k = 6 ∨ k = 7 ∨ k = 8 ∨ k = 9 ∨ k = 10 ∨ k = 11 by omega) with rfl | rfl | rfl | rfl | rfl | rfl | rfl | rfl | rfl | rfl | rfl | rfl
  · exact k_158
  · exact k_160
  · exact k_162
  · exact k_164
  · exact k_166
  · exact k_168
  · exact k_170
  · exact k_172
  · exact k_174
  · exact k_176
  · exact k_178
  · exact k_180
theorem in_X7 : ∀ w ∈ u_ws RX7 TX7 6, w ∈ wd_G := by
  intro w hw
  obtain ⟨k, hk, rfl⟩ := List.mem_map.mp hw
  rw [List.mem_range] at hk
  rcases (show k = 0 ∨ k = 1 ∨ k = 2 ∨ k = 3 ∨ k = 4 ∨ k = 5 by omega) with rfl | rfl | rfl | rfl | rfl | rfl
  · exact k_293
  · exact k_295
  · exact k_297
  · exact k_299
  · exact k_301
  · exact k_303
theorem in_X8 : ∀ w ∈ u_ws RX8 TX8 9, w ∈ wd_G := by
  intro w hw
  obtain ⟨k, hk, rfl⟩ := List.mem_map.mp hw
  rw [List.mem_range] at hk
  rcases (show k = 0 ∨ k = 1 ∨ k = 2 ∨ k = 3 ∨ k = 4 ∨ k = 5 ∨ k = 6 ∨ k = 7 ∨ k = 8 by omega) with rfl | rfl | rfl | rfl | rfl | rfl | rfl | rfl | rfl
  · exact k_623
  · exact k_625
  · exact k_627
  · exact k_629
  · exact k_631
  · exact k_633
  · exact k_635
  · exact k_637
  · exact k_639
theorem fl_X7_12 : FL RX7 12 7 0 := ⟨RX7, TX7, 6, rfl, by decide, rfl, in_X7, Or.inl k_287⟩
theorem fl_X7_19 : FL RX7 19 7 1 := ⟨RX7, TX7, 6, rfl, by decide, rfl, in_X7, Or.inl k_288⟩
theorem fl_X7_23 : FL RX7 23 7 2 := ⟨RX7, TX7, 6, rfl, by decide, rfl, in_X7, Or.inl k_289⟩
theorem fl_X7_39 : FL RX7 39 7 3 := ⟨RX7, TX7, 6, rfl, by decide, rfl, in_X7, Or.inl k_290⟩
theorem fl_X7_49 : FL RX7 49 7 4 := ⟨RX7, TX7, 6, rfl, by decide, rfl, in_X7, Or.inl k_291⟩
theorem fl_X7_56 : FL RX7 56 7 5 := ⟨RX7, TX7, 6, rfl, by decide, rfl, in_X7, Or.inl k_292⟩
theorem fl_X7_64 : FL RX7 64 5 1 := ⟨RX5, TX5, 3, rfl, by decide, rfl, in_X5, Or.inr ⟨"FileRounds", List.mem_of_getElem? (i := 1) rfl⟩⟩
theorem fl_X7_72 : FL RX7 72 3 3 := ⟨RX3, TX3, 6, rfl, by decide, rfl, in_X3, Or.inr ⟨"FileRounds", List.mem_of_getElem? (i := 9) rfl⟩⟩
theorem fl_X7_81 : FL RX7 81 4 0 := ⟨RX4, TX4, 3, rfl, by decide, rfl, in_X4, Or.inr ⟨"FileRounds", List.mem_of_getElem? (i := 32) rfl⟩⟩
theorem fl_X7_85 : FL RX7 85 6 9 := ⟨RX6, TX6, 12, rfl, by decide, rfl, in_X6, Or.inr ⟨"FileRounds", List.mem_of_getElem? (i := 23) rfl⟩⟩
theorem fl_X7_94 : FL RX7 94 6 11 := ⟨RX6, TX6, 12, rfl, by decide, rfl, in_X6, Or.inr ⟨"FileRounds", List.mem_of_getElem? (i := 25) rfl⟩⟩
theorem fl_X7_107 : FL RX7 107 6 1 := ⟨RX6, TX6, 12, rfl, by decide, rfl, in_X6, Or.inr ⟨"FileRounds", List.mem_of_getElem? (i := 15) rfl⟩⟩
theorem fl_X7_121 : FL RX7 121 4 1 := ⟨RX4, TX4, 3, rfl, by decide, rfl, in_X4, Or.inr ⟨"FileRounds", List.mem_of_getElem? (i := 33) rfl⟩⟩
theorem fl_X7_140 : FL RX7 140 2 2 := ⟨RX2, TX2, 3, rfl, by decide, rfl, in_X2, Or.inr ⟨"FileRounds", List.mem_of_getElem? (i := 35) rfl⟩⟩
theorem fl_X7_143 : FL RX7 143 3 0 := ⟨RX3, TX3, 6, rfl, by decide, rfl, in_X3, Or.inr ⟨"FileRounds", List.mem_of_getElem? (i := 5) rfl⟩⟩
theorem fl_X7_146 : FL RX7 146 3 1 := ⟨RX3, TX3, 6, rfl, by decide, rfl, in_X3, Or.inr ⟨"FileRounds", List.mem_of_getElem? (i := 6) rfl⟩⟩
theorem fl_X7_149 : FL RX7 149 6 2 := ⟨RX6, TX6, 12, rfl, by decide, rfl, in_X6, Or.inr ⟨"FileRounds", List.mem_of_getElem? (i := 17) rfl⟩⟩
theorem fl_X7_152 : FL RX7 152 6 3 := ⟨RX6, TX6, 12, rfl, by decide, rfl, in_X6, Or.inr ⟨"FileRounds", List.mem_of_getElem? (i := 18) rfl⟩⟩
theorem fl_X7_155 : FL RX7 155 6 4 := ⟨RX6, TX6, 12, rfl, by decide, rfl, in_X6, Or.inr ⟨"FileRounds", List.mem_of_getElem? (i := 19) rfl⟩⟩
theorem fl_X7_158 : FL RX7 158 6 5 := ⟨RX6, TX6, 12, rfl, by decide, rfl, in_X6, Or.inr ⟨"FileRounds", List.mem_of_getElem? (i := 20) rfl⟩⟩
theorem fl_X7_174 : FL RX7 174 1 4 := ⟨RX1, TX1, 8, rfl, by decide, rfl, in_X1, Or.inr ⟨"FileRounds", List.mem_of_getElem? (i := 28) rfl⟩⟩
theorem fl_X7_177 : FL RX7 177 1 5 := ⟨RX1, TX1, 8, rfl, by decide, rfl, in_X1, Or.inr ⟨"FileRounds", List.mem_of_getElem? (i := 29) rfl⟩⟩
theorem fl_X7_180 : FL RX7 180 1 6 := ⟨RX1, TX1, 8, rfl, by decide, rfl, in_X1, Or.inr ⟨"FileRounds", List.mem_of_getElem? (i := 30) rfl⟩⟩
theorem fl_X7_187 : FL RX7 187 1 7 := ⟨RX1, TX1, 8, rfl, by decide, rfl, in_X1, Or.inr ⟨"FileRounds", List.mem_of_getElem? (i := 31) rfl⟩⟩
theorem fl_X7_190 : FL RX7 190 1 2 := ⟨RX1, TX1, 8, rfl, by decide, rfl, in_X1, Or.inr ⟨"FileRounds", List.mem_of_getElem? (i := 26) rfl⟩⟩
theorem fl_X7_193 : FL RX7 193 1 3 := ⟨RX1, TX1, 8, rfl, by decide, rfl, in_X1, Or.inr ⟨"FileRounds", List.mem_of_getElem? (i := 27) rfl⟩⟩
theorem fl_X7_212 : FL RX7 212 3 4 := ⟨RX3, TX3, 6, rfl, by decide, rfl, in_X3, Or.inr ⟨"FileRounds", List.mem_of_getElem? (i := 11) rfl⟩⟩
theorem fl_X7_215 : FL RX7 215 3 5 := ⟨RX3, TX3, 6, rfl, by decide, rfl, in_X3, Or.inr ⟨"FileRounds", List.mem_of_getElem? (i := 14) rfl⟩⟩
theorem fl_X7_218 : FL RX7 218 4 2 := ⟨RX4, TX4, 3, rfl, by decide, rfl, in_X4, Or.inr ⟨"FileRounds", List.mem_of_getElem? (i := 34) rfl⟩⟩
theorem fl_X7_221 : FL RX7 221 6 10 := ⟨RX6, TX6, 12, rfl, by decide, rfl, in_X6, Or.inr ⟨"FileRounds", List.mem_of_getElem? (i := 24) rfl⟩⟩
theorem fl_X0_9 : FL RX0 9 0 2 := ⟨RX0, TX0, 5, rfl, by decide, rfl, in_X0, Or.inl k_273⟩
theorem fl_X0_15 : FL RX0 15 0 0 := ⟨RX0, TX0, 5, rfl, by decide, rfl, in_X0, Or.inl k_271⟩
theorem fl_X0_24 : FL RX0 24 0 1 := ⟨RX0, TX0, 5, rfl, by decide, rfl, in_X0, Or.inl k_272⟩
theorem fl_X0_32 : FL RX0 32 3 0 := ⟨RX3, TX3, 6, rfl, by decide, rfl, in_X3, Or.inr ⟨"FileRounds", List.mem_of_getElem? (i := 3) rfl⟩⟩
theorem fl_X0_37 : FL RX0 37 0 4 := ⟨RX0, TX0, 5, rfl, by decide, rfl, in_X0, Or.inl k_275⟩
theorem fl_X0_49 : FL RX0 49 0 3 := ⟨RX0, TX0, 5, rfl, by decide, rfl, in_X0, Or.inl k_274⟩
theorem fl_X0_52 : FL RX0 52 6 9 := ⟨RX6, TX6, 12, rfl, by decide, rfl, in_X6, Or.inr ⟨"FileRounds", List.mem_of_getElem? (i := 21) rfl⟩⟩
theorem fl_X0_68 : FL RX0 68 3 5 := ⟨RX3, TX3, 6, rfl, by decide, rfl, in_X3, Or.inr ⟨"FileRounds", List.mem_of_getElem? (i := 12) rfl⟩⟩
theorem fl_X1_9 : FL RX1 9 1 2 := ⟨RX1, TX1, 8, rfl, by decide, rfl, in_X1, Or.inl k_190⟩
theorem fl_X1_15 : FL RX1 15 1 3 := ⟨RX1, TX1, 8, rfl, by decide, rfl, in_X1, Or.inl k_192⟩
theorem fl_X1_18 : FL RX1 18 1 0 := ⟨RX1, TX1, 8, rfl, by decide, rfl, in_X1, Or.inl k_188⟩
theorem fl_X1_22 : FL RX1 22 1 1 := ⟨RX1, TX1, 8, rfl, by decide, rfl, in_X1, Or.inl k_189⟩
theorem fl_X1_26 : FL RX1 26 1 4 := ⟨RX1, TX1, 8, rfl, by decide, rfl, in_X1, Or.inl k_194⟩
theorem fl_X1_29 : FL RX1 29 1 5 := ⟨RX1, TX1, 8, rfl, by decide, rfl, in_X1, Or.inl k_196⟩
theorem fl_X1_32 : FL RX1 32 1 6 := ⟨RX1, TX1, 8, rfl, by decide, rfl, in_X1, Or.inl k_198⟩
theorem fl_X1_35 : FL RX1 35 1 7 := ⟨RX1, TX1, 8, rfl, by decide, rfl, in_X1, Or.inl k_200⟩
theorem fl_X1_54 : FL RX1 54 6 2 := ⟨RX6, TX6, 12, rfl, by decide, rfl, in_X6, Or.inr ⟨"FileRounds", List.mem_of_getElem? (i := 16) rfl⟩⟩
theorem fl_X1_84 : FL RX1 84 3 3 := ⟨RX3, TX3, 6, rfl, by decide, rfl, in_X3, Or.inr ⟨"FileRounds", List.mem_of_getElem? (i := 10) rfl⟩⟩
theorem fl_X1_87 : FL RX1 87 3 5 := ⟨RX3, TX3, 6, rfl, by decide, rfl, in_X3, Or.inr ⟨"FileRounds", List.mem_of_getElem? (i := 13) rfl⟩⟩
theorem fl_X1_93 : FL RX1 93 3 0 := ⟨RX3, TX3, 6, rfl, by decide, rfl, in_X3, Or.inr ⟨"FileRounds", List.mem_of_getElem? (i := 4) rfl⟩⟩
theorem fl_X2_11 : FL RX2 11 2 0 := ⟨RX2, TX2, 3, rfl, by decide, rfl, in_X2, Or.inl k_252⟩
theorem fl_X2_20 : FL RX2 20 2 1 := ⟨RX2, TX2, 3, rfl, by decide, rfl, in_X2, Or.inl k_253⟩
theorem fl_X2_28 : FL RX2 28 2 2 := ⟨RX2, TX2, 3, rfl, by decide, rfl, in_X2, Or.inl k_254⟩
theorem fl_X3_9 : FL RX3 9 3 0 := ⟨RX3, TX3, 6, rfl, by decide, rfl, in_X3, Or.inl k_82⟩
theorem fl_X3_15 : FL RX3 15 3 1 := ⟨RX3, TX3, 6, rfl, by decide, rfl, in_X3, Or.inl k_86⟩
theorem fl_X3_18 : FL RX3 18 3 2 := ⟨RX3, TX3, 6, rfl, by decide, rfl, in_X3, Or.inl k_88⟩
theorem fl_X3_21 : FL RX3 21 3 3 := ⟨RX3, TX3, 6, rfl, by decide, rfl, in_X3, Or.inl k_90⟩
theorem fl_X3_29 : FL RX3 29 3 4 := ⟨RX3, TX3, 6, rfl, by decide, rfl, in_X3, Or.inl k_94⟩
theorem fl_X3_32 : FL RX3 32 3 5 := ⟨RX3, TX3, 6, rfl, by decide, rfl, in_X3, Or.inl k_96⟩
theorem fl_X4_11 : FL RX4 11 4 1 := ⟨RX4, TX4, 3, rfl, by decide, rfl, in_X4, Or.inl k_221⟩
theorem fl_X4_22 : FL RX4 22 4 0 := ⟨RX4, TX4, 3, rfl, by decide, rfl, in_X4, Or.inl k_219⟩
theorem fl_X4_32 : FL RX4 32 4 2 := ⟨RX4, TX4, 3, rfl, by decide, rfl, in_X4, Or.inl k_223⟩
theorem fl_X4_43 : FL RX4 43 6 9 := ⟨RX6, TX6, 12, rfl, by decide, rfl, in_X6, Or.inr ⟨"FileRounds", List.mem_of_getElem? (i := 22) rfl⟩⟩
theorem fl_X5_9 : FL RX5 9 5 0 := ⟨RX5, TX5, 3, rfl, by decide, rfl, in_X5, Or.inl k_64⟩
theorem fl_X5_15 : FL RX5 15 5 1 := ⟨RX5, TX5, 3, rfl, by decide, rfl, in_X5, Or.inl k_65⟩
theorem fl_X5_24 : FL RX5 24 5 2 := ⟨RX5, TX5, 3, rfl, by decide, rfl, in_X5, Or.inl k_67⟩
theorem fl_X6_9 : FL RX6 9 6 1 := ⟨RX6, TX6, 12, rfl, by decide, rfl, in_X6, Or.inl k_136⟩
theorem fl_X6_15 : FL RX6 15 6 2 := ⟨RX6, TX6, 12, rfl, by decide, rfl, in_X6, Or.inl k_138⟩
theorem fl_X6_18 : FL RX6 18 6 3 := ⟨RX6, TX6, 12, rfl, by decide, rfl, in_X6, Or.inl k_141⟩
theorem fl_X6_21 : FL RX6 21 6 4 := ⟨RX6, TX6, 12, rfl, by decide, rfl, in_X6, Or.inl k_143⟩
theorem fl_X6_24 : FL RX6 24 6 5 := ⟨RX6, TX6, 12, rfl, by decide, rfl, in_X6, Or.inl k_145⟩
theorem fl_X6_27 : FL RX6 27 6 6 := ⟨RX6, TX6, 12, rfl, by decide, rfl, in_X6, Or.inl k_147⟩
theorem fl_X6_30 : FL RX6 30 6 7 := ⟨RX6, TX6, 12, rfl, by decide, rfl, in_X6, Or.inl k_148⟩
theorem fl_X6_33 : FL RX6 33 6 8 := ⟨RX6, TX6, 12, rfl, by decide, rfl, in_X6, Or.inl k_149⟩
theorem fl_X6_36 : FL RX6 36 6 0 := ⟨RX6, TX6, 12, rfl, by decide, rfl, in_X6, Or.inl k_135⟩
theorem fl_X6_40 : FL RX6 40 3 2 := ⟨RX3, TX3, 6, rfl, by decide, rfl, in_X3, Or.inr ⟨"FileRounds", List.mem_of_getElem? (i := 7) rfl⟩⟩
theorem fl_X6_51 : FL RX6 51 6 9 := ⟨RX6, TX6, 12, rfl, by decide, rfl, in_X6, Or.inl k_151⟩
theorem fl_X6_55 : FL RX6 55 6 10 := ⟨RX6, TX6, 12, rfl, by decide, rfl, in_X6, Or.inl k_154⟩
theorem fl_X6_58 : FL RX6 58 6 11 := ⟨RX6, TX6, 12, rfl, by decide, rfl, in_X6, Or.inl k_156⟩
theorem fl_X6_80 : FL RX6 80 3 3 := ⟨RX3, TX3, 6, rfl, by decide, rfl, in_X3, Or.inr ⟨"FileRounds", List.mem_of_getElem? (i := 8) rfl⟩⟩
theorem fl_X8_7 : FL RX8 7 8 0 := ⟨RX8, TX8, 9, rfl, by decide, rfl, in_X8, Or.inl k_614⟩
theorem fl_X8_13 : FL RX8 13 8 2 := ⟨RX8, TX8, 9, rfl, by decide, rfl, in_X8, Or.inl k_616⟩
theorem fl_X8_16 : FL RX8 16 8 4 := ⟨RX8, TX8, 9, rfl, by decide, rfl, in_X8, Or.inl k_618⟩
theorem fl_X8_27 : FL RX8 27 8 1 := ⟨RX8, TX8, 9, rfl, by decide, rfl, in_X8, Or.inl k_615⟩
theorem fl_X8_35 : FL RX8 35 8 3 := ⟨RX8, TX8, 9, rfl, by decide, rfl, in_X8, Or.inl k_617⟩
theorem fl_X8_38 : FL RX8 38 8 5 := ⟨RX8, TX8, 9, rfl, by decide, rfl, in_X8, Or.inl k_619⟩
theorem fl_X8_41 : FL RX8 41 8 6 := ⟨RX8, TX8, 9, rfl, by decide, rfl, in_X8, Or.inl k_620⟩
theorem fl_X8_51 : FL RX8 51 8 7 := ⟨RX8, TX8, 9, rfl, by decide, rfl, in_X8, Or.inl k_621⟩
theorem fl_X8_54 : FL RX8 54 8 8 := ⟨RX8, TX8, 9, rfl, by decide, rfl, in_X8, Or.inl k_622⟩
theorem fp_0_3 : FP' 0 3 := ⟨RX0, TX0, 5, tyX0, rfl, rfl, by decide +kernel, tyX0_ok, nmX0⟩
theorem fp_0_4 : FP' 0 4 := ⟨RX0, TX0, 5, tyX0, rfl, rfl, by decide +kernel, tyX0_ok, nmX0⟩
theorem fp_1_4 : FP' 1 4 := ⟨RX1, TX1, 8, tyX1, rfl, rfl, by decide +kernel, tyX1_ok, nmX1⟩
theorem fp_1_5 : FP' 1 5 := ⟨RX1, TX1, 8, tyX1, rfl, rfl, by decide +kernel, tyX1_ok, nmX1⟩
theorem fp_1_6 : FP' 1 6 := ⟨RX1, TX1, 8, tyX1, rfl, rfl, by decide +kernel, tyX1_ok, nmX1⟩
theorem fp_1_7 : FP' 1 7 := ⟨RX1, TX1, 8, tyX1, rfl, rfl, by decide +kernel, tyX1_ok, nmX1⟩
theorem fp_2_1 : FP' 2 1 := ⟨RX2, TX2, 3, tyX2, rfl, rfl, by decide +kernel, tyX2_ok, nmX2⟩
theorem fp_2_2 : FP' 2 2 := ⟨RX2, TX2, 3, tyX2, rfl, rfl, by decide +kernel, tyX2_ok, nmX2⟩
theorem fp_3_3 : FP' 3 3 := ⟨RX3, TX3, 6, tyX3, rfl, rfl, by decide +kernel, tyX3_ok, nmX3⟩
theorem fp_3_4 : FP' 3 4 := ⟨RX3, TX3, 6, tyX3, rfl, rfl, by decide +kernel, tyX3_ok, nmX3⟩
theorem fp_3_5 : FP' 3 5 := ⟨RX3, TX3, 6, tyX3, rfl, rfl, by decide +kernel, tyX3_ok, nmX3⟩
theorem fp_4_2 : FP' 4 2 := ⟨RX4, TX4, 3, tyX4, rfl, rfl, by decide +kernel, tyX4_ok, nmX4⟩
theorem fp_5_1 : FP' 5 1 := ⟨RX5, TX5, 3, tyX5, rfl, rfl, by decide +kernel, tyX5_ok, nmX5⟩
theorem fp_5_2 : FP' 5 2 := ⟨RX5, TX5, 3, tyX5, rfl, rfl, by decide +kernel, tyX5_ok, nmX5⟩
theorem fp_6_9 : FP' 6 9 := ⟨RX6, TX6, 12, tyX6, rfl, rfl, by decide +kernel, tyX6_ok, nmX6⟩
theorem fp_6_10 : FP' 6 10 := ⟨RX6, TX6, 12, tyX6, rfl, rfl, by decide +kernel, tyX6_ok, nmX6⟩
theorem fp_6_11 : FP' 6 11 := ⟨RX6, TX6, 12, tyX6, rfl, rfl, by decide +kernel, tyX6_ok, nmX6⟩
theorem fp_8_1 : FP' 8 1 := ⟨RX8, TX8, 9, tyX8, rfl, rfl, by decide +kernel, tyX8_ok, nmX8⟩
theorem fp_8_3 : FP' 8 3 := ⟨RX8, TX8, 9, tyX8, rfl, rfl, by decide +kernel, tyX8_ok, nmX8⟩
theorem fp_8_5 : FP' 8 5 := ⟨RX8, TX8, 9, tyX8, rfl, rfl, by decide +kernel, tyX8_ok, nmX8⟩
theorem fp_8_6 : FP' 8 6 := ⟨RX8, TX8, 9, tyX8, rfl, rfl, by decide +kernel, tyX8_ok, nmX8⟩
theorem fp_8_7 : FP' 8 7 := ⟨RX8, TX8, 9, tyX8, rfl, rfl, by decide +kernel, tyX8_ok, nmX8⟩
theorem fp_8_8 : FP' 8 8 := ⟨RX8, TX8, 9, tyX8, rfl, rfl, by decide +kernel, tyX8_ok, nmX8⟩
theorem FA_0 {i : Nat} {r : Nat → Int32} (h : KD i = 0) : FA i r = [.ref 7, .ref (i + 2), .ref (i + 1), .int (r 3), .int (r 4)] := by simp [FA, h]
theorem fg_0_0 {L : List Nat} {i n : Nat} {r : Nat → Int32} (h : AC L i 0 n) : (FA i r)[0]? = some (.ref 7) := by rw [FA_0 h.2.1]; rfl
theorem fg_0_1 {L : List Nat} {i n : Nat} {r : Nat → Int32} (h : AC L i 0 n) : (FA i r)[1]? = some (.ref (i + 2)) := by rw [FA_0 h.2.1]; rfl
theorem fg_0_2 {L : List Nat} {i n : Nat} {r : Nat → Int32} (h : AC L i 0 n) : (FA i r)[2]? = some (.ref (i + 1)) := by rw [FA_0 h.2.1]; rfl
theorem fg_0_3 {L : List Nat} {i n : Nat} {r : Nat → Int32} (h : AC L i 0 n) : (FA i r)[3]? = some (.int (r 3)) := by rw [FA_0 h.2.1]; rfl
theorem fs_0_3 {L : List Nat} {i n : Nat} {r : Nat → Int32} (h : AC L i 0 n) (v : Int32) : (FA i r).set 3 (.int v) = FA i (upd r 3 v) := by rw [FA_0 h.2.1, FA_0 h.2.1]; rfl
theorem fk_0_3 {L : List Nat} {i n : Nat} {r : Nat → Int32} (h : AC L i 0 n) : 3 < (FA i r).length := by rw [FA_0 h.2.1]; exact Nat.le_of_ble_eq_true rfl
theorem fg_0_4 {L : List Nat} {i n : Nat} {r : Nat → Int32} (h : AC L i 0 n) : (FA i r)[4]? = some (.int (r 4)) := by rw [FA_0 h.2.1]; rfl
theorem fs_0_4 {L : List Nat} {i n : Nat} {r : Nat → Int32} (h : AC L i 0 n) (v : Int32) : (FA i r).set 4 (.int v) = FA i (upd r 4 v) := by rw [FA_0 h.2.1, FA_0 h.2.1]; rfl
theorem fk_0_4 {L : List Nat} {i n : Nat} {r : Nat → Int32} (h : AC L i 0 n) : 4 < (FA i r).length := by rw [FA_0 h.2.1]; exact Nat.le_of_ble_eq_true rfl
theorem FA_1 {i : Nat} {r : Nat → Int32} (h : KD i = 1) : FA i r = [.ref 7, .int (r 1), .ref (i + 1), .ref (i + 2), .int (r 4), .int (r 5), .int (r 6), .int (r 7)] := by simp [FA, h]
theorem fg_1_0 {L : List Nat} {i n : Nat} {r : Nat → Int32} (h : AC L i 1 n) : (FA i r)[0]? = some (.ref 7) := by rw [FA_1 h.2.1]; rfl
theorem fg_1_1 {L : List Nat} {i n : Nat} {r : Nat → Int32} (h : AC L i 1 n) : (FA i r)[1]? = some (.int (r 1)) := by rw [FA_1 h.2.1]; rfl
theorem fg_1_2 {L : List Nat} {i n : Nat} {r : Nat → Int32} (h : AC L i 1 n) : (FA i r)[2]? = some (.ref (i + 1)) := by rw [FA_1 h.2.1]; rfl
theorem fg_1_3 {L : List Nat} {i n : Nat} {r : Nat → Int32} (h : AC L i 1 n) : (FA i r)[3]? = some (.ref (i + 2)) := by rw [FA_1 h.2.1]; rfl
theorem fg_1_4 {L : List Nat} {i n : Nat} {r : Nat → Int32} (h : AC L i 1 n) : (FA i r)[4]? = some (.int (r 4)) := by rw [FA_1 h.2.1]; rfl
theorem fs_1_4 {L : List Nat} {i n : Nat} {r : Nat → Int32} (h : AC L i 1 n) (v : Int32) : (FA i r).set 4 (.int v) = FA i (upd r 4 v) := by rw [FA_1 h.2.1, FA_1 h.2.1]; rfl
theorem fk_1_4 {L : List Nat} {i n : Nat} {r : Nat → Int32} (h : AC L i 1 n) : 4 < (FA i r).length := by rw [FA_1 h.2.1]; exact Nat.le_of_ble_eq_true rfl
theorem fg_1_5 {L : List Nat} {i n : Nat} {r : Nat → Int32} (h : AC L i 1 n) : (FA i r)[5]? = some (.int (r 5)) := by rw [FA_1 h.2.1]; rfl
theorem fs_1_5 {L : List Nat} {i n : Nat} {r : Nat → Int32} (h : AC L i 1 n) (v : Int32) : (FA i r).set 5 (.int v) = FA i (upd r 5 v) := by rw [FA_1 h.2.1, FA_1 h.2.1]; rfl
theorem fk_1_5 {L : List Nat} {i n : Nat} {r : Nat → Int32} (h : AC L i 1 n) : 5 < (FA i r).length := by rw [FA_1 h.2.1]; exact Nat.le_of_ble_eq_true rfl
theorem fg_1_6 {L : List Nat} {i n : Nat} {r : Nat → Int32} (h : AC L i 1 n) : (FA i r)[6]? = some (.int (r 6)) := by rw [FA_1 h.2.1]; rfl
theorem fs_1_6 {L : List Nat} {i n : Nat} {r : Nat → Int32} (h : AC L i 1 n) (v : Int32) : (FA i r).set 6 (.int v) = FA i (upd r 6 v) := by rw [FA_1 h.2.1, FA_1 h.2.1]; rfl
theorem fk_1_6 {L : List Nat} {i n : Nat} {r : Nat → Int32} (h : AC L i 1 n) : 6 < (FA i r).length := by rw [FA_1 h.2.1]; exact Nat.le_of_ble_eq_true rfl
theorem fg_1_7 {L : List Nat} {i n : Nat} {r : Nat → Int32} (h : AC L i 1 n) : (FA i r)[7]? = some (.int (r 7)) := by rw [FA_1 h.2.1]; rfl
theorem fs_1_7 {L : List Nat} {i n : Nat} {r : Nat → Int32} (h : AC L i 1 n) (v : Int32) : (FA i r).set 7 (.int v) = FA i (upd r 7 v) := by rw [FA_1 h.2.1, FA_1 h.2.1]; rfl
theorem fk_1_7 {L : List Nat} {i n : Nat} {r : Nat → Int32} (h : AC L i 1 n) : 7 < (FA i r).length := by rw [FA_1 h.2.1]; exact Nat.le_of_ble_eq_true rfl
theorem FA_2 {i : Nat} {r : Nat → Int32} (h : KD i = 2) : FA i r = [.ref (i + 1), .int (r 1), .int (r 2)] := by simp [FA, h]
theorem fg_2_0 {L : List Nat} {i n : Nat} {r : Nat → Int32} (h : AC L i 2 n) : (FA i r)[0]? = some (.ref (i + 1)) := by rw [FA_2 h.2.1]; rfl
theorem fg_2_1 {L : List Nat} {i n : Nat} {r : Nat → Int32} (h : AC L i 2 n) : (FA i r)[1]? = some (.int (r 1)) := by rw [FA_2 h.2.1]; rfl
theorem fs_2_1 {L : List Nat} {i n : Nat} {r : Nat → Int32} (h : AC L i 2 n) (v : Int32) : (FA i r).set 1 (.int v) = FA i (upd r 1 v) := by rw [FA_2 h.2.1, FA_2 h.2.1]; rfl
theorem fk_2_1 {L : List Nat} {i n : Nat} {r : Nat → Int32} (h : AC L i 2 n) : 1 < (FA i r).length := by rw [FA_2 h.2.1]; exact Nat.le_of_ble_eq_true rfl
theorem fg_2_2 {L : List Nat} {i n : Nat} {r : Nat → Int32} (h : AC L i 2 n) : (FA i r)[2]? = some (.int (r 2)) := by rw [FA_2 h.2.1]; rfl
theorem fs_2_2 {L : List Nat} {i n : Nat} {r : Nat → Int32} (h : AC L i 2 n) (v : Int32) : (FA i r).set 2 (.int v) = FA i (upd r 2 v) := by rw [FA_2 h.2.1, FA_2 h.2.1]; rfl
theorem fk_2_2 {L : List Nat} {i n : Nat} {r : Nat → Int32} (h : AC L i 2 n) : 2 < (FA i r).length := by rw [FA_2 h.2.1]; exact Nat.le_of_ble_eq_true rfl
theorem FA_3 {i : Nat} {r : Nat → Int32} (h : KD i = 3) : FA i r = [.ref (i + 1), .ref (i + 2), .ref (i + 3), .int (r 3), .int (r 4), .int (r 5)] := by simp [FA, h]
theorem fg_3_0 {L : List Nat} {i n : Nat} {r : Nat → Int32} (h : AC L i 3 n) : (FA i r)[0]? = some (.ref (i + 1)) := by rw [FA_3 h.2.1]; rfl
theorem fg_3_1 {L : List Nat} {i n : Nat} {r : Nat → Int32} (h : AC L i 3 n) : (FA i r)[1]? = some (.ref (i + 2)) := by rw [FA_3 h.2.1]; rfl
theorem fg_3_2 {L : List Nat} {i n : Nat} {r : Nat → Int32} (h : AC L i 3 n) : (FA i r)[2]? = some (.ref (i + 3)) := by rw [FA_3 h.2.1]; rfl
theorem fg_3_3 {L : List Nat} {i n : Nat} {r : Nat → Int32} (h : AC L i 3 n) : (FA i r)[3]? = some (.int (r 3)) := by rw [FA_3 h.2.1]; rfl
theorem fs_3_3 {L : List Nat} {i n : Nat} {r : Nat → Int32} (h : AC L i 3 n) (v : Int32) : (FA i r).set 3 (.int v) = FA i (upd r 3 v) := by rw [FA_3 h.2.1, FA_3 h.2.1]; rfl
theorem fk_3_3 {L : List Nat} {i n : Nat} {r : Nat → Int32} (h : AC L i 3 n) : 3 < (FA i r).length := by rw [FA_3 h.2.1]; exact Nat.le_of_ble_eq_true rfl
theorem fg_3_4 {L : List Nat} {i n : Nat} {r : Nat → Int32} (h : AC L i 3 n) : (FA i r)[4]? = some (.int (r 4)) := by rw [FA_3 h.2.1]; rfl
theorem fs_3_4 {L : List Nat} {i n : Nat} {r : Nat → Int32} (h : AC L i 3 n) (v : Int32) : (FA i r).set 4 (.int v) = FA i (upd r 4 v) := by rw [FA_3 h.2.1, FA_3 h.2.1]; rfl
theorem fk_3_4 {L : List Nat} {i n : Nat} {r : Nat → Int32} (h : AC L i 3 n) : 4 < (FA i r).length := by rw [FA_3 h.2.1]; exact Nat.le_of_ble_eq_true rfl
theorem fg_3_5 {L : List Nat} {i n : Nat} {r : Nat → Int32} (h : AC L i 3 n) : (FA i r)[5]? = some (.int (r 5)) := by rw [FA_3 h.2.1]; rfl
theorem fs_3_5 {L : List Nat} {i n : Nat} {r : Nat → Int32} (h : AC L i 3 n) (v : Int32) : (FA i r).set 5 (.int v) = FA i (upd r 5 v) := by rw [FA_3 h.2.1, FA_3 h.2.1]; rfl
theorem fk_3_5 {L : List Nat} {i n : Nat} {r : Nat → Int32} (h : AC L i 3 n) : 5 < (FA i r).length := by rw [FA_3 h.2.1]; exact Nat.le_of_ble_eq_true rfl
theorem FA_4 {i : Nat} {r : Nat → Int32} (h : KD i = 4) : FA i r = [.ref (i + 2), .ref (i + 1), .int (r 2)] := by simp [FA, h]
theorem fg_4_0 {L : List Nat} {i n : Nat} {r : Nat → Int32} (h : AC L i 4 n) : (FA i r)[0]? = some (.ref (i + 2)) := by rw [FA_4 h.2.1]; rfl
theorem fg_4_1 {L : List Nat} {i n : Nat} {r : Nat → Int32} (h : AC L i 4 n) : (FA i r)[1]? = some (.ref (i + 1)) := by rw [FA_4 h.2.1]; rfl
theorem fg_4_2 {L : List Nat} {i n : Nat} {r : Nat → Int32} (h : AC L i 4 n) : (FA i r)[2]? = some (.int (r 2)) := by rw [FA_4 h.2.1]; rfl
theorem fs_4_2 {L : List Nat} {i n : Nat} {r : Nat → Int32} (h : AC L i 4 n) (v : Int32) : (FA i r).set 2 (.int v) = FA i (upd r 2 v) := by rw [FA_4 h.2.1, FA_4 h.2.1]; rfl
theorem fk_4_2 {L : List Nat} {i n : Nat} {r : Nat → Int32} (h : AC L i 4 n) : 2 < (FA i r).length := by rw [FA_4 h.2.1]; exact Nat.le_of_ble_eq_true rfl
theorem FA_5 {i : Nat} {r : Nat → Int32} (h : KD i = 5) : FA i r = [.ref (i + 1), .int (r 1), .int (r 2)] := by simp [FA, h]
theorem fg_5_0 {L : List Nat} {i n : Nat} {r : Nat → Int32} (h : AC L i 5 n) : (FA i r)[0]? = some (.ref (i + 1)) := by rw [FA_5 h.2.1]; rfl
theorem fg_5_1 {L : List Nat} {i n : Nat} {r : Nat → Int32} (h : AC L i 5 n) : (FA i r)[1]? = some (.int (r 1)) := by rw [FA_5 h.2.1]; rfl
theorem fs_5_1 {L : List Nat} {i n : Nat} {r : Nat → Int32} (h : AC L i 5 n) (v : Int32) : (FA i r).set 1 (.int v) = FA i (upd r 1 v) := by rw [FA_5 h.2.1, FA_5 h.2.1]; rfl
theorem fk_5_1 {L : List Nat} {i n : Nat} {r : Nat → Int32} (h : AC L i 5 n) : 1 < (FA i r).length := by rw [FA_5 h.2.1]; exact Nat.le_of_ble_eq_true rfl
theorem fg_5_2 {L : List Nat} {i n : Nat} {r : Nat → Int32} (h : AC L i 5 n) : (FA i r)[2]? = some (.int (r 2)) := by rw [FA_5 h.2.1]; rfl
theorem fs_5_2 {L : List Nat} {i n : Nat} {r : Nat → Int32} (h : AC L i 5 n) (v : Int32) : (FA i r).set 2 (.int v) = FA i (upd r 2 v) := by rw [FA_5 h.2.1, FA_5 h.2.1]; rfl
theorem fk_5_2 {L : List Nat} {i n : Nat} {r : Nat → Int32} (h : AC L i 5 n) : 2 < (FA i r).length := by rw [FA_5 h.2.1]; exact Nat.le_of_ble_eq_true rfl
theorem FA_6 {i : Nat} {r : Nat → Int32} (h : KD i = 6) : FA i r = [.ref 7, .ref (i + 1), .ref (i + 2), .ref (i + 3), .ref (i + 4), .ref (i + 5), .ref (i + 6), .ref (i + 7), .ref (i + 8), .int (r 9), .int (r 10), .int (r 11)] := by simp [FA, h]
theorem fg_6_0 {L : List Nat} {i n : Nat} {r : Nat → Int32} (h : AC L i 6 n) : (FA i r)[0]? = some (.ref 7) := by rw [FA_6 h.2.1]; rfl
theorem fg_6_1 {L : List Nat} {i n : Nat} {r : Nat → Int32} (h : AC L i 6 n) : (FA i r)[1]? = some (.ref (i + 1)) := by rw [FA_6 h.2.1]; rfl
theorem fg_6_2 {L : List Nat} {i n : Nat} {r : Nat → Int32} (h : AC L i 6 n) : (FA i r)[2]? = some (.ref (i + 2)) := by rw [FA_6 h.2.1]; rfl
theorem fg_6_3 {L : List Nat} {i n : Nat} {r : Nat → Int32} (h : AC L i 6 n) : (FA i r)[3]? = some (.ref (i + 3)) := by rw [FA_6 h.2.1]; rfl
theorem fg_6_4 {L : List Nat} {i n : Nat} {r : Nat → Int32} (h : AC L i 6 n) : (FA i r)[4]? = some (.ref (i + 4)) := by rw [FA_6 h.2.1]; rfl
theorem fg_6_5 {L : List Nat} {i n : Nat} {r : Nat → Int32} (h : AC L i 6 n) : (FA i r)[5]? = some (.ref (i + 5)) := by rw [FA_6 h.2.1]; rfl
theorem fg_6_6 {L : List Nat} {i n : Nat} {r : Nat → Int32} (h : AC L i 6 n) : (FA i r)[6]? = some (.ref (i + 6)) := by rw [FA_6 h.2.1]; rfl
theorem fg_6_7 {L : List Nat} {i n : Nat} {r : Nat → Int32} (h : AC L i 6 n) : (FA i r)[7]? = some (.ref (i + 7)) := by rw [FA_6 h.2.1]; rfl
theorem fg_6_8 {L : List Nat} {i n : Nat} {r : Nat → Int32} (h : AC L i 6 n) : (FA i r)[8]? = some (.ref (i + 8)) := by rw [FA_6 h.2.1]; rfl
theorem fg_6_9 {L : List Nat} {i n : Nat} {r : Nat → Int32} (h : AC L i 6 n) : (FA i r)[9]? = some (.int (r 9)) := by rw [FA_6 h.2.1]; rfl
theorem fs_6_9 {L : List Nat} {i n : Nat} {r : Nat → Int32} (h : AC L i 6 n) (v : Int32) : (FA i r).set 9 (.int v) = FA i (upd r 9 v) := by rw [FA_6 h.2.1, FA_6 h.2.1]; rfl
theorem fk_6_9 {L : List Nat} {i n : Nat} {r : Nat → Int32} (h : AC L i 6 n) : 9 < (FA i r).length := by rw [FA_6 h.2.1]; exact Nat.le_of_ble_eq_true rfl
theorem fg_6_10 {L : List Nat} {i n : Nat} {r : Nat → Int32} (h : AC L i 6 n) : (FA i r)[10]? = some (.int (r 10)) := by rw [FA_6 h.2.1]; rfl
theorem fs_6_10 {L : List Nat} {i n : Nat} {r : Nat → Int32} (h : AC L i 6 n) (v : Int32) : (FA i r).set 10 (.int v) = FA i (upd r 10 v) := by rw [FA_6 h.2.1, FA_6 h.2.1]; rfl
theorem fk_6_10 {L : List Nat} {i n : Nat} {r : Nat → Int32} (h : AC L i 6 n) : 10 < (FA i r).length := by rw [FA_6 h.2.1]; exact Nat.le_of_ble_eq_true rfl
theorem fg_6_11 {L : List Nat} {i n : Nat} {r : Nat → Int32} (h : AC L i 6 n) : (FA i r)[11]? = some (.int (r 11)) := by rw [FA_6 h.2.1]; rfl
theorem fs_6_11 {L : List Nat} {i n : Nat} {r : Nat → Int32} (h : AC L i 6 n) (v : Int32) : (FA i r).set 11 (.int v) = FA i (upd r 11 v) := by rw [FA_6 h.2.1, FA_6 h.2.1]; rfl
theorem fk_6_11 {L : List Nat} {i n : Nat} {r : Nat → Int32} (h : AC L i 6 n) : 11 < (FA i r).length := by rw [FA_6 h.2.1]; exact Nat.le_of_ble_eq_true rfl
theorem FA_7 {i : Nat} {r : Nat → Int32} (h : KD i = 7) : FA i r = [.ref 1, .ref 3, .ref 7, .ref 11, .ref 34, .ref 128] := by simp [FA, h]
theorem fg_7_0 {L : List Nat} {i n : Nat} {r : Nat → Int32} (h : AC L i 7 n) : (FA i r)[0]? = some (.ref 1) := by rw [FA_7 h.2.1]; rfl
theorem fg_7_1 {L : List Nat} {i n : Nat} {r : Nat → Int32} (h : AC L i 7 n) : (FA i r)[1]? = some (.ref 3) := by rw [FA_7 h.2.1]; rfl
theorem fg_7_2 {L : List Nat} {i n : Nat} {r : Nat → Int32} (h : AC L i 7 n) : (FA i r)[2]? = some (.ref 7) := by rw [FA_7 h.2.1]; rfl
theorem fg_7_3 {L : List Nat} {i n : Nat} {r : Nat → Int32} (h : AC L i 7 n) : (FA i r)[3]? = some (.ref 11) := by rw [FA_7 h.2.1]; rfl
theorem fg_7_4 {L : List Nat} {i n : Nat} {r : Nat → Int32} (h : AC L i 7 n) : (FA i r)[4]? = some (.ref 34) := by rw [FA_7 h.2.1]; rfl
theorem fg_7_5 {L : List Nat} {i n : Nat} {r : Nat → Int32} (h : AC L i 7 n) : (FA i r)[5]? = some (.ref 128) := by rw [FA_7 h.2.1]; rfl
theorem FA_8 {i : Nat} {r : Nat → Int32} (h : KD i = 8) : FA i r = [.ref (i + 1), .int (r 1), .ref (i + 2), .int (r 3), .ref (i + 3), .int (r 5), .int (r 6), .int (r 7), .int (r 8)] := by simp [FA, h]
theorem fg_8_0 {L : List Nat} {i n : Nat} {r : Nat → Int32} (h : AC L i 8 n) : (FA i r)[0]? = some (.ref (i + 1)) := by rw [FA_8 h.2.1]; rfl
theorem fg_8_1 {L : List Nat} {i n : Nat} {r : Nat → Int32} (h : AC L i 8 n) : (FA i r)[1]? = some (.int (r 1)) := by rw [FA_8 h.2.1]; rfl
theorem fs_8_1 {L : List Nat} {i n : Nat} {r : Nat → Int32} (h : AC L i 8 n) (v : Int32) : (FA i r).set 1 (.int v) = FA i (upd r 1 v) := by rw [FA_8 h.2.1, FA_8 h.2.1]; rfl
theorem fk_8_1 {L : List Nat} {i n : Nat} {r : Nat → Int32} (h : AC L i 8 n) : 1 < (FA i r).length := by rw [FA_8 h.2.1]; exact Nat.le_of_ble_eq_true rfl
theorem fg_8_2 {L : List Nat} {i n : Nat} {r : Nat → Int32} (h : AC L i 8 n) : (FA i r)[2]? = some (.ref (i + 2)) := by rw [FA_8 h.2.1]; rfl
theorem fg_8_3 {L : List Nat} {i n : Nat} {r : Nat → Int32} (h : AC L i 8 n) : (FA i r)[3]? = some (.int (r 3)) := by rw [FA_8 h.2.1]; rfl
theorem fs_8_3 {L : List Nat} {i n : Nat} {r : Nat → Int32} (h : AC L i 8 n) (v : Int32) : (FA i r).set 3 (.int v) = FA i (upd r 3 v) := by rw [FA_8 h.2.1, FA_8 h.2.1]; rfl
theorem fk_8_3 {L : List Nat} {i n : Nat} {r : Nat → Int32} (h : AC L i 8 n) : 3 < (FA i r).length := by rw [FA_8 h.2.1]; exact Nat.le_of_ble_eq_true rfl
theorem fg_8_4 {L : List Nat} {i n : Nat} {r : Nat → Int32} (h : AC L i 8 n) : (FA i r)[4]? = some (.ref (i + 3)) := by rw [FA_8 h.2.1]; rfl
theorem fg_8_5 {L : List Nat} {i n : Nat} {r : Nat → Int32} (h : AC L i 8 n) : (FA i r)[5]? = some (.int (r 5)) := by rw [FA_8 h.2.1]; rfl
theorem fs_8_5 {L : List Nat} {i n : Nat} {r : Nat → Int32} (h : AC L i 8 n) (v : Int32) : (FA i r).set 5 (.int v) = FA i (upd r 5 v) := by rw [FA_8 h.2.1, FA_8 h.2.1]; rfl
theorem fk_8_5 {L : List Nat} {i n : Nat} {r : Nat → Int32} (h : AC L i 8 n) : 5 < (FA i r).length := by rw [FA_8 h.2.1]; exact Nat.le_of_ble_eq_true rfl
theorem fg_8_6 {L : List Nat} {i n : Nat} {r : Nat → Int32} (h : AC L i 8 n) : (FA i r)[6]? = some (.int (r 6)) := by rw [FA_8 h.2.1]; rfl
theorem fs_8_6 {L : List Nat} {i n : Nat} {r : Nat → Int32} (h : AC L i 8 n) (v : Int32) : (FA i r).set 6 (.int v) = FA i (upd r 6 v) := by rw [FA_8 h.2.1, FA_8 h.2.1]; rfl
theorem fk_8_6 {L : List Nat} {i n : Nat} {r : Nat → Int32} (h : AC L i 8 n) : 6 < (FA i r).length := by rw [FA_8 h.2.1]; exact Nat.le_of_ble_eq_true rfl
theorem fg_8_7 {L : List Nat} {i n : Nat} {r : Nat → Int32} (h : AC L i 8 n) : (FA i r)[7]? = some (.int (r 7)) := by rw [FA_8 h.2.1]; rfl
theorem fs_8_7 {L : List Nat} {i n : Nat} {r : Nat → Int32} (h : AC L i 8 n) (v : Int32) : (FA i r).set 7 (.int v) = FA i (upd r 7 v) := by rw [FA_8 h.2.1, FA_8 h.2.1]; rfl
theorem fk_8_7 {L : List Nat} {i n : Nat} {r : Nat → Int32} (h : AC L i 8 n) : 7 < (FA i r).length := by rw [FA_8 h.2.1]; exact Nat.le_of_ble_eq_true rfl
theorem fg_8_8 {L : List Nat} {i n : Nat} {r : Nat → Int32} (h : AC L i 8 n) : (FA i r)[8]? = some (.int (r 8)) := by rw [FA_8 h.2.1]; rfl
theorem fs_8_8 {L : List Nat} {i n : Nat} {r : Nat → Int32} (h : AC L i 8 n) (v : Int32) : (FA i r).set 8 (.int v) = FA i (upd r 8 v) := by rw [FA_8 h.2.1, FA_8 h.2.1]; rfl
theorem fk_8_8 {L : List Nat} {i n : Nat} {r : Nat → Int32} (h : AC L i 8 n) : 8 < (FA i r).length := by rw [FA_8 h.2.1]; exact Nat.le_of_ble_eq_true rfl
abbrev m_X0_look : MI := (yX0_look, cX0_look, 6, none, { frames := 5, cells := 0, slots := 0, locals := 108 })
abbrev m_X0_seenAs : MI := (yX0_seenAs, cX0_seenAs, 4, (some .int), { frames := 3, cells := 0, slots := 0, locals := 63 })
abbrev m_X0_waitBehind : MI := (yX0_waitBehind, cX0_waitBehind, 6, (some .int), { frames := 1, cells := 0, slots := 0, locals := 21 })
abbrev m_X1_enter : MI := (yX1_enter, cX1_enter, 4, none, { frames := 0, cells := 0, slots := 0, locals := 0 })
abbrev m_X1_become : MI := (yX1_become, cX1_become, 2, none, { frames := 1, cells := 0, slots := 0, locals := 40 })
abbrev m_X1_hear : MI := (yX1_hear, cX1_hear, 4, none, { frames := 3, cells := 0, slots := 0, locals := 63 })
abbrev m_X1_loses : MI := (yX1_loses, cX1_loses, 4, (some .boolean), { frames := 0, cells := 0, slots := 0, locals := 0 })
abbrev m_X1_takeTable : MI := (yX1_takeTable, cX1_takeTable, 4, none, { frames := 0, cells := 0, slots := 0, locals := 0 })
abbrev m_X1_takeSymbol : MI := (yX1_takeSymbol, cX1_takeSymbol, 5, none, { frames := 1, cells := 0, slots := 0, locals := 21 })
abbrev m_X1_knowsIn : MI := (yX1_knowsIn, cX1_knowsIn, 2, (some .boolean), { frames := 0, cells := 0, slots := 0, locals := 0 })
abbrev m_X1_lacks : MI := (yX1_lacks, cX1_lacks, 2, (some .int), { frames := 1, cells := 0, slots := 0, locals := 21 })
abbrev m_X1_wholeBits : MI := (yX1_wholeBits, cX1_wholeBits, 3, (some .int), { frames := 2, cells := 0, slots := 0, locals := 42 })
abbrev m_X1_fillUp : MI := (yX1_fillUp, cX1_fillUp, 6, (some .int), { frames := 2, cells := 0, slots := 0, locals := 42 })
abbrev m_X2_keep : MI := (yX2_keep, cX2_keep, 2, none, { frames := 3, cells := 0, slots := 0, locals := 83 })
abbrev m_X2_giveBack : MI := (yX2_giveBack, cX2_giveBack, 2, (some .boolean), { frames := 3, cells := 0, slots := 0, locals := 83 })
abbrev m_X2_forget : MI := (yX2_forget, cX2_forget, 1, none, { frames := 0, cells := 0, slots := 0, locals := 0 })
abbrev m_X3_clear : MI := (yX3_clear, cX3_clear, 1, none, { frames := 1, cells := 0, slots := 0, locals := 22 })
abbrev m_X3_addFile : MI := (yX3_addFile, cX3_addFile, 4, (some .boolean), { frames := 0, cells := 0, slots := 0, locals := 0 })
abbrev m_X3_setTable : MI := (yX3_setTable, cX3_setTable, 3, none, { frames := 0, cells := 0, slots := 0, locals := 0 })
abbrev m_X3_hasFile : MI := (yX3_hasFile, cX3_hasFile, 2, (some .boolean), { frames := 0, cells := 0, slots := 0, locals := 0 })
abbrev m_X3_symbolsOf : MI := (yX3_symbolsOf, cX3_symbolsOf, 2, (some .int), { frames := 0, cells := 0, slots := 0, locals := 0 })
abbrev m_X3_isTableTurn : MI := (yX3_isTableTurn, cX3_isTableTurn, 2, (some .boolean), { frames := 0, cells := 0, slots := 0, locals := 0 })
abbrev m_X3_become : MI := (yX3_become, cX3_become, 2, none, { frames := 1, cells := 0, slots := 0, locals := 40 })
abbrev m_X4_begin : MI := (yX4_begin, cX4_begin, 1, none, { frames := 2, cells := 0, slots := 0, locals := 61 })
abbrev m_X4_become : MI := (yX4_become, cX4_become, 3, none, { frames := 2, cells := 0, slots := 0, locals := 61 })
abbrev m_X4_hasListener : MI := (yX4_hasListener, cX4_hasListener, 2, (some .boolean), { frames := 0, cells := 0, slots := 0, locals := 0 })
abbrev m_X4_hasRoom : MI := (yX4_hasRoom, cX4_hasRoom, 1, (some .boolean), { frames := 0, cells := 0, slots := 0, locals := 0 })
abbrev m_X4_addListener : MI := (yX4_addListener, cX4_addListener, 3, (some .int), { frames := 1, cells := 0, slots := 0, locals := 23 })
abbrev m_X4_advance : MI := (yX4_advance, cX4_advance, 3, none, { frames := 5, cells := 0, slots := 0, locals := 108 })
abbrev m_X5_append : MI := (yX5_append, cX5_append, 2, (some .boolean), { frames := 0, cells := 0, slots := 0, locals := 0 })
abbrev m_X5_firstFault : MI := (yX5_firstFault, cX5_firstFault, 4, (some .int), { frames := 4, cells := 0, slots := 0, locals := 89 })
abbrev m_X5_readItem : MI := (yX5_readItem, cX5_readItem, 2, (some .boolean), { frames := 3, cells := 0, slots := 0, locals := 68 })
abbrev m_X5_readFile : MI := (yX5_readFile, cX5_readFile, 5, (some .boolean), { frames := 2, cells := 0, slots := 0, locals := 44 })
abbrev m_X5_readTable : MI := (yX5_readTable, cX5_readTable, 4, (some .boolean), { frames := 2, cells := 0, slots := 0, locals := 44 })
abbrev m_X5_readNumber : MI := (yX5_readNumber, cX5_readNumber, 4, (some .int), { frames := 1, cells := 0, slots := 0, locals := 21 })
abbrev m_X5_readFigure : MI := (yX5_readFigure, cX5_readFigure, 2, (some .int), { frames := 0, cells := 0, slots := 0, locals := 0 })
abbrev m_X5_takes : MI := (yX5_takes, cX5_takes, 2, (some .boolean), { frames := 0, cells := 0, slots := 0, locals := 0 })
abbrev m_X6_begin : MI := (yX6_begin, cX6_begin, 2, none, { frames := 1, cells := 0, slots := 0, locals := 40 })
abbrev m_X6_become : MI := (yX6_become, cX6_become, 2, none, { frames := 1, cells := 0, slots := 0, locals := 40 })
abbrev m_X6_step : MI := (yX6_step, cX6_step, 1, none, { frames := 4, cells := 0, slots := 0, locals := 88 })
abbrev m_X6_chooseFile : MI := (yX6_chooseFile, cX6_chooseFile, 4, (some .int), { frames := 1, cells := 0, slots := 0, locals := 22 })
abbrev m_X6_sendSymbol : MI := (yX6_sendSymbol, cX6_sendSymbol, 3, none, { frames := 3, cells := 0, slots := 0, locals := 66 })
abbrev m_X6_note : MI := (yX6_note, cX6_note, 5, none, { frames := 2, cells := 0, slots := 0, locals := 42 })
abbrev m_X6_placeOf : MI := (yX6_placeOf, cX6_placeOf, 1, (some .int), { frames := 1, cells := 0, slots := 0, locals := 22 })
abbrev m_X6_fileIn : MI := (yX6_fileIn, cX6_fileIn, 2, (some .int), { frames := 2, cells := 0, slots := 0, locals := 42 })
abbrev m_X6_symbolIn : MI := (yX6_symbolIn, cX6_symbolIn, 2, (some .int), { frames := 2, cells := 0, slots := 0, locals := 42 })
abbrev m_X6_versionIn : MI := (yX6_versionIn, cX6_versionIn, 2, (some .int), { frames := 2, cells := 0, slots := 0, locals := 42 })
abbrev m_X6_startNewVersion : MI := (yX6_startNewVersion, cX6_startNewVersion, 2, (some .int), { frames := 0, cells := 0, slots := 0, locals := 0 })
abbrev m_X6_allWeights : MI := (yX6_allWeights, cX6_allWeights, 3, (some .int), { frames := 0, cells := 0, slots := 0, locals := 0 })
abbrev m_X7_write : MI := (yX7_write, cX7_write, 2, (some .int), { frames := 1, cells := 0, slots := 0, locals := 21 })
abbrev m_X7_wipe : MI := (yX7_wipe, cX7_wipe, 2, (some .int), { frames := 0, cells := 0, slots := 0, locals := 0 })
abbrev m_X7_fault : MI := (yX7_fault, cX7_fault, 1, (some .int), { frames := 5, cells := 0, slots := 0, locals := 112 })
abbrev m_X7_lay : MI := (yX7_lay, cX7_lay, 1, (some .int), { frames := 5, cells := 0, slots := 0, locals := 112 })
abbrev m_X7_tick : MI := (yX7_tick, cX7_tick, 4, (some .int), { frames := 6, cells := 0, slots := 0, locals := 130 })
abbrev m_X7_renew : MI := (yX7_renew, cX7_renew, 2, (some .int), { frames := 4, cells := 0, slots := 0, locals := 104 })
abbrev m_X7_weigh : MI := (yX7_weigh, cX7_weigh, 4, (some .int), { frames := 4, cells := 0, slots := 0, locals := 104 })
abbrev m_X7_join : MI := (yX7_join, cX7_join, 2, (some .int), { frames := 4, cells := 0, slots := 0, locals := 104 })
abbrev m_X7_repair : MI := (yX7_repair, cX7_repair, 4, (some .int), { frames := 4, cells := 0, slots := 0, locals := 104 })
abbrev m_X7_undo : MI := (yX7_undo, cX7_undo, 1, (some .int), { frames := 4, cells := 0, slots := 0, locals := 104 })
abbrev m_X7_file : MI := (yX7_file, cX7_file, 4, (some .int), { frames := 2, cells := 0, slots := 0, locals := 44 })
abbrev m_X7_sent : MI := (yX7_sent, cX7_sent, 4, (some .int), { frames := 3, cells := 0, slots := 0, locals := 63 })
abbrev m_X7_listener : MI := (yX7_listener, cX7_listener, 4, (some .int), { frames := 3, cells := 0, slots := 0, locals := 64 })
abbrev m_X7_holds : MI := (yX7_holds, cX7_holds, 5, (some .int), { frames := 2, cells := 0, slots := 0, locals := 42 })
abbrev m_X7_waits : MI := (yX7_waits, cX7_waits, 3, (some .int), { frames := 6, cells := 0, slots := 0, locals := 133 })
abbrev m_X7_mean : MI := (yX7_mean, cX7_mean, 8, (some .int), { frames := 6, cells := 0, slots := 0, locals := 133 })
abbrev m_X7_count : MI := (yX7_count, cX7_count, 2, (some .int), { frames := 1, cells := 0, slots := 0, locals := 22 })
abbrev m_X7_partBits : MI := (yX7_partBits, cX7_partBits, 2, (some .int), { frames := 1, cells := 0, slots := 0, locals := 23 })
abbrev m_X7_bitsOf : MI := (yX7_bitsOf, cX7_bitsOf, 4, (some .int), { frames := 0, cells := 0, slots := 0, locals := 0 })
abbrev m_X8_within : MI := (yX8_within, cX8_within, 3, (some .boolean), { frames := 0, cells := 0, slots := 0, locals := 0 })
abbrev m_X8_ones : MI := (yX8_ones, cX8_ones, 3, (some .int), { frames := 0, cells := 0, slots := 0, locals := 0 })
abbrev m_X8_laysFile : MI := (yX8_laysFile, cX8_laysFile, 5, none, { frames := 0, cells := 0, slots := 0, locals := 0 })
abbrev m_X8_begins : MI := (yX8_begins, cX8_begins, 4, none, { frames := 0, cells := 0, slots := 0, locals := 0 })
abbrev m_X8_write : MI := (yX8_write, cX8_write, 2, (some .int), { frames := 1, cells := 0, slots := 0, locals := 22 })
abbrev m_X8_wipe : MI := (yX8_wipe, cX8_wipe, 2, (some .int), { frames := 0, cells := 0, slots := 0, locals := 0 })
abbrev m_X8_here : MI := (yX8_here, cX8_here, 1, (some .int), { frames := 0, cells := 0, slots := 0, locals := 0 })
abbrev m_X8_passes : MI := (yX8_passes, cX8_passes, 6, (some .boolean), { frames := 1, cells := 0, slots := 0, locals := 22 })
abbrev m_X8_passesFile : MI := (yX8_passesFile, cX8_passesFile, 4, (some .boolean), { frames := 2, cells := 0, slots := 0, locals := 47 })
abbrev m_X8_passesTable : MI := (yX8_passesTable, cX8_passesTable, 2, (some .boolean), { frames := 2, cells := 0, slots := 0, locals := 47 })
abbrev m_X8_faultIs : MI := (yX8_faultIs, cX8_faultIs, 3, (some .int), { frames := 3, cells := 0, slots := 0, locals := 70 })
abbrev m_X8_fault : MI := (yX8_fault, cX8_fault, 1, (some .int), { frames := 4, cells := 0, slots := 0, locals := 92 })
abbrev m_X8_lay : MI := (yX8_lay, cX8_lay, 1, (some .int), { frames := 4, cells := 0, slots := 0, locals := 92 })
abbrev m_X8_sendsNext : MI := (yX8_sendsNext, cX8_sendsNext, 5, (some .int), { frames := 0, cells := 0, slots := 0, locals := 0 })
abbrev m_X8_logs : MI := (yX8_logs, cX8_logs, 6, none, { frames := 0, cells := 0, slots := 0, locals := 0 })
abbrev m_X8_isLost : MI := (yX8_isLost, cX8_isLost, 5, (some .boolean), { frames := 0, cells := 0, slots := 0, locals := 0 })
abbrev m_X8_hearsTable : MI := (yX8_hearsTable, cX8_hearsTable, 5, none, { frames := 0, cells := 0, slots := 0, locals := 0 })
abbrev m_X8_hearsSymbol : MI := (yX8_hearsSymbol, cX8_hearsSymbol, 5, none, { frames := 0, cells := 0, slots := 0, locals := 0 })
abbrev m_X8_ticks : MI := (yX8_ticks, cX8_ticks, 7, (some .int), { frames := 1, cells := 0, slots := 0, locals := 25 })
abbrev m_X8_copies : MI := (yX8_copies, cX8_copies, 4, none, { frames := 0, cells := 0, slots := 0, locals := 0 })
abbrev m_X8_minds : MI := (yX8_minds, cX8_minds, 2, none, { frames := 1, cells := 0, slots := 0, locals := 23 })
abbrev m_X8_undo : MI := (yX8_undo, cX8_undo, 1, (some .int), { frames := 1, cells := 0, slots := 0, locals := 23 })
abbrev m_X8_tick : MI := (yX8_tick, cX8_tick, 4, (some .int), { frames := 2, cells := 0, slots := 0, locals := 51 })
abbrev m_X8_isFile : MI := (yX8_isFile, cX8_isFile, 2, (some .boolean), { frames := 1, cells := 0, slots := 0, locals := 22 })
abbrev m_X8_isListener : MI := (yX8_isListener, cX8_isListener, 2, (some .boolean), { frames := 1, cells := 0, slots := 0, locals := 22 })
abbrev m_X8_renew : MI := (yX8_renew, cX8_renew, 2, (some .int), { frames := 2, cells := 0, slots := 0, locals := 44 })
abbrev m_X8_weigh : MI := (yX8_weigh, cX8_weigh, 4, (some .int), { frames := 2, cells := 0, slots := 0, locals := 44 })
abbrev m_X8_join : MI := (yX8_join, cX8_join, 4, (some .int), { frames := 2, cells := 0, slots := 0, locals := 44 })
abbrev m_X8_knows : MI := (yX8_knows, cX8_knows, 2, (some .boolean), { frames := 0, cells := 0, slots := 0, locals := 0 })
abbrev m_X8_lacks : MI := (yX8_lacks, cX8_lacks, 4, (some .int), { frames := 1, cells := 0, slots := 0, locals := 22 })
abbrev m_X8_repair : MI := (yX8_repair, cX8_repair, 7, (some .int), { frames := 2, cells := 0, slots := 0, locals := 45 })
abbrev m_X8_partBits : MI := (yX8_partBits, cX8_partBits, 2, (some .int), { frames := 2, cells := 0, slots := 0, locals := 43 })
abbrev m_X8_file : MI := (yX8_file, cX8_file, 3, (some .int), { frames := 3, cells := 0, slots := 0, locals := 64 })
abbrev m_X8_sent : MI := (yX8_sent, cX8_sent, 3, (some .int), { frames := 1, cells := 0, slots := 0, locals := 22 })
abbrev m_X8_wholes : MI := (yX8_wholes, cX8_wholes, 4, (some .int), { frames := 2, cells := 0, slots := 0, locals := 45 })
abbrev m_X8_listener : MI := (yX8_listener, cX8_listener, 4, (some .int), { frames := 3, cells := 0, slots := 0, locals := 68 })
abbrev m_X8_holds : MI := (yX8_holds, cX8_holds, 5, (some .int), { frames := 2, cells := 0, slots := 0, locals := 45 })
abbrev m_X8_waitsFrom : MI := (yX8_waitsFrom, cX8_waitsFrom, 8, (some .int), { frames := 2, cells := 0, slots := 0, locals := 51 })
abbrev m_X8_waitIs : MI := (yX8_waitIs, cX8_waitIs, 4, (some .int), { frames := 3, cells := 0, slots := 0, locals := 78 })
abbrev m_X8_waits : MI := (yX8_waits, cX8_waits, 3, (some .int), { frames := 4, cells := 0, slots := 0, locals := 101 })
abbrev m_X8_mean : MI := (yX8_mean, cX8_mean, 8, (some .int), { frames := 4, cells := 0, slots := 0, locals := 101 })
abbrev m_X8_count : MI := (yX8_count, cX8_count, 2, (some .int), { frames := 0, cells := 0, slots := 0, locals := 0 })
abbrev m_Jxf58ca_isNaN_12338 : MI := (yJxf58ca_isNaN_12338, cJxf58ca_isNaN_12338, 1, (some .boolean), { frames := 0, cells := 0, slots := 0, locals := 0 })
abbrev m_Jxf58ca_floatToIntBits_5c35a : MI := (yJxf58ca_floatToIntBits_5c35a, cJxf58ca_floatToIntBits_5c35a, 1, (some .int), { frames := 1, cells := 0, slots := 0, locals := 23 })
abbrev m_J6_bitCount_0f7a4 : MI := (yJ6_bitCount_0f7a4, cJ6_bitCount_0f7a4, 1, (some .int), { frames := 0, cells := 0, slots := 0, locals := 0 })
abbrev m_J9_floorMod_7cf53 : MI := (yJ9_floorMod_7cf53, cJ9_floorMod_7cf53, 3, (some .int), { frames := 0, cells := 0, slots := 0, locals := 0 })
theorem sv_X0_28 : SV RX0 28 m_X6_become 1 6 := ⟨k_575, k_383, k_384, k_41, k_385, ⟨by decide +kernel, by decide +kernel, by decide +kernel⟩, ⟨_, _, rfl⟩, rfl, rfl⟩
theorem sv_X0_55 : SV RX0 55 m_X6_step 0 6 := ⟨k_578, k_399, k_400, k_41, k_401, ⟨by decide +kernel, by decide +kernel, by decide +kernel⟩, ⟨_, _, rfl⟩, rfl, rfl⟩
theorem sv_X0_58 : SV RX0 58 m_X0_seenAs 2 0 := ⟨k_579, k_581, k_12, k_45, k_582, ⟨by decide +kernel, by decide +kernel, by decide +kernel⟩, ⟨_, _, rfl⟩, rfl, rfl⟩
theorem sv_X0_61 : SV RX0 61 m_X6_fileIn 1 6 := ⟨k_583, k_445, k_446, k_41, k_447, ⟨by decide +kernel, by decide +kernel, by decide +kernel⟩, ⟨_, _, rfl⟩, rfl, rfl⟩
theorem sv_X0_65 : SV RX0 65 m_X6_symbolIn 1 6 := ⟨k_584, k_457, k_458, k_41, k_459, ⟨by decide +kernel, by decide +kernel, by decide +kernel⟩, ⟨_, _, rfl⟩, rfl, rfl⟩
theorem sv_X0_71 : SS RX0 71 m_J6_bitCount_0f7a4 1 := ⟨k_589, k_515, k_48, k_516, ⟨by decide +kernel, by decide +kernel, by decide +kernel⟩, rfl, rfl⟩
theorem sv_X1_44 : SV RX1 44 m_X1_loses 1 1 := ⟨k_436, k_438, k_9, k_42, k_439, ⟨by decide +kernel, by decide +kernel, by decide +kernel⟩, ⟨_, _, rfl⟩, rfl, rfl⟩
theorem sv_X1_48 : SV RX1 48 m_X6_fileIn 1 6 := ⟨k_444, k_445, k_446, k_41, k_447, ⟨by decide +kernel, by decide +kernel, by decide +kernel⟩, ⟨_, _, rfl⟩, rfl, rfl⟩
theorem sv_X1_57 : SV RX1 57 m_X1_takeTable 2 1 := ⟨k_448, k_450, k_10, k_42, k_451, ⟨by decide +kernel, by decide +kernel, by decide +kernel⟩, ⟨_, _, rfl⟩, rfl, rfl⟩
theorem sv_X1_61 : SV RX1 61 m_X3_hasFile 1 3 := ⟨k_452, k_453, k_454, k_39, k_455, ⟨by decide +kernel, by decide +kernel, by decide +kernel⟩, ⟨_, _, rfl⟩, rfl, rfl⟩
theorem sv_X1_66 : SV RX1 66 m_X6_symbolIn 1 6 := ⟨k_456, k_457, k_458, k_41, k_459, ⟨by decide +kernel, by decide +kernel, by decide +kernel⟩, ⟨_, _, rfl⟩, rfl, rfl⟩
theorem sv_X1_69 : SV RX1 69 m_X6_versionIn 1 6 := ⟨k_460, k_461, k_462, k_41, k_463, ⟨by decide +kernel, by decide +kernel, by decide +kernel⟩, ⟨_, _, rfl⟩, rfl, rfl⟩
theorem sv_X1_72 : SV RX1 72 m_X1_takeSymbol 4 1 := ⟨k_464, k_466, k_11, k_42, k_467, ⟨by decide +kernel, by decide +kernel, by decide +kernel⟩, ⟨_, _, rfl⟩, rfl, rfl⟩
theorem sv_X1_90 : SV RX1 90 m_X1_knowsIn 1 1 := ⟨k_468, k_469, k_470, k_42, k_471, ⟨by decide +kernel, by decide +kernel, by decide +kernel⟩, ⟨_, _, rfl⟩, rfl, rfl⟩
theorem sv_X1_96 : SS RX1 96 m_J6_bitCount_0f7a4 1 := ⟨k_514, k_515, k_48, k_516, ⟨by decide +kernel, by decide +kernel, by decide +kernel⟩, rfl, rfl⟩
theorem sv_X1_107 : SV RX1 107 m_X1_lacks 1 1 := ⟨k_527, k_511, k_512, k_42, k_513, ⟨by decide +kernel, by decide +kernel, by decide +kernel⟩, ⟨_, _, rfl⟩, rfl, rfl⟩
theorem sv_X1_110 : SV RX1 110 m_X3_symbolsOf 1 3 := ⟨k_528, k_429, k_430, k_39, k_431, ⟨by decide +kernel, by decide +kernel, by decide +kernel⟩, ⟨_, _, rfl⟩, rfl, rfl⟩
theorem sv_X2_24 : SV RX2 24 m_X4_become 1 4 := ⟨k_378, k_379, k_380, k_40, k_381, ⟨by decide +kernel, by decide +kernel, by decide +kernel⟩, ⟨_, _, rfl⟩, rfl, rfl⟩
theorem sv_X3_25 : SV RX3 25 m_X3_setTable 2 3 := ⟨k_330, k_118, k_119, k_39, k_120, ⟨by decide +kernel, by decide +kernel, by decide +kernel⟩, ⟨_, _, rfl⟩, rfl, rfl⟩
theorem sv_X4_29 : SV RX4 29 m_X6_begin 0 6 := ⟨k_236, k_237, k_238, k_41, k_239, ⟨by decide +kernel, by decide +kernel, by decide +kernel⟩, ⟨_, _, rfl⟩, rfl, rfl⟩
theorem sv_X4_36 : SV RX4 36 m_X6_become 1 6 := ⟨k_382, k_383, k_384, k_41, k_385, ⟨by decide +kernel, by decide +kernel, by decide +kernel⟩, ⟨_, _, rfl⟩, rfl, rfl⟩
theorem sv_X4_40 : SV RX4 40 m_X1_become 1 1 := ⟨k_386, k_387, k_388, k_42, k_389, ⟨by decide +kernel, by decide +kernel, by decide +kernel⟩, ⟨_, _, rfl⟩, rfl, rfl⟩
theorem sv_X4_46 : SV RX4 46 m_X1_enter 2 1 := ⟨k_497, k_498, k_499, k_42, k_500, ⟨by decide +kernel, by decide +kernel, by decide +kernel⟩, ⟨_, _, rfl⟩, rfl, rfl⟩
theorem sv_X4_50 : SV RX4 50 m_X6_step 0 6 := ⟨k_398, k_399, k_400, k_41, k_401, ⟨by decide +kernel, by decide +kernel, by decide +kernel⟩, ⟨_, _, rfl⟩, rfl, rfl⟩
theorem sv_X4_53 : SV RX4 53 m_X1_hear 2 1 := ⟨k_432, k_433, k_434, k_42, k_435, ⟨by decide +kernel, by decide +kernel, by decide +kernel⟩, ⟨_, _, rfl⟩, rfl, rfl⟩
theorem sv_X5_19 : SV RX5 19 m_X3_clear 0 3 := ⟨k_326, k_327, k_328, k_39, k_329, ⟨by decide +kernel, by decide +kernel, by decide +kernel⟩, ⟨_, _, rfl⟩, rfl, rfl⟩
theorem sv_X5_27 : SV RX5 27 m_X5_readItem 1 5 := ⟨k_331, k_333, k_0, k_38, k_334, ⟨by decide +kernel, by decide +kernel, by decide +kernel⟩, ⟨_, _, rfl⟩, rfl, rfl⟩
theorem sv_X5_31 : SV RX5 31 m_X5_takes 1 5 := ⟨k_335, k_337, k_1, k_38, k_338, ⟨by decide +kernel, by decide +kernel, by decide +kernel⟩, ⟨_, _, rfl⟩, rfl, rfl⟩
theorem sv_X5_35 : SV RX5 35 m_X5_readFile 1 5 := ⟨k_339, k_341, k_2, k_38, k_342, ⟨by decide +kernel, by decide +kernel, by decide +kernel⟩, ⟨_, _, rfl⟩, rfl, rfl⟩
theorem sv_X5_38 : SV RX5 38 m_X5_readTable 1 5 := ⟨k_352, k_354, k_5, k_38, k_355, ⟨by decide +kernel, by decide +kernel, by decide +kernel⟩, ⟨_, _, rfl⟩, rfl, rfl⟩
theorem sv_X5_41 : SV RX5 41 m_X5_readNumber 1 5 := ⟨k_343, k_345, k_3, k_38, k_346, ⟨by decide +kernel, by decide +kernel, by decide +kernel⟩, ⟨_, _, rfl⟩, rfl, rfl⟩
theorem sv_X5_45 : SV RX5 45 m_X3_addFile 3 3 := ⟨k_351, k_114, k_115, k_39, k_116, ⟨by decide +kernel, by decide +kernel, by decide +kernel⟩, ⟨_, _, rfl⟩, rfl, rfl⟩
theorem sv_X5_49 : SV RX5 49 m_X3_setTable 2 3 := ⟨k_356, k_118, k_119, k_39, k_120, ⟨by decide +kernel, by decide +kernel, by decide +kernel⟩, ⟨_, _, rfl⟩, rfl, rfl⟩
theorem sv_X5_53 : SV RX5 53 m_X5_readFigure 0 5 := ⟨k_347, k_349, k_4, k_38, k_350, ⟨by decide +kernel, by decide +kernel, by decide +kernel⟩, ⟨_, _, rfl⟩, rfl, rfl⟩
theorem sv_X6_61 : SV RX6 61 m_X3_isTableTurn 1 3 := ⟨k_402, k_403, k_404, k_39, k_405, ⟨by decide +kernel, by decide +kernel, by decide +kernel⟩, ⟨_, _, rfl⟩, rfl, rfl⟩
theorem sv_X6_65 : SV RX6 65 m_X6_note 3 6 := ⟨k_406, k_408, k_6, k_41, k_409, ⟨by decide +kernel, by decide +kernel, by decide +kernel⟩, ⟨_, _, rfl⟩, rfl, rfl⟩
theorem sv_X6_69 : SV RX6 69 m_X6_chooseFile 0 6 := ⟨k_416, k_418, k_7, k_41, k_419, ⟨by decide +kernel, by decide +kernel, by decide +kernel⟩, ⟨_, _, rfl⟩, rfl, rfl⟩
theorem sv_X6_73 : SV RX6 73 m_X6_sendSymbol 1 6 := ⟨k_424, k_426, k_8, k_41, k_427, ⟨by decide +kernel, by decide +kernel, by decide +kernel⟩, ⟨_, _, rfl⟩, rfl, rfl⟩
theorem sv_X6_77 : SV RX6 77 m_X6_allWeights 0 6 := ⟨k_420, k_421, k_422, k_41, k_423, ⟨by decide +kernel, by decide +kernel, by decide +kernel⟩, ⟨_, _, rfl⟩, rfl, rfl⟩
theorem sv_X6_83 : SV RX6 83 m_X3_symbolsOf 1 3 := ⟨k_428, k_429, k_430, k_39, k_431, ⟨by decide +kernel, by decide +kernel, by decide +kernel⟩, ⟨_, _, rfl⟩, rfl, rfl⟩
theorem sv_X6_87 : SS RX6 87 m_X6_placeOf 1 := ⟨k_410, k_411, k_41, k_412, ⟨by decide +kernel, by decide +kernel, by decide +kernel⟩, rfl, rfl⟩
theorem sv_X6_90 : SS RX6 90 m_J9_floorMod_7cf53 2 := ⟨k_413, k_414, k_47, k_415, ⟨by decide +kernel, by decide +kernel, by decide +kernel⟩, rfl, rfl⟩
theorem sv_X7_60 : SV RX7 60 m_X5_append 1 5 := ⟨k_310, k_311, k_312, k_38, k_313, ⟨by decide +kernel, by decide +kernel, by decide +kernel⟩, ⟨_, _, rfl⟩, rfl, rfl⟩
theorem sv_X7_68 : SV RX7 68 m_X5_firstFault 1 5 := ⟨k_322, k_323, k_324, k_38, k_325, ⟨by decide +kernel, by decide +kernel, by decide +kernel⟩, ⟨_, _, rfl⟩, rfl, rfl⟩
theorem sv_X7_75 : SV RX7 75 m_X3_become 1 3 := ⟨k_361, k_362, k_363, k_39, k_364, ⟨by decide +kernel, by decide +kernel, by decide +kernel⟩, ⟨_, _, rfl⟩, rfl, rfl⟩
theorem sv_X7_43 : SV RX7 43 m_X4_begin 0 4 := ⟨k_232, k_233, k_234, k_40, k_235, ⟨by decide +kernel, by decide +kernel, by decide +kernel⟩, ⟨_, _, rfl⟩, rfl, rfl⟩
theorem sv_X7_78 : SV RX7 78 m_X2_forget 0 2 := ⟨k_366, k_367, k_368, k_44, k_369, ⟨by decide +kernel, by decide +kernel, by decide +kernel⟩, ⟨_, _, rfl⟩, rfl, rfl⟩
theorem sv_X7_90 : SV RX7 90 m_X2_keep 1 2 := ⟨k_374, k_375, k_376, k_44, k_377, ⟨by decide +kernel, by decide +kernel, by decide +kernel⟩, ⟨_, _, rfl⟩, rfl, rfl⟩
theorem sv_X7_97 : SV RX7 97 m_X4_advance 0 4 := ⟨k_394, k_395, k_396, k_40, k_397, ⟨by decide +kernel, by decide +kernel, by decide +kernel⟩, ⟨_, _, rfl⟩, rfl, rfl⟩
theorem sv_X7_100 : SV RX7 100 m_X3_hasFile 1 3 := ⟨k_476, k_453, k_454, k_39, k_455, ⟨by decide +kernel, by decide +kernel, by decide +kernel⟩, ⟨_, _, rfl⟩, rfl, rfl⟩
theorem sv_X7_103 : SV RX7 103 m_X6_startNewVersion 1 6 := ⟨k_477, k_478, k_479, k_41, k_480, ⟨by decide +kernel, by decide +kernel, by decide +kernel⟩, ⟨_, _, rfl⟩, rfl, rfl⟩
theorem sv_X7_111 : SV RX7 111 m_X4_hasRoom 0 4 := ⟨k_489, k_490, k_491, k_40, k_492, ⟨by decide +kernel, by decide +kernel, by decide +kernel⟩, ⟨_, _, rfl⟩, rfl, rfl⟩
theorem sv_X7_115 : SV RX7 115 m_X4_addListener 1 4 := ⟨k_493, k_494, k_495, k_40, k_496, ⟨by decide +kernel, by decide +kernel, by decide +kernel⟩, ⟨_, _, rfl⟩, rfl, rfl⟩
theorem sv_X7_118 : SV RX7 118 m_X4_hasListener 1 4 := ⟨k_505, k_506, k_507, k_40, k_508, ⟨by decide +kernel, by decide +kernel, by decide +kernel⟩, ⟨_, _, rfl⟩, rfl, rfl⟩
theorem sv_X7_125 : SV RX7 125 m_X1_knowsIn 1 1 := ⟨k_509, k_469, k_470, k_42, k_471, ⟨by decide +kernel, by decide +kernel, by decide +kernel⟩, ⟨_, _, rfl⟩, rfl, rfl⟩
theorem sv_X7_130 : SV RX7 130 m_X1_lacks 1 1 := ⟨k_510, k_511, k_512, k_42, k_513, ⟨by decide +kernel, by decide +kernel, by decide +kernel⟩, ⟨_, _, rfl⟩, rfl, rfl⟩
theorem sv_X7_133 : SV RX7 133 m_X1_fillUp 1 1 := ⟨k_523, k_524, k_525, k_42, k_526, ⟨by decide +kernel, by decide +kernel, by decide +kernel⟩, ⟨_, _, rfl⟩, rfl, rfl⟩
theorem sv_X7_136 : SV RX7 136 m_X2_giveBack 1 2 := ⟨k_533, k_534, k_535, k_44, k_536, ⟨by decide +kernel, by decide +kernel, by decide +kernel⟩, ⟨_, _, rfl⟩, rfl, rfl⟩
theorem sv_X7_161 : SS RX7 161 m_X7_partBits 2 := ⟨k_541, k_542, k_37, k_543, ⟨by decide +kernel, by decide +kernel, by decide +kernel⟩, rfl, rfl⟩
theorem sv_X7_165 : SV RX7 165 m_X6_fileIn 1 6 := ⟨k_552, k_445, k_446, k_41, k_447, ⟨by decide +kernel, by decide +kernel, by decide +kernel⟩, ⟨_, _, rfl⟩, rfl, rfl⟩
theorem sv_X7_168 : SV RX7 168 m_X6_symbolIn 1 6 := ⟨k_553, k_457, k_458, k_41, k_459, ⟨by decide +kernel, by decide +kernel, by decide +kernel⟩, ⟨_, _, rfl⟩, rfl, rfl⟩
theorem sv_X7_171 : SV RX7 171 m_X6_versionIn 1 6 := ⟨k_554, k_461, k_462, k_41, k_463, ⟨by decide +kernel, by decide +kernel, by decide +kernel⟩, ⟨_, _, rfl⟩, rfl, rfl⟩
theorem sv_X7_183 : SV RX7 183 m_X1_wholeBits 0 1 := ⟨k_559, k_560, k_561, k_42, k_562, ⟨by decide +kernel, by decide +kernel, by decide +kernel⟩, ⟨_, _, rfl⟩, rfl, rfl⟩
theorem sv_X7_196 : SV RX7 196 m_X0_look 3 0 := ⟨k_571, k_572, k_573, k_45, k_574, ⟨by decide +kernel, by decide +kernel, by decide +kernel⟩, ⟨_, _, rfl⟩, rfl, rfl⟩
theorem sv_X7_200 : SV RX7 200 m_X0_waitBehind 1 0 := ⟨k_585, k_586, k_587, k_45, k_588, ⟨by decide +kernel, by decide +kernel, by decide +kernel⟩, ⟨_, _, rfl⟩, rfl, rfl⟩
theorem sv_X7_208 : SS RX7 208 m_X7_bitsOf 1 := ⟨k_544, k_545, k_37, k_546, ⟨by decide +kernel, by decide +kernel, by decide +kernel⟩, rfl, rfl⟩
theorem sv_X7_224 : SV RX7 224 m_X6_allWeights 0 6 := ⟨k_599, k_421, k_422, k_41, k_423, ⟨by decide +kernel, by decide +kernel, by decide +kernel⟩, ⟨_, _, rfl⟩, rfl, rfl⟩
theorem sv_X8_31 : SS RX8 31 m_X8_within 3 := ⟨k_646, k_647, k_46, k_648, ⟨by decide +kernel, by decide +kernel, by decide +kernel⟩, rfl, rfl⟩
theorem sv_X8_44 : SV RX8 44 m_X8_here 0 8 := ⟨k_661, k_663, k_16, k_46, k_664, ⟨by decide +kernel, by decide +kernel, by decide +kernel⟩, ⟨_, _, rfl⟩, rfl, rfl⟩
theorem sv_X8_48 : SV RX8 48 m_X8_passes 3 8 := ⟨k_669, k_671, k_18, k_46, k_672, ⟨by decide +kernel, by decide +kernel, by decide +kernel⟩, ⟨_, _, rfl⟩, rfl, rfl⟩
theorem sv_X8_19 : SV RX8 19 m_X8_laysFile 4 8 := ⟨k_606, k_608, k_13, k_46, k_609, ⟨by decide +kernel, by decide +kernel, by decide +kernel⟩, ⟨_, _, rfl⟩, rfl, rfl⟩
theorem sv_X8_57 : SV RX8 57 m_X8_passesFile 0 8 := ⟨k_665, k_667, k_17, k_46, k_668, ⟨by decide +kernel, by decide +kernel, by decide +kernel⟩, ⟨_, _, rfl⟩, rfl, rfl⟩
theorem sv_X8_61 : SV RX8 61 m_X8_passesTable 0 8 := ⟨k_673, k_675, k_19, k_46, k_676, ⟨by decide +kernel, by decide +kernel, by decide +kernel⟩, ⟨_, _, rfl⟩, rfl, rfl⟩
theorem sv_X8_64 : SV RX8 64 m_X8_faultIs 0 8 := ⟨k_657, k_659, k_15, k_46, k_660, ⟨by decide +kernel, by decide +kernel, by decide +kernel⟩, ⟨_, _, rfl⟩, rfl, rfl⟩
theorem sv_X8_23 : SV RX8 23 m_X8_begins 2 8 := ⟨k_610, k_612, k_14, k_46, k_613, ⟨by decide +kernel, by decide +kernel, by decide +kernel⟩, ⟨_, _, rfl⟩, rfl, rfl⟩
theorem sv_X8_75 : SV RX8 75 m_X8_sendsNext 1 8 := ⟨k_701, k_703, k_23, k_46, k_704, ⟨by decide +kernel, by decide +kernel, by decide +kernel⟩, ⟨_, _, rfl⟩, rfl, rfl⟩
theorem sv_X8_79 : SV RX8 79 m_X8_logs 4 8 := ⟨k_705, k_707, k_24, k_46, k_708, ⟨by decide +kernel, by decide +kernel, by decide +kernel⟩, ⟨_, _, rfl⟩, rfl, rfl⟩
theorem sv_X8_82 : SV RX8 82 m_X8_isLost 2 8 := ⟨k_709, k_711, k_25, k_46, k_712, ⟨by decide +kernel, by decide +kernel, by decide +kernel⟩, ⟨_, _, rfl⟩, rfl, rfl⟩
theorem sv_X8_86 : SV RX8 86 m_X8_hearsTable 2 8 := ⟨k_717, k_719, k_26, k_46, k_720, ⟨by decide +kernel, by decide +kernel, by decide +kernel⟩, ⟨_, _, rfl⟩, rfl, rfl⟩
theorem sv_X8_89 : SV RX8 89 m_X8_hearsSymbol 4 8 := ⟨k_721, k_723, k_27, k_46, k_724, ⟨by decide +kernel, by decide +kernel, by decide +kernel⟩, ⟨_, _, rfl⟩, rfl, rfl⟩
theorem sv_X8_92 : SV RX8 92 m_X8_copies 2 8 := ⟨k_685, k_687, k_20, k_46, k_688, ⟨by decide +kernel, by decide +kernel, by decide +kernel⟩, ⟨_, _, rfl⟩, rfl, rfl⟩
theorem sv_X8_95 : SV RX8 95 m_X8_minds 0 8 := ⟨k_693, k_695, k_21, k_46, k_696, ⟨by decide +kernel, by decide +kernel, by decide +kernel⟩, ⟨_, _, rfl⟩, rfl, rfl⟩
theorem sv_X8_98 : SV RX8 98 m_X8_ticks 1 8 := ⟨k_697, k_699, k_22, k_46, k_700, ⟨by decide +kernel, by decide +kernel, by decide +kernel⟩, ⟨_, _, rfl⟩, rfl, rfl⟩
theorem sv_X8_101 : SV RX8 101 m_X8_isFile 1 8 := ⟨k_729, k_731, k_28, k_46, k_732, ⟨by decide +kernel, by decide +kernel, by decide +kernel⟩, ⟨_, _, rfl⟩, rfl, rfl⟩
theorem sv_X8_105 : SS RX8 105 m_X8_ones 1 := ⟨k_753, k_754, k_46, k_755, ⟨by decide +kernel, by decide +kernel, by decide +kernel⟩, rfl, rfl⟩
theorem sv_X8_108 : SV RX8 108 m_X8_isListener 1 8 := ⟨k_745, k_747, k_29, k_46, k_748, ⟨by decide +kernel, by decide +kernel, by decide +kernel⟩, ⟨_, _, rfl⟩, rfl, rfl⟩
theorem sv_X8_111 : SV RX8 111 m_X8_lacks 2 8 := ⟨k_749, k_751, k_30, k_46, k_752, ⟨by decide +kernel, by decide +kernel, by decide +kernel⟩, ⟨_, _, rfl⟩, rfl, rfl⟩
theorem sv_X8_115 : SV RX8 115 m_X8_knows 1 8 := ⟨k_756, k_758, k_31, k_46, k_759, ⟨by decide +kernel, by decide +kernel, by decide +kernel⟩, ⟨_, _, rfl⟩, rfl, rfl⟩
theorem sv_X8_118 : SS RX8 118 m_Jxf58ca_floatToIntBits_5c35a 1 := ⟨k_768, k_769, k_49, k_770, ⟨by decide +kernel, by decide +kernel, by decide +kernel⟩, rfl, rfl⟩
theorem sv_X8_124 : SV RX8 124 m_X8_partBits 1 8 := ⟨k_764, k_766, k_32, k_46, k_767, ⟨by decide +kernel, by decide +kernel, by decide +kernel⟩, ⟨_, _, rfl⟩, rfl, rfl⟩
theorem sv_X8_127 : SV RX8 127 m_X8_wholes 1 8 := ⟨k_786, k_788, k_33, k_46, k_789, ⟨by decide +kernel, by decide +kernel, by decide +kernel⟩, ⟨_, _, rfl⟩, rfl, rfl⟩
theorem sv_X8_130 : SV RX8 130 m_X8_waitsFrom 1 8 := ⟨k_802, k_804, k_35, k_46, k_805, ⟨by decide +kernel, by decide +kernel, by decide +kernel⟩, ⟨_, _, rfl⟩, rfl, rfl⟩
theorem sv_X8_133 : SV RX8 133 m_X8_waitIs 2 8 := ⟨k_798, k_800, k_34, k_46, k_801, ⟨by decide +kernel, by decide +kernel, by decide +kernel⟩, ⟨_, _, rfl⟩, rfl, rfl⟩
theorem sv_Jxf58ca_59 : SS RJxf58ca 59 m_Jxf58ca_isNaN_12338 1 := ⟨k_771, k_772, k_49, k_773, ⟨by decide +kernel, by decide +kernel, by decide +kernel⟩, rfl, rfl⟩
theorem sv_L_13 : SV RL 13 m_X7_write 1 7 := ⟨k_306, k_307, k_308, k_37, k_309, ⟨by decide +kernel, by decide +kernel, by decide +kernel⟩, ⟨_, _, rfl⟩, rfl, rfl⟩
theorem sv_L_17 : SV RL 17 m_X8_write 1 8 := ⟨k_642, k_643, k_644, k_46, k_645, ⟨by decide +kernel, by decide +kernel, by decide +kernel⟩, ⟨_, _, rfl⟩, rfl, rfl⟩
theorem sv_L_18 : SV RL 18 m_X7_wipe 0 7 := ⟨k_314, k_315, k_316, k_37, k_317, ⟨by decide +kernel, by decide +kernel, by decide +kernel⟩, ⟨_, _, rfl⟩, rfl, rfl⟩
theorem sv_L_22 : SV RL 22 m_X8_wipe 0 8 := ⟨k_649, k_650, k_651, k_46, k_652, ⟨by decide +kernel, by decide +kernel, by decide +kernel⟩, ⟨_, _, rfl⟩, rfl, rfl⟩
theorem sv_L_23 : SV RL 23 m_X7_fault 0 7 := ⟨k_318, k_319, k_320, k_37, k_321, ⟨by decide +kernel, by decide +kernel, by decide +kernel⟩, ⟨_, _, rfl⟩, rfl, rfl⟩
theorem sv_L_26 : SV RL 26 m_X8_fault 0 8 := ⟨k_653, k_654, k_655, k_46, k_656, ⟨by decide +kernel, by decide +kernel, by decide +kernel⟩, ⟨_, _, rfl⟩, rfl, rfl⟩
theorem sv_L_27 : SV RL 27 m_X7_lay 0 7 := ⟨k_357, k_358, k_359, k_37, k_360, ⟨by decide +kernel, by decide +kernel, by decide +kernel⟩, ⟨_, _, rfl⟩, rfl, rfl⟩
theorem sv_L_30 : SV RL 30 m_X8_lay 0 8 := ⟨k_677, k_678, k_679, k_46, k_680, ⟨by decide +kernel, by decide +kernel, by decide +kernel⟩, ⟨_, _, rfl⟩, rfl, rfl⟩
theorem sv_L_31 : SV RL 31 m_X7_tick 1 7 := ⟨k_370, k_371, k_372, k_37, k_373, ⟨by decide +kernel, by decide +kernel, by decide +kernel⟩, ⟨_, _, rfl⟩, rfl, rfl⟩
theorem sv_L_34 : SV RL 34 m_X8_tick 1 8 := ⟨k_689, k_690, k_691, k_46, k_692, ⟨by decide +kernel, by decide +kernel, by decide +kernel⟩, ⟨_, _, rfl⟩, rfl, rfl⟩
theorem sv_L_35 : SV RL 35 m_X7_renew 1 7 := ⟨k_472, k_473, k_474, k_37, k_475, ⟨by decide +kernel, by decide +kernel, by decide +kernel⟩, ⟨_, _, rfl⟩, rfl, rfl⟩
theorem sv_L_38 : SV RL 38 m_X8_renew 1 8 := ⟨k_725, k_726, k_727, k_46, k_728, ⟨by decide +kernel, by decide +kernel, by decide +kernel⟩, ⟨_, _, rfl⟩, rfl, rfl⟩
theorem sv_L_39 : SV RL 39 m_X7_weigh 2 7 := ⟨k_481, k_482, k_483, k_37, k_484, ⟨by decide +kernel, by decide +kernel, by decide +kernel⟩, ⟨_, _, rfl⟩, rfl, rfl⟩
theorem sv_L_43 : SV RL 43 m_X8_weigh 2 8 := ⟨k_733, k_734, k_735, k_46, k_736, ⟨by decide +kernel, by decide +kernel, by decide +kernel⟩, ⟨_, _, rfl⟩, rfl, rfl⟩
theorem sv_L_44 : SV RL 44 m_X7_join 1 7 := ⟨k_485, k_486, k_487, k_37, k_488, ⟨by decide +kernel, by decide +kernel, by decide +kernel⟩, ⟨_, _, rfl⟩, rfl, rfl⟩
theorem sv_L_47 : SV RL 47 m_X8_join 1 8 := ⟨k_737, k_738, k_739, k_46, k_740, ⟨by decide +kernel, by decide +kernel, by decide +kernel⟩, ⟨_, _, rfl⟩, rfl, rfl⟩
theorem sv_L_48 : SV RL 48 m_X7_repair 2 7 := ⟨k_501, k_502, k_503, k_37, k_504, ⟨by decide +kernel, by decide +kernel, by decide +kernel⟩, ⟨_, _, rfl⟩, rfl, rfl⟩
theorem sv_L_51 : SV RL 51 m_X8_repair 2 8 := ⟨k_741, k_742, k_743, k_46, k_744, ⟨by decide +kernel, by decide +kernel, by decide +kernel⟩, ⟨_, _, rfl⟩, rfl, rfl⟩
theorem sv_L_52 : SV RL 52 m_X7_undo 0 7 := ⟨k_529, k_530, k_531, k_37, k_532, ⟨by decide +kernel, by decide +kernel, by decide +kernel⟩, ⟨_, _, rfl⟩, rfl, rfl⟩
theorem sv_L_55 : SV RL 55 m_X8_undo 0 8 := ⟨k_681, k_682, k_683, k_46, k_684, ⟨by decide +kernel, by decide +kernel, by decide +kernel⟩, ⟨_, _, rfl⟩, rfl, rfl⟩
theorem sv_L_56 : SV RL 56 m_X7_file 2 7 := ⟨k_537, k_538, k_539, k_37, k_540, ⟨by decide +kernel, by decide +kernel, by decide +kernel⟩, ⟨_, _, rfl⟩, rfl, rfl⟩
theorem sv_L_59 : SV RL 59 m_X8_file 2 8 := ⟨k_760, k_761, k_762, k_46, k_763, ⟨by decide +kernel, by decide +kernel, by decide +kernel⟩, ⟨_, _, rfl⟩, rfl, rfl⟩
theorem sv_L_60 : SV RL 60 m_X7_sent 2 7 := ⟨k_548, k_549, k_550, k_37, k_551, ⟨by decide +kernel, by decide +kernel, by decide +kernel⟩, ⟨_, _, rfl⟩, rfl, rfl⟩
theorem sv_L_63 : SV RL 63 m_X8_sent 2 8 := ⟨k_778, k_779, k_780, k_46, k_781, ⟨by decide +kernel, by decide +kernel, by decide +kernel⟩, ⟨_, _, rfl⟩, rfl, rfl⟩
theorem sv_L_64 : SV RL 64 m_X7_listener 2 7 := ⟨k_555, k_556, k_557, k_37, k_558, ⟨by decide +kernel, by decide +kernel, by decide +kernel⟩, ⟨_, _, rfl⟩, rfl, rfl⟩
theorem sv_L_67 : SV RL 67 m_X8_listener 2 8 := ⟨k_782, k_783, k_784, k_46, k_785, ⟨by decide +kernel, by decide +kernel, by decide +kernel⟩, ⟨_, _, rfl⟩, rfl, rfl⟩
theorem sv_L_68 : SV RL 68 m_X7_holds 3 7 := ⟨k_563, k_564, k_565, k_37, k_566, ⟨by decide +kernel, by decide +kernel, by decide +kernel⟩, ⟨_, _, rfl⟩, rfl, rfl⟩
theorem sv_L_72 : SV RL 72 m_X8_holds 3 8 := ⟨k_790, k_791, k_792, k_46, k_793, ⟨by decide +kernel, by decide +kernel, by decide +kernel⟩, ⟨_, _, rfl⟩, rfl, rfl⟩
theorem sv_L_73 : SV RL 73 m_X7_waits 2 7 := ⟨k_567, k_568, k_569, k_37, k_570, ⟨by decide +kernel, by decide +kernel, by decide +kernel⟩, ⟨_, _, rfl⟩, rfl, rfl⟩
theorem sv_L_76 : SV RL 76 m_X8_waits 2 8 := ⟨k_794, k_795, k_796, k_46, k_797, ⟨by decide +kernel, by decide +kernel, by decide +kernel⟩, ⟨_, _, rfl⟩, rfl, rfl⟩
theorem sv_L_77 : SV RL 77 m_X7_mean 3 7 := ⟨k_590, k_591, k_592, k_37, k_593, ⟨by decide +kernel, by decide +kernel, by decide +kernel⟩, ⟨_, _, rfl⟩, rfl, rfl⟩
theorem sv_L_80 : SV RL 80 m_X8_mean 3 8 := ⟨k_806, k_807, k_808, k_46, k_809, ⟨by decide +kernel, by decide +kernel, by decide +kernel⟩, ⟨_, _, rfl⟩, rfl, rfl⟩
theorem sv_L_81 : SV RL 81 m_X7_count 1 7 := ⟨k_595, k_596, k_597, k_37, k_598, ⟨by decide +kernel, by decide +kernel, by decide +kernel⟩, ⟨_, _, rfl⟩, rfl, rfl⟩
theorem sv_L_84 : SV RL 84 m_X8_count 1 8 := ⟨k_810, k_811, k_812, k_46, k_813, ⟨by decide +kernel, by decide +kernel, by decide +kernel⟩, ⟨_, _, rfl⟩, rfl, rfl⟩
end
section
theorem we_iald {x : CT} {L : List Nat} {cc : ByteArray} {nL : Nat} {own : String} {R : Room} {pc : Nat} {lo : List (Option Value)} {st : List Value} {M : Mem} (X : BS x L cc nL own R) {i n : Nat} (hi : AC L i 9 n) {j : Nat} (hj : j < n) (hn : n < 2 ^ 31) {w : Int32} (he : M i j = w) (hd : decode cc pc = .ok (.iaload, 1)) (kk : WP x L (pc + 1) lo (.int w :: st) M) : WP x L pc lo (.int (nI j) :: .ref i :: st) M := wn_iald X hi hj hn hd (by rw [he]; exact kk)
theorem we_get {x : CT} {L : List Nat} {cc : ByteArray} {nL : Nat} {own : String} {R : Room} {pc : Nat} {lo : List (Option Value)} {st : List Value} {M : Mem} (X : BS x L cc nL own R) {idx ci k : Nat} (hF : FL own idx ci k) {i n : Nat} (hi : AC L i ci n) (h9 : ci < 9) (hv : (FA i (M i))[k]? = some (.int (M i k))) {w : Int32} (he : M i k = w) (hd : decode cc pc = .ok (.getfield idx, 3)) (kk : WP x L (pc + 3) lo (.int w :: st) M) : WP x L pc lo (.ref i :: st) M := wp_get X hF hi h9 hv hd (by rw [he]; exact kk)
/-- fewer locals are known -/
def subL : List (Option Value) → List (Option Value) → Prop
  | [], [] => True
  | _ :: l, none :: l' => subL l l'
  | some v :: l, some w :: l' => v = w ∧ subL l l'
  | _, _ => False
theorem subL_of : ∀ (lo lo' : List (Option Value)), subL lo lo' → lo.length = lo'.length ∧ ∀ (i : Nat) (v : Value), lo'[i]? = some (some v) → lo[i]? = some (some v)
  | [], [], _ => ⟨rfl, fun i v h => by simp at h⟩
  | [], _ :: _, h => by simp [subL] at h
  | _ :: _, [], h => by simp [subL] at h
  | a :: l, none :: l', h => by
    have ih := subL_of l l' (by cases a <;> exact h)
    refine ⟨by simp [ih.1], fun i v hi => ?_⟩
    cases i with
    | zero => simp at hi
    | succ i => simpa using ih.2 i v (by simpa using hi)
  | none :: l, some w :: l', h => by simp [subL] at h
  | some v :: l, some w :: l', h => by
    obtain ⟨rfl, h⟩ := h
    have ih := subL_of l l' h
    refine ⟨by simp [ih.1], fun i v hi => ?_⟩
    cases i with
    | zero => simpa using hi
    | succ i => simpa using ih.2 i v (by simpa using hi)
theorem wp_drop {x : CT} {L : List Nat} {pc : Nat} {lo lo' : List (Option Value)} {st : List Value} {M : Mem} (he : subL lo lo') (k : WP x L pc lo' st M) : WP x L pc lo st M := by
  obtain ⟨p, l, e, R', s, m, args, below, meth, c, A, QQ, D, cs, ad, kc, ks⟩ := x
  intro H locs ls hP hD hS hl
  obtain ⟨h1, h2⟩ := subL_of _ _ he
  refine k H locs ls hP hD hS ⟨by rw [← h1]; exact hl.1, hl.2.1, fun q hq => hl.2.2 q ?_⟩
  obtain ⟨v, hv, hq2⟩ := lvl_mem.mp hq
  exact lvl_mem.mpr ⟨v, h2 _ _ hv, hq2⟩
theorem sw_out {a : Int32} {n : Nat} {h0 : Int} (h : ∀ j, j < n → ¬ a = nI j) (hn : n < 2 ^ 31) (e : h0 = (n : Int) - 1) : a.toInt < 0 ∨ h0 < a.toInt := by
  by_cases h1 : a.toInt < 0
  · exact Or.inl h1
  · right
    apply Int.not_le.mp
    intro h2
    have hj : a.toInt.toNat < n := by omega
    refine h a.toInt.toNat hj (Int32.toInt_inj.mp ?_)
    rw [nI_toInt (by omega)]
    omega
theorem wn_idec {x : CT} {L : List Nat} {cc : ByteArray} {nL : Nat} {own : String} {R : Room} {pc : Nat} {lo : List (Option Value)} {st : List Value} {M : Mem} (X : BS x L cc nL own R) {i : Nat} {a : Nat} {lo' : List (Option Value)} (hd : decode cc pc = .ok (.iinc i (-1), 3)) (ha : lo[i]? = some (some (.int (nI a)))) (h1 : 1 ≤ a) (hn : noL lo i = true) (he : lo.set i (some (.int (nI (a - 1)))) = lo') (k : WP x L (pc + 3) lo' st M) : WP x L pc lo st M := wp_iinc X hd ha (by obtain ⟨b, rfl⟩ : ∃ b, a = b + 1 := ⟨a - 1, by omega⟩; exact pk_m1 b) hn he k
theorem wp_alen {x : CT} {L : List Nat} {cc : ByteArray} {nL : Nat} {own : String} {R : Room} {pc : Nat} {lo : List (Option Value)} {st : List Value} {M : Mem} (X : BS x L cc nL own R) {i n : Nat} (hi : AC L i 9 n) (hd : decode cc pc = .ok (.arraylength, 1)) (kk : WP x L (pc + 1) lo (.int (nI n) :: st) M) : WP x L pc lo (.ref i :: st) M := by
  obtain ⟨p, l, e, R', s, m, args, below, meth, c, A, QQ, D, cs, ad, kc, ks⟩ := x
  obtain ⟨hR, hx, hb, hml, hown, hts, hnw, hlk, hA, hK, hnd, hkc, hks⟩ := X
  intro H locs ls hP hD hS hl
  obtain ⟨q, -, hq⟩ := WL_get (ad := ad) (cs := cs) (M := M) hi.1
  rw [EA_i hi.2.1, hi.2.2] at hq
  exact va_alen hx hb hK hP q 0 hq rfl rfl hd (kk H locs ls hP hD hS hl)
theorem nI_le0 {a : Nat} (h : a < 2 ^ 31) : nI a ≤ 0 ↔ a = 0 := by
  rw [← nI_0, nI_leI h (by decide)]; omega
theorem nI_gt0 {a : Nat} (h : a < 2 ^ 31) : 0 < nI a ↔ 0 < a := by
  rw [← nI_0, nI_ltI (by decide) h]
theorem nI_eq0 {a : Nat} (h : a < 2 ^ 31) : nI a = 0 ↔ a = 0 := by
  rw [← nI_0, nI_eq h (by decide)]
theorem wn_if_eq {x : CT} {L : List Nat} {cc : ByteArray} {nL : Nat} {own : String} {R : Room} {pc : Nat} {lo : List (Option Value)} {st : List Value} {M : Mem} (X : BS x L cc nL own R) {a : Nat} {off : Int} {tgt : Nat} (hd : decode cc pc = .ok (.ifCond .eq off, 3)) (ht : (pc : Int) + off = (tgt : Int)) (ha : a < 2 ^ 31) (kt : a = 0 → WP x L tgt lo st M) (kf : 0 < a → WP x L (pc + 3) lo st M) : WP x L pc lo (.int (nI a) :: st) M := wp_if_eq X hd ht (fun h => kt ((nI_eq0 ha).mp h)) (fun h => kf (Nat.pos_of_ne_zero (fun q => h ((nI_eq0 ha).mpr q))))
theorem wn_if_ne {x : CT} {L : List Nat} {cc : ByteArray} {nL : Nat} {own : String} {R : Room} {pc : Nat} {lo : List (Option Value)} {st : List Value} {M : Mem} (X : BS x L cc nL own R) {a : Nat} {off : Int} {tgt : Nat} (hd : decode cc pc = .ok (.ifCond .ne off, 3)) (ht : (pc : Int) + off = (tgt : Int)) (ha : a < 2 ^ 31) (kt : 0 < a → WP x L tgt lo st M) (kf : a = 0 → WP x L (pc + 3) lo st M) : WP x L pc lo (.int (nI a) :: st) M := wp_if_ne X hd ht (fun h => kt (Nat.pos_of_ne_zero (fun q => h ((nI_eq0 ha).mpr q)))) (fun h => kf ((nI_eq0 ha).mp h))
theorem wn_if_le {x : CT} {L : List Nat} {cc : ByteArray} {nL : Nat} {own : String} {R : Room} {pc : Nat} {lo : List (Option Value)} {st : List Value} {M : Mem} (X : BS x L cc nL own R) {a : Nat} {off : Int} {tgt : Nat} (hd : decode cc pc = .ok (.ifCond .le off, 3)) (ht : (pc : Int) + off = (tgt : Int)) (ha : a < 2 ^ 31) (kt : a = 0 → WP x L tgt lo st M) (kf : 0 < a → WP x L (pc + 3) lo st M) : WP x L pc lo (.int (nI a) :: st) M := wp_if_le X hd ht (fun h => kt ((nI_le0 ha).mp h)) (fun h => kf (Nat.pos_of_ne_zero (fun q => h ((nI_le0 ha).mpr q))))
theorem wn_if_gt {x : CT} {L : List Nat} {cc : ByteArray} {nL : Nat} {own : String} {R : Room} {pc : Nat} {lo : List (Option Value)} {st : List Value} {M : Mem} (X : BS x L cc nL own R) {a : Nat} {off : Int} {tgt : Nat} (hd : decode cc pc = .ok (.ifCond .gt off, 3)) (ht : (pc : Int) + off = (tgt : Int)) (ha : a < 2 ^ 31) (kt : 0 < a → WP x L tgt lo st M) (kf : a = 0 → WP x L (pc + 3) lo st M) : WP x L pc lo (.int (nI a) :: st) M := wp_if_gt X hd ht (fun h => kt ((nI_gt0 ha).mp h)) (fun h => kf (Nat.eq_zero_of_not_pos (fun q => h ((nI_gt0 ha).mpr q))))
end
section
theorem r_X8_within_0 {x : CT} {L : List Nat} {Q : Int32 → Mem → Prop} {M : Mem}  {a0 a1 a2 : Int32} (X : BS x L cX8_within 3 RX8 (m_X8_within).2.2.2.2) (T : RT x L (some .boolean) Q) 
    (h : (a0 < a1 → Q (nI 0) M) ∧ (¬ a0 < a1 → (a2 < a0 → Q (nI 0) M) ∧ (¬ a2 < a0 → Q (nI 1) M))) : WP x L 0 [some (.int a0), some (.int a1), some (.int a2)] [] M := by
  refine wp_iload_n (pc := 0) X dX8_within_0 rfl rfl ?_
  refine wp_iload_n (pc := 1) X dX8_within_1 rfl rfl ?_
  refine wp_icmp_lt (pc := 2) (tgt := 14) X dX8_within_2 (by decide) (fun hc => ?_) (fun hc => ?_)
  · replace h := h.1 hc
    refine wp_iconst (pc := 14) (v := nI 0) X dX8_within_14 (by decide) ?_
    exact wp_zret (pc := 15) X T (by decide) dX8_within_15 h
  · replace h := h.2 hc
    refine wp_iload_n (pc := 5) X dX8_within_5 rfl rfl ?_
    refine wp_iload_n (pc := 6) X dX8_within_6 rfl rfl ?_
    refine wp_icmp_gt (pc := 7) (tgt := 14) X dX8_within_7 (by decide) (fun hc => ?_) (fun hc => ?_)
    · replace h := h.1 hc
      refine wp_iconst (pc := 14) (v := nI 0) X dX8_within_14 (by decide) ?_
      exact wp_zret (pc := 15) X T (by decide) dX8_within_15 h
    · replace h := h.2 hc
      refine wp_iconst (pc := 10) (v := nI 1) X dX8_within_10 (by decide) ?_
      refine wp_goto (pc := 11) (tgt := 15) X dX8_within_11 (by decide) ?_
      exact wp_zret (pc := 15) X T (by decide) dX8_within_15 h
theorem r_X8_ones_0 {x : CT} {L : List Nat} {Q : Int32 → Mem → Prop} {M : Mem}  {a0 : Int32} (X : BS x L cX8_ones 3 RX8 (m_X8_ones).2.2.2.2) (T : RT x L (some .int) Q) 
    (h : WP x L 4 [some (.int a0), some (.int (nI 0)), some (.int (nI 0))] [] M) : WP x L 0 [some (.int a0), none, none] [] M := by
  refine wp_iconst (pc := 0) (v := nI 0) X dX8_ones_0 (by decide) ?_
  refine wp_istore_n (pc := 1) (lo' := [some (.int a0), some (.int (nI 0)), none]) X dX8_ones_1 rfl (Nat.le_of_ble_eq_true rfl) rfl rfl ?_
  refine wp_iconst (pc := 2) (v := nI 0) X dX8_ones_2 (by decide) ?_
  refine wp_istore_n (pc := 3) (lo' := [some (.int a0), some (.int (nI 0)), some (.int (nI 0))]) X dX8_ones_3 rfl (Nat.le_of_ble_eq_true rfl) rfl rfl ?_
  exact h
theorem r_X8_ones_4 {x : CT} {L : List Nat} {Q : Int32 → Mem → Prop} {M : Mem}  {a0 a1 : Int32} {k : Nat} (X : BS x L cX8_ones 3 RX8 (m_X8_ones).2.2.2.2) (T : RT x L (some .int) Q) 
    (h : k < 2 ^ 31 ∧ (18 ≤ k → Q a1 M) ∧ (k < 18 → WP x L 4 [some (.int a0), some (.int (a1 + ((a0 >>> ((nI k) &&& 31)) &&& (nI 1)))), some (.int (nI (k + 1)))] [] M)) : WP x L 4 [some (.int a0), some (.int a1), some (.int (nI k))] [] M := by
  refine wp_iload_n (pc := 4) X dX8_ones_4 rfl rfl ?_
  refine wp_bipush (pc := 5) (v := nI 18) X dX8_ones_5 (by decide) ?_
  obtain ⟨hb1, h⟩ := h
  refine wn_icmp_ge (pc := 7) (tgt := 24) X dX8_ones_7 (by decide) hb1 (by decide) (fun hc => ?_) (fun hc => ?_)
  · replace h := h.1 hc
    refine wp_iload_n (pc := 24) X dX8_ones_24 rfl rfl ?_
    exact wp_iret (pc := 25) X T dX8_ones_25 h
  · replace h := h.2 hc
    refine wp_iload_n (pc := 10) X dX8_ones_10 rfl rfl ?_
    refine wp_iload_n (pc := 11) X dX8_ones_11 rfl rfl ?_
    refine wp_iload_n (pc := 12) X dX8_ones_12 rfl rfl ?_
    refine wp_ishr (pc := 13) X dX8_ones_13 ?_
    refine wp_iconst (pc := 14) (v := nI 1) X dX8_ones_14 (by decide) ?_
    refine wp_iand (pc := 15) X dX8_ones_15 ?_
    refine wp_iadd (pc := 16) X dX8_ones_16 ?_
    refine wp_istore_n (pc := 17) (lo' := [some (.int a0), some (.int (a1 + ((a0 >>> ((nI k) &&& 31)) &&& (nI 1)))), some (.int (nI k))]) X dX8_ones_17 rfl (Nat.le_of_ble_eq_true rfl) rfl rfl ?_
    refine wn_iinc (pc := 18) (d := 1) (lo' := [some (.int a0), some (.int (a1 + ((a0 >>> ((nI k) &&& 31)) &&& (nI 1)))), some (.int (nI (k + 1)))]) X dX8_ones_18 rfl (by decide) rfl rfl ?_
    refine wp_goto (pc := 21) (tgt := 4) X dX8_ones_21 (by decide) ?_
    exact h
theorem r_X8_laysFile_0 {x : CT} {L : List Nat} {Q : Int32 → Mem → Prop} {M : Mem}  {a1 : Nat} {a2 a3 a4 : Int32} (X : BS x L cX8_laysFile 5 RX8 (m_X8_laysFile).2.2.2.2) (T : RT x L none Q) (A_139 : AC L 139 8 0) (A_142 : AC L 142 9 20)
    (h : (1 + (3 * a1)) < 20 ∧ (2 + (3 * a1)) < 20 ∧ (3 + (3 * a1)) < 20 ∧ Q 0 (MU (MU (MU M 142 (1 + (3 * a1)) a2) 142 (2 + (3 * a1)) a3) 142 (3 + (3 * a1)) a4)) : WP x L 0 [some (.ref 139), some (.int (nI a1)), some (.int a2), some (.int a3), some (.int a4)] [] M := by
  refine wp_aload_n (pc := 0) X dX8_laysFile_0 rfl rfl ?_
  refine wp_get (pc := 1) X fl_X8_16 A_139 (by decide) (fg_8_4 A_139) dX8_laysFile_1 ?_
  refine wp_iconst (pc := 4) (v := nI 1) X dX8_laysFile_4 (by decide) ?_
  refine wp_iconst (pc := 5) (v := nI 3) X dX8_laysFile_5 (by decide) ?_
  refine wp_iload_n (pc := 6) X dX8_laysFile_6 rfl rfl ?_
  refine wn_imul (pc := 7) X dX8_laysFile_7 ?_
  refine wn_iadd (pc := 8) X dX8_laysFile_8 ?_
  refine wp_iload_n (pc := 9) X dX8_laysFile_9 rfl rfl ?_
  obtain ⟨hj1, h⟩ := h
  refine wn_iast (pc := 10) X A_142 hj1 (by decide) dX8_laysFile_10 ?_
  refine wp_aload_n (pc := 11) X dX8_laysFile_11 rfl rfl ?_
  refine wp_get (pc := 12) X fl_X8_16 A_139 (by decide) (fg_8_4 A_139) dX8_laysFile_12 ?_
  refine wp_iconst (pc := 15) (v := nI 2) X dX8_laysFile_15 (by decide) ?_
  refine wp_iconst (pc := 16) (v := nI 3) X dX8_laysFile_16 (by decide) ?_
  refine wp_iload_n (pc := 17) X dX8_laysFile_17 rfl rfl ?_
  refine wn_imul (pc := 18) X dX8_laysFile_18 ?_
  refine wn_iadd (pc := 19) X dX8_laysFile_19 ?_
  refine wp_iload_n (pc := 20) X dX8_laysFile_20 rfl rfl ?_
  obtain ⟨hj2, h⟩ := h
  refine wn_iast (pc := 21) X A_142 hj2 (by decide) dX8_laysFile_21 ?_
  refine wp_aload_n (pc := 22) X dX8_laysFile_22 rfl rfl ?_
  refine wp_get (pc := 23) X fl_X8_16 A_139 (by decide) (fg_8_4 A_139) dX8_laysFile_23 ?_
  refine wp_iconst (pc := 26) (v := nI 3) X dX8_laysFile_26 (by decide) ?_
  refine wp_iconst (pc := 27) (v := nI 3) X dX8_laysFile_27 (by decide) ?_
  refine wp_iload_n (pc := 28) X dX8_laysFile_28 rfl rfl ?_
  refine wn_imul (pc := 29) X dX8_laysFile_29 ?_
  refine wn_iadd (pc := 30) X dX8_laysFile_30 ?_
  refine wp_iload (pc := 31) X dX8_laysFile_31 rfl ?_
  obtain ⟨hj3, h⟩ := h
  refine wn_iast (pc := 33) X A_142 hj3 (by decide) dX8_laysFile_33 ?_
  exact wp_ret (pc := 34) X T dX8_laysFile_34 h
theorem r_X8_begins_0 {x : CT} {L : List Nat} {Q : Int32 → Mem → Prop} {M : Mem}  {a1 a2 : Int32} (X : BS x L cX8_begins 4 RX8 (m_X8_begins).2.2.2.2) (T : RT x L none Q) 
    (h : WP x L 2 [some (.ref 139), some (.int a1), some (.int a2), some (.int (nI 0))] [] M) : WP x L 0 [some (.ref 139), some (.int a1), some (.int a2), none] [] M := by
  refine wp_iconst (pc := 0) (v := nI 0) X dX8_begins_0 (by decide) ?_
  refine wp_istore_n (pc := 1) (lo' := [some (.ref 139), some (.int a1), some (.int a2), some (.int (nI 0))]) X dX8_begins_1 rfl (Nat.le_of_ble_eq_true rfl) rfl rfl ?_
  exact h
theorem r_X8_begins_2 {x : CT} {L : List Nat} {Q : Int32 → Mem → Prop} {M : Mem}  {a1 a2 : Int32} {k : Nat} (X : BS x L cX8_begins 4 RX8 (m_X8_begins).2.2.2.2) (T : RT x L none Q) (A_139 : AC L 139 8 0) (A_142 : AC L 142 9 20) (A_140 : AC L 140 9 918)
    (h : k < 2 ^ 31 ∧ (153 ≤ k → WP x L 37 [some (.ref 139), some (.int a1), some (.int a2), some (.int (nI 0))] [] (MU M 140 42 (M 142 0))) ∧ (k < 153 → k < 918 ∧ WP x L 2 [some (.ref 139), some (.int a1), some (.int a2), some (.int (nI (k + 1)))] [] (MU M 140 k (nI 0)))) : WP x L 2 [some (.ref 139), some (.int a1), some (.int a2), some (.int (nI k))] [] M := by
  refine wp_iload_n (pc := 2) X dX8_begins_2 rfl rfl ?_
  refine wp_sipush (pc := 3) (v := nI 153) X dX8_begins_3 (by decide) ?_
  obtain ⟨hb2, h⟩ := h
  refine wn_icmp_ge (pc := 6) (tgt := 22) X dX8_begins_6 (by decide) hb2 (by decide) (fun hc => ?_) (fun hc => ?_)
  · replace h := h.1 hc
    refine wp_aload_n (pc := 22) X dX8_begins_22 rfl rfl ?_
    refine wp_get (pc := 23) X fl_X8_7 A_139 (by decide) (fg_8_0 A_139) dX8_begins_23 ?_
    refine wp_bipush (pc := 26) (v := nI 42) X dX8_begins_26 (by decide) ?_
    refine wp_aload_n (pc := 28) X dX8_begins_28 rfl rfl ?_
    refine wp_get (pc := 29) X fl_X8_16 A_139 (by decide) (fg_8_4 A_139) dX8_begins_29 ?_
    refine wp_iconst (pc := 32) (v := nI 0) X dX8_begins_32 (by decide) ?_
    refine wn_iald (pc := 33) X A_142 (by decide) (by decide) dX8_begins_33 ?_
    refine wn_iast (pc := 34) X A_140 (by decide) (by decide) dX8_begins_34 ?_
    refine wp_iconst (pc := 35) (v := nI 0) X dX8_begins_35 (by decide) ?_
    refine wp_istore_n (pc := 36) (lo' := [some (.ref 139), some (.int a1), some (.int a2), some (.int (nI 0))]) X dX8_begins_36 rfl (Nat.le_of_ble_eq_true rfl) rfl rfl ?_
    exact h
  · replace h := h.2 hc
    refine wp_aload_n (pc := 9) X dX8_begins_9 rfl rfl ?_
    refine wp_get (pc := 10) X fl_X8_7 A_139 (by decide) (fg_8_0 A_139) dX8_begins_10 ?_
    refine wp_iload_n (pc := 13) X dX8_begins_13 rfl rfl ?_
    refine wp_iconst (pc := 14) (v := nI 0) X dX8_begins_14 (by decide) ?_
    obtain ⟨hj1, h⟩ := h
    refine wn_iast (pc := 15) X A_140 hj1 (by decide) dX8_begins_15 ?_
    refine wn_iinc (pc := 16) (d := 1) (lo' := [some (.ref 139), some (.int a1), some (.int a2), some (.int (nI (k + 1)))]) X dX8_begins_16 rfl (by decide) rfl rfl ?_
    refine wp_goto (pc := 19) (tgt := 2) X dX8_begins_19 (by decide) ?_
    exact h
theorem r_X8_begins_37 {x : CT} {L : List Nat} {Q : Int32 → Mem → Prop} {M : Mem}  {a1 a2 : Int32} {k : Nat} (X : BS x L cX8_begins 4 RX8 (m_X8_begins).2.2.2.2) (T : RT x L none Q) (A_139 : AC L 139 8 0) (A_142 : AC L 142 9 20) (A_140 : AC L 140 9 918)
    (h : ∃ v1 : Nat, M 142 0 = nI v1 ∧ k < 2 ^ 31 ∧ v1 < 2 ^ 31 ∧ (v1 ≤ k → Q 0 (MU (MU (MU M 140 43 a1) 140 44 a2) 139 1 (nI 0))) ∧ (k < v1 → (1 + (3 * k)) < 20 ∧ (0 + k) < 918 ∧ (2 + (3 * k)) < 20 ∧ (6 + k) < 918 ∧ (3 + (3 * k)) < 20 ∧ (12 + k) < 918 ∧ WP x L 37 [some (.ref 139), some (.int a1), some (.int a2), some (.int (nI (k + 1)))] [] (MU (MU (MU M 140 (0 + k) (M 142 (1 + (3 * k)))) 140 (6 + k) ((MU M 140 (0 + k) (M 142 (1 + (3 * k)))) 142 (2 + (3 * k)))) 140 (12 + k) ((MU (MU M 140 (0 + k) (M 142 (1 + (3 * k)))) 140 (6 + k) ((MU M 140 (0 + k) (M 142 (1 + (3 * k)))) 142 (2 + (3 * k)))) 142 (3 + (3 * k)))))) : WP x L 37 [some (.ref 139), some (.int a1), some (.int a2), some (.int (nI k))] [] M := by
  refine wp_iload_n (pc := 37) X dX8_begins_37 rfl rfl ?_
  refine wp_aload_n (pc := 38) X dX8_begins_38 rfl rfl ?_
  refine wp_get (pc := 39) X fl_X8_16 A_139 (by decide) (fg_8_4 A_139) dX8_begins_39 ?_
  refine wp_iconst (pc := 42) (v := nI 0) X dX8_begins_42 (by decide) ?_
  obtain ⟨v1, he2, h⟩ := h
  refine we_iald (pc := 43) X A_142 (by decide) (by decide) he2 dX8_begins_43 ?_
  obtain ⟨hb9, hb10, h⟩ := h
  refine wn_icmp_ge (pc := 44) (tgt := 109) X dX8_begins_44 (by decide) hb9 hb10 (fun hc => ?_) (fun hc => ?_)
  · replace h := h.1 hc
    refine wp_aload_n (pc := 109) X dX8_begins_109 rfl rfl ?_
    refine wp_get (pc := 110) X fl_X8_7 A_139 (by decide) (fg_8_0 A_139) dX8_begins_110 ?_
    refine wp_bipush (pc := 113) (v := nI 43) X dX8_begins_113 (by decide) ?_
    refine wp_iload_n (pc := 115) X dX8_begins_115 rfl rfl ?_
    refine wn_iast (pc := 116) X A_140 (by decide) (by decide) dX8_begins_116 ?_
    refine wp_aload_n (pc := 117) X dX8_begins_117 rfl rfl ?_
    refine wp_get (pc := 118) X fl_X8_7 A_139 (by decide) (fg_8_0 A_139) dX8_begins_118 ?_
    refine wp_bipush (pc := 121) (v := nI 44) X dX8_begins_121 (by decide) ?_
    refine wp_iload_n (pc := 123) X dX8_begins_123 rfl rfl ?_
    refine wn_iast (pc := 124) X A_140 (by decide) (by decide) dX8_begins_124 ?_
    refine wp_aload_n (pc := 125) X dX8_begins_125 rfl rfl ?_
    refine wp_iconst (pc := 126) (v := nI 0) X dX8_begins_126 (by decide) ?_
    refine wp_put (pc := 127) X fl_X8_27 fp_8_1 A_139 (by decide) (fk_8_1 A_139) (fs_8_1 A_139 _) dX8_begins_127 ?_
    exact wp_ret (pc := 130) X T dX8_begins_130 h
  · replace h := h.2 hc
    refine wp_aload_n (pc := 47) X dX8_begins_47 rfl rfl ?_
    refine wp_get (pc := 48) X fl_X8_7 A_139 (by decide) (fg_8_0 A_139) dX8_begins_48 ?_
    refine wp_iconst (pc := 51) (v := nI 0) X dX8_begins_51 (by decide) ?_
    refine wp_iload_n (pc := 52) X dX8_begins_52 rfl rfl ?_
    refine wn_iadd (pc := 53) X dX8_begins_53 ?_
    refine wp_aload_n (pc := 54) X dX8_begins_54 rfl rfl ?_
    refine wp_get (pc := 55) X fl_X8_16 A_139 (by decide) (fg_8_4 A_139) dX8_begins_55 ?_
    refine wp_iconst (pc := 58) (v := nI 1) X dX8_begins_58 (by decide) ?_
    refine wp_iconst (pc := 59) (v := nI 3) X dX8_begins_59 (by decide) ?_
    refine wp_iload_n (pc := 60) X dX8_begins_60 rfl rfl ?_
    refine wn_imul (pc := 61) X dX8_begins_61 ?_
    refine wn_iadd (pc := 62) X dX8_begins_62 ?_
    obtain ⟨hj3, h⟩ := h
    refine wn_iald (pc := 63) X A_142 hj3 (by decide) dX8_begins_63 ?_
    obtain ⟨hj4, h⟩ := h
    refine wn_iast (pc := 64) X A_140 hj4 (by decide) dX8_begins_64 ?_
    refine wp_aload_n (pc := 65) X dX8_begins_65 rfl rfl ?_
    refine wp_get (pc := 66) X fl_X8_7 A_139 (by decide) (fg_8_0 A_139) dX8_begins_66 ?_
    refine wp_bipush (pc := 69) (v := nI 6) X dX8_begins_69 (by decide) ?_
    refine wp_iload_n (pc := 71) X dX8_begins_71 rfl rfl ?_
    refine wn_iadd (pc := 72) X dX8_begins_72 ?_
    refine wp_aload_n (pc := 73) X dX8_begins_73 rfl rfl ?_
    refine wp_get (pc := 74) X fl_X8_16 A_139 (by decide) (fg_8_4 A_139) dX8_begins_74 ?_
    refine wp_iconst (pc := 77) (v := nI 2) X dX8_begins_77 (by decide) ?_
    refine wp_iconst (pc := 78) (v := nI 3) X dX8_begins_78 (by decide) ?_
    refine wp_iload_n (pc := 79) X dX8_begins_79 rfl rfl ?_
    refine wn_imul (pc := 80) X dX8_begins_80 ?_
    refine wn_iadd (pc := 81) X dX8_begins_81 ?_
    obtain ⟨hj5, h⟩ := h
    refine wn_iald (pc := 82) X A_142 hj5 (by decide) dX8_begins_82 ?_
    obtain ⟨hj6, h⟩ := h
    refine wn_iast (pc := 83) X A_140 hj6 (by decide) dX8_begins_83 ?_
    refine wp_aload_n (pc := 84) X dX8_begins_84 rfl rfl ?_
    refine wp_get (pc := 85) X fl_X8_7 A_139 (by decide) (fg_8_0 A_139) dX8_begins_85 ?_
    refine wp_bipush (pc := 88) (v := nI 12) X dX8_begins_88 (by decide) ?_
    refine wp_iload_n (pc := 90) X dX8_begins_90 rfl rfl ?_
    refine wn_iadd (pc := 91) X dX8_begins_91 ?_
    refine wp_aload_n (pc := 92) X dX8_begins_92 rfl rfl ?_
    refine wp_get (pc := 93) X fl_X8_16 A_139 (by decide) (fg_8_4 A_139) dX8_begins_93 ?_
    refine wp_iconst (pc := 96) (v := nI 3) X dX8_begins_96 (by decide) ?_
    refine wp_iconst (pc := 97) (v := nI 3) X dX8_begins_97 (by decide) ?_
    refine wp_iload_n (pc := 98) X dX8_begins_98 rfl rfl ?_
    refine wn_imul (pc := 99) X dX8_begins_99 ?_
    refine wn_iadd (pc := 100) X dX8_begins_100 ?_
    obtain ⟨hj7, h⟩ := h
    refine wn_iald (pc := 101) X A_142 hj7 (by decide) dX8_begins_101 ?_
    obtain ⟨hj8, h⟩ := h
    refine wn_iast (pc := 102) X A_140 hj8 (by decide) dX8_begins_102 ?_
    refine wn_iinc (pc := 103) (d := 1) (lo' := [some (.ref 139), some (.int a1), some (.int a2), some (.int (nI (k + 1)))]) X dX8_begins_103 rfl (by decide) rfl rfl ?_
    refine wp_goto (pc := 106) (tgt := 37) X dX8_begins_106 (by decide) ?_
    exact h
theorem r_X8_write_0 {x : CT} {L : List Nat} {Q : Int32 → Mem → Prop} {M : Mem}  {a1 : Int32} (X : BS x L cX8_write 2 RX8 (m_X8_write).2.2.2.2) (T : RT x L (some .int) Q) (A_139 : AC L 139 8 0) (A_141 : AC L 141 9 200)
    (h : CM m_X8_within L [.int a1, .int (nI 32), .int (nI 126)] M (fun r2 M1 => (¬ r2 = 0 → ∃ v3 : Nat, M1 139 3 = nI v3 ∧ v3 < 2 ^ 31 ∧ (¬ v3 = 200 → ∃ v5 : Nat, M1 139 3 = nI v5 ∧ v5 < 200 ∧ ∃ v8 : Nat, (MU M1 141 v5 a1) 139 3 = nI v8 ∧ ∃ v10 : Nat, (MU (MU M1 141 v5 a1) 139 3 (nI (v8 + 1))) 139 3 = nI v10 ∧ Q (nI v10) (MU (MU M1 141 v5 a1) 139 3 (nI (v8 + 1)))) ∧ (v3 = 200 → Q (-3) M1)) ∧ (r2 = 0 → Q (-1) M1))) : WP x L 0 [some (.ref 139), some (.int a1)] [] M := by
  refine wp_iload_n (pc := 0) X dX8_write_0 rfl rfl ?_
  refine wp_bipush (pc := 1) (v := nI 32) X dX8_write_1 (by decide) ?_
  refine wp_bipush (pc := 3) (v := nI 126) X dX8_write_3 (by decide) ?_
  refine wp_invS (pc := 5) X sv_X8_31  rfl ⟨by decide, by decide⟩ (As := [.int a1, .int (nI 32), .int (nI 126)]) (st := []) rfl rfl (Nat.le_of_ble_eq_true rfl) dX8_write_5 ?_
  refine CM.mono h (fun r2 M1 h => ?_)
  refine wp_if_ne (pc := 8) (tgt := 13) X dX8_write_8 (by decide) (fun hc => ?_) (fun hc => ?_)
  · replace h := h.1 hc
    refine wp_aload_n (pc := 13) X dX8_write_13 rfl rfl ?_
    obtain ⟨v3, he4, h⟩ := h
    refine we_get (pc := 14) X fl_X8_35 A_139 (by decide) (fg_8_3 A_139) he4 dX8_write_14 ?_
    refine wp_sipush (pc := 17) (v := nI 200) X dX8_write_17 (by decide) ?_
    obtain ⟨hb12, h⟩ := h
    refine wn_icmp_ne (pc := 20) (tgt := 26) X dX8_write_20 (by decide) hb12 (by decide) (fun hc => ?_) (fun hc => ?_)
    · replace h := h.1 hc
      refine wp_aload_n (pc := 26) X dX8_write_26 rfl rfl ?_
      refine wp_get (pc := 27) X fl_X8_13 A_139 (by decide) (fg_8_2 A_139) dX8_write_27 ?_
      refine wp_aload_n (pc := 30) X dX8_write_30 rfl rfl ?_
      obtain ⟨v5, he6, h⟩ := h
      refine we_get (pc := 31) X fl_X8_35 A_139 (by decide) (fg_8_3 A_139) he6 dX8_write_31 ?_
      refine wp_iload_n (pc := 34) X dX8_write_34 rfl rfl ?_
      obtain ⟨hj7, h⟩ := h
      refine wn_iast (pc := 35) X A_141 hj7 (by decide) dX8_write_35 ?_
      refine wp_aload_n (pc := 36) X dX8_write_36 rfl rfl ?_
      refine wp_dup (pc := 37) X dX8_write_37 rfl ?_
      obtain ⟨v8, he9, h⟩ := h
      refine we_get (pc := 38) X fl_X8_35 A_139 (by decide) (fg_8_3 A_139) he9 dX8_write_38 ?_
      refine wp_iconst (pc := 41) (v := nI 1) X dX8_write_41 (by decide) ?_
      refine wn_iadd (pc := 42) X dX8_write_42 ?_
      refine wp_put (pc := 43) X fl_X8_35 fp_8_3 A_139 (by decide) (fk_8_3 A_139) (fs_8_3 A_139 _) dX8_write_43 ?_
      refine wp_aload_n (pc := 46) X dX8_write_46 rfl rfl ?_
      obtain ⟨v10, he11, h⟩ := h
      refine we_get (pc := 47) X fl_X8_35 A_139 (by decide) (fg_8_3 A_139) he11 dX8_write_47 ?_
      exact wp_iret (pc := 50) X T dX8_write_50 h
    · replace h := h.2 hc
      refine wp_bipush (pc := 23) (v := (-3)) X dX8_write_23 (by decide) ?_
      exact wp_iret (pc := 25) X T dX8_write_25 h
  · replace h := h.2 hc
    refine wp_iconst (pc := 11) (v := (-1)) X dX8_write_11 (by decide) ?_
    exact wp_iret (pc := 12) X T dX8_write_12 h
theorem r_X8_wipe_0 {x : CT} {L : List Nat} {Q : Int32 → Mem → Prop} {M : Mem}  (X : BS x L cX8_wipe 2 RX8 (m_X8_wipe).2.2.2.2) (T : RT x L (some .int) Q) (A_139 : AC L 139 8 0)
    (h : Q (M 139 3) (MU M 139 3 (nI 0))) : WP x L 0 [some (.ref 139), none] [] M := by
  refine wp_aload_n (pc := 0) X dX8_wipe_0 rfl rfl ?_
  refine wp_get (pc := 1) X fl_X8_35 A_139 (by decide) (fg_8_3 A_139) dX8_wipe_1 ?_
  refine wp_istore_n (pc := 4) (lo' := [some (.ref 139), some (.int (M 139 3))]) X dX8_wipe_4 rfl (Nat.le_of_ble_eq_true rfl) rfl rfl ?_
  refine wp_aload_n (pc := 5) X dX8_wipe_5 rfl rfl ?_
  refine wp_iconst (pc := 6) (v := nI 0) X dX8_wipe_6 (by decide) ?_
  refine wp_put (pc := 7) X fl_X8_35 fp_8_3 A_139 (by decide) (fk_8_3 A_139) (fs_8_3 A_139 _) dX8_wipe_7 ?_
  refine wp_iload_n (pc := 10) X dX8_wipe_10 rfl rfl ?_
  exact wp_iret (pc := 11) X T dX8_wipe_11 h
theorem r_X8_here_0 {x : CT} {L : List Nat} {Q : Int32 → Mem → Prop} {M : Mem}  (X : BS x L cX8_here 1 RX8 (m_X8_here).2.2.2.2) (T : RT x L (some .int) Q) (A_139 : AC L 139 8 0) (A_141 : AC L 141 9 200)
    (h : ∃ v1 : Nat, M 139 5 = nI v1 ∧ ∃ v3 : Nat, M 139 3 = nI v3 ∧ v1 < 2 ^ 31 ∧ v3 < 2 ^ 31 ∧ (v3 ≤ v1 → Q (nI 0) M) ∧ (v1 < v3 → ∃ v5 : Nat, M 139 5 = nI v5 ∧ v5 < 200 ∧ Q (M 141 v5) M)) : WP x L 0 [some (.ref 139)] [] M := by
  refine wp_aload_n (pc := 0) X dX8_here_0 rfl rfl ?_
  obtain ⟨v1, he2, h⟩ := h
  refine we_get (pc := 1) X fl_X8_38 A_139 (by decide) (fg_8_5 A_139) he2 dX8_here_1 ?_
  refine wp_aload_n (pc := 4) X dX8_here_4 rfl rfl ?_
  obtain ⟨v3, he4, h⟩ := h
  refine we_get (pc := 5) X fl_X8_35 A_139 (by decide) (fg_8_3 A_139) he4 dX8_here_5 ?_
  obtain ⟨hb8, hb9, h⟩ := h
  refine wn_icmp_ge (pc := 8) (tgt := 23) X dX8_here_8 (by decide) hb8 hb9 (fun hc => ?_) (fun hc => ?_)
  · replace h := h.1 hc
    refine wp_iconst (pc := 23) (v := nI 0) X dX8_here_23 (by decide) ?_
    exact wp_iret (pc := 24) X T dX8_here_24 h
  · replace h := h.2 hc
    refine wp_aload_n (pc := 11) X dX8_here_11 rfl rfl ?_
    refine wp_get (pc := 12) X fl_X8_13 A_139 (by decide) (fg_8_2 A_139) dX8_here_12 ?_
    refine wp_aload_n (pc := 15) X dX8_here_15 rfl rfl ?_
    obtain ⟨v5, he6, h⟩ := h
    refine we_get (pc := 16) X fl_X8_38 A_139 (by decide) (fg_8_5 A_139) he6 dX8_here_16 ?_
    obtain ⟨hj7, h⟩ := h
    refine wn_iald (pc := 19) X A_141 hj7 (by decide) dX8_here_19 ?_
    refine wp_goto (pc := 20) (tgt := 24) X dX8_here_20 (by decide) ?_
    exact wp_iret (pc := 24) X T dX8_here_24 h
theorem r_X8_passes_0 {x : CT} {L : List Nat} {Q : Int32 → Mem → Prop} {M : Mem}  {a1 a2 a3 : Int32} (X : BS x L cX8_passes 6 RX8 (m_X8_passes).2.2.2.2) (T : RT x L (some .boolean) Q) (A_139 : AC L 139 8 0)
    (h : WP x L 8 [some (.ref 139), some (.int a1), some (.int a2), some (.int a3), some (.int (nI 0)), none] [] (MU M 139 6 (nI 0))) : WP x L 0 [some (.ref 139), some (.int a1), some (.int a2), some (.int a3), none, none] [] M := by
  refine wp_iconst (pc := 0) (v := nI 0) X dX8_passes_0 (by decide) ?_
  refine wp_istore (pc := 1) (lo' := [some (.ref 139), some (.int a1), some (.int a2), some (.int a3), some (.int (nI 0)), none]) X dX8_passes_1 (Nat.le_of_ble_eq_true rfl) rfl rfl ?_
  refine wp_aload_n (pc := 3) X dX8_passes_3 rfl rfl ?_
  refine wp_iconst (pc := 4) (v := nI 0) X dX8_passes_4 (by decide) ?_
  refine wp_put (pc := 5) X fl_X8_41 fp_8_6 A_139 (by decide) (fk_8_6 A_139) (fs_8_6 A_139 _) dX8_passes_5 ?_
  exact h
theorem r_X8_passes_8 {x : CT} {L : List Nat} {Q : Int32 → Mem → Prop} {M : Mem}  {a1 a2 a3 : Int32} {k : Nat} (X : BS x L cX8_passes 6 RX8 (m_X8_passes).2.2.2.2) (T : RT x L (some .boolean) Q) (A_139 : AC L 139 8 0)
    (h : CM m_X8_here L [.ref 139] M (fun r2 M1 => CM m_X8_within L [.int r2, .int (nI 48), .int (nI 57)] M1 (fun r4 M3 => (r4 = 0 → k < 2 ^ 31 ∧ (k = 0 → ∃ v5 : Nat, M3 139 5 = nI v5 ∧ Q (nI 0) (MU M3 139 5 (nI (v5 + 1)))) ∧ (0 < k → CM m_X8_within L [.int (M3 139 6), .int a1, .int a2] M3 (fun r8 M7 => (r8 = 0 → ∃ v9 : Nat, M7 139 5 = nI v9 ∧ Q (nI 0) (MU M7 139 5 (nI (v9 + 1)))) ∧ (¬ r8 = 0 → CM m_X8_here L [.ref 139] M7 (fun r12 M11 => (¬ r12 = a3 → ∃ v13 : Nat, M11 139 5 = nI v13 ∧ Q (nI 0) (MU M11 139 5 (nI (v13 + 1)))) ∧ (r12 = a3 → ∃ v15 : Nat, M11 139 5 = nI v15 ∧ Q (nI 1) (MU M11 139 5 (nI (v15 + 1))))))))) ∧ (¬ r4 = 0 → k < 2 ^ 31 ∧ (2 ≤ k → k < 2 ^ 31 ∧ (k = 0 → ∃ v18 : Nat, M3 139 5 = nI v18 ∧ Q (nI 0) (MU M3 139 5 (nI (v18 + 1)))) ∧ (0 < k → CM m_X8_within L [.int (M3 139 6), .int a1, .int a2] M3 (fun r21 M20 => (r21 = 0 → ∃ v22 : Nat, M20 139 5 = nI v22 ∧ Q (nI 0) (MU M20 139 5 (nI (v22 + 1)))) ∧ (¬ r21 = 0 → CM m_X8_here L [.ref 139] M20 (fun r25 M24 => (¬ r25 = a3 → ∃ v26 : Nat, M24 139 5 = nI v26 ∧ Q (nI 0) (MU M24 139 5 (nI (v26 + 1)))) ∧ (r25 = a3 → ∃ v28 : Nat, M24 139 5 = nI v28 ∧ Q (nI 1) (MU M24 139 5 (nI (v28 + 1))))))))) ∧ (k < 2 → CM m_X8_here L [.ref 139] M3 (fun r32 M31 => ∃ v33 : Nat, (MU M31 139 6 ((((nI 10) * (M3 139 6)) + r32) - (nI 48))) 139 5 = nI v33 ∧ WP x L 8 [some (.ref 139), some (.int a1), some (.int a2), some (.int a3), some (.int (nI (k + 1))), none] [] (MU (MU M31 139 6 ((((nI 10) * (M3 139 6)) + r32) - (nI 48))) 139 5 (nI (v33 + 1))))))))) : WP x L 8 [some (.ref 139), some (.int a1), some (.int a2), some (.int a3), some (.int (nI k)), none] [] M := by
  refine wp_aload_n (pc := 8) X dX8_passes_8 rfl rfl ?_
  refine wp_invV (pc := 9) X sv_X8_44 A_139 (by decide) rfl ⟨by decide, by decide⟩ (As := []) (st := []) rfl rfl (Nat.le_of_ble_eq_true rfl) dX8_passes_9 ?_
  refine CM.mono h (fun r2 M1 h => ?_)
  refine wp_bipush (pc := 12) (v := nI 48) X dX8_passes_12 (by decide) ?_
  refine wp_bipush (pc := 14) (v := nI 57) X dX8_passes_14 (by decide) ?_
  refine wp_invS (pc := 16) X sv_X8_31  rfl ⟨by decide, by decide⟩ (As := [.int r2, .int (nI 48), .int (nI 57)]) (st := []) rfl rfl (Nat.le_of_ble_eq_true rfl) dX8_passes_16 ?_
  refine CM.mono h (fun r4 M3 h => ?_)
  refine wp_if_eq (pc := 19) (tgt := 63) X dX8_passes_19 (by decide) (fun hc => ?_) (fun hc => ?_)
  · replace h := h.1 hc
    refine wp_iload (pc := 63) X dX8_passes_63 rfl ?_
    obtain ⟨hb17, h⟩ := h
    refine wn_if_le (pc := 65) (tgt := 92) X dX8_passes_65 (by decide) hb17 (fun hc => ?_) (fun hc => ?_)
    · replace h := h.1 hc
      refine wp_iconst (pc := 92) (v := nI 0) X dX8_passes_92 (by decide) ?_
      refine wp_istore (pc := 93) (lo' := [some (.ref 139), some (.int a1), some (.int a2), some (.int a3), some (.int (nI k)), some (.int (nI 0))]) X dX8_passes_93 (Nat.le_of_ble_eq_true rfl) rfl rfl ?_
      refine wp_aload_n (pc := 95) X dX8_passes_95 rfl rfl ?_
      refine wp_dup (pc := 96) X dX8_passes_96 rfl ?_
      obtain ⟨v5, he6, h⟩ := h
      refine we_get (pc := 97) X fl_X8_38 A_139 (by decide) (fg_8_5 A_139) he6 dX8_passes_97 ?_
      refine wp_iconst (pc := 100) (v := nI 1) X dX8_passes_100 (by decide) ?_
      refine wn_iadd (pc := 101) X dX8_passes_101 ?_
      refine wp_put (pc := 102) X fl_X8_38 fp_8_5 A_139 (by decide) (fk_8_5 A_139) (fs_8_5 A_139 _) dX8_passes_102 ?_
      refine wp_iload (pc := 105) X dX8_passes_105 rfl ?_
      exact wp_zret (pc := 107) X T (by decide) dX8_passes_107 h
    · replace h := h.2 hc
      refine wp_aload_n (pc := 68) X dX8_passes_68 rfl rfl ?_
      refine wp_get (pc := 69) X fl_X8_41 A_139 (by decide) (fg_8_6 A_139) dX8_passes_69 ?_
      refine wp_iload_n (pc := 72) X dX8_passes_72 rfl rfl ?_
      refine wp_iload_n (pc := 73) X dX8_passes_73 rfl rfl ?_
      refine wp_invS (pc := 74) X sv_X8_31  rfl ⟨by decide, by decide⟩ (As := [.int (M3 139 6), .int a1, .int a2]) (st := []) rfl rfl (Nat.le_of_ble_eq_true rfl) dX8_passes_74 ?_
      refine CM.mono h (fun r8 M7 h => ?_)
      refine wp_if_eq (pc := 77) (tgt := 92) X dX8_passes_77 (by decide) (fun hc => ?_) (fun hc => ?_)
      · replace h := h.1 hc
        refine wp_iconst (pc := 92) (v := nI 0) X dX8_passes_92 (by decide) ?_
        refine wp_istore (pc := 93) (lo' := [some (.ref 139), some (.int a1), some (.int a2), some (.int a3), some (.int (nI k)), some (.int (nI 0))]) X dX8_passes_93 (Nat.le_of_ble_eq_true rfl) rfl rfl ?_
        refine wp_aload_n (pc := 95) X dX8_passes_95 rfl rfl ?_
        refine wp_dup (pc := 96) X dX8_passes_96 rfl ?_
        obtain ⟨v9, he10, h⟩ := h
        refine we_get (pc := 97) X fl_X8_38 A_139 (by decide) (fg_8_5 A_139) he10 dX8_passes_97 ?_
        refine wp_iconst (pc := 100) (v := nI 1) X dX8_passes_100 (by decide) ?_
        refine wn_iadd (pc := 101) X dX8_passes_101 ?_
        refine wp_put (pc := 102) X fl_X8_38 fp_8_5 A_139 (by decide) (fk_8_5 A_139) (fs_8_5 A_139 _) dX8_passes_102 ?_
        refine wp_iload (pc := 105) X dX8_passes_105 rfl ?_
        exact wp_zret (pc := 107) X T (by decide) dX8_passes_107 h
      · replace h := h.2 hc
        refine wp_aload_n (pc := 80) X dX8_passes_80 rfl rfl ?_
        refine wp_invV (pc := 81) X sv_X8_44 A_139 (by decide) rfl ⟨by decide, by decide⟩ (As := []) (st := []) rfl rfl (Nat.le_of_ble_eq_true rfl) dX8_passes_81 ?_
        refine CM.mono h (fun r12 M11 h => ?_)
        refine wp_iload_n (pc := 84) X dX8_passes_84 rfl rfl ?_
        refine wp_icmp_ne (pc := 85) (tgt := 92) X dX8_passes_85 (by decide) (fun hc => ?_) (fun hc => ?_)
        · replace h := h.1 hc
          refine wp_iconst (pc := 92) (v := nI 0) X dX8_passes_92 (by decide) ?_
          refine wp_istore (pc := 93) (lo' := [some (.ref 139), some (.int a1), some (.int a2), some (.int a3), some (.int (nI k)), some (.int (nI 0))]) X dX8_passes_93 (Nat.le_of_ble_eq_true rfl) rfl rfl ?_
          refine wp_aload_n (pc := 95) X dX8_passes_95 rfl rfl ?_
          refine wp_dup (pc := 96) X dX8_passes_96 rfl ?_
          obtain ⟨v13, he14, h⟩ := h
          refine we_get (pc := 97) X fl_X8_38 A_139 (by decide) (fg_8_5 A_139) he14 dX8_passes_97 ?_
          refine wp_iconst (pc := 100) (v := nI 1) X dX8_passes_100 (by decide) ?_
          refine wn_iadd (pc := 101) X dX8_passes_101 ?_
          refine wp_put (pc := 102) X fl_X8_38 fp_8_5 A_139 (by decide) (fk_8_5 A_139) (fs_8_5 A_139 _) dX8_passes_102 ?_
          refine wp_iload (pc := 105) X dX8_passes_105 rfl ?_
          exact wp_zret (pc := 107) X T (by decide) dX8_passes_107 h
        · replace h := h.2 hc
          refine wp_iconst (pc := 88) (v := nI 1) X dX8_passes_88 (by decide) ?_
          refine wp_goto (pc := 89) (tgt := 93) X dX8_passes_89 (by decide) ?_
          refine wp_istore (pc := 93) (lo' := [some (.ref 139), some (.int a1), some (.int a2), some (.int a3), some (.int (nI k)), some (.int (nI 1))]) X dX8_passes_93 (Nat.le_of_ble_eq_true rfl) rfl rfl ?_
          refine wp_aload_n (pc := 95) X dX8_passes_95 rfl rfl ?_
          refine wp_dup (pc := 96) X dX8_passes_96 rfl ?_
          obtain ⟨v15, he16, h⟩ := h
          refine we_get (pc := 97) X fl_X8_38 A_139 (by decide) (fg_8_5 A_139) he16 dX8_passes_97 ?_
          refine wp_iconst (pc := 100) (v := nI 1) X dX8_passes_100 (by decide) ?_
          refine wn_iadd (pc := 101) X dX8_passes_101 ?_
          refine wp_put (pc := 102) X fl_X8_38 fp_8_5 A_139 (by decide) (fk_8_5 A_139) (fs_8_5 A_139 _) dX8_passes_102 ?_
          refine wp_iload (pc := 105) X dX8_passes_105 rfl ?_
          exact wp_zret (pc := 107) X T (by decide) dX8_passes_107 h
  · replace h := h.2 hc
    refine wp_iload (pc := 22) X dX8_passes_22 rfl ?_
    refine wp_iconst (pc := 24) (v := nI 2) X dX8_passes_24 (by decide) ?_
    obtain ⟨hb35, h⟩ := h
    refine wn_icmp_ge (pc := 25) (tgt := 63) X dX8_passes_25 (by decide) hb35 (by decide) (fun hc => ?_) (fun hc => ?_)
    · replace h := h.1 hc
      refine wp_iload (pc := 63) X dX8_passes_63 rfl ?_
      obtain ⟨hb30, h⟩ := h
      refine wn_if_le (pc := 65) (tgt := 92) X dX8_passes_65 (by decide) hb30 (fun hc => ?_) (fun hc => ?_)
      · replace h := h.1 hc
        refine wp_iconst (pc := 92) (v := nI 0) X dX8_passes_92 (by decide) ?_
        refine wp_istore (pc := 93) (lo' := [some (.ref 139), some (.int a1), some (.int a2), some (.int a3), some (.int (nI k)), some (.int (nI 0))]) X dX8_passes_93 (Nat.le_of_ble_eq_true rfl) rfl rfl ?_
        refine wp_aload_n (pc := 95) X dX8_passes_95 rfl rfl ?_
        refine wp_dup (pc := 96) X dX8_passes_96 rfl ?_
        obtain ⟨v18, he19, h⟩ := h
        refine we_get (pc := 97) X fl_X8_38 A_139 (by decide) (fg_8_5 A_139) he19 dX8_passes_97 ?_
        refine wp_iconst (pc := 100) (v := nI 1) X dX8_passes_100 (by decide) ?_
        refine wn_iadd (pc := 101) X dX8_passes_101 ?_
        refine wp_put (pc := 102) X fl_X8_38 fp_8_5 A_139 (by decide) (fk_8_5 A_139) (fs_8_5 A_139 _) dX8_passes_102 ?_
        refine wp_iload (pc := 105) X dX8_passes_105 rfl ?_
        exact wp_zret (pc := 107) X T (by decide) dX8_passes_107 h
      · replace h := h.2 hc
        refine wp_aload_n (pc := 68) X dX8_passes_68 rfl rfl ?_
        refine wp_get (pc := 69) X fl_X8_41 A_139 (by decide) (fg_8_6 A_139) dX8_passes_69 ?_
        refine wp_iload_n (pc := 72) X dX8_passes_72 rfl rfl ?_
        refine wp_iload_n (pc := 73) X dX8_passes_73 rfl rfl ?_
        refine wp_invS (pc := 74) X sv_X8_31  rfl ⟨by decide, by decide⟩ (As := [.int (M3 139 6), .int a1, .int a2]) (st := []) rfl rfl (Nat.le_of_ble_eq_true rfl) dX8_passes_74 ?_
        refine CM.mono h (fun r21 M20 h => ?_)
        refine wp_if_eq (pc := 77) (tgt := 92) X dX8_passes_77 (by decide) (fun hc => ?_) (fun hc => ?_)
        · replace h := h.1 hc
          refine wp_iconst (pc := 92) (v := nI 0) X dX8_passes_92 (by decide) ?_
          refine wp_istore (pc := 93) (lo' := [some (.ref 139), some (.int a1), some (.int a2), some (.int a3), some (.int (nI k)), some (.int (nI 0))]) X dX8_passes_93 (Nat.le_of_ble_eq_true rfl) rfl rfl ?_
          refine wp_aload_n (pc := 95) X dX8_passes_95 rfl rfl ?_
          refine wp_dup (pc := 96) X dX8_passes_96 rfl ?_
          obtain ⟨v22, he23, h⟩ := h
          refine we_get (pc := 97) X fl_X8_38 A_139 (by decide) (fg_8_5 A_139) he23 dX8_passes_97 ?_
          refine wp_iconst (pc := 100) (v := nI 1) X dX8_passes_100 (by decide) ?_
          refine wn_iadd (pc := 101) X dX8_passes_101 ?_
          refine wp_put (pc := 102) X fl_X8_38 fp_8_5 A_139 (by decide) (fk_8_5 A_139) (fs_8_5 A_139 _) dX8_passes_102 ?_
          refine wp_iload (pc := 105) X dX8_passes_105 rfl ?_
          exact wp_zret (pc := 107) X T (by decide) dX8_passes_107 h
        · replace h := h.2 hc
          refine wp_aload_n (pc := 80) X dX8_passes_80 rfl rfl ?_
          refine wp_invV (pc := 81) X sv_X8_44 A_139 (by decide) rfl ⟨by decide, by decide⟩ (As := []) (st := []) rfl rfl (Nat.le_of_ble_eq_true rfl) dX8_passes_81 ?_
          refine CM.mono h (fun r25 M24 h => ?_)
          refine wp_iload_n (pc := 84) X dX8_passes_84 rfl rfl ?_
          refine wp_icmp_ne (pc := 85) (tgt := 92) X dX8_passes_85 (by decide) (fun hc => ?_) (fun hc => ?_)
          · replace h := h.1 hc
            refine wp_iconst (pc := 92) (v := nI 0) X dX8_passes_92 (by decide) ?_
            refine wp_istore (pc := 93) (lo' := [some (.ref 139), some (.int a1), some (.int a2), some (.int a3), some (.int (nI k)), some (.int (nI 0))]) X dX8_passes_93 (Nat.le_of_ble_eq_true rfl) rfl rfl ?_
            refine wp_aload_n (pc := 95) X dX8_passes_95 rfl rfl ?_
            refine wp_dup (pc := 96) X dX8_passes_96 rfl ?_
            obtain ⟨v26, he27, h⟩ := h
            refine we_get (pc := 97) X fl_X8_38 A_139 (by decide) (fg_8_5 A_139) he27 dX8_passes_97 ?_
            refine wp_iconst (pc := 100) (v := nI 1) X dX8_passes_100 (by decide) ?_
            refine wn_iadd (pc := 101) X dX8_passes_101 ?_
            refine wp_put (pc := 102) X fl_X8_38 fp_8_5 A_139 (by decide) (fk_8_5 A_139) (fs_8_5 A_139 _) dX8_passes_102 ?_
            refine wp_iload (pc := 105) X dX8_passes_105 rfl ?_
            exact wp_zret (pc := 107) X T (by decide) dX8_passes_107 h
          · replace h := h.2 hc
            refine wp_iconst (pc := 88) (v := nI 1) X dX8_passes_88 (by decide) ?_
            refine wp_goto (pc := 89) (tgt := 93) X dX8_passes_89 (by decide) ?_
            refine wp_istore (pc := 93) (lo' := [some (.ref 139), some (.int a1), some (.int a2), some (.int a3), some (.int (nI k)), some (.int (nI 1))]) X dX8_passes_93 (Nat.le_of_ble_eq_true rfl) rfl rfl ?_
            refine wp_aload_n (pc := 95) X dX8_passes_95 rfl rfl ?_
            refine wp_dup (pc := 96) X dX8_passes_96 rfl ?_
            obtain ⟨v28, he29, h⟩ := h
            refine we_get (pc := 97) X fl_X8_38 A_139 (by decide) (fg_8_5 A_139) he29 dX8_passes_97 ?_
            refine wp_iconst (pc := 100) (v := nI 1) X dX8_passes_100 (by decide) ?_
            refine wn_iadd (pc := 101) X dX8_passes_101 ?_
            refine wp_put (pc := 102) X fl_X8_38 fp_8_5 A_139 (by decide) (fk_8_5 A_139) (fs_8_5 A_139 _) dX8_passes_102 ?_
            refine wp_iload (pc := 105) X dX8_passes_105 rfl ?_
            exact wp_zret (pc := 107) X T (by decide) dX8_passes_107 h
    · replace h := h.2 hc
      refine wp_aload_n (pc := 28) X dX8_passes_28 rfl rfl ?_
      refine wp_bipush (pc := 29) (v := nI 10) X dX8_passes_29 (by decide) ?_
      refine wp_aload_n (pc := 31) X dX8_passes_31 rfl rfl ?_
      refine wp_get (pc := 32) X fl_X8_41 A_139 (by decide) (fg_8_6 A_139) dX8_passes_32 ?_
      refine wp_imul (pc := 35) X dX8_passes_35 ?_
      refine wp_aload_n (pc := 36) X dX8_passes_36 rfl rfl ?_
      refine wp_invV (pc := 37) X sv_X8_44 A_139 (by decide) rfl ⟨by decide, by decide⟩ (As := []) (st := [.int ((nI 10) * (M3 139 6)), .ref 139]) rfl rfl (Nat.le_of_ble_eq_true rfl) dX8_passes_37 ?_
      refine CM.mono h (fun r32 M31 h => ?_)
      refine wp_iadd (pc := 40) X dX8_passes_40 ?_
      refine wp_bipush (pc := 41) (v := nI 48) X dX8_passes_41 (by decide) ?_
      refine wp_isub (pc := 43) X dX8_passes_43 ?_
      refine wp_put (pc := 44) X fl_X8_41 fp_8_6 A_139 (by decide) (fk_8_6 A_139) (fs_8_6 A_139 _) dX8_passes_44 ?_
      refine wp_aload_n (pc := 47) X dX8_passes_47 rfl rfl ?_
      refine wp_dup (pc := 48) X dX8_passes_48 rfl ?_
      obtain ⟨v33, he34, h⟩ := h
      refine we_get (pc := 49) X fl_X8_38 A_139 (by decide) (fg_8_5 A_139) he34 dX8_passes_49 ?_
      refine wp_iconst (pc := 52) (v := nI 1) X dX8_passes_52 (by decide) ?_
      refine wn_iadd (pc := 53) X dX8_passes_53 ?_
      refine wp_put (pc := 54) X fl_X8_38 fp_8_5 A_139 (by decide) (fk_8_5 A_139) (fs_8_5 A_139 _) dX8_passes_54 ?_
      refine wn_iinc (pc := 57) (d := 1) (lo' := [some (.ref 139), some (.int a1), some (.int a2), some (.int a3), some (.int (nI (k + 1))), none]) X dX8_passes_57 rfl (by decide) rfl rfl ?_
      refine wp_goto (pc := 60) (tgt := 8) X dX8_passes_60 (by decide) ?_
      exact h
theorem r_X8_passesFile_0 {x : CT} {L : List Nat} {Q : Int32 → Mem → Prop} {M : Mem}  (X : BS x L cX8_passesFile 4 RX8 (m_X8_passesFile).2.2.2.2) (T : RT x L (some .boolean) Q) (A_139 : AC L 139 8 0) (A_142 : AC L 142 9 20)
    (h : ∃ v1 : Nat, M 142 0 = nI v1 ∧ v1 < 2 ^ 31 ∧ (v1 = 6 → Q (nI 0) M) ∧ (¬ v1 = 6 → CM m_X8_passes L [.ref 139, .int (nI 1), .int (nI 12), .int (nI 44)] M (fun r4 M3 => (¬ r4 = 0 → CM m_X8_passes L [.ref 139, .int (nI 0), .int (nI 6), .int (nI 44)] M3 (fun r6 M5 => (¬ r6 = 0 → CM m_X8_passes L [.ref 139, .int (nI 1), .int (nI 9), .int (nI 59)] M5 (fun r8 M7 => (¬ r8 = 0 → CM m_X8_laysFile L [.ref 139, .int (nI v1), .int (M3 139 6), .int (M5 139 6), .int (M7 139 6)] M7 (fun _ M9 => Q (nI 1) (MU M9 142 0 ((M9 142 0) + (nI 1))))) ∧ (r8 = 0 → Q (nI 0) M7))) ∧ (r6 = 0 → Q (nI 0) M5))) ∧ (r4 = 0 → Q (nI 0) M3)))) : WP x L 0 [some (.ref 139), none, none, none] [] M := by
  refine wp_aload_n (pc := 0) X dX8_passesFile_0 rfl rfl ?_
  refine wp_get (pc := 1) X fl_X8_16 A_139 (by decide) (fg_8_4 A_139) dX8_passesFile_1 ?_
  refine wp_iconst (pc := 4) (v := nI 0) X dX8_passesFile_4 (by decide) ?_
  obtain ⟨v1, he2, h⟩ := h
  refine we_iald (pc := 5) X A_142 (by decide) (by decide) he2 dX8_passesFile_5 ?_
  refine wp_istore_n (pc := 6) (lo' := [some (.ref 139), some (.int (nI v1)), none, none]) X dX8_passesFile_6 rfl (Nat.le_of_ble_eq_true rfl) rfl rfl ?_
  refine wp_iload_n (pc := 7) X dX8_passesFile_7 rfl rfl ?_
  refine wp_bipush (pc := 8) (v := nI 6) X dX8_passesFile_8 (by decide) ?_
  obtain ⟨hb11, h⟩ := h
  refine wn_icmp_eq (pc := 10) (tgt := 25) X dX8_passesFile_10 (by decide) hb11 (by decide) (fun hc => ?_) (fun hc => ?_)
  · replace h := h.1 hc
    refine wp_iconst (pc := 25) (v := nI 0) X dX8_passesFile_25 (by decide) ?_
    exact wp_zret (pc := 26) X T (by decide) dX8_passesFile_26 h
  · replace h := h.2 hc
    refine wp_aload_n (pc := 13) X dX8_passesFile_13 rfl rfl ?_
    refine wp_iconst (pc := 14) (v := nI 1) X dX8_passesFile_14 (by decide) ?_
    refine wp_bipush (pc := 15) (v := nI 12) X dX8_passesFile_15 (by decide) ?_
    refine wp_bipush (pc := 17) (v := nI 44) X dX8_passesFile_17 (by decide) ?_
    refine wp_invV (pc := 19) X sv_X8_48 A_139 (by decide) rfl ⟨by decide, by decide⟩ (As := [.int (nI 1), .int (nI 12), .int (nI 44)]) (st := []) rfl rfl (Nat.le_of_ble_eq_true rfl) dX8_passesFile_19 ?_
    refine CM.mono h (fun r4 M3 h => ?_)
    refine wp_if_ne (pc := 22) (tgt := 27) X dX8_passesFile_22 (by decide) (fun hc => ?_) (fun hc => ?_)
    · replace h := h.1 hc
      refine wp_aload_n (pc := 27) X dX8_passesFile_27 rfl rfl ?_
      refine wp_get (pc := 28) X fl_X8_41 A_139 (by decide) (fg_8_6 A_139) dX8_passesFile_28 ?_
      refine wp_istore_n (pc := 31) (lo' := [some (.ref 139), some (.int (nI v1)), some (.int (M3 139 6)), none]) X dX8_passesFile_31 rfl (Nat.le_of_ble_eq_true rfl) rfl rfl ?_
      refine wp_aload_n (pc := 32) X dX8_passesFile_32 rfl rfl ?_
      refine wp_iconst (pc := 33) (v := nI 0) X dX8_passesFile_33 (by decide) ?_
      refine wp_bipush (pc := 34) (v := nI 6) X dX8_passesFile_34 (by decide) ?_
      refine wp_bipush (pc := 36) (v := nI 44) X dX8_passesFile_36 (by decide) ?_
      refine wp_invV (pc := 38) X sv_X8_48 A_139 (by decide) rfl ⟨by decide, by decide⟩ (As := [.int (nI 0), .int (nI 6), .int (nI 44)]) (st := []) rfl rfl (Nat.le_of_ble_eq_true rfl) dX8_passesFile_38 ?_
      refine CM.mono h (fun r6 M5 h => ?_)
      refine wp_if_ne (pc := 41) (tgt := 46) X dX8_passesFile_41 (by decide) (fun hc => ?_) (fun hc => ?_)
      · replace h := h.1 hc
        refine wp_aload_n (pc := 46) X dX8_passesFile_46 rfl rfl ?_
        refine wp_get (pc := 47) X fl_X8_41 A_139 (by decide) (fg_8_6 A_139) dX8_passesFile_47 ?_
        refine wp_istore_n (pc := 50) (lo' := [some (.ref 139), some (.int (nI v1)), some (.int (M3 139 6)), some (.int (M5 139 6))]) X dX8_passesFile_50 rfl (Nat.le_of_ble_eq_true rfl) rfl rfl ?_
        refine wp_aload_n (pc := 51) X dX8_passesFile_51 rfl rfl ?_
        refine wp_iconst (pc := 52) (v := nI 1) X dX8_passesFile_52 (by decide) ?_
        refine wp_bipush (pc := 53) (v := nI 9) X dX8_passesFile_53 (by decide) ?_
        refine wp_bipush (pc := 55) (v := nI 59) X dX8_passesFile_55 (by decide) ?_
        refine wp_invV (pc := 57) X sv_X8_48 A_139 (by decide) rfl ⟨by decide, by decide⟩ (As := [.int (nI 1), .int (nI 9), .int (nI 59)]) (st := []) rfl rfl (Nat.le_of_ble_eq_true rfl) dX8_passesFile_57 ?_
        refine CM.mono h (fun r8 M7 h => ?_)
        refine wp_if_ne (pc := 60) (tgt := 65) X dX8_passesFile_60 (by decide) (fun hc => ?_) (fun hc => ?_)
        · replace h := h.1 hc
          refine wp_aload_n (pc := 65) X dX8_passesFile_65 rfl rfl ?_
          refine wp_iload_n (pc := 66) X dX8_passesFile_66 rfl rfl ?_
          refine wp_iload_n (pc := 67) X dX8_passesFile_67 rfl rfl ?_
          refine wp_iload_n (pc := 68) X dX8_passesFile_68 rfl rfl ?_
          refine wp_aload_n (pc := 69) X dX8_passesFile_69 rfl rfl ?_
          refine wp_get (pc := 70) X fl_X8_41 A_139 (by decide) (fg_8_6 A_139) dX8_passesFile_70 ?_
          refine wp_invVv (pc := 73) X sv_X8_19 A_139 (by decide) rfl ⟨by decide, by decide⟩ (As := [.int (nI v1), .int (M3 139 6), .int (M5 139 6), .int (M7 139 6)]) (st := []) rfl rfl (Nat.le_of_ble_eq_true rfl) dX8_passesFile_73 ?_
          refine CM.mono h (fun _ M9 h => ?_)
          refine wp_aload_n (pc := 76) X dX8_passesFile_76 rfl rfl ?_
          refine wp_get (pc := 77) X fl_X8_16 A_139 (by decide) (fg_8_4 A_139) dX8_passesFile_77 ?_
          refine wp_iconst (pc := 80) (v := nI 0) X dX8_passesFile_80 (by decide) ?_
          refine wp_dup2 (pc := 81) X dX8_passesFile_81 rfl rfl ?_
          refine wn_iald (pc := 82) X A_142 (by decide) (by decide) dX8_passesFile_82 ?_
          refine wp_iconst (pc := 83) (v := nI 1) X dX8_passesFile_83 (by decide) ?_
          refine wp_iadd (pc := 84) X dX8_passesFile_84 ?_
          refine wn_iast (pc := 85) X A_142 (by decide) (by decide) dX8_passesFile_85 ?_
          refine wp_iconst (pc := 86) (v := nI 1) X dX8_passesFile_86 (by decide) ?_
          exact wp_zret (pc := 87) X T (by decide) dX8_passesFile_87 h
        · replace h := h.2 hc
          refine wp_iconst (pc := 63) (v := nI 0) X dX8_passesFile_63 (by decide) ?_
          exact wp_zret (pc := 64) X T (by decide) dX8_passesFile_64 h
      · replace h := h.2 hc
        refine wp_iconst (pc := 44) (v := nI 0) X dX8_passesFile_44 (by decide) ?_
        exact wp_zret (pc := 45) X T (by decide) dX8_passesFile_45 h
    · replace h := h.2 hc
      refine wp_iconst (pc := 25) (v := nI 0) X dX8_passesFile_25 (by decide) ?_
      exact wp_zret (pc := 26) X T (by decide) dX8_passesFile_26 h
theorem r_X8_passesTable_0 {x : CT} {L : List Nat} {Q : Int32 → Mem → Prop} {M : Mem}  (X : BS x L cX8_passesTable 2 RX8 (m_X8_passesTable).2.2.2.2) (T : RT x L (some .boolean) Q) (A_139 : AC L 139 8 0)
    (h : CM m_X8_passes L [.ref 139, .int (nI 3), .int (nI 20), .int (nI 44)] M (fun r2 M1 => (¬ r2 = 0 → CM m_X8_passes L [.ref 139, .int (nI 1), .int (nI 99), .int (nI 59)] (MU M1 139 7 (M1 139 6)) (fun r4 M3 => (r4 = 0 ∨ r4 = 1) ∧ Q r4 (MU M3 139 8 (M3 139 6)))) ∧ (r2 = 0 → Q (nI 0) M1))) : WP x L 0 [some (.ref 139), none] [] M := by
  refine wp_aload_n (pc := 0) X dX8_passesTable_0 rfl rfl ?_
  refine wp_iconst (pc := 1) (v := nI 3) X dX8_passesTable_1 (by decide) ?_
  refine wp_bipush (pc := 2) (v := nI 20) X dX8_passesTable_2 (by decide) ?_
  refine wp_bipush (pc := 4) (v := nI 44) X dX8_passesTable_4 (by decide) ?_
  refine wp_invV (pc := 6) X sv_X8_48 A_139 (by decide) rfl ⟨by decide, by decide⟩ (As := [.int (nI 3), .int (nI 20), .int (nI 44)]) (st := []) rfl rfl (Nat.le_of_ble_eq_true rfl) dX8_passesTable_6 ?_
  refine CM.mono h (fun r2 M1 h => ?_)
  refine wp_if_ne (pc := 9) (tgt := 14) X dX8_passesTable_9 (by decide) (fun hc => ?_) (fun hc => ?_)
  · replace h := h.1 hc
    refine wp_aload_n (pc := 14) X dX8_passesTable_14 rfl rfl ?_
    refine wp_aload_n (pc := 15) X dX8_passesTable_15 rfl rfl ?_
    refine wp_get (pc := 16) X fl_X8_41 A_139 (by decide) (fg_8_6 A_139) dX8_passesTable_16 ?_
    refine wp_put (pc := 19) X fl_X8_51 fp_8_7 A_139 (by decide) (fk_8_7 A_139) (fs_8_7 A_139 _) dX8_passesTable_19 ?_
    refine wp_aload_n (pc := 22) X dX8_passesTable_22 rfl rfl ?_
    refine wp_iconst (pc := 23) (v := nI 1) X dX8_passesTable_23 (by decide) ?_
    refine wp_bipush (pc := 24) (v := nI 99) X dX8_passesTable_24 (by decide) ?_
    refine wp_bipush (pc := 26) (v := nI 59) X dX8_passesTable_26 (by decide) ?_
    refine wp_invV (pc := 28) X sv_X8_48 A_139 (by decide) rfl ⟨by decide, by decide⟩ (As := [.int (nI 1), .int (nI 99), .int (nI 59)]) (st := []) rfl rfl (Nat.le_of_ble_eq_true rfl) dX8_passesTable_28 ?_
    refine CM.mono h (fun r4 M3 h => ?_)
    refine wp_istore_n (pc := 31) (lo' := [some (.ref 139), some (.int r4)]) X dX8_passesTable_31 rfl (Nat.le_of_ble_eq_true rfl) rfl rfl ?_
    refine wp_aload_n (pc := 32) X dX8_passesTable_32 rfl rfl ?_
    refine wp_aload_n (pc := 33) X dX8_passesTable_33 rfl rfl ?_
    refine wp_get (pc := 34) X fl_X8_41 A_139 (by decide) (fg_8_6 A_139) dX8_passesTable_34 ?_
    refine wp_put (pc := 37) X fl_X8_54 fp_8_8 A_139 (by decide) (fk_8_8 A_139) (fs_8_8 A_139 _) dX8_passesTable_37 ?_
    refine wp_iload_n (pc := 40) X dX8_passesTable_40 rfl rfl ?_
    exact wp_zret (pc := 41) X T h.1 dX8_passesTable_41 h.2
  · replace h := h.2 hc
    refine wp_iconst (pc := 12) (v := nI 0) X dX8_passesTable_12 (by decide) ?_
    exact wp_zret (pc := 13) X T (by decide) dX8_passesTable_13 h
theorem r_X8_faultIs_0 {x : CT} {L : List Nat} {Q : Int32 → Mem → Prop} {M : Mem}  (X : BS x L cX8_faultIs 3 RX8 (m_X8_faultIs).2.2.2.2) (T : RT x L (some .int) Q) (A_139 : AC L 139 8 0) (A_142 : AC L 142 9 20)
    (h : WP x L 24 [some (.ref 139), none, none] [] (MU (MU (MU (MU M 142 0 (nI 0)) 139 7 (nI 6)) 139 8 (nI 20)) 139 5 (nI 0))) : WP x L 0 [some (.ref 139), none, none] [] M := by
  refine wp_aload_n (pc := 0) X dX8_faultIs_0 rfl rfl ?_
  refine wp_get (pc := 1) X fl_X8_16 A_139 (by decide) (fg_8_4 A_139) dX8_faultIs_1 ?_
  refine wp_iconst (pc := 4) (v := nI 0) X dX8_faultIs_4 (by decide) ?_
  refine wp_iconst (pc := 5) (v := nI 0) X dX8_faultIs_5 (by decide) ?_
  refine wn_iast (pc := 6) X A_142 (by decide) (by decide) dX8_faultIs_6 ?_
  refine wp_aload_n (pc := 7) X dX8_faultIs_7 rfl rfl ?_
  refine wp_bipush (pc := 8) (v := nI 6) X dX8_faultIs_8 (by decide) ?_
  refine wp_put (pc := 10) X fl_X8_51 fp_8_7 A_139 (by decide) (fk_8_7 A_139) (fs_8_7 A_139 _) dX8_faultIs_10 ?_
  refine wp_aload_n (pc := 13) X dX8_faultIs_13 rfl rfl ?_
  refine wp_bipush (pc := 14) (v := nI 20) X dX8_faultIs_14 (by decide) ?_
  refine wp_put (pc := 16) X fl_X8_54 fp_8_8 A_139 (by decide) (fk_8_8 A_139) (fs_8_8 A_139 _) dX8_faultIs_16 ?_
  refine wp_aload_n (pc := 19) X dX8_faultIs_19 rfl rfl ?_
  refine wp_iconst (pc := 20) (v := nI 0) X dX8_faultIs_20 (by decide) ?_
  refine wp_put (pc := 21) X fl_X8_38 fp_8_5 A_139 (by decide) (fk_8_5 A_139) (fs_8_5 A_139 _) dX8_faultIs_21 ?_
  exact h
theorem r_X8_faultIs_24 {x : CT} {L : List Nat} {Q : Int32 → Mem → Prop} {M : Mem}  (X : BS x L cX8_faultIs 3 RX8 (m_X8_faultIs).2.2.2.2) (T : RT x L (some .int) Q) (A_139 : AC L 139 8 0)
    (h : ∃ v1 : Nat, M 139 5 = nI v1 ∧ ∃ v3 : Nat, M 139 3 = nI v3 ∧ v1 < 2 ^ 31 ∧ v3 < 2 ^ 31 ∧ (v3 ≤ v1 → Q (-4) M) ∧ (v1 < v3 → ∃ v5 : Nat, M 139 5 = nI v5 ∧ CM m_X8_here L [.ref 139] M (fun r8 M7 => ∃ v9 : Nat, M7 139 5 = nI v9 ∧ (¬ r8 = (nI 102) → (¬ r8 = (nI 116) → Q (nI v5) (MU M7 139 5 (nI (v9 + 1)))) ∧ (r8 = (nI 116) → CM m_X8_passesTable L [.ref 139] (MU M7 139 5 (nI (v9 + 1))) (fun r12 M11 => (¬ r12 = 0 → WP x L 24 [some (.ref 139), none, none] [] M11) ∧ (r12 = 0 → Q (nI v5) M11)))) ∧ (r8 = (nI 102) → CM m_X8_passesFile L [.ref 139] (MU M7 139 5 (nI (v9 + 1))) (fun r14 M13 => (r14 = 0 → Q (nI v5) M13) ∧ (¬ r14 = 0 → WP x L 24 [some (.ref 139), none, none] [] M13)))))) : WP x L 24 [some (.ref 139), none, none] [] M := by
  refine wp_aload_n (pc := 24) X dX8_faultIs_24 rfl rfl ?_
  obtain ⟨v1, he2, h⟩ := h
  refine we_get (pc := 25) X fl_X8_38 A_139 (by decide) (fg_8_5 A_139) he2 dX8_faultIs_25 ?_
  refine wp_aload_n (pc := 28) X dX8_faultIs_28 rfl rfl ?_
  obtain ⟨v3, he4, h⟩ := h
  refine we_get (pc := 29) X fl_X8_35 A_139 (by decide) (fg_8_3 A_139) he4 dX8_faultIs_29 ?_
  obtain ⟨hb15, hb16, h⟩ := h
  refine wn_icmp_ge (pc := 32) (tgt := 89) X dX8_faultIs_32 (by decide) hb15 hb16 (fun hc => ?_) (fun hc => ?_)
  · replace h := h.1 hc
    refine wp_bipush (pc := 89) (v := (-4)) X dX8_faultIs_89 (by decide) ?_
    exact wp_iret (pc := 91) X T dX8_faultIs_91 h
  · replace h := h.2 hc
    refine wp_aload_n (pc := 35) X dX8_faultIs_35 rfl rfl ?_
    obtain ⟨v5, he6, h⟩ := h
    refine we_get (pc := 36) X fl_X8_38 A_139 (by decide) (fg_8_5 A_139) he6 dX8_faultIs_36 ?_
    refine wp_istore_n (pc := 39) (lo' := [some (.ref 139), some (.int (nI v5)), none]) X dX8_faultIs_39 rfl (Nat.le_of_ble_eq_true rfl) rfl rfl ?_
    refine wp_aload_n (pc := 40) X dX8_faultIs_40 rfl rfl ?_
    refine wp_invV (pc := 41) X sv_X8_44 A_139 (by decide) rfl ⟨by decide, by decide⟩ (As := []) (st := []) rfl rfl (Nat.le_of_ble_eq_true rfl) dX8_faultIs_41 ?_
    refine CM.mono h (fun r8 M7 h => ?_)
    refine wp_istore_n (pc := 44) (lo' := [some (.ref 139), some (.int (nI v5)), some (.int r8)]) X dX8_faultIs_44 rfl (Nat.le_of_ble_eq_true rfl) rfl rfl ?_
    refine wp_aload_n (pc := 45) X dX8_faultIs_45 rfl rfl ?_
    refine wp_dup (pc := 46) X dX8_faultIs_46 rfl ?_
    obtain ⟨v9, he10, h⟩ := h
    refine we_get (pc := 47) X fl_X8_38 A_139 (by decide) (fg_8_5 A_139) he10 dX8_faultIs_47 ?_
    refine wp_iconst (pc := 50) (v := nI 1) X dX8_faultIs_50 (by decide) ?_
    refine wn_iadd (pc := 51) X dX8_faultIs_51 ?_
    refine wp_put (pc := 52) X fl_X8_38 fp_8_5 A_139 (by decide) (fk_8_5 A_139) (fs_8_5 A_139 _) dX8_faultIs_52 ?_
    refine wp_iload_n (pc := 55) X dX8_faultIs_55 rfl rfl ?_
    refine wp_bipush (pc := 56) (v := nI 102) X dX8_faultIs_56 (by decide) ?_
    refine wp_icmp_ne (pc := 58) (tgt := 71) X dX8_faultIs_58 (by decide) (fun hc => ?_) (fun hc => ?_)
    · replace h := h.1 hc
      refine wp_iload_n (pc := 71) X dX8_faultIs_71 rfl rfl ?_
      refine wp_bipush (pc := 72) (v := nI 116) X dX8_faultIs_72 (by decide) ?_
      refine wp_icmp_ne (pc := 74) (tgt := 84) X dX8_faultIs_74 (by decide) (fun hc => ?_) (fun hc => ?_)
      · replace h := h.1 hc
        refine wp_iload_n (pc := 84) X dX8_faultIs_84 rfl rfl ?_
        exact wp_iret (pc := 85) X T dX8_faultIs_85 h
      · replace h := h.2 hc
        refine wp_aload_n (pc := 77) X dX8_faultIs_77 rfl rfl ?_
        refine wp_invV (pc := 78) X sv_X8_61 A_139 (by decide) rfl ⟨by decide, by decide⟩ (As := []) (st := []) rfl rfl (Nat.le_of_ble_eq_true rfl) dX8_faultIs_78 ?_
        refine CM.mono h (fun r12 M11 h => ?_)
        refine wp_if_ne (pc := 81) (tgt := 86) X dX8_faultIs_81 (by decide) (fun hc => ?_) (fun hc => ?_)
        · replace h := h.1 hc
          refine wp_goto (pc := 86) (tgt := 24) X dX8_faultIs_86 (by decide) ?_
          exact wp_drop (show subL _ [some (.ref 139), none, none] from ⟨rfl, trivial⟩) h
        · replace h := h.2 hc
          refine wp_iload_n (pc := 84) X dX8_faultIs_84 rfl rfl ?_
          exact wp_iret (pc := 85) X T dX8_faultIs_85 h
    · replace h := h.2 hc
      refine wp_aload_n (pc := 61) X dX8_faultIs_61 rfl rfl ?_
      refine wp_invV (pc := 62) X sv_X8_57 A_139 (by decide) rfl ⟨by decide, by decide⟩ (As := []) (st := []) rfl rfl (Nat.le_of_ble_eq_true rfl) dX8_faultIs_62 ?_
      refine CM.mono h (fun r14 M13 h => ?_)
      refine wp_if_eq (pc := 65) (tgt := 84) X dX8_faultIs_65 (by decide) (fun hc => ?_) (fun hc => ?_)
      · replace h := h.1 hc
        refine wp_iload_n (pc := 84) X dX8_faultIs_84 rfl rfl ?_
        exact wp_iret (pc := 85) X T dX8_faultIs_85 h
      · replace h := h.2 hc
        refine wp_goto (pc := 68) (tgt := 86) X dX8_faultIs_68 (by decide) ?_
        refine wp_goto (pc := 86) (tgt := 24) X dX8_faultIs_86 (by decide) ?_
        exact wp_drop (show subL _ [some (.ref 139), none, none] from ⟨rfl, trivial⟩) h
theorem r_X8_fault_0 {x : CT} {L : List Nat} {Q : Int32 → Mem → Prop} {M : Mem}  (X : BS x L cX8_fault 1 RX8 (m_X8_fault).2.2.2.2) (T : RT x L (some .int) Q) (A_139 : AC L 139 8 0)
    (h : CM m_X8_faultIs L [.ref 139] M (fun r2 M1 => Q r2 M1)) : WP x L 0 [some (.ref 139)] [] M := by
  refine wp_aload_n (pc := 0) X dX8_fault_0 rfl rfl ?_
  refine wp_invV (pc := 1) X sv_X8_64 A_139 (by decide) rfl ⟨by decide, by decide⟩ (As := []) (st := []) rfl rfl (Nat.le_of_ble_eq_true rfl) dX8_fault_1 ?_
  refine CM.mono h (fun r2 M1 h => ?_)
  exact wp_iret (pc := 4) X T dX8_fault_4 h
theorem r_X8_lay_0 {x : CT} {L : List Nat} {Q : Int32 → Mem → Prop} {M : Mem}  (X : BS x L cX8_lay 1 RX8 (m_X8_lay).2.2.2.2) (T : RT x L (some .int) Q) (A_139 : AC L 139 8 0) (A_142 : AC L 142 9 20) (A_140 : AC L 140 9 918)
    (h : CM m_X8_faultIs L [.ref 139] M (fun r2 M1 => (¬ r2 = (-4) → Q (-2) M1) ∧ (r2 = (-4) → (¬ (M1 142 0) = 0 → CM m_X8_begins L [.ref 139, .int (M1 139 7), .int (M1 139 8)] M1 (fun _ M3 => Q (M3 140 42) M3)) ∧ ((M1 142 0) = 0 → Q (-2) M1)))) : WP x L 0 [some (.ref 139)] [] M := by
  refine wp_aload_n (pc := 0) X dX8_lay_0 rfl rfl ?_
  refine wp_invV (pc := 1) X sv_X8_64 A_139 (by decide) rfl ⟨by decide, by decide⟩ (As := []) (st := []) rfl rfl (Nat.le_of_ble_eq_true rfl) dX8_lay_1 ?_
  refine CM.mono h (fun r2 M1 h => ?_)
  refine wp_bipush (pc := 4) (v := (-4)) X dX8_lay_4 (by decide) ?_
  refine wp_icmp_ne (pc := 6) (tgt := 18) X dX8_lay_6 (by decide) (fun hc => ?_) (fun hc => ?_)
  · replace h := h.1 hc
    refine wp_bipush (pc := 18) (v := (-2)) X dX8_lay_18 (by decide) ?_
    exact wp_iret (pc := 20) X T dX8_lay_20 h
  · replace h := h.2 hc
    refine wp_aload_n (pc := 9) X dX8_lay_9 rfl rfl ?_
    refine wp_get (pc := 10) X fl_X8_16 A_139 (by decide) (fg_8_4 A_139) dX8_lay_10 ?_
    refine wp_iconst (pc := 13) (v := nI 0) X dX8_lay_13 (by decide) ?_
    refine wn_iald (pc := 14) X A_142 (by decide) (by decide) dX8_lay_14 ?_
    refine wp_if_ne (pc := 15) (tgt := 21) X dX8_lay_15 (by decide) (fun hc => ?_) (fun hc => ?_)
    · replace h := h.1 hc
      refine wp_aload_n (pc := 21) X dX8_lay_21 rfl rfl ?_
      refine wp_aload_n (pc := 22) X dX8_lay_22 rfl rfl ?_
      refine wp_get (pc := 23) X fl_X8_51 A_139 (by decide) (fg_8_7 A_139) dX8_lay_23 ?_
      refine wp_aload_n (pc := 26) X dX8_lay_26 rfl rfl ?_
      refine wp_get (pc := 27) X fl_X8_54 A_139 (by decide) (fg_8_8 A_139) dX8_lay_27 ?_
      refine wp_invVv (pc := 30) X sv_X8_23 A_139 (by decide) rfl ⟨by decide, by decide⟩ (As := [.int (M1 139 7), .int (M1 139 8)]) (st := []) rfl rfl (Nat.le_of_ble_eq_true rfl) dX8_lay_30 ?_
      refine CM.mono h (fun _ M3 h => ?_)
      refine wp_aload_n (pc := 33) X dX8_lay_33 rfl rfl ?_
      refine wp_get (pc := 34) X fl_X8_7 A_139 (by decide) (fg_8_0 A_139) dX8_lay_34 ?_
      refine wp_bipush (pc := 37) (v := nI 42) X dX8_lay_37 (by decide) ?_
      refine wn_iald (pc := 39) X A_140 (by decide) (by decide) dX8_lay_39 ?_
      exact wp_iret (pc := 40) X T dX8_lay_40 h
    · replace h := h.2 hc
      refine wp_bipush (pc := 18) (v := (-2)) X dX8_lay_18 (by decide) ?_
      exact wp_iret (pc := 20) X T dX8_lay_20 h
theorem r_X8_sendsNext_0 {x : CT} {L : List Nat} {Q : Int32 → Mem → Prop} {M : Mem}  {r : Nat} (X : BS x L cX8_sendsNext 5 RX8 (m_X8_sendsNext).2.2.2.2) (T : RT x L (some .int) Q) 
    (h : WP x L 7 [some (.ref 139), some (.int (nI r)), some (.int (nI 0)), some (.int (nI 0)), some (.int (nI 0))] [] M) : WP x L 0 [some (.ref 139), some (.int (nI r)), none, none, none] [] M := by
  refine wp_iconst (pc := 0) (v := nI 0) X dX8_sendsNext_0 (by decide) ?_
  refine wp_istore_n (pc := 1) (lo' := [some (.ref 139), some (.int (nI r)), some (.int (nI 0)), none, none]) X dX8_sendsNext_1 rfl (Nat.le_of_ble_eq_true rfl) rfl rfl ?_
  refine wp_iconst (pc := 2) (v := nI 0) X dX8_sendsNext_2 (by decide) ?_
  refine wp_istore_n (pc := 3) (lo' := [some (.ref 139), some (.int (nI r)), some (.int (nI 0)), some (.int (nI 0)), none]) X dX8_sendsNext_3 rfl (Nat.le_of_ble_eq_true rfl) rfl rfl ?_
  refine wp_iconst (pc := 4) (v := nI 0) X dX8_sendsNext_4 (by decide) ?_
  refine wp_istore (pc := 5) (lo' := [some (.ref 139), some (.int (nI r)), some (.int (nI 0)), some (.int (nI 0)), some (.int (nI 0))]) X dX8_sendsNext_5 (Nat.le_of_ble_eq_true rfl) rfl rfl ?_
  exact h
theorem r_X8_sendsNext_7 {x : CT} {L : List Nat} {Q : Int32 → Mem → Prop} {M : Mem}  {r b f : Nat} {a2 : Int32} (X : BS x L cX8_sendsNext 5 RX8 (m_X8_sendsNext).2.2.2.2) (T : RT x L (some .int) Q) (A_139 : AC L 139 8 0) (A_140 : AC L 140 9 918)
    (h : (r + 42) < 918 ∧ ∃ v2 : Nat, M 140 (r + 42) = nI v2 ∧ f < 2 ^ 31 ∧ v2 < 2 ^ 31 ∧ (v2 ≤ f → (r + 30 + b) < 918 ∧ (r + 30 + b) < 918 ∧ Q (nI b) (MU M 140 (r + 30 + b) ((M 140 (r + 30 + b)) - a2))) ∧ (f < v2 → (r + 30 + f) < 918 ∧ (r + 12 + f) < 918 ∧ (r + 30 + f) < 918 ∧ (r + 12 + f) < 918 ∧ (r + 30 + f) < 918 ∧ (r + 30 + b) < 918 ∧ (((MU M 140 (r + 30 + f) ((M 140 (r + 30 + f)) + (M 140 (r + 12 + f)))) 140 (r + 30 + f)) ≤ ((MU M 140 (r + 30 + f) ((M 140 (r + 30 + f)) + (M 140 (r + 12 + f)))) 140 (r + 30 + b)) → WP x L 7 [some (.ref 139), some (.int (nI r)), some (.int (a2 + ((MU M 140 (r + 30 + f) ((M 140 (r + 30 + f)) + (M 140 (r + 12 + f)))) 140 (r + 12 + f)))), some (.int (nI b)), some (.int (nI (f + 1)))] [] (MU M 140 (r + 30 + f) ((M 140 (r + 30 + f)) + (M 140 (r + 12 + f))))) ∧ (¬ ((MU M 140 (r + 30 + f) ((M 140 (r + 30 + f)) + (M 140 (r + 12 + f)))) 140 (r + 30 + f)) ≤ ((MU M 140 (r + 30 + f) ((M 140 (r + 30 + f)) + (M 140 (r + 12 + f)))) 140 (r + 30 + b)) → WP x L 7 [some (.ref 139), some (.int (nI r)), some (.int (a2 + ((MU M 140 (r + 30 + f) ((M 140 (r + 30 + f)) + (M 140 (r + 12 + f)))) 140 (r + 12 + f)))), some (.int (nI f)), some (.int (nI (f + 1)))] [] (MU M 140 (r + 30 + f) ((M 140 (r + 30 + f)) + (M 140 (r + 12 + f))))))) : WP x L 7 [some (.ref 139), some (.int (nI r)), some (.int a2), some (.int (nI b)), some (.int (nI f))] [] M := by
  refine wp_iload (pc := 7) X dX8_sendsNext_7 rfl ?_
  refine wp_aload_n (pc := 9) X dX8_sendsNext_9 rfl rfl ?_
  refine wp_get (pc := 10) X fl_X8_7 A_139 (by decide) (fg_8_0 A_139) dX8_sendsNext_10 ?_
  refine wp_iload_n (pc := 13) X dX8_sendsNext_13 rfl rfl ?_
  refine wp_bipush (pc := 14) (v := nI 42) X dX8_sendsNext_14 (by decide) ?_
  refine wn_iadd (pc := 16) X dX8_sendsNext_16 ?_
  obtain ⟨hj1, v2, he3, h⟩ := h
  refine we_iald (pc := 17) X A_140 hj1 (by decide) he3 dX8_sendsNext_17 ?_
  obtain ⟨hb12, hb13, h⟩ := h
  refine wn_icmp_ge (pc := 18) (tgt := 102) X dX8_sendsNext_18 (by decide) hb12 hb13 (fun hc => ?_) (fun hc => ?_)
  · replace h := h.1 hc
    refine wp_aload_n (pc := 102) X dX8_sendsNext_102 rfl rfl ?_
    refine wp_get (pc := 103) X fl_X8_7 A_139 (by decide) (fg_8_0 A_139) dX8_sendsNext_103 ?_
    refine wp_iload_n (pc := 106) X dX8_sendsNext_106 rfl rfl ?_
    refine wp_bipush (pc := 107) (v := nI 30) X dX8_sendsNext_107 (by decide) ?_
    refine wn_iadd (pc := 109) X dX8_sendsNext_109 ?_
    refine wp_iload_n (pc := 110) X dX8_sendsNext_110 rfl rfl ?_
    refine wn_iadd (pc := 111) X dX8_sendsNext_111 ?_
    refine wp_dup2 (pc := 112) X dX8_sendsNext_112 rfl rfl ?_
    obtain ⟨hj4, h⟩ := h
    refine wn_iald (pc := 113) X A_140 hj4 (by decide) dX8_sendsNext_113 ?_
    refine wp_iload_n (pc := 114) X dX8_sendsNext_114 rfl rfl ?_
    refine wp_isub (pc := 115) X dX8_sendsNext_115 ?_
    obtain ⟨hj5, h⟩ := h
    refine wn_iast (pc := 116) X A_140 hj5 (by decide) dX8_sendsNext_116 ?_
    refine wp_iload_n (pc := 117) X dX8_sendsNext_117 rfl rfl ?_
    exact wp_iret (pc := 118) X T dX8_sendsNext_118 h
  · replace h := h.2 hc
    refine wp_aload_n (pc := 21) X dX8_sendsNext_21 rfl rfl ?_
    refine wp_get (pc := 22) X fl_X8_7 A_139 (by decide) (fg_8_0 A_139) dX8_sendsNext_22 ?_
    refine wp_iload_n (pc := 25) X dX8_sendsNext_25 rfl rfl ?_
    refine wp_bipush (pc := 26) (v := nI 30) X dX8_sendsNext_26 (by decide) ?_
    refine wn_iadd (pc := 28) X dX8_sendsNext_28 ?_
    refine wp_iload (pc := 29) X dX8_sendsNext_29 rfl ?_
    refine wn_iadd (pc := 31) X dX8_sendsNext_31 ?_
    refine wp_dup2 (pc := 32) X dX8_sendsNext_32 rfl rfl ?_
    obtain ⟨hj6, h⟩ := h
    refine wn_iald (pc := 33) X A_140 hj6 (by decide) dX8_sendsNext_33 ?_
    refine wp_aload_n (pc := 34) X dX8_sendsNext_34 rfl rfl ?_
    refine wp_get (pc := 35) X fl_X8_7 A_139 (by decide) (fg_8_0 A_139) dX8_sendsNext_35 ?_
    refine wp_iload_n (pc := 38) X dX8_sendsNext_38 rfl rfl ?_
    refine wp_bipush (pc := 39) (v := nI 12) X dX8_sendsNext_39 (by decide) ?_
    refine wn_iadd (pc := 41) X dX8_sendsNext_41 ?_
    refine wp_iload (pc := 42) X dX8_sendsNext_42 rfl ?_
    refine wn_iadd (pc := 44) X dX8_sendsNext_44 ?_
    obtain ⟨hj7, h⟩ := h
    refine wn_iald (pc := 45) X A_140 hj7 (by decide) dX8_sendsNext_45 ?_
    refine wp_iadd (pc := 46) X dX8_sendsNext_46 ?_
    obtain ⟨hj8, h⟩ := h
    refine wn_iast (pc := 47) X A_140 hj8 (by decide) dX8_sendsNext_47 ?_
    refine wp_iload_n (pc := 48) X dX8_sendsNext_48 rfl rfl ?_
    refine wp_aload_n (pc := 49) X dX8_sendsNext_49 rfl rfl ?_
    refine wp_get (pc := 50) X fl_X8_7 A_139 (by decide) (fg_8_0 A_139) dX8_sendsNext_50 ?_
    refine wp_iload_n (pc := 53) X dX8_sendsNext_53 rfl rfl ?_
    refine wp_bipush (pc := 54) (v := nI 12) X dX8_sendsNext_54 (by decide) ?_
    refine wn_iadd (pc := 56) X dX8_sendsNext_56 ?_
    refine wp_iload (pc := 57) X dX8_sendsNext_57 rfl ?_
    refine wn_iadd (pc := 59) X dX8_sendsNext_59 ?_
    obtain ⟨hj9, h⟩ := h
    refine wn_iald (pc := 60) X A_140 hj9 (by decide) dX8_sendsNext_60 ?_
    refine wp_iadd (pc := 61) X dX8_sendsNext_61 ?_
    refine wp_istore_n (pc := 62) (lo' := [some (.ref 139), some (.int (nI r)), some (.int (a2 + ((MU M 140 (r + 30 + f) ((M 140 (r + 30 + f)) + (M 140 (r + 12 + f)))) 140 (r + 12 + f)))), some (.int (nI b)), some (.int (nI f))]) X dX8_sendsNext_62 rfl (Nat.le_of_ble_eq_true rfl) rfl rfl ?_
    refine wp_aload_n (pc := 63) X dX8_sendsNext_63 rfl rfl ?_
    refine wp_get (pc := 64) X fl_X8_7 A_139 (by decide) (fg_8_0 A_139) dX8_sendsNext_64 ?_
    refine wp_iload_n (pc := 67) X dX8_sendsNext_67 rfl rfl ?_
    refine wp_bipush (pc := 68) (v := nI 30) X dX8_sendsNext_68 (by decide) ?_
    refine wn_iadd (pc := 70) X dX8_sendsNext_70 ?_
    refine wp_iload (pc := 71) X dX8_sendsNext_71 rfl ?_
    refine wn_iadd (pc := 73) X dX8_sendsNext_73 ?_
    obtain ⟨hj10, h⟩ := h
    refine wn_iald (pc := 74) X A_140 hj10 (by decide) dX8_sendsNext_74 ?_
    refine wp_aload_n (pc := 75) X dX8_sendsNext_75 rfl rfl ?_
    refine wp_get (pc := 76) X fl_X8_7 A_139 (by decide) (fg_8_0 A_139) dX8_sendsNext_76 ?_
    refine wp_iload_n (pc := 79) X dX8_sendsNext_79 rfl rfl ?_
    refine wp_bipush (pc := 80) (v := nI 30) X dX8_sendsNext_80 (by decide) ?_
    refine wn_iadd (pc := 82) X dX8_sendsNext_82 ?_
    refine wp_iload_n (pc := 83) X dX8_sendsNext_83 rfl rfl ?_
    refine wn_iadd (pc := 84) X dX8_sendsNext_84 ?_
    obtain ⟨hj11, h⟩ := h
    refine wn_iald (pc := 85) X A_140 hj11 (by decide) dX8_sendsNext_85 ?_
    refine wp_icmp_le (pc := 86) (tgt := 94) X dX8_sendsNext_86 (by decide) (fun hc => ?_) (fun hc => ?_)
    · replace h := h.1 hc
      refine wp_iload_n (pc := 94) X dX8_sendsNext_94 rfl rfl ?_
      refine wp_istore_n (pc := 95) (lo' := [some (.ref 139), some (.int (nI r)), some (.int (a2 + ((MU M 140 (r + 30 + f) ((M 140 (r + 30 + f)) + (M 140 (r + 12 + f)))) 140 (r + 12 + f)))), some (.int (nI b)), some (.int (nI f))]) X dX8_sendsNext_95 rfl (Nat.le_of_ble_eq_true rfl) rfl rfl ?_
      refine wn_iinc (pc := 96) (d := 1) (lo' := [some (.ref 139), some (.int (nI r)), some (.int (a2 + ((MU M 140 (r + 30 + f) ((M 140 (r + 30 + f)) + (M 140 (r + 12 + f)))) 140 (r + 12 + f)))), some (.int (nI b)), some (.int (nI (f + 1)))]) X dX8_sendsNext_96 rfl (by decide) rfl rfl ?_
      refine wp_goto (pc := 99) (tgt := 7) X dX8_sendsNext_99 (by decide) ?_
      exact h
    · replace h := h.2 hc
      refine wp_iload (pc := 89) X dX8_sendsNext_89 rfl ?_
      refine wp_goto (pc := 91) (tgt := 95) X dX8_sendsNext_91 (by decide) ?_
      refine wp_istore_n (pc := 95) (lo' := [some (.ref 139), some (.int (nI r)), some (.int (a2 + ((MU M 140 (r + 30 + f) ((M 140 (r + 30 + f)) + (M 140 (r + 12 + f)))) 140 (r + 12 + f)))), some (.int (nI f)), some (.int (nI f))]) X dX8_sendsNext_95 rfl (Nat.le_of_ble_eq_true rfl) rfl rfl ?_
      refine wn_iinc (pc := 96) (d := 1) (lo' := [some (.ref 139), some (.int (nI r)), some (.int (a2 + ((MU M 140 (r + 30 + f) ((M 140 (r + 30 + f)) + (M 140 (r + 12 + f)))) 140 (r + 12 + f)))), some (.int (nI f)), some (.int (nI (f + 1)))]) X dX8_sendsNext_96 rfl (by decide) rfl rfl ?_
      refine wp_goto (pc := 99) (tgt := 7) X dX8_sendsNext_99 (by decide) ?_
      exact h
theorem r_X8_logs_0 {x : CT} {L : List Nat} {Q : Int32 → Mem → Prop} {M : Mem}  {r : Nat} {a2 a3 a4 : Int32} (X : BS x L cX8_logs 6 RX8 (m_X8_logs).2.2.2.2) (T : RT x L none Q) 
    (h : WP x L 4 [some (.ref 139), some (.int (nI r)), some (.int a2), some (.int a3), some (.int a4), some (.int (nI 39))] [] M) : WP x L 0 [some (.ref 139), some (.int (nI r)), some (.int a2), some (.int a3), some (.int a4), none] [] M := by
  refine wp_bipush (pc := 0) (v := nI 39) X dX8_logs_0 (by decide) ?_
  refine wp_istore (pc := 2) (lo' := [some (.ref 139), some (.int (nI r)), some (.int a2), some (.int a3), some (.int a4), some (.int (nI 39))]) X dX8_logs_2 (Nat.le_of_ble_eq_true rfl) rfl rfl ?_
  exact h
theorem r_X8_logs_4 {x : CT} {L : List Nat} {Q : Int32 → Mem → Prop} {M : Mem}  {r k : Nat} {a2 a3 a4 : Int32} (X : BS x L cX8_logs 6 RX8 (m_X8_logs).2.2.2.2) (T : RT x L none Q) (A_139 : AC L 139 8 0) (A_140 : AC L 140 9 918)
    (h : k < 2 ^ 31 ∧ (k ≤ 3 → (r + 49) < 918 ∧ (r + 49 + 1) < 918 ∧ (r + 49 + 2) < 918 ∧ (r + 45) < 918 ∧ (r + 49 + 3) < 918 ∧ Q 0 (MU (MU (MU (MU M 140 (r + 49) a2) 140 (r + 49 + 1) a3) 140 (r + 49 + 2) a4) 140 (r + 49 + 3) ((MU (MU (MU M 140 (r + 49) a2) 140 (r + 49 + 1) a3) 140 (r + 49 + 2) a4) 140 (r + 45)))) ∧ (3 < k → 4 ≤ (r + 49 + k) ∧ ((r + 49 + k) - 4) < 918 ∧ (r + 49 + k) < 918 ∧ 1 ≤ k ∧ WP x L 4 [some (.ref 139), some (.int (nI r)), some (.int a2), some (.int a3), some (.int a4), some (.int (nI (k - 1)))] [] (MU M 140 (r + 49 + k) (M 140 ((r + 49 + k) - 4))))) : WP x L 4 [some (.ref 139), some (.int (nI r)), some (.int a2), some (.int a3), some (.int a4), some (.int (nI k))] [] M := by
  refine wp_iload (pc := 4) X dX8_logs_4 rfl ?_
  refine wp_iconst (pc := 6) (v := nI 3) X dX8_logs_6 (by decide) ?_
  obtain ⟨hb10, h⟩ := h
  refine wn_icmp_le (pc := 7) (tgt := 42) X dX8_logs_7 (by decide) hb10 (by decide) (fun hc => ?_) (fun hc => ?_)
  · replace h := h.1 hc
    refine wp_aload_n (pc := 42) X dX8_logs_42 rfl rfl ?_
    refine wp_get (pc := 43) X fl_X8_7 A_139 (by decide) (fg_8_0 A_139) dX8_logs_43 ?_
    refine wp_iload_n (pc := 46) X dX8_logs_46 rfl rfl ?_
    refine wp_bipush (pc := 47) (v := nI 49) X dX8_logs_47 (by decide) ?_
    refine wn_iadd (pc := 49) X dX8_logs_49 ?_
    refine wp_iload_n (pc := 50) X dX8_logs_50 rfl rfl ?_
    obtain ⟨hj1, h⟩ := h
    refine wn_iast (pc := 51) X A_140 hj1 (by decide) dX8_logs_51 ?_
    refine wp_aload_n (pc := 52) X dX8_logs_52 rfl rfl ?_
    refine wp_get (pc := 53) X fl_X8_7 A_139 (by decide) (fg_8_0 A_139) dX8_logs_53 ?_
    refine wp_iload_n (pc := 56) X dX8_logs_56 rfl rfl ?_
    refine wp_bipush (pc := 57) (v := nI 49) X dX8_logs_57 (by decide) ?_
    refine wn_iadd (pc := 59) X dX8_logs_59 ?_
    refine wp_iconst (pc := 60) (v := nI 1) X dX8_logs_60 (by decide) ?_
    refine wn_iadd (pc := 61) X dX8_logs_61 ?_
    refine wp_iload_n (pc := 62) X dX8_logs_62 rfl rfl ?_
    obtain ⟨hj2, h⟩ := h
    refine wn_iast (pc := 63) X A_140 hj2 (by decide) dX8_logs_63 ?_
    refine wp_aload_n (pc := 64) X dX8_logs_64 rfl rfl ?_
    refine wp_get (pc := 65) X fl_X8_7 A_139 (by decide) (fg_8_0 A_139) dX8_logs_65 ?_
    refine wp_iload_n (pc := 68) X dX8_logs_68 rfl rfl ?_
    refine wp_bipush (pc := 69) (v := nI 49) X dX8_logs_69 (by decide) ?_
    refine wn_iadd (pc := 71) X dX8_logs_71 ?_
    refine wp_iconst (pc := 72) (v := nI 2) X dX8_logs_72 (by decide) ?_
    refine wn_iadd (pc := 73) X dX8_logs_73 ?_
    refine wp_iload (pc := 74) X dX8_logs_74 rfl ?_
    obtain ⟨hj3, h⟩ := h
    refine wn_iast (pc := 76) X A_140 hj3 (by decide) dX8_logs_76 ?_
    refine wp_aload_n (pc := 77) X dX8_logs_77 rfl rfl ?_
    refine wp_get (pc := 78) X fl_X8_7 A_139 (by decide) (fg_8_0 A_139) dX8_logs_78 ?_
    refine wp_iload_n (pc := 81) X dX8_logs_81 rfl rfl ?_
    refine wp_bipush (pc := 82) (v := nI 49) X dX8_logs_82 (by decide) ?_
    refine wn_iadd (pc := 84) X dX8_logs_84 ?_
    refine wp_iconst (pc := 85) (v := nI 3) X dX8_logs_85 (by decide) ?_
    refine wn_iadd (pc := 86) X dX8_logs_86 ?_
    refine wp_aload_n (pc := 87) X dX8_logs_87 rfl rfl ?_
    refine wp_get (pc := 88) X fl_X8_7 A_139 (by decide) (fg_8_0 A_139) dX8_logs_88 ?_
    refine wp_iload_n (pc := 91) X dX8_logs_91 rfl rfl ?_
    refine wp_bipush (pc := 92) (v := nI 45) X dX8_logs_92 (by decide) ?_
    refine wn_iadd (pc := 94) X dX8_logs_94 ?_
    obtain ⟨hj4, h⟩ := h
    refine wn_iald (pc := 95) X A_140 hj4 (by decide) dX8_logs_95 ?_
    obtain ⟨hj5, h⟩ := h
    refine wn_iast (pc := 96) X A_140 hj5 (by decide) dX8_logs_96 ?_
    exact wp_ret (pc := 97) X T dX8_logs_97 h
  · replace h := h.2 hc
    refine wp_aload_n (pc := 10) X dX8_logs_10 rfl rfl ?_
    refine wp_get (pc := 11) X fl_X8_7 A_139 (by decide) (fg_8_0 A_139) dX8_logs_11 ?_
    refine wp_iload_n (pc := 14) X dX8_logs_14 rfl rfl ?_
    refine wp_bipush (pc := 15) (v := nI 49) X dX8_logs_15 (by decide) ?_
    refine wn_iadd (pc := 17) X dX8_logs_17 ?_
    refine wp_iload (pc := 18) X dX8_logs_18 rfl ?_
    refine wn_iadd (pc := 20) X dX8_logs_20 ?_
    refine wp_aload_n (pc := 21) X dX8_logs_21 rfl rfl ?_
    refine wp_get (pc := 22) X fl_X8_7 A_139 (by decide) (fg_8_0 A_139) dX8_logs_22 ?_
    refine wp_iload_n (pc := 25) X dX8_logs_25 rfl rfl ?_
    refine wp_bipush (pc := 26) (v := nI 49) X dX8_logs_26 (by decide) ?_
    refine wn_iadd (pc := 28) X dX8_logs_28 ?_
    refine wp_iload (pc := 29) X dX8_logs_29 rfl ?_
    refine wn_iadd (pc := 31) X dX8_logs_31 ?_
    refine wp_iconst (pc := 32) (v := nI 4) X dX8_logs_32 (by decide) ?_
    obtain ⟨hb6, h⟩ := h
    refine wn_isub (pc := 33) X dX8_logs_33 hb6 ?_
    obtain ⟨hj7, h⟩ := h
    refine wn_iald (pc := 34) X A_140 hj7 (by decide) dX8_logs_34 ?_
    obtain ⟨hj8, h⟩ := h
    refine wn_iast (pc := 35) X A_140 hj8 (by decide) dX8_logs_35 ?_
    obtain ⟨hb9, h⟩ := h
    refine wn_idec (pc := 36) (lo' := [some (.ref 139), some (.int (nI r)), some (.int a2), some (.int a3), some (.int a4), some (.int (nI (k - 1)))]) X dX8_logs_36 rfl hb9 rfl rfl ?_
    refine wp_goto (pc := 39) (tgt := 4) X dX8_logs_39 (by decide) ?_
    exact h
theorem r_X8_isLost_0 {x : CT} {L : List Nat} {Q : Int32 → Mem → Prop} {M : Mem}  {r l : Nat} (X : BS x L cX8_isLost 5 RX8 (m_X8_isLost).2.2.2.2) (T : RT x L (some .boolean) Q) (A_139 : AC L 139 8 0) (A_140 : AC L 140 9 918)
    (h : (r + 45) < 918 ∧ (r + 89 + (16 * l) + 0) < 918 ∧ (0 ≤ (lg_cmp (((((((7919 : Int64) * (Int32.toInt64 (nI l))) + ((3571 : Int64) * (Int32.toInt64 (M 140 (r + 45))))) + (1 : Int64)) * ((((7919 : Int64) * (Int32.toInt64 (nI l))) + ((3571 : Int64) * (Int32.toInt64 (M 140 (r + 45))))) + (1 : Int64))) - (((((7919 : Int64) * (Int32.toInt64 (nI l))) + ((3571 : Int64) * (Int32.toInt64 (M 140 (r + 45))))) + (1 : Int64)) * ((((7919 : Int64) * (Int32.toInt64 (nI l))) + ((3571 : Int64) * (Int32.toInt64 (M 140 (r + 45))))) + (1 : Int64))) / (65521 : Int64) * (65521 : Int64)) - ((((((7919 : Int64) * (Int32.toInt64 (nI l))) + ((3571 : Int64) * (Int32.toInt64 (M 140 (r + 45))))) + (1 : Int64)) * ((((7919 : Int64) * (Int32.toInt64 (nI l))) + ((3571 : Int64) * (Int32.toInt64 (M 140 (r + 45))))) + (1 : Int64))) - (((((7919 : Int64) * (Int32.toInt64 (nI l))) + ((3571 : Int64) * (Int32.toInt64 (M 140 (r + 45))))) + (1 : Int64)) * ((((7919 : Int64) * (Int32.toInt64 (nI l))) + ((3571 : Int64) * (Int32.toInt64 (M 140 (r + 45))))) + (1 : Int64))) / (65521 : Int64) * (65521 : Int64)) / (100 : Int64) * (100 : Int64)) (Int32.toInt64 (M 140 (r + 89 + (16 * l) + 0)))) → Q (nI 0) M) ∧ (¬ 0 ≤ (lg_cmp (((((((7919 : Int64) * (Int32.toInt64 (nI l))) + ((3571 : Int64) * (Int32.toInt64 (M 140 (r + 45))))) + (1 : Int64)) * ((((7919 : Int64) * (Int32.toInt64 (nI l))) + ((3571 : Int64) * (Int32.toInt64 (M 140 (r + 45))))) + (1 : Int64))) - (((((7919 : Int64) * (Int32.toInt64 (nI l))) + ((3571 : Int64) * (Int32.toInt64 (M 140 (r + 45))))) + (1 : Int64)) * ((((7919 : Int64) * (Int32.toInt64 (nI l))) + ((3571 : Int64) * (Int32.toInt64 (M 140 (r + 45))))) + (1 : Int64))) / (65521 : Int64) * (65521 : Int64)) - ((((((7919 : Int64) * (Int32.toInt64 (nI l))) + ((3571 : Int64) * (Int32.toInt64 (M 140 (r + 45))))) + (1 : Int64)) * ((((7919 : Int64) * (Int32.toInt64 (nI l))) + ((3571 : Int64) * (Int32.toInt64 (M 140 (r + 45))))) + (1 : Int64))) - (((((7919 : Int64) * (Int32.toInt64 (nI l))) + ((3571 : Int64) * (Int32.toInt64 (M 140 (r + 45))))) + (1 : Int64)) * ((((7919 : Int64) * (Int32.toInt64 (nI l))) + ((3571 : Int64) * (Int32.toInt64 (M 140 (r + 45))))) + (1 : Int64))) / (65521 : Int64) * (65521 : Int64)) / (100 : Int64) * (100 : Int64)) (Int32.toInt64 (M 140 (r + 89 + (16 * l) + 0)))) → Q (nI 1) M)) : WP x L 0 [some (.ref 139), some (.int (nI r)), some (.int (nI l)), none, none] [] M := by
  refine wp_ldc2 (pc := 0) (v := 7919) X dX8_isLost_0 k_713 ?_
  refine wp_iload_n (pc := 3) X dX8_isLost_3 rfl rfl ?_
  refine wp_i2l (pc := 4) X dX8_isLost_4 ?_
  refine wp_lmul (pc := 5) X dX8_isLost_5 ?_
  refine wp_ldc2 (pc := 6) (v := 3571) X dX8_isLost_6 k_714 ?_
  refine wp_aload_n (pc := 9) X dX8_isLost_9 rfl rfl ?_
  refine wp_get (pc := 10) X fl_X8_7 A_139 (by decide) (fg_8_0 A_139) dX8_isLost_10 ?_
  refine wp_iload_n (pc := 13) X dX8_isLost_13 rfl rfl ?_
  refine wp_bipush (pc := 14) (v := nI 45) X dX8_isLost_14 (by decide) ?_
  refine wn_iadd (pc := 16) X dX8_isLost_16 ?_
  obtain ⟨hj1, h⟩ := h
  refine wn_iald (pc := 17) X A_140 hj1 (by decide) dX8_isLost_17 ?_
  refine wp_i2l (pc := 18) X dX8_isLost_18 ?_
  refine wp_lmul (pc := 19) X dX8_isLost_19 ?_
  refine wp_ladd (pc := 20) X dX8_isLost_20 ?_
  refine wp_lconst (pc := 21) (v := 1) X dX8_isLost_21 (by decide) ?_
  refine wp_ladd (pc := 22) X dX8_isLost_22 ?_
  refine wp_lstore_n (pc := 23) (lo' := [some (.ref 139), some (.int (nI r)), some (.int (nI l)), some (.long ((((7919 : Int64) * (Int32.toInt64 (nI l))) + ((3571 : Int64) * (Int32.toInt64 (M 140 (r + 45))))) + (1 : Int64))), none]) X dX8_isLost_23 rfl (Nat.le_of_ble_eq_true rfl) rfl rfl ?_
  refine wp_lload_n (pc := 24) X dX8_isLost_24 rfl rfl ?_
  refine wp_lload_n (pc := 25) X dX8_isLost_25 rfl rfl ?_
  refine wp_lmul (pc := 26) X dX8_isLost_26 ?_
  refine wp_ldc2 (pc := 27) (v := 65521) X dX8_isLost_27 k_715 ?_
  refine wp_lrem (pc := 30) X dX8_isLost_30 (by decide) ?_
  refine wp_ldc2 (pc := 31) (v := 100) X dX8_isLost_31 k_716 ?_
  refine wp_lrem (pc := 34) X dX8_isLost_34 (by decide) ?_
  refine wp_aload_n (pc := 35) X dX8_isLost_35 rfl rfl ?_
  refine wp_get (pc := 36) X fl_X8_7 A_139 (by decide) (fg_8_0 A_139) dX8_isLost_36 ?_
  refine wp_iload_n (pc := 39) X dX8_isLost_39 rfl rfl ?_
  refine wp_bipush (pc := 40) (v := nI 89) X dX8_isLost_40 (by decide) ?_
  refine wn_iadd (pc := 42) X dX8_isLost_42 ?_
  refine wp_bipush (pc := 43) (v := nI 16) X dX8_isLost_43 (by decide) ?_
  refine wp_iload_n (pc := 45) X dX8_isLost_45 rfl rfl ?_
  refine wn_imul (pc := 46) X dX8_isLost_46 ?_
  refine wn_iadd (pc := 47) X dX8_isLost_47 ?_
  refine wp_iconst (pc := 48) (v := nI 0) X dX8_isLost_48 (by decide) ?_
  refine wn_iadd (pc := 49) X dX8_isLost_49 ?_
  obtain ⟨hj2, h⟩ := h
  refine wn_iald (pc := 50) X A_140 hj2 (by decide) dX8_isLost_50 ?_
  refine wp_i2l (pc := 51) X dX8_isLost_51 ?_
  refine wp_lcmp (pc := 52) X dX8_isLost_52 ?_
  refine wp_if_ge (pc := 53) (tgt := 60) X dX8_isLost_53 (by decide) (fun hc => ?_) (fun hc => ?_)
  · replace h := h.1 hc
    refine wp_iconst (pc := 60) (v := nI 0) X dX8_isLost_60 (by decide) ?_
    exact wp_zret (pc := 61) X T (by decide) dX8_isLost_61 h
  · replace h := h.2 hc
    refine wp_iconst (pc := 56) (v := nI 1) X dX8_isLost_56 (by decide) ?_
    refine wp_goto (pc := 57) (tgt := 61) X dX8_isLost_57 (by decide) ?_
    exact wp_zret (pc := 61) X T (by decide) dX8_isLost_61 h
theorem r_X8_hearsTable_0 {x : CT} {L : List Nat} {Q : Int32 → Mem → Prop} {M : Mem}  {r p : Nat} (X : BS x L cX8_hearsTable 5 RX8 (m_X8_hearsTable).2.2.2.2) (T : RT x L none Q) (A_139 : AC L 139 8 0) (A_140 : AC L 140 9 918)
    (h : (r + 45) < 918 ∧ (r + 44) < 918 ∧ (p + 2) < 918 ∧ WP x L 31 [some (.ref 139), some (.int (nI r)), some (.int (nI p)), some (.int (nI 0)), none] [] (MU M 140 (p + 2) (((M 140 (r + 45)) + (M 140 (r + 44))) - (nI 1)))) : WP x L 0 [some (.ref 139), some (.int (nI r)), some (.int (nI p)), none, none] [] M := by
  refine wp_aload_n (pc := 0) X dX8_hearsTable_0 rfl rfl ?_
  refine wp_get (pc := 1) X fl_X8_7 A_139 (by decide) (fg_8_0 A_139) dX8_hearsTable_1 ?_
  refine wp_iload_n (pc := 4) X dX8_hearsTable_4 rfl rfl ?_
  refine wp_iconst (pc := 5) (v := nI 2) X dX8_hearsTable_5 (by decide) ?_
  refine wn_iadd (pc := 6) X dX8_hearsTable_6 ?_
  refine wp_aload_n (pc := 7) X dX8_hearsTable_7 rfl rfl ?_
  refine wp_get (pc := 8) X fl_X8_7 A_139 (by decide) (fg_8_0 A_139) dX8_hearsTable_8 ?_
  refine wp_iload_n (pc := 11) X dX8_hearsTable_11 rfl rfl ?_
  refine wp_bipush (pc := 12) (v := nI 45) X dX8_hearsTable_12 (by decide) ?_
  refine wn_iadd (pc := 14) X dX8_hearsTable_14 ?_
  obtain ⟨hj1, h⟩ := h
  refine wn_iald (pc := 15) X A_140 hj1 (by decide) dX8_hearsTable_15 ?_
  refine wp_aload_n (pc := 16) X dX8_hearsTable_16 rfl rfl ?_
  refine wp_get (pc := 17) X fl_X8_7 A_139 (by decide) (fg_8_0 A_139) dX8_hearsTable_17 ?_
  refine wp_iload_n (pc := 20) X dX8_hearsTable_20 rfl rfl ?_
  refine wp_bipush (pc := 21) (v := nI 44) X dX8_hearsTable_21 (by decide) ?_
  refine wn_iadd (pc := 23) X dX8_hearsTable_23 ?_
  obtain ⟨hj2, h⟩ := h
  refine wn_iald (pc := 24) X A_140 hj2 (by decide) dX8_hearsTable_24 ?_
  refine wp_iadd (pc := 25) X dX8_hearsTable_25 ?_
  refine wp_iconst (pc := 26) (v := nI 1) X dX8_hearsTable_26 (by decide) ?_
  refine wp_isub (pc := 27) X dX8_hearsTable_27 ?_
  obtain ⟨hj3, h⟩ := h
  refine wn_iast (pc := 28) X A_140 hj3 (by decide) dX8_hearsTable_28 ?_
  refine wp_iconst (pc := 29) (v := nI 0) X dX8_hearsTable_29 (by decide) ?_
  refine wp_istore_n (pc := 30) (lo' := [some (.ref 139), some (.int (nI r)), some (.int (nI p)), some (.int (nI 0)), none]) X dX8_hearsTable_30 rfl (Nat.le_of_ble_eq_true rfl) rfl rfl ?_
  exact h
theorem r_X8_hearsTable_31 {x : CT} {L : List Nat} {Q : Int32 → Mem → Prop} {M : Mem}  {r p f : Nat} (X : BS x L cX8_hearsTable 5 RX8 (m_X8_hearsTable).2.2.2.2) (T : RT x L none Q) (A_139 : AC L 139 8 0) (A_140 : AC L 140 9 918)
    (h : (r + 42) < 918 ∧ ∃ v2 : Nat, M 140 (r + 42) = nI v2 ∧ f < 2 ^ 31 ∧ v2 < 2 ^ 31 ∧ (v2 ≤ f → Q 0 M) ∧ (f < v2 → (p + 4 + f) < 918 ∧ (r + 18 + f) < 918 ∧ (¬ (M 140 (p + 4 + f)) = (M 140 (r + 18 + f)) → (p + 10 + f) < 918 ∧ (r + 18 + f) < 918 ∧ (p + 4 + f) < 918 ∧ WP x L 31 [some (.ref 139), some (.int (nI r)), some (.int (nI p)), some (.int (nI (f + 1))), none] [] (MU (MU M 140 (p + 10 + f) (nI 0)) 140 (p + 4 + f) ((MU M 140 (p + 10 + f) (nI 0)) 140 (r + 18 + f)))) ∧ ((M 140 (p + 4 + f)) = (M 140 (r + 18 + f)) → (p + 10 + f) < 918 ∧ (p + 10 + f) < 918 ∧ (r + 18 + f) < 918 ∧ (p + 4 + f) < 918 ∧ WP x L 31 [some (.ref 139), some (.int (nI r)), some (.int (nI p)), some (.int (nI (f + 1))), none] [] (MU (MU M 140 (p + 10 + f) (M 140 (p + 10 + f))) 140 (p + 4 + f) ((MU M 140 (p + 10 + f) (M 140 (p + 10 + f))) 140 (r + 18 + f)))))) : WP x L 31 [some (.ref 139), some (.int (nI r)), some (.int (nI p)), some (.int (nI f)), none] [] M := by
  refine wp_iload_n (pc := 31) X dX8_hearsTable_31 rfl rfl ?_
  refine wp_aload_n (pc := 32) X dX8_hearsTable_32 rfl rfl ?_
  refine wp_get (pc := 33) X fl_X8_7 A_139 (by decide) (fg_8_0 A_139) dX8_hearsTable_33 ?_
  refine wp_iload_n (pc := 36) X dX8_hearsTable_36 rfl rfl ?_
  refine wp_bipush (pc := 37) (v := nI 42) X dX8_hearsTable_37 (by decide) ?_
  refine wn_iadd (pc := 39) X dX8_hearsTable_39 ?_
  obtain ⟨hj1, v2, he3, h⟩ := h
  refine we_iald (pc := 40) X A_140 hj1 (by decide) he3 dX8_hearsTable_40 ?_
  obtain ⟨hb13, hb14, h⟩ := h
  refine wn_icmp_ge (pc := 41) (tgt := 133) X dX8_hearsTable_41 (by decide) hb13 hb14 (fun hc => ?_) (fun hc => ?_)
  · replace h := h.1 hc
    exact wp_ret (pc := 133) X T dX8_hearsTable_133 h
  · replace h := h.2 hc
    refine wp_aload_n (pc := 44) X dX8_hearsTable_44 rfl rfl ?_
    refine wp_get (pc := 45) X fl_X8_7 A_139 (by decide) (fg_8_0 A_139) dX8_hearsTable_45 ?_
    refine wp_iload_n (pc := 48) X dX8_hearsTable_48 rfl rfl ?_
    refine wp_iconst (pc := 49) (v := nI 4) X dX8_hearsTable_49 (by decide) ?_
    refine wn_iadd (pc := 50) X dX8_hearsTable_50 ?_
    refine wp_iload_n (pc := 51) X dX8_hearsTable_51 rfl rfl ?_
    refine wn_iadd (pc := 52) X dX8_hearsTable_52 ?_
    obtain ⟨hj4, h⟩ := h
    refine wn_iald (pc := 53) X A_140 hj4 (by decide) dX8_hearsTable_53 ?_
    refine wp_aload_n (pc := 54) X dX8_hearsTable_54 rfl rfl ?_
    refine wp_get (pc := 55) X fl_X8_7 A_139 (by decide) (fg_8_0 A_139) dX8_hearsTable_55 ?_
    refine wp_iload_n (pc := 58) X dX8_hearsTable_58 rfl rfl ?_
    refine wp_bipush (pc := 59) (v := nI 18) X dX8_hearsTable_59 (by decide) ?_
    refine wn_iadd (pc := 61) X dX8_hearsTable_61 ?_
    refine wp_iload_n (pc := 62) X dX8_hearsTable_62 rfl rfl ?_
    refine wn_iadd (pc := 63) X dX8_hearsTable_63 ?_
    obtain ⟨hj5, h⟩ := h
    refine wn_iald (pc := 64) X A_140 hj5 (by decide) dX8_hearsTable_64 ?_
    refine wp_icmp_ne (pc := 65) (tgt := 72) X dX8_hearsTable_65 (by decide) (fun hc => ?_) (fun hc => ?_)
    · replace h := h.1 hc
      refine wp_iconst (pc := 72) (v := nI 0) X dX8_hearsTable_72 (by decide) ?_
      refine wp_istore (pc := 73) (lo' := [some (.ref 139), some (.int (nI r)), some (.int (nI p)), some (.int (nI f)), some (.int (nI 0))]) X dX8_hearsTable_73 (Nat.le_of_ble_eq_true rfl) rfl rfl ?_
      refine wp_aload_n (pc := 75) X dX8_hearsTable_75 rfl rfl ?_
      refine wp_get (pc := 76) X fl_X8_7 A_139 (by decide) (fg_8_0 A_139) dX8_hearsTable_76 ?_
      refine wp_iload_n (pc := 79) X dX8_hearsTable_79 rfl rfl ?_
      refine wp_bipush (pc := 80) (v := nI 10) X dX8_hearsTable_80 (by decide) ?_
      refine wn_iadd (pc := 82) X dX8_hearsTable_82 ?_
      refine wp_iload_n (pc := 83) X dX8_hearsTable_83 rfl rfl ?_
      refine wn_iadd (pc := 84) X dX8_hearsTable_84 ?_
      refine wp_iload (pc := 85) X dX8_hearsTable_85 rfl ?_
      refine wp_if_eq (pc := 87) (tgt := 104) X dX8_hearsTable_87 (by decide) (fun _ => ?_) (fun hc => absurd hc (by decide))
      refine wp_iconst (pc := 104) (v := nI 0) X dX8_hearsTable_104 (by decide) ?_
      obtain ⟨hj6, h⟩ := h
      refine wn_iast (pc := 105) X A_140 hj6 (by decide) dX8_hearsTable_105 ?_
      refine wp_aload_n (pc := 106) X dX8_hearsTable_106 rfl rfl ?_
      refine wp_get (pc := 107) X fl_X8_7 A_139 (by decide) (fg_8_0 A_139) dX8_hearsTable_107 ?_
      refine wp_iload_n (pc := 110) X dX8_hearsTable_110 rfl rfl ?_
      refine wp_iconst (pc := 111) (v := nI 4) X dX8_hearsTable_111 (by decide) ?_
      refine wn_iadd (pc := 112) X dX8_hearsTable_112 ?_
      refine wp_iload_n (pc := 113) X dX8_hearsTable_113 rfl rfl ?_
      refine wn_iadd (pc := 114) X dX8_hearsTable_114 ?_
      refine wp_aload_n (pc := 115) X dX8_hearsTable_115 rfl rfl ?_
      refine wp_get (pc := 116) X fl_X8_7 A_139 (by decide) (fg_8_0 A_139) dX8_hearsTable_116 ?_
      refine wp_iload_n (pc := 119) X dX8_hearsTable_119 rfl rfl ?_
      refine wp_bipush (pc := 120) (v := nI 18) X dX8_hearsTable_120 (by decide) ?_
      refine wn_iadd (pc := 122) X dX8_hearsTable_122 ?_
      refine wp_iload_n (pc := 123) X dX8_hearsTable_123 rfl rfl ?_
      refine wn_iadd (pc := 124) X dX8_hearsTable_124 ?_
      obtain ⟨hj7, h⟩ := h
      refine wn_iald (pc := 125) X A_140 hj7 (by decide) dX8_hearsTable_125 ?_
      obtain ⟨hj8, h⟩ := h
      refine wn_iast (pc := 126) X A_140 hj8 (by decide) dX8_hearsTable_126 ?_
      refine wn_iinc (pc := 127) (d := 1) (lo' := [some (.ref 139), some (.int (nI r)), some (.int (nI p)), some (.int (nI (f + 1))), some (.int (nI 0))]) X dX8_hearsTable_127 rfl (by decide) rfl rfl ?_
      refine wp_goto (pc := 130) (tgt := 31) X dX8_hearsTable_130 (by decide) ?_
      exact wp_drop (show subL _ [some (.ref 139), some (.int (nI r)), some (.int (nI p)), some (.int (nI (f + 1))), none] from ⟨rfl, ⟨rfl, ⟨rfl, ⟨rfl, trivial⟩⟩⟩⟩) h
    · replace h := h.2 hc
      refine wp_iconst (pc := 68) (v := nI 1) X dX8_hearsTable_68 (by decide) ?_
      refine wp_goto (pc := 69) (tgt := 73) X dX8_hearsTable_69 (by decide) ?_
      refine wp_istore (pc := 73) (lo' := [some (.ref 139), some (.int (nI r)), some (.int (nI p)), some (.int (nI f)), some (.int (nI 1))]) X dX8_hearsTable_73 (Nat.le_of_ble_eq_true rfl) rfl rfl ?_
      refine wp_aload_n (pc := 75) X dX8_hearsTable_75 rfl rfl ?_
      refine wp_get (pc := 76) X fl_X8_7 A_139 (by decide) (fg_8_0 A_139) dX8_hearsTable_76 ?_
      refine wp_iload_n (pc := 79) X dX8_hearsTable_79 rfl rfl ?_
      refine wp_bipush (pc := 80) (v := nI 10) X dX8_hearsTable_80 (by decide) ?_
      refine wn_iadd (pc := 82) X dX8_hearsTable_82 ?_
      refine wp_iload_n (pc := 83) X dX8_hearsTable_83 rfl rfl ?_
      refine wn_iadd (pc := 84) X dX8_hearsTable_84 ?_
      refine wp_iload (pc := 85) X dX8_hearsTable_85 rfl ?_
      refine wp_if_eq (pc := 87) (tgt := 104) X dX8_hearsTable_87 (by decide) (fun hc => absurd hc (by decide)) (fun _ => ?_)
      refine wp_aload_n (pc := 90) X dX8_hearsTable_90 rfl rfl ?_
      refine wp_get (pc := 91) X fl_X8_7 A_139 (by decide) (fg_8_0 A_139) dX8_hearsTable_91 ?_
      refine wp_iload_n (pc := 94) X dX8_hearsTable_94 rfl rfl ?_
      refine wp_bipush (pc := 95) (v := nI 10) X dX8_hearsTable_95 (by decide) ?_
      refine wn_iadd (pc := 97) X dX8_hearsTable_97 ?_
      refine wp_iload_n (pc := 98) X dX8_hearsTable_98 rfl rfl ?_
      refine wn_iadd (pc := 99) X dX8_hearsTable_99 ?_
      obtain ⟨hj9, h⟩ := h
      refine wn_iald (pc := 100) X A_140 hj9 (by decide) dX8_hearsTable_100 ?_
      refine wp_goto (pc := 101) (tgt := 105) X dX8_hearsTable_101 (by decide) ?_
      obtain ⟨hj10, h⟩ := h
      refine wn_iast (pc := 105) X A_140 hj10 (by decide) dX8_hearsTable_105 ?_
      refine wp_aload_n (pc := 106) X dX8_hearsTable_106 rfl rfl ?_
      refine wp_get (pc := 107) X fl_X8_7 A_139 (by decide) (fg_8_0 A_139) dX8_hearsTable_107 ?_
      refine wp_iload_n (pc := 110) X dX8_hearsTable_110 rfl rfl ?_
      refine wp_iconst (pc := 111) (v := nI 4) X dX8_hearsTable_111 (by decide) ?_
      refine wn_iadd (pc := 112) X dX8_hearsTable_112 ?_
      refine wp_iload_n (pc := 113) X dX8_hearsTable_113 rfl rfl ?_
      refine wn_iadd (pc := 114) X dX8_hearsTable_114 ?_
      refine wp_aload_n (pc := 115) X dX8_hearsTable_115 rfl rfl ?_
      refine wp_get (pc := 116) X fl_X8_7 A_139 (by decide) (fg_8_0 A_139) dX8_hearsTable_116 ?_
      refine wp_iload_n (pc := 119) X dX8_hearsTable_119 rfl rfl ?_
      refine wp_bipush (pc := 120) (v := nI 18) X dX8_hearsTable_120 (by decide) ?_
      refine wn_iadd (pc := 122) X dX8_hearsTable_122 ?_
      refine wp_iload_n (pc := 123) X dX8_hearsTable_123 rfl rfl ?_
      refine wn_iadd (pc := 124) X dX8_hearsTable_124 ?_
      obtain ⟨hj11, h⟩ := h
      refine wn_iald (pc := 125) X A_140 hj11 (by decide) dX8_hearsTable_125 ?_
      obtain ⟨hj12, h⟩ := h
      refine wn_iast (pc := 126) X A_140 hj12 (by decide) dX8_hearsTable_126 ?_
      refine wn_iinc (pc := 127) (d := 1) (lo' := [some (.ref 139), some (.int (nI r)), some (.int (nI p)), some (.int (nI (f + 1))), some (.int (nI 1))]) X dX8_hearsTable_127 rfl (by decide) rfl rfl ?_
      refine wp_goto (pc := 130) (tgt := 31) X dX8_hearsTable_130 (by decide) ?_
      exact wp_drop (show subL _ [some (.ref 139), some (.int (nI r)), some (.int (nI p)), some (.int (nI (f + 1))), none] from ⟨rfl, ⟨rfl, ⟨rfl, ⟨rfl, trivial⟩⟩⟩⟩) h
theorem r_X8_hearsSymbol_0 {x : CT} {L : List Nat} {Q : Int32 → Mem → Prop} {M : Mem}  {r p f y : Nat} (X : BS x L cX8_hearsSymbol 5 RX8 (m_X8_hearsSymbol).2.2.2.2) (T : RT x L none Q) (A_139 : AC L 139 8 0) (A_140 : AC L 140 9 918)
    (h : (p + 2) < 918 ∧ (r + 45) < 918 ∧ ((M 140 (p + 2)) < (M 140 (r + 45)) → Q 0 M) ∧ (¬ (M 140 (p + 2)) < (M 140 (r + 45)) → (p + 4 + f) < 918 ∧ (r + 18 + f) < 918 ∧ (¬ (M 140 (p + 4 + f)) = (M 140 (r + 18 + f)) → Q 0 M) ∧ ((M 140 (p + 4 + f)) = (M 140 (r + 18 + f)) → (p + 10 + f) < 918 ∧ (p + 10 + f) < 918 ∧ Q 0 (MU M 140 (p + 10 + f) ((M 140 (p + 10 + f)) ||| ((nI 1) <<< ((nI y) &&& 31))))))) : WP x L 0 [some (.ref 139), some (.int (nI r)), some (.int (nI p)), some (.int (nI f)), some (.int (nI y))] [] M := by
  refine wp_aload_n (pc := 0) X dX8_hearsSymbol_0 rfl rfl ?_
  refine wp_get (pc := 1) X fl_X8_7 A_139 (by decide) (fg_8_0 A_139) dX8_hearsSymbol_1 ?_
  refine wp_iload_n (pc := 4) X dX8_hearsSymbol_4 rfl rfl ?_
  refine wp_iconst (pc := 5) (v := nI 2) X dX8_hearsSymbol_5 (by decide) ?_
  refine wn_iadd (pc := 6) X dX8_hearsSymbol_6 ?_
  obtain ⟨hj1, h⟩ := h
  refine wn_iald (pc := 7) X A_140 hj1 (by decide) dX8_hearsSymbol_7 ?_
  refine wp_aload_n (pc := 8) X dX8_hearsSymbol_8 rfl rfl ?_
  refine wp_get (pc := 9) X fl_X8_7 A_139 (by decide) (fg_8_0 A_139) dX8_hearsSymbol_9 ?_
  refine wp_iload_n (pc := 12) X dX8_hearsSymbol_12 rfl rfl ?_
  refine wp_bipush (pc := 13) (v := nI 45) X dX8_hearsSymbol_13 (by decide) ?_
  refine wn_iadd (pc := 15) X dX8_hearsSymbol_15 ?_
  obtain ⟨hj2, h⟩ := h
  refine wn_iald (pc := 16) X A_140 hj2 (by decide) dX8_hearsSymbol_16 ?_
  refine wp_icmp_lt (pc := 17) (tgt := 62) X dX8_hearsSymbol_17 (by decide) (fun hc => ?_) (fun hc => ?_)
  · replace h := h.1 hc
    exact wp_ret (pc := 62) X T dX8_hearsSymbol_62 h
  · replace h := h.2 hc
    refine wp_aload_n (pc := 20) X dX8_hearsSymbol_20 rfl rfl ?_
    refine wp_get (pc := 21) X fl_X8_7 A_139 (by decide) (fg_8_0 A_139) dX8_hearsSymbol_21 ?_
    refine wp_iload_n (pc := 24) X dX8_hearsSymbol_24 rfl rfl ?_
    refine wp_iconst (pc := 25) (v := nI 4) X dX8_hearsSymbol_25 (by decide) ?_
    refine wn_iadd (pc := 26) X dX8_hearsSymbol_26 ?_
    refine wp_iload_n (pc := 27) X dX8_hearsSymbol_27 rfl rfl ?_
    refine wn_iadd (pc := 28) X dX8_hearsSymbol_28 ?_
    obtain ⟨hj3, h⟩ := h
    refine wn_iald (pc := 29) X A_140 hj3 (by decide) dX8_hearsSymbol_29 ?_
    refine wp_aload_n (pc := 30) X dX8_hearsSymbol_30 rfl rfl ?_
    refine wp_get (pc := 31) X fl_X8_7 A_139 (by decide) (fg_8_0 A_139) dX8_hearsSymbol_31 ?_
    refine wp_iload_n (pc := 34) X dX8_hearsSymbol_34 rfl rfl ?_
    refine wp_bipush (pc := 35) (v := nI 18) X dX8_hearsSymbol_35 (by decide) ?_
    refine wn_iadd (pc := 37) X dX8_hearsSymbol_37 ?_
    refine wp_iload_n (pc := 38) X dX8_hearsSymbol_38 rfl rfl ?_
    refine wn_iadd (pc := 39) X dX8_hearsSymbol_39 ?_
    obtain ⟨hj4, h⟩ := h
    refine wn_iald (pc := 40) X A_140 hj4 (by decide) dX8_hearsSymbol_40 ?_
    refine wp_icmp_ne (pc := 41) (tgt := 62) X dX8_hearsSymbol_41 (by decide) (fun hc => ?_) (fun hc => ?_)
    · replace h := h.1 hc
      exact wp_ret (pc := 62) X T dX8_hearsSymbol_62 h
    · replace h := h.2 hc
      refine wp_aload_n (pc := 44) X dX8_hearsSymbol_44 rfl rfl ?_
      refine wp_get (pc := 45) X fl_X8_7 A_139 (by decide) (fg_8_0 A_139) dX8_hearsSymbol_45 ?_
      refine wp_iload_n (pc := 48) X dX8_hearsSymbol_48 rfl rfl ?_
      refine wp_bipush (pc := 49) (v := nI 10) X dX8_hearsSymbol_49 (by decide) ?_
      refine wn_iadd (pc := 51) X dX8_hearsSymbol_51 ?_
      refine wp_iload_n (pc := 52) X dX8_hearsSymbol_52 rfl rfl ?_
      refine wn_iadd (pc := 53) X dX8_hearsSymbol_53 ?_
      refine wp_dup2 (pc := 54) X dX8_hearsSymbol_54 rfl rfl ?_
      obtain ⟨hj5, h⟩ := h
      refine wn_iald (pc := 55) X A_140 hj5 (by decide) dX8_hearsSymbol_55 ?_
      refine wp_iconst (pc := 56) (v := nI 1) X dX8_hearsSymbol_56 (by decide) ?_
      refine wp_iload (pc := 57) X dX8_hearsSymbol_57 rfl ?_
      refine wp_ishl (pc := 59) X dX8_hearsSymbol_59 ?_
      refine wp_ior (pc := 60) X dX8_hearsSymbol_60 ?_
      obtain ⟨hj6, h⟩ := h
      refine wn_iast (pc := 61) X A_140 hj6 (by decide) dX8_hearsSymbol_61 ?_
      exact wp_ret (pc := 62) X T dX8_hearsSymbol_62 h
theorem r_X8_ticks_0 {x : CT} {L : List Nat} {Q : Int32 → Mem → Prop} {M : Mem}  {r : Nat} (X : BS x L cX8_ticks 7 RX8 (m_X8_ticks).2.2.2.2) (T : RT x L (some .int) Q) (A_139 : AC L 139 8 0) (A_140 : AC L 140 9 918)
    (h : (r + 45) < 918 ∧ ∃ v2 : Nat, M 140 (r + 45) = nI v2 ∧ (r + 43) < 918 ∧ ∃ v5 : Nat, M 140 (r + 43) = nI v5 ∧ v2 < 2 ^ 31 ∧ 0 < v5 ∧ v5 < 2 ^ 31 ∧ (v2 % v5) < 2 ^ 31 ∧ (0 < (v2 % v5) → CM m_X8_sendsNext L [.ref 139, .int (nI r)] M (fun r11 M10 => ∃ v12 : Nat, r11 = nI v12 ∧ (r + 24 + v12) < 918 ∧ ∃ v14 : Nat, M10 140 (r + 24 + v12) = nI v14 ∧ (r + 18 + v12) < 918 ∧ CM m_X8_logs L [.ref 139, .int (nI r), .int (nI v12), .int (nI v14), .int (M10 140 (r + 18 + v12))] M10 (fun _ M17 => WP x L 96 [some (.ref 139), some (.int (nI r)), some (.int (nI 0)), some (.int (nI v12)), some (.int (nI v14)), some (.int (nI 0)), none] [] M17))) ∧ ((v2 % v5) = 0 → CM m_X8_logs L [.ref 139, .int (nI r), .int (-4), .int (-4), .int (-4)] M (fun _ M19 => WP x L 96 [some (.ref 139), some (.int (nI r)), some (.int (nI 1)), some (.int (-4)), some (.int (-4)), some (.int (nI 0)), none] [] M19))) : WP x L 0 [some (.ref 139), some (.int (nI r)), none, none, none, none, none] [] M := by
  refine wp_aload_n (pc := 0) X dX8_ticks_0 rfl rfl ?_
  refine wp_get (pc := 1) X fl_X8_7 A_139 (by decide) (fg_8_0 A_139) dX8_ticks_1 ?_
  refine wp_iload_n (pc := 4) X dX8_ticks_4 rfl rfl ?_
  refine wp_bipush (pc := 5) (v := nI 45) X dX8_ticks_5 (by decide) ?_
  refine wn_iadd (pc := 7) X dX8_ticks_7 ?_
  obtain ⟨hj1, v2, he3, h⟩ := h
  refine we_iald (pc := 8) X A_140 hj1 (by decide) he3 dX8_ticks_8 ?_
  refine wp_aload_n (pc := 9) X dX8_ticks_9 rfl rfl ?_
  refine wp_get (pc := 10) X fl_X8_7 A_139 (by decide) (fg_8_0 A_139) dX8_ticks_10 ?_
  refine wp_iload_n (pc := 13) X dX8_ticks_13 rfl rfl ?_
  refine wp_bipush (pc := 14) (v := nI 43) X dX8_ticks_14 (by decide) ?_
  refine wn_iadd (pc := 16) X dX8_ticks_16 ?_
  obtain ⟨hj4, v5, he6, h⟩ := h
  refine we_iald (pc := 17) X A_140 hj4 (by decide) he6 dX8_ticks_17 ?_
  obtain ⟨hb7, hb8, hb9, h⟩ := h
  refine wn_irem (pc := 18) X dX8_ticks_18 hb7 hb8 hb9 ?_
  obtain ⟨hb21, h⟩ := h
  refine wn_if_ne (pc := 19) (tgt := 26) X dX8_ticks_19 (by decide) hb21 (fun hc => ?_) (fun hc => ?_)
  · replace h := h.1 hc
    refine wp_iconst (pc := 26) (v := nI 0) X dX8_ticks_26 (by decide) ?_
    refine wp_istore_n (pc := 27) (lo' := [some (.ref 139), some (.int (nI r)), some (.int (nI 0)), none, none, none, none]) X dX8_ticks_27 rfl (Nat.le_of_ble_eq_true rfl) rfl rfl ?_
    refine wp_iload_n (pc := 28) X dX8_ticks_28 rfl rfl ?_
    refine wp_if_eq (pc := 29) (tgt := 37) X dX8_ticks_29 (by decide) (fun _ => ?_) (fun hc => absurd hc (by decide))
    refine wp_aload_n (pc := 37) X dX8_ticks_37 rfl rfl ?_
    refine wp_iload_n (pc := 38) X dX8_ticks_38 rfl rfl ?_
    refine wp_invV (pc := 39) X sv_X8_75 A_139 (by decide) rfl ⟨by decide, by decide⟩ (As := [.int (nI r)]) (st := []) rfl rfl (Nat.le_of_ble_eq_true rfl) dX8_ticks_39 ?_
    refine CM.mono h (fun r11 M10 h => ?_)
    obtain ⟨v12, rfl, h⟩ := h
    refine wp_istore_n (pc := 42) (lo' := [some (.ref 139), some (.int (nI r)), some (.int (nI 0)), some (.int (nI v12)), none, none, none]) X dX8_ticks_42 rfl (Nat.le_of_ble_eq_true rfl) rfl rfl ?_
    refine wp_iload_n (pc := 43) X dX8_ticks_43 rfl rfl ?_
    refine wp_if_eq (pc := 44) (tgt := 52) X dX8_ticks_44 (by decide) (fun _ => ?_) (fun hc => absurd hc (by decide))
    refine wp_aload_n (pc := 52) X dX8_ticks_52 rfl rfl ?_
    refine wp_get (pc := 53) X fl_X8_7 A_139 (by decide) (fg_8_0 A_139) dX8_ticks_53 ?_
    refine wp_iload_n (pc := 56) X dX8_ticks_56 rfl rfl ?_
    refine wp_bipush (pc := 57) (v := nI 24) X dX8_ticks_57 (by decide) ?_
    refine wn_iadd (pc := 59) X dX8_ticks_59 ?_
    refine wp_iload_n (pc := 60) X dX8_ticks_60 rfl rfl ?_
    refine wn_iadd (pc := 61) X dX8_ticks_61 ?_
    obtain ⟨hj13, v14, he15, h⟩ := h
    refine we_iald (pc := 62) X A_140 hj13 (by decide) he15 dX8_ticks_62 ?_
    refine wp_istore (pc := 63) (lo' := [some (.ref 139), some (.int (nI r)), some (.int (nI 0)), some (.int (nI v12)), some (.int (nI v14)), none, none]) X dX8_ticks_63 (Nat.le_of_ble_eq_true rfl) rfl rfl ?_
    refine wp_aload_n (pc := 65) X dX8_ticks_65 rfl rfl ?_
    refine wp_iload_n (pc := 66) X dX8_ticks_66 rfl rfl ?_
    refine wp_iload_n (pc := 67) X dX8_ticks_67 rfl rfl ?_
    refine wp_iload (pc := 68) X dX8_ticks_68 rfl ?_
    refine wp_iload_n (pc := 70) X dX8_ticks_70 rfl rfl ?_
    refine wp_if_eq (pc := 71) (tgt := 79) X dX8_ticks_71 (by decide) (fun _ => ?_) (fun hc => absurd hc (by decide))
    refine wp_aload_n (pc := 79) X dX8_ticks_79 rfl rfl ?_
    refine wp_get (pc := 80) X fl_X8_7 A_139 (by decide) (fg_8_0 A_139) dX8_ticks_80 ?_
    refine wp_iload_n (pc := 83) X dX8_ticks_83 rfl rfl ?_
    refine wp_bipush (pc := 84) (v := nI 18) X dX8_ticks_84 (by decide) ?_
    refine wn_iadd (pc := 86) X dX8_ticks_86 ?_
    refine wp_iload_n (pc := 87) X dX8_ticks_87 rfl rfl ?_
    refine wn_iadd (pc := 88) X dX8_ticks_88 ?_
    obtain ⟨hj16, h⟩ := h
    refine wn_iald (pc := 89) X A_140 hj16 (by decide) dX8_ticks_89 ?_
    refine wp_invVv (pc := 90) X sv_X8_79 A_139 (by decide) rfl ⟨by decide, by decide⟩ (As := [.int (nI r), .int (nI v12), .int (nI v14), .int (M10 140 (r + 18 + v12))]) (st := []) rfl rfl (Nat.le_of_ble_eq_true rfl) dX8_ticks_90 ?_
    refine CM.mono h (fun _ M17 h => ?_)
    refine wp_iconst (pc := 93) (v := nI 0) X dX8_ticks_93 (by decide) ?_
    refine wp_istore (pc := 94) (lo' := [some (.ref 139), some (.int (nI r)), some (.int (nI 0)), some (.int (nI v12)), some (.int (nI v14)), some (.int (nI 0)), none]) X dX8_ticks_94 (Nat.le_of_ble_eq_true rfl) rfl rfl ?_
    exact h
  · replace h := h.2 hc
    refine wp_iconst (pc := 22) (v := nI 1) X dX8_ticks_22 (by decide) ?_
    refine wp_goto (pc := 23) (tgt := 27) X dX8_ticks_23 (by decide) ?_
    refine wp_istore_n (pc := 27) (lo' := [some (.ref 139), some (.int (nI r)), some (.int (nI 1)), none, none, none, none]) X dX8_ticks_27 rfl (Nat.le_of_ble_eq_true rfl) rfl rfl ?_
    refine wp_iload_n (pc := 28) X dX8_ticks_28 rfl rfl ?_
    refine wp_if_eq (pc := 29) (tgt := 37) X dX8_ticks_29 (by decide) (fun hc => absurd hc (by decide)) (fun _ => ?_)
    refine wp_bipush (pc := 32) (v := (-4)) X dX8_ticks_32 (by decide) ?_
    refine wp_goto (pc := 34) (tgt := 42) X dX8_ticks_34 (by decide) ?_
    refine wp_istore_n (pc := 42) (lo' := [some (.ref 139), some (.int (nI r)), some (.int (nI 1)), some (.int (-4)), none, none, none]) X dX8_ticks_42 rfl (Nat.le_of_ble_eq_true rfl) rfl rfl ?_
    refine wp_iload_n (pc := 43) X dX8_ticks_43 rfl rfl ?_
    refine wp_if_eq (pc := 44) (tgt := 52) X dX8_ticks_44 (by decide) (fun hc => absurd hc (by decide)) (fun _ => ?_)
    refine wp_bipush (pc := 47) (v := (-4)) X dX8_ticks_47 (by decide) ?_
    refine wp_goto (pc := 49) (tgt := 63) X dX8_ticks_49 (by decide) ?_
    refine wp_istore (pc := 63) (lo' := [some (.ref 139), some (.int (nI r)), some (.int (nI 1)), some (.int (-4)), some (.int (-4)), none, none]) X dX8_ticks_63 (Nat.le_of_ble_eq_true rfl) rfl rfl ?_
    refine wp_aload_n (pc := 65) X dX8_ticks_65 rfl rfl ?_
    refine wp_iload_n (pc := 66) X dX8_ticks_66 rfl rfl ?_
    refine wp_iload_n (pc := 67) X dX8_ticks_67 rfl rfl ?_
    refine wp_iload (pc := 68) X dX8_ticks_68 rfl ?_
    refine wp_iload_n (pc := 70) X dX8_ticks_70 rfl rfl ?_
    refine wp_if_eq (pc := 71) (tgt := 79) X dX8_ticks_71 (by decide) (fun hc => absurd hc (by decide)) (fun _ => ?_)
    refine wp_bipush (pc := 74) (v := (-4)) X dX8_ticks_74 (by decide) ?_
    refine wp_goto (pc := 76) (tgt := 90) X dX8_ticks_76 (by decide) ?_
    refine wp_invVv (pc := 90) X sv_X8_79 A_139 (by decide) rfl ⟨by decide, by decide⟩ (As := [.int (nI r), .int (-4), .int (-4), .int (-4)]) (st := []) rfl rfl (Nat.le_of_ble_eq_true rfl) dX8_ticks_90 ?_
    refine CM.mono h (fun _ M19 h => ?_)
    refine wp_iconst (pc := 93) (v := nI 0) X dX8_ticks_93 (by decide) ?_
    refine wp_istore (pc := 94) (lo' := [some (.ref 139), some (.int (nI r)), some (.int (nI 1)), some (.int (-4)), some (.int (-4)), some (.int (nI 0)), none]) X dX8_ticks_94 (Nat.le_of_ble_eq_true rfl) rfl rfl ?_
    exact h
theorem r_X8_ticksT_96 {x : CT} {L : List Nat} {Q : Int32 → Mem → Prop} {M : Mem}  {r l : Nat} (X : BS x L cX8_ticks 7 RX8 (m_X8_ticks).2.2.2.2) (T : RT x L (some .int) Q) (A_139 : AC L 139 8 0) (A_140 : AC L 140 9 918)
    (h : (r + 48) < 918 ∧ ∃ v2 : Nat, M 140 (r + 48) = nI v2 ∧ l < 2 ^ 31 ∧ v2 < 2 ^ 31 ∧ (v2 ≤ l → (r + 46) < 918 ∧ (r + 46) < 918 ∧ (r + 45) < 918 ∧ (r + 45) < 918 ∧ Q (-4) (MU (MU M 140 (r + 46) ((M 140 (r + 46)) + (nI 1))) 140 (r + 45) (((MU M 140 (r + 46) ((M 140 (r + 46)) + (nI 1))) 140 (r + 45)) + (nI 1)))) ∧ (l < v2 → CM m_X8_isLost L [.ref 139, .int (nI r), .int (nI l)] M (fun r9 M8 => (r9 = 0 → CM m_X8_hearsTable L [.ref 139, .int (nI r), .int (nI (r + 89 + (16 * l)))] M8 (fun _ M10 => WP x L 96 [some (.ref 139), some (.int (nI r)), some (.int (nI 1)), some (.int (-4)), some (.int (-4)), some (.int (nI (l + 1))), none] [] M10)) ∧ (¬ r9 = 0 → (r + 89 + (16 * l) + 3) < 918 ∧ (r + 89 + (16 * l) + 3) < 918 ∧ WP x L 96 [some (.ref 139), some (.int (nI r)), some (.int (nI 1)), some (.int (-4)), some (.int (-4)), some (.int (nI (l + 1))), none] [] (MU M8 140 (r + 89 + (16 * l) + 3) ((M8 140 (r + 89 + (16 * l) + 3)) + (nI 1))))))) : WP x L 96 [some (.ref 139), some (.int (nI r)), some (.int (nI 1)), some (.int (-4)), some (.int (-4)), some (.int (nI l)), none] [] M := by
  refine wp_iload (pc := 96) X dX8_ticks_96 rfl ?_
  refine wp_aload_n (pc := 98) X dX8_ticks_98 rfl rfl ?_
  refine wp_get (pc := 99) X fl_X8_7 A_139 (by decide) (fg_8_0 A_139) dX8_ticks_99 ?_
  refine wp_iload_n (pc := 102) X dX8_ticks_102 rfl rfl ?_
  refine wp_bipush (pc := 103) (v := nI 48) X dX8_ticks_103 (by decide) ?_
  refine wn_iadd (pc := 105) X dX8_ticks_105 ?_
  obtain ⟨hj1, v2, he3, h⟩ := h
  refine we_iald (pc := 106) X A_140 hj1 (by decide) he3 dX8_ticks_106 ?_
  obtain ⟨hb14, hb15, h⟩ := h
  refine wn_icmp_ge (pc := 107) (tgt := 178) X dX8_ticks_107 (by decide) hb14 hb15 (fun hc => ?_) (fun hc => ?_)
  · replace h := h.1 hc
    refine wp_iload_n (pc := 178) X dX8_ticks_178 rfl rfl ?_
    refine wp_if_eq (pc := 179) (tgt := 198) X dX8_ticks_179 (by decide) (fun hc => absurd hc (by decide)) (fun _ => ?_)
    refine wp_aload_n (pc := 182) X dX8_ticks_182 rfl rfl ?_
    refine wp_get (pc := 183) X fl_X8_7 A_139 (by decide) (fg_8_0 A_139) dX8_ticks_183 ?_
    refine wp_iload_n (pc := 186) X dX8_ticks_186 rfl rfl ?_
    refine wp_bipush (pc := 187) (v := nI 46) X dX8_ticks_187 (by decide) ?_
    refine wn_iadd (pc := 189) X dX8_ticks_189 ?_
    refine wp_dup2 (pc := 190) X dX8_ticks_190 rfl rfl ?_
    obtain ⟨hj4, h⟩ := h
    refine wn_iald (pc := 191) X A_140 hj4 (by decide) dX8_ticks_191 ?_
    refine wp_iconst (pc := 192) (v := nI 1) X dX8_ticks_192 (by decide) ?_
    refine wp_iadd (pc := 193) X dX8_ticks_193 ?_
    obtain ⟨hj5, h⟩ := h
    refine wn_iast (pc := 194) X A_140 hj5 (by decide) dX8_ticks_194 ?_
    refine wp_goto (pc := 195) (tgt := 264) X dX8_ticks_195 (by decide) ?_
    refine wp_aload_n (pc := 264) X dX8_ticks_264 rfl rfl ?_
    refine wp_get (pc := 265) X fl_X8_7 A_139 (by decide) (fg_8_0 A_139) dX8_ticks_265 ?_
    refine wp_iload_n (pc := 268) X dX8_ticks_268 rfl rfl ?_
    refine wp_bipush (pc := 269) (v := nI 45) X dX8_ticks_269 (by decide) ?_
    refine wn_iadd (pc := 271) X dX8_ticks_271 ?_
    refine wp_dup2 (pc := 272) X dX8_ticks_272 rfl rfl ?_
    obtain ⟨hj6, h⟩ := h
    refine wn_iald (pc := 273) X A_140 hj6 (by decide) dX8_ticks_273 ?_
    refine wp_iconst (pc := 274) (v := nI 1) X dX8_ticks_274 (by decide) ?_
    refine wp_iadd (pc := 275) X dX8_ticks_275 ?_
    obtain ⟨hj7, h⟩ := h
    refine wn_iast (pc := 276) X A_140 hj7 (by decide) dX8_ticks_276 ?_
    refine wp_iload_n (pc := 277) X dX8_ticks_277 rfl rfl ?_
    exact wp_iret (pc := 278) X T dX8_ticks_278 h
  · replace h := h.2 hc
    refine wp_iload_n (pc := 110) X dX8_ticks_110 rfl rfl ?_
    refine wp_bipush (pc := 111) (v := nI 89) X dX8_ticks_111 (by decide) ?_
    refine wn_iadd (pc := 113) X dX8_ticks_113 ?_
    refine wp_bipush (pc := 114) (v := nI 16) X dX8_ticks_114 (by decide) ?_
    refine wp_iload (pc := 116) X dX8_ticks_116 rfl ?_
    refine wn_imul (pc := 118) X dX8_ticks_118 ?_
    refine wn_iadd (pc := 119) X dX8_ticks_119 ?_
    refine wp_istore (pc := 120) (lo' := [some (.ref 139), some (.int (nI r)), some (.int (nI 1)), some (.int (-4)), some (.int (-4)), some (.int (nI l)), some (.int (nI (r + 89 + (16 * l))))]) X dX8_ticks_120 (Nat.le_of_ble_eq_true rfl) rfl rfl ?_
    refine wp_aload_n (pc := 122) X dX8_ticks_122 rfl rfl ?_
    refine wp_iload_n (pc := 123) X dX8_ticks_123 rfl rfl ?_
    refine wp_iload (pc := 124) X dX8_ticks_124 rfl ?_
    refine wp_invV (pc := 126) X sv_X8_82 A_139 (by decide) rfl ⟨by decide, by decide⟩ (As := [.int (nI r), .int (nI l)]) (st := []) rfl rfl (Nat.le_of_ble_eq_true rfl) dX8_ticks_126 ?_
    refine CM.mono h (fun r9 M8 h => ?_)
    refine wp_if_eq (pc := 129) (tgt := 148) X dX8_ticks_129 (by decide) (fun hc => ?_) (fun hc => ?_)
    · replace h := h.1 hc
      refine wp_iload_n (pc := 148) X dX8_ticks_148 rfl rfl ?_
      refine wp_if_eq (pc := 149) (tgt := 162) X dX8_ticks_149 (by decide) (fun hc => absurd hc (by decide)) (fun _ => ?_)
      refine wp_aload_n (pc := 152) X dX8_ticks_152 rfl rfl ?_
      refine wp_iload_n (pc := 153) X dX8_ticks_153 rfl rfl ?_
      refine wp_iload (pc := 154) X dX8_ticks_154 rfl ?_
      refine wp_invVv (pc := 156) X sv_X8_86 A_139 (by decide) rfl ⟨by decide, by decide⟩ (As := [.int (nI r), .int (nI (r + 89 + (16 * l)))]) (st := []) rfl rfl (Nat.le_of_ble_eq_true rfl) dX8_ticks_156 ?_
      refine CM.mono h (fun _ M10 h => ?_)
      refine wp_goto (pc := 159) (tgt := 172) X dX8_ticks_159 (by decide) ?_
      refine wn_iinc (pc := 172) (d := 1) (lo' := [some (.ref 139), some (.int (nI r)), some (.int (nI 1)), some (.int (-4)), some (.int (-4)), some (.int (nI (l + 1))), some (.int (nI (r + 89 + (16 * l))))]) X dX8_ticks_172 rfl (by decide) rfl rfl ?_
      refine wp_goto (pc := 175) (tgt := 96) X dX8_ticks_175 (by decide) ?_
      exact wp_drop (show subL _ [some (.ref 139), some (.int (nI r)), some (.int (nI 1)), some (.int (-4)), some (.int (-4)), some (.int (nI (l + 1))), none] from ⟨rfl, ⟨rfl, ⟨rfl, ⟨rfl, ⟨rfl, ⟨rfl, trivial⟩⟩⟩⟩⟩⟩) h
    · replace h := h.2 hc
      refine wp_aload_n (pc := 132) X dX8_ticks_132 rfl rfl ?_
      refine wp_get (pc := 133) X fl_X8_7 A_139 (by decide) (fg_8_0 A_139) dX8_ticks_133 ?_
      refine wp_iload (pc := 136) X dX8_ticks_136 rfl ?_
      refine wp_iconst (pc := 138) (v := nI 3) X dX8_ticks_138 (by decide) ?_
      refine wn_iadd (pc := 139) X dX8_ticks_139 ?_
      refine wp_dup2 (pc := 140) X dX8_ticks_140 rfl rfl ?_
      obtain ⟨hj12, h⟩ := h
      refine wn_iald (pc := 141) X A_140 hj12 (by decide) dX8_ticks_141 ?_
      refine wp_iconst (pc := 142) (v := nI 1) X dX8_ticks_142 (by decide) ?_
      refine wp_iadd (pc := 143) X dX8_ticks_143 ?_
      obtain ⟨hj13, h⟩ := h
      refine wn_iast (pc := 144) X A_140 hj13 (by decide) dX8_ticks_144 ?_
      refine wp_goto (pc := 145) (tgt := 172) X dX8_ticks_145 (by decide) ?_
      refine wn_iinc (pc := 172) (d := 1) (lo' := [some (.ref 139), some (.int (nI r)), some (.int (nI 1)), some (.int (-4)), some (.int (-4)), some (.int (nI (l + 1))), some (.int (nI (r + 89 + (16 * l))))]) X dX8_ticks_172 rfl (by decide) rfl rfl ?_
      refine wp_goto (pc := 175) (tgt := 96) X dX8_ticks_175 (by decide) ?_
      exact wp_drop (show subL _ [some (.ref 139), some (.int (nI r)), some (.int (nI 1)), some (.int (-4)), some (.int (-4)), some (.int (nI (l + 1))), none] from ⟨rfl, ⟨rfl, ⟨rfl, ⟨rfl, ⟨rfl, ⟨rfl, trivial⟩⟩⟩⟩⟩⟩) h
theorem r_X8_ticksS_96 {x : CT} {L : List Nat} {Q : Int32 → Mem → Prop} {M : Mem}  {r f y l : Nat} (X : BS x L cX8_ticks 7 RX8 (m_X8_ticks).2.2.2.2) (T : RT x L (some .int) Q) (A_139 : AC L 139 8 0) (A_140 : AC L 140 9 918)
    (h : (r + 48) < 918 ∧ ∃ v2 : Nat, M 140 (r + 48) = nI v2 ∧ l < 2 ^ 31 ∧ v2 < 2 ^ 31 ∧ (v2 ≤ l → (r + 0 + f) < 918 ∧ ∃ v5 : Nat, M 140 (r + 0 + f) = nI v5 ∧ (r + 6 + f) < 918 ∧ ∃ v8 : Nat, M 140 (r + 6 + f) = nI v8 ∧ (y + 1) < 2 ^ 31 ∧ 0 < (v5 + v8) ∧ (v5 + v8) < 2 ^ 31 ∧ (r + 24 + f) < 918 ∧ (r + 36 + f) < 918 ∧ (r + 36 + f) < 918 ∧ (r + 47) < 918 ∧ (r + 47) < 918 ∧ (r + 45) < 918 ∧ (r + 45) < 918 ∧ Q (nI f) (MU (MU (MU (MU M 140 (r + 24 + f) (nI ((y + 1) % (v5 + v8)))) 140 (r + 36 + f) (((MU M 140 (r + 24 + f) (nI ((y + 1) % (v5 + v8)))) 140 (r + 36 + f)) + (nI 1))) 140 (r + 47) (((MU (MU M 140 (r + 24 + f) (nI ((y + 1) % (v5 + v8)))) 140 (r + 36 + f) (((MU M 140 (r + 24 + f) (nI ((y + 1) % (v5 + v8)))) 140 (r + 36 + f)) + (nI 1))) 140 (r + 47)) + (nI 1))) 140 (r + 45) (((MU (MU (MU M 140 (r + 24 + f) (nI ((y + 1) % (v5 + v8)))) 140 (r + 36 + f) (((MU M 140 (r + 24 + f) (nI ((y + 1) % (v5 + v8)))) 140 (r + 36 + f)) + (nI 1))) 140 (r + 47) (((MU (MU M 140 (r + 24 + f) (nI ((y + 1) % (v5 + v8)))) 140 (r + 36 + f) (((MU M 140 (r + 24 + f) (nI ((y + 1) % (v5 + v8)))) 140 (r + 36 + f)) + (nI 1))) 140 (r + 47)) + (nI 1))) 140 (r + 45)) + (nI 1)))) ∧ (l < v2 → CM m_X8_isLost L [.ref 139, .int (nI r), .int (nI l)] M (fun r21 M20 => (r21 = 0 → CM m_X8_hearsSymbol L [.ref 139, .int (nI r), .int (nI (r + 89 + (16 * l))), .int (nI f), .int (nI y)] M20 (fun _ M22 => WP x L 96 [some (.ref 139), some (.int (nI r)), some (.int (nI 0)), some (.int (nI f)), some (.int (nI y)), some (.int (nI (l + 1))), none] [] M22)) ∧ (¬ r21 = 0 → (r + 89 + (16 * l) + 3) < 918 ∧ (r + 89 + (16 * l) + 3) < 918 ∧ WP x L 96 [some (.ref 139), some (.int (nI r)), some (.int (nI 0)), some (.int (nI f)), some (.int (nI y)), some (.int (nI (l + 1))), none] [] (MU M20 140 (r + 89 + (16 * l) + 3) ((M20 140 (r + 89 + (16 * l) + 3)) + (nI 1))))))) : WP x L 96 [some (.ref 139), some (.int (nI r)), some (.int (nI 0)), some (.int (nI f)), some (.int (nI y)), some (.int (nI l)), none] [] M := by
  refine wp_iload (pc := 96) X dX8_ticks_96 rfl ?_
  refine wp_aload_n (pc := 98) X dX8_ticks_98 rfl rfl ?_
  refine wp_get (pc := 99) X fl_X8_7 A_139 (by decide) (fg_8_0 A_139) dX8_ticks_99 ?_
  refine wp_iload_n (pc := 102) X dX8_ticks_102 rfl rfl ?_
  refine wp_bipush (pc := 103) (v := nI 48) X dX8_ticks_103 (by decide) ?_
  refine wn_iadd (pc := 105) X dX8_ticks_105 ?_
  obtain ⟨hj1, v2, he3, h⟩ := h
  refine we_iald (pc := 106) X A_140 hj1 (by decide) he3 dX8_ticks_106 ?_
  obtain ⟨hb26, hb27, h⟩ := h
  refine wn_icmp_ge (pc := 107) (tgt := 178) X dX8_ticks_107 (by decide) hb26 hb27 (fun hc => ?_) (fun hc => ?_)
  · replace h := h.1 hc
    refine wp_iload_n (pc := 178) X dX8_ticks_178 rfl rfl ?_
    refine wp_if_eq (pc := 179) (tgt := 198) X dX8_ticks_179 (by decide) (fun _ => ?_) (fun hc => absurd hc (by decide))
    refine wp_aload_n (pc := 198) X dX8_ticks_198 rfl rfl ?_
    refine wp_get (pc := 199) X fl_X8_7 A_139 (by decide) (fg_8_0 A_139) dX8_ticks_199 ?_
    refine wp_iload_n (pc := 202) X dX8_ticks_202 rfl rfl ?_
    refine wp_bipush (pc := 203) (v := nI 24) X dX8_ticks_203 (by decide) ?_
    refine wn_iadd (pc := 205) X dX8_ticks_205 ?_
    refine wp_iload_n (pc := 206) X dX8_ticks_206 rfl rfl ?_
    refine wn_iadd (pc := 207) X dX8_ticks_207 ?_
    refine wp_iload (pc := 208) X dX8_ticks_208 rfl ?_
    refine wp_iconst (pc := 210) (v := nI 1) X dX8_ticks_210 (by decide) ?_
    refine wn_iadd (pc := 211) X dX8_ticks_211 ?_
    refine wp_aload_n (pc := 212) X dX8_ticks_212 rfl rfl ?_
    refine wp_get (pc := 213) X fl_X8_7 A_139 (by decide) (fg_8_0 A_139) dX8_ticks_213 ?_
    refine wp_iload_n (pc := 216) X dX8_ticks_216 rfl rfl ?_
    refine wp_iconst (pc := 217) (v := nI 0) X dX8_ticks_217 (by decide) ?_
    refine wn_iadd (pc := 218) X dX8_ticks_218 ?_
    refine wp_iload_n (pc := 219) X dX8_ticks_219 rfl rfl ?_
    refine wn_iadd (pc := 220) X dX8_ticks_220 ?_
    obtain ⟨hj4, v5, he6, h⟩ := h
    refine we_iald (pc := 221) X A_140 hj4 (by decide) he6 dX8_ticks_221 ?_
    refine wp_aload_n (pc := 222) X dX8_ticks_222 rfl rfl ?_
    refine wp_get (pc := 223) X fl_X8_7 A_139 (by decide) (fg_8_0 A_139) dX8_ticks_223 ?_
    refine wp_iload_n (pc := 226) X dX8_ticks_226 rfl rfl ?_
    refine wp_bipush (pc := 227) (v := nI 6) X dX8_ticks_227 (by decide) ?_
    refine wn_iadd (pc := 229) X dX8_ticks_229 ?_
    refine wp_iload_n (pc := 230) X dX8_ticks_230 rfl rfl ?_
    refine wn_iadd (pc := 231) X dX8_ticks_231 ?_
    obtain ⟨hj7, v8, he9, h⟩ := h
    refine we_iald (pc := 232) X A_140 hj7 (by decide) he9 dX8_ticks_232 ?_
    refine wn_iadd (pc := 233) X dX8_ticks_233 ?_
    obtain ⟨hb10, hb11, hb12, h⟩ := h
    refine wn_irem (pc := 234) X dX8_ticks_234 hb10 hb11 hb12 ?_
    obtain ⟨hj13, h⟩ := h
    refine wn_iast (pc := 235) X A_140 hj13 (by decide) dX8_ticks_235 ?_
    refine wp_aload_n (pc := 236) X dX8_ticks_236 rfl rfl ?_
    refine wp_get (pc := 237) X fl_X8_7 A_139 (by decide) (fg_8_0 A_139) dX8_ticks_237 ?_
    refine wp_iload_n (pc := 240) X dX8_ticks_240 rfl rfl ?_
    refine wp_bipush (pc := 241) (v := nI 36) X dX8_ticks_241 (by decide) ?_
    refine wn_iadd (pc := 243) X dX8_ticks_243 ?_
    refine wp_iload_n (pc := 244) X dX8_ticks_244 rfl rfl ?_
    refine wn_iadd (pc := 245) X dX8_ticks_245 ?_
    refine wp_dup2 (pc := 246) X dX8_ticks_246 rfl rfl ?_
    obtain ⟨hj14, h⟩ := h
    refine wn_iald (pc := 247) X A_140 hj14 (by decide) dX8_ticks_247 ?_
    refine wp_iconst (pc := 248) (v := nI 1) X dX8_ticks_248 (by decide) ?_
    refine wp_iadd (pc := 249) X dX8_ticks_249 ?_
    obtain ⟨hj15, h⟩ := h
    refine wn_iast (pc := 250) X A_140 hj15 (by decide) dX8_ticks_250 ?_
    refine wp_aload_n (pc := 251) X dX8_ticks_251 rfl rfl ?_
    refine wp_get (pc := 252) X fl_X8_7 A_139 (by decide) (fg_8_0 A_139) dX8_ticks_252 ?_
    refine wp_iload_n (pc := 255) X dX8_ticks_255 rfl rfl ?_
    refine wp_bipush (pc := 256) (v := nI 47) X dX8_ticks_256 (by decide) ?_
    refine wn_iadd (pc := 258) X dX8_ticks_258 ?_
    refine wp_dup2 (pc := 259) X dX8_ticks_259 rfl rfl ?_
    obtain ⟨hj16, h⟩ := h
    refine wn_iald (pc := 260) X A_140 hj16 (by decide) dX8_ticks_260 ?_
    refine wp_iconst (pc := 261) (v := nI 1) X dX8_ticks_261 (by decide) ?_
    refine wp_iadd (pc := 262) X dX8_ticks_262 ?_
    obtain ⟨hj17, h⟩ := h
    refine wn_iast (pc := 263) X A_140 hj17 (by decide) dX8_ticks_263 ?_
    refine wp_aload_n (pc := 264) X dX8_ticks_264 rfl rfl ?_
    refine wp_get (pc := 265) X fl_X8_7 A_139 (by decide) (fg_8_0 A_139) dX8_ticks_265 ?_
    refine wp_iload_n (pc := 268) X dX8_ticks_268 rfl rfl ?_
    refine wp_bipush (pc := 269) (v := nI 45) X dX8_ticks_269 (by decide) ?_
    refine wn_iadd (pc := 271) X dX8_ticks_271 ?_
    refine wp_dup2 (pc := 272) X dX8_ticks_272 rfl rfl ?_
    obtain ⟨hj18, h⟩ := h
    refine wn_iald (pc := 273) X A_140 hj18 (by decide) dX8_ticks_273 ?_
    refine wp_iconst (pc := 274) (v := nI 1) X dX8_ticks_274 (by decide) ?_
    refine wp_iadd (pc := 275) X dX8_ticks_275 ?_
    obtain ⟨hj19, h⟩ := h
    refine wn_iast (pc := 276) X A_140 hj19 (by decide) dX8_ticks_276 ?_
    refine wp_iload_n (pc := 277) X dX8_ticks_277 rfl rfl ?_
    exact wp_iret (pc := 278) X T dX8_ticks_278 h
  · replace h := h.2 hc
    refine wp_iload_n (pc := 110) X dX8_ticks_110 rfl rfl ?_
    refine wp_bipush (pc := 111) (v := nI 89) X dX8_ticks_111 (by decide) ?_
    refine wn_iadd (pc := 113) X dX8_ticks_113 ?_
    refine wp_bipush (pc := 114) (v := nI 16) X dX8_ticks_114 (by decide) ?_
    refine wp_iload (pc := 116) X dX8_ticks_116 rfl ?_
    refine wn_imul (pc := 118) X dX8_ticks_118 ?_
    refine wn_iadd (pc := 119) X dX8_ticks_119 ?_
    refine wp_istore (pc := 120) (lo' := [some (.ref 139), some (.int (nI r)), some (.int (nI 0)), some (.int (nI f)), some (.int (nI y)), some (.int (nI l)), some (.int (nI (r + 89 + (16 * l))))]) X dX8_ticks_120 (Nat.le_of_ble_eq_true rfl) rfl rfl ?_
    refine wp_aload_n (pc := 122) X dX8_ticks_122 rfl rfl ?_
    refine wp_iload_n (pc := 123) X dX8_ticks_123 rfl rfl ?_
    refine wp_iload (pc := 124) X dX8_ticks_124 rfl ?_
    refine wp_invV (pc := 126) X sv_X8_82 A_139 (by decide) rfl ⟨by decide, by decide⟩ (As := [.int (nI r), .int (nI l)]) (st := []) rfl rfl (Nat.le_of_ble_eq_true rfl) dX8_ticks_126 ?_
    refine CM.mono h (fun r21 M20 h => ?_)
    refine wp_if_eq (pc := 129) (tgt := 148) X dX8_ticks_129 (by decide) (fun hc => ?_) (fun hc => ?_)
    · replace h := h.1 hc
      refine wp_iload_n (pc := 148) X dX8_ticks_148 rfl rfl ?_
      refine wp_if_eq (pc := 149) (tgt := 162) X dX8_ticks_149 (by decide) (fun _ => ?_) (fun hc => absurd hc (by decide))
      refine wp_aload_n (pc := 162) X dX8_ticks_162 rfl rfl ?_
      refine wp_iload_n (pc := 163) X dX8_ticks_163 rfl rfl ?_
      refine wp_iload (pc := 164) X dX8_ticks_164 rfl ?_
      refine wp_iload_n (pc := 166) X dX8_ticks_166 rfl rfl ?_
      refine wp_iload (pc := 167) X dX8_ticks_167 rfl ?_
      refine wp_invVv (pc := 169) X sv_X8_89 A_139 (by decide) rfl ⟨by decide, by decide⟩ (As := [.int (nI r), .int (nI (r + 89 + (16 * l))), .int (nI f), .int (nI y)]) (st := []) rfl rfl (Nat.le_of_ble_eq_true rfl) dX8_ticks_169 ?_
      refine CM.mono h (fun _ M22 h => ?_)
      refine wn_iinc (pc := 172) (d := 1) (lo' := [some (.ref 139), some (.int (nI r)), some (.int (nI 0)), some (.int (nI f)), some (.int (nI y)), some (.int (nI (l + 1))), some (.int (nI (r + 89 + (16 * l))))]) X dX8_ticks_172 rfl (by decide) rfl rfl ?_
      refine wp_goto (pc := 175) (tgt := 96) X dX8_ticks_175 (by decide) ?_
      exact wp_drop (show subL _ [some (.ref 139), some (.int (nI r)), some (.int (nI 0)), some (.int (nI f)), some (.int (nI y)), some (.int (nI (l + 1))), none] from ⟨rfl, ⟨rfl, ⟨rfl, ⟨rfl, ⟨rfl, ⟨rfl, trivial⟩⟩⟩⟩⟩⟩) h
    · replace h := h.2 hc
      refine wp_aload_n (pc := 132) X dX8_ticks_132 rfl rfl ?_
      refine wp_get (pc := 133) X fl_X8_7 A_139 (by decide) (fg_8_0 A_139) dX8_ticks_133 ?_
      refine wp_iload (pc := 136) X dX8_ticks_136 rfl ?_
      refine wp_iconst (pc := 138) (v := nI 3) X dX8_ticks_138 (by decide) ?_
      refine wn_iadd (pc := 139) X dX8_ticks_139 ?_
      refine wp_dup2 (pc := 140) X dX8_ticks_140 rfl rfl ?_
      obtain ⟨hj24, h⟩ := h
      refine wn_iald (pc := 141) X A_140 hj24 (by decide) dX8_ticks_141 ?_
      refine wp_iconst (pc := 142) (v := nI 1) X dX8_ticks_142 (by decide) ?_
      refine wp_iadd (pc := 143) X dX8_ticks_143 ?_
      obtain ⟨hj25, h⟩ := h
      refine wn_iast (pc := 144) X A_140 hj25 (by decide) dX8_ticks_144 ?_
      refine wp_goto (pc := 145) (tgt := 172) X dX8_ticks_145 (by decide) ?_
      refine wn_iinc (pc := 172) (d := 1) (lo' := [some (.ref 139), some (.int (nI r)), some (.int (nI 0)), some (.int (nI f)), some (.int (nI y)), some (.int (nI (l + 1))), some (.int (nI (r + 89 + (16 * l))))]) X dX8_ticks_172 rfl (by decide) rfl rfl ?_
      refine wp_goto (pc := 175) (tgt := 96) X dX8_ticks_175 (by decide) ?_
      exact wp_drop (show subL _ [some (.ref 139), some (.int (nI r)), some (.int (nI 0)), some (.int (nI f)), some (.int (nI y)), some (.int (nI (l + 1))), none] from ⟨rfl, ⟨rfl, ⟨rfl, ⟨rfl, ⟨rfl, ⟨rfl, trivial⟩⟩⟩⟩⟩⟩) h
theorem r_X8_copies_0 {x : CT} {L : List Nat} {Q : Int32 → Mem → Prop} {M : Mem}  {a1 a2 : Nat} (X : BS x L cX8_copies 4 RX8 (m_X8_copies).2.2.2.2) (T : RT x L none Q) 
    (h : WP x L 2 [some (.ref 139), some (.int (nI a1)), some (.int (nI a2)), some (.int (nI 0))] [] M) : WP x L 0 [some (.ref 139), some (.int (nI a1)), some (.int (nI a2)), none] [] M := by
  refine wp_iconst (pc := 0) (v := nI 0) X dX8_copies_0 (by decide) ?_
  refine wp_istore_n (pc := 1) (lo' := [some (.ref 139), some (.int (nI a1)), some (.int (nI a2)), some (.int (nI 0))]) X dX8_copies_1 rfl (Nat.le_of_ble_eq_true rfl) rfl rfl ?_
  exact h
theorem r_X8_copies_2 {x : CT} {L : List Nat} {Q : Int32 → Mem → Prop} {M : Mem}  {a1 a2 k : Nat} (X : BS x L cX8_copies 4 RX8 (m_X8_copies).2.2.2.2) (T : RT x L none Q) (A_139 : AC L 139 8 0) (A_140 : AC L 140 9 918)
    (h : k < 2 ^ 31 ∧ (153 ≤ k → Q 0 M) ∧ (k < 153 → (a1 + k) < 918 ∧ (a2 + k) < 918 ∧ WP x L 2 [some (.ref 139), some (.int (nI a1)), some (.int (nI a2)), some (.int (nI (k + 1)))] [] (MU M 140 (a2 + k) (M 140 (a1 + k))))) : WP x L 2 [some (.ref 139), some (.int (nI a1)), some (.int (nI a2)), some (.int (nI k))] [] M := by
  refine wp_iload_n (pc := 2) X dX8_copies_2 rfl rfl ?_
  refine wp_sipush (pc := 3) (v := nI 153) X dX8_copies_3 (by decide) ?_
  obtain ⟨hb3, h⟩ := h
  refine wn_icmp_ge (pc := 6) (tgt := 31) X dX8_copies_6 (by decide) hb3 (by decide) (fun hc => ?_) (fun hc => ?_)
  · replace h := h.1 hc
    exact wp_ret (pc := 31) X T dX8_copies_31 h
  · replace h := h.2 hc
    refine wp_aload_n (pc := 9) X dX8_copies_9 rfl rfl ?_
    refine wp_get (pc := 10) X fl_X8_7 A_139 (by decide) (fg_8_0 A_139) dX8_copies_10 ?_
    refine wp_iload_n (pc := 13) X dX8_copies_13 rfl rfl ?_
    refine wp_iload_n (pc := 14) X dX8_copies_14 rfl rfl ?_
    refine wn_iadd (pc := 15) X dX8_copies_15 ?_
    refine wp_aload_n (pc := 16) X dX8_copies_16 rfl rfl ?_
    refine wp_get (pc := 17) X fl_X8_7 A_139 (by decide) (fg_8_0 A_139) dX8_copies_17 ?_
    refine wp_iload_n (pc := 20) X dX8_copies_20 rfl rfl ?_
    refine wp_iload_n (pc := 21) X dX8_copies_21 rfl rfl ?_
    refine wn_iadd (pc := 22) X dX8_copies_22 ?_
    obtain ⟨hj1, h⟩ := h
    refine wn_iald (pc := 23) X A_140 hj1 (by decide) dX8_copies_23 ?_
    obtain ⟨hj2, h⟩ := h
    refine wn_iast (pc := 24) X A_140 hj2 (by decide) dX8_copies_24 ?_
    refine wn_iinc (pc := 25) (d := 1) (lo' := [some (.ref 139), some (.int (nI a1)), some (.int (nI a2)), some (.int (nI (k + 1)))]) X dX8_copies_25 rfl (by decide) rfl rfl ?_
    refine wp_goto (pc := 28) (tgt := 2) X dX8_copies_28 (by decide) ?_
    exact h
theorem r_X8_minds_0 {x : CT} {L : List Nat} {Q : Int32 → Mem → Prop} {M : Mem}  (X : BS x L cX8_minds 2 RX8 (m_X8_minds).2.2.2.2) (T : RT x L none Q) (A_139 : AC L 139 8 0)
    (h : ∃ v1 : Nat, M 139 1 = nI v1 ∧ v1 < 2 ^ 31 ∧ (¬ v1 = 4 → WP x L 47 [some (.ref 139), none] [] M) ∧ (v1 = 4 → WP x L 10 [some (.ref 139), some (.int (nI 2))] [] M)) : WP x L 0 [some (.ref 139), none] [] M := by
  refine wp_aload_n (pc := 0) X dX8_minds_0 rfl rfl ?_
  obtain ⟨v1, he2, h⟩ := h
  refine we_get (pc := 1) X fl_X8_27 A_139 (by decide) (fg_8_1 A_139) he2 dX8_minds_1 ?_
  refine wp_iconst (pc := 4) (v := nI 4) X dX8_minds_4 (by decide) ?_
  obtain ⟨hb3, h⟩ := h
  refine wn_icmp_ne (pc := 5) (tgt := 47) X dX8_minds_5 (by decide) hb3 (by decide) (fun hc => ?_) (fun hc => ?_)
  · replace h := h.1 hc
    exact h
  · replace h := h.2 hc
    refine wp_iconst (pc := 8) (v := nI 2) X dX8_minds_8 (by decide) ?_
    refine wp_istore_n (pc := 9) (lo' := [some (.ref 139), some (.int (nI 2))]) X dX8_minds_9 rfl (Nat.le_of_ble_eq_true rfl) rfl rfl ?_
    exact h
theorem r_X8_minds_10 {x : CT} {L : List Nat} {Q : Int32 → Mem → Prop} {M : Mem}  {k : Nat} (X : BS x L cX8_minds 2 RX8 (m_X8_minds).2.2.2.2) (T : RT x L none Q) (A_139 : AC L 139 8 0)
    (h : k < 2 ^ 31 ∧ (5 ≤ k → ∃ v1 : Nat, M 139 1 = nI v1 ∧ 1 ≤ v1 ∧ WP x L 47 [some (.ref 139), none] [] (MU M 139 1 (nI (v1 - 1)))) ∧ (k < 5 → CM m_X8_copies L [.ref 139, .int (nI (153 * (k + 1))), .int (nI (153 * k))] M (fun _ M4 => WP x L 10 [some (.ref 139), some (.int (nI (k + 1)))] [] M4))) : WP x L 10 [some (.ref 139), some (.int (nI k))] [] M := by
  refine wp_iload_n (pc := 10) X dX8_minds_10 rfl rfl ?_
  refine wp_iconst (pc := 11) (v := nI 5) X dX8_minds_11 (by decide) ?_
  obtain ⟨hb6, h⟩ := h
  refine wn_icmp_ge (pc := 12) (tgt := 37) X dX8_minds_12 (by decide) hb6 (by decide) (fun hc => ?_) (fun hc => ?_)
  · replace h := h.1 hc
    refine wp_aload_n (pc := 37) X dX8_minds_37 rfl rfl ?_
    refine wp_dup (pc := 38) X dX8_minds_38 rfl ?_
    obtain ⟨v1, he2, h⟩ := h
    refine we_get (pc := 39) X fl_X8_27 A_139 (by decide) (fg_8_1 A_139) he2 dX8_minds_39 ?_
    refine wp_iconst (pc := 42) (v := nI 1) X dX8_minds_42 (by decide) ?_
    obtain ⟨hb3, h⟩ := h
    refine wn_isub (pc := 43) X dX8_minds_43 hb3 ?_
    refine wp_put (pc := 44) X fl_X8_27 fp_8_1 A_139 (by decide) (fk_8_1 A_139) (fs_8_1 A_139 _) dX8_minds_44 ?_
    exact wp_drop (show subL _ [some (.ref 139), none] from ⟨rfl, trivial⟩) h
  · replace h := h.2 hc
    refine wp_aload_n (pc := 15) X dX8_minds_15 rfl rfl ?_
    refine wp_sipush (pc := 16) (v := nI 153) X dX8_minds_16 (by decide) ?_
    refine wp_iload_n (pc := 19) X dX8_minds_19 rfl rfl ?_
    refine wp_iconst (pc := 20) (v := nI 1) X dX8_minds_20 (by decide) ?_
    refine wn_iadd (pc := 21) X dX8_minds_21 ?_
    refine wn_imul (pc := 22) X dX8_minds_22 ?_
    refine wp_sipush (pc := 23) (v := nI 153) X dX8_minds_23 (by decide) ?_
    refine wp_iload_n (pc := 26) X dX8_minds_26 rfl rfl ?_
    refine wn_imul (pc := 27) X dX8_minds_27 ?_
    refine wp_invVv (pc := 28) X sv_X8_92 A_139 (by decide) rfl ⟨by decide, by decide⟩ (As := [.int (nI (153 * (k + 1))), .int (nI (153 * k))]) (st := []) rfl rfl (Nat.le_of_ble_eq_true rfl) dX8_minds_28 ?_
    refine CM.mono h (fun _ M4 h => ?_)
    refine wn_iinc (pc := 31) (d := 1) (lo' := [some (.ref 139), some (.int (nI (k + 1)))]) X dX8_minds_31 rfl (by decide) rfl rfl ?_
    refine wp_goto (pc := 34) (tgt := 10) X dX8_minds_34 (by decide) ?_
    exact h
theorem r_X8_minds_47 {x : CT} {L : List Nat} {Q : Int32 → Mem → Prop} {M : Mem}  (X : BS x L cX8_minds 2 RX8 (m_X8_minds).2.2.2.2) (T : RT x L none Q) (A_139 : AC L 139 8 0)
    (h : ∃ v1 : Nat, M 139 1 = nI v1 ∧ CM m_X8_copies L [.ref 139, .int (nI 0), .int (nI (153 * (2 + v1)))] M (fun _ M3 => ∃ v5 : Nat, M3 139 1 = nI v5 ∧ Q 0 (MU M3 139 1 (nI (v5 + 1))))) : WP x L 47 [some (.ref 139), none] [] M := by
  refine wp_aload_n (pc := 47) X dX8_minds_47 rfl rfl ?_
  refine wp_iconst (pc := 48) (v := nI 0) X dX8_minds_48 (by decide) ?_
  refine wp_sipush (pc := 49) (v := nI 153) X dX8_minds_49 (by decide) ?_
  refine wp_iconst (pc := 52) (v := nI 2) X dX8_minds_52 (by decide) ?_
  refine wp_aload_n (pc := 53) X dX8_minds_53 rfl rfl ?_
  obtain ⟨v1, he2, h⟩ := h
  refine we_get (pc := 54) X fl_X8_27 A_139 (by decide) (fg_8_1 A_139) he2 dX8_minds_54 ?_
  refine wn_iadd (pc := 57) X dX8_minds_57 ?_
  refine wn_imul (pc := 58) X dX8_minds_58 ?_
  refine wp_invVv (pc := 59) X sv_X8_92 A_139 (by decide) rfl ⟨by decide, by decide⟩ (As := [.int (nI 0), .int (nI (153 * (2 + v1)))]) (st := []) rfl rfl (Nat.le_of_ble_eq_true rfl) dX8_minds_59 ?_
  refine CM.mono h (fun _ M3 h => ?_)
  refine wp_aload_n (pc := 62) X dX8_minds_62 rfl rfl ?_
  refine wp_dup (pc := 63) X dX8_minds_63 rfl ?_
  obtain ⟨v5, he6, h⟩ := h
  refine we_get (pc := 64) X fl_X8_27 A_139 (by decide) (fg_8_1 A_139) he6 dX8_minds_64 ?_
  refine wp_iconst (pc := 67) (v := nI 1) X dX8_minds_67 (by decide) ?_
  refine wn_iadd (pc := 68) X dX8_minds_68 ?_
  refine wp_put (pc := 69) X fl_X8_27 fp_8_1 A_139 (by decide) (fk_8_1 A_139) (fs_8_1 A_139 _) dX8_minds_69 ?_
  exact wp_ret (pc := 72) X T dX8_minds_72 h
theorem r_X8_undo_0 {x : CT} {L : List Nat} {Q : Int32 → Mem → Prop} {M : Mem}  (X : BS x L cX8_undo 1 RX8 (m_X8_undo).2.2.2.2) (T : RT x L (some .int) Q) (A_139 : AC L 139 8 0)
    (h : ∃ v1 : Nat, M 139 1 = nI v1 ∧ v1 < 2 ^ 31 ∧ (0 < v1 → ∃ v3 : Nat, M 139 1 = nI v3 ∧ ∃ v5 : Nat, (MU M 139 1 ((nI v3) - (nI 1))) 139 1 = nI v5 ∧ CM m_X8_copies L [.ref 139, .int (nI (153 * (2 + v5))), .int (nI 0)] (MU M 139 1 ((nI v3) - (nI 1))) (fun _ M7 => ∃ v9 : Nat, M7 139 1 = nI v9 ∧ Q (nI v9) M7)) ∧ (v1 = 0 → Q (-2) M)) : WP x L 0 [some (.ref 139)] [] M := by
  refine wp_aload_n (pc := 0) X dX8_undo_0 rfl rfl ?_
  obtain ⟨v1, he2, h⟩ := h
  refine we_get (pc := 1) X fl_X8_27 A_139 (by decide) (fg_8_1 A_139) he2 dX8_undo_1 ?_
  obtain ⟨hb11, h⟩ := h
  refine wn_if_ne (pc := 4) (tgt := 10) X dX8_undo_4 (by decide) hb11 (fun hc => ?_) (fun hc => ?_)
  · replace h := h.1 hc
    refine wp_aload_n (pc := 10) X dX8_undo_10 rfl rfl ?_
    refine wp_dup (pc := 11) X dX8_undo_11 rfl ?_
    obtain ⟨v3, he4, h⟩ := h
    refine we_get (pc := 12) X fl_X8_27 A_139 (by decide) (fg_8_1 A_139) he4 dX8_undo_12 ?_
    refine wp_iconst (pc := 15) (v := nI 1) X dX8_undo_15 (by decide) ?_
    refine wp_isub (pc := 16) X dX8_undo_16 ?_
    refine wp_put (pc := 17) X fl_X8_27 fp_8_1 A_139 (by decide) (fk_8_1 A_139) (fs_8_1 A_139 _) dX8_undo_17 ?_
    refine wp_aload_n (pc := 20) X dX8_undo_20 rfl rfl ?_
    refine wp_sipush (pc := 21) (v := nI 153) X dX8_undo_21 (by decide) ?_
    refine wp_iconst (pc := 24) (v := nI 2) X dX8_undo_24 (by decide) ?_
    refine wp_aload_n (pc := 25) X dX8_undo_25 rfl rfl ?_
    obtain ⟨v5, he6, h⟩ := h
    refine we_get (pc := 26) X fl_X8_27 A_139 (by decide) (fg_8_1 A_139) he6 dX8_undo_26 ?_
    refine wn_iadd (pc := 29) X dX8_undo_29 ?_
    refine wn_imul (pc := 30) X dX8_undo_30 ?_
    refine wp_iconst (pc := 31) (v := nI 0) X dX8_undo_31 (by decide) ?_
    refine wp_invVv (pc := 32) X sv_X8_92 A_139 (by decide) rfl ⟨by decide, by decide⟩ (As := [.int (nI (153 * (2 + v5))), .int (nI 0)]) (st := []) rfl rfl (Nat.le_of_ble_eq_true rfl) dX8_undo_32 ?_
    refine CM.mono h (fun _ M7 h => ?_)
    refine wp_aload_n (pc := 35) X dX8_undo_35 rfl rfl ?_
    obtain ⟨v9, he10, h⟩ := h
    refine we_get (pc := 36) X fl_X8_27 A_139 (by decide) (fg_8_1 A_139) he10 dX8_undo_36 ?_
    exact wp_iret (pc := 39) X T dX8_undo_39 h
  · replace h := h.2 hc
    refine wp_bipush (pc := 7) (v := (-2)) X dX8_undo_7 (by decide) ?_
    exact wp_iret (pc := 9) X T dX8_undo_9 h
theorem r_X8_tick_0 {x : CT} {L : List Nat} {Q : Int32 → Mem → Prop} {M : Mem}  {a1 : Int32} (X : BS x L cX8_tick 4 RX8 (m_X8_tick).2.2.2.2) (T : RT x L (some .int) Q) (A_139 : AC L 139 8 0) (A_140 : AC L 140 9 918)
    (h : CM m_X8_within L [.int a1, .int (nI 1), .int (nI 99)] M (fun r2 M1 => (¬ r2 = 0 → (((M1 140 45) + a1) ≤ (nI 9999) → CM m_X8_minds L [.ref 139] M1 (fun _ M3 => WP x L 44 [some (.ref 139), some (.int a1), some (.int (M3 140 47)), some (.int (nI 0))] [] M3)) ∧ (¬ ((M1 140 45) + a1) ≤ (nI 9999) → Q (-2) M1)) ∧ (r2 = 0 → Q (-1) M1))) : WP x L 0 [some (.ref 139), some (.int a1), none, none] [] M := by
  refine wp_iload_n (pc := 0) X dX8_tick_0 rfl rfl ?_
  refine wp_iconst (pc := 1) (v := nI 1) X dX8_tick_1 (by decide) ?_
  refine wp_bipush (pc := 2) (v := nI 99) X dX8_tick_2 (by decide) ?_
  refine wp_invS (pc := 4) X sv_X8_31  rfl ⟨by decide, by decide⟩ (As := [.int a1, .int (nI 1), .int (nI 99)]) (st := []) rfl rfl (Nat.le_of_ble_eq_true rfl) dX8_tick_4 ?_
  refine CM.mono h (fun r2 M1 h => ?_)
  refine wp_if_ne (pc := 7) (tgt := 12) X dX8_tick_7 (by decide) (fun hc => ?_) (fun hc => ?_)
  · replace h := h.1 hc
    refine wp_aload_n (pc := 12) X dX8_tick_12 rfl rfl ?_
    refine wp_get (pc := 13) X fl_X8_7 A_139 (by decide) (fg_8_0 A_139) dX8_tick_13 ?_
    refine wp_bipush (pc := 16) (v := nI 45) X dX8_tick_16 (by decide) ?_
    refine wn_iald (pc := 18) X A_140 (by decide) (by decide) dX8_tick_18 ?_
    refine wp_iload_n (pc := 19) X dX8_tick_19 rfl rfl ?_
    refine wp_iadd (pc := 20) X dX8_tick_20 ?_
    refine wp_sipush (pc := 21) (v := nI 9999) X dX8_tick_21 (by decide) ?_
    refine wp_icmp_le (pc := 24) (tgt := 30) X dX8_tick_24 (by decide) (fun hc => ?_) (fun hc => ?_)
    · replace h := h.1 hc
      refine wp_aload_n (pc := 30) X dX8_tick_30 rfl rfl ?_
      refine wp_invVv (pc := 31) X sv_X8_95 A_139 (by decide) rfl ⟨by decide, by decide⟩ (As := []) (st := []) rfl rfl (Nat.le_of_ble_eq_true rfl) dX8_tick_31 ?_
      refine CM.mono h (fun _ M3 h => ?_)
      refine wp_aload_n (pc := 34) X dX8_tick_34 rfl rfl ?_
      refine wp_get (pc := 35) X fl_X8_7 A_139 (by decide) (fg_8_0 A_139) dX8_tick_35 ?_
      refine wp_bipush (pc := 38) (v := nI 47) X dX8_tick_38 (by decide) ?_
      refine wn_iald (pc := 40) X A_140 (by decide) (by decide) dX8_tick_40 ?_
      refine wp_istore_n (pc := 41) (lo' := [some (.ref 139), some (.int a1), some (.int (M3 140 47)), none]) X dX8_tick_41 rfl (Nat.le_of_ble_eq_true rfl) rfl rfl ?_
      refine wp_iconst (pc := 42) (v := nI 0) X dX8_tick_42 (by decide) ?_
      refine wp_istore_n (pc := 43) (lo' := [some (.ref 139), some (.int a1), some (.int (M3 140 47)), some (.int (nI 0))]) X dX8_tick_43 rfl (Nat.le_of_ble_eq_true rfl) rfl rfl ?_
      exact h
    · replace h := h.2 hc
      refine wp_bipush (pc := 27) (v := (-2)) X dX8_tick_27 (by decide) ?_
      exact wp_iret (pc := 29) X T dX8_tick_29 h
  · replace h := h.2 hc
    refine wp_iconst (pc := 10) (v := (-1)) X dX8_tick_10 (by decide) ?_
    exact wp_iret (pc := 11) X T dX8_tick_11 h
theorem r_X8_tick_44 {x : CT} {L : List Nat} {Q : Int32 → Mem → Prop} {M : Mem}  {n k : Nat} {a2 : Int32} (X : BS x L cX8_tick 4 RX8 (m_X8_tick).2.2.2.2) (T : RT x L (some .int) Q) (A_139 : AC L 139 8 0) (A_140 : AC L 140 9 918)
    (h : k < 2 ^ 31 ∧ n < 2 ^ 31 ∧ (n ≤ k → Q ((M 140 47) - a2) M) ∧ (k < n → CM m_X8_ticks L [.ref 139, .int (nI 0)] M (fun r2 M1 => WP x L 44 [some (.ref 139), some (.int (nI n)), some (.int a2), some (.int (nI (k + 1)))] [] M1))) : WP x L 44 [some (.ref 139), some (.int (nI n)), some (.int a2), some (.int (nI k))] [] M := by
  refine wp_iload_n (pc := 44) X dX8_tick_44 rfl rfl ?_
  refine wp_iload_n (pc := 45) X dX8_tick_45 rfl rfl ?_
  obtain ⟨hb3, hb4, h⟩ := h
  refine wn_icmp_ge (pc := 46) (tgt := 61) X dX8_tick_46 (by decide) hb3 hb4 (fun hc => ?_) (fun hc => ?_)
  · replace h := h.1 hc
    refine wp_aload_n (pc := 61) X dX8_tick_61 rfl rfl ?_
    refine wp_get (pc := 62) X fl_X8_7 A_139 (by decide) (fg_8_0 A_139) dX8_tick_62 ?_
    refine wp_bipush (pc := 65) (v := nI 47) X dX8_tick_65 (by decide) ?_
    refine wn_iald (pc := 67) X A_140 (by decide) (by decide) dX8_tick_67 ?_
    refine wp_iload_n (pc := 68) X dX8_tick_68 rfl rfl ?_
    refine wp_isub (pc := 69) X dX8_tick_69 ?_
    exact wp_iret (pc := 70) X T dX8_tick_70 h
  · replace h := h.2 hc
    refine wp_aload_n (pc := 49) X dX8_tick_49 rfl rfl ?_
    refine wp_iconst (pc := 50) (v := nI 0) X dX8_tick_50 (by decide) ?_
    refine wp_invV (pc := 51) X sv_X8_98 A_139 (by decide) rfl ⟨by decide, by decide⟩ (As := [.int (nI 0)]) (st := []) rfl rfl (Nat.le_of_ble_eq_true rfl) dX8_tick_51 ?_
    refine CM.mono h (fun r2 M1 h => ?_)
    refine wp_pop (pc := 54) X dX8_tick_54 rfl ?_
    refine wn_iinc (pc := 55) (d := 1) (lo' := [some (.ref 139), some (.int (nI n)), some (.int a2), some (.int (nI (k + 1)))]) X dX8_tick_55 rfl (by decide) rfl rfl ?_
    refine wp_goto (pc := 58) (tgt := 44) X dX8_tick_58 (by decide) ?_
    exact h
theorem r_X8_isFile_0 {x : CT} {L : List Nat} {Q : Int32 → Mem → Prop} {M : Mem}  {a1 : Int32} (X : BS x L cX8_isFile 2 RX8 (m_X8_isFile).2.2.2.2) (T : RT x L (some .boolean) Q) (A_139 : AC L 139 8 0) (A_140 : AC L 140 9 918)
    (h : CM m_X8_within L [.int a1, .int (nI 0), .int ((M 140 42) - (nI 1))] M (fun r2 M1 => (r2 = 0 ∨ r2 = 1) ∧ Q r2 M1)) : WP x L 0 [some (.ref 139), some (.int a1)] [] M := by
  refine wp_iload_n (pc := 0) X dX8_isFile_0 rfl rfl ?_
  refine wp_iconst (pc := 1) (v := nI 0) X dX8_isFile_1 (by decide) ?_
  refine wp_aload_n (pc := 2) X dX8_isFile_2 rfl rfl ?_
  refine wp_get (pc := 3) X fl_X8_7 A_139 (by decide) (fg_8_0 A_139) dX8_isFile_3 ?_
  refine wp_bipush (pc := 6) (v := nI 42) X dX8_isFile_6 (by decide) ?_
  refine wn_iald (pc := 8) X A_140 (by decide) (by decide) dX8_isFile_8 ?_
  refine wp_iconst (pc := 9) (v := nI 1) X dX8_isFile_9 (by decide) ?_
  refine wp_isub (pc := 10) X dX8_isFile_10 ?_
  refine wp_invS (pc := 11) X sv_X8_31  rfl ⟨by decide, by decide⟩ (As := [.int a1, .int (nI 0), .int ((M 140 42) - (nI 1))]) (st := []) rfl rfl (Nat.le_of_ble_eq_true rfl) dX8_isFile_11 ?_
  refine CM.mono h (fun r2 M1 h => ?_)
  exact wp_zret (pc := 14) X T h.1 dX8_isFile_14 h.2
theorem r_X8_isListener_0 {x : CT} {L : List Nat} {Q : Int32 → Mem → Prop} {M : Mem}  {a1 : Int32} (X : BS x L cX8_isListener 2 RX8 (m_X8_isListener).2.2.2.2) (T : RT x L (some .boolean) Q) (A_139 : AC L 139 8 0) (A_140 : AC L 140 9 918)
    (h : CM m_X8_within L [.int a1, .int (nI 0), .int ((M 140 48) - (nI 1))] M (fun r2 M1 => (r2 = 0 ∨ r2 = 1) ∧ Q r2 M1)) : WP x L 0 [some (.ref 139), some (.int a1)] [] M := by
  refine wp_iload_n (pc := 0) X dX8_isListener_0 rfl rfl ?_
  refine wp_iconst (pc := 1) (v := nI 0) X dX8_isListener_1 (by decide) ?_
  refine wp_aload_n (pc := 2) X dX8_isListener_2 rfl rfl ?_
  refine wp_get (pc := 3) X fl_X8_7 A_139 (by decide) (fg_8_0 A_139) dX8_isListener_3 ?_
  refine wp_bipush (pc := 6) (v := nI 48) X dX8_isListener_6 (by decide) ?_
  refine wn_iald (pc := 8) X A_140 (by decide) (by decide) dX8_isListener_8 ?_
  refine wp_iconst (pc := 9) (v := nI 1) X dX8_isListener_9 (by decide) ?_
  refine wp_isub (pc := 10) X dX8_isListener_10 ?_
  refine wp_invS (pc := 11) X sv_X8_31  rfl ⟨by decide, by decide⟩ (As := [.int a1, .int (nI 0), .int ((M 140 48) - (nI 1))]) (st := []) rfl rfl (Nat.le_of_ble_eq_true rfl) dX8_isListener_11 ?_
  refine CM.mono h (fun r2 M1 h => ?_)
  exact wp_zret (pc := 14) X T h.1 dX8_isListener_14 h.2
theorem r_X8_renew_0 {x : CT} {L : List Nat} {Q : Int32 → Mem → Prop} {M : Mem}  {a1 : Int32} (X : BS x L cX8_renew 2 RX8 (m_X8_renew).2.2.2.2) (T : RT x L (some .int) Q) (A_139 : AC L 139 8 0) (A_140 : AC L 140 9 918)
    (h : CM m_X8_isFile L [.ref 139, .int a1] M (fun r2 M1 => (¬ r2 = 0 → CM m_X8_minds L [.ref 139] M1 (fun _ M3 => vp_in ((nI 18) + a1) 918 ∧ ¬ (nI 100) = 0 ∧ vp_in ((nI 18) + a1) 918 ∧ vp_in ((nI 24) + a1) 918 ∧ vp_in ((nI 18) + a1) 918 ∧ Q ((MU (MU M3 140 (Int32.toNatClampNeg ((nI 18) + a1)) (((M3 140 (Int32.toNatClampNeg ((nI 18) + a1))) + (nI 1)) - ((M3 140 (Int32.toNatClampNeg ((nI 18) + a1))) + (nI 1)) / (nI 100) * (nI 100))) 140 (Int32.toNatClampNeg ((nI 24) + a1)) (nI 0)) 140 (Int32.toNatClampNeg ((nI 18) + a1))) (MU (MU M3 140 (Int32.toNatClampNeg ((nI 18) + a1)) (((M3 140 (Int32.toNatClampNeg ((nI 18) + a1))) + (nI 1)) - ((M3 140 (Int32.toNatClampNeg ((nI 18) + a1))) + (nI 1)) / (nI 100) * (nI 100))) 140 (Int32.toNatClampNeg ((nI 24) + a1)) (nI 0)))) ∧ (r2 = 0 → Q (-1) M1))) : WP x L 0 [some (.ref 139), some (.int a1)] [] M := by
  refine wp_aload_n (pc := 0) X dX8_renew_0 rfl rfl ?_
  refine wp_iload_n (pc := 1) X dX8_renew_1 rfl rfl ?_
  refine wp_invV (pc := 2) X sv_X8_101 A_139 (by decide) rfl ⟨by decide, by decide⟩ (As := [.int a1]) (st := []) rfl rfl (Nat.le_of_ble_eq_true rfl) dX8_renew_2 ?_
  refine CM.mono h (fun r2 M1 h => ?_)
  refine wp_if_ne (pc := 5) (tgt := 10) X dX8_renew_5 (by decide) (fun hc => ?_) (fun hc => ?_)
  · replace h := h.1 hc
    refine wp_aload_n (pc := 10) X dX8_renew_10 rfl rfl ?_
    refine wp_invVv (pc := 11) X sv_X8_95 A_139 (by decide) rfl ⟨by decide, by decide⟩ (As := []) (st := []) rfl rfl (Nat.le_of_ble_eq_true rfl) dX8_renew_11 ?_
    refine CM.mono h (fun _ M3 h => ?_)
    refine wp_aload_n (pc := 14) X dX8_renew_14 rfl rfl ?_
    refine wp_get (pc := 15) X fl_X8_7 A_139 (by decide) (fg_8_0 A_139) dX8_renew_15 ?_
    refine wp_bipush (pc := 18) (v := nI 18) X dX8_renew_18 (by decide) ?_
    refine wp_iload_n (pc := 20) X dX8_renew_20 rfl rfl ?_
    refine wp_iadd (pc := 21) X dX8_renew_21 ?_
    refine wp_aload_n (pc := 22) X dX8_renew_22 rfl rfl ?_
    refine wp_get (pc := 23) X fl_X8_7 A_139 (by decide) (fg_8_0 A_139) dX8_renew_23 ?_
    refine wp_bipush (pc := 26) (v := nI 18) X dX8_renew_26 (by decide) ?_
    refine wp_iload_n (pc := 28) X dX8_renew_28 rfl rfl ?_
    refine wp_iadd (pc := 29) X dX8_renew_29 ?_
    obtain ⟨hj5, h⟩ := h
    refine wp_iald (pc := 30) X A_140 hj5 dX8_renew_30 ?_
    refine wp_iconst (pc := 31) (v := nI 1) X dX8_renew_31 (by decide) ?_
    refine wp_iadd (pc := 32) X dX8_renew_32 ?_
    refine wp_bipush (pc := 33) (v := nI 100) X dX8_renew_33 (by decide) ?_
    obtain ⟨hb6, h⟩ := h
    refine wp_irem (pc := 35) X dX8_renew_35 hb6 ?_
    obtain ⟨hj7, h⟩ := h
    refine wp_iast (pc := 36) X A_140 hj7 dX8_renew_36 ?_
    refine wp_aload_n (pc := 37) X dX8_renew_37 rfl rfl ?_
    refine wp_get (pc := 38) X fl_X8_7 A_139 (by decide) (fg_8_0 A_139) dX8_renew_38 ?_
    refine wp_bipush (pc := 41) (v := nI 24) X dX8_renew_41 (by decide) ?_
    refine wp_iload_n (pc := 43) X dX8_renew_43 rfl rfl ?_
    refine wp_iadd (pc := 44) X dX8_renew_44 ?_
    refine wp_iconst (pc := 45) (v := nI 0) X dX8_renew_45 (by decide) ?_
    obtain ⟨hj8, h⟩ := h
    refine wp_iast (pc := 46) X A_140 hj8 dX8_renew_46 ?_
    refine wp_aload_n (pc := 47) X dX8_renew_47 rfl rfl ?_
    refine wp_get (pc := 48) X fl_X8_7 A_139 (by decide) (fg_8_0 A_139) dX8_renew_48 ?_
    refine wp_bipush (pc := 51) (v := nI 18) X dX8_renew_51 (by decide) ?_
    refine wp_iload_n (pc := 53) X dX8_renew_53 rfl rfl ?_
    refine wp_iadd (pc := 54) X dX8_renew_54 ?_
    obtain ⟨hj9, h⟩ := h
    refine wp_iald (pc := 55) X A_140 hj9 dX8_renew_55 ?_
    exact wp_iret (pc := 56) X T dX8_renew_56 h
  · replace h := h.2 hc
    refine wp_iconst (pc := 8) (v := (-1)) X dX8_renew_8 (by decide) ?_
    exact wp_iret (pc := 9) X T dX8_renew_9 h
theorem r_X8_renewN_0 {x : CT} {L : List Nat} {Q : Int32 → Mem → Prop} {M : Mem}  {f : Nat} (X : BS x L cX8_renew 2 RX8 (m_X8_renew).2.2.2.2) (T : RT x L (some .int) Q) (A_139 : AC L 139 8 0) (A_140 : AC L 140 9 918)
    (h : CM m_X8_isFile L [.ref 139, .int (nI f)] M (fun r2 M1 => (¬ r2 = 0 → CM m_X8_minds L [.ref 139] M1 (fun _ M3 => (18 + f) < 918 ∧ ¬ (nI 100) = 0 ∧ (18 + f) < 918 ∧ (24 + f) < 918 ∧ (18 + f) < 918 ∧ Q ((MU (MU M3 140 (18 + f) (((M3 140 (18 + f)) + (nI 1)) - ((M3 140 (18 + f)) + (nI 1)) / (nI 100) * (nI 100))) 140 (24 + f) (nI 0)) 140 (18 + f)) (MU (MU M3 140 (18 + f) (((M3 140 (18 + f)) + (nI 1)) - ((M3 140 (18 + f)) + (nI 1)) / (nI 100) * (nI 100))) 140 (24 + f) (nI 0)))) ∧ (r2 = 0 → Q (-1) M1))) : WP x L 0 [some (.ref 139), some (.int (nI f))] [] M := by
  refine wp_aload_n (pc := 0) X dX8_renew_0 rfl rfl ?_
  refine wp_iload_n (pc := 1) X dX8_renew_1 rfl rfl ?_
  refine wp_invV (pc := 2) X sv_X8_101 A_139 (by decide) rfl ⟨by decide, by decide⟩ (As := [.int (nI f)]) (st := []) rfl rfl (Nat.le_of_ble_eq_true rfl) dX8_renew_2 ?_
  refine CM.mono h (fun r2 M1 h => ?_)
  refine wp_if_ne (pc := 5) (tgt := 10) X dX8_renew_5 (by decide) (fun hc => ?_) (fun hc => ?_)
  · replace h := h.1 hc
    refine wp_aload_n (pc := 10) X dX8_renew_10 rfl rfl ?_
    refine wp_invVv (pc := 11) X sv_X8_95 A_139 (by decide) rfl ⟨by decide, by decide⟩ (As := []) (st := []) rfl rfl (Nat.le_of_ble_eq_true rfl) dX8_renew_11 ?_
    refine CM.mono h (fun _ M3 h => ?_)
    refine wp_aload_n (pc := 14) X dX8_renew_14 rfl rfl ?_
    refine wp_get (pc := 15) X fl_X8_7 A_139 (by decide) (fg_8_0 A_139) dX8_renew_15 ?_
    refine wp_bipush (pc := 18) (v := nI 18) X dX8_renew_18 (by decide) ?_
    refine wp_iload_n (pc := 20) X dX8_renew_20 rfl rfl ?_
    refine wn_iadd (pc := 21) X dX8_renew_21 ?_
    refine wp_aload_n (pc := 22) X dX8_renew_22 rfl rfl ?_
    refine wp_get (pc := 23) X fl_X8_7 A_139 (by decide) (fg_8_0 A_139) dX8_renew_23 ?_
    refine wp_bipush (pc := 26) (v := nI 18) X dX8_renew_26 (by decide) ?_
    refine wp_iload_n (pc := 28) X dX8_renew_28 rfl rfl ?_
    refine wn_iadd (pc := 29) X dX8_renew_29 ?_
    obtain ⟨hj5, h⟩ := h
    refine wn_iald (pc := 30) X A_140 hj5 (by decide) dX8_renew_30 ?_
    refine wp_iconst (pc := 31) (v := nI 1) X dX8_renew_31 (by decide) ?_
    refine wp_iadd (pc := 32) X dX8_renew_32 ?_
    refine wp_bipush (pc := 33) (v := nI 100) X dX8_renew_33 (by decide) ?_
    obtain ⟨hb6, h⟩ := h
    refine wp_irem (pc := 35) X dX8_renew_35 hb6 ?_
    obtain ⟨hj7, h⟩ := h
    refine wn_iast (pc := 36) X A_140 hj7 (by decide) dX8_renew_36 ?_
    refine wp_aload_n (pc := 37) X dX8_renew_37 rfl rfl ?_
    refine wp_get (pc := 38) X fl_X8_7 A_139 (by decide) (fg_8_0 A_139) dX8_renew_38 ?_
    refine wp_bipush (pc := 41) (v := nI 24) X dX8_renew_41 (by decide) ?_
    refine wp_iload_n (pc := 43) X dX8_renew_43 rfl rfl ?_
    refine wn_iadd (pc := 44) X dX8_renew_44 ?_
    refine wp_iconst (pc := 45) (v := nI 0) X dX8_renew_45 (by decide) ?_
    obtain ⟨hj8, h⟩ := h
    refine wn_iast (pc := 46) X A_140 hj8 (by decide) dX8_renew_46 ?_
    refine wp_aload_n (pc := 47) X dX8_renew_47 rfl rfl ?_
    refine wp_get (pc := 48) X fl_X8_7 A_139 (by decide) (fg_8_0 A_139) dX8_renew_48 ?_
    refine wp_bipush (pc := 51) (v := nI 18) X dX8_renew_51 (by decide) ?_
    refine wp_iload_n (pc := 53) X dX8_renew_53 rfl rfl ?_
    refine wn_iadd (pc := 54) X dX8_renew_54 ?_
    obtain ⟨hj9, h⟩ := h
    refine wn_iald (pc := 55) X A_140 hj9 (by decide) dX8_renew_55 ?_
    exact wp_iret (pc := 56) X T dX8_renew_56 h
  · replace h := h.2 hc
    refine wp_iconst (pc := 8) (v := (-1)) X dX8_renew_8 (by decide) ?_
    exact wp_iret (pc := 9) X T dX8_renew_9 h
theorem r_X8_weigh_0 {x : CT} {L : List Nat} {Q : Int32 → Mem → Prop} {M : Mem}  {a1 a2 : Int32} (X : BS x L cX8_weigh 4 RX8 (m_X8_weigh).2.2.2.2) (T : RT x L (some .int) Q) (A_139 : AC L 139 8 0) (A_140 : AC L 140 9 918)
    (h : CM m_X8_isFile L [.ref 139, .int a1] M (fun r2 M1 => (r2 = 0 → Q (-1) M1) ∧ (¬ r2 = 0 → CM m_X8_within L [.int a2, .int (nI 1), .int (nI 9)] M1 (fun r4 M3 => (¬ r4 = 0 → vp_in ((nI 12) + a1) 918 ∧ (¬ (M3 140 (Int32.toNatClampNeg ((nI 12) + a1))) = a2 → CM m_X8_minds L [.ref 139] M3 (fun _ M6 => vp_in ((nI 12) + a1) 918 ∧ Q (M3 140 (Int32.toNatClampNeg ((nI 12) + a1))) (MU M6 140 (Int32.toNatClampNeg ((nI 12) + a1)) a2))) ∧ ((M3 140 (Int32.toNatClampNeg ((nI 12) + a1))) = a2 → Q (-2) M3)) ∧ (r4 = 0 → Q (-1) M3))))) : WP x L 0 [some (.ref 139), some (.int a1), some (.int a2), none] [] M := by
  refine wp_aload_n (pc := 0) X dX8_weigh_0 rfl rfl ?_
  refine wp_iload_n (pc := 1) X dX8_weigh_1 rfl rfl ?_
  refine wp_invV (pc := 2) X sv_X8_101 A_139 (by decide) rfl ⟨by decide, by decide⟩ (As := [.int a1]) (st := []) rfl rfl (Nat.le_of_ble_eq_true rfl) dX8_weigh_2 ?_
  refine CM.mono h (fun r2 M1 h => ?_)
  refine wp_if_eq (pc := 5) (tgt := 18) X dX8_weigh_5 (by decide) (fun hc => ?_) (fun hc => ?_)
  · replace h := h.1 hc
    refine wp_iconst (pc := 18) (v := (-1)) X dX8_weigh_18 (by decide) ?_
    exact wp_iret (pc := 19) X T dX8_weigh_19 h
  · replace h := h.2 hc
    refine wp_iload_n (pc := 8) X dX8_weigh_8 rfl rfl ?_
    refine wp_iconst (pc := 9) (v := nI 1) X dX8_weigh_9 (by decide) ?_
    refine wp_bipush (pc := 10) (v := nI 9) X dX8_weigh_10 (by decide) ?_
    refine wp_invS (pc := 12) X sv_X8_31  rfl ⟨by decide, by decide⟩ (As := [.int a2, .int (nI 1), .int (nI 9)]) (st := []) rfl rfl (Nat.le_of_ble_eq_true rfl) dX8_weigh_12 ?_
    refine CM.mono h (fun r4 M3 h => ?_)
    refine wp_if_ne (pc := 15) (tgt := 20) X dX8_weigh_15 (by decide) (fun hc => ?_) (fun hc => ?_)
    · replace h := h.1 hc
      refine wp_aload_n (pc := 20) X dX8_weigh_20 rfl rfl ?_
      refine wp_get (pc := 21) X fl_X8_7 A_139 (by decide) (fg_8_0 A_139) dX8_weigh_21 ?_
      refine wp_bipush (pc := 24) (v := nI 12) X dX8_weigh_24 (by decide) ?_
      refine wp_iload_n (pc := 26) X dX8_weigh_26 rfl rfl ?_
      refine wp_iadd (pc := 27) X dX8_weigh_27 ?_
      obtain ⟨hj5, h⟩ := h
      refine wp_iald (pc := 28) X A_140 hj5 dX8_weigh_28 ?_
      refine wp_istore_n (pc := 29) (lo' := [some (.ref 139), some (.int a1), some (.int a2), some (.int (M3 140 (Int32.toNatClampNeg ((nI 12) + a1))))]) X dX8_weigh_29 rfl (Nat.le_of_ble_eq_true rfl) rfl rfl ?_
      refine wp_iload_n (pc := 30) X dX8_weigh_30 rfl rfl ?_
      refine wp_iload_n (pc := 31) X dX8_weigh_31 rfl rfl ?_
      refine wp_icmp_ne (pc := 32) (tgt := 38) X dX8_weigh_32 (by decide) (fun hc => ?_) (fun hc => ?_)
      · replace h := h.1 hc
        refine wp_aload_n (pc := 38) X dX8_weigh_38 rfl rfl ?_
        refine wp_invVv (pc := 39) X sv_X8_95 A_139 (by decide) rfl ⟨by decide, by decide⟩ (As := []) (st := []) rfl rfl (Nat.le_of_ble_eq_true rfl) dX8_weigh_39 ?_
        refine CM.mono h (fun _ M6 h => ?_)
        refine wp_aload_n (pc := 42) X dX8_weigh_42 rfl rfl ?_
        refine wp_get (pc := 43) X fl_X8_7 A_139 (by decide) (fg_8_0 A_139) dX8_weigh_43 ?_
        refine wp_bipush (pc := 46) (v := nI 12) X dX8_weigh_46 (by decide) ?_
        refine wp_iload_n (pc := 48) X dX8_weigh_48 rfl rfl ?_
        refine wp_iadd (pc := 49) X dX8_weigh_49 ?_
        refine wp_iload_n (pc := 50) X dX8_weigh_50 rfl rfl ?_
        obtain ⟨hj8, h⟩ := h
        refine wp_iast (pc := 51) X A_140 hj8 dX8_weigh_51 ?_
        refine wp_iload_n (pc := 52) X dX8_weigh_52 rfl rfl ?_
        exact wp_iret (pc := 53) X T dX8_weigh_53 h
      · replace h := h.2 hc
        refine wp_bipush (pc := 35) (v := (-2)) X dX8_weigh_35 (by decide) ?_
        exact wp_iret (pc := 37) X T dX8_weigh_37 h
    · replace h := h.2 hc
      refine wp_iconst (pc := 18) (v := (-1)) X dX8_weigh_18 (by decide) ?_
      exact wp_iret (pc := 19) X T dX8_weigh_19 h
theorem r_X8_weighN_0 {x : CT} {L : List Nat} {Q : Int32 → Mem → Prop} {M : Mem}  {f : Nat} {a2 : Int32} (X : BS x L cX8_weigh 4 RX8 (m_X8_weigh).2.2.2.2) (T : RT x L (some .int) Q) (A_139 : AC L 139 8 0) (A_140 : AC L 140 9 918)
    (h : CM m_X8_isFile L [.ref 139, .int (nI f)] M (fun r2 M1 => (r2 = 0 → Q (-1) M1) ∧ (¬ r2 = 0 → CM m_X8_within L [.int a2, .int (nI 1), .int (nI 9)] M1 (fun r4 M3 => (¬ r4 = 0 → (12 + f) < 918 ∧ (¬ (M3 140 (12 + f)) = a2 → CM m_X8_minds L [.ref 139] M3 (fun _ M6 => (12 + f) < 918 ∧ Q (M3 140 (12 + f)) (MU M6 140 (12 + f) a2))) ∧ ((M3 140 (12 + f)) = a2 → Q (-2) M3)) ∧ (r4 = 0 → Q (-1) M3))))) : WP x L 0 [some (.ref 139), some (.int (nI f)), some (.int a2), none] [] M := by
  refine wp_aload_n (pc := 0) X dX8_weigh_0 rfl rfl ?_
  refine wp_iload_n (pc := 1) X dX8_weigh_1 rfl rfl ?_
  refine wp_invV (pc := 2) X sv_X8_101 A_139 (by decide) rfl ⟨by decide, by decide⟩ (As := [.int (nI f)]) (st := []) rfl rfl (Nat.le_of_ble_eq_true rfl) dX8_weigh_2 ?_
  refine CM.mono h (fun r2 M1 h => ?_)
  refine wp_if_eq (pc := 5) (tgt := 18) X dX8_weigh_5 (by decide) (fun hc => ?_) (fun hc => ?_)
  · replace h := h.1 hc
    refine wp_iconst (pc := 18) (v := (-1)) X dX8_weigh_18 (by decide) ?_
    exact wp_iret (pc := 19) X T dX8_weigh_19 h
  · replace h := h.2 hc
    refine wp_iload_n (pc := 8) X dX8_weigh_8 rfl rfl ?_
    refine wp_iconst (pc := 9) (v := nI 1) X dX8_weigh_9 (by decide) ?_
    refine wp_bipush (pc := 10) (v := nI 9) X dX8_weigh_10 (by decide) ?_
    refine wp_invS (pc := 12) X sv_X8_31  rfl ⟨by decide, by decide⟩ (As := [.int a2, .int (nI 1), .int (nI 9)]) (st := []) rfl rfl (Nat.le_of_ble_eq_true rfl) dX8_weigh_12 ?_
    refine CM.mono h (fun r4 M3 h => ?_)
    refine wp_if_ne (pc := 15) (tgt := 20) X dX8_weigh_15 (by decide) (fun hc => ?_) (fun hc => ?_)
    · replace h := h.1 hc
      refine wp_aload_n (pc := 20) X dX8_weigh_20 rfl rfl ?_
      refine wp_get (pc := 21) X fl_X8_7 A_139 (by decide) (fg_8_0 A_139) dX8_weigh_21 ?_
      refine wp_bipush (pc := 24) (v := nI 12) X dX8_weigh_24 (by decide) ?_
      refine wp_iload_n (pc := 26) X dX8_weigh_26 rfl rfl ?_
      refine wn_iadd (pc := 27) X dX8_weigh_27 ?_
      obtain ⟨hj5, h⟩ := h
      refine wn_iald (pc := 28) X A_140 hj5 (by decide) dX8_weigh_28 ?_
      refine wp_istore_n (pc := 29) (lo' := [some (.ref 139), some (.int (nI f)), some (.int a2), some (.int (M3 140 (12 + f)))]) X dX8_weigh_29 rfl (Nat.le_of_ble_eq_true rfl) rfl rfl ?_
      refine wp_iload_n (pc := 30) X dX8_weigh_30 rfl rfl ?_
      refine wp_iload_n (pc := 31) X dX8_weigh_31 rfl rfl ?_
      refine wp_icmp_ne (pc := 32) (tgt := 38) X dX8_weigh_32 (by decide) (fun hc => ?_) (fun hc => ?_)
      · replace h := h.1 hc
        refine wp_aload_n (pc := 38) X dX8_weigh_38 rfl rfl ?_
        refine wp_invVv (pc := 39) X sv_X8_95 A_139 (by decide) rfl ⟨by decide, by decide⟩ (As := []) (st := []) rfl rfl (Nat.le_of_ble_eq_true rfl) dX8_weigh_39 ?_
        refine CM.mono h (fun _ M6 h => ?_)
        refine wp_aload_n (pc := 42) X dX8_weigh_42 rfl rfl ?_
        refine wp_get (pc := 43) X fl_X8_7 A_139 (by decide) (fg_8_0 A_139) dX8_weigh_43 ?_
        refine wp_bipush (pc := 46) (v := nI 12) X dX8_weigh_46 (by decide) ?_
        refine wp_iload_n (pc := 48) X dX8_weigh_48 rfl rfl ?_
        refine wn_iadd (pc := 49) X dX8_weigh_49 ?_
        refine wp_iload_n (pc := 50) X dX8_weigh_50 rfl rfl ?_
        obtain ⟨hj8, h⟩ := h
        refine wn_iast (pc := 51) X A_140 hj8 (by decide) dX8_weigh_51 ?_
        refine wp_iload_n (pc := 52) X dX8_weigh_52 rfl rfl ?_
        exact wp_iret (pc := 53) X T dX8_weigh_53 h
      · replace h := h.2 hc
        refine wp_bipush (pc := 35) (v := (-2)) X dX8_weigh_35 (by decide) ?_
        exact wp_iret (pc := 37) X T dX8_weigh_37 h
    · replace h := h.2 hc
      refine wp_iconst (pc := 18) (v := (-1)) X dX8_weigh_18 (by decide) ?_
      exact wp_iret (pc := 19) X T dX8_weigh_19 h
theorem r_X8_join_0 {x : CT} {L : List Nat} {Q : Int32 → Mem → Prop} {M : Mem}  {a1 : Int32} (X : BS x L cX8_join 4 RX8 (m_X8_join).2.2.2.2) (T : RT x L (some .int) Q) (A_139 : AC L 139 8 0) (A_140 : AC L 140 9 918)
    (h : CM m_X8_within L [.int a1, .int (nI 0), .int (nI 99)] M (fun r2 M1 => (¬ r2 = 0 → ∃ v3 : Nat, M1 140 48 = nI v3 ∧ v3 < 2 ^ 31 ∧ (¬ v3 = 4 → CM m_X8_minds L [.ref 139] M1 (fun _ M5 => ∃ v7 : Nat, M5 140 48 = nI v7 ∧ WP x L 46 [some (.ref 139), some (.int a1), some (.int (nI (89 + (16 * v7)))), some (.int (nI 0))] [] M5)) ∧ (v3 = 4 → Q (-3) M1)) ∧ (r2 = 0 → Q (-1) M1))) : WP x L 0 [some (.ref 139), some (.int a1), none, none] [] M := by
  refine wp_iload_n (pc := 0) X dX8_join_0 rfl rfl ?_
  refine wp_iconst (pc := 1) (v := nI 0) X dX8_join_1 (by decide) ?_
  refine wp_bipush (pc := 2) (v := nI 99) X dX8_join_2 (by decide) ?_
  refine wp_invS (pc := 4) X sv_X8_31  rfl ⟨by decide, by decide⟩ (As := [.int a1, .int (nI 0), .int (nI 99)]) (st := []) rfl rfl (Nat.le_of_ble_eq_true rfl) dX8_join_4 ?_
  refine CM.mono h (fun r2 M1 h => ?_)
  refine wp_if_ne (pc := 7) (tgt := 12) X dX8_join_7 (by decide) (fun hc => ?_) (fun hc => ?_)
  · replace h := h.1 hc
    refine wp_aload_n (pc := 12) X dX8_join_12 rfl rfl ?_
    refine wp_get (pc := 13) X fl_X8_7 A_139 (by decide) (fg_8_0 A_139) dX8_join_13 ?_
    refine wp_bipush (pc := 16) (v := nI 48) X dX8_join_16 (by decide) ?_
    obtain ⟨v3, he4, h⟩ := h
    refine we_iald (pc := 18) X A_140 (by decide) (by decide) he4 dX8_join_18 ?_
    refine wp_iconst (pc := 19) (v := nI 4) X dX8_join_19 (by decide) ?_
    obtain ⟨hb9, h⟩ := h
    refine wn_icmp_ne (pc := 20) (tgt := 26) X dX8_join_20 (by decide) hb9 (by decide) (fun hc => ?_) (fun hc => ?_)
    · replace h := h.1 hc
      refine wp_aload_n (pc := 26) X dX8_join_26 rfl rfl ?_
      refine wp_invVv (pc := 27) X sv_X8_95 A_139 (by decide) rfl ⟨by decide, by decide⟩ (As := []) (st := []) rfl rfl (Nat.le_of_ble_eq_true rfl) dX8_join_27 ?_
      refine CM.mono h (fun _ M5 h => ?_)
      refine wp_bipush (pc := 30) (v := nI 89) X dX8_join_30 (by decide) ?_
      refine wp_bipush (pc := 32) (v := nI 16) X dX8_join_32 (by decide) ?_
      refine wp_aload_n (pc := 34) X dX8_join_34 rfl rfl ?_
      refine wp_get (pc := 35) X fl_X8_7 A_139 (by decide) (fg_8_0 A_139) dX8_join_35 ?_
      refine wp_bipush (pc := 38) (v := nI 48) X dX8_join_38 (by decide) ?_
      obtain ⟨v7, he8, h⟩ := h
      refine we_iald (pc := 40) X A_140 (by decide) (by decide) he8 dX8_join_40 ?_
      refine wn_imul (pc := 41) X dX8_join_41 ?_
      refine wn_iadd (pc := 42) X dX8_join_42 ?_
      refine wp_istore_n (pc := 43) (lo' := [some (.ref 139), some (.int a1), some (.int (nI (89 + (16 * v7)))), none]) X dX8_join_43 rfl (Nat.le_of_ble_eq_true rfl) rfl rfl ?_
      refine wp_iconst (pc := 44) (v := nI 0) X dX8_join_44 (by decide) ?_
      refine wp_istore_n (pc := 45) (lo' := [some (.ref 139), some (.int a1), some (.int (nI (89 + (16 * v7)))), some (.int (nI 0))]) X dX8_join_45 rfl (Nat.le_of_ble_eq_true rfl) rfl rfl ?_
      exact h
    · replace h := h.2 hc
      refine wp_bipush (pc := 23) (v := (-3)) X dX8_join_23 (by decide) ?_
      exact wp_iret (pc := 25) X T dX8_join_25 h
  · replace h := h.2 hc
    refine wp_iconst (pc := 10) (v := (-1)) X dX8_join_10 (by decide) ?_
    exact wp_iret (pc := 11) X T dX8_join_11 h
theorem r_X8_join_46 {x : CT} {L : List Nat} {Q : Int32 → Mem → Prop} {M : Mem}  {a1 : Int32} {p k : Nat} (X : BS x L cX8_join 4 RX8 (m_X8_join).2.2.2.2) (T : RT x L (some .int) Q) (A_139 : AC L 139 8 0) (A_140 : AC L 140 9 918)
    (h : k < 2 ^ 31 ∧ (16 ≤ k → (p + 0) < 918 ∧ (p + 1) < 918 ∧ (p + 2) < 918 ∧ Q (((MU (MU (MU (MU M 140 (p + 0) a1) 140 (p + 1) ((MU M 140 (p + 0) a1) 140 45)) 140 (p + 2) (-4)) 140 48 (((MU (MU (MU M 140 (p + 0) a1) 140 (p + 1) ((MU M 140 (p + 0) a1) 140 45)) 140 (p + 2) (-4)) 140 48) + (nI 1))) 140 48) - (nI 1)) (MU (MU (MU (MU M 140 (p + 0) a1) 140 (p + 1) ((MU M 140 (p + 0) a1) 140 45)) 140 (p + 2) (-4)) 140 48 (((MU (MU (MU M 140 (p + 0) a1) 140 (p + 1) ((MU M 140 (p + 0) a1) 140 45)) 140 (p + 2) (-4)) 140 48) + (nI 1)))) ∧ (k < 16 → (p + k) < 918 ∧ WP x L 46 [some (.ref 139), some (.int a1), some (.int (nI p)), some (.int (nI (k + 1)))] [] (MU M 140 (p + k) (nI 0)))) : WP x L 46 [some (.ref 139), some (.int a1), some (.int (nI p)), some (.int (nI k))] [] M := by
  refine wp_iload_n (pc := 46) X dX8_join_46 rfl rfl ?_
  refine wp_bipush (pc := 47) (v := nI 16) X dX8_join_47 (by decide) ?_
  obtain ⟨hb5, h⟩ := h
  refine wn_icmp_ge (pc := 49) (tgt := 67) X dX8_join_49 (by decide) hb5 (by decide) (fun hc => ?_) (fun hc => ?_)
  · replace h := h.1 hc
    refine wp_aload_n (pc := 67) X dX8_join_67 rfl rfl ?_
    refine wp_get (pc := 68) X fl_X8_7 A_139 (by decide) (fg_8_0 A_139) dX8_join_68 ?_
    refine wp_iload_n (pc := 71) X dX8_join_71 rfl rfl ?_
    refine wp_iconst (pc := 72) (v := nI 0) X dX8_join_72 (by decide) ?_
    refine wn_iadd (pc := 73) X dX8_join_73 ?_
    refine wp_iload_n (pc := 74) X dX8_join_74 rfl rfl ?_
    obtain ⟨hj1, h⟩ := h
    refine wn_iast (pc := 75) X A_140 hj1 (by decide) dX8_join_75 ?_
    refine wp_aload_n (pc := 76) X dX8_join_76 rfl rfl ?_
    refine wp_get (pc := 77) X fl_X8_7 A_139 (by decide) (fg_8_0 A_139) dX8_join_77 ?_
    refine wp_iload_n (pc := 80) X dX8_join_80 rfl rfl ?_
    refine wp_iconst (pc := 81) (v := nI 1) X dX8_join_81 (by decide) ?_
    refine wn_iadd (pc := 82) X dX8_join_82 ?_
    refine wp_aload_n (pc := 83) X dX8_join_83 rfl rfl ?_
    refine wp_get (pc := 84) X fl_X8_7 A_139 (by decide) (fg_8_0 A_139) dX8_join_84 ?_
    refine wp_bipush (pc := 87) (v := nI 45) X dX8_join_87 (by decide) ?_
    refine wn_iald (pc := 89) X A_140 (by decide) (by decide) dX8_join_89 ?_
    obtain ⟨hj2, h⟩ := h
    refine wn_iast (pc := 90) X A_140 hj2 (by decide) dX8_join_90 ?_
    refine wp_aload_n (pc := 91) X dX8_join_91 rfl rfl ?_
    refine wp_get (pc := 92) X fl_X8_7 A_139 (by decide) (fg_8_0 A_139) dX8_join_92 ?_
    refine wp_iload_n (pc := 95) X dX8_join_95 rfl rfl ?_
    refine wp_iconst (pc := 96) (v := nI 2) X dX8_join_96 (by decide) ?_
    refine wn_iadd (pc := 97) X dX8_join_97 ?_
    refine wp_bipush (pc := 98) (v := (-4)) X dX8_join_98 (by decide) ?_
    obtain ⟨hj3, h⟩ := h
    refine wn_iast (pc := 100) X A_140 hj3 (by decide) dX8_join_100 ?_
    refine wp_aload_n (pc := 101) X dX8_join_101 rfl rfl ?_
    refine wp_get (pc := 102) X fl_X8_7 A_139 (by decide) (fg_8_0 A_139) dX8_join_102 ?_
    refine wp_bipush (pc := 105) (v := nI 48) X dX8_join_105 (by decide) ?_
    refine wp_dup2 (pc := 107) X dX8_join_107 rfl rfl ?_
    refine wn_iald (pc := 108) X A_140 (by decide) (by decide) dX8_join_108 ?_
    refine wp_iconst (pc := 109) (v := nI 1) X dX8_join_109 (by decide) ?_
    refine wp_iadd (pc := 110) X dX8_join_110 ?_
    refine wn_iast (pc := 111) X A_140 (by decide) (by decide) dX8_join_111 ?_
    refine wp_aload_n (pc := 112) X dX8_join_112 rfl rfl ?_
    refine wp_get (pc := 113) X fl_X8_7 A_139 (by decide) (fg_8_0 A_139) dX8_join_113 ?_
    refine wp_bipush (pc := 116) (v := nI 48) X dX8_join_116 (by decide) ?_
    refine wn_iald (pc := 118) X A_140 (by decide) (by decide) dX8_join_118 ?_
    refine wp_iconst (pc := 119) (v := nI 1) X dX8_join_119 (by decide) ?_
    refine wp_isub (pc := 120) X dX8_join_120 ?_
    exact wp_iret (pc := 121) X T dX8_join_121 h
  · replace h := h.2 hc
    refine wp_aload_n (pc := 52) X dX8_join_52 rfl rfl ?_
    refine wp_get (pc := 53) X fl_X8_7 A_139 (by decide) (fg_8_0 A_139) dX8_join_53 ?_
    refine wp_iload_n (pc := 56) X dX8_join_56 rfl rfl ?_
    refine wp_iload_n (pc := 57) X dX8_join_57 rfl rfl ?_
    refine wn_iadd (pc := 58) X dX8_join_58 ?_
    refine wp_iconst (pc := 59) (v := nI 0) X dX8_join_59 (by decide) ?_
    obtain ⟨hj4, h⟩ := h
    refine wn_iast (pc := 60) X A_140 hj4 (by decide) dX8_join_60 ?_
    refine wn_iinc (pc := 61) (d := 1) (lo' := [some (.ref 139), some (.int a1), some (.int (nI p)), some (.int (nI (k + 1)))]) X dX8_join_61 rfl (by decide) rfl rfl ?_
    refine wp_goto (pc := 64) (tgt := 46) X dX8_join_64 (by decide) ?_
    exact h
theorem r_X8_knows_0 {x : CT} {L : List Nat} {Q : Int32 → Mem → Prop} {M : Mem}  {l : Nat} (X : BS x L cX8_knows 2 RX8 (m_X8_knows).2.2.2.2) (T : RT x L (some .boolean) Q) (A_139 : AC L 139 8 0) (A_140 : AC L 140 9 918)
    (h : (89 + (16 * l) + 2) < 918 ∧ ((M 140 (89 + (16 * l) + 2)) < (M 140 45) → Q (nI 0) M) ∧ (¬ (M 140 (89 + (16 * l) + 2)) < (M 140 45) → Q (nI 1) M)) : WP x L 0 [some (.ref 139), some (.int (nI l))] [] M := by
  refine wp_aload_n (pc := 0) X dX8_knows_0 rfl rfl ?_
  refine wp_get (pc := 1) X fl_X8_7 A_139 (by decide) (fg_8_0 A_139) dX8_knows_1 ?_
  refine wp_bipush (pc := 4) (v := nI 89) X dX8_knows_4 (by decide) ?_
  refine wp_bipush (pc := 6) (v := nI 16) X dX8_knows_6 (by decide) ?_
  refine wp_iload_n (pc := 8) X dX8_knows_8 rfl rfl ?_
  refine wn_imul (pc := 9) X dX8_knows_9 ?_
  refine wn_iadd (pc := 10) X dX8_knows_10 ?_
  refine wp_iconst (pc := 11) (v := nI 2) X dX8_knows_11 (by decide) ?_
  refine wn_iadd (pc := 12) X dX8_knows_12 ?_
  obtain ⟨hj1, h⟩ := h
  refine wn_iald (pc := 13) X A_140 hj1 (by decide) dX8_knows_13 ?_
  refine wp_aload_n (pc := 14) X dX8_knows_14 rfl rfl ?_
  refine wp_get (pc := 15) X fl_X8_7 A_139 (by decide) (fg_8_0 A_139) dX8_knows_15 ?_
  refine wp_bipush (pc := 18) (v := nI 45) X dX8_knows_18 (by decide) ?_
  refine wn_iald (pc := 20) X A_140 (by decide) (by decide) dX8_knows_20 ?_
  refine wp_icmp_lt (pc := 21) (tgt := 28) X dX8_knows_21 (by decide) (fun hc => ?_) (fun hc => ?_)
  · replace h := h.1 hc
    refine wp_iconst (pc := 28) (v := nI 0) X dX8_knows_28 (by decide) ?_
    exact wp_zret (pc := 29) X T (by decide) dX8_knows_29 h
  · replace h := h.2 hc
    refine wp_iconst (pc := 24) (v := nI 1) X dX8_knows_24 (by decide) ?_
    refine wp_goto (pc := 25) (tgt := 29) X dX8_knows_25 (by decide) ?_
    exact wp_zret (pc := 29) X T (by decide) dX8_knows_29 h
theorem r_X8_lacks_0 {x : CT} {L : List Nat} {Q : Int32 → Mem → Prop} {M : Mem}  {l f : Nat} (X : BS x L cX8_lacks 4 RX8 (m_X8_lacks).2.2.2.2) (T : RT x L (some .int) Q) (A_139 : AC L 139 8 0) (A_140 : AC L 140 9 918)
    (h : (0 + f) < 918 ∧ (89 + (16 * l) + 10 + f) < 918 ∧ CM m_X8_ones L [.int (M 140 (89 + (16 * l) + 10 + f))] M (fun r4 M3 => (0 ≤ ((M 140 (0 + f)) - r4) → Q ((M 140 (0 + f)) - r4) M3) ∧ (¬ 0 ≤ ((M 140 (0 + f)) - r4) → Q (nI 0) M3))) : WP x L 0 [some (.ref 139), some (.int (nI l)), some (.int (nI f)), none] [] M := by
  refine wp_aload_n (pc := 0) X dX8_lacks_0 rfl rfl ?_
  refine wp_get (pc := 1) X fl_X8_7 A_139 (by decide) (fg_8_0 A_139) dX8_lacks_1 ?_
  refine wp_iconst (pc := 4) (v := nI 0) X dX8_lacks_4 (by decide) ?_
  refine wp_iload_n (pc := 5) X dX8_lacks_5 rfl rfl ?_
  refine wn_iadd (pc := 6) X dX8_lacks_6 ?_
  obtain ⟨hj1, h⟩ := h
  refine wn_iald (pc := 7) X A_140 hj1 (by decide) dX8_lacks_7 ?_
  refine wp_aload_n (pc := 8) X dX8_lacks_8 rfl rfl ?_
  refine wp_get (pc := 9) X fl_X8_7 A_139 (by decide) (fg_8_0 A_139) dX8_lacks_9 ?_
  refine wp_bipush (pc := 12) (v := nI 89) X dX8_lacks_12 (by decide) ?_
  refine wp_bipush (pc := 14) (v := nI 16) X dX8_lacks_14 (by decide) ?_
  refine wp_iload_n (pc := 16) X dX8_lacks_16 rfl rfl ?_
  refine wn_imul (pc := 17) X dX8_lacks_17 ?_
  refine wn_iadd (pc := 18) X dX8_lacks_18 ?_
  refine wp_bipush (pc := 19) (v := nI 10) X dX8_lacks_19 (by decide) ?_
  refine wn_iadd (pc := 21) X dX8_lacks_21 ?_
  refine wp_iload_n (pc := 22) X dX8_lacks_22 rfl rfl ?_
  refine wn_iadd (pc := 23) X dX8_lacks_23 ?_
  obtain ⟨hj2, h⟩ := h
  refine wn_iald (pc := 24) X A_140 hj2 (by decide) dX8_lacks_24 ?_
  refine wp_invS (pc := 25) X sv_X8_105  rfl ⟨by decide, by decide⟩ (As := [.int (M 140 (89 + (16 * l) + 10 + f))]) (st := [.int (M 140 (0 + f))]) rfl rfl (Nat.le_of_ble_eq_true rfl) dX8_lacks_25 ?_
  refine CM.mono h (fun r4 M3 h => ?_)
  refine wp_isub (pc := 28) X dX8_lacks_28 ?_
  refine wp_istore_n (pc := 29) (lo' := [some (.ref 139), some (.int (nI l)), some (.int (nI f)), some (.int ((M 140 (0 + f)) - r4))]) X dX8_lacks_29 rfl (Nat.le_of_ble_eq_true rfl) rfl rfl ?_
  refine wp_iload_n (pc := 30) X dX8_lacks_30 rfl rfl ?_
  refine wp_if_ge (pc := 31) (tgt := 38) X dX8_lacks_31 (by decide) (fun hc => ?_) (fun hc => ?_)
  · replace h := h.1 hc
    refine wp_iload_n (pc := 38) X dX8_lacks_38 rfl rfl ?_
    exact wp_iret (pc := 39) X T dX8_lacks_39 h
  · replace h := h.2 hc
    refine wp_iconst (pc := 34) (v := nI 0) X dX8_lacks_34 (by decide) ?_
    refine wp_goto (pc := 35) (tgt := 39) X dX8_lacks_35 (by decide) ?_
    exact wp_iret (pc := 39) X T dX8_lacks_39 h
theorem r_X8_repair_0 {x : CT} {L : List Nat} {Q : Int32 → Mem → Prop} {M : Mem}  {a1 a2 : Int32} (X : BS x L cX8_repair 7 RX8 (m_X8_repair).2.2.2.2) (T : RT x L (some .int) Q) (A_139 : AC L 139 8 0)
    (h : CM m_X8_isListener L [.ref 139, .int a1] M (fun r2 M1 => (r2 = 0 → Q (-1) M1) ∧ (¬ r2 = 0 → CM m_X8_isFile L [.ref 139, .int a2] M1 (fun r4 M3 => (¬ r4 = 0 → CM m_X8_lacks L [.ref 139, .int a1, .int a2] M3 (fun r6 M5 => CM m_X8_knows L [.ref 139, .int a1] M5 (fun r8 M7 => (r8 = 0 → Q (-2) M7) ∧ (¬ r8 = 0 → (¬ r6 = 0 → CM m_X8_minds L [.ref 139] M7 (fun _ M9 => WP x L 64 [some (.ref 139), none, none, some (.int r6), some (.int ((((nI 89) + ((nI 16) * a1)) + (nI 10)) + a2)), some (.int r6), some (.int (nI 0))] [] M9)) ∧ (r6 = 0 → Q (-2) M7))))) ∧ (r4 = 0 → Q (-1) M3))))) : WP x L 0 [some (.ref 139), some (.int a1), some (.int a2), none, none, none, none] [] M := by
  refine wp_aload_n (pc := 0) X dX8_repair_0 rfl rfl ?_
  refine wp_iload_n (pc := 1) X dX8_repair_1 rfl rfl ?_
  refine wp_invV (pc := 2) X sv_X8_108 A_139 (by decide) rfl ⟨by decide, by decide⟩ (As := [.int a1]) (st := []) rfl rfl (Nat.le_of_ble_eq_true rfl) dX8_repair_2 ?_
  refine CM.mono h (fun r2 M1 h => ?_)
  refine wp_if_eq (pc := 5) (tgt := 16) X dX8_repair_5 (by decide) (fun hc => ?_) (fun hc => ?_)
  · replace h := h.1 hc
    refine wp_iconst (pc := 16) (v := (-1)) X dX8_repair_16 (by decide) ?_
    exact wp_iret (pc := 17) X T dX8_repair_17 h
  · replace h := h.2 hc
    refine wp_aload_n (pc := 8) X dX8_repair_8 rfl rfl ?_
    refine wp_iload_n (pc := 9) X dX8_repair_9 rfl rfl ?_
    refine wp_invV (pc := 10) X sv_X8_101 A_139 (by decide) rfl ⟨by decide, by decide⟩ (As := [.int a2]) (st := []) rfl rfl (Nat.le_of_ble_eq_true rfl) dX8_repair_10 ?_
    refine CM.mono h (fun r4 M3 h => ?_)
    refine wp_if_ne (pc := 13) (tgt := 18) X dX8_repair_13 (by decide) (fun hc => ?_) (fun hc => ?_)
    · replace h := h.1 hc
      refine wp_aload_n (pc := 18) X dX8_repair_18 rfl rfl ?_
      refine wp_iload_n (pc := 19) X dX8_repair_19 rfl rfl ?_
      refine wp_iload_n (pc := 20) X dX8_repair_20 rfl rfl ?_
      refine wp_invV (pc := 21) X sv_X8_111 A_139 (by decide) rfl ⟨by decide, by decide⟩ (As := [.int a1, .int a2]) (st := []) rfl rfl (Nat.le_of_ble_eq_true rfl) dX8_repair_21 ?_
      refine CM.mono h (fun r6 M5 h => ?_)
      refine wp_istore_n (pc := 24) (lo' := [some (.ref 139), some (.int a1), some (.int a2), some (.int r6), none, none, none]) X dX8_repair_24 rfl (Nat.le_of_ble_eq_true rfl) rfl rfl ?_
      refine wp_aload_n (pc := 25) X dX8_repair_25 rfl rfl ?_
      refine wp_iload_n (pc := 26) X dX8_repair_26 rfl rfl ?_
      refine wp_invV (pc := 27) X sv_X8_115 A_139 (by decide) rfl ⟨by decide, by decide⟩ (As := [.int a1]) (st := []) rfl rfl (Nat.le_of_ble_eq_true rfl) dX8_repair_27 ?_
      refine CM.mono h (fun r8 M7 h => ?_)
      refine wp_if_eq (pc := 30) (tgt := 37) X dX8_repair_30 (by decide) (fun hc => ?_) (fun hc => ?_)
      · replace h := h.1 hc
        refine wp_bipush (pc := 37) (v := (-2)) X dX8_repair_37 (by decide) ?_
        exact wp_iret (pc := 39) X T dX8_repair_39 h
      · replace h := h.2 hc
        refine wp_iload_n (pc := 33) X dX8_repair_33 rfl rfl ?_
        refine wp_if_ne (pc := 34) (tgt := 40) X dX8_repair_34 (by decide) (fun hc => ?_) (fun hc => ?_)
        · replace h := h.1 hc
          refine wp_aload_n (pc := 40) X dX8_repair_40 rfl rfl ?_
          refine wp_invVv (pc := 41) X sv_X8_95 A_139 (by decide) rfl ⟨by decide, by decide⟩ (As := []) (st := []) rfl rfl (Nat.le_of_ble_eq_true rfl) dX8_repair_41 ?_
          refine CM.mono h (fun _ M9 h => ?_)
          refine wp_bipush (pc := 44) (v := nI 89) X dX8_repair_44 (by decide) ?_
          refine wp_bipush (pc := 46) (v := nI 16) X dX8_repair_46 (by decide) ?_
          refine wp_iload_n (pc := 48) X dX8_repair_48 rfl rfl ?_
          refine wp_imul (pc := 49) X dX8_repair_49 ?_
          refine wp_iadd (pc := 50) X dX8_repair_50 ?_
          refine wp_bipush (pc := 51) (v := nI 10) X dX8_repair_51 (by decide) ?_
          refine wp_iadd (pc := 53) X dX8_repair_53 ?_
          refine wp_iload_n (pc := 54) X dX8_repair_54 rfl rfl ?_
          refine wp_iadd (pc := 55) X dX8_repair_55 ?_
          refine wp_istore (pc := 56) (lo' := [some (.ref 139), some (.int a1), some (.int a2), some (.int r6), some (.int ((((nI 89) + ((nI 16) * a1)) + (nI 10)) + a2)), none, none]) X dX8_repair_56 (Nat.le_of_ble_eq_true rfl) rfl rfl ?_
          refine wp_iload_n (pc := 58) X dX8_repair_58 rfl rfl ?_
          refine wp_istore (pc := 59) (lo' := [some (.ref 139), some (.int a1), some (.int a2), some (.int r6), some (.int ((((nI 89) + ((nI 16) * a1)) + (nI 10)) + a2)), some (.int r6), none]) X dX8_repair_59 (Nat.le_of_ble_eq_true rfl) rfl rfl ?_
          refine wp_iconst (pc := 61) (v := nI 0) X dX8_repair_61 (by decide) ?_
          refine wp_istore (pc := 62) (lo' := [some (.ref 139), some (.int a1), some (.int a2), some (.int r6), some (.int ((((nI 89) + ((nI 16) * a1)) + (nI 10)) + a2)), some (.int r6), some (.int (nI 0))]) X dX8_repair_62 (Nat.le_of_ble_eq_true rfl) rfl rfl ?_
          exact wp_drop (show subL _ [some (.ref 139), none, none, some (.int r6), some (.int ((((nI 89) + ((nI 16) * a1)) + (nI 10)) + a2)), some (.int r6), some (.int (nI 0))] from ⟨rfl, ⟨rfl, ⟨rfl, ⟨rfl, ⟨rfl, trivial⟩⟩⟩⟩⟩) h
        · replace h := h.2 hc
          refine wp_bipush (pc := 37) (v := (-2)) X dX8_repair_37 (by decide) ?_
          exact wp_iret (pc := 39) X T dX8_repair_39 h
    · replace h := h.2 hc
      refine wp_iconst (pc := 16) (v := (-1)) X dX8_repair_16 (by decide) ?_
      exact wp_iret (pc := 17) X T dX8_repair_17 h
theorem r_X8_repair_64 {x : CT} {L : List Nat} {Q : Int32 → Mem → Prop} {M : Mem}  {a3 a5 : Int32} {p k : Nat} (X : BS x L cX8_repair 7 RX8 (m_X8_repair).2.2.2.2) (T : RT x L (some .int) Q) (A_139 : AC L 139 8 0) (A_140 : AC L 140 9 918)
    (h : (a5 ≤ 0 → Q a3 M) ∧ (¬ a5 ≤ 0 → p < 918 ∧ p < 918 ∧ p < 918 ∧ WP x L 64 [some (.ref 139), none, none, some (.int a3), some (.int (nI p)), some (.int (a5 - ((((M 140 p) >>> ((nI k) &&& 31)) &&& (nI 1)) ^^^ (nI 1)))), some (.int (nI (k + 1)))] [] (MU M 140 p ((M 140 p) ||| ((nI 1) <<< ((nI k) &&& 31)))))) : WP x L 64 [some (.ref 139), none, none, some (.int a3), some (.int (nI p)), some (.int a5), some (.int (nI k))] [] M := by
  refine wp_iload (pc := 64) X dX8_repair_64 rfl ?_
  refine wp_if_le (pc := 66) (tgt := 108) X dX8_repair_66 (by decide) (fun hc => ?_) (fun hc => ?_)
  · replace h := h.1 hc
    refine wp_iload_n (pc := 108) X dX8_repair_108 rfl rfl ?_
    exact wp_iret (pc := 109) X T dX8_repair_109 h
  · replace h := h.2 hc
    refine wp_iload (pc := 69) X dX8_repair_69 rfl ?_
    refine wp_aload_n (pc := 71) X dX8_repair_71 rfl rfl ?_
    refine wp_get (pc := 72) X fl_X8_7 A_139 (by decide) (fg_8_0 A_139) dX8_repair_72 ?_
    refine wp_iload (pc := 75) X dX8_repair_75 rfl ?_
    obtain ⟨hj1, h⟩ := h
    refine wn_iald (pc := 77) X A_140 hj1 (by decide) dX8_repair_77 ?_
    refine wp_iload (pc := 78) X dX8_repair_78 rfl ?_
    refine wp_ishr (pc := 80) X dX8_repair_80 ?_
    refine wp_iconst (pc := 81) (v := nI 1) X dX8_repair_81 (by decide) ?_
    refine wp_iand (pc := 82) X dX8_repair_82 ?_
    refine wp_iconst (pc := 83) (v := nI 1) X dX8_repair_83 (by decide) ?_
    refine wp_ixor (pc := 84) X dX8_repair_84 ?_
    refine wp_isub (pc := 85) X dX8_repair_85 ?_
    refine wp_istore (pc := 86) (lo' := [some (.ref 139), none, none, some (.int a3), some (.int (nI p)), some (.int (a5 - ((((M 140 p) >>> ((nI k) &&& 31)) &&& (nI 1)) ^^^ (nI 1)))), some (.int (nI k))]) X dX8_repair_86 (Nat.le_of_ble_eq_true rfl) rfl rfl ?_
    refine wp_aload_n (pc := 88) X dX8_repair_88 rfl rfl ?_
    refine wp_get (pc := 89) X fl_X8_7 A_139 (by decide) (fg_8_0 A_139) dX8_repair_89 ?_
    refine wp_iload (pc := 92) X dX8_repair_92 rfl ?_
    refine wp_dup2 (pc := 94) X dX8_repair_94 rfl rfl ?_
    obtain ⟨hj2, h⟩ := h
    refine wn_iald (pc := 95) X A_140 hj2 (by decide) dX8_repair_95 ?_
    refine wp_iconst (pc := 96) (v := nI 1) X dX8_repair_96 (by decide) ?_
    refine wp_iload (pc := 97) X dX8_repair_97 rfl ?_
    refine wp_ishl (pc := 99) X dX8_repair_99 ?_
    refine wp_ior (pc := 100) X dX8_repair_100 ?_
    obtain ⟨hj3, h⟩ := h
    refine wn_iast (pc := 101) X A_140 hj3 (by decide) dX8_repair_101 ?_
    refine wn_iinc (pc := 102) (d := 1) (lo' := [some (.ref 139), none, none, some (.int a3), some (.int (nI p)), some (.int (a5 - ((((M 140 p) >>> ((nI k) &&& 31)) &&& (nI 1)) ^^^ (nI 1)))), some (.int (nI (k + 1)))]) X dX8_repair_102 rfl (by decide) rfl rfl ?_
    refine wp_goto (pc := 105) (tgt := 64) X dX8_repair_105 (by decide) ?_
    exact h
theorem r_X8_repairN_0 {x : CT} {L : List Nat} {Q : Int32 → Mem → Prop} {M : Mem}  {l f : Nat} (X : BS x L cX8_repair 7 RX8 (m_X8_repair).2.2.2.2) (T : RT x L (some .int) Q) (A_139 : AC L 139 8 0)
    (h : CM m_X8_isListener L [.ref 139, .int (nI l)] M (fun r2 M1 => (r2 = 0 → Q (-1) M1) ∧ (¬ r2 = 0 → CM m_X8_isFile L [.ref 139, .int (nI f)] M1 (fun r4 M3 => (¬ r4 = 0 → CM m_X8_lacks L [.ref 139, .int (nI l), .int (nI f)] M3 (fun r6 M5 => CM m_X8_knows L [.ref 139, .int (nI l)] M5 (fun r8 M7 => (r8 = 0 → Q (-2) M7) ∧ (¬ r8 = 0 → (¬ r6 = 0 → CM m_X8_minds L [.ref 139] M7 (fun _ M9 => WP x L 64 [some (.ref 139), none, none, some (.int r6), some (.int (nI (89 + (16 * l) + 10 + f))), some (.int r6), some (.int (nI 0))] [] M9)) ∧ (r6 = 0 → Q (-2) M7))))) ∧ (r4 = 0 → Q (-1) M3))))) : WP x L 0 [some (.ref 139), some (.int (nI l)), some (.int (nI f)), none, none, none, none] [] M := by
  refine wp_aload_n (pc := 0) X dX8_repair_0 rfl rfl ?_
  refine wp_iload_n (pc := 1) X dX8_repair_1 rfl rfl ?_
  refine wp_invV (pc := 2) X sv_X8_108 A_139 (by decide) rfl ⟨by decide, by decide⟩ (As := [.int (nI l)]) (st := []) rfl rfl (Nat.le_of_ble_eq_true rfl) dX8_repair_2 ?_
  refine CM.mono h (fun r2 M1 h => ?_)
  refine wp_if_eq (pc := 5) (tgt := 16) X dX8_repair_5 (by decide) (fun hc => ?_) (fun hc => ?_)
  · replace h := h.1 hc
    refine wp_iconst (pc := 16) (v := (-1)) X dX8_repair_16 (by decide) ?_
    exact wp_iret (pc := 17) X T dX8_repair_17 h
  · replace h := h.2 hc
    refine wp_aload_n (pc := 8) X dX8_repair_8 rfl rfl ?_
    refine wp_iload_n (pc := 9) X dX8_repair_9 rfl rfl ?_
    refine wp_invV (pc := 10) X sv_X8_101 A_139 (by decide) rfl ⟨by decide, by decide⟩ (As := [.int (nI f)]) (st := []) rfl rfl (Nat.le_of_ble_eq_true rfl) dX8_repair_10 ?_
    refine CM.mono h (fun r4 M3 h => ?_)
    refine wp_if_ne (pc := 13) (tgt := 18) X dX8_repair_13 (by decide) (fun hc => ?_) (fun hc => ?_)
    · replace h := h.1 hc
      refine wp_aload_n (pc := 18) X dX8_repair_18 rfl rfl ?_
      refine wp_iload_n (pc := 19) X dX8_repair_19 rfl rfl ?_
      refine wp_iload_n (pc := 20) X dX8_repair_20 rfl rfl ?_
      refine wp_invV (pc := 21) X sv_X8_111 A_139 (by decide) rfl ⟨by decide, by decide⟩ (As := [.int (nI l), .int (nI f)]) (st := []) rfl rfl (Nat.le_of_ble_eq_true rfl) dX8_repair_21 ?_
      refine CM.mono h (fun r6 M5 h => ?_)
      refine wp_istore_n (pc := 24) (lo' := [some (.ref 139), some (.int (nI l)), some (.int (nI f)), some (.int r6), none, none, none]) X dX8_repair_24 rfl (Nat.le_of_ble_eq_true rfl) rfl rfl ?_
      refine wp_aload_n (pc := 25) X dX8_repair_25 rfl rfl ?_
      refine wp_iload_n (pc := 26) X dX8_repair_26 rfl rfl ?_
      refine wp_invV (pc := 27) X sv_X8_115 A_139 (by decide) rfl ⟨by decide, by decide⟩ (As := [.int (nI l)]) (st := []) rfl rfl (Nat.le_of_ble_eq_true rfl) dX8_repair_27 ?_
      refine CM.mono h (fun r8 M7 h => ?_)
      refine wp_if_eq (pc := 30) (tgt := 37) X dX8_repair_30 (by decide) (fun hc => ?_) (fun hc => ?_)
      · replace h := h.1 hc
        refine wp_bipush (pc := 37) (v := (-2)) X dX8_repair_37 (by decide) ?_
        exact wp_iret (pc := 39) X T dX8_repair_39 h
      · replace h := h.2 hc
        refine wp_iload_n (pc := 33) X dX8_repair_33 rfl rfl ?_
        refine wp_if_ne (pc := 34) (tgt := 40) X dX8_repair_34 (by decide) (fun hc => ?_) (fun hc => ?_)
        · replace h := h.1 hc
          refine wp_aload_n (pc := 40) X dX8_repair_40 rfl rfl ?_
          refine wp_invVv (pc := 41) X sv_X8_95 A_139 (by decide) rfl ⟨by decide, by decide⟩ (As := []) (st := []) rfl rfl (Nat.le_of_ble_eq_true rfl) dX8_repair_41 ?_
          refine CM.mono h (fun _ M9 h => ?_)
          refine wp_bipush (pc := 44) (v := nI 89) X dX8_repair_44 (by decide) ?_
          refine wp_bipush (pc := 46) (v := nI 16) X dX8_repair_46 (by decide) ?_
          refine wp_iload_n (pc := 48) X dX8_repair_48 rfl rfl ?_
          refine wn_imul (pc := 49) X dX8_repair_49 ?_
          refine wn_iadd (pc := 50) X dX8_repair_50 ?_
          refine wp_bipush (pc := 51) (v := nI 10) X dX8_repair_51 (by decide) ?_
          refine wn_iadd (pc := 53) X dX8_repair_53 ?_
          refine wp_iload_n (pc := 54) X dX8_repair_54 rfl rfl ?_
          refine wn_iadd (pc := 55) X dX8_repair_55 ?_
          refine wp_istore (pc := 56) (lo' := [some (.ref 139), some (.int (nI l)), some (.int (nI f)), some (.int r6), some (.int (nI (89 + (16 * l) + 10 + f))), none, none]) X dX8_repair_56 (Nat.le_of_ble_eq_true rfl) rfl rfl ?_
          refine wp_iload_n (pc := 58) X dX8_repair_58 rfl rfl ?_
          refine wp_istore (pc := 59) (lo' := [some (.ref 139), some (.int (nI l)), some (.int (nI f)), some (.int r6), some (.int (nI (89 + (16 * l) + 10 + f))), some (.int r6), none]) X dX8_repair_59 (Nat.le_of_ble_eq_true rfl) rfl rfl ?_
          refine wp_iconst (pc := 61) (v := nI 0) X dX8_repair_61 (by decide) ?_
          refine wp_istore (pc := 62) (lo' := [some (.ref 139), some (.int (nI l)), some (.int (nI f)), some (.int r6), some (.int (nI (89 + (16 * l) + 10 + f))), some (.int r6), some (.int (nI 0))]) X dX8_repair_62 (Nat.le_of_ble_eq_true rfl) rfl rfl ?_
          exact wp_drop (show subL _ [some (.ref 139), none, none, some (.int r6), some (.int (nI (89 + (16 * l) + 10 + f))), some (.int r6), some (.int (nI 0))] from ⟨rfl, ⟨rfl, ⟨rfl, ⟨rfl, ⟨rfl, trivial⟩⟩⟩⟩⟩) h
        · replace h := h.2 hc
          refine wp_bipush (pc := 37) (v := (-2)) X dX8_repair_37 (by decide) ?_
          exact wp_iret (pc := 39) X T dX8_repair_39 h
    · replace h := h.2 hc
      refine wp_iconst (pc := 16) (v := (-1)) X dX8_repair_16 (by decide) ?_
      exact wp_iret (pc := 17) X T dX8_repair_17 h
theorem r_X8_partBits_0 {x : CT} {L : List Nat} {Q : Int32 → Mem → Prop} {M : Mem}  {f : Nat} (X : BS x L cX8_partBits 2 RX8 (m_X8_partBits).2.2.2.2) (T : RT x L (some .int) Q) (A_139 : AC L 139 8 0) (A_140 : AC L 140 9 918)
    (h : (¬ (M 140 47) = 0 → (36 + f) < 918 ∧ vf_n32 (FP.fdiv (FP.i2f (M 140 (36 + f))) (FP.i2f (M 140 47))) ∧ CM m_Jxf58ca_floatToIntBits_5c35a L [.float (FP.fdiv (FP.i2f (M 140 (36 + f))) (FP.i2f (M 140 47)))] M (fun r4 M3 => Q r4 M3)) ∧ ((M 140 47) = 0 → Q (-4) M)) : WP x L 0 [some (.ref 139), some (.int (nI f))] [] M := by
  refine wp_aload_n (pc := 0) X dX8_partBits_0 rfl rfl ?_
  refine wp_get (pc := 1) X fl_X8_7 A_139 (by decide) (fg_8_0 A_139) dX8_partBits_1 ?_
  refine wp_bipush (pc := 4) (v := nI 47) X dX8_partBits_4 (by decide) ?_
  refine wn_iald (pc := 6) X A_140 (by decide) (by decide) dX8_partBits_6 ?_
  refine wp_if_ne (pc := 7) (tgt := 15) X dX8_partBits_7 (by decide) (fun hc => ?_) (fun hc => ?_)
  · replace h := h.1 hc
    refine wp_aload_n (pc := 15) X dX8_partBits_15 rfl rfl ?_
    refine wp_get (pc := 16) X fl_X8_7 A_139 (by decide) (fg_8_0 A_139) dX8_partBits_16 ?_
    refine wp_bipush (pc := 19) (v := nI 36) X dX8_partBits_19 (by decide) ?_
    refine wp_iload_n (pc := 21) X dX8_partBits_21 rfl rfl ?_
    refine wn_iadd (pc := 22) X dX8_partBits_22 ?_
    obtain ⟨hj1, h⟩ := h
    refine wn_iald (pc := 23) X A_140 hj1 (by decide) dX8_partBits_23 ?_
    refine wp_i2f (pc := 24) X dX8_partBits_24 ?_
    refine wp_aload_n (pc := 25) X dX8_partBits_25 rfl rfl ?_
    refine wp_get (pc := 26) X fl_X8_7 A_139 (by decide) (fg_8_0 A_139) dX8_partBits_26 ?_
    refine wp_bipush (pc := 29) (v := nI 47) X dX8_partBits_29 (by decide) ?_
    refine wn_iald (pc := 31) X A_140 (by decide) (by decide) dX8_partBits_31 ?_
    refine wp_i2f (pc := 32) X dX8_partBits_32 ?_
    obtain ⟨hf2, h⟩ := h
    refine wp_fdiv (pc := 33) X dX8_partBits_33 hf2 ?_
    refine wp_invS (pc := 34) X sv_X8_118  rfl ⟨by decide, by decide⟩ (As := [.float (FP.fdiv (FP.i2f (M 140 (36 + f))) (FP.i2f (M 140 47)))]) (st := []) rfl rfl (Nat.le_of_ble_eq_true rfl) dX8_partBits_34 ?_
    refine CM.mono h (fun r4 M3 h => ?_)
    exact wp_iret (pc := 37) X T dX8_partBits_37 h
  · replace h := h.2 hc
    refine wp_bipush (pc := 10) (v := (-4)) X dX8_partBits_10 (by decide) ?_
    refine wp_goto (pc := 12) (tgt := 37) X dX8_partBits_12 (by decide) ?_
    exact wp_iret (pc := 37) X T dX8_partBits_37 h
theorem r_X8_file_0 {x : CT} {L : List Nat} {Q : Int32 → Mem → Prop} {M : Mem}  {a1 a2 : Int32} (X : BS x L cX8_file 3 RX8 (m_X8_file).2.2.2.2) (T : RT x L (some .int) Q) (A_139 : AC L 139 8 0) (A_140 : AC L 140 9 918)
    (h : CM m_X8_isFile L [.ref 139, .int a1] M (fun r2 M1 => (r2 = 0 → Q (-1) M1) ∧ (¬ r2 = 0 → CM m_X8_within L [.int a2, .int (nI 0), .int (nI 7)] M1 (fun r4 M3 => (¬ r4 = 0 → (¬ a2 = (nI 7) → (¬ a2 = (nI 5) → vp_in (((nI 6) * a2) + a1) 918 ∧ Q (M3 140 (Int32.toNatClampNeg (((nI 6) * a2) + a1))) M3) ∧ (a2 = (nI 5) → vp_in ((nI 30) + a1) 918 ∧ Q ((M3 140 (Int32.toNatClampNeg ((nI 30) + a1))) + (nI 1000)) M3)) ∧ (a2 = (nI 7) → CM m_X8_partBits L [.ref 139, .int a1] M3 (fun r8 M7 => Q r8 M7))) ∧ (r4 = 0 → Q (-1) M3))))) : WP x L 0 [some (.ref 139), some (.int a1), some (.int a2)] [] M := by
  refine wp_aload_n (pc := 0) X dX8_file_0 rfl rfl ?_
  refine wp_iload_n (pc := 1) X dX8_file_1 rfl rfl ?_
  refine wp_invV (pc := 2) X sv_X8_101 A_139 (by decide) rfl ⟨by decide, by decide⟩ (As := [.int a1]) (st := []) rfl rfl (Nat.le_of_ble_eq_true rfl) dX8_file_2 ?_
  refine CM.mono h (fun r2 M1 h => ?_)
  refine wp_if_eq (pc := 5) (tgt := 18) X dX8_file_5 (by decide) (fun hc => ?_) (fun hc => ?_)
  · replace h := h.1 hc
    refine wp_iconst (pc := 18) (v := (-1)) X dX8_file_18 (by decide) ?_
    exact wp_iret (pc := 19) X T dX8_file_19 h
  · replace h := h.2 hc
    refine wp_iload_n (pc := 8) X dX8_file_8 rfl rfl ?_
    refine wp_iconst (pc := 9) (v := nI 0) X dX8_file_9 (by decide) ?_
    refine wp_bipush (pc := 10) (v := nI 7) X dX8_file_10 (by decide) ?_
    refine wp_invS (pc := 12) X sv_X8_31  rfl ⟨by decide, by decide⟩ (As := [.int a2, .int (nI 0), .int (nI 7)]) (st := []) rfl rfl (Nat.le_of_ble_eq_true rfl) dX8_file_12 ?_
    refine CM.mono h (fun r4 M3 h => ?_)
    refine wp_if_ne (pc := 15) (tgt := 20) X dX8_file_15 (by decide) (fun hc => ?_) (fun hc => ?_)
    · replace h := h.1 hc
      refine wp_iload_n (pc := 20) X dX8_file_20 rfl rfl ?_
      refine wp_bipush (pc := 21) (v := nI 7) X dX8_file_21 (by decide) ?_
      refine wp_icmp_ne (pc := 23) (tgt := 34) X dX8_file_23 (by decide) (fun hc => ?_) (fun hc => ?_)
      · replace h := h.1 hc
        refine wp_iload_n (pc := 34) X dX8_file_34 rfl rfl ?_
        refine wp_iconst (pc := 35) (v := nI 5) X dX8_file_35 (by decide) ?_
        refine wp_icmp_ne (pc := 36) (tgt := 55) X dX8_file_36 (by decide) (fun hc => ?_) (fun hc => ?_)
        · replace h := h.1 hc
          refine wp_aload_n (pc := 55) X dX8_file_55 rfl rfl ?_
          refine wp_get (pc := 56) X fl_X8_7 A_139 (by decide) (fg_8_0 A_139) dX8_file_56 ?_
          refine wp_bipush (pc := 59) (v := nI 6) X dX8_file_59 (by decide) ?_
          refine wp_iload_n (pc := 61) X dX8_file_61 rfl rfl ?_
          refine wp_imul (pc := 62) X dX8_file_62 ?_
          refine wp_iload_n (pc := 63) X dX8_file_63 rfl rfl ?_
          refine wp_iadd (pc := 64) X dX8_file_64 ?_
          obtain ⟨hj5, h⟩ := h
          refine wp_iald (pc := 65) X A_140 hj5 dX8_file_65 ?_
          exact wp_iret (pc := 66) X T dX8_file_66 h
        · replace h := h.2 hc
          refine wp_aload_n (pc := 39) X dX8_file_39 rfl rfl ?_
          refine wp_get (pc := 40) X fl_X8_7 A_139 (by decide) (fg_8_0 A_139) dX8_file_40 ?_
          refine wp_bipush (pc := 43) (v := nI 30) X dX8_file_43 (by decide) ?_
          refine wp_iload_n (pc := 45) X dX8_file_45 rfl rfl ?_
          refine wp_iadd (pc := 46) X dX8_file_46 ?_
          obtain ⟨hj6, h⟩ := h
          refine wp_iald (pc := 47) X A_140 hj6 dX8_file_47 ?_
          refine wp_sipush (pc := 48) (v := nI 1000) X dX8_file_48 (by decide) ?_
          refine wp_iadd (pc := 51) X dX8_file_51 ?_
          refine wp_goto (pc := 52) (tgt := 66) X dX8_file_52 (by decide) ?_
          exact wp_iret (pc := 66) X T dX8_file_66 h
      · replace h := h.2 hc
        refine wp_aload_n (pc := 26) X dX8_file_26 rfl rfl ?_
        refine wp_iload_n (pc := 27) X dX8_file_27 rfl rfl ?_
        refine wp_invV (pc := 28) X sv_X8_124 A_139 (by decide) rfl ⟨by decide, by decide⟩ (As := [.int a1]) (st := []) rfl rfl (Nat.le_of_ble_eq_true rfl) dX8_file_28 ?_
        refine CM.mono h (fun r8 M7 h => ?_)
        refine wp_goto (pc := 31) (tgt := 66) X dX8_file_31 (by decide) ?_
        exact wp_iret (pc := 66) X T dX8_file_66 h
    · replace h := h.2 hc
      refine wp_iconst (pc := 18) (v := (-1)) X dX8_file_18 (by decide) ?_
      exact wp_iret (pc := 19) X T dX8_file_19 h
theorem r_X8_fileN_0 {x : CT} {L : List Nat} {Q : Int32 → Mem → Prop} {M : Mem}  {f e : Nat} (X : BS x L cX8_file 3 RX8 (m_X8_file).2.2.2.2) (T : RT x L (some .int) Q) (A_139 : AC L 139 8 0) (A_140 : AC L 140 9 918)
    (h : CM m_X8_isFile L [.ref 139, .int (nI f)] M (fun r2 M1 => (r2 = 0 → Q (-1) M1) ∧ (¬ r2 = 0 → CM m_X8_within L [.int (nI e), .int (nI 0), .int (nI 7)] M1 (fun r4 M3 => (¬ r4 = 0 → e < 2 ^ 31 ∧ (¬ e = 7 → e < 2 ^ 31 ∧ (¬ e = 5 → (6 * e + f) < 918 ∧ Q (M3 140 (6 * e + f)) M3) ∧ (e = 5 → (30 + f) < 918 ∧ Q ((M3 140 (30 + f)) + (nI 1000)) M3)) ∧ (e = 7 → CM m_X8_partBits L [.ref 139, .int (nI f)] M3 (fun r9 M8 => Q r9 M8))) ∧ (r4 = 0 → Q (-1) M3))))) : WP x L 0 [some (.ref 139), some (.int (nI f)), some (.int (nI e))] [] M := by
  refine wp_aload_n (pc := 0) X dX8_file_0 rfl rfl ?_
  refine wp_iload_n (pc := 1) X dX8_file_1 rfl rfl ?_
  refine wp_invV (pc := 2) X sv_X8_101 A_139 (by decide) rfl ⟨by decide, by decide⟩ (As := [.int (nI f)]) (st := []) rfl rfl (Nat.le_of_ble_eq_true rfl) dX8_file_2 ?_
  refine CM.mono h (fun r2 M1 h => ?_)
  refine wp_if_eq (pc := 5) (tgt := 18) X dX8_file_5 (by decide) (fun hc => ?_) (fun hc => ?_)
  · replace h := h.1 hc
    refine wp_iconst (pc := 18) (v := (-1)) X dX8_file_18 (by decide) ?_
    exact wp_iret (pc := 19) X T dX8_file_19 h
  · replace h := h.2 hc
    refine wp_iload_n (pc := 8) X dX8_file_8 rfl rfl ?_
    refine wp_iconst (pc := 9) (v := nI 0) X dX8_file_9 (by decide) ?_
    refine wp_bipush (pc := 10) (v := nI 7) X dX8_file_10 (by decide) ?_
    refine wp_invS (pc := 12) X sv_X8_31  rfl ⟨by decide, by decide⟩ (As := [.int (nI e), .int (nI 0), .int (nI 7)]) (st := []) rfl rfl (Nat.le_of_ble_eq_true rfl) dX8_file_12 ?_
    refine CM.mono h (fun r4 M3 h => ?_)
    refine wp_if_ne (pc := 15) (tgt := 20) X dX8_file_15 (by decide) (fun hc => ?_) (fun hc => ?_)
    · replace h := h.1 hc
      refine wp_iload_n (pc := 20) X dX8_file_20 rfl rfl ?_
      refine wp_bipush (pc := 21) (v := nI 7) X dX8_file_21 (by decide) ?_
      obtain ⟨hb10, h⟩ := h
      refine wn_icmp_ne (pc := 23) (tgt := 34) X dX8_file_23 (by decide) hb10 (by decide) (fun hc => ?_) (fun hc => ?_)
      · replace h := h.1 hc
        refine wp_iload_n (pc := 34) X dX8_file_34 rfl rfl ?_
        refine wp_iconst (pc := 35) (v := nI 5) X dX8_file_35 (by decide) ?_
        obtain ⟨hb7, h⟩ := h
        refine wn_icmp_ne (pc := 36) (tgt := 55) X dX8_file_36 (by decide) hb7 (by decide) (fun hc => ?_) (fun hc => ?_)
        · replace h := h.1 hc
          refine wp_aload_n (pc := 55) X dX8_file_55 rfl rfl ?_
          refine wp_get (pc := 56) X fl_X8_7 A_139 (by decide) (fg_8_0 A_139) dX8_file_56 ?_
          refine wp_bipush (pc := 59) (v := nI 6) X dX8_file_59 (by decide) ?_
          refine wp_iload_n (pc := 61) X dX8_file_61 rfl rfl ?_
          refine wn_imul (pc := 62) X dX8_file_62 ?_
          refine wp_iload_n (pc := 63) X dX8_file_63 rfl rfl ?_
          refine wn_iadd (pc := 64) X dX8_file_64 ?_
          obtain ⟨hj5, h⟩ := h
          refine wn_iald (pc := 65) X A_140 hj5 (by decide) dX8_file_65 ?_
          exact wp_iret (pc := 66) X T dX8_file_66 h
        · replace h := h.2 hc
          refine wp_aload_n (pc := 39) X dX8_file_39 rfl rfl ?_
          refine wp_get (pc := 40) X fl_X8_7 A_139 (by decide) (fg_8_0 A_139) dX8_file_40 ?_
          refine wp_bipush (pc := 43) (v := nI 30) X dX8_file_43 (by decide) ?_
          refine wp_iload_n (pc := 45) X dX8_file_45 rfl rfl ?_
          refine wn_iadd (pc := 46) X dX8_file_46 ?_
          obtain ⟨hj6, h⟩ := h
          refine wn_iald (pc := 47) X A_140 hj6 (by decide) dX8_file_47 ?_
          refine wp_sipush (pc := 48) (v := nI 1000) X dX8_file_48 (by decide) ?_
          refine wp_iadd (pc := 51) X dX8_file_51 ?_
          refine wp_goto (pc := 52) (tgt := 66) X dX8_file_52 (by decide) ?_
          exact wp_iret (pc := 66) X T dX8_file_66 h
      · replace h := h.2 hc
        refine wp_aload_n (pc := 26) X dX8_file_26 rfl rfl ?_
        refine wp_iload_n (pc := 27) X dX8_file_27 rfl rfl ?_
        refine wp_invV (pc := 28) X sv_X8_124 A_139 (by decide) rfl ⟨by decide, by decide⟩ (As := [.int (nI f)]) (st := []) rfl rfl (Nat.le_of_ble_eq_true rfl) dX8_file_28 ?_
        refine CM.mono h (fun r9 M8 h => ?_)
        refine wp_goto (pc := 31) (tgt := 66) X dX8_file_31 (by decide) ?_
        exact wp_iret (pc := 66) X T dX8_file_66 h
    · replace h := h.2 hc
      refine wp_iconst (pc := 18) (v := (-1)) X dX8_file_18 (by decide) ?_
      exact wp_iret (pc := 19) X T dX8_file_19 h
theorem r_X8_sent_0 {x : CT} {L : List Nat} {Q : Int32 → Mem → Prop} {M : Mem}  {a1 a2 : Int32} (X : BS x L cX8_sent 3 RX8 (m_X8_sent).2.2.2.2) (T : RT x L (some .int) Q) (A_139 : AC L 139 8 0) (A_140 : AC L 140 9 918)
    (h : CM m_X8_within L [.int a1, .int (nI 0), .int (nI 9)] M (fun r2 M1 => (r2 = 0 → Q (-1) M1) ∧ (¬ r2 = 0 → CM m_X8_within L [.int a2, .int (nI 0), .int (nI 3)] M1 (fun r4 M3 => (¬ r4 = 0 → (a1 < (M3 140 45) → vp_in (((nI 49) + ((nI 4) * a1)) + a2) 918 ∧ Q (M3 140 (Int32.toNatClampNeg (((nI 49) + ((nI 4) * a1)) + a2))) M3) ∧ (¬ a1 < (M3 140 45) → Q (-4) M3)) ∧ (r4 = 0 → Q (-1) M3))))) : WP x L 0 [some (.ref 139), some (.int a1), some (.int a2)] [] M := by
  refine wp_iload_n (pc := 0) X dX8_sent_0 rfl rfl ?_
  refine wp_iconst (pc := 1) (v := nI 0) X dX8_sent_1 (by decide) ?_
  refine wp_bipush (pc := 2) (v := nI 9) X dX8_sent_2 (by decide) ?_
  refine wp_invS (pc := 4) X sv_X8_31  rfl ⟨by decide, by decide⟩ (As := [.int a1, .int (nI 0), .int (nI 9)]) (st := []) rfl rfl (Nat.le_of_ble_eq_true rfl) dX8_sent_4 ?_
  refine CM.mono h (fun r2 M1 h => ?_)
  refine wp_if_eq (pc := 7) (tgt := 19) X dX8_sent_7 (by decide) (fun hc => ?_) (fun hc => ?_)
  · replace h := h.1 hc
    refine wp_iconst (pc := 19) (v := (-1)) X dX8_sent_19 (by decide) ?_
    exact wp_iret (pc := 20) X T dX8_sent_20 h
  · replace h := h.2 hc
    refine wp_iload_n (pc := 10) X dX8_sent_10 rfl rfl ?_
    refine wp_iconst (pc := 11) (v := nI 0) X dX8_sent_11 (by decide) ?_
    refine wp_iconst (pc := 12) (v := nI 3) X dX8_sent_12 (by decide) ?_
    refine wp_invS (pc := 13) X sv_X8_31  rfl ⟨by decide, by decide⟩ (As := [.int a2, .int (nI 0), .int (nI 3)]) (st := []) rfl rfl (Nat.le_of_ble_eq_true rfl) dX8_sent_13 ?_
    refine CM.mono h (fun r4 M3 h => ?_)
    refine wp_if_ne (pc := 16) (tgt := 21) X dX8_sent_16 (by decide) (fun hc => ?_) (fun hc => ?_)
    · replace h := h.1 hc
      refine wp_iload_n (pc := 21) X dX8_sent_21 rfl rfl ?_
      refine wp_aload_n (pc := 22) X dX8_sent_22 rfl rfl ?_
      refine wp_get (pc := 23) X fl_X8_7 A_139 (by decide) (fg_8_0 A_139) dX8_sent_23 ?_
      refine wp_bipush (pc := 26) (v := nI 45) X dX8_sent_26 (by decide) ?_
      refine wn_iald (pc := 28) X A_140 (by decide) (by decide) dX8_sent_28 ?_
      refine wp_icmp_lt (pc := 29) (tgt := 37) X dX8_sent_29 (by decide) (fun hc => ?_) (fun hc => ?_)
      · replace h := h.1 hc
        refine wp_aload_n (pc := 37) X dX8_sent_37 rfl rfl ?_
        refine wp_get (pc := 38) X fl_X8_7 A_139 (by decide) (fg_8_0 A_139) dX8_sent_38 ?_
        refine wp_bipush (pc := 41) (v := nI 49) X dX8_sent_41 (by decide) ?_
        refine wp_iconst (pc := 43) (v := nI 4) X dX8_sent_43 (by decide) ?_
        refine wp_iload_n (pc := 44) X dX8_sent_44 rfl rfl ?_
        refine wp_imul (pc := 45) X dX8_sent_45 ?_
        refine wp_iadd (pc := 46) X dX8_sent_46 ?_
        refine wp_iload_n (pc := 47) X dX8_sent_47 rfl rfl ?_
        refine wp_iadd (pc := 48) X dX8_sent_48 ?_
        obtain ⟨hj5, h⟩ := h
        refine wp_iald (pc := 49) X A_140 hj5 dX8_sent_49 ?_
        exact wp_iret (pc := 50) X T dX8_sent_50 h
      · replace h := h.2 hc
        refine wp_bipush (pc := 32) (v := (-4)) X dX8_sent_32 (by decide) ?_
        refine wp_goto (pc := 34) (tgt := 50) X dX8_sent_34 (by decide) ?_
        exact wp_iret (pc := 50) X T dX8_sent_50 h
    · replace h := h.2 hc
      refine wp_iconst (pc := 19) (v := (-1)) X dX8_sent_19 (by decide) ?_
      exact wp_iret (pc := 20) X T dX8_sent_20 h
theorem r_X8_sentN_0 {x : CT} {L : List Nat} {Q : Int32 → Mem → Prop} {M : Mem}  {k e : Nat} (X : BS x L cX8_sent 3 RX8 (m_X8_sent).2.2.2.2) (T : RT x L (some .int) Q) (A_139 : AC L 139 8 0) (A_140 : AC L 140 9 918)
    (h : CM m_X8_within L [.int (nI k), .int (nI 0), .int (nI 9)] M (fun r2 M1 => (r2 = 0 → Q (-1) M1) ∧ (¬ r2 = 0 → CM m_X8_within L [.int (nI e), .int (nI 0), .int (nI 3)] M1 (fun r4 M3 => (¬ r4 = 0 → ((nI k) < (M3 140 45) → (49 + (4 * k) + e) < 918 ∧ Q (M3 140 (49 + (4 * k) + e)) M3) ∧ (¬ (nI k) < (M3 140 45) → Q (-4) M3)) ∧ (r4 = 0 → Q (-1) M3))))) : WP x L 0 [some (.ref 139), some (.int (nI k)), some (.int (nI e))] [] M := by
  refine wp_iload_n (pc := 0) X dX8_sent_0 rfl rfl ?_
  refine wp_iconst (pc := 1) (v := nI 0) X dX8_sent_1 (by decide) ?_
  refine wp_bipush (pc := 2) (v := nI 9) X dX8_sent_2 (by decide) ?_
  refine wp_invS (pc := 4) X sv_X8_31  rfl ⟨by decide, by decide⟩ (As := [.int (nI k), .int (nI 0), .int (nI 9)]) (st := []) rfl rfl (Nat.le_of_ble_eq_true rfl) dX8_sent_4 ?_
  refine CM.mono h (fun r2 M1 h => ?_)
  refine wp_if_eq (pc := 7) (tgt := 19) X dX8_sent_7 (by decide) (fun hc => ?_) (fun hc => ?_)
  · replace h := h.1 hc
    refine wp_iconst (pc := 19) (v := (-1)) X dX8_sent_19 (by decide) ?_
    exact wp_iret (pc := 20) X T dX8_sent_20 h
  · replace h := h.2 hc
    refine wp_iload_n (pc := 10) X dX8_sent_10 rfl rfl ?_
    refine wp_iconst (pc := 11) (v := nI 0) X dX8_sent_11 (by decide) ?_
    refine wp_iconst (pc := 12) (v := nI 3) X dX8_sent_12 (by decide) ?_
    refine wp_invS (pc := 13) X sv_X8_31  rfl ⟨by decide, by decide⟩ (As := [.int (nI e), .int (nI 0), .int (nI 3)]) (st := []) rfl rfl (Nat.le_of_ble_eq_true rfl) dX8_sent_13 ?_
    refine CM.mono h (fun r4 M3 h => ?_)
    refine wp_if_ne (pc := 16) (tgt := 21) X dX8_sent_16 (by decide) (fun hc => ?_) (fun hc => ?_)
    · replace h := h.1 hc
      refine wp_iload_n (pc := 21) X dX8_sent_21 rfl rfl ?_
      refine wp_aload_n (pc := 22) X dX8_sent_22 rfl rfl ?_
      refine wp_get (pc := 23) X fl_X8_7 A_139 (by decide) (fg_8_0 A_139) dX8_sent_23 ?_
      refine wp_bipush (pc := 26) (v := nI 45) X dX8_sent_26 (by decide) ?_
      refine wn_iald (pc := 28) X A_140 (by decide) (by decide) dX8_sent_28 ?_
      refine wp_icmp_lt (pc := 29) (tgt := 37) X dX8_sent_29 (by decide) (fun hc => ?_) (fun hc => ?_)
      · replace h := h.1 hc
        refine wp_aload_n (pc := 37) X dX8_sent_37 rfl rfl ?_
        refine wp_get (pc := 38) X fl_X8_7 A_139 (by decide) (fg_8_0 A_139) dX8_sent_38 ?_
        refine wp_bipush (pc := 41) (v := nI 49) X dX8_sent_41 (by decide) ?_
        refine wp_iconst (pc := 43) (v := nI 4) X dX8_sent_43 (by decide) ?_
        refine wp_iload_n (pc := 44) X dX8_sent_44 rfl rfl ?_
        refine wn_imul (pc := 45) X dX8_sent_45 ?_
        refine wn_iadd (pc := 46) X dX8_sent_46 ?_
        refine wp_iload_n (pc := 47) X dX8_sent_47 rfl rfl ?_
        refine wn_iadd (pc := 48) X dX8_sent_48 ?_
        obtain ⟨hj5, h⟩ := h
        refine wn_iald (pc := 49) X A_140 hj5 (by decide) dX8_sent_49 ?_
        exact wp_iret (pc := 50) X T dX8_sent_50 h
      · replace h := h.2 hc
        refine wp_bipush (pc := 32) (v := (-4)) X dX8_sent_32 (by decide) ?_
        refine wp_goto (pc := 34) (tgt := 50) X dX8_sent_34 (by decide) ?_
        exact wp_iret (pc := 50) X T dX8_sent_50 h
    · replace h := h.2 hc
      refine wp_iconst (pc := 19) (v := (-1)) X dX8_sent_19 (by decide) ?_
      exact wp_iret (pc := 20) X T dX8_sent_20 h
theorem r_X8_wholes_0 {x : CT} {L : List Nat} {Q : Int32 → Mem → Prop} {M : Mem}  {l : Nat} (X : BS x L cX8_wholes 4 RX8 (m_X8_wholes).2.2.2.2) (T : RT x L (some .int) Q) 
    (h : WP x L 4 [some (.ref 139), some (.int (nI l)), some (.int (nI 0)), some (.int (nI 0))] [] M) : WP x L 0 [some (.ref 139), some (.int (nI l)), none, none] [] M := by
  refine wp_iconst (pc := 0) (v := nI 0) X dX8_wholes_0 (by decide) ?_
  refine wp_istore_n (pc := 1) (lo' := [some (.ref 139), some (.int (nI l)), some (.int (nI 0)), none]) X dX8_wholes_1 rfl (Nat.le_of_ble_eq_true rfl) rfl rfl ?_
  refine wp_iconst (pc := 2) (v := nI 0) X dX8_wholes_2 (by decide) ?_
  refine wp_istore_n (pc := 3) (lo' := [some (.ref 139), some (.int (nI l)), some (.int (nI 0)), some (.int (nI 0))]) X dX8_wholes_3 rfl (Nat.le_of_ble_eq_true rfl) rfl rfl ?_
  exact h
theorem r_X8_wholes_4 {x : CT} {L : List Nat} {Q : Int32 → Mem → Prop} {M : Mem}  {l f : Nat} {a2 : Int32} (X : BS x L cX8_wholes 4 RX8 (m_X8_wholes).2.2.2.2) (T : RT x L (some .int) Q) (A_139 : AC L 139 8 0) (A_140 : AC L 140 9 918)
    (h : ∃ v1 : Nat, M 140 42 = nI v1 ∧ f < 2 ^ 31 ∧ v1 < 2 ^ 31 ∧ (v1 ≤ f → Q a2 M) ∧ (f < v1 → CM m_X8_lacks L [.ref 139, .int (nI l), .int (nI f)] M (fun r4 M3 => (¬ r4 = 0 → WP x L 4 [some (.ref 139), some (.int (nI l)), some (.int (a2 ||| (nI 0))), some (.int (nI (f + 1)))] [] M3) ∧ (r4 = 0 → WP x L 4 [some (.ref 139), some (.int (nI l)), some (.int (a2 ||| ((nI 1) <<< ((nI f) &&& 31)))), some (.int (nI (f + 1)))] [] M3)))) : WP x L 4 [some (.ref 139), some (.int (nI l)), some (.int a2), some (.int (nI f))] [] M := by
  refine wp_iload_n (pc := 4) X dX8_wholes_4 rfl rfl ?_
  refine wp_aload_n (pc := 5) X dX8_wholes_5 rfl rfl ?_
  refine wp_get (pc := 6) X fl_X8_7 A_139 (by decide) (fg_8_0 A_139) dX8_wholes_6 ?_
  refine wp_bipush (pc := 9) (v := nI 42) X dX8_wholes_9 (by decide) ?_
  obtain ⟨v1, he2, h⟩ := h
  refine we_iald (pc := 11) X A_140 (by decide) (by decide) he2 dX8_wholes_11 ?_
  obtain ⟨hb5, hb6, h⟩ := h
  refine wn_icmp_ge (pc := 12) (tgt := 40) X dX8_wholes_12 (by decide) hb5 hb6 (fun hc => ?_) (fun hc => ?_)
  · replace h := h.1 hc
    refine wp_iload_n (pc := 40) X dX8_wholes_40 rfl rfl ?_
    exact wp_iret (pc := 41) X T dX8_wholes_41 h
  · replace h := h.2 hc
    refine wp_iload_n (pc := 15) X dX8_wholes_15 rfl rfl ?_
    refine wp_aload_n (pc := 16) X dX8_wholes_16 rfl rfl ?_
    refine wp_iload_n (pc := 17) X dX8_wholes_17 rfl rfl ?_
    refine wp_iload_n (pc := 18) X dX8_wholes_18 rfl rfl ?_
    refine wp_invV (pc := 19) X sv_X8_111 A_139 (by decide) rfl ⟨by decide, by decide⟩ (As := [.int (nI l), .int (nI f)]) (st := [.int a2]) rfl rfl (Nat.le_of_ble_eq_true rfl) dX8_wholes_19 ?_
    refine CM.mono h (fun r4 M3 h => ?_)
    refine wp_if_ne (pc := 22) (tgt := 31) X dX8_wholes_22 (by decide) (fun hc => ?_) (fun hc => ?_)
    · replace h := h.1 hc
      refine wp_iconst (pc := 31) (v := nI 0) X dX8_wholes_31 (by decide) ?_
      refine wp_ior (pc := 32) X dX8_wholes_32 ?_
      refine wp_istore_n (pc := 33) (lo' := [some (.ref 139), some (.int (nI l)), some (.int (a2 ||| (nI 0))), some (.int (nI f))]) X dX8_wholes_33 rfl (Nat.le_of_ble_eq_true rfl) rfl rfl ?_
      refine wn_iinc (pc := 34) (d := 1) (lo' := [some (.ref 139), some (.int (nI l)), some (.int (a2 ||| (nI 0))), some (.int (nI (f + 1)))]) X dX8_wholes_34 rfl (by decide) rfl rfl ?_
      refine wp_goto (pc := 37) (tgt := 4) X dX8_wholes_37 (by decide) ?_
      exact h
    · replace h := h.2 hc
      refine wp_iconst (pc := 25) (v := nI 1) X dX8_wholes_25 (by decide) ?_
      refine wp_iload_n (pc := 26) X dX8_wholes_26 rfl rfl ?_
      refine wp_ishl (pc := 27) X dX8_wholes_27 ?_
      refine wp_goto (pc := 28) (tgt := 32) X dX8_wholes_28 (by decide) ?_
      refine wp_ior (pc := 32) X dX8_wholes_32 ?_
      refine wp_istore_n (pc := 33) (lo' := [some (.ref 139), some (.int (nI l)), some (.int (a2 ||| ((nI 1) <<< ((nI f) &&& 31)))), some (.int (nI f))]) X dX8_wholes_33 rfl (Nat.le_of_ble_eq_true rfl) rfl rfl ?_
      refine wn_iinc (pc := 34) (d := 1) (lo' := [some (.ref 139), some (.int (nI l)), some (.int (a2 ||| ((nI 1) <<< ((nI f) &&& 31)))), some (.int (nI (f + 1)))]) X dX8_wholes_34 rfl (by decide) rfl rfl ?_
      refine wp_goto (pc := 37) (tgt := 4) X dX8_wholes_37 (by decide) ?_
      exact h
theorem r_X8_listener_0 {x : CT} {L : List Nat} {Q : Int32 → Mem → Prop} {M : Mem}  {a1 a2 : Int32} (X : BS x L cX8_listener 4 RX8 (m_X8_listener).2.2.2.2) (T : RT x L (some .int) Q) (A_139 : AC L 139 8 0) (A_140 : AC L 140 9 918)
    (h : CM m_X8_isListener L [.ref 139, .int a1] M (fun r2 M1 => (r2 = 0 → Q (-1) M1) ∧ (¬ r2 = 0 → CM m_X8_within L [.int a2, .int (nI 0), .int (nI 5)] M1 (fun r4 M3 => (¬ r4 = 0 → (a2 = nI 0 → vp_in (((nI 89) + ((nI 16) * a1)) + (nI 0)) 918 ∧ Q (M3 140 (Int32.toNatClampNeg (((nI 89) + ((nI 16) * a1)) + (nI 0)))) M3) ∧ (a2 = nI 1 → vp_in (((nI 89) + ((nI 16) * a1)) + (nI 1)) 918 ∧ Q (M3 140 (Int32.toNatClampNeg (((nI 89) + ((nI 16) * a1)) + (nI 1)))) M3) ∧ (a2 = nI 2 → CM m_X8_knows L [.ref 139, .int a1] M3 (fun r12 M11 => (r12 = 0 → Q (nI 0) M11) ∧ (¬ r12 = 0 → Q (nI 1) M11))) ∧ (a2 = nI 3 → vp_in (((nI 89) + ((nI 16) * a1)) + (nI 2)) 918 ∧ Q (M3 140 (Int32.toNatClampNeg (((nI 89) + ((nI 16) * a1)) + (nI 2)))) M3) ∧ (a2 = nI 4 → CM m_X8_wholes L [.ref 139, .int a1] M3 (fun r18 M17 => Q r18 M17)) ∧ ((∀ j, j < 5 → ¬ a2 = nI j) → vp_in (((nI 89) + ((nI 16) * a1)) + (nI 3)) 918 ∧ Q (M3 140 (Int32.toNatClampNeg (((nI 89) + ((nI 16) * a1)) + (nI 3)))) M3)) ∧ (r4 = 0 → Q (-1) M3))))) : WP x L 0 [some (.ref 139), some (.int a1), some (.int a2), none] [] M := by
  refine wp_aload_n (pc := 0) X dX8_listener_0 rfl rfl ?_
  refine wp_iload_n (pc := 1) X dX8_listener_1 rfl rfl ?_
  refine wp_invV (pc := 2) X sv_X8_108 A_139 (by decide) rfl ⟨by decide, by decide⟩ (As := [.int a1]) (st := []) rfl rfl (Nat.le_of_ble_eq_true rfl) dX8_listener_2 ?_
  refine CM.mono h (fun r2 M1 h => ?_)
  refine wp_if_eq (pc := 5) (tgt := 17) X dX8_listener_5 (by decide) (fun hc => ?_) (fun hc => ?_)
  · replace h := h.1 hc
    refine wp_iconst (pc := 17) (v := (-1)) X dX8_listener_17 (by decide) ?_
    exact wp_iret (pc := 18) X T dX8_listener_18 h
  · replace h := h.2 hc
    refine wp_iload_n (pc := 8) X dX8_listener_8 rfl rfl ?_
    refine wp_iconst (pc := 9) (v := nI 0) X dX8_listener_9 (by decide) ?_
    refine wp_iconst (pc := 10) (v := nI 5) X dX8_listener_10 (by decide) ?_
    refine wp_invS (pc := 11) X sv_X8_31  rfl ⟨by decide, by decide⟩ (As := [.int a2, .int (nI 0), .int (nI 5)]) (st := []) rfl rfl (Nat.le_of_ble_eq_true rfl) dX8_listener_11 ?_
    refine CM.mono h (fun r4 M3 h => ?_)
    refine wp_if_ne (pc := 14) (tgt := 19) X dX8_listener_14 (by decide) (fun hc => ?_) (fun hc => ?_)
    · replace h := h.1 hc
      refine wp_bipush (pc := 19) (v := nI 89) X dX8_listener_19 (by decide) ?_
      refine wp_bipush (pc := 21) (v := nI 16) X dX8_listener_21 (by decide) ?_
      refine wp_iload_n (pc := 23) X dX8_listener_23 rfl rfl ?_
      refine wp_imul (pc := 24) X dX8_listener_24 ?_
      refine wp_iadd (pc := 25) X dX8_listener_25 ?_
      refine wp_istore_n (pc := 26) (lo' := [some (.ref 139), some (.int a1), some (.int a2), some (.int ((nI 89) + ((nI 16) * a1)))]) X dX8_listener_26 rfl (Nat.le_of_ble_eq_true rfl) rfl rfl ?_
      refine wp_iload_n (pc := 27) X dX8_listener_27 rfl rfl ?_
      by_cases e28_0 : a2 = nI 0
      · replace h := h.1 e28_0
        refine wp_tabIn (pc := 28) (off := 36) (tgt := 64) X dX8_listener_28 (by rw [e28_0]; decide) (by rw [e28_0]; decide) (by rw [e28_0]; rfl) (by decide) ?_
        refine wp_aload_n (pc := 64) X dX8_listener_64 rfl rfl ?_
        refine wp_get (pc := 65) X fl_X8_7 A_139 (by decide) (fg_8_0 A_139) dX8_listener_65 ?_
        refine wp_iload_n (pc := 68) X dX8_listener_68 rfl rfl ?_
        refine wp_iconst (pc := 69) (v := nI 0) X dX8_listener_69 (by decide) ?_
        refine wp_iadd (pc := 70) X dX8_listener_70 ?_
        obtain ⟨hj6, h⟩ := h
        refine wp_iald (pc := 71) X A_140 hj6 dX8_listener_71 ?_
        exact wp_iret (pc := 72) X T dX8_listener_72 h
      by_cases e28_1 : a2 = nI 1
      · replace h := h.2.1 e28_1
        refine wp_tabIn (pc := 28) (off := 45) (tgt := 73) X dX8_listener_28 (by rw [e28_1]; decide) (by rw [e28_1]; decide) (by rw [e28_1]; rfl) (by decide) ?_
        refine wp_aload_n (pc := 73) X dX8_listener_73 rfl rfl ?_
        refine wp_get (pc := 74) X fl_X8_7 A_139 (by decide) (fg_8_0 A_139) dX8_listener_74 ?_
        refine wp_iload_n (pc := 77) X dX8_listener_77 rfl rfl ?_
        refine wp_iconst (pc := 78) (v := nI 1) X dX8_listener_78 (by decide) ?_
        refine wp_iadd (pc := 79) X dX8_listener_79 ?_
        obtain ⟨hj8, h⟩ := h
        refine wp_iald (pc := 80) X A_140 hj8 dX8_listener_80 ?_
        exact wp_iret (pc := 81) X T dX8_listener_81 h
      by_cases e28_2 : a2 = nI 2
      · replace h := h.2.2.1 e28_2
        refine wp_tabIn (pc := 28) (off := 54) (tgt := 82) X dX8_listener_28 (by rw [e28_2]; decide) (by rw [e28_2]; decide) (by rw [e28_2]; rfl) (by decide) ?_
        refine wp_aload_n (pc := 82) X dX8_listener_82 rfl rfl ?_
        refine wp_iload_n (pc := 83) X dX8_listener_83 rfl rfl ?_
        refine wp_invV (pc := 84) X sv_X8_115 A_139 (by decide) rfl ⟨by decide, by decide⟩ (As := [.int a1]) (st := []) rfl rfl (Nat.le_of_ble_eq_true rfl) dX8_listener_84 ?_
        refine CM.mono h (fun r12 M11 h => ?_)
        refine wp_if_eq (pc := 87) (tgt := 94) X dX8_listener_87 (by decide) (fun hc => ?_) (fun hc => ?_)
        · replace h := h.1 hc
          refine wp_iconst (pc := 94) (v := nI 0) X dX8_listener_94 (by decide) ?_
          exact wp_iret (pc := 95) X T dX8_listener_95 h
        · replace h := h.2 hc
          refine wp_iconst (pc := 90) (v := nI 1) X dX8_listener_90 (by decide) ?_
          refine wp_goto (pc := 91) (tgt := 95) X dX8_listener_91 (by decide) ?_
          exact wp_iret (pc := 95) X T dX8_listener_95 h
      by_cases e28_3 : a2 = nI 3
      · replace h := h.2.2.2.1 e28_3
        refine wp_tabIn (pc := 28) (off := 68) (tgt := 96) X dX8_listener_28 (by rw [e28_3]; decide) (by rw [e28_3]; decide) (by rw [e28_3]; rfl) (by decide) ?_
        refine wp_aload_n (pc := 96) X dX8_listener_96 rfl rfl ?_
        refine wp_get (pc := 97) X fl_X8_7 A_139 (by decide) (fg_8_0 A_139) dX8_listener_97 ?_
        refine wp_iload_n (pc := 100) X dX8_listener_100 rfl rfl ?_
        refine wp_iconst (pc := 101) (v := nI 2) X dX8_listener_101 (by decide) ?_
        refine wp_iadd (pc := 102) X dX8_listener_102 ?_
        obtain ⟨hj14, h⟩ := h
        refine wp_iald (pc := 103) X A_140 hj14 dX8_listener_103 ?_
        exact wp_iret (pc := 104) X T dX8_listener_104 h
      by_cases e28_4 : a2 = nI 4
      · replace h := h.2.2.2.2.1 e28_4
        refine wp_tabIn (pc := 28) (off := 77) (tgt := 105) X dX8_listener_28 (by rw [e28_4]; decide) (by rw [e28_4]; decide) (by rw [e28_4]; rfl) (by decide) ?_
        refine wp_aload_n (pc := 105) X dX8_listener_105 rfl rfl ?_
        refine wp_iload_n (pc := 106) X dX8_listener_106 rfl rfl ?_
        refine wp_invV (pc := 107) X sv_X8_127 A_139 (by decide) rfl ⟨by decide, by decide⟩ (As := [.int a1]) (st := []) rfl rfl (Nat.le_of_ble_eq_true rfl) dX8_listener_107 ?_
        refine CM.mono h (fun r18 M17 h => ?_)
        exact wp_iret (pc := 110) X T dX8_listener_110 h
      have hall : ∀ j, j < 5 → ¬ a2 = nI j := by
        intro j hj
        rcases (show j = 0 ∨ j = 1 ∨ j = 2 ∨ j = 3 ∨ j = 4 by omega) with rfl | rfl | rfl | rfl | rfl
        all_goals assumption
      replace h := h.2.2.2.2.2 hall
      refine wp_tabOut (pc := 28) (tgt := 111) X dX8_listener_28 (sw_out hall (by decide) rfl) (by decide) ?_
      refine wp_aload_n (pc := 111) X dX8_listener_111 rfl rfl ?_
      refine wp_get (pc := 112) X fl_X8_7 A_139 (by decide) (fg_8_0 A_139) dX8_listener_112 ?_
      refine wp_iload_n (pc := 115) X dX8_listener_115 rfl rfl ?_
      refine wp_iconst (pc := 116) (v := nI 3) X dX8_listener_116 (by decide) ?_
      refine wp_iadd (pc := 117) X dX8_listener_117 ?_
      obtain ⟨hj19, h⟩ := h
      refine wp_iald (pc := 118) X A_140 hj19 dX8_listener_118 ?_
      exact wp_iret (pc := 119) X T dX8_listener_119 h
    · replace h := h.2 hc
      refine wp_iconst (pc := 17) (v := (-1)) X dX8_listener_17 (by decide) ?_
      exact wp_iret (pc := 18) X T dX8_listener_18 h
theorem r_X8_listenerN_0 {x : CT} {L : List Nat} {Q : Int32 → Mem → Prop} {M : Mem}  {l : Nat} {a2 : Int32} (X : BS x L cX8_listener 4 RX8 (m_X8_listener).2.2.2.2) (T : RT x L (some .int) Q) (A_139 : AC L 139 8 0) (A_140 : AC L 140 9 918)
    (h : CM m_X8_isListener L [.ref 139, .int (nI l)] M (fun r2 M1 => (r2 = 0 → Q (-1) M1) ∧ (¬ r2 = 0 → CM m_X8_within L [.int a2, .int (nI 0), .int (nI 5)] M1 (fun r4 M3 => (¬ r4 = 0 → (a2 = nI 0 → (89 + (16 * l) + 0) < 918 ∧ Q (M3 140 (89 + (16 * l) + 0)) M3) ∧ (a2 = nI 1 → (89 + (16 * l) + 1) < 918 ∧ Q (M3 140 (89 + (16 * l) + 1)) M3) ∧ (a2 = nI 2 → CM m_X8_knows L [.ref 139, .int (nI l)] M3 (fun r12 M11 => (r12 = 0 → Q (nI 0) M11) ∧ (¬ r12 = 0 → Q (nI 1) M11))) ∧ (a2 = nI 3 → (89 + (16 * l) + 2) < 918 ∧ Q (M3 140 (89 + (16 * l) + 2)) M3) ∧ (a2 = nI 4 → CM m_X8_wholes L [.ref 139, .int (nI l)] M3 (fun r18 M17 => Q r18 M17)) ∧ ((∀ j, j < 5 → ¬ a2 = nI j) → (89 + (16 * l) + 3) < 918 ∧ Q (M3 140 (89 + (16 * l) + 3)) M3)) ∧ (r4 = 0 → Q (-1) M3))))) : WP x L 0 [some (.ref 139), some (.int (nI l)), some (.int a2), none] [] M := by
  refine wp_aload_n (pc := 0) X dX8_listener_0 rfl rfl ?_
  refine wp_iload_n (pc := 1) X dX8_listener_1 rfl rfl ?_
  refine wp_invV (pc := 2) X sv_X8_108 A_139 (by decide) rfl ⟨by decide, by decide⟩ (As := [.int (nI l)]) (st := []) rfl rfl (Nat.le_of_ble_eq_true rfl) dX8_listener_2 ?_
  refine CM.mono h (fun r2 M1 h => ?_)
  refine wp_if_eq (pc := 5) (tgt := 17) X dX8_listener_5 (by decide) (fun hc => ?_) (fun hc => ?_)
  · replace h := h.1 hc
    refine wp_iconst (pc := 17) (v := (-1)) X dX8_listener_17 (by decide) ?_
    exact wp_iret (pc := 18) X T dX8_listener_18 h
  · replace h := h.2 hc
    refine wp_iload_n (pc := 8) X dX8_listener_8 rfl rfl ?_
    refine wp_iconst (pc := 9) (v := nI 0) X dX8_listener_9 (by decide) ?_
    refine wp_iconst (pc := 10) (v := nI 5) X dX8_listener_10 (by decide) ?_
    refine wp_invS (pc := 11) X sv_X8_31  rfl ⟨by decide, by decide⟩ (As := [.int a2, .int (nI 0), .int (nI 5)]) (st := []) rfl rfl (Nat.le_of_ble_eq_true rfl) dX8_listener_11 ?_
    refine CM.mono h (fun r4 M3 h => ?_)
    refine wp_if_ne (pc := 14) (tgt := 19) X dX8_listener_14 (by decide) (fun hc => ?_) (fun hc => ?_)
    · replace h := h.1 hc
      refine wp_bipush (pc := 19) (v := nI 89) X dX8_listener_19 (by decide) ?_
      refine wp_bipush (pc := 21) (v := nI 16) X dX8_listener_21 (by decide) ?_
      refine wp_iload_n (pc := 23) X dX8_listener_23 rfl rfl ?_
      refine wn_imul (pc := 24) X dX8_listener_24 ?_
      refine wn_iadd (pc := 25) X dX8_listener_25 ?_
      refine wp_istore_n (pc := 26) (lo' := [some (.ref 139), some (.int (nI l)), some (.int a2), some (.int (nI (89 + (16 * l))))]) X dX8_listener_26 rfl (Nat.le_of_ble_eq_true rfl) rfl rfl ?_
      refine wp_iload_n (pc := 27) X dX8_listener_27 rfl rfl ?_
      by_cases e28_0 : a2 = nI 0
      · replace h := h.1 e28_0
        refine wp_tabIn (pc := 28) (off := 36) (tgt := 64) X dX8_listener_28 (by rw [e28_0]; decide) (by rw [e28_0]; decide) (by rw [e28_0]; rfl) (by decide) ?_
        refine wp_aload_n (pc := 64) X dX8_listener_64 rfl rfl ?_
        refine wp_get (pc := 65) X fl_X8_7 A_139 (by decide) (fg_8_0 A_139) dX8_listener_65 ?_
        refine wp_iload_n (pc := 68) X dX8_listener_68 rfl rfl ?_
        refine wp_iconst (pc := 69) (v := nI 0) X dX8_listener_69 (by decide) ?_
        refine wn_iadd (pc := 70) X dX8_listener_70 ?_
        obtain ⟨hj6, h⟩ := h
        refine wn_iald (pc := 71) X A_140 hj6 (by decide) dX8_listener_71 ?_
        exact wp_iret (pc := 72) X T dX8_listener_72 h
      by_cases e28_1 : a2 = nI 1
      · replace h := h.2.1 e28_1
        refine wp_tabIn (pc := 28) (off := 45) (tgt := 73) X dX8_listener_28 (by rw [e28_1]; decide) (by rw [e28_1]; decide) (by rw [e28_1]; rfl) (by decide) ?_
        refine wp_aload_n (pc := 73) X dX8_listener_73 rfl rfl ?_
        refine wp_get (pc := 74) X fl_X8_7 A_139 (by decide) (fg_8_0 A_139) dX8_listener_74 ?_
        refine wp_iload_n (pc := 77) X dX8_listener_77 rfl rfl ?_
        refine wp_iconst (pc := 78) (v := nI 1) X dX8_listener_78 (by decide) ?_
        refine wn_iadd (pc := 79) X dX8_listener_79 ?_
        obtain ⟨hj8, h⟩ := h
        refine wn_iald (pc := 80) X A_140 hj8 (by decide) dX8_listener_80 ?_
        exact wp_iret (pc := 81) X T dX8_listener_81 h
      by_cases e28_2 : a2 = nI 2
      · replace h := h.2.2.1 e28_2
        refine wp_tabIn (pc := 28) (off := 54) (tgt := 82) X dX8_listener_28 (by rw [e28_2]; decide) (by rw [e28_2]; decide) (by rw [e28_2]; rfl) (by decide) ?_
        refine wp_aload_n (pc := 82) X dX8_listener_82 rfl rfl ?_
        refine wp_iload_n (pc := 83) X dX8_listener_83 rfl rfl ?_
        refine wp_invV (pc := 84) X sv_X8_115 A_139 (by decide) rfl ⟨by decide, by decide⟩ (As := [.int (nI l)]) (st := []) rfl rfl (Nat.le_of_ble_eq_true rfl) dX8_listener_84 ?_
        refine CM.mono h (fun r12 M11 h => ?_)
        refine wp_if_eq (pc := 87) (tgt := 94) X dX8_listener_87 (by decide) (fun hc => ?_) (fun hc => ?_)
        · replace h := h.1 hc
          refine wp_iconst (pc := 94) (v := nI 0) X dX8_listener_94 (by decide) ?_
          exact wp_iret (pc := 95) X T dX8_listener_95 h
        · replace h := h.2 hc
          refine wp_iconst (pc := 90) (v := nI 1) X dX8_listener_90 (by decide) ?_
          refine wp_goto (pc := 91) (tgt := 95) X dX8_listener_91 (by decide) ?_
          exact wp_iret (pc := 95) X T dX8_listener_95 h
      by_cases e28_3 : a2 = nI 3
      · replace h := h.2.2.2.1 e28_3
        refine wp_tabIn (pc := 28) (off := 68) (tgt := 96) X dX8_listener_28 (by rw [e28_3]; decide) (by rw [e28_3]; decide) (by rw [e28_3]; rfl) (by decide) ?_
        refine wp_aload_n (pc := 96) X dX8_listener_96 rfl rfl ?_
        refine wp_get (pc := 97) X fl_X8_7 A_139 (by decide) (fg_8_0 A_139) dX8_listener_97 ?_
        refine wp_iload_n (pc := 100) X dX8_listener_100 rfl rfl ?_
        refine wp_iconst (pc := 101) (v := nI 2) X dX8_listener_101 (by decide) ?_
        refine wn_iadd (pc := 102) X dX8_listener_102 ?_
        obtain ⟨hj14, h⟩ := h
        refine wn_iald (pc := 103) X A_140 hj14 (by decide) dX8_listener_103 ?_
        exact wp_iret (pc := 104) X T dX8_listener_104 h
      by_cases e28_4 : a2 = nI 4
      · replace h := h.2.2.2.2.1 e28_4
        refine wp_tabIn (pc := 28) (off := 77) (tgt := 105) X dX8_listener_28 (by rw [e28_4]; decide) (by rw [e28_4]; decide) (by rw [e28_4]; rfl) (by decide) ?_
        refine wp_aload_n (pc := 105) X dX8_listener_105 rfl rfl ?_
        refine wp_iload_n (pc := 106) X dX8_listener_106 rfl rfl ?_
        refine wp_invV (pc := 107) X sv_X8_127 A_139 (by decide) rfl ⟨by decide, by decide⟩ (As := [.int (nI l)]) (st := []) rfl rfl (Nat.le_of_ble_eq_true rfl) dX8_listener_107 ?_
        refine CM.mono h (fun r18 M17 h => ?_)
        exact wp_iret (pc := 110) X T dX8_listener_110 h
      have hall : ∀ j, j < 5 → ¬ a2 = nI j := by
        intro j hj
        rcases (show j = 0 ∨ j = 1 ∨ j = 2 ∨ j = 3 ∨ j = 4 by omega) with rfl | rfl | rfl | rfl | rfl
        all_goals assumption
      replace h := h.2.2.2.2.2 hall
      refine wp_tabOut (pc := 28) (tgt := 111) X dX8_listener_28 (sw_out hall (by decide) rfl) (by decide) ?_
      refine wp_aload_n (pc := 111) X dX8_listener_111 rfl rfl ?_
      refine wp_get (pc := 112) X fl_X8_7 A_139 (by decide) (fg_8_0 A_139) dX8_listener_112 ?_
      refine wp_iload_n (pc := 115) X dX8_listener_115 rfl rfl ?_
      refine wp_iconst (pc := 116) (v := nI 3) X dX8_listener_116 (by decide) ?_
      refine wn_iadd (pc := 117) X dX8_listener_117 ?_
      obtain ⟨hj19, h⟩ := h
      refine wn_iald (pc := 118) X A_140 hj19 (by decide) dX8_listener_118 ?_
      exact wp_iret (pc := 119) X T dX8_listener_119 h
    · replace h := h.2 hc
      refine wp_iconst (pc := 17) (v := (-1)) X dX8_listener_17 (by decide) ?_
      exact wp_iret (pc := 18) X T dX8_listener_18 h
theorem r_X8_holds_0 {x : CT} {L : List Nat} {Q : Int32 → Mem → Prop} {M : Mem}  {a1 a2 a3 : Int32} (X : BS x L cX8_holds 5 RX8 (m_X8_holds).2.2.2.2) (T : RT x L (some .int) Q) (A_139 : AC L 139 8 0) (A_140 : AC L 140 9 918)
    (h : CM m_X8_isListener L [.ref 139, .int a1] M (fun r2 M1 => (r2 = 0 → Q (-1) M1) ∧ (¬ r2 = 0 → CM m_X8_isFile L [.ref 139, .int a2] M1 (fun r4 M3 => (r4 = 0 → Q (-1) M3) ∧ (¬ r4 = 0 → CM m_X8_within L [.int a3, .int (nI 0), .int (nI 2)] M3 (fun r6 M5 => (¬ r6 = 0 → (¬ a3 = 0 → (¬ a3 = (nI 2) → vp_in (((nI 89) + ((nI 16) * a1)) + (nI 2)) 918 ∧ (¬ (M5 140 (Int32.toNatClampNeg (((nI 89) + ((nI 16) * a1)) + (nI 2)))) = (-4) → vp_in ((((nI 89) + ((nI 16) * a1)) + (nI 4)) + a2) 918 ∧ Q (M5 140 (Int32.toNatClampNeg ((((nI 89) + ((nI 16) * a1)) + (nI 4)) + a2))) M5) ∧ ((M5 140 (Int32.toNatClampNeg (((nI 89) + ((nI 16) * a1)) + (nI 2)))) = (-4) → Q (-4) M5)) ∧ (a3 = (nI 2) → CM m_X8_lacks L [.ref 139, .int a1, .int a2] M5 (fun r10 M9 => Q r10 M9))) ∧ (a3 = 0 → vp_in ((((nI 89) + ((nI 16) * a1)) + (nI 10)) + a2) 918 ∧ Q (M5 140 (Int32.toNatClampNeg ((((nI 89) + ((nI 16) * a1)) + (nI 10)) + a2))) M5)) ∧ (r6 = 0 → Q (-1) M5))))))) : WP x L 0 [some (.ref 139), some (.int a1), some (.int a2), some (.int a3), none] [] M := by
  refine wp_aload_n (pc := 0) X dX8_holds_0 rfl rfl ?_
  refine wp_iload_n (pc := 1) X dX8_holds_1 rfl rfl ?_
  refine wp_invV (pc := 2) X sv_X8_108 A_139 (by decide) rfl ⟨by decide, by decide⟩ (As := [.int a1]) (st := []) rfl rfl (Nat.le_of_ble_eq_true rfl) dX8_holds_2 ?_
  refine CM.mono h (fun r2 M1 h => ?_)
  refine wp_if_eq (pc := 5) (tgt := 25) X dX8_holds_5 (by decide) (fun hc => ?_) (fun hc => ?_)
  · replace h := h.1 hc
    refine wp_iconst (pc := 25) (v := (-1)) X dX8_holds_25 (by decide) ?_
    exact wp_iret (pc := 26) X T dX8_holds_26 h
  · replace h := h.2 hc
    refine wp_aload_n (pc := 8) X dX8_holds_8 rfl rfl ?_
    refine wp_iload_n (pc := 9) X dX8_holds_9 rfl rfl ?_
    refine wp_invV (pc := 10) X sv_X8_101 A_139 (by decide) rfl ⟨by decide, by decide⟩ (As := [.int a2]) (st := []) rfl rfl (Nat.le_of_ble_eq_true rfl) dX8_holds_10 ?_
    refine CM.mono h (fun r4 M3 h => ?_)
    refine wp_if_eq (pc := 13) (tgt := 25) X dX8_holds_13 (by decide) (fun hc => ?_) (fun hc => ?_)
    · replace h := h.1 hc
      refine wp_iconst (pc := 25) (v := (-1)) X dX8_holds_25 (by decide) ?_
      exact wp_iret (pc := 26) X T dX8_holds_26 h
    · replace h := h.2 hc
      refine wp_iload_n (pc := 16) X dX8_holds_16 rfl rfl ?_
      refine wp_iconst (pc := 17) (v := nI 0) X dX8_holds_17 (by decide) ?_
      refine wp_iconst (pc := 18) (v := nI 2) X dX8_holds_18 (by decide) ?_
      refine wp_invS (pc := 19) X sv_X8_31  rfl ⟨by decide, by decide⟩ (As := [.int a3, .int (nI 0), .int (nI 2)]) (st := []) rfl rfl (Nat.le_of_ble_eq_true rfl) dX8_holds_19 ?_
      refine CM.mono h (fun r6 M5 h => ?_)
      refine wp_if_ne (pc := 22) (tgt := 27) X dX8_holds_22 (by decide) (fun hc => ?_) (fun hc => ?_)
      · replace h := h.1 hc
        refine wp_bipush (pc := 27) (v := nI 89) X dX8_holds_27 (by decide) ?_
        refine wp_bipush (pc := 29) (v := nI 16) X dX8_holds_29 (by decide) ?_
        refine wp_iload_n (pc := 31) X dX8_holds_31 rfl rfl ?_
        refine wp_imul (pc := 32) X dX8_holds_32 ?_
        refine wp_iadd (pc := 33) X dX8_holds_33 ?_
        refine wp_istore (pc := 34) (lo' := [some (.ref 139), some (.int a1), some (.int a2), some (.int a3), some (.int ((nI 89) + ((nI 16) * a1)))]) X dX8_holds_34 (Nat.le_of_ble_eq_true rfl) rfl rfl ?_
        refine wp_iload_n (pc := 36) X dX8_holds_36 rfl rfl ?_
        refine wp_if_ne (pc := 37) (tgt := 55) X dX8_holds_37 (by decide) (fun hc => ?_) (fun hc => ?_)
        · replace h := h.1 hc
          refine wp_iload_n (pc := 55) X dX8_holds_55 rfl rfl ?_
          refine wp_iconst (pc := 56) (v := nI 2) X dX8_holds_56 (by decide) ?_
          refine wp_icmp_ne (pc := 57) (tgt := 69) X dX8_holds_57 (by decide) (fun hc => ?_) (fun hc => ?_)
          · replace h := h.1 hc
            refine wp_aload_n (pc := 69) X dX8_holds_69 rfl rfl ?_
            refine wp_get (pc := 70) X fl_X8_7 A_139 (by decide) (fg_8_0 A_139) dX8_holds_70 ?_
            refine wp_iload (pc := 73) X dX8_holds_73 rfl ?_
            refine wp_iconst (pc := 75) (v := nI 2) X dX8_holds_75 (by decide) ?_
            refine wp_iadd (pc := 76) X dX8_holds_76 ?_
            obtain ⟨hj7, h⟩ := h
            refine wp_iald (pc := 77) X A_140 hj7 dX8_holds_77 ?_
            refine wp_bipush (pc := 78) (v := (-4)) X dX8_holds_78 (by decide) ?_
            refine wp_icmp_ne (pc := 80) (tgt := 88) X dX8_holds_80 (by decide) (fun hc => ?_) (fun hc => ?_)
            · replace h := h.1 hc
              refine wp_aload_n (pc := 88) X dX8_holds_88 rfl rfl ?_
              refine wp_get (pc := 89) X fl_X8_7 A_139 (by decide) (fg_8_0 A_139) dX8_holds_89 ?_
              refine wp_iload (pc := 92) X dX8_holds_92 rfl ?_
              refine wp_iconst (pc := 94) (v := nI 4) X dX8_holds_94 (by decide) ?_
              refine wp_iadd (pc := 95) X dX8_holds_95 ?_
              refine wp_iload_n (pc := 96) X dX8_holds_96 rfl rfl ?_
              refine wp_iadd (pc := 97) X dX8_holds_97 ?_
              obtain ⟨hj8, h⟩ := h
              refine wp_iald (pc := 98) X A_140 hj8 dX8_holds_98 ?_
              exact wp_iret (pc := 99) X T dX8_holds_99 h
            · replace h := h.2 hc
              refine wp_bipush (pc := 83) (v := (-4)) X dX8_holds_83 (by decide) ?_
              refine wp_goto (pc := 85) (tgt := 99) X dX8_holds_85 (by decide) ?_
              exact wp_iret (pc := 99) X T dX8_holds_99 h
          · replace h := h.2 hc
            refine wp_aload_n (pc := 60) X dX8_holds_60 rfl rfl ?_
            refine wp_iload_n (pc := 61) X dX8_holds_61 rfl rfl ?_
            refine wp_iload_n (pc := 62) X dX8_holds_62 rfl rfl ?_
            refine wp_invV (pc := 63) X sv_X8_111 A_139 (by decide) rfl ⟨by decide, by decide⟩ (As := [.int a1, .int a2]) (st := []) rfl rfl (Nat.le_of_ble_eq_true rfl) dX8_holds_63 ?_
            refine CM.mono h (fun r10 M9 h => ?_)
            refine wp_goto (pc := 66) (tgt := 99) X dX8_holds_66 (by decide) ?_
            exact wp_iret (pc := 99) X T dX8_holds_99 h
        · replace h := h.2 hc
          refine wp_aload_n (pc := 40) X dX8_holds_40 rfl rfl ?_
          refine wp_get (pc := 41) X fl_X8_7 A_139 (by decide) (fg_8_0 A_139) dX8_holds_41 ?_
          refine wp_iload (pc := 44) X dX8_holds_44 rfl ?_
          refine wp_bipush (pc := 46) (v := nI 10) X dX8_holds_46 (by decide) ?_
          refine wp_iadd (pc := 48) X dX8_holds_48 ?_
          refine wp_iload_n (pc := 49) X dX8_holds_49 rfl rfl ?_
          refine wp_iadd (pc := 50) X dX8_holds_50 ?_
          obtain ⟨hj11, h⟩ := h
          refine wp_iald (pc := 51) X A_140 hj11 dX8_holds_51 ?_
          refine wp_goto (pc := 52) (tgt := 99) X dX8_holds_52 (by decide) ?_
          exact wp_iret (pc := 99) X T dX8_holds_99 h
      · replace h := h.2 hc
        refine wp_iconst (pc := 25) (v := (-1)) X dX8_holds_25 (by decide) ?_
        exact wp_iret (pc := 26) X T dX8_holds_26 h
theorem r_X8_holdsN_0 {x : CT} {L : List Nat} {Q : Int32 → Mem → Prop} {M : Mem}  {l f : Nat} {a3 : Int32} (X : BS x L cX8_holds 5 RX8 (m_X8_holds).2.2.2.2) (T : RT x L (some .int) Q) (A_139 : AC L 139 8 0) (A_140 : AC L 140 9 918)
    (h : CM m_X8_isListener L [.ref 139, .int (nI l)] M (fun r2 M1 => (r2 = 0 → Q (-1) M1) ∧ (¬ r2 = 0 → CM m_X8_isFile L [.ref 139, .int (nI f)] M1 (fun r4 M3 => (r4 = 0 → Q (-1) M3) ∧ (¬ r4 = 0 → CM m_X8_within L [.int a3, .int (nI 0), .int (nI 2)] M3 (fun r6 M5 => (¬ r6 = 0 → (¬ a3 = 0 → (¬ a3 = (nI 2) → (89 + (16 * l) + 2) < 918 ∧ (¬ (M5 140 (89 + (16 * l) + 2)) = (-4) → (89 + (16 * l) + 4 + f) < 918 ∧ Q (M5 140 (89 + (16 * l) + 4 + f)) M5) ∧ ((M5 140 (89 + (16 * l) + 2)) = (-4) → Q (-4) M5)) ∧ (a3 = (nI 2) → CM m_X8_lacks L [.ref 139, .int (nI l), .int (nI f)] M5 (fun r10 M9 => Q r10 M9))) ∧ (a3 = 0 → (89 + (16 * l) + 10 + f) < 918 ∧ Q (M5 140 (89 + (16 * l) + 10 + f)) M5)) ∧ (r6 = 0 → Q (-1) M5))))))) : WP x L 0 [some (.ref 139), some (.int (nI l)), some (.int (nI f)), some (.int a3), none] [] M := by
  refine wp_aload_n (pc := 0) X dX8_holds_0 rfl rfl ?_
  refine wp_iload_n (pc := 1) X dX8_holds_1 rfl rfl ?_
  refine wp_invV (pc := 2) X sv_X8_108 A_139 (by decide) rfl ⟨by decide, by decide⟩ (As := [.int (nI l)]) (st := []) rfl rfl (Nat.le_of_ble_eq_true rfl) dX8_holds_2 ?_
  refine CM.mono h (fun r2 M1 h => ?_)
  refine wp_if_eq (pc := 5) (tgt := 25) X dX8_holds_5 (by decide) (fun hc => ?_) (fun hc => ?_)
  · replace h := h.1 hc
    refine wp_iconst (pc := 25) (v := (-1)) X dX8_holds_25 (by decide) ?_
    exact wp_iret (pc := 26) X T dX8_holds_26 h
  · replace h := h.2 hc
    refine wp_aload_n (pc := 8) X dX8_holds_8 rfl rfl ?_
    refine wp_iload_n (pc := 9) X dX8_holds_9 rfl rfl ?_
    refine wp_invV (pc := 10) X sv_X8_101 A_139 (by decide) rfl ⟨by decide, by decide⟩ (As := [.int (nI f)]) (st := []) rfl rfl (Nat.le_of_ble_eq_true rfl) dX8_holds_10 ?_
    refine CM.mono h (fun r4 M3 h => ?_)
    refine wp_if_eq (pc := 13) (tgt := 25) X dX8_holds_13 (by decide) (fun hc => ?_) (fun hc => ?_)
    · replace h := h.1 hc
      refine wp_iconst (pc := 25) (v := (-1)) X dX8_holds_25 (by decide) ?_
      exact wp_iret (pc := 26) X T dX8_holds_26 h
    · replace h := h.2 hc
      refine wp_iload_n (pc := 16) X dX8_holds_16 rfl rfl ?_
      refine wp_iconst (pc := 17) (v := nI 0) X dX8_holds_17 (by decide) ?_
      refine wp_iconst (pc := 18) (v := nI 2) X dX8_holds_18 (by decide) ?_
      refine wp_invS (pc := 19) X sv_X8_31  rfl ⟨by decide, by decide⟩ (As := [.int a3, .int (nI 0), .int (nI 2)]) (st := []) rfl rfl (Nat.le_of_ble_eq_true rfl) dX8_holds_19 ?_
      refine CM.mono h (fun r6 M5 h => ?_)
      refine wp_if_ne (pc := 22) (tgt := 27) X dX8_holds_22 (by decide) (fun hc => ?_) (fun hc => ?_)
      · replace h := h.1 hc
        refine wp_bipush (pc := 27) (v := nI 89) X dX8_holds_27 (by decide) ?_
        refine wp_bipush (pc := 29) (v := nI 16) X dX8_holds_29 (by decide) ?_
        refine wp_iload_n (pc := 31) X dX8_holds_31 rfl rfl ?_
        refine wn_imul (pc := 32) X dX8_holds_32 ?_
        refine wn_iadd (pc := 33) X dX8_holds_33 ?_
        refine wp_istore (pc := 34) (lo' := [some (.ref 139), some (.int (nI l)), some (.int (nI f)), some (.int a3), some (.int (nI (89 + (16 * l))))]) X dX8_holds_34 (Nat.le_of_ble_eq_true rfl) rfl rfl ?_
        refine wp_iload_n (pc := 36) X dX8_holds_36 rfl rfl ?_
        refine wp_if_ne (pc := 37) (tgt := 55) X dX8_holds_37 (by decide) (fun hc => ?_) (fun hc => ?_)
        · replace h := h.1 hc
          refine wp_iload_n (pc := 55) X dX8_holds_55 rfl rfl ?_
          refine wp_iconst (pc := 56) (v := nI 2) X dX8_holds_56 (by decide) ?_
          refine wp_icmp_ne (pc := 57) (tgt := 69) X dX8_holds_57 (by decide) (fun hc => ?_) (fun hc => ?_)
          · replace h := h.1 hc
            refine wp_aload_n (pc := 69) X dX8_holds_69 rfl rfl ?_
            refine wp_get (pc := 70) X fl_X8_7 A_139 (by decide) (fg_8_0 A_139) dX8_holds_70 ?_
            refine wp_iload (pc := 73) X dX8_holds_73 rfl ?_
            refine wp_iconst (pc := 75) (v := nI 2) X dX8_holds_75 (by decide) ?_
            refine wn_iadd (pc := 76) X dX8_holds_76 ?_
            obtain ⟨hj7, h⟩ := h
            refine wn_iald (pc := 77) X A_140 hj7 (by decide) dX8_holds_77 ?_
            refine wp_bipush (pc := 78) (v := (-4)) X dX8_holds_78 (by decide) ?_
            refine wp_icmp_ne (pc := 80) (tgt := 88) X dX8_holds_80 (by decide) (fun hc => ?_) (fun hc => ?_)
            · replace h := h.1 hc
              refine wp_aload_n (pc := 88) X dX8_holds_88 rfl rfl ?_
              refine wp_get (pc := 89) X fl_X8_7 A_139 (by decide) (fg_8_0 A_139) dX8_holds_89 ?_
              refine wp_iload (pc := 92) X dX8_holds_92 rfl ?_
              refine wp_iconst (pc := 94) (v := nI 4) X dX8_holds_94 (by decide) ?_
              refine wn_iadd (pc := 95) X dX8_holds_95 ?_
              refine wp_iload_n (pc := 96) X dX8_holds_96 rfl rfl ?_
              refine wn_iadd (pc := 97) X dX8_holds_97 ?_
              obtain ⟨hj8, h⟩ := h
              refine wn_iald (pc := 98) X A_140 hj8 (by decide) dX8_holds_98 ?_
              exact wp_iret (pc := 99) X T dX8_holds_99 h
            · replace h := h.2 hc
              refine wp_bipush (pc := 83) (v := (-4)) X dX8_holds_83 (by decide) ?_
              refine wp_goto (pc := 85) (tgt := 99) X dX8_holds_85 (by decide) ?_
              exact wp_iret (pc := 99) X T dX8_holds_99 h
          · replace h := h.2 hc
            refine wp_aload_n (pc := 60) X dX8_holds_60 rfl rfl ?_
            refine wp_iload_n (pc := 61) X dX8_holds_61 rfl rfl ?_
            refine wp_iload_n (pc := 62) X dX8_holds_62 rfl rfl ?_
            refine wp_invV (pc := 63) X sv_X8_111 A_139 (by decide) rfl ⟨by decide, by decide⟩ (As := [.int (nI l), .int (nI f)]) (st := []) rfl rfl (Nat.le_of_ble_eq_true rfl) dX8_holds_63 ?_
            refine CM.mono h (fun r10 M9 h => ?_)
            refine wp_goto (pc := 66) (tgt := 99) X dX8_holds_66 (by decide) ?_
            exact wp_iret (pc := 99) X T dX8_holds_99 h
        · replace h := h.2 hc
          refine wp_aload_n (pc := 40) X dX8_holds_40 rfl rfl ?_
          refine wp_get (pc := 41) X fl_X8_7 A_139 (by decide) (fg_8_0 A_139) dX8_holds_41 ?_
          refine wp_iload (pc := 44) X dX8_holds_44 rfl ?_
          refine wp_bipush (pc := 46) (v := nI 10) X dX8_holds_46 (by decide) ?_
          refine wn_iadd (pc := 48) X dX8_holds_48 ?_
          refine wp_iload_n (pc := 49) X dX8_holds_49 rfl rfl ?_
          refine wn_iadd (pc := 50) X dX8_holds_50 ?_
          obtain ⟨hj11, h⟩ := h
          refine wn_iald (pc := 51) X A_140 hj11 (by decide) dX8_holds_51 ?_
          refine wp_goto (pc := 52) (tgt := 99) X dX8_holds_52 (by decide) ?_
          exact wp_iret (pc := 99) X T dX8_holds_99 h
      · replace h := h.2 hc
        refine wp_iconst (pc := 25) (v := (-1)) X dX8_holds_25 (by decide) ?_
        exact wp_iret (pc := 26) X T dX8_holds_26 h
theorem r_X8_waitsFrom_0 {x : CT} {L : List Nat} {Q : Int32 → Mem → Prop} {M : Mem}  {f : Nat} (X : BS x L cX8_waitsFrom 8 RX8 (m_X8_waitsFrom).2.2.2.2) (T : RT x L (some .int) Q) 
    (h : WP x L 8 [some (.ref 139), some (.int (nI f)), some (.int (-4)), some (.int (nI 0)), some (.int (nI 1)), none, none, none] [] M) : WP x L 0 [some (.ref 139), some (.int (nI f)), none, none, none, none, none, none] [] M := by
  refine wp_bipush (pc := 0) (v := (-4)) X dX8_waitsFrom_0 (by decide) ?_
  refine wp_istore_n (pc := 2) (lo' := [some (.ref 139), some (.int (nI f)), some (.int (-4)), none, none, none, none, none]) X dX8_waitsFrom_2 rfl (Nat.le_of_ble_eq_true rfl) rfl rfl ?_
  refine wp_iconst (pc := 3) (v := nI 0) X dX8_waitsFrom_3 (by decide) ?_
  refine wp_istore_n (pc := 4) (lo' := [some (.ref 139), some (.int (nI f)), some (.int (-4)), some (.int (nI 0)), none, none, none, none]) X dX8_waitsFrom_4 rfl (Nat.le_of_ble_eq_true rfl) rfl rfl ?_
  refine wp_iconst (pc := 5) (v := nI 1) X dX8_waitsFrom_5 (by decide) ?_
  refine wp_istore (pc := 6) (lo' := [some (.ref 139), some (.int (nI f)), some (.int (-4)), some (.int (nI 0)), some (.int (nI 1)), none, none, none]) X dX8_waitsFrom_6 (Nat.le_of_ble_eq_true rfl) rfl rfl ?_
  exact h
theorem r_X8_waitsFrom_8 {x : CT} {L : List Nat} {Q : Int32 → Mem → Prop} {M : Mem}  {f k : Nat} {a2 a3 : Int32} (X : BS x L cX8_waitsFrom 8 RX8 (m_X8_waitsFrom).2.2.2.2) (T : RT x L (some .int) Q) (A_139 : AC L 139 8 0) (A_140 : AC L 140 9 918)
    (h : k < 2 ^ 31 ∧ (400 < k → Q (-4) M) ∧ (k ≤ 400 → (177 + f) < 918 ∧ CM m_X8_ticks L [.ref 139, .int (nI 153)] M (fun r3 M2 => (¬ r3 = (-4) → (¬ r3 = (nI f) → CM m_X8_ones L [.int (a3 ||| (nI 0))] M2 (fun r5 M4 => (0 + f) < 918 ∧ (r5 < (M4 140 (0 + f)) → WP x L 8 [some (.ref 139), some (.int (nI f)), some (.int a2), some (.int (a3 ||| (nI 0))), some (.int (nI (k + 1))), none, none, none] [] M4) ∧ (¬ r5 < (M4 140 (0 + f)) → Q (nI k) M4))) ∧ (r3 = (nI f) → (a2 < (M 140 198) → CM m_X8_ones L [.int (a3 ||| (nI 0))] M2 (fun r8 M7 => (0 + f) < 918 ∧ (r8 < (M7 140 (0 + f)) → WP x L 8 [some (.ref 139), some (.int (nI f)), some (.int a2), some (.int (a3 ||| (nI 0))), some (.int (nI (k + 1))), none, none, none] [] M7) ∧ (¬ r8 < (M7 140 (0 + f)) → Q (nI k) M7))) ∧ (¬ a2 < (M 140 198) → CM m_X8_ones L [.int (a3 ||| ((nI 1) <<< ((M 140 (177 + f)) &&& 31)))] M2 (fun r11 M10 => (0 + f) < 918 ∧ (r11 < (M10 140 (0 + f)) → WP x L 8 [some (.ref 139), some (.int (nI f)), some (.int a2), some (.int (a3 ||| ((nI 1) <<< ((M 140 (177 + f)) &&& 31)))), some (.int (nI (k + 1))), none, none, none] [] M10) ∧ (¬ r11 < (M10 140 (0 + f)) → Q (nI k) M10))))) ∧ (r3 = (-4) → (¬ r3 = (nI f) → CM m_X8_ones L [.int (a3 ||| (nI 0))] M2 (fun r14 M13 => (0 + f) < 918 ∧ (r14 < (M13 140 (0 + f)) → WP x L 8 [some (.ref 139), some (.int (nI f)), some (.int (((M 140 198) + (M2 140 197)) - (nI 1))), some (.int (a3 ||| (nI 0))), some (.int (nI (k + 1))), none, none, none] [] M13) ∧ (¬ r14 < (M13 140 (0 + f)) → Q (nI k) M13))) ∧ (r3 = (nI f) → ((((M 140 198) + (M2 140 197)) - (nI 1)) < (M 140 198) → CM m_X8_ones L [.int (a3 ||| (nI 0))] M2 (fun r17 M16 => (0 + f) < 918 ∧ (r17 < (M16 140 (0 + f)) → WP x L 8 [some (.ref 139), some (.int (nI f)), some (.int (((M 140 198) + (M2 140 197)) - (nI 1))), some (.int (a3 ||| (nI 0))), some (.int (nI (k + 1))), none, none, none] [] M16) ∧ (¬ r17 < (M16 140 (0 + f)) → Q (nI k) M16))) ∧ (¬ (((M 140 198) + (M2 140 197)) - (nI 1)) < (M 140 198) → CM m_X8_ones L [.int (a3 ||| ((nI 1) <<< ((M 140 (177 + f)) &&& 31)))] M2 (fun r20 M19 => (0 + f) < 918 ∧ (r20 < (M19 140 (0 + f)) → WP x L 8 [some (.ref 139), some (.int (nI f)), some (.int (((M 140 198) + (M2 140 197)) - (nI 1))), some (.int (a3 ||| ((nI 1) <<< ((M 140 (177 + f)) &&& 31)))), some (.int (nI (k + 1))), none, none, none] [] M19) ∧ (¬ r20 < (M19 140 (0 + f)) → Q (nI k) M19)))))))) : WP x L 8 [some (.ref 139), some (.int (nI f)), some (.int a2), some (.int a3), some (.int (nI k)), none, none, none] [] M := by
  refine wp_iload (pc := 8) X dX8_waitsFrom_8 rfl ?_
  refine wp_sipush (pc := 10) (v := nI 400) X dX8_waitsFrom_10 (by decide) ?_
  obtain ⟨hb22, h⟩ := h
  refine wn_icmp_gt (pc := 13) (tgt := 119) X dX8_waitsFrom_13 (by decide) hb22 (by decide) (fun hc => ?_) (fun hc => ?_)
  · replace h := h.1 hc
    refine wp_bipush (pc := 119) (v := (-4)) X dX8_waitsFrom_119 (by decide) ?_
    exact wp_iret (pc := 121) X T dX8_waitsFrom_121 h
  · replace h := h.2 hc
    refine wp_aload_n (pc := 16) X dX8_waitsFrom_16 rfl rfl ?_
    refine wp_get (pc := 17) X fl_X8_7 A_139 (by decide) (fg_8_0 A_139) dX8_waitsFrom_17 ?_
    refine wp_sipush (pc := 20) (v := nI 198) X dX8_waitsFrom_20 (by decide) ?_
    refine wn_iald (pc := 23) X A_140 (by decide) (by decide) dX8_waitsFrom_23 ?_
    refine wp_istore (pc := 24) (lo' := [some (.ref 139), some (.int (nI f)), some (.int a2), some (.int a3), some (.int (nI k)), some (.int (M 140 198)), none, none]) X dX8_waitsFrom_24 (Nat.le_of_ble_eq_true rfl) rfl rfl ?_
    refine wp_aload_n (pc := 26) X dX8_waitsFrom_26 rfl rfl ?_
    refine wp_get (pc := 27) X fl_X8_7 A_139 (by decide) (fg_8_0 A_139) dX8_waitsFrom_27 ?_
    refine wp_sipush (pc := 30) (v := nI 177) X dX8_waitsFrom_30 (by decide) ?_
    refine wp_iload_n (pc := 33) X dX8_waitsFrom_33 rfl rfl ?_
    refine wn_iadd (pc := 34) X dX8_waitsFrom_34 ?_
    obtain ⟨hj1, h⟩ := h
    refine wn_iald (pc := 35) X A_140 hj1 (by decide) dX8_waitsFrom_35 ?_
    refine wp_istore (pc := 36) (lo' := [some (.ref 139), some (.int (nI f)), some (.int a2), some (.int a3), some (.int (nI k)), some (.int (M 140 198)), some (.int (M 140 (177 + f))), none]) X dX8_waitsFrom_36 (Nat.le_of_ble_eq_true rfl) rfl rfl ?_
    refine wp_aload_n (pc := 38) X dX8_waitsFrom_38 rfl rfl ?_
    refine wp_sipush (pc := 39) (v := nI 153) X dX8_waitsFrom_39 (by decide) ?_
    refine wp_invV (pc := 42) X sv_X8_98 A_139 (by decide) rfl ⟨by decide, by decide⟩ (As := [.int (nI 153)]) (st := []) rfl rfl (Nat.le_of_ble_eq_true rfl) dX8_waitsFrom_42 ?_
    refine CM.mono h (fun r3 M2 h => ?_)
    refine wp_istore (pc := 45) (lo' := [some (.ref 139), some (.int (nI f)), some (.int a2), some (.int a3), some (.int (nI k)), some (.int (M 140 198)), some (.int (M 140 (177 + f))), some (.int r3)]) X dX8_waitsFrom_45 (Nat.le_of_ble_eq_true rfl) rfl rfl ?_
    refine wp_iload (pc := 47) X dX8_waitsFrom_47 rfl ?_
    refine wp_bipush (pc := 49) (v := (-4)) X dX8_waitsFrom_49 (by decide) ?_
    refine wp_icmp_ne (pc := 51) (tgt := 70) X dX8_waitsFrom_51 (by decide) (fun hc => ?_) (fun hc => ?_)
    · replace h := h.1 hc
      refine wp_iload_n (pc := 70) X dX8_waitsFrom_70 rfl rfl ?_
      refine wp_istore_n (pc := 71) (lo' := [some (.ref 139), some (.int (nI f)), some (.int a2), some (.int a3), some (.int (nI k)), some (.int (M 140 198)), some (.int (M 140 (177 + f))), some (.int r3)]) X dX8_waitsFrom_71 rfl (Nat.le_of_ble_eq_true rfl) rfl rfl ?_
      refine wp_iload_n (pc := 72) X dX8_waitsFrom_72 rfl rfl ?_
      refine wp_iload (pc := 73) X dX8_waitsFrom_73 rfl ?_
      refine wp_iload_n (pc := 75) X dX8_waitsFrom_75 rfl rfl ?_
      refine wp_icmp_ne (pc := 76) (tgt := 92) X dX8_waitsFrom_76 (by decide) (fun hc => ?_) (fun hc => ?_)
      · replace h := h.1 hc
        refine wp_iconst (pc := 92) (v := nI 0) X dX8_waitsFrom_92 (by decide) ?_
        refine wp_ior (pc := 93) X dX8_waitsFrom_93 ?_
        refine wp_istore_n (pc := 94) (lo' := [some (.ref 139), some (.int (nI f)), some (.int a2), some (.int (a3 ||| (nI 0))), some (.int (nI k)), some (.int (M 140 198)), some (.int (M 140 (177 + f))), some (.int r3)]) X dX8_waitsFrom_94 rfl (Nat.le_of_ble_eq_true rfl) rfl rfl ?_
        refine wp_iload_n (pc := 95) X dX8_waitsFrom_95 rfl rfl ?_
        refine wp_invS (pc := 96) X sv_X8_105  rfl ⟨by decide, by decide⟩ (As := [.int (a3 ||| (nI 0))]) (st := []) rfl rfl (Nat.le_of_ble_eq_true rfl) dX8_waitsFrom_96 ?_
        refine CM.mono h (fun r5 M4 h => ?_)
        refine wp_aload_n (pc := 99) X dX8_waitsFrom_99 rfl rfl ?_
        refine wp_get (pc := 100) X fl_X8_7 A_139 (by decide) (fg_8_0 A_139) dX8_waitsFrom_100 ?_
        refine wp_iconst (pc := 103) (v := nI 0) X dX8_waitsFrom_103 (by decide) ?_
        refine wp_iload_n (pc := 104) X dX8_waitsFrom_104 rfl rfl ?_
        refine wn_iadd (pc := 105) X dX8_waitsFrom_105 ?_
        obtain ⟨hj6, h⟩ := h
        refine wn_iald (pc := 106) X A_140 hj6 (by decide) dX8_waitsFrom_106 ?_
        refine wp_icmp_lt (pc := 107) (tgt := 113) X dX8_waitsFrom_107 (by decide) (fun hc => ?_) (fun hc => ?_)
        · replace h := h.1 hc
          refine wn_iinc (pc := 113) (d := 1) (lo' := [some (.ref 139), some (.int (nI f)), some (.int a2), some (.int (a3 ||| (nI 0))), some (.int (nI (k + 1))), some (.int (M 140 198)), some (.int (M 140 (177 + f))), some (.int r3)]) X dX8_waitsFrom_113 rfl (by decide) rfl rfl ?_
          refine wp_goto (pc := 116) (tgt := 8) X dX8_waitsFrom_116 (by decide) ?_
          exact wp_drop (show subL _ [some (.ref 139), some (.int (nI f)), some (.int a2), some (.int (a3 ||| (nI 0))), some (.int (nI (k + 1))), none, none, none] from ⟨rfl, ⟨rfl, ⟨rfl, ⟨rfl, ⟨rfl, trivial⟩⟩⟩⟩⟩) h
        · replace h := h.2 hc
          refine wp_iload (pc := 110) X dX8_waitsFrom_110 rfl ?_
          exact wp_iret (pc := 112) X T dX8_waitsFrom_112 h
      · replace h := h.2 hc
        refine wp_iload_n (pc := 79) X dX8_waitsFrom_79 rfl rfl ?_
        refine wp_iload (pc := 80) X dX8_waitsFrom_80 rfl ?_
        refine wp_icmp_lt (pc := 82) (tgt := 92) X dX8_waitsFrom_82 (by decide) (fun hc => ?_) (fun hc => ?_)
        · replace h := h.1 hc
          refine wp_iconst (pc := 92) (v := nI 0) X dX8_waitsFrom_92 (by decide) ?_
          refine wp_ior (pc := 93) X dX8_waitsFrom_93 ?_
          refine wp_istore_n (pc := 94) (lo' := [some (.ref 139), some (.int (nI f)), some (.int a2), some (.int (a3 ||| (nI 0))), some (.int (nI k)), some (.int (M 140 198)), some (.int (M 140 (177 + f))), some (.int r3)]) X dX8_waitsFrom_94 rfl (Nat.le_of_ble_eq_true rfl) rfl rfl ?_
          refine wp_iload_n (pc := 95) X dX8_waitsFrom_95 rfl rfl ?_
          refine wp_invS (pc := 96) X sv_X8_105  rfl ⟨by decide, by decide⟩ (As := [.int (a3 ||| (nI 0))]) (st := []) rfl rfl (Nat.le_of_ble_eq_true rfl) dX8_waitsFrom_96 ?_
          refine CM.mono h (fun r8 M7 h => ?_)
          refine wp_aload_n (pc := 99) X dX8_waitsFrom_99 rfl rfl ?_
          refine wp_get (pc := 100) X fl_X8_7 A_139 (by decide) (fg_8_0 A_139) dX8_waitsFrom_100 ?_
          refine wp_iconst (pc := 103) (v := nI 0) X dX8_waitsFrom_103 (by decide) ?_
          refine wp_iload_n (pc := 104) X dX8_waitsFrom_104 rfl rfl ?_
          refine wn_iadd (pc := 105) X dX8_waitsFrom_105 ?_
          obtain ⟨hj9, h⟩ := h
          refine wn_iald (pc := 106) X A_140 hj9 (by decide) dX8_waitsFrom_106 ?_
          refine wp_icmp_lt (pc := 107) (tgt := 113) X dX8_waitsFrom_107 (by decide) (fun hc => ?_) (fun hc => ?_)
          · replace h := h.1 hc
            refine wn_iinc (pc := 113) (d := 1) (lo' := [some (.ref 139), some (.int (nI f)), some (.int a2), some (.int (a3 ||| (nI 0))), some (.int (nI (k + 1))), some (.int (M 140 198)), some (.int (M 140 (177 + f))), some (.int r3)]) X dX8_waitsFrom_113 rfl (by decide) rfl rfl ?_
            refine wp_goto (pc := 116) (tgt := 8) X dX8_waitsFrom_116 (by decide) ?_
            exact wp_drop (show subL _ [some (.ref 139), some (.int (nI f)), some (.int a2), some (.int (a3 ||| (nI 0))), some (.int (nI (k + 1))), none, none, none] from ⟨rfl, ⟨rfl, ⟨rfl, ⟨rfl, ⟨rfl, trivial⟩⟩⟩⟩⟩) h
          · replace h := h.2 hc
            refine wp_iload (pc := 110) X dX8_waitsFrom_110 rfl ?_
            exact wp_iret (pc := 112) X T dX8_waitsFrom_112 h
        · replace h := h.2 hc
          refine wp_iconst (pc := 85) (v := nI 1) X dX8_waitsFrom_85 (by decide) ?_
          refine wp_iload (pc := 86) X dX8_waitsFrom_86 rfl ?_
          refine wp_ishl (pc := 88) X dX8_waitsFrom_88 ?_
          refine wp_goto (pc := 89) (tgt := 93) X dX8_waitsFrom_89 (by decide) ?_
          refine wp_ior (pc := 93) X dX8_waitsFrom_93 ?_
          refine wp_istore_n (pc := 94) (lo' := [some (.ref 139), some (.int (nI f)), some (.int a2), some (.int (a3 ||| ((nI 1) <<< ((M 140 (177 + f)) &&& 31)))), some (.int (nI k)), some (.int (M 140 198)), some (.int (M 140 (177 + f))), some (.int r3)]) X dX8_waitsFrom_94 rfl (Nat.le_of_ble_eq_true rfl) rfl rfl ?_
          refine wp_iload_n (pc := 95) X dX8_waitsFrom_95 rfl rfl ?_
          refine wp_invS (pc := 96) X sv_X8_105  rfl ⟨by decide, by decide⟩ (As := [.int (a3 ||| ((nI 1) <<< ((M 140 (177 + f)) &&& 31)))]) (st := []) rfl rfl (Nat.le_of_ble_eq_true rfl) dX8_waitsFrom_96 ?_
          refine CM.mono h (fun r11 M10 h => ?_)
          refine wp_aload_n (pc := 99) X dX8_waitsFrom_99 rfl rfl ?_
          refine wp_get (pc := 100) X fl_X8_7 A_139 (by decide) (fg_8_0 A_139) dX8_waitsFrom_100 ?_
          refine wp_iconst (pc := 103) (v := nI 0) X dX8_waitsFrom_103 (by decide) ?_
          refine wp_iload_n (pc := 104) X dX8_waitsFrom_104 rfl rfl ?_
          refine wn_iadd (pc := 105) X dX8_waitsFrom_105 ?_
          obtain ⟨hj12, h⟩ := h
          refine wn_iald (pc := 106) X A_140 hj12 (by decide) dX8_waitsFrom_106 ?_
          refine wp_icmp_lt (pc := 107) (tgt := 113) X dX8_waitsFrom_107 (by decide) (fun hc => ?_) (fun hc => ?_)
          · replace h := h.1 hc
            refine wn_iinc (pc := 113) (d := 1) (lo' := [some (.ref 139), some (.int (nI f)), some (.int a2), some (.int (a3 ||| ((nI 1) <<< ((M 140 (177 + f)) &&& 31)))), some (.int (nI (k + 1))), some (.int (M 140 198)), some (.int (M 140 (177 + f))), some (.int r3)]) X dX8_waitsFrom_113 rfl (by decide) rfl rfl ?_
            refine wp_goto (pc := 116) (tgt := 8) X dX8_waitsFrom_116 (by decide) ?_
            exact wp_drop (show subL _ [some (.ref 139), some (.int (nI f)), some (.int a2), some (.int (a3 ||| ((nI 1) <<< ((M 140 (177 + f)) &&& 31)))), some (.int (nI (k + 1))), none, none, none] from ⟨rfl, ⟨rfl, ⟨rfl, ⟨rfl, ⟨rfl, trivial⟩⟩⟩⟩⟩) h
          · replace h := h.2 hc
            refine wp_iload (pc := 110) X dX8_waitsFrom_110 rfl ?_
            exact wp_iret (pc := 112) X T dX8_waitsFrom_112 h
    · replace h := h.2 hc
      refine wp_iload (pc := 54) X dX8_waitsFrom_54 rfl ?_
      refine wp_aload_n (pc := 56) X dX8_waitsFrom_56 rfl rfl ?_
      refine wp_get (pc := 57) X fl_X8_7 A_139 (by decide) (fg_8_0 A_139) dX8_waitsFrom_57 ?_
      refine wp_sipush (pc := 60) (v := nI 197) X dX8_waitsFrom_60 (by decide) ?_
      refine wn_iald (pc := 63) X A_140 (by decide) (by decide) dX8_waitsFrom_63 ?_
      refine wp_iadd (pc := 64) X dX8_waitsFrom_64 ?_
      refine wp_iconst (pc := 65) (v := nI 1) X dX8_waitsFrom_65 (by decide) ?_
      refine wp_isub (pc := 66) X dX8_waitsFrom_66 ?_
      refine wp_goto (pc := 67) (tgt := 71) X dX8_waitsFrom_67 (by decide) ?_
      refine wp_istore_n (pc := 71) (lo' := [some (.ref 139), some (.int (nI f)), some (.int (((M 140 198) + (M2 140 197)) - (nI 1))), some (.int a3), some (.int (nI k)), some (.int (M 140 198)), some (.int (M 140 (177 + f))), some (.int r3)]) X dX8_waitsFrom_71 rfl (Nat.le_of_ble_eq_true rfl) rfl rfl ?_
      refine wp_iload_n (pc := 72) X dX8_waitsFrom_72 rfl rfl ?_
      refine wp_iload (pc := 73) X dX8_waitsFrom_73 rfl ?_
      refine wp_iload_n (pc := 75) X dX8_waitsFrom_75 rfl rfl ?_
      refine wp_icmp_ne (pc := 76) (tgt := 92) X dX8_waitsFrom_76 (by decide) (fun hc => ?_) (fun hc => ?_)
      · replace h := h.1 hc
        refine wp_iconst (pc := 92) (v := nI 0) X dX8_waitsFrom_92 (by decide) ?_
        refine wp_ior (pc := 93) X dX8_waitsFrom_93 ?_
        refine wp_istore_n (pc := 94) (lo' := [some (.ref 139), some (.int (nI f)), some (.int (((M 140 198) + (M2 140 197)) - (nI 1))), some (.int (a3 ||| (nI 0))), some (.int (nI k)), some (.int (M 140 198)), some (.int (M 140 (177 + f))), some (.int r3)]) X dX8_waitsFrom_94 rfl (Nat.le_of_ble_eq_true rfl) rfl rfl ?_
        refine wp_iload_n (pc := 95) X dX8_waitsFrom_95 rfl rfl ?_
        refine wp_invS (pc := 96) X sv_X8_105  rfl ⟨by decide, by decide⟩ (As := [.int (a3 ||| (nI 0))]) (st := []) rfl rfl (Nat.le_of_ble_eq_true rfl) dX8_waitsFrom_96 ?_
        refine CM.mono h (fun r14 M13 h => ?_)
        refine wp_aload_n (pc := 99) X dX8_waitsFrom_99 rfl rfl ?_
        refine wp_get (pc := 100) X fl_X8_7 A_139 (by decide) (fg_8_0 A_139) dX8_waitsFrom_100 ?_
        refine wp_iconst (pc := 103) (v := nI 0) X dX8_waitsFrom_103 (by decide) ?_
        refine wp_iload_n (pc := 104) X dX8_waitsFrom_104 rfl rfl ?_
        refine wn_iadd (pc := 105) X dX8_waitsFrom_105 ?_
        obtain ⟨hj15, h⟩ := h
        refine wn_iald (pc := 106) X A_140 hj15 (by decide) dX8_waitsFrom_106 ?_
        refine wp_icmp_lt (pc := 107) (tgt := 113) X dX8_waitsFrom_107 (by decide) (fun hc => ?_) (fun hc => ?_)
        · replace h := h.1 hc
          refine wn_iinc (pc := 113) (d := 1) (lo' := [some (.ref 139), some (.int (nI f)), some (.int (((M 140 198) + (M2 140 197)) - (nI 1))), some (.int (a3 ||| (nI 0))), some (.int (nI (k + 1))), some (.int (M 140 198)), some (.int (M 140 (177 + f))), some (.int r3)]) X dX8_waitsFrom_113 rfl (by decide) rfl rfl ?_
          refine wp_goto (pc := 116) (tgt := 8) X dX8_waitsFrom_116 (by decide) ?_
          exact wp_drop (show subL _ [some (.ref 139), some (.int (nI f)), some (.int (((M 140 198) + (M2 140 197)) - (nI 1))), some (.int (a3 ||| (nI 0))), some (.int (nI (k + 1))), none, none, none] from ⟨rfl, ⟨rfl, ⟨rfl, ⟨rfl, ⟨rfl, trivial⟩⟩⟩⟩⟩) h
        · replace h := h.2 hc
          refine wp_iload (pc := 110) X dX8_waitsFrom_110 rfl ?_
          exact wp_iret (pc := 112) X T dX8_waitsFrom_112 h
      · replace h := h.2 hc
        refine wp_iload_n (pc := 79) X dX8_waitsFrom_79 rfl rfl ?_
        refine wp_iload (pc := 80) X dX8_waitsFrom_80 rfl ?_
        refine wp_icmp_lt (pc := 82) (tgt := 92) X dX8_waitsFrom_82 (by decide) (fun hc => ?_) (fun hc => ?_)
        · replace h := h.1 hc
          refine wp_iconst (pc := 92) (v := nI 0) X dX8_waitsFrom_92 (by decide) ?_
          refine wp_ior (pc := 93) X dX8_waitsFrom_93 ?_
          refine wp_istore_n (pc := 94) (lo' := [some (.ref 139), some (.int (nI f)), some (.int (((M 140 198) + (M2 140 197)) - (nI 1))), some (.int (a3 ||| (nI 0))), some (.int (nI k)), some (.int (M 140 198)), some (.int (M 140 (177 + f))), some (.int r3)]) X dX8_waitsFrom_94 rfl (Nat.le_of_ble_eq_true rfl) rfl rfl ?_
          refine wp_iload_n (pc := 95) X dX8_waitsFrom_95 rfl rfl ?_
          refine wp_invS (pc := 96) X sv_X8_105  rfl ⟨by decide, by decide⟩ (As := [.int (a3 ||| (nI 0))]) (st := []) rfl rfl (Nat.le_of_ble_eq_true rfl) dX8_waitsFrom_96 ?_
          refine CM.mono h (fun r17 M16 h => ?_)
          refine wp_aload_n (pc := 99) X dX8_waitsFrom_99 rfl rfl ?_
          refine wp_get (pc := 100) X fl_X8_7 A_139 (by decide) (fg_8_0 A_139) dX8_waitsFrom_100 ?_
          refine wp_iconst (pc := 103) (v := nI 0) X dX8_waitsFrom_103 (by decide) ?_
          refine wp_iload_n (pc := 104) X dX8_waitsFrom_104 rfl rfl ?_
          refine wn_iadd (pc := 105) X dX8_waitsFrom_105 ?_
          obtain ⟨hj18, h⟩ := h
          refine wn_iald (pc := 106) X A_140 hj18 (by decide) dX8_waitsFrom_106 ?_
          refine wp_icmp_lt (pc := 107) (tgt := 113) X dX8_waitsFrom_107 (by decide) (fun hc => ?_) (fun hc => ?_)
          · replace h := h.1 hc
            refine wn_iinc (pc := 113) (d := 1) (lo' := [some (.ref 139), some (.int (nI f)), some (.int (((M 140 198) + (M2 140 197)) - (nI 1))), some (.int (a3 ||| (nI 0))), some (.int (nI (k + 1))), some (.int (M 140 198)), some (.int (M 140 (177 + f))), some (.int r3)]) X dX8_waitsFrom_113 rfl (by decide) rfl rfl ?_
            refine wp_goto (pc := 116) (tgt := 8) X dX8_waitsFrom_116 (by decide) ?_
            exact wp_drop (show subL _ [some (.ref 139), some (.int (nI f)), some (.int (((M 140 198) + (M2 140 197)) - (nI 1))), some (.int (a3 ||| (nI 0))), some (.int (nI (k + 1))), none, none, none] from ⟨rfl, ⟨rfl, ⟨rfl, ⟨rfl, ⟨rfl, trivial⟩⟩⟩⟩⟩) h
          · replace h := h.2 hc
            refine wp_iload (pc := 110) X dX8_waitsFrom_110 rfl ?_
            exact wp_iret (pc := 112) X T dX8_waitsFrom_112 h
        · replace h := h.2 hc
          refine wp_iconst (pc := 85) (v := nI 1) X dX8_waitsFrom_85 (by decide) ?_
          refine wp_iload (pc := 86) X dX8_waitsFrom_86 rfl ?_
          refine wp_ishl (pc := 88) X dX8_waitsFrom_88 ?_
          refine wp_goto (pc := 89) (tgt := 93) X dX8_waitsFrom_89 (by decide) ?_
          refine wp_ior (pc := 93) X dX8_waitsFrom_93 ?_
          refine wp_istore_n (pc := 94) (lo' := [some (.ref 139), some (.int (nI f)), some (.int (((M 140 198) + (M2 140 197)) - (nI 1))), some (.int (a3 ||| ((nI 1) <<< ((M 140 (177 + f)) &&& 31)))), some (.int (nI k)), some (.int (M 140 198)), some (.int (M 140 (177 + f))), some (.int r3)]) X dX8_waitsFrom_94 rfl (Nat.le_of_ble_eq_true rfl) rfl rfl ?_
          refine wp_iload_n (pc := 95) X dX8_waitsFrom_95 rfl rfl ?_
          refine wp_invS (pc := 96) X sv_X8_105  rfl ⟨by decide, by decide⟩ (As := [.int (a3 ||| ((nI 1) <<< ((M 140 (177 + f)) &&& 31)))]) (st := []) rfl rfl (Nat.le_of_ble_eq_true rfl) dX8_waitsFrom_96 ?_
          refine CM.mono h (fun r20 M19 h => ?_)
          refine wp_aload_n (pc := 99) X dX8_waitsFrom_99 rfl rfl ?_
          refine wp_get (pc := 100) X fl_X8_7 A_139 (by decide) (fg_8_0 A_139) dX8_waitsFrom_100 ?_
          refine wp_iconst (pc := 103) (v := nI 0) X dX8_waitsFrom_103 (by decide) ?_
          refine wp_iload_n (pc := 104) X dX8_waitsFrom_104 rfl rfl ?_
          refine wn_iadd (pc := 105) X dX8_waitsFrom_105 ?_
          obtain ⟨hj21, h⟩ := h
          refine wn_iald (pc := 106) X A_140 hj21 (by decide) dX8_waitsFrom_106 ?_
          refine wp_icmp_lt (pc := 107) (tgt := 113) X dX8_waitsFrom_107 (by decide) (fun hc => ?_) (fun hc => ?_)
          · replace h := h.1 hc
            refine wn_iinc (pc := 113) (d := 1) (lo' := [some (.ref 139), some (.int (nI f)), some (.int (((M 140 198) + (M2 140 197)) - (nI 1))), some (.int (a3 ||| ((nI 1) <<< ((M 140 (177 + f)) &&& 31)))), some (.int (nI (k + 1))), some (.int (M 140 198)), some (.int (M 140 (177 + f))), some (.int r3)]) X dX8_waitsFrom_113 rfl (by decide) rfl rfl ?_
            refine wp_goto (pc := 116) (tgt := 8) X dX8_waitsFrom_116 (by decide) ?_
            exact wp_drop (show subL _ [some (.ref 139), some (.int (nI f)), some (.int (((M 140 198) + (M2 140 197)) - (nI 1))), some (.int (a3 ||| ((nI 1) <<< ((M 140 (177 + f)) &&& 31)))), some (.int (nI (k + 1))), none, none, none] from ⟨rfl, ⟨rfl, ⟨rfl, ⟨rfl, ⟨rfl, trivial⟩⟩⟩⟩⟩) h
          · replace h := h.2 hc
            refine wp_iload (pc := 110) X dX8_waitsFrom_110 rfl ?_
            exact wp_iret (pc := 112) X T dX8_waitsFrom_112 h
theorem r_X8_waitIs_0 {x : CT} {L : List Nat} {Q : Int32 → Mem → Prop} {M : Mem}  {f b : Nat} (X : BS x L cX8_waitIs 4 RX8 (m_X8_waitIs).2.2.2.2) (T : RT x L (some .int) Q) (A_139 : AC L 139 8 0) (A_140 : AC L 140 9 918)
    (h : CM m_X8_copies L [.ref 139, .int (nI 0), .int (nI 153)] M (fun _ M1 => WP x L 19 [some (.ref 139), some (.int (nI f)), some (.int (nI b)), some (.int (nI 0))] [] (MU M1 140 201 (nI 0)))) : WP x L 0 [some (.ref 139), some (.int (nI f)), some (.int (nI b)), none] [] M := by
  refine wp_aload_n (pc := 0) X dX8_waitIs_0 rfl rfl ?_
  refine wp_iconst (pc := 1) (v := nI 0) X dX8_waitIs_1 (by decide) ?_
  refine wp_sipush (pc := 2) (v := nI 153) X dX8_waitIs_2 (by decide) ?_
  refine wp_invVv (pc := 5) X sv_X8_92 A_139 (by decide) rfl ⟨by decide, by decide⟩ (As := [.int (nI 0), .int (nI 153)]) (st := []) rfl rfl (Nat.le_of_ble_eq_true rfl) dX8_waitIs_5 ?_
  refine CM.mono h (fun _ M1 h => ?_)
  refine wp_aload_n (pc := 8) X dX8_waitIs_8 rfl rfl ?_
  refine wp_get (pc := 9) X fl_X8_7 A_139 (by decide) (fg_8_0 A_139) dX8_waitIs_9 ?_
  refine wp_sipush (pc := 12) (v := nI 201) X dX8_waitIs_12 (by decide) ?_
  refine wp_iconst (pc := 15) (v := nI 0) X dX8_waitIs_15 (by decide) ?_
  refine wn_iast (pc := 16) X A_140 (by decide) (by decide) dX8_waitIs_16 ?_
  refine wp_iconst (pc := 17) (v := nI 0) X dX8_waitIs_17 (by decide) ?_
  refine wp_istore_n (pc := 18) (lo' := [some (.ref 139), some (.int (nI f)), some (.int (nI b)), some (.int (nI 0))]) X dX8_waitIs_18 rfl (Nat.le_of_ble_eq_true rfl) rfl rfl ?_
  exact h
theorem r_X8_waitIs_19 {x : CT} {L : List Nat} {Q : Int32 → Mem → Prop} {M : Mem}  {f b k : Nat} (X : BS x L cX8_waitIs 4 RX8 (m_X8_waitIs).2.2.2.2) (T : RT x L (some .int) Q) (A_139 : AC L 139 8 0)
    (h : k < 2 ^ 31 ∧ b < 2 ^ 31 ∧ (b ≤ k → CM m_X8_waitsFrom L [.ref 139, .int (nI f)] M (fun r2 M1 => Q r2 M1)) ∧ (k < b → CM m_X8_ticks L [.ref 139, .int (nI 153)] M (fun r4 M3 => WP x L 19 [some (.ref 139), some (.int (nI f)), some (.int (nI b)), some (.int (nI (k + 1)))] [] M3))) : WP x L 19 [some (.ref 139), some (.int (nI f)), some (.int (nI b)), some (.int (nI k))] [] M := by
  refine wp_iload_n (pc := 19) X dX8_waitIs_19 rfl rfl ?_
  refine wp_iload_n (pc := 20) X dX8_waitIs_20 rfl rfl ?_
  obtain ⟨hb5, hb6, h⟩ := h
  refine wn_icmp_ge (pc := 21) (tgt := 38) X dX8_waitIs_21 (by decide) hb5 hb6 (fun hc => ?_) (fun hc => ?_)
  · replace h := h.1 hc
    refine wp_aload_n (pc := 38) X dX8_waitIs_38 rfl rfl ?_
    refine wp_iload_n (pc := 39) X dX8_waitIs_39 rfl rfl ?_
    refine wp_invV (pc := 40) X sv_X8_130 A_139 (by decide) rfl ⟨by decide, by decide⟩ (As := [.int (nI f)]) (st := []) rfl rfl (Nat.le_of_ble_eq_true rfl) dX8_waitIs_40 ?_
    refine CM.mono h (fun r2 M1 h => ?_)
    exact wp_iret (pc := 43) X T dX8_waitIs_43 h
  · replace h := h.2 hc
    refine wp_aload_n (pc := 24) X dX8_waitIs_24 rfl rfl ?_
    refine wp_sipush (pc := 25) (v := nI 153) X dX8_waitIs_25 (by decide) ?_
    refine wp_invV (pc := 28) X sv_X8_98 A_139 (by decide) rfl ⟨by decide, by decide⟩ (As := [.int (nI 153)]) (st := []) rfl rfl (Nat.le_of_ble_eq_true rfl) dX8_waitIs_28 ?_
    refine CM.mono h (fun r4 M3 h => ?_)
    refine wp_pop (pc := 31) X dX8_waitIs_31 rfl ?_
    refine wn_iinc (pc := 32) (d := 1) (lo' := [some (.ref 139), some (.int (nI f)), some (.int (nI b)), some (.int (nI (k + 1)))]) X dX8_waitIs_32 rfl (by decide) rfl rfl ?_
    refine wp_goto (pc := 35) (tgt := 19) X dX8_waitIs_35 (by decide) ?_
    exact h
theorem r_X8_waits_0 {x : CT} {L : List Nat} {Q : Int32 → Mem → Prop} {M : Mem}  {a1 a2 : Int32} (X : BS x L cX8_waits 3 RX8 (m_X8_waits).2.2.2.2) (T : RT x L (some .int) Q) (A_139 : AC L 139 8 0)
    (h : CM m_X8_isFile L [.ref 139, .int a1] M (fun r2 M1 => (r2 = 0 → Q (-1) M1) ∧ (¬ r2 = 0 → CM m_X8_within L [.int a2, .int (nI 0), .int (nI 99)] M1 (fun r4 M3 => (r4 = 0 → Q (-1) M3) ∧ (¬ r4 = 0 → CM m_X8_waitIs L [.ref 139, .int a1, .int a2] M3 (fun r6 M5 => Q r6 M5)))))) : WP x L 0 [some (.ref 139), some (.int a1), some (.int a2)] [] M := by
  refine wp_aload_n (pc := 0) X dX8_waits_0 rfl rfl ?_
  refine wp_iload_n (pc := 1) X dX8_waits_1 rfl rfl ?_
  refine wp_invV (pc := 2) X sv_X8_101 A_139 (by decide) rfl ⟨by decide, by decide⟩ (As := [.int a1]) (st := []) rfl rfl (Nat.le_of_ble_eq_true rfl) dX8_waits_2 ?_
  refine CM.mono h (fun r2 M1 h => ?_)
  refine wp_if_eq (pc := 5) (tgt := 27) X dX8_waits_5 (by decide) (fun hc => ?_) (fun hc => ?_)
  · replace h := h.1 hc
    refine wp_iconst (pc := 27) (v := (-1)) X dX8_waits_27 (by decide) ?_
    exact wp_iret (pc := 28) X T dX8_waits_28 h
  · replace h := h.2 hc
    refine wp_iload_n (pc := 8) X dX8_waits_8 rfl rfl ?_
    refine wp_iconst (pc := 9) (v := nI 0) X dX8_waits_9 (by decide) ?_
    refine wp_bipush (pc := 10) (v := nI 99) X dX8_waits_10 (by decide) ?_
    refine wp_invS (pc := 12) X sv_X8_31  rfl ⟨by decide, by decide⟩ (As := [.int a2, .int (nI 0), .int (nI 99)]) (st := []) rfl rfl (Nat.le_of_ble_eq_true rfl) dX8_waits_12 ?_
    refine CM.mono h (fun r4 M3 h => ?_)
    refine wp_if_eq (pc := 15) (tgt := 27) X dX8_waits_15 (by decide) (fun hc => ?_) (fun hc => ?_)
    · replace h := h.1 hc
      refine wp_iconst (pc := 27) (v := (-1)) X dX8_waits_27 (by decide) ?_
      exact wp_iret (pc := 28) X T dX8_waits_28 h
    · replace h := h.2 hc
      refine wp_aload_n (pc := 18) X dX8_waits_18 rfl rfl ?_
      refine wp_iload_n (pc := 19) X dX8_waits_19 rfl rfl ?_
      refine wp_iload_n (pc := 20) X dX8_waits_20 rfl rfl ?_
      refine wp_invV (pc := 21) X sv_X8_133 A_139 (by decide) rfl ⟨by decide, by decide⟩ (As := [.int a1, .int a2]) (st := []) rfl rfl (Nat.le_of_ble_eq_true rfl) dX8_waits_21 ?_
      refine CM.mono h (fun r6 M5 h => ?_)
      refine wp_goto (pc := 24) (tgt := 28) X dX8_waits_24 (by decide) ?_
      exact wp_iret (pc := 28) X T dX8_waits_28 h
theorem r_X8_mean_0 {x : CT} {L : List Nat} {Q : Int32 → Mem → Prop} {M : Mem}  {a1 a2 a3 : Int32} (X : BS x L cX8_mean 8 RX8 (m_X8_mean).2.2.2.2) (T : RT x L (some .int) Q) (A_139 : AC L 139 8 0)
    (h : CM m_X8_isFile L [.ref 139, .int a1] M (fun r2 M1 => (r2 = 0 → Q (-1) M1) ∧ (¬ r2 = 0 → CM m_X8_within L [.int a2, .int (nI 1), .int (nI 40)] M1 (fun r4 M3 => (r4 = 0 → Q (-1) M3) ∧ (¬ r4 = 0 → CM m_X8_within L [.int a3, .int (nI 0), .int (nI 2)] M3 (fun r6 M5 => (¬ r6 = 0 → WP x L 38 [some (.ref 139), some (.int a1), some (.int a2), some (.int a3), some (.int (nI 0)), some (.int (nI 0)), some (.int (nI 0)), none] [] M5) ∧ (r6 = 0 → Q (-1) M5))))))) : WP x L 0 [some (.ref 139), some (.int a1), some (.int a2), some (.int a3), none, none, none, none] [] M := by
  refine wp_aload_n (pc := 0) X dX8_mean_0 rfl rfl ?_
  refine wp_iload_n (pc := 1) X dX8_mean_1 rfl rfl ?_
  refine wp_invV (pc := 2) X sv_X8_101 A_139 (by decide) rfl ⟨by decide, by decide⟩ (As := [.int a1]) (st := []) rfl rfl (Nat.le_of_ble_eq_true rfl) dX8_mean_2 ?_
  refine CM.mono h (fun r2 M1 h => ?_)
  refine wp_if_eq (pc := 5) (tgt := 27) X dX8_mean_5 (by decide) (fun hc => ?_) (fun hc => ?_)
  · replace h := h.1 hc
    refine wp_iconst (pc := 27) (v := (-1)) X dX8_mean_27 (by decide) ?_
    exact wp_iret (pc := 28) X T dX8_mean_28 h
  · replace h := h.2 hc
    refine wp_iload_n (pc := 8) X dX8_mean_8 rfl rfl ?_
    refine wp_iconst (pc := 9) (v := nI 1) X dX8_mean_9 (by decide) ?_
    refine wp_bipush (pc := 10) (v := nI 40) X dX8_mean_10 (by decide) ?_
    refine wp_invS (pc := 12) X sv_X8_31  rfl ⟨by decide, by decide⟩ (As := [.int a2, .int (nI 1), .int (nI 40)]) (st := []) rfl rfl (Nat.le_of_ble_eq_true rfl) dX8_mean_12 ?_
    refine CM.mono h (fun r4 M3 h => ?_)
    refine wp_if_eq (pc := 15) (tgt := 27) X dX8_mean_15 (by decide) (fun hc => ?_) (fun hc => ?_)
    · replace h := h.1 hc
      refine wp_iconst (pc := 27) (v := (-1)) X dX8_mean_27 (by decide) ?_
      exact wp_iret (pc := 28) X T dX8_mean_28 h
    · replace h := h.2 hc
      refine wp_iload_n (pc := 18) X dX8_mean_18 rfl rfl ?_
      refine wp_iconst (pc := 19) (v := nI 0) X dX8_mean_19 (by decide) ?_
      refine wp_iconst (pc := 20) (v := nI 2) X dX8_mean_20 (by decide) ?_
      refine wp_invS (pc := 21) X sv_X8_31  rfl ⟨by decide, by decide⟩ (As := [.int a3, .int (nI 0), .int (nI 2)]) (st := []) rfl rfl (Nat.le_of_ble_eq_true rfl) dX8_mean_21 ?_
      refine CM.mono h (fun r6 M5 h => ?_)
      refine wp_if_ne (pc := 24) (tgt := 29) X dX8_mean_24 (by decide) (fun hc => ?_) (fun hc => ?_)
      · replace h := h.1 hc
        refine wp_iconst (pc := 29) (v := nI 0) X dX8_mean_29 (by decide) ?_
        refine wp_istore (pc := 30) (lo' := [some (.ref 139), some (.int a1), some (.int a2), some (.int a3), some (.int (nI 0)), none, none, none]) X dX8_mean_30 (Nat.le_of_ble_eq_true rfl) rfl rfl ?_
        refine wp_iconst (pc := 32) (v := nI 0) X dX8_mean_32 (by decide) ?_
        refine wp_istore (pc := 33) (lo' := [some (.ref 139), some (.int a1), some (.int a2), some (.int a3), some (.int (nI 0)), some (.int (nI 0)), none, none]) X dX8_mean_33 (Nat.le_of_ble_eq_true rfl) rfl rfl ?_
        refine wp_iconst (pc := 35) (v := nI 0) X dX8_mean_35 (by decide) ?_
        refine wp_istore (pc := 36) (lo' := [some (.ref 139), some (.int a1), some (.int a2), some (.int a3), some (.int (nI 0)), some (.int (nI 0)), some (.int (nI 0)), none]) X dX8_mean_36 (Nat.le_of_ble_eq_true rfl) rfl rfl ?_
        exact h
      · replace h := h.2 hc
        refine wp_iconst (pc := 27) (v := (-1)) X dX8_mean_27 (by decide) ?_
        exact wp_iret (pc := 28) X T dX8_mean_28 h
theorem r_X8_mean_38 {x : CT} {L : List Nat} {Q : Int32 → Mem → Prop} {M : Mem}  {f n k : Nat} {a3 a4 a5 : Int32} (X : BS x L cX8_mean 8 RX8 (m_X8_mean).2.2.2.2) (T : RT x L (some .int) Q) (A_139 : AC L 139 8 0)
    (h : k < 2 ^ 31 ∧ n < 2 ^ 31 ∧ (n ≤ k → vf_n32 (FP.fdiv (FP.i2f a4) (FP.i2f (nI n))) ∧ (¬ a3 = 0 → (¬ a3 = (nI 1) → Q a5 M) ∧ (a3 = (nI 1) → Q (FP.f2i (FP.fdiv (FP.i2f a4) (FP.i2f (nI n)))) M)) ∧ (a3 = 0 → CM m_Jxf58ca_floatToIntBits_5c35a L [.float (FP.fdiv (FP.i2f a4) (FP.i2f (nI n)))] M (fun r3 M2 => Q r3 M2))) ∧ (k < n → CM m_X8_waitIs L [.ref 139, .int (nI f), .int (nI k)] M (fun r5 M4 => (¬ r5 = (-4) → (r5 ≤ a5 → WP x L 38 [some (.ref 139), some (.int (nI f)), some (.int (nI n)), some (.int a3), some (.int (a4 + r5)), some (.int a5), some (.int (nI (k + 1))), none] [] M4) ∧ (¬ r5 ≤ a5 → WP x L 38 [some (.ref 139), some (.int (nI f)), some (.int (nI n)), some (.int a3), some (.int (a4 + r5)), some (.int r5), some (.int (nI (k + 1))), none] [] M4)) ∧ (r5 = (-4) → Q (-4) M4)))) : WP x L 38 [some (.ref 139), some (.int (nI f)), some (.int (nI n)), some (.int a3), some (.int a4), some (.int a5), some (.int (nI k)), none] [] M := by
  refine wp_iload (pc := 38) X dX8_mean_38 rfl ?_
  refine wp_iload_n (pc := 40) X dX8_mean_40 rfl rfl ?_
  obtain ⟨hb6, hb7, h⟩ := h
  refine wn_icmp_ge (pc := 41) (tgt := 92) X dX8_mean_41 (by decide) hb6 hb7 (fun hc => ?_) (fun hc => ?_)
  · replace h := h.1 hc
    refine wp_iload (pc := 92) X dX8_mean_92 rfl ?_
    refine wp_i2f (pc := 94) X dX8_mean_94 ?_
    refine wp_iload_n (pc := 95) X dX8_mean_95 rfl rfl ?_
    refine wp_i2f (pc := 96) X dX8_mean_96 ?_
    obtain ⟨hf1, h⟩ := h
    refine wp_fdiv (pc := 97) X dX8_mean_97 hf1 ?_
    refine wp_fstore (pc := 98) (lo' := [some (.ref 139), some (.int (nI f)), some (.int (nI n)), some (.int a3), some (.int a4), some (.int a5), some (.float (FP.fdiv (FP.i2f a4) (FP.i2f (nI n)))), none]) X dX8_mean_98 (Nat.le_of_ble_eq_true rfl) rfl rfl ?_
    refine wp_iload_n (pc := 100) X dX8_mean_100 rfl rfl ?_
    refine wp_if_ne (pc := 101) (tgt := 112) X dX8_mean_101 (by decide) (fun hc => ?_) (fun hc => ?_)
    · replace h := h.1 hc
      refine wp_iload_n (pc := 112) X dX8_mean_112 rfl rfl ?_
      refine wp_iconst (pc := 113) (v := nI 1) X dX8_mean_113 (by decide) ?_
      refine wp_icmp_ne (pc := 114) (tgt := 123) X dX8_mean_114 (by decide) (fun hc => ?_) (fun hc => ?_)
      · replace h := h.1 hc
        refine wp_iload (pc := 123) X dX8_mean_123 rfl ?_
        exact wp_iret (pc := 125) X T dX8_mean_125 h
      · replace h := h.2 hc
        refine wp_fload (pc := 117) X dX8_mean_117 rfl ?_
        refine wp_f2i (pc := 119) X dX8_mean_119 ?_
        refine wp_goto (pc := 120) (tgt := 125) X dX8_mean_120 (by decide) ?_
        exact wp_iret (pc := 125) X T dX8_mean_125 h
    · replace h := h.2 hc
      refine wp_fload (pc := 104) X dX8_mean_104 rfl ?_
      refine wp_invS (pc := 106) X sv_X8_118  rfl ⟨by decide, by decide⟩ (As := [.float (FP.fdiv (FP.i2f a4) (FP.i2f (nI n)))]) (st := []) rfl rfl (Nat.le_of_ble_eq_true rfl) dX8_mean_106 ?_
      refine CM.mono h (fun r3 M2 h => ?_)
      refine wp_goto (pc := 109) (tgt := 125) X dX8_mean_109 (by decide) ?_
      exact wp_iret (pc := 125) X T dX8_mean_125 h
  · replace h := h.2 hc
    refine wp_aload_n (pc := 44) X dX8_mean_44 rfl rfl ?_
    refine wp_iload_n (pc := 45) X dX8_mean_45 rfl rfl ?_
    refine wp_iload (pc := 46) X dX8_mean_46 rfl ?_
    refine wp_invV (pc := 48) X sv_X8_133 A_139 (by decide) rfl ⟨by decide, by decide⟩ (As := [.int (nI f), .int (nI k)]) (st := []) rfl rfl (Nat.le_of_ble_eq_true rfl) dX8_mean_48 ?_
    refine CM.mono h (fun r5 M4 h => ?_)
    refine wp_istore (pc := 51) (lo' := [some (.ref 139), some (.int (nI f)), some (.int (nI n)), some (.int a3), some (.int a4), some (.int a5), some (.int (nI k)), some (.int r5)]) X dX8_mean_51 (Nat.le_of_ble_eq_true rfl) rfl rfl ?_
    refine wp_iload (pc := 53) X dX8_mean_53 rfl ?_
    refine wp_bipush (pc := 55) (v := (-4)) X dX8_mean_55 (by decide) ?_
    refine wp_icmp_ne (pc := 57) (tgt := 63) X dX8_mean_57 (by decide) (fun hc => ?_) (fun hc => ?_)
    · replace h := h.1 hc
      refine wp_iload (pc := 63) X dX8_mean_63 rfl ?_
      refine wp_iload (pc := 65) X dX8_mean_65 rfl ?_
      refine wp_iadd (pc := 67) X dX8_mean_67 ?_
      refine wp_istore (pc := 68) (lo' := [some (.ref 139), some (.int (nI f)), some (.int (nI n)), some (.int a3), some (.int (a4 + r5)), some (.int a5), some (.int (nI k)), some (.int r5)]) X dX8_mean_68 (Nat.le_of_ble_eq_true rfl) rfl rfl ?_
      refine wp_iload (pc := 70) X dX8_mean_70 rfl ?_
      refine wp_iload (pc := 72) X dX8_mean_72 rfl ?_
      refine wp_icmp_le (pc := 74) (tgt := 82) X dX8_mean_74 (by decide) (fun hc => ?_) (fun hc => ?_)
      · replace h := h.1 hc
        refine wp_iload (pc := 82) X dX8_mean_82 rfl ?_
        refine wp_istore (pc := 84) (lo' := [some (.ref 139), some (.int (nI f)), some (.int (nI n)), some (.int a3), some (.int (a4 + r5)), some (.int a5), some (.int (nI k)), some (.int r5)]) X dX8_mean_84 (Nat.le_of_ble_eq_true rfl) rfl rfl ?_
        refine wn_iinc (pc := 86) (d := 1) (lo' := [some (.ref 139), some (.int (nI f)), some (.int (nI n)), some (.int a3), some (.int (a4 + r5)), some (.int a5), some (.int (nI (k + 1))), some (.int r5)]) X dX8_mean_86 rfl (by decide) rfl rfl ?_
        refine wp_goto (pc := 89) (tgt := 38) X dX8_mean_89 (by decide) ?_
        exact wp_drop (show subL _ [some (.ref 139), some (.int (nI f)), some (.int (nI n)), some (.int a3), some (.int (a4 + r5)), some (.int a5), some (.int (nI (k + 1))), none] from ⟨rfl, ⟨rfl, ⟨rfl, ⟨rfl, ⟨rfl, ⟨rfl, ⟨rfl, trivial⟩⟩⟩⟩⟩⟩⟩) h
      · replace h := h.2 hc
        refine wp_iload (pc := 77) X dX8_mean_77 rfl ?_
        refine wp_goto (pc := 79) (tgt := 84) X dX8_mean_79 (by decide) ?_
        refine wp_istore (pc := 84) (lo' := [some (.ref 139), some (.int (nI f)), some (.int (nI n)), some (.int a3), some (.int (a4 + r5)), some (.int r5), some (.int (nI k)), some (.int r5)]) X dX8_mean_84 (Nat.le_of_ble_eq_true rfl) rfl rfl ?_
        refine wn_iinc (pc := 86) (d := 1) (lo' := [some (.ref 139), some (.int (nI f)), some (.int (nI n)), some (.int a3), some (.int (a4 + r5)), some (.int r5), some (.int (nI (k + 1))), some (.int r5)]) X dX8_mean_86 rfl (by decide) rfl rfl ?_
        refine wp_goto (pc := 89) (tgt := 38) X dX8_mean_89 (by decide) ?_
        exact wp_drop (show subL _ [some (.ref 139), some (.int (nI f)), some (.int (nI n)), some (.int a3), some (.int (a4 + r5)), some (.int r5), some (.int (nI (k + 1))), none] from ⟨rfl, ⟨rfl, ⟨rfl, ⟨rfl, ⟨rfl, ⟨rfl, ⟨rfl, trivial⟩⟩⟩⟩⟩⟩⟩) h
    · replace h := h.2 hc
      refine wp_bipush (pc := 60) (v := (-4)) X dX8_mean_60 (by decide) ?_
      exact wp_iret (pc := 62) X T dX8_mean_62 h
theorem r_X8_count_0 {x : CT} {L : List Nat} {Q : Int32 → Mem → Prop} {M : Mem}  {a1 : Int32} (X : BS x L cX8_count 2 RX8 (m_X8_count).2.2.2.2) (T : RT x L (some .int) Q) (A_139 : AC L 139 8 0) (A_140 : AC L 140 9 918)
    (h : (a1 = nI 0 → Q (M 140 42) M) ∧ (a1 = nI 1 → Q (M 140 45) M) ∧ (a1 = nI 2 → Q (M 140 43) M) ∧ (a1 = nI 3 → Q (M 140 44) M) ∧ (a1 = nI 4 → Q (M 140 48) M) ∧ (a1 = nI 5 → Q (M 140 46) M) ∧ (a1 = nI 6 → Q (M 140 47) M) ∧ (a1 = nI 7 → Q ((((((M 140 12) + (M 140 13)) + (M 140 14)) + (M 140 15)) + (M 140 16)) + (M 140 17)) M) ∧ (a1 = nI 8 → ∃ v3 : Nat, M 139 1 = nI v3 ∧ Q (nI v3) M) ∧ (a1 = nI 9 → ∃ v7 : Nat, M 139 3 = nI v7 ∧ Q (nI v7) M) ∧ ((∀ j, j < 10 → ¬ a1 = nI j) → Q (-1) M)) : WP x L 0 [some (.ref 139), some (.int a1)] [] M := by
  refine wp_iload_n (pc := 0) X dX8_count_0 rfl rfl ?_
  by_cases e1_0 : a1 = nI 0
  · replace h := h.1 e1_0
    refine wp_tabIn (pc := 1) (off := 55) (tgt := 56) X dX8_count_1 (by rw [e1_0]; decide) (by rw [e1_0]; decide) (by rw [e1_0]; rfl) (by decide) ?_
    refine wp_aload_n (pc := 56) X dX8_count_56 rfl rfl ?_
    refine wp_get (pc := 57) X fl_X8_7 A_139 (by decide) (fg_8_0 A_139) dX8_count_57 ?_
    refine wp_bipush (pc := 60) (v := nI 42) X dX8_count_60 (by decide) ?_
    refine wn_iald (pc := 62) X A_140 (by decide) (by decide) dX8_count_62 ?_
    exact wp_iret (pc := 63) X T dX8_count_63 h
  by_cases e1_1 : a1 = nI 1
  · replace h := h.2.1 e1_1
    refine wp_tabIn (pc := 1) (off := 63) (tgt := 64) X dX8_count_1 (by rw [e1_1]; decide) (by rw [e1_1]; decide) (by rw [e1_1]; rfl) (by decide) ?_
    refine wp_aload_n (pc := 64) X dX8_count_64 rfl rfl ?_
    refine wp_get (pc := 65) X fl_X8_7 A_139 (by decide) (fg_8_0 A_139) dX8_count_65 ?_
    refine wp_bipush (pc := 68) (v := nI 45) X dX8_count_68 (by decide) ?_
    refine wn_iald (pc := 70) X A_140 (by decide) (by decide) dX8_count_70 ?_
    exact wp_iret (pc := 71) X T dX8_count_71 h
  by_cases e1_2 : a1 = nI 2
  · replace h := h.2.2.1 e1_2
    refine wp_tabIn (pc := 1) (off := 71) (tgt := 72) X dX8_count_1 (by rw [e1_2]; decide) (by rw [e1_2]; decide) (by rw [e1_2]; rfl) (by decide) ?_
    refine wp_aload_n (pc := 72) X dX8_count_72 rfl rfl ?_
    refine wp_get (pc := 73) X fl_X8_7 A_139 (by decide) (fg_8_0 A_139) dX8_count_73 ?_
    refine wp_bipush (pc := 76) (v := nI 43) X dX8_count_76 (by decide) ?_
    refine wn_iald (pc := 78) X A_140 (by decide) (by decide) dX8_count_78 ?_
    exact wp_iret (pc := 79) X T dX8_count_79 h
  by_cases e1_3 : a1 = nI 3
  · replace h := h.2.2.2.1 e1_3
    refine wp_tabIn (pc := 1) (off := 79) (tgt := 80) X dX8_count_1 (by rw [e1_3]; decide) (by rw [e1_3]; decide) (by rw [e1_3]; rfl) (by decide) ?_
    refine wp_aload_n (pc := 80) X dX8_count_80 rfl rfl ?_
    refine wp_get (pc := 81) X fl_X8_7 A_139 (by decide) (fg_8_0 A_139) dX8_count_81 ?_
    refine wp_bipush (pc := 84) (v := nI 44) X dX8_count_84 (by decide) ?_
    refine wn_iald (pc := 86) X A_140 (by decide) (by decide) dX8_count_86 ?_
    exact wp_iret (pc := 87) X T dX8_count_87 h
  by_cases e1_4 : a1 = nI 4
  · replace h := h.2.2.2.2.1 e1_4
    refine wp_tabIn (pc := 1) (off := 87) (tgt := 88) X dX8_count_1 (by rw [e1_4]; decide) (by rw [e1_4]; decide) (by rw [e1_4]; rfl) (by decide) ?_
    refine wp_aload_n (pc := 88) X dX8_count_88 rfl rfl ?_
    refine wp_get (pc := 89) X fl_X8_7 A_139 (by decide) (fg_8_0 A_139) dX8_count_89 ?_
    refine wp_bipush (pc := 92) (v := nI 48) X dX8_count_92 (by decide) ?_
    refine wn_iald (pc := 94) X A_140 (by decide) (by decide) dX8_count_94 ?_
    exact wp_iret (pc := 95) X T dX8_count_95 h
  by_cases e1_5 : a1 = nI 5
  · replace h := h.2.2.2.2.2.1 e1_5
    refine wp_tabIn (pc := 1) (off := 95) (tgt := 96) X dX8_count_1 (by rw [e1_5]; decide) (by rw [e1_5]; decide) (by rw [e1_5]; rfl) (by decide) ?_
    refine wp_aload_n (pc := 96) X dX8_count_96 rfl rfl ?_
    refine wp_get (pc := 97) X fl_X8_7 A_139 (by decide) (fg_8_0 A_139) dX8_count_97 ?_
    refine wp_bipush (pc := 100) (v := nI 46) X dX8_count_100 (by decide) ?_
    refine wn_iald (pc := 102) X A_140 (by decide) (by decide) dX8_count_102 ?_
    exact wp_iret (pc := 103) X T dX8_count_103 h
  by_cases e1_6 : a1 = nI 6
  · replace h := h.2.2.2.2.2.2.1 e1_6
    refine wp_tabIn (pc := 1) (off := 103) (tgt := 104) X dX8_count_1 (by rw [e1_6]; decide) (by rw [e1_6]; decide) (by rw [e1_6]; rfl) (by decide) ?_
    refine wp_aload_n (pc := 104) X dX8_count_104 rfl rfl ?_
    refine wp_get (pc := 105) X fl_X8_7 A_139 (by decide) (fg_8_0 A_139) dX8_count_105 ?_
    refine wp_bipush (pc := 108) (v := nI 47) X dX8_count_108 (by decide) ?_
    refine wn_iald (pc := 110) X A_140 (by decide) (by decide) dX8_count_110 ?_
    exact wp_iret (pc := 111) X T dX8_count_111 h
  by_cases e1_7 : a1 = nI 7
  · replace h := h.2.2.2.2.2.2.2.1 e1_7
    refine wp_tabIn (pc := 1) (off := 111) (tgt := 112) X dX8_count_1 (by rw [e1_7]; decide) (by rw [e1_7]; decide) (by rw [e1_7]; rfl) (by decide) ?_
    refine wp_aload_n (pc := 112) X dX8_count_112 rfl rfl ?_
    refine wp_get (pc := 113) X fl_X8_7 A_139 (by decide) (fg_8_0 A_139) dX8_count_113 ?_
    refine wp_bipush (pc := 116) (v := nI 12) X dX8_count_116 (by decide) ?_
    refine wn_iald (pc := 118) X A_140 (by decide) (by decide) dX8_count_118 ?_
    refine wp_aload_n (pc := 119) X dX8_count_119 rfl rfl ?_
    refine wp_get (pc := 120) X fl_X8_7 A_139 (by decide) (fg_8_0 A_139) dX8_count_120 ?_
    refine wp_bipush (pc := 123) (v := nI 13) X dX8_count_123 (by decide) ?_
    refine wn_iald (pc := 125) X A_140 (by decide) (by decide) dX8_count_125 ?_
    refine wp_iadd (pc := 126) X dX8_count_126 ?_
    refine wp_aload_n (pc := 127) X dX8_count_127 rfl rfl ?_
    refine wp_get (pc := 128) X fl_X8_7 A_139 (by decide) (fg_8_0 A_139) dX8_count_128 ?_
    refine wp_bipush (pc := 131) (v := nI 14) X dX8_count_131 (by decide) ?_
    refine wn_iald (pc := 133) X A_140 (by decide) (by decide) dX8_count_133 ?_
    refine wp_iadd (pc := 134) X dX8_count_134 ?_
    refine wp_aload_n (pc := 135) X dX8_count_135 rfl rfl ?_
    refine wp_get (pc := 136) X fl_X8_7 A_139 (by decide) (fg_8_0 A_139) dX8_count_136 ?_
    refine wp_bipush (pc := 139) (v := nI 15) X dX8_count_139 (by decide) ?_
    refine wn_iald (pc := 141) X A_140 (by decide) (by decide) dX8_count_141 ?_
    refine wp_iadd (pc := 142) X dX8_count_142 ?_
    refine wp_aload_n (pc := 143) X dX8_count_143 rfl rfl ?_
    refine wp_get (pc := 144) X fl_X8_7 A_139 (by decide) (fg_8_0 A_139) dX8_count_144 ?_
    refine wp_bipush (pc := 147) (v := nI 16) X dX8_count_147 (by decide) ?_
    refine wn_iald (pc := 149) X A_140 (by decide) (by decide) dX8_count_149 ?_
    refine wp_iadd (pc := 150) X dX8_count_150 ?_
    refine wp_aload_n (pc := 151) X dX8_count_151 rfl rfl ?_
    refine wp_get (pc := 152) X fl_X8_7 A_139 (by decide) (fg_8_0 A_139) dX8_count_152 ?_
    refine wp_bipush (pc := 155) (v := nI 17) X dX8_count_155 (by decide) ?_
    refine wn_iald (pc := 157) X A_140 (by decide) (by decide) dX8_count_157 ?_
    refine wp_iadd (pc := 158) X dX8_count_158 ?_
    exact wp_iret (pc := 159) X T dX8_count_159 h
  by_cases e1_8 : a1 = nI 8
  · replace h := h.2.2.2.2.2.2.2.2.1 e1_8
    refine wp_tabIn (pc := 1) (off := 159) (tgt := 160) X dX8_count_1 (by rw [e1_8]; decide) (by rw [e1_8]; decide) (by rw [e1_8]; rfl) (by decide) ?_
    refine wp_aload_n (pc := 160) X dX8_count_160 rfl rfl ?_
    obtain ⟨v3, he4, h⟩ := h
    refine we_get (pc := 161) X fl_X8_27 A_139 (by decide) (fg_8_1 A_139) he4 dX8_count_161 ?_
    exact wp_iret (pc := 164) X T dX8_count_164 h
  by_cases e1_9 : a1 = nI 9
  · replace h := h.2.2.2.2.2.2.2.2.2.1 e1_9
    refine wp_tabIn (pc := 1) (off := 164) (tgt := 165) X dX8_count_1 (by rw [e1_9]; decide) (by rw [e1_9]; decide) (by rw [e1_9]; rfl) (by decide) ?_
    refine wp_aload_n (pc := 165) X dX8_count_165 rfl rfl ?_
    obtain ⟨v7, he8, h⟩ := h
    refine we_get (pc := 166) X fl_X8_35 A_139 (by decide) (fg_8_3 A_139) he8 dX8_count_166 ?_
    exact wp_iret (pc := 169) X T dX8_count_169 h
  have hall : ∀ j, j < 10 → ¬ a1 = nI j := by
    intro j hj
    rcases (show j = 0 ∨ j = 1 ∨ j = 2 ∨ j = 3 ∨ j = 4 ∨ j = 5 ∨ j = 6 ∨ j = 7 ∨ j = 8 ∨ j = 9 by omega) with rfl | rfl | rfl | rfl | rfl | rfl | rfl | rfl | rfl | rfl
    all_goals assumption
  replace h := h.2.2.2.2.2.2.2.2.2.2 hall
  refine wp_tabOut (pc := 1) (tgt := 170) X dX8_count_1 (sw_out hall (by decide) rfl) (by decide) ?_
  refine wp_iconst (pc := 170) (v := (-1)) X dX8_count_170 (by decide) ?_
  exact wp_iret (pc := 171) X T dX8_count_171 h
end
