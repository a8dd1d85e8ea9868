-- ===== PART A: goes FIRST, ahead of the names: the tables' words, and 'selects' of the private methods out of them =====
/-- a private method of a class that the tables say can be made, by its rows of tables_1 -/
def lw_okq (q : MethodName × Nat) : Prop := (q.1.cls ≠ "java/lang/invoke/MethodHandle" ∧ q.1.cls ≠ "java/lang/invoke/VarHandle") ∧ Cond.instantiable q.1.cls q.2 ∈ tables_1 ∧ Cond.privateMethod q.1 ∈ tables_1 ∧ Cond.instanceMethod q.1 ∈ tables_1
theorem lw_p0 : lw_okq (⟨"java/lang/Throwable", "fillInStackTrace", "(I)Ljava/lang/Throwable;"⟩, 6) := ⟨⟨by decide +kernel, by decide +kernel⟩, List.mem_of_getElem? (i := 326) (by decide +kernel), List.mem_of_getElem? (i := 324) (by decide +kernel), List.mem_of_getElem? (i := 325) (by decide +kernel)⟩
theorem lw_p1 : lw_okq (⟨"Breakpoint", "forgetCuttings", "()V"⟩, 12) := ⟨⟨by decide +kernel, by decide +kernel⟩, List.mem_of_getElem? (i := 19) (by decide +kernel), List.mem_of_getElem? (i := 367) (by decide +kernel), List.mem_of_getElem? (i := 368) (by decide +kernel)⟩
theorem lw_p2 : lw_okq (⟨"Breakpoint", "take", "(I)I"⟩, 12) := ⟨⟨by decide +kernel, by decide +kernel⟩, List.mem_of_getElem? (i := 19) (by decide +kernel), List.mem_of_getElem? (i := 398) (by decide +kernel), List.mem_of_getElem? (i := 399) (by decide +kernel)⟩
theorem lw_p3 : lw_okq (⟨"Breakpoint$CumulativeSums", "moveSums", "(II)V"⟩, 7) := ⟨⟨by decide +kernel, by decide +kernel⟩, List.mem_of_getElem? (i := 54) (by decide +kernel), List.mem_of_getElem? (i := 406) (by decide +kernel), List.mem_of_getElem? (i := 407) (by decide +kernel)⟩
theorem lw_p4 : lw_okq (⟨"Breakpoint$PageHinkley", "moveSum", "(II)V"⟩, 8) := ⟨⟨by decide +kernel, by decide +kernel⟩, List.mem_of_getElem? (i := 92) (by decide +kernel), List.mem_of_getElem? (i := 421) (by decide +kernel), List.mem_of_getElem? (i := 422) (by decide +kernel)⟩
theorem lw_p5 : lw_okq (⟨"Breakpoint$PageHinkley", "mean", "()I"⟩, 8) := ⟨⟨by decide +kernel, by decide +kernel⟩, List.mem_of_getElem? (i := 92) (by decide +kernel), List.mem_of_getElem? (i := 425) (by decide +kernel), List.mem_of_getElem? (i := 426) (by decide +kernel)⟩
theorem lw_p6 : lw_okq (⟨"Breakpoint$PageHinkley", "startOfGrowth", "(I)I"⟩, 8) := ⟨⟨by decide +kernel, by decide +kernel⟩, List.mem_of_getElem? (i := 92) (by decide +kernel), List.mem_of_getElem? (i := 432) (by decide +kernel), List.mem_of_getElem? (i := 433) (by decide +kernel)⟩
theorem lw_p7 : lw_okq (⟨"Breakpoint", "isValueNumber", "(I)Z"⟩, 12) := ⟨⟨by decide +kernel, by decide +kernel⟩, List.mem_of_getElem? (i := 19) (by decide +kernel), List.mem_of_getElem? (i := 449) (by decide +kernel), List.mem_of_getElem? (i := 450) (by decide +kernel)⟩
theorem lw_p8 : lw_okq (⟨"Breakpoint", "isSegment", "(II)Z"⟩, 12) := ⟨⟨by decide +kernel, by decide +kernel⟩, List.mem_of_getElem? (i := 19) (by decide +kernel), List.mem_of_getElem? (i := 492) (by decide +kernel), List.mem_of_getElem? (i := 493) (by decide +kernel)⟩
theorem lw_p9 : lw_okq (⟨"Breakpoint", "learntCosts", "()LBreakpoint$SegmentCosts;"⟩, 12) := ⟨⟨by decide +kernel, by decide +kernel⟩, List.mem_of_getElem? (i := 19) (by decide +kernel), List.mem_of_getElem? (i := 496) (by decide +kernel), List.mem_of_getElem? (i := 497) (by decide +kernel)⟩
theorem lw_p10 : lw_okq (⟨"Breakpoint$SegmentCosts", "learnSegmentsTo", "([II)V"⟩, 3) := ⟨⟨by decide +kernel, by decide +kernel⟩, List.mem_of_getElem? (i := 133) (by decide +kernel), List.mem_of_getElem? (i := 504) (by decide +kernel), List.mem_of_getElem? (i := 505) (by decide +kernel)⟩
theorem lw_p11 : lw_okq (⟨"Breakpoint$SegmentCosts", "distanceFromMiddles", "(II)I"⟩, 3) := ⟨⟨by decide +kernel, by decide +kernel⟩, List.mem_of_getElem? (i := 133) (by decide +kernel), List.mem_of_getElem? (i := 508) (by decide +kernel), List.mem_of_getElem? (i := 509) (by decide +kernel)⟩
theorem lw_p12 : lw_okq (⟨"Breakpoint$SegmentCosts", "sortIn", "(II)V"⟩, 3) := ⟨⟨by decide +kernel, by decide +kernel⟩, List.mem_of_getElem? (i := 133) (by decide +kernel), List.mem_of_getElem? (i := 512) (by decide +kernel), List.mem_of_getElem? (i := 513) (by decide +kernel)⟩
theorem lw_p13 : lw_okq (⟨"Breakpoint", "bestCutting", "()LBreakpoint$Cutting;"⟩, 12) := ⟨⟨by decide +kernel, by decide +kernel⟩, List.mem_of_getElem? (i := 19) (by decide +kernel), List.mem_of_getElem? (i := 532) (by decide +kernel), List.mem_of_getElem? (i := 533) (by decide +kernel)⟩
theorem lw_p14 : lw_okq (⟨"Breakpoint$BestSearch", "findFrom", "(LBreakpoint$SegmentCosts;III)V"⟩, 3) := ⟨⟨by decide +kernel, by decide +kernel⟩, List.mem_of_getElem? (i := 166) (by decide +kernel), List.mem_of_getElem? (i := 540) (by decide +kernel), List.mem_of_getElem? (i := 541) (by decide +kernel)⟩
theorem lw_p15 : lw_okq (⟨"Breakpoint", "greedyCutting", "()LBreakpoint$Cutting;"⟩, 12) := ⟨⟨by decide +kernel, by decide +kernel⟩, List.mem_of_getElem? (i := 19) (by decide +kernel), List.mem_of_getElem? (i := 570) (by decide +kernel), List.mem_of_getElem? (i := 571) (by decide +kernel)⟩
def lw_privs_1 : List (MethodName × Nat) := [(⟨"java/lang/Throwable", "fillInStackTrace", "(I)Ljava/lang/Throwable;"⟩, 6), (⟨"Breakpoint", "forgetCuttings", "()V"⟩, 12), (⟨"Breakpoint", "take", "(I)I"⟩, 12), (⟨"Breakpoint$CumulativeSums", "moveSums", "(II)V"⟩, 7), (⟨"Breakpoint$PageHinkley", "moveSum", "(II)V"⟩, 8), (⟨"Breakpoint$PageHinkley", "mean", "()I"⟩, 8), (⟨"Breakpoint$PageHinkley", "startOfGrowth", "(I)I"⟩, 8), (⟨"Breakpoint", "isValueNumber", "(I)Z"⟩, 12), (⟨"Breakpoint", "isSegment", "(II)Z"⟩, 12), (⟨"Breakpoint", "learntCosts", "()LBreakpoint$SegmentCosts;"⟩, 12), (⟨"Breakpoint$SegmentCosts", "learnSegmentsTo", "([II)V"⟩, 3), (⟨"Breakpoint$SegmentCosts", "distanceFromMiddles", "(II)I"⟩, 3), (⟨"Breakpoint$SegmentCosts", "sortIn", "(II)V"⟩, 3), (⟨"Breakpoint", "bestCutting", "()LBreakpoint$Cutting;"⟩, 12), (⟨"Breakpoint$BestSearch", "findFrom", "(LBreakpoint$SegmentCosts;III)V"⟩, 3), (⟨"Breakpoint", "greedyCutting", "()LBreakpoint$Cutting;"⟩, 12)]
theorem lw_r1 : ∀ q ∈ lw_privs_1, lw_okq q := List.forall_mem_cons.mpr ⟨lw_p0, List.forall_mem_cons.mpr ⟨lw_p1, List.forall_mem_cons.mpr ⟨lw_p2, List.forall_mem_cons.mpr ⟨lw_p3, List.forall_mem_cons.mpr ⟨lw_p4, List.forall_mem_cons.mpr ⟨lw_p5, List.forall_mem_cons.mpr ⟨lw_p6, List.forall_mem_cons.mpr ⟨lw_p7, List.forall_mem_cons.mpr ⟨lw_p8, List.forall_mem_cons.mpr ⟨lw_p9, List.forall_mem_cons.mpr ⟨lw_p10, List.forall_mem_cons.mpr ⟨lw_p11, List.forall_mem_cons.mpr ⟨lw_p12, List.forall_mem_cons.mpr ⟨lw_p13, List.forall_mem_cons.mpr ⟨lw_p14, List.forall_mem_cons.mpr ⟨lw_p15, fun _ h => absurd h List.not_mem_nil⟩⟩⟩⟩⟩⟩⟩⟩⟩⟩⟩⟩⟩⟩⟩⟩
theorem lw_p16 : lw_okq (⟨"Breakpoint$LeastCosts", "learnCuttingsTo", "(LBreakpoint$SegmentCosts;I)V"⟩, 2) := ⟨⟨by decide +kernel, by decide +kernel⟩, List.mem_of_getElem? (i := 152) (by decide +kernel), List.mem_of_getElem? (i := 602) (by decide +kernel), List.mem_of_getElem? (i := 603) (by decide +kernel)⟩
theorem lw_p17 : lw_okq (⟨"Breakpoint$LeastCosts", "leastWithLastSegment", "(LBreakpoint$SegmentCosts;II)I"⟩, 2) := ⟨⟨by decide +kernel, by decide +kernel⟩, List.mem_of_getElem? (i := 152) (by decide +kernel), List.mem_of_getElem? (i := 607) (by decide +kernel), List.mem_of_getElem? (i := 608) (by decide +kernel)⟩
theorem lw_p18 : lw_okq (⟨"Breakpoint", "matchAlarms", "(II)V"⟩, 12) := ⟨⟨by decide +kernel, by decide +kernel⟩, List.mem_of_getElem? (i := 19) (by decide +kernel), List.mem_of_getElem? (i := 634) (by decide +kernel), List.mem_of_getElem? (i := 635) (by decide +kernel)⟩
theorem lw_p19 : lw_okq (⟨"Breakpoint$Truth", "beginMatching", "()V"⟩, 5) := ⟨⟨by decide +kernel, by decide +kernel⟩, List.mem_of_getElem? (i := 205) (by decide +kernel), List.mem_of_getElem? (i := 642) (by decide +kernel), List.mem_of_getElem? (i := 643) (by decide +kernel)⟩
theorem lw_p20 : lw_okq (⟨"Breakpoint$Truth", "matchAlarm", "(II)V"⟩, 5) := ⟨⟨by decide +kernel, by decide +kernel⟩, List.mem_of_getElem? (i := 205) (by decide +kernel), List.mem_of_getElem? (i := 646) (by decide +kernel), List.mem_of_getElem? (i := 647) (by decide +kernel)⟩
def lw_privs_2 : List (MethodName × Nat) := [(⟨"Breakpoint$LeastCosts", "learnCuttingsTo", "(LBreakpoint$SegmentCosts;I)V"⟩, 2), (⟨"Breakpoint$LeastCosts", "leastWithLastSegment", "(LBreakpoint$SegmentCosts;II)I"⟩, 2), (⟨"Breakpoint", "matchAlarms", "(II)V"⟩, 12), (⟨"Breakpoint$Truth", "beginMatching", "()V"⟩, 5), (⟨"Breakpoint$Truth", "matchAlarm", "(II)V"⟩, 5)]
theorem lw_r2 : ∀ q ∈ lw_privs_2, lw_okq q := List.forall_mem_cons.mpr ⟨lw_p16, List.forall_mem_cons.mpr ⟨lw_p17, List.forall_mem_cons.mpr ⟨lw_p18, List.forall_mem_cons.mpr ⟨lw_p19, List.forall_mem_cons.mpr ⟨lw_p20, fun _ h => absurd h List.not_mem_nil⟩⟩⟩⟩⟩
def lw_privs : List (MethodName × Nat) := lw_privs_1 ++ (lw_privs_2)
def lw_tbl : List Cond := k2_sels lw_privs ++ tables_1
theorem lw_privs_ok : ∀ q ∈ lw_privs, lw_okq q := by
  show ∀ q ∈ lw_privs_1 ++ (lw_privs_2), lw_okq q
  exact List.forall_mem_append.mpr ⟨lw_r1, lw_r2⟩
/-- the streams that the claim lets the run draw from -/
abbrev lw_cs : List Choice := [Jvm.Choice.named "NaN.bits"]
theorem lw_bits : nanBits ∈ lw_cs := by first | decide | exact List.mem_cons_self | simp [lw_cs, nanBits]
def RX0 : String := "Breakpoint$AlarmList"
def TX0 : u_T := fun k => match k with
  | 0 => ("Breakpoint$AlarmList", "kinds", "[I", true)
  | 1 => ("Breakpoint$AlarmList", "numbers", "[I", true)
  | 2 => ("Breakpoint$AlarmList", "starts", "[I", true)
  | _ => ("Breakpoint$AlarmList", "alarmCount", "I", false)
def tyX0 : Nat → FieldType := fun k => match k with
  | 0 => .array .int
  | 1 => .array .int
  | 2 => .array .int
  | _ => .int
abbrev wsX00 : List Cond := u_ws RX0 TX0 4
theorem nmX0 : ∀ a, a < 4 → ∀ b, b < 4 → a ≠ b → (TX0 a).2.1 ≠ (TX0 b).2.1 := by decide +kernel
theorem tyX0_ok : ∀ k, k < 4 → parseFieldDescriptor (TX0 k).2.2.1 = some (tyX0 k) := by decide +kernel
abbrev cX0_init : ByteArray := prog_2_method_1_code
def yX0_init : MethodName := ⟨RX0, "<init>", "()V"⟩
abbrev cX0_raise : ByteArray := prog_2_method_2_code
def yX0_raise : MethodName := ⟨RX0, "raise", "(III)V"⟩
abbrev cX0_has : ByteArray := prog_2_method_3_code
def yX0_has : MethodName := ⟨RX0, "has", "(I)Z"⟩
abbrev cX0_removeAll : ByteArray := prog_2_method_4_code
def yX0_removeAll : MethodName := ⟨RX0, "removeAll", "()V"⟩
def RX1 : String := "Breakpoint$BestSearch"
def TX1 : u_T := fun k => match k with
  | 0 => ("Breakpoint$BestSearch", "priceFrom", "[I", true)
  | 1 => ("Breakpoint$BestSearch", "cutsFrom", "[I", true)
  | _ => ("Breakpoint$BestSearch", "nextCut", "[I", true)
def tyX1 : Nat → FieldType := fun k => match k with
  | 0 => .array .int
  | 1 => .array .int
  | _ => .array .int
abbrev wsX10 : List Cond := u_ws RX1 TX1 3
theorem nmX1 : ∀ a, a < 3 → ∀ b, b < 3 → a ≠ b → (TX1 a).2.1 ≠ (TX1 b).2.1 := by decide +kernel
theorem tyX1_ok : ∀ k, k < 3 → parseFieldDescriptor (TX1 k).2.2.1 = some (tyX1 k) := by decide +kernel
abbrev cX1_init : ByteArray := prog_3_method_1_code
def yX1_init : MethodName := ⟨RX1, "<init>", "()V"⟩
abbrev cX1_find : ByteArray := prog_3_method_2_code
def yX1_find : MethodName := ⟨RX1, "find", "(LBreakpoint$SegmentCosts;IILBreakpoint$Cutting;)V"⟩
abbrev cX1_findFrom : ByteArray := prog_3_method_3_code
def yX1_findFrom : MethodName := ⟨RX1, "findFrom", "(LBreakpoint$SegmentCosts;III)V"⟩
def RX2 : String := "Breakpoint$CumulativeSums"
def TX2 : u_T := fun k => match k with
  | 0 => ("Breakpoint$CumulativeSums", "target", "I", false)
  | 1 => ("Breakpoint$CumulativeSums", "slack", "I", false)
  | 2 => ("Breakpoint$CumulativeSums", "threshold", "I", false)
  | 3 => ("Breakpoint$CumulativeSums", "high", "I", false)
  | 4 => ("Breakpoint$CumulativeSums", "low", "I", false)
  | 5 => ("Breakpoint$CumulativeSums", "highStart", "I", false)
  | _ => ("Breakpoint$CumulativeSums", "lowStart", "I", false)
def tyX2 : Nat → FieldType := fun k => match k with
  | 0 => .int
  | 1 => .int
  | 2 => .int
  | 3 => .int
  | 4 => .int
  | 5 => .int
  | _ => .int
abbrev wsX20 : List Cond := u_ws RX2 TX2 7
theorem nmX2 : ∀ a, a < 7 → ∀ b, b < 7 → a ≠ b → (TX2 a).2.1 ≠ (TX2 b).2.1 := by decide +kernel
theorem tyX2_ok : ∀ k, k < 7 → parseFieldDescriptor (TX2 k).2.2.1 = some (tyX2 k) := by decide +kernel
abbrev cX2_init : ByteArray := prog_4_method_1_code
def yX2_init : MethodName := ⟨RX2, "<init>", "()V"⟩
abbrev cX2_setUp : ByteArray := prog_4_method_2_code
def yX2_setUp : MethodName := ⟨RX2, "setUp", "(III)V"⟩
abbrev cX2_beginAnew : ByteArray := prog_4_method_3_code
def yX2_beginAnew : MethodName := ⟨RX2, "beginAnew", "()V"⟩
abbrev cX2_watch : ByteArray := prog_4_method_4_code
def yX2_watch : MethodName := ⟨RX2, "watch", "(IILBreakpoint$AlarmList;)I"⟩
abbrev cX2_moveSums : ByteArray := prog_4_method_5_code
def yX2_moveSums : MethodName := ⟨RX2, "moveSums", "(II)V"⟩
def RX3 : String := "Breakpoint$Cutting"
def TX3 : u_T := fun k => match k with
  | 0 => ("Breakpoint$Cutting", "cutAt", "[Z", true)
  | 1 => ("Breakpoint$Cutting", "cuts", "I", false)
  | 2 => ("Breakpoint$Cutting", "price", "I", false)
  | _ => ("Breakpoint$Cutting", "stands", "Z", false)
def tyX3 : Nat → FieldType := fun k => match k with
  | 0 => .array .boolean
  | 1 => .int
  | 2 => .int
  | _ => .boolean
abbrev wsX30 : List Cond := u_ws RX3 TX3 4
theorem nmX3 : ∀ a, a < 4 → ∀ b, b < 4 → a ≠ b → (TX3 a).2.1 ≠ (TX3 b).2.1 := by decide +kernel
theorem tyX3_ok : ∀ k, k < 4 → parseFieldDescriptor (TX3 k).2.2.1 = some (tyX3 k) := by decide +kernel
abbrev cX3_init : ByteArray := prog_5_method_1_code
def yX3_init : MethodName := ⟨RX3, "<init>", "()V"⟩
abbrev cX3_join : ByteArray := prog_5_method_2_code
def yX3_join : MethodName := ⟨RX3, "join", "()V"⟩
abbrev cX3_cut : ByteArray := prog_5_method_3_code
def yX3_cut : MethodName := ⟨RX3, "cut", "(I)V"⟩
abbrev cX3_settle : ByteArray := prog_5_method_4_code
def yX3_settle : MethodName := ⟨RX3, "settle", "(LBreakpoint$SegmentCosts;II)V"⟩
abbrev cX3_endOfSegment : ByteArray := prog_5_method_5_code
def yX3_endOfSegment : MethodName := ⟨RX3, "endOfSegment", "(II)I"⟩
abbrev cX3_has : ByteArray := prog_5_method_6_code
def yX3_has : MethodName := ⟨RX3, "has", "(I)Z"⟩
abbrev cX3_numberAt : ByteArray := prog_5_method_7_code
def yX3_numberAt : MethodName := ⟨RX3, "numberAt", "(I)I"⟩
def RX4 : String := "Breakpoint$GreedySearch"
def TX4 : u_T := fun k => match k with
  | _ => ("", "", "", false)
def tyX4 : Nat → FieldType := fun k => match k with
  | _ => .int
abbrev wsX40 : List Cond := u_ws RX4 TX4 0
theorem nmX4 : ∀ a, a < 0 → ∀ b, b < 0 → a ≠ b → (TX4 a).2.1 ≠ (TX4 b).2.1 := by decide +kernel
theorem tyX4_ok : ∀ k, k < 0 → parseFieldDescriptor (TX4 k).2.2.1 = some (tyX4 k) := by decide +kernel
abbrev cX4_find : ByteArray := prog_6_method_2_code
def yX4_find : MethodName := ⟨RX4, "find", "(LBreakpoint$SegmentCosts;IILBreakpoint$Cutting;)V"⟩
abbrev cX4_numberOfGreatestGain : ByteArray := prog_6_method_3_code
def yX4_numberOfGreatestGain : MethodName := ⟨RX4, "numberOfGreatestGain", "(LBreakpoint$SegmentCosts;IILBreakpoint$Cutting;)I"⟩
def RX5 : String := "Breakpoint$LeastCosts"
def TX5 : u_T := fun k => match k with
  | 0 => ("Breakpoint$LeastCosts", "least", "[I", true)
  | _ => ("Breakpoint$LeastCosts", "learnt", "I", false)
def tyX5 : Nat → FieldType := fun k => match k with
  | 0 => .array .int
  | _ => .int
abbrev wsX50 : List Cond := u_ws RX5 TX5 2
theorem nmX5 : ∀ a, a < 2 → ∀ b, b < 2 → a ≠ b → (TX5 a).2.1 ≠ (TX5 b).2.1 := by decide +kernel
theorem tyX5_ok : ∀ k, k < 2 → parseFieldDescriptor (TX5 k).2.2.1 = some (tyX5 k) := by decide +kernel
abbrev cX5_init : ByteArray := prog_7_method_1_code
def yX5_init : MethodName := ⟨RX5, "<init>", "()V"⟩
abbrev cX5_forget : ByteArray := prog_7_method_2_code
def yX5_forget : MethodName := ⟨RX5, "forget", "()V"⟩
abbrev cX5_learn : ByteArray := prog_7_method_3_code
def yX5_learn : MethodName := ⟨RX5, "learn", "(LBreakpoint$SegmentCosts;I)V"⟩
abbrev cX5_of : ByteArray := prog_7_method_4_code
def yX5_of : MethodName := ⟨RX5, "of", "(II)I"⟩
abbrev cX5_learnCuttingsTo : ByteArray := prog_7_method_5_code
def yX5_learnCuttingsTo : MethodName := ⟨RX5, "learnCuttingsTo", "(LBreakpoint$SegmentCosts;I)V"⟩
abbrev cX5_leastWithLastSegment : ByteArray := prog_7_method_6_code
def yX5_leastWithLastSegment : MethodName := ⟨RX5, "leastWithLastSegment", "(LBreakpoint$SegmentCosts;II)I"⟩
def RX6 : String := "Breakpoint$PageHinkley"
def TX6 : u_T := fun k => match k with
  | 0 => ("Breakpoint$PageHinkley", "allowance", "I", false)
  | 1 => ("Breakpoint$PageHinkley", "forgetting", "I", false)
  | 2 => ("Breakpoint$PageHinkley", "limit", "I", false)
  | 3 => ("Breakpoint$PageHinkley", "counted", "I", false)
  | 4 => ("Breakpoint$PageHinkley", "total", "I", false)
  | 5 => ("Breakpoint$PageHinkley", "sum", "I", false)
  | 6 => ("Breakpoint$PageHinkley", "leastSum", "I", false)
  | _ => ("Breakpoint$PageHinkley", "leastNumber", "I", false)
def tyX6 : Nat → FieldType := fun k => match k with
  | 0 => .int
  | 1 => .int
  | 2 => .int
  | 3 => .int
  | 4 => .int
  | 5 => .int
  | 6 => .int
  | _ => .int
abbrev wsX60 : List Cond := u_ws RX6 TX6 8
theorem nmX6 : ∀ a, a < 8 → ∀ b, b < 8 → a ≠ b → (TX6 a).2.1 ≠ (TX6 b).2.1 := by decide +kernel
theorem tyX6_ok : ∀ k, k < 8 → parseFieldDescriptor (TX6 k).2.2.1 = some (tyX6 k) := by decide +kernel
abbrev cX6_init : ByteArray := prog_8_method_1_code
def yX6_init : MethodName := ⟨RX6, "<init>", "()V"⟩
abbrev cX6_setUp : ByteArray := prog_8_method_2_code
def yX6_setUp : MethodName := ⟨RX6, "setUp", "(III)V"⟩
abbrev cX6_beginAnew : ByteArray := prog_8_method_3_code
def yX6_beginAnew : MethodName := ⟨RX6, "beginAnew", "()V"⟩
abbrev cX6_watch : ByteArray := prog_8_method_4_code
def yX6_watch : MethodName := ⟨RX6, "watch", "(IILBreakpoint$AlarmList;)I"⟩
abbrev cX6_moveSum : ByteArray := prog_8_method_5_code
def yX6_moveSum : MethodName := ⟨RX6, "moveSum", "(II)V"⟩
abbrev cX6_mean : ByteArray := prog_8_method_6_code
def yX6_mean : MethodName := ⟨RX6, "mean", "()I"⟩
abbrev cX6_startOfGrowth : ByteArray := prog_8_method_7_code
def yX6_startOfGrowth : MethodName := ⟨RX6, "startOfGrowth", "(I)I"⟩
def RX7 : String := "Breakpoint$SegmentCosts"
def TX7 : u_T := fun k => match k with
  | 0 => ("Breakpoint$SegmentCosts", "costs", "[I", true)
  | 1 => ("Breakpoint$SegmentCosts", "sorted", "[I", true)
  | _ => ("Breakpoint$SegmentCosts", "learnt", "I", false)
def tyX7 : Nat → FieldType := fun k => match k with
  | 0 => .array .int
  | 1 => .array .int
  | _ => .int
abbrev wsX70 : List Cond := u_ws RX7 TX7 3
theorem nmX7 : ∀ a, a < 3 → ∀ b, b < 3 → a ≠ b → (TX7 a).2.1 ≠ (TX7 b).2.1 := by decide +kernel
theorem tyX7_ok : ∀ k, k < 3 → parseFieldDescriptor (TX7 k).2.2.1 = some (tyX7 k) := by decide +kernel
abbrev cX7_init : ByteArray := prog_9_method_1_code
def yX7_init : MethodName := ⟨RX7, "<init>", "()V"⟩
abbrev cX7_triangle : ByteArray := prog_9_method_2_code
def yX7_triangle : MethodName := ⟨RX7, "triangle", "(I)I"⟩
abbrev cX7_forget : ByteArray := prog_9_method_3_code
def yX7_forget : MethodName := ⟨RX7, "forget", "()V"⟩
abbrev cX7_learn : ByteArray := prog_9_method_4_code
def yX7_learn : MethodName := ⟨RX7, "learn", "([II)V"⟩
abbrev cX7_of : ByteArray := prog_9_method_5_code
def yX7_of : MethodName := ⟨RX7, "of", "(II)I"⟩
abbrev cX7_middleOf : ByteArray := prog_9_method_6_code
def yX7_middleOf : MethodName := ⟨RX7, "middleOf", "([III)I"⟩
abbrev cX7_learnSegmentsTo : ByteArray := prog_9_method_7_code
def yX7_learnSegmentsTo : MethodName := ⟨RX7, "learnSegmentsTo", "([II)V"⟩
abbrev cX7_distanceFromMiddles : ByteArray := prog_9_method_8_code
def yX7_distanceFromMiddles : MethodName := ⟨RX7, "distanceFromMiddles", "(II)I"⟩
abbrev cX7_sortIn : ByteArray := prog_9_method_9_code
def yX7_sortIn : MethodName := ⟨RX7, "sortIn", "(II)V"⟩
def RX8 : String := "Breakpoint$Truth"
def TX8 : u_T := fun k => match k with
  | 0 => ("Breakpoint$Truth", "marked", "[Z", true)
  | 1 => ("Breakpoint$Truth", "taken", "[Z", true)
  | 2 => ("Breakpoint$Truth", "hits", "I", false)
  | 3 => ("Breakpoint$Truth", "misses", "I", false)
  | _ => ("Breakpoint$Truth", "delays", "I", false)
def tyX8 : Nat → FieldType := fun k => match k with
  | 0 => .array .boolean
  | 1 => .array .boolean
  | 2 => .int
  | 3 => .int
  | _ => .int
abbrev wsX80 : List Cond := u_ws RX8 TX8 5
theorem nmX8 : ∀ a, a < 5 → ∀ b, b < 5 → a ≠ b → (TX8 a).2.1 ≠ (TX8 b).2.1 := by decide +kernel
theorem tyX8_ok : ∀ k, k < 5 → parseFieldDescriptor (TX8 k).2.2.1 = some (tyX8 k) := by decide +kernel
abbrev cX8_init : ByteArray := prog_10_method_1_code
def yX8_init : MethodName := ⟨RX8, "<init>", "()V"⟩
abbrev cX8_removeMarks : ByteArray := prog_10_method_2_code
def yX8_removeMarks : MethodName := ⟨RX8, "removeMarks", "()V"⟩
abbrev cX8_match : ByteArray := prog_10_method_3_code
def yX8_match : MethodName := ⟨RX8, "match", "(LBreakpoint$AlarmList;II)V"⟩
abbrev cX8_beginMatching : ByteArray := prog_10_method_4_code
def yX8_beginMatching : MethodName := ⟨RX8, "beginMatching", "()V"⟩
abbrev cX8_matchAlarm : ByteArray := prog_10_method_5_code
def yX8_matchAlarm : MethodName := ⟨RX8, "matchAlarm", "(II)V"⟩
def RX9 : String := "Breakpoint"
def TX9 : u_T := fun k => match k with
  | 0 => ("Breakpoint", "values", "[I", true)
  | 1 => ("Breakpoint", "alarmList", "LBreakpoint$AlarmList;", true)
  | 2 => ("Breakpoint", "sums", "LBreakpoint$CumulativeSums;", true)
  | 3 => ("Breakpoint", "test", "LBreakpoint$PageHinkley;", true)
  | 4 => ("Breakpoint", "segmentCosts", "LBreakpoint$SegmentCosts;", true)
  | 5 => ("Breakpoint", "leastCosts", "LBreakpoint$LeastCosts;", true)
  | 6 => ("Breakpoint", "bestSearch", "LBreakpoint$BestSearch;", true)
  | 7 => ("Breakpoint", "best", "LBreakpoint$Cutting;", true)
  | 8 => ("Breakpoint", "greedy", "LBreakpoint$Cutting;", true)
  | 9 => ("Breakpoint", "truth", "LBreakpoint$Truth;", true)
  | 10 => ("Breakpoint", "valueCount", "I", false)
  | _ => ("Breakpoint", "penalty", "I", false)
def tyX9 : Nat → FieldType := fun k => match k with
  | 0 => .array .int
  | 1 => .object "Breakpoint$AlarmList"
  | 2 => .object "Breakpoint$CumulativeSums"
  | 3 => .object "Breakpoint$PageHinkley"
  | 4 => .object "Breakpoint$SegmentCosts"
  | 5 => .object "Breakpoint$LeastCosts"
  | 6 => .object "Breakpoint$BestSearch"
  | 7 => .object "Breakpoint$Cutting"
  | 8 => .object "Breakpoint$Cutting"
  | 9 => .object "Breakpoint$Truth"
  | 10 => .int
  | _ => .int
abbrev wsX90 : List Cond := u_ws RX9 TX9 12
theorem nmX9 : ∀ a, a < 12 → ∀ b, b < 12 → a ≠ b → (TX9 a).2.1 ≠ (TX9 b).2.1 := by decide +kernel
theorem tyX9_ok : ∀ k, k < 12 → parseFieldDescriptor (TX9 k).2.2.1 = some (tyX9 k) := by decide +kernel
abbrev cX9_init : ByteArray := prog_1_method_1_code
def yX9_init : MethodName := ⟨RX9, "<init>", "()V"⟩
abbrev cX9_clear : ByteArray := prog_1_method_2_code
def yX9_clear : MethodName := ⟨RX9, "clear", "()I"⟩
abbrev cX9_setSums : ByteArray := prog_1_method_3_code
def yX9_setSums : MethodName := ⟨RX9, "setSums", "(III)V"⟩
abbrev cX9_setTest : ByteArray := prog_1_method_4_code
def yX9_setTest : MethodName := ⟨RX9, "setTest", "(III)V"⟩
abbrev cX9_setPenalty : ByteArray := prog_1_method_5_code
def yX9_setPenalty : MethodName := ⟨RX9, "setPenalty", "(I)I"⟩
abbrev cX9_add : ByteArray := prog_1_method_6_code
def yX9_add : MethodName := ⟨RX9, "add", "(I)I"⟩
abbrev cX9_addRun : ByteArray := prog_1_method_7_code
def yX9_addRun : MethodName := ⟨RX9, "addRun", "(III)I"⟩
abbrev cX9_size : ByteArray := prog_1_method_8_code
def yX9_size : MethodName := ⟨RX9, "size", "()I"⟩
abbrev cX9_value : ByteArray := prog_1_method_9_code
def yX9_value : MethodName := ⟨RX9, "value", "(I)I"⟩
abbrev cX9_highSum : ByteArray := prog_1_method_10_code
def yX9_highSum : MethodName := ⟨RX9, "highSum", "()I"⟩
abbrev cX9_lowSum : ByteArray := prog_1_method_11_code
def yX9_lowSum : MethodName := ⟨RX9, "lowSum", "()I"⟩
abbrev cX9_testSum : ByteArray := prog_1_method_12_code
def yX9_testSum : MethodName := ⟨RX9, "testSum", "()I"⟩
abbrev cX9_alarms : ByteArray := prog_1_method_13_code
def yX9_alarms : MethodName := ⟨RX9, "alarms", "()I"⟩
abbrev cX9_alarmKind : ByteArray := prog_1_method_14_code
def yX9_alarmKind : MethodName := ⟨RX9, "alarmKind", "(I)I"⟩
abbrev cX9_alarmNumber : ByteArray := prog_1_method_15_code
def yX9_alarmNumber : MethodName := ⟨RX9, "alarmNumber", "(I)I"⟩
abbrev cX9_alarmStart : ByteArray := prog_1_method_16_code
def yX9_alarmStart : MethodName := ⟨RX9, "alarmStart", "(I)I"⟩
abbrev cX9_cost : ByteArray := prog_1_method_17_code
def yX9_cost : MethodName := ⟨RX9, "cost", "(II)I"⟩
abbrev cX9_middle : ByteArray := prog_1_method_18_code
def yX9_middle : MethodName := ⟨RX9, "middle", "(II)I"⟩
abbrev cX9_changes : ByteArray := prog_1_method_19_code
def yX9_changes : MethodName := ⟨RX9, "changes", "()I"⟩
abbrev cX9_change : ByteArray := prog_1_method_20_code
def yX9_change : MethodName := ⟨RX9, "change", "(I)I"⟩
abbrev cX9_bestCost : ByteArray := prog_1_method_21_code
def yX9_bestCost : MethodName := ⟨RX9, "bestCost", "()I"⟩
abbrev cX9_leastCost : ByteArray := prog_1_method_22_code
def yX9_leastCost : MethodName := ⟨RX9, "leastCost", "(I)I"⟩
abbrev cX9_greedyChanges : ByteArray := prog_1_method_23_code
def yX9_greedyChanges : MethodName := ⟨RX9, "greedyChanges", "()I"⟩
abbrev cX9_greedyChange : ByteArray := prog_1_method_24_code
def yX9_greedyChange : MethodName := ⟨RX9, "greedyChange", "(I)I"⟩
abbrev cX9_greedyCost : ByteArray := prog_1_method_25_code
def yX9_greedyCost : MethodName := ⟨RX9, "greedyCost", "()I"⟩
abbrev cX9_toggleTruth : ByteArray := prog_1_method_26_code
def yX9_toggleTruth : MethodName := ⟨RX9, "toggleTruth", "(I)Z"⟩
abbrev cX9_matched : ByteArray := prog_1_method_27_code
def yX9_matched : MethodName := ⟨RX9, "matched", "(II)I"⟩
abbrev cX9_falseAlarms : ByteArray := prog_1_method_28_code
def yX9_falseAlarms : MethodName := ⟨RX9, "falseAlarms", "(II)I"⟩
abbrev cX9_averageDelay : ByteArray := prog_1_method_29_code
def yX9_averageDelay : MethodName := ⟨RX9, "averageDelay", "(II)F"⟩
abbrev cX9_take : ByteArray := prog_1_method_30_code
def yX9_take : MethodName := ⟨RX9, "take", "(I)I"⟩
abbrev cX9_forgetCuttings : ByteArray := prog_1_method_31_code
def yX9_forgetCuttings : MethodName := ⟨RX9, "forgetCuttings", "()V"⟩
abbrev cX9_learntCosts : ByteArray := prog_1_method_32_code
def yX9_learntCosts : MethodName := ⟨RX9, "learntCosts", "()LBreakpoint$SegmentCosts;"⟩
abbrev cX9_bestCutting : ByteArray := prog_1_method_33_code
def yX9_bestCutting : MethodName := ⟨RX9, "bestCutting", "()LBreakpoint$Cutting;"⟩
abbrev cX9_greedyCutting : ByteArray := prog_1_method_34_code
def yX9_greedyCutting : MethodName := ⟨RX9, "greedyCutting", "()LBreakpoint$Cutting;"⟩
abbrev cX9_matchAlarms : ByteArray := prog_1_method_35_code
def yX9_matchAlarms : MethodName := ⟨RX9, "matchAlarms", "(II)V"⟩
abbrev cX9_isValueNumber : ByteArray := prog_1_method_36_code
def yX9_isValueNumber : MethodName := ⟨RX9, "isValueNumber", "(I)Z"⟩
abbrev cX9_isSegment : ByteArray := prog_1_method_37_code
def yX9_isSegment : MethodName := ⟨RX9, "isSegment", "(II)Z"⟩
abbrev cX9_isAmountFromZero : ByteArray := prog_1_method_38_code
def yX9_isAmountFromZero : MethodName := ⟨RX9, "isAmountFromZero", "(I)Z"⟩
abbrev cX9_isBetween : ByteArray := prog_1_method_39_code
def yX9_isBetween : MethodName := ⟨RX9, "isBetween", "(III)Z"⟩
abbrev cX9_requireArgument : ByteArray := prog_1_method_40_code
def yX9_requireArgument : MethodName := ⟨RX9, "requireArgument", "(Z)V"⟩
abbrev cX9_requireIndex : ByteArray := prog_1_method_41_code
def yX9_requireIndex : MethodName := ⟨RX9, "requireIndex", "(Z)V"⟩
abbrev cX9_requireState : ByteArray := prog_1_method_42_code
def yX9_requireState : MethodName := ⟨RX9, "requireState", "(Z)V"⟩
def RX10 : String := "BreakpointModel"
def TX10 : u_T := fun k => match k with
  | _ => ("", "", "", false)
def tyX10 : Nat → FieldType := fun k => match k with
  | _ => .int
abbrev wsX100 : List Cond := u_ws RX10 TX10 0
theorem nmX10 : ∀ a, a < 0 → ∀ b, b < 0 → a ≠ b → (TX10 a).2.1 ≠ (TX10 b).2.1 := by decide +kernel
theorem tyX10_ok : ∀ k, k < 0 → parseFieldDescriptor (TX10 k).2.2.1 = some (tyX10 k) := by decide +kernel
def RJ9 : String := "java/lang/Math"
def TJ9 : u_T := fun k => match k with
  | _ => ("", "", "", false)
def tyJ9 : Nat → FieldType := fun k => match k with
  | _ => .int
abbrev wsJ90 : List Cond := u_ws RJ9 TJ9 0
theorem nmJ9 : ∀ a, a < 0 → ∀ b, b < 0 → a ≠ b → (TJ9 a).2.1 ≠ (TJ9 b).2.1 := by decide +kernel
theorem tyJ9_ok : ∀ k, k < 0 → parseFieldDescriptor (TJ9 k).2.2.1 = some (tyJ9 k) := by decide +kernel
abbrev cJ9_floorDiv_7cf53 : ByteArray := prog_17_method_47_code
def yJ9_floorDiv_7cf53 : MethodName := ⟨RJ9, "floorDiv", "(II)I"⟩
abbrev cJ9_max_7cf53 : ByteArray := prog_17_method_65_code
def yJ9_max_7cf53 : MethodName := ⟨RJ9, "max", "(II)I"⟩
abbrev cJ9_min_7cf53 : ByteArray := prog_17_method_69_code
def yJ9_min_7cf53 : MethodName := ⟨RJ9, "min", "(II)I"⟩
def RJ0 : String := "java/lang/String"
def TJ0 : u_T := fun k => match k with
  | _ => ("", "", "", false)
def tyJ0 : Nat → FieldType := fun k => match k with
  | _ => .int
abbrev wsJ00 : List Cond := u_ws RJ0 TJ0 0
theorem nmJ0 : ∀ a, a < 0 → ∀ b, b < 0 → a ≠ b → (TJ0 a).2.1 ≠ (TJ0 b).2.1 := by decide +kernel
theorem tyJ0_ok : ∀ k, k < 0 → parseFieldDescriptor (TJ0 k).2.2.1 = some (tyJ0 k) := by decide +kernel
def RL : String := "BreakpointLaw"
abbrev cL_part : ByteArray := method_2_code
def yL_part : MethodName := ⟨RL, "part", "([III)I"⟩
abbrev cL_set : ByteArray := method_3_code
def yL_set : MethodName := ⟨RL, "set", "(LBreakpoint;IIII)I"⟩
abbrev cL_sets : ByteArray := method_4_code
def yL_sets : MethodName := ⟨RL, "sets", "(LBreakpoint;IIII)I"⟩
abbrev cL_adds : ByteArray := method_5_code
def yL_adds : MethodName := ⟨RL, "adds", "(LBreakpoint;ZIII)I"⟩
abbrev cL_asks : ByteArray := method_6_code
def yL_asks : MethodName := ⟨RL, "asks", "(LBreakpoint;III)I"⟩
abbrev cL_leastCost : ByteArray := method_7_code
def yL_leastCost : MethodName := ⟨RL, "leastCost", "(LBreakpoint;I)I"⟩
abbrev cL_matched : ByteArray := method_8_code
def yL_matched : MethodName := ⟨RL, "matched", "(LBreakpoint;ZII)I"⟩
abbrev cL_delay : ByteArray := method_9_code
def yL_delay : MethodName := ⟨RL, "delay", "(LBreakpoint;II)F"⟩
abbrev cL_areAlarms : ByteArray := method_10_code
def yL_areAlarms : MethodName := ⟨RL, "areAlarms", "(LBreakpoint;[I)Z"⟩
abbrev cL_isSegment : ByteArray := method_11_code
def yL_isSegment : MethodName := ⟨RL, "isSegment", "(LBreakpoint;[III)Z"⟩
abbrev cL_told : ByteArray := method_12_code
def yL_told : MethodName := ⟨RL, "told", "(LBreakpoint;[IZ)I"⟩
abbrev cL_areCuttings : ByteArray := method_13_code
def yL_areCuttings : MethodName := ⟨RL, "areCuttings", "(LBreakpoint;[I)Z"⟩
abbrev cL_isGreedy : ByteArray := method_14_code
def yL_isGreedy : MethodName := ⟨RL, "isGreedy", "(LBreakpoint;[I)Z"⟩
abbrev cL_isAdded : ByteArray := method_15_code
def yL_isAdded : MethodName := ⟨RL, "isAdded", "(LBreakpoint;[IIII)Z"⟩
abbrev cL_isDone : ByteArray := method_16_code
def yL_isDone : MethodName := ⟨RL, "isDone", "(LBreakpoint;[II[I)Z"⟩
abbrev cL_law : ByteArray := code
def yL_law : MethodName := ⟨RL, "law", "([I)Z"⟩
abbrev vwCl : List vw_C := [(RX0, TX0, 4), (RX1, TX1, 3), (RX2, TX2, 7), (RX3, TX3, 4), (RX5, TX5, 2), (RX6, TX6, 8), (RX7, TX7, 3), (RX8, TX8, 5), (RX9, TX9, 12)]
