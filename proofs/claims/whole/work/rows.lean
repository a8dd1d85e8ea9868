section
-- ===== PART A: goes FIRST, ahead of the names: the tables' words, and 'selects' of the private methods out of them =====
/-- a private method of a class that the tables say can be made, by its rows of tables_1 -/
def lw_okq (q : MethodName × Nat) : Prop := (q.1.cls ≠ "java/lang/invoke/MethodHandle" ∧ q.1.cls ≠ "java/lang/invoke/VarHandle") ∧ Cond.instantiable q.1.cls q.2 ∈ tables_1 ∧ Cond.privateMethod q.1 ∈ tables_1 ∧ Cond.instanceMethod q.1 ∈ tables_1
theorem lw_p0 : lw_okq (⟨"Breakpoint", "forgetCuttings", "()V"⟩, 12) := ⟨⟨by decide +kernel, by decide +kernel⟩, List.mem_of_getElem? (i := 20) (by decide +kernel), List.mem_of_getElem? (i := 291) (by decide +kernel), List.mem_of_getElem? (i := 292) (by decide +kernel)⟩
theorem lw_p1 : lw_okq (⟨"Breakpoint", "bestCutting", "()LBreakpoint$Cutting;"⟩, 12) := ⟨⟨by decide +kernel, by decide +kernel⟩, List.mem_of_getElem? (i := 20) (by decide +kernel), List.mem_of_getElem? (i := 319) (by decide +kernel), List.mem_of_getElem? (i := 320) (by decide +kernel)⟩
theorem lw_p2 : lw_okq (⟨"Breakpoint", "learntCosts", "()LBreakpoint$SegmentCosts;"⟩, 12) := ⟨⟨by decide +kernel, by decide +kernel⟩, List.mem_of_getElem? (i := 20) (by decide +kernel), List.mem_of_getElem? (i := 323) (by decide +kernel), List.mem_of_getElem? (i := 324) (by decide +kernel)⟩
theorem lw_p3 : lw_okq (⟨"Breakpoint$SegmentCosts", "learnSegmentsTo", "([II)V"⟩, 3) := ⟨⟨by decide +kernel, by decide +kernel⟩, List.mem_of_getElem? (i := 134) (by decide +kernel), List.mem_of_getElem? (i := 331) (by decide +kernel), List.mem_of_getElem? (i := 332) (by decide +kernel)⟩
theorem lw_p4 : lw_okq (⟨"Breakpoint$SegmentCosts", "distanceFromMiddles", "(II)I"⟩, 3) := ⟨⟨by decide +kernel, by decide +kernel⟩, List.mem_of_getElem? (i := 134) (by decide +kernel), List.mem_of_getElem? (i := 335) (by decide +kernel), List.mem_of_getElem? (i := 336) (by decide +kernel)⟩
theorem lw_p5 : lw_okq (⟨"Breakpoint$SegmentCosts", "sortIn", "(II)V"⟩, 3) := ⟨⟨by decide +kernel, by decide +kernel⟩, List.mem_of_getElem? (i := 134) (by decide +kernel), List.mem_of_getElem? (i := 339) (by decide +kernel), List.mem_of_getElem? (i := 340) (by decide +kernel)⟩
theorem lw_p6 : lw_okq (⟨"Breakpoint$BestSearch", "findFrom", "(LBreakpoint$SegmentCosts;III)V"⟩, 3) := ⟨⟨by decide +kernel, by decide +kernel⟩, List.mem_of_getElem? (i := 167) (by decide +kernel), List.mem_of_getElem? (i := 347) (by decide +kernel), List.mem_of_getElem? (i := 348) (by decide +kernel)⟩
theorem lw_p7 : lw_okq (⟨"Breakpoint", "greedyCutting", "()LBreakpoint$Cutting;"⟩, 12) := ⟨⟨by decide +kernel, by decide +kernel⟩, List.mem_of_getElem? (i := 20) (by decide +kernel), List.mem_of_getElem? (i := 376) (by decide +kernel), List.mem_of_getElem? (i := 377) (by decide +kernel)⟩
theorem lw_p8 : lw_okq (⟨"java/lang/Throwable", "fillInStackTrace", "(I)Ljava/lang/Throwable;"⟩, 6) := ⟨⟨by decide +kernel, by decide +kernel⟩, List.mem_of_getElem? (i := 452) (by decide +kernel), List.mem_of_getElem? (i := 450) (by decide +kernel), List.mem_of_getElem? (i := 451) (by decide +kernel)⟩
theorem lw_p9 : lw_okq (⟨"Breakpoint", "take", "(I)I"⟩, 12) := ⟨⟨by decide +kernel, by decide +kernel⟩, List.mem_of_getElem? (i := 20) (by decide +kernel), List.mem_of_getElem? (i := 526) (by decide +kernel), List.mem_of_getElem? (i := 527) (by decide +kernel)⟩
theorem lw_p10 : lw_okq (⟨"Breakpoint$CumulativeSums", "moveSums", "(II)V"⟩, 7) := ⟨⟨by decide +kernel, by decide +kernel⟩, List.mem_of_getElem? (i := 55) (by decide +kernel), List.mem_of_getElem? (i := 534) (by decide +kernel), List.mem_of_getElem? (i := 535) (by decide +kernel)⟩
theorem lw_p11 : lw_okq (⟨"Breakpoint$PageHinkley", "moveSum", "(II)V"⟩, 8) := ⟨⟨by decide +kernel, by decide +kernel⟩, List.mem_of_getElem? (i := 93) (by decide +kernel), List.mem_of_getElem? (i := 549) (by decide +kernel), List.mem_of_getElem? (i := 550) (by decide +kernel)⟩
theorem lw_p12 : lw_okq (⟨"Breakpoint$PageHinkley", "startOfGrowth", "(I)I"⟩, 8) := ⟨⟨by decide +kernel, by decide +kernel⟩, List.mem_of_getElem? (i := 93) (by decide +kernel), List.mem_of_getElem? (i := 556) (by decide +kernel), List.mem_of_getElem? (i := 557) (by decide +kernel)⟩
theorem lw_p13 : lw_okq (⟨"Breakpoint", "isValueNumber", "(I)Z"⟩, 12) := ⟨⟨by decide +kernel, by decide +kernel⟩, List.mem_of_getElem? (i := 20) (by decide +kernel), List.mem_of_getElem? (i := 576) (by decide +kernel), List.mem_of_getElem? (i := 577) (by decide +kernel)⟩
theorem lw_p14 : lw_okq (⟨"Breakpoint", "isSegment", "(II)Z"⟩, 12) := ⟨⟨by decide +kernel, by decide +kernel⟩, List.mem_of_getElem? (i := 20) (by decide +kernel), List.mem_of_getElem? (i := 631) (by decide +kernel), List.mem_of_getElem? (i := 632) (by decide +kernel)⟩
theorem lw_p15 : lw_okq (⟨"Breakpoint$LeastCosts", "learnCuttingsTo", "(LBreakpoint$SegmentCosts;I)V"⟩, 2) := ⟨⟨by decide +kernel, by decide +kernel⟩, List.mem_of_getElem? (i := 153) (by decide +kernel), List.mem_of_getElem? (i := 673) (by decide +kernel), List.mem_of_getElem? (i := 674) (by decide +kernel)⟩
def lw_privs_1 : List (MethodName × Nat) := [(⟨"Breakpoint", "forgetCuttings", "()V"⟩, 12), (⟨"Breakpoint", "bestCutting", "()LBreakpoint$Cutting;"⟩, 12), (⟨"Breakpoint", "learntCosts", "()LBreakpoint$SegmentCosts;"⟩, 12), (⟨"Breakpoint$SegmentCosts", "learnSegmentsTo", "([II)V"⟩, 3), (⟨"Breakpoint$SegmentCosts", "distanceFromMiddles", "(II)I"⟩, 3), (⟨"Breakpoint$SegmentCosts", "sortIn", "(II)V"⟩, 3), (⟨"Breakpoint$BestSearch", "findFrom", "(LBreakpoint$SegmentCosts;III)V"⟩, 3), (⟨"Breakpoint", "greedyCutting", "()LBreakpoint$Cutting;"⟩, 12), (⟨"java/lang/Throwable", "fillInStackTrace", "(I)Ljava/lang/Throwable;"⟩, 6), (⟨"Breakpoint", "take", "(I)I"⟩, 12), (⟨"Breakpoint$CumulativeSums", "moveSums", "(II)V"⟩, 7), (⟨"Breakpoint$PageHinkley", "moveSum", "(II)V"⟩, 8), (⟨"Breakpoint$PageHinkley", "startOfGrowth", "(I)I"⟩, 8), (⟨"Breakpoint", "isValueNumber", "(I)Z"⟩, 12), (⟨"Breakpoint", "isSegment", "(II)Z"⟩, 12), (⟨"Breakpoint$LeastCosts", "learnCuttingsTo", "(LBreakpoint$SegmentCosts;I)V"⟩, 2)]
theorem lw_r1 : ∀ q ∈ lw_privs_1, lw_okq q := List.forall_mem_cons.mpr ⟨lw_p0, List.forall_mem_cons.mpr ⟨lw_p1, List.forall_mem_cons.mpr ⟨lw_p2, List.forall_mem_cons.mpr ⟨lw_p3, List.forall_mem_cons.mpr ⟨lw_p4, List.forall_mem_cons.mpr ⟨lw_p5, List.forall_mem_cons.mpr ⟨lw_p6, List.forall_mem_cons.mpr ⟨lw_p7, List.forall_mem_cons.mpr ⟨lw_p8, List.forall_mem_cons.mpr ⟨lw_p9, List.forall_mem_cons.mpr ⟨lw_p10, List.forall_mem_cons.mpr ⟨lw_p11, List.forall_mem_cons.mpr ⟨lw_p12, List.forall_mem_cons.mpr ⟨lw_p13, List.forall_mem_cons.mpr ⟨lw_p14, List.forall_mem_cons.mpr ⟨lw_p15, fun _ h => absurd h List.not_mem_nil⟩⟩⟩⟩⟩⟩⟩⟩⟩⟩⟩⟩⟩⟩⟩⟩
theorem lw_p16 : lw_okq (⟨"Breakpoint$LeastCosts", "leastWithLastSegment", "(LBreakpoint$SegmentCosts;II)I"⟩, 2) := ⟨⟨by decide +kernel, by decide +kernel⟩, List.mem_of_getElem? (i := 153) (by decide +kernel), List.mem_of_getElem? (i := 678) (by decide +kernel), List.mem_of_getElem? (i := 679) (by decide +kernel)⟩
theorem lw_p17 : lw_okq (⟨"Breakpoint", "matchAlarms", "(II)V"⟩, 12) := ⟨⟨by decide +kernel, by decide +kernel⟩, List.mem_of_getElem? (i := 20) (by decide +kernel), List.mem_of_getElem? (i := 712) (by decide +kernel), List.mem_of_getElem? (i := 713) (by decide +kernel)⟩
theorem lw_p18 : lw_okq (⟨"Breakpoint$Truth", "beginMatching", "()V"⟩, 5) := ⟨⟨by decide +kernel, by decide +kernel⟩, List.mem_of_getElem? (i := 206) (by decide +kernel), List.mem_of_getElem? (i := 720) (by decide +kernel), List.mem_of_getElem? (i := 721) (by decide +kernel)⟩
theorem lw_p19 : lw_okq (⟨"Breakpoint$Truth", "matchAlarm", "(II)V"⟩, 5) := ⟨⟨by decide +kernel, by decide +kernel⟩, List.mem_of_getElem? (i := 206) (by decide +kernel), List.mem_of_getElem? (i := 724) (by decide +kernel), List.mem_of_getElem? (i := 725) (by decide +kernel)⟩
theorem lw_p20 : lw_okq (⟨"BreakpointModel", "restsSums", "()V"⟩, 34) := ⟨⟨by decide +kernel, by decide +kernel⟩, List.mem_of_getElem? (i := 743) (by decide +kernel), List.mem_of_getElem? (i := 860) (by decide +kernel), List.mem_of_getElem? (i := 861) (by decide +kernel)⟩
theorem lw_p21 : lw_okq (⟨"BreakpointModel", "restsTest", "()V"⟩, 34) := ⟨⟨by decide +kernel, by decide +kernel⟩, List.mem_of_getElem? (i := 743) (by decide +kernel), List.mem_of_getElem? (i := 864) (by decide +kernel), List.mem_of_getElem? (i := 865) (by decide +kernel)⟩
theorem lw_p22 : lw_okq (⟨"BreakpointModel", "fails", "(I)Z"⟩, 34) := ⟨⟨by decide +kernel, by decide +kernel⟩, List.mem_of_getElem? (i := 743) (by decide +kernel), List.mem_of_getElem? (i := 876) (by decide +kernel), List.mem_of_getElem? (i := 877) (by decide +kernel)⟩
theorem lw_p23 : lw_okq (⟨"BreakpointModel", "puts", "(I)I"⟩, 34) := ⟨⟨by decide +kernel, by decide +kernel⟩, List.mem_of_getElem? (i := 743) (by decide +kernel), List.mem_of_getElem? (i := 895) (by decide +kernel), List.mem_of_getElem? (i := 896) (by decide +kernel)⟩
theorem lw_p24 : lw_okq (⟨"BreakpointModel", "sums", "(I)I"⟩, 34) := ⟨⟨by decide +kernel, by decide +kernel⟩, List.mem_of_getElem? (i := 743) (by decide +kernel), List.mem_of_getElem? (i := 899) (by decide +kernel), List.mem_of_getElem? (i := 900) (by decide +kernel)⟩
theorem lw_p25 : lw_okq (⟨"BreakpointModel", "raises", "(II)V"⟩, 34) := ⟨⟨by decide +kernel, by decide +kernel⟩, List.mem_of_getElem? (i := 743) (by decide +kernel), List.mem_of_getElem? (i := 903) (by decide +kernel), List.mem_of_getElem? (i := 904) (by decide +kernel)⟩
theorem lw_p26 : lw_okq (⟨"BreakpointModel", "tests", "(I)I"⟩, 34) := ⟨⟨by decide +kernel, by decide +kernel⟩, List.mem_of_getElem? (i := 743) (by decide +kernel), List.mem_of_getElem? (i := 907) (by decide +kernel), List.mem_of_getElem? (i := 908) (by decide +kernel)⟩
theorem lw_p27 : lw_okq (⟨"BreakpointModel", "tells", "(I)I"⟩, 34) := ⟨⟨by decide +kernel, by decide +kernel⟩, List.mem_of_getElem? (i := 743) (by decide +kernel), List.mem_of_getElem? (i := 922) (by decide +kernel), List.mem_of_getElem? (i := 923) (by decide +kernel)⟩
theorem lw_p28 : lw_okq (⟨"BreakpointModel", "ofAlarm", "([II)I"⟩, 34) := ⟨⟨by decide +kernel, by decide +kernel⟩, List.mem_of_getElem? (i := 743) (by decide +kernel), List.mem_of_getElem? (i := 950) (by decide +kernel), List.mem_of_getElem? (i := 951) (by decide +kernel)⟩
theorem lw_p29 : lw_okq (⟨"BreakpointModel", "isSegment", "(II)Z"⟩, 34) := ⟨⟨by decide +kernel, by decide +kernel⟩, List.mem_of_getElem? (i := 743) (by decide +kernel), List.mem_of_getElem? (i := 966) (by decide +kernel), List.mem_of_getElem? (i := 967) (by decide +kernel)⟩
theorem lw_p30 : lw_okq (⟨"BreakpointModel", "weighs", "()V"⟩, 34) := ⟨⟨by decide +kernel, by decide +kernel⟩, List.mem_of_getElem? (i := 743) (by decide +kernel), List.mem_of_getElem? (i := 970) (by decide +kernel), List.mem_of_getElem? (i := 971) (by decide +kernel)⟩
theorem lw_p31 : lw_okq (⟨"BreakpointModel", "sorts", "(II)V"⟩, 34) := ⟨⟨by decide +kernel, by decide +kernel⟩, List.mem_of_getElem? (i := 743) (by decide +kernel), List.mem_of_getElem? (i := 974) (by decide +kernel), List.mem_of_getElem? (i := 975) (by decide +kernel)⟩
def lw_privs_2 : List (MethodName × Nat) := [(⟨"Breakpoint$LeastCosts", "leastWithLastSegment", "(LBreakpoint$SegmentCosts;II)I"⟩, 2), (⟨"Breakpoint", "matchAlarms", "(II)V"⟩, 12), (⟨"Breakpoint$Truth", "beginMatching", "()V"⟩, 5), (⟨"Breakpoint$Truth", "matchAlarm", "(II)V"⟩, 5), (⟨"BreakpointModel", "restsSums", "()V"⟩, 34), (⟨"BreakpointModel", "restsTest", "()V"⟩, 34), (⟨"BreakpointModel", "fails", "(I)Z"⟩, 34), (⟨"BreakpointModel", "puts", "(I)I"⟩, 34), (⟨"BreakpointModel", "sums", "(I)I"⟩, 34), (⟨"BreakpointModel", "raises", "(II)V"⟩, 34), (⟨"BreakpointModel", "tests", "(I)I"⟩, 34), (⟨"BreakpointModel", "tells", "(I)I"⟩, 34), (⟨"BreakpointModel", "ofAlarm", "([II)I"⟩, 34), (⟨"BreakpointModel", "isSegment", "(II)Z"⟩, 34), (⟨"BreakpointModel", "weighs", "()V"⟩, 34), (⟨"BreakpointModel", "sorts", "(II)V"⟩, 34)]
theorem lw_r2 : ∀ q ∈ lw_privs_2, lw_okq q := List.forall_mem_cons.mpr ⟨lw_p16, List.forall_mem_cons.mpr ⟨lw_p17, List.forall_mem_cons.mpr ⟨lw_p18, List.forall_mem_cons.mpr ⟨lw_p19, List.forall_mem_cons.mpr ⟨lw_p20, List.forall_mem_cons.mpr ⟨lw_p21, List.forall_mem_cons.mpr ⟨lw_p22, List.forall_mem_cons.mpr ⟨lw_p23, List.forall_mem_cons.mpr ⟨lw_p24, List.forall_mem_cons.mpr ⟨lw_p25, List.forall_mem_cons.mpr ⟨lw_p26, List.forall_mem_cons.mpr ⟨lw_p27, List.forall_mem_cons.mpr ⟨lw_p28, List.forall_mem_cons.mpr ⟨lw_p29, List.forall_mem_cons.mpr ⟨lw_p30, List.forall_mem_cons.mpr ⟨lw_p31, fun _ h => absurd h List.not_mem_nil⟩⟩⟩⟩⟩⟩⟩⟩⟩⟩⟩⟩⟩⟩⟩⟩
theorem lw_p32 : lw_okq (⟨"BreakpointModel", "of", "(II)I"⟩, 34) := ⟨⟨by decide +kernel, by decide +kernel⟩, List.mem_of_getElem? (i := 743) (by decide +kernel), List.mem_of_getElem? (i := 978) (by decide +kernel), List.mem_of_getElem? (i := 979) (by decide +kernel)⟩
theorem lw_p33 : lw_okq (⟨"BreakpointModel", "cuts", "()V"⟩, 34) := ⟨⟨by decide +kernel, by decide +kernel⟩, List.mem_of_getElem? (i := 743) (by decide +kernel), List.mem_of_getElem? (i := 990) (by decide +kernel), List.mem_of_getElem? (i := 991) (by decide +kernel)⟩
theorem lw_p34 : lw_okq (⟨"BreakpointModel", "next", "(I)I"⟩, 34) := ⟨⟨by decide +kernel, by decide +kernel⟩, List.mem_of_getElem? (i := 743) (by decide +kernel), List.mem_of_getElem? (i := 998) (by decide +kernel), List.mem_of_getElem? (i := 999) (by decide +kernel)⟩
theorem lw_p35 : lw_okq (⟨"BreakpointModel", "cutsGreedily", "()I"⟩, 34) := ⟨⟨by decide +kernel, by decide +kernel⟩, List.mem_of_getElem? (i := 743) (by decide +kernel), List.mem_of_getElem? (i := 1014) (by decide +kernel), List.mem_of_getElem? (i := 1015) (by decide +kernel)⟩
theorem lw_p36 : lw_okq (⟨"BreakpointModel", "cut", "(I)I"⟩, 34) := ⟨⟨by decide +kernel, by decide +kernel⟩, List.mem_of_getElem? (i := 743) (by decide +kernel), List.mem_of_getElem? (i := 1018) (by decide +kernel), List.mem_of_getElem? (i := 1019) (by decide +kernel)⟩
theorem lw_p37 : lw_okq (⟨"BreakpointModel", "isNoWindow", "(II)Z"⟩, 34) := ⟨⟨by decide +kernel, by decide +kernel⟩, List.mem_of_getElem? (i := 743) (by decide +kernel), List.mem_of_getElem? (i := 1038) (by decide +kernel), List.mem_of_getElem? (i := 1039) (by decide +kernel)⟩
theorem lw_p38 : lw_okq (⟨"BreakpointModel", "matches", "(II)I"⟩, 34) := ⟨⟨by decide +kernel, by decide +kernel⟩, List.mem_of_getElem? (i := 743) (by decide +kernel), List.mem_of_getElem? (i := 1042) (by decide +kernel), List.mem_of_getElem? (i := 1043) (by decide +kernel)⟩
def lw_privs_3 : List (MethodName × Nat) := [(⟨"BreakpointModel", "of", "(II)I"⟩, 34), (⟨"BreakpointModel", "cuts", "()V"⟩, 34), (⟨"BreakpointModel", "next", "(I)I"⟩, 34), (⟨"BreakpointModel", "cutsGreedily", "()I"⟩, 34), (⟨"BreakpointModel", "cut", "(I)I"⟩, 34), (⟨"BreakpointModel", "isNoWindow", "(II)Z"⟩, 34), (⟨"BreakpointModel", "matches", "(II)I"⟩, 34)]
theorem lw_r3 : ∀ q ∈ lw_privs_3, lw_okq q := List.forall_mem_cons.mpr ⟨lw_p32, List.forall_mem_cons.mpr ⟨lw_p33, List.forall_mem_cons.mpr ⟨lw_p34, List.forall_mem_cons.mpr ⟨lw_p35, List.forall_mem_cons.mpr ⟨lw_p36, List.forall_mem_cons.mpr ⟨lw_p37, List.forall_mem_cons.mpr ⟨lw_p38, fun _ h => absurd h List.not_mem_nil⟩⟩⟩⟩⟩⟩⟩
def lw_privs : List (MethodName × Nat) := lw_privs_1 ++ (lw_privs_2 ++ (lw_privs_3))
def lw_tbl : List Cond := k2_sels lw_privs ++ tables_1
theorem lw_privs_ok : ∀ q ∈ lw_privs, lw_okq q := by
  show ∀ q ∈ lw_privs_1 ++ (lw_privs_2 ++ (lw_privs_3)), lw_okq q
  exact List.forall_mem_append.mpr ⟨lw_r1, List.forall_mem_append.mpr ⟨lw_r2, lw_r3⟩⟩
/-- the streams that the claim lets the run draw from -/
abbrev lw_cs : List Choice := [Jvm.Choice.named "NaN.bits"]
theorem lw_bits : nanBits ∈ lw_cs := by first | decide | exact List.mem_cons_self | simp [lw_cs, nanBits]
def RX0 : String := "Breakpoint$AlarmList"
def TX0 : u_T := fun k => match k with
  | 0 => ("Breakpoint$AlarmList", "kinds", "[I", true)
  | 1 => ("Breakpoint$AlarmList", "numbers", "[I", true)
  | 2 => ("Breakpoint$AlarmList", "starts", "[I", true)
  | _ => ("Breakpoint$AlarmList", "alarmCount", "I", false)
def tyX0 : Nat → FieldType := fun k => match k with
  | 0 => .array .int
  | 1 => .array .int
  | 2 => .array .int
  | _ => .int
abbrev wsX00 : List Cond := u_ws RX0 TX0 4
theorem nmX0 : ∀ a, a < 4 → ∀ b, b < 4 → a ≠ b → (TX0 a).2.1 ≠ (TX0 b).2.1 := by decide +kernel
theorem tyX0_ok : ∀ k, k < 4 → parseFieldDescriptor (TX0 k).2.2.1 = some (tyX0 k) := by decide +kernel
abbrev cX0_init : ByteArray := prog_2_method_1_code
def yX0_init : MethodName := ⟨RX0, "<init>", "()V"⟩
abbrev cX0_raise : ByteArray := prog_2_method_2_code
def yX0_raise : MethodName := ⟨RX0, "raise", "(III)V"⟩
abbrev cX0_has : ByteArray := prog_2_method_3_code
def yX0_has : MethodName := ⟨RX0, "has", "(I)Z"⟩
abbrev cX0_removeAll : ByteArray := prog_2_method_4_code
def yX0_removeAll : MethodName := ⟨RX0, "removeAll", "()V"⟩
def RX1 : String := "Breakpoint$BestSearch"
def TX1 : u_T := fun k => match k with
  | 0 => ("Breakpoint$BestSearch", "priceFrom", "[I", true)
  | 1 => ("Breakpoint$BestSearch", "cutsFrom", "[I", true)
  | _ => ("Breakpoint$BestSearch", "nextCut", "[I", true)
def tyX1 : Nat → FieldType := fun k => match k with
  | 0 => .array .int
  | 1 => .array .int
  | _ => .array .int
abbrev wsX10 : List Cond := u_ws RX1 TX1 3
theorem nmX1 : ∀ a, a < 3 → ∀ b, b < 3 → a ≠ b → (TX1 a).2.1 ≠ (TX1 b).2.1 := by decide +kernel
theorem tyX1_ok : ∀ k, k < 3 → parseFieldDescriptor (TX1 k).2.2.1 = some (tyX1 k) := by decide +kernel
abbrev cX1_init : ByteArray := prog_3_method_1_code
def yX1_init : MethodName := ⟨RX1, "<init>", "()V"⟩
abbrev cX1_find : ByteArray := prog_3_method_2_code
def yX1_find : MethodName := ⟨RX1, "find", "(LBreakpoint$SegmentCosts;IILBreakpoint$Cutting;)V"⟩
abbrev cX1_findFrom : ByteArray := prog_3_method_3_code
def yX1_findFrom : MethodName := ⟨RX1, "findFrom", "(LBreakpoint$SegmentCosts;III)V"⟩
def RX2 : String := "Breakpoint$CumulativeSums"
def TX2 : u_T := fun k => match k with
  | 0 => ("Breakpoint$CumulativeSums", "target", "I", false)
  | 1 => ("Breakpoint$CumulativeSums", "slack", "I", false)
  | 2 => ("Breakpoint$CumulativeSums", "threshold", "I", false)
  | 3 => ("Breakpoint$CumulativeSums", "high", "I", false)
  | 4 => ("Breakpoint$CumulativeSums", "low", "I", false)
  | 5 => ("Breakpoint$CumulativeSums", "highStart", "I", false)
  | _ => ("Breakpoint$CumulativeSums", "lowStart", "I", false)
def tyX2 : Nat → FieldType := fun k => match k with
  | 0 => .int
  | 1 => .int
  | 2 => .int
  | 3 => .int
  | 4 => .int
  | 5 => .int
  | _ => .int
abbrev wsX20 : List Cond := u_ws RX2 TX2 7
theorem nmX2 : ∀ a, a < 7 → ∀ b, b < 7 → a ≠ b → (TX2 a).2.1 ≠ (TX2 b).2.1 := by decide +kernel
theorem tyX2_ok : ∀ k, k < 7 → parseFieldDescriptor (TX2 k).2.2.1 = some (tyX2 k) := by decide +kernel
abbrev cX2_init : ByteArray := prog_4_method_1_code
def yX2_init : MethodName := ⟨RX2, "<init>", "()V"⟩
abbrev cX2_setUp : ByteArray := prog_4_method_2_code
def yX2_setUp : MethodName := ⟨RX2, "setUp", "(III)V"⟩
abbrev cX2_beginAnew : ByteArray := prog_4_method_3_code
def yX2_beginAnew : MethodName := ⟨RX2, "beginAnew", "()V"⟩
abbrev cX2_watch : ByteArray := prog_4_method_4_code
def yX2_watch : MethodName := ⟨RX2, "watch", "(IILBreakpoint$AlarmList;)I"⟩
abbrev cX2_moveSums : ByteArray := prog_4_method_5_code
def yX2_moveSums : MethodName := ⟨RX2, "moveSums", "(II)V"⟩
def RX3 : String := "Breakpoint$Cutting"
def TX3 : u_T := fun k => match k with
  | 0 => ("Breakpoint$Cutting", "cutAt", "[Z", true)
  | 1 => ("Breakpoint$Cutting", "cuts", "I", false)
  | 2 => ("Breakpoint$Cutting", "price", "I", false)
  | _ => ("Breakpoint$Cutting", "stands", "Z", false)
def tyX3 : Nat → FieldType := fun k => match k with
  | 0 => .array .boolean
  | 1 => .int
  | 2 => .int
  | _ => .boolean
abbrev wsX30 : List Cond := u_ws RX3 TX3 4
theorem nmX3 : ∀ a, a < 4 → ∀ b, b < 4 → a ≠ b → (TX3 a).2.1 ≠ (TX3 b).2.1 := by decide +kernel
theorem tyX3_ok : ∀ k, k < 4 → parseFieldDescriptor (TX3 k).2.2.1 = some (tyX3 k) := by decide +kernel
abbrev cX3_init : ByteArray := prog_5_method_1_code
def yX3_init : MethodName := ⟨RX3, "<init>", "()V"⟩
abbrev cX3_join : ByteArray := prog_5_method_2_code
def yX3_join : MethodName := ⟨RX3, "join", "()V"⟩
abbrev cX3_cut : ByteArray := prog_5_method_3_code
def yX3_cut : MethodName := ⟨RX3, "cut", "(I)V"⟩
abbrev cX3_settle : ByteArray := prog_5_method_4_code
def yX3_settle : MethodName := ⟨RX3, "settle", "(LBreakpoint$SegmentCosts;II)V"⟩
abbrev cX3_endOfSegment : ByteArray := prog_5_method_5_code
def yX3_endOfSegment : MethodName := ⟨RX3, "endOfSegment", "(II)I"⟩
abbrev cX3_has : ByteArray := prog_5_method_6_code
def yX3_has : MethodName := ⟨RX3, "has", "(I)Z"⟩
abbrev cX3_numberAt : ByteArray := prog_5_method_7_code
def yX3_numberAt : MethodName := ⟨RX3, "numberAt", "(I)I"⟩
def RX4 : String := "Breakpoint$GreedySearch"
def TX4 : u_T := fun k => match k with
  | _ => ("", "", "", false)
def tyX4 : Nat → FieldType := fun k => match k with
  | _ => .int
abbrev wsX40 : List Cond := u_ws RX4 TX4 0
theorem nmX4 : ∀ a, a < 0 → ∀ b, b < 0 → a ≠ b → (TX4 a).2.1 ≠ (TX4 b).2.1 := by decide +kernel
theorem tyX4_ok : ∀ k, k < 0 → parseFieldDescriptor (TX4 k).2.2.1 = some (tyX4 k) := by decide +kernel
abbrev cX4_find : ByteArray := prog_6_method_2_code
def yX4_find : MethodName := ⟨RX4, "find", "(LBreakpoint$SegmentCosts;IILBreakpoint$Cutting;)V"⟩
abbrev cX4_numberOfGreatestGain : ByteArray := prog_6_method_3_code
def yX4_numberOfGreatestGain : MethodName := ⟨RX4, "numberOfGreatestGain", "(LBreakpoint$SegmentCosts;IILBreakpoint$Cutting;)I"⟩
def RX5 : String := "Breakpoint$LeastCosts"
def TX5 : u_T := fun k => match k with
  | 0 => ("Breakpoint$LeastCosts", "least", "[I", true)
  | _ => ("Breakpoint$LeastCosts", "learnt", "I", false)
def tyX5 : Nat → FieldType := fun k => match k with
  | 0 => .array .int
  | _ => .int
abbrev wsX50 : List Cond := u_ws RX5 TX5 2
theorem nmX5 : ∀ a, a < 2 → ∀ b, b < 2 → a ≠ b → (TX5 a).2.1 ≠ (TX5 b).2.1 := by decide +kernel
theorem tyX5_ok : ∀ k, k < 2 → parseFieldDescriptor (TX5 k).2.2.1 = some (tyX5 k) := by decide +kernel
abbrev cX5_init : ByteArray := prog_7_method_1_code
def yX5_init : MethodName := ⟨RX5, "<init>", "()V"⟩
abbrev cX5_forget : ByteArray := prog_7_method_2_code
def yX5_forget : MethodName := ⟨RX5, "forget", "()V"⟩
abbrev cX5_learn : ByteArray := prog_7_method_3_code
def yX5_learn : MethodName := ⟨RX5, "learn", "(LBreakpoint$SegmentCosts;I)V"⟩
abbrev cX5_of : ByteArray := prog_7_method_4_code
def yX5_of : MethodName := ⟨RX5, "of", "(II)I"⟩
abbrev cX5_learnCuttingsTo : ByteArray := prog_7_method_5_code
def yX5_learnCuttingsTo : MethodName := ⟨RX5, "learnCuttingsTo", "(LBreakpoint$SegmentCosts;I)V"⟩
abbrev cX5_leastWithLastSegment : ByteArray := prog_7_method_6_code
def yX5_leastWithLastSegment : MethodName := ⟨RX5, "leastWithLastSegment", "(LBreakpoint$SegmentCosts;II)I"⟩
def RX6 : String := "Breakpoint$PageHinkley"
def TX6 : u_T := fun k => match k with
  | 0 => ("Breakpoint$PageHinkley", "allowance", "I", false)
  | 1 => ("Breakpoint$PageHinkley", "forgetting", "I", false)
  | 2 => ("Breakpoint$PageHinkley", "limit", "I", false)
  | 3 => ("Breakpoint$PageHinkley", "counted", "I", false)
  | 4 => ("Breakpoint$PageHinkley", "total", "I", false)
  | 5 => ("Breakpoint$PageHinkley", "sum", "I", false)
  | 6 => ("Breakpoint$PageHinkley", "leastSum", "I", false)
  | _ => ("Breakpoint$PageHinkley", "leastNumber", "I", false)
def tyX6 : Nat → FieldType := fun k => match k with
  | 0 => .int
  | 1 => .int
  | 2 => .int
  | 3 => .int
  | 4 => .int
  | 5 => .int
  | 6 => .int
  | _ => .int
abbrev wsX60 : List Cond := u_ws RX6 TX6 8
theorem nmX6 : ∀ a, a < 8 → ∀ b, b < 8 → a ≠ b → (TX6 a).2.1 ≠ (TX6 b).2.1 := by decide +kernel
theorem tyX6_ok : ∀ k, k < 8 → parseFieldDescriptor (TX6 k).2.2.1 = some (tyX6 k) := by decide +kernel
abbrev cX6_init : ByteArray := prog_8_method_1_code
def yX6_init : MethodName := ⟨RX6, "<init>", "()V"⟩
abbrev cX6_setUp : ByteArray := prog_8_method_2_code
def yX6_setUp : MethodName := ⟨RX6, "setUp", "(III)V"⟩
abbrev cX6_beginAnew : ByteArray := prog_8_method_3_code
def yX6_beginAnew : MethodName := ⟨RX6, "beginAnew", "()V"⟩
abbrev cX6_watch : ByteArray := prog_8_method_4_code
def yX6_watch : MethodName := ⟨RX6, "watch", "(IILBreakpoint$AlarmList;)I"⟩
abbrev cX6_moveSum : ByteArray := prog_8_method_5_code
def yX6_moveSum : MethodName := ⟨RX6, "moveSum", "(II)V"⟩
abbrev cX6_startOfGrowth : ByteArray := prog_8_method_6_code
def yX6_startOfGrowth : MethodName := ⟨RX6, "startOfGrowth", "(I)I"⟩
def RX7 : String := "Breakpoint$SegmentCosts"
def TX7 : u_T := fun k => match k with
  | 0 => ("Breakpoint$SegmentCosts", "costs", "[I", true)
  | 1 => ("Breakpoint$SegmentCosts", "sorted", "[I", true)
  | _ => ("Breakpoint$SegmentCosts", "learnt", "I", false)
def tyX7 : Nat → FieldType := fun k => match k with
  | 0 => .array .int
  | 1 => .array .int
  | _ => .int
abbrev wsX70 : List Cond := u_ws RX7 TX7 3
theorem nmX7 : ∀ a, a < 3 → ∀ b, b < 3 → a ≠ b → (TX7 a).2.1 ≠ (TX7 b).2.1 := by decide +kernel
theorem tyX7_ok : ∀ k, k < 3 → parseFieldDescriptor (TX7 k).2.2.1 = some (tyX7 k) := by decide +kernel
abbrev cX7_init : ByteArray := prog_9_method_1_code
def yX7_init : MethodName := ⟨RX7, "<init>", "()V"⟩
abbrev cX7_triangle : ByteArray := prog_9_method_2_code
def yX7_triangle : MethodName := ⟨RX7, "triangle", "(I)I"⟩
abbrev cX7_forget : ByteArray := prog_9_method_3_code
def yX7_forget : MethodName := ⟨RX7, "forget", "()V"⟩
abbrev cX7_learn : ByteArray := prog_9_method_4_code
def yX7_learn : MethodName := ⟨RX7, "learn", "([II)V"⟩
abbrev cX7_of : ByteArray := prog_9_method_5_code
def yX7_of : MethodName := ⟨RX7, "of", "(II)I"⟩
abbrev cX7_middleOf : ByteArray := prog_9_method_6_code
def yX7_middleOf : MethodName := ⟨RX7, "middleOf", "([III)I"⟩
abbrev cX7_learnSegmentsTo : ByteArray := prog_9_method_7_code
def yX7_learnSegmentsTo : MethodName := ⟨RX7, "learnSegmentsTo", "([II)V"⟩
abbrev cX7_distanceFromMiddles : ByteArray := prog_9_method_8_code
def yX7_distanceFromMiddles : MethodName := ⟨RX7, "distanceFromMiddles", "(II)I"⟩
abbrev cX7_sortIn : ByteArray := prog_9_method_9_code
def yX7_sortIn : MethodName := ⟨RX7, "sortIn", "(II)V"⟩
def RX8 : String := "Breakpoint$Truth"
def TX8 : u_T := fun k => match k with
  | 0 => ("Breakpoint$Truth", "marked", "[Z", true)
  | 1 => ("Breakpoint$Truth", "taken", "[Z", true)
  | 2 => ("Breakpoint$Truth", "hits", "I", false)
  | 3 => ("Breakpoint$Truth", "misses", "I", false)
  | _ => ("Breakpoint$Truth", "delays", "I", false)
def tyX8 : Nat → FieldType := fun k => match k with
  | 0 => .array .boolean
  | 1 => .array .boolean
  | 2 => .int
  | 3 => .int
  | _ => .int
abbrev wsX80 : List Cond := u_ws RX8 TX8 5
theorem nmX8 : ∀ a, a < 5 → ∀ b, b < 5 → a ≠ b → (TX8 a).2.1 ≠ (TX8 b).2.1 := by decide +kernel
theorem tyX8_ok : ∀ k, k < 5 → parseFieldDescriptor (TX8 k).2.2.1 = some (tyX8 k) := by decide +kernel
abbrev cX8_init : ByteArray := prog_10_method_1_code
def yX8_init : MethodName := ⟨RX8, "<init>", "()V"⟩
abbrev cX8_removeMarks : ByteArray := prog_10_method_2_code
def yX8_removeMarks : MethodName := ⟨RX8, "removeMarks", "()V"⟩
abbrev cX8_match : ByteArray := prog_10_method_3_code
def yX8_match : MethodName := ⟨RX8, "match", "(LBreakpoint$AlarmList;II)V"⟩
abbrev cX8_beginMatching : ByteArray := prog_10_method_4_code
def yX8_beginMatching : MethodName := ⟨RX8, "beginMatching", "()V"⟩
abbrev cX8_matchAlarm : ByteArray := prog_10_method_5_code
def yX8_matchAlarm : MethodName := ⟨RX8, "matchAlarm", "(II)V"⟩
def RX9 : String := "Breakpoint"
def TX9 : u_T := fun k => match k with
  | 0 => ("Breakpoint", "values", "[I", true)
  | 1 => ("Breakpoint", "alarmList", "LBreakpoint$AlarmList;", true)
  | 2 => ("Breakpoint", "sums", "LBreakpoint$CumulativeSums;", true)
  | 3 => ("Breakpoint", "test", "LBreakpoint$PageHinkley;", true)
  | 4 => ("Breakpoint", "segmentCosts", "LBreakpoint$SegmentCosts;", true)
  | 5 => ("Breakpoint", "leastCosts", "LBreakpoint$LeastCosts;", true)
  | 6 => ("Breakpoint", "bestSearch", "LBreakpoint$BestSearch;", true)
  | 7 => ("Breakpoint", "best", "LBreakpoint$Cutting;", true)
  | 8 => ("Breakpoint", "greedy", "LBreakpoint$Cutting;", true)
  | 9 => ("Breakpoint", "truth", "LBreakpoint$Truth;", true)
  | 10 => ("Breakpoint", "valueCount", "I", false)
  | _ => ("Breakpoint", "penalty", "I", false)
def tyX9 : Nat → FieldType := fun k => match k with
  | 0 => .array .int
  | 1 => .object "Breakpoint$AlarmList"
  | 2 => .object "Breakpoint$CumulativeSums"
  | 3 => .object "Breakpoint$PageHinkley"
  | 4 => .object "Breakpoint$SegmentCosts"
  | 5 => .object "Breakpoint$LeastCosts"
  | 6 => .object "Breakpoint$BestSearch"
  | 7 => .object "Breakpoint$Cutting"
  | 8 => .object "Breakpoint$Cutting"
  | 9 => .object "Breakpoint$Truth"
  | 10 => .int
  | _ => .int
abbrev wsX90 : List Cond := u_ws RX9 TX9 12
theorem nmX9 : ∀ a, a < 12 → ∀ b, b < 12 → a ≠ b → (TX9 a).2.1 ≠ (TX9 b).2.1 := by decide +kernel
theorem tyX9_ok : ∀ k, k < 12 → parseFieldDescriptor (TX9 k).2.2.1 = some (tyX9 k) := by decide +kernel
abbrev cX9_init : ByteArray := prog_1_method_1_code
def yX9_init : MethodName := ⟨RX9, "<init>", "()V"⟩
abbrev cX9_clear : ByteArray := prog_1_method_2_code
def yX9_clear : MethodName := ⟨RX9, "clear", "()I"⟩
abbrev cX9_setSums : ByteArray := prog_1_method_3_code
def yX9_setSums : MethodName := ⟨RX9, "setSums", "(III)V"⟩
abbrev cX9_setTest : ByteArray := prog_1_method_4_code
def yX9_setTest : MethodName := ⟨RX9, "setTest", "(III)V"⟩
abbrev cX9_setPenalty : ByteArray := prog_1_method_5_code
def yX9_setPenalty : MethodName := ⟨RX9, "setPenalty", "(I)I"⟩
abbrev cX9_add : ByteArray := prog_1_method_6_code
def yX9_add : MethodName := ⟨RX9, "add", "(I)I"⟩
abbrev cX9_addRun : ByteArray := prog_1_method_7_code
def yX9_addRun : MethodName := ⟨RX9, "addRun", "(III)I"⟩
abbrev cX9_size : ByteArray := prog_1_method_8_code
def yX9_size : MethodName := ⟨RX9, "size", "()I"⟩
abbrev cX9_value : ByteArray := prog_1_method_9_code
def yX9_value : MethodName := ⟨RX9, "value", "(I)I"⟩
abbrev cX9_highSum : ByteArray := prog_1_method_10_code
def yX9_highSum : MethodName := ⟨RX9, "highSum", "()I"⟩
abbrev cX9_lowSum : ByteArray := prog_1_method_11_code
def yX9_lowSum : MethodName := ⟨RX9, "lowSum", "()I"⟩
abbrev cX9_testSum : ByteArray := prog_1_method_12_code
def yX9_testSum : MethodName := ⟨RX9, "testSum", "()I"⟩
abbrev cX9_alarms : ByteArray := prog_1_method_13_code
def yX9_alarms : MethodName := ⟨RX9, "alarms", "()I"⟩
abbrev cX9_alarmKind : ByteArray := prog_1_method_14_code
def yX9_alarmKind : MethodName := ⟨RX9, "alarmKind", "(I)I"⟩
abbrev cX9_alarmNumber : ByteArray := prog_1_method_15_code
def yX9_alarmNumber : MethodName := ⟨RX9, "alarmNumber", "(I)I"⟩
abbrev cX9_alarmStart : ByteArray := prog_1_method_16_code
def yX9_alarmStart : MethodName := ⟨RX9, "alarmStart", "(I)I"⟩
abbrev cX9_cost : ByteArray := prog_1_method_17_code
def yX9_cost : MethodName := ⟨RX9, "cost", "(II)I"⟩
abbrev cX9_middle : ByteArray := prog_1_method_18_code
def yX9_middle : MethodName := ⟨RX9, "middle", "(II)I"⟩
abbrev cX9_changes : ByteArray := prog_1_method_19_code
def yX9_changes : MethodName := ⟨RX9, "changes", "()I"⟩
abbrev cX9_change : ByteArray := prog_1_method_20_code
def yX9_change : MethodName := ⟨RX9, "change", "(I)I"⟩
abbrev cX9_bestCost : ByteArray := prog_1_method_21_code
def yX9_bestCost : MethodName := ⟨RX9, "bestCost", "()I"⟩
abbrev cX9_leastCost : ByteArray := prog_1_method_22_code
def yX9_leastCost : MethodName := ⟨RX9, "leastCost", "(I)I"⟩
abbrev cX9_greedyChanges : ByteArray := prog_1_method_23_code
def yX9_greedyChanges : MethodName := ⟨RX9, "greedyChanges", "()I"⟩
abbrev cX9_greedyChange : ByteArray := prog_1_method_24_code
def yX9_greedyChange : MethodName := ⟨RX9, "greedyChange", "(I)I"⟩
abbrev cX9_greedyCost : ByteArray := prog_1_method_25_code
def yX9_greedyCost : MethodName := ⟨RX9, "greedyCost", "()I"⟩
abbrev cX9_toggleTruth : ByteArray := prog_1_method_26_code
def yX9_toggleTruth : MethodName := ⟨RX9, "toggleTruth", "(I)Z"⟩
abbrev cX9_matched : ByteArray := prog_1_method_27_code
def yX9_matched : MethodName := ⟨RX9, "matched", "(II)I"⟩
abbrev cX9_falseAlarms : ByteArray := prog_1_method_28_code
def yX9_falseAlarms : MethodName := ⟨RX9, "falseAlarms", "(II)I"⟩
abbrev cX9_averageDelay : ByteArray := prog_1_method_29_code
def yX9_averageDelay : MethodName := ⟨RX9, "averageDelay", "(II)F"⟩
abbrev cX9_take : ByteArray := prog_1_method_30_code
def yX9_take : MethodName := ⟨RX9, "take", "(I)I"⟩
abbrev cX9_forgetCuttings : ByteArray := prog_1_method_31_code
def yX9_forgetCuttings : MethodName := ⟨RX9, "forgetCuttings", "()V"⟩
abbrev cX9_learntCosts : ByteArray := prog_1_method_32_code
def yX9_learntCosts : MethodName := ⟨RX9, "learntCosts", "()LBreakpoint$SegmentCosts;"⟩
abbrev cX9_bestCutting : ByteArray := prog_1_method_33_code
def yX9_bestCutting : MethodName := ⟨RX9, "bestCutting", "()LBreakpoint$Cutting;"⟩
abbrev cX9_greedyCutting : ByteArray := prog_1_method_34_code
def yX9_greedyCutting : MethodName := ⟨RX9, "greedyCutting", "()LBreakpoint$Cutting;"⟩
abbrev cX9_matchAlarms : ByteArray := prog_1_method_35_code
def yX9_matchAlarms : MethodName := ⟨RX9, "matchAlarms", "(II)V"⟩
abbrev cX9_isValueNumber : ByteArray := prog_1_method_36_code
def yX9_isValueNumber : MethodName := ⟨RX9, "isValueNumber", "(I)Z"⟩
abbrev cX9_isSegment : ByteArray := prog_1_method_37_code
def yX9_isSegment : MethodName := ⟨RX9, "isSegment", "(II)Z"⟩
abbrev cX9_isAmountFromZero : ByteArray := prog_1_method_38_code
def yX9_isAmountFromZero : MethodName := ⟨RX9, "isAmountFromZero", "(I)Z"⟩
abbrev cX9_isBetween : ByteArray := prog_1_method_39_code
def yX9_isBetween : MethodName := ⟨RX9, "isBetween", "(III)Z"⟩
abbrev cX9_requireArgument : ByteArray := prog_1_method_40_code
def yX9_requireArgument : MethodName := ⟨RX9, "requireArgument", "(Z)V"⟩
abbrev cX9_requireIndex : ByteArray := prog_1_method_41_code
def yX9_requireIndex : MethodName := ⟨RX9, "requireIndex", "(Z)V"⟩
abbrev cX9_requireState : ByteArray := prog_1_method_42_code
def yX9_requireState : MethodName := ⟨RX9, "requireState", "(Z)V"⟩
def RX10 : String := "BreakpointModel"
def TX10 : u_T := fun k => match k with
  | 0 => ("BreakpointModel", "target", "I", false)
  | 1 => ("BreakpointModel", "slack", "I", false)
  | 2 => ("BreakpointModel", "threshold", "I", false)
  | 3 => ("BreakpointModel", "allowance", "I", false)
  | 4 => ("BreakpointModel", "forgetting", "I", false)
  | 5 => ("BreakpointModel", "limit", "I", false)
  | 6 => ("BreakpointModel", "penalty", "I", false)
  | 7 => ("BreakpointModel", "size", "I", false)
  | 8 => ("BreakpointModel", "value", "[I", true)
  | 9 => ("BreakpointModel", "isTrue", "[Z", true)
  | 10 => ("BreakpointModel", "high", "I", false)
  | 11 => ("BreakpointModel", "low", "I", false)
  | 12 => ("BreakpointModel", "highStart", "I", false)
  | 13 => ("BreakpointModel", "lowStart", "I", false)
  | 14 => ("BreakpointModel", "count", "I", false)
  | 15 => ("BreakpointModel", "total", "I", false)
  | 16 => ("BreakpointModel", "sum", "I", false)
  | 17 => ("BreakpointModel", "least", "I", false)
  | 18 => ("BreakpointModel", "leastAt", "I", false)
  | 19 => ("BreakpointModel", "alarms", "I", false)
  | 20 => ("BreakpointModel", "kind", "[I", true)
  | 21 => ("BreakpointModel", "number", "[I", true)
  | 22 => ("BreakpointModel", "start", "[I", true)
  | 23 => ("BreakpointModel", "thrown", "I", false)
  | 24 => ("BreakpointModel", "isKnown", "Z", false)
  | 25 => ("BreakpointModel", "costs", "[I", true)
  | 26 => ("BreakpointModel", "sorted", "[I", true)
  | 27 => ("BreakpointModel", "best", "[I", true)
  | 28 => ("BreakpointModel", "few", "[I", true)
  | 29 => ("BreakpointModel", "one", "[I", true)
  | 30 => ("BreakpointModel", "other", "[I", true)
  | 31 => ("BreakpointModel", "isCut", "[Z", true)
  | 32 => ("BreakpointModel", "isMet", "[Z", true)
  | _ => ("BreakpointModel", "delays", "I", false)
def tyX10 : Nat → FieldType := fun k => match k with
  | 0 => .int
  | 1 => .int
  | 2 => .int
  | 3 => .int
  | 4 => .int
  | 5 => .int
  | 6 => .int
  | 7 => .int
  | 8 => .array .int
  | 9 => .array .boolean
  | 10 => .int
  | 11 => .int
  | 12 => .int
  | 13 => .int
  | 14 => .int
  | 15 => .int
  | 16 => .int
  | 17 => .int
  | 18 => .int
  | 19 => .int
  | 20 => .array .int
  | 21 => .array .int
  | 22 => .array .int
  | 23 => .int
  | 24 => .boolean
  | 25 => .array .int
  | 26 => .array .int
  | 27 => .array .int
  | 28 => .array .int
  | 29 => .array .int
  | 30 => .array .int
  | 31 => .array .boolean
  | 32 => .array .boolean
  | _ => .int
abbrev wsX100 : List Cond := u_ws RX10 TX10 34
theorem nmX10 : ∀ a, a < 34 → ∀ b, b < 34 → a ≠ b → (TX10 a).2.1 ≠ (TX10 b).2.1 := by decide +kernel
theorem tyX10_ok : ∀ k, k < 34 → parseFieldDescriptor (TX10 k).2.2.1 = some (tyX10 k) := by decide +kernel
abbrev cX10_init : ByteArray := prog_12_method_1_code
def yX10_init : MethodName := ⟨RX10, "<init>", "()V"⟩
abbrev cX10_thrown : ByteArray := prog_12_method_2_code
def yX10_thrown : MethodName := ⟨RX10, "thrown", "()I"⟩
abbrev cX10_fails : ByteArray := prog_12_method_3_code
def yX10_fails : MethodName := ⟨RX10, "fails", "(I)Z"⟩
abbrev cX10_tells : ByteArray := prog_12_method_4_code
def yX10_tells : MethodName := ⟨RX10, "tells", "(I)I"⟩
abbrev cX10_isIn : ByteArray := prog_12_method_5_code
def yX10_isIn : MethodName := ⟨RX10, "isIn", "(III)Z"⟩
abbrev cX10_restsSums : ByteArray := prog_12_method_6_code
def yX10_restsSums : MethodName := ⟨RX10, "restsSums", "()V"⟩
abbrev cX10_restsTest : ByteArray := prog_12_method_7_code
def yX10_restsTest : MethodName := ⟨RX10, "restsTest", "()V"⟩
abbrev cX10_clear : ByteArray := prog_12_method_8_code
def yX10_clear : MethodName := ⟨RX10, "clear", "()I"⟩
abbrev cX10_setSums : ByteArray := prog_12_method_9_code
def yX10_setSums : MethodName := ⟨RX10, "setSums", "(III)V"⟩
abbrev cX10_setTest : ByteArray := prog_12_method_10_code
def yX10_setTest : MethodName := ⟨RX10, "setTest", "(III)V"⟩
abbrev cX10_setPenalty : ByteArray := prog_12_method_11_code
def yX10_setPenalty : MethodName := ⟨RX10, "setPenalty", "(I)I"⟩
abbrev cX10_raises : ByteArray := prog_12_method_12_code
def yX10_raises : MethodName := ⟨RX10, "raises", "(II)V"⟩
abbrev cX10_sums : ByteArray := prog_12_method_13_code
def yX10_sums : MethodName := ⟨RX10, "sums", "(I)I"⟩
abbrev cX10_floor : ByteArray := prog_12_method_14_code
def yX10_floor : MethodName := ⟨RX10, "floor", "(II)I"⟩
abbrev cX10_tests : ByteArray := prog_12_method_15_code
def yX10_tests : MethodName := ⟨RX10, "tests", "(I)I"⟩
abbrev cX10_puts : ByteArray := prog_12_method_16_code
def yX10_puts : MethodName := ⟨RX10, "puts", "(I)I"⟩
abbrev cX10_isValue : ByteArray := prog_12_method_17_code
def yX10_isValue : MethodName := ⟨RX10, "isValue", "(I)Z"⟩
abbrev cX10_add : ByteArray := prog_12_method_18_code
def yX10_add : MethodName := ⟨RX10, "add", "(I)I"⟩
abbrev cX10_addRun : ByteArray := prog_12_method_19_code
def yX10_addRun : MethodName := ⟨RX10, "addRun", "(III)I"⟩
abbrev cX10_size : ByteArray := prog_12_method_20_code
def yX10_size : MethodName := ⟨RX10, "size", "()I"⟩
abbrev cX10_value : ByteArray := prog_12_method_21_code
def yX10_value : MethodName := ⟨RX10, "value", "(I)I"⟩
abbrev cX10_highSum : ByteArray := prog_12_method_22_code
def yX10_highSum : MethodName := ⟨RX10, "highSum", "()I"⟩
abbrev cX10_lowSum : ByteArray := prog_12_method_23_code
def yX10_lowSum : MethodName := ⟨RX10, "lowSum", "()I"⟩
abbrev cX10_testSum : ByteArray := prog_12_method_24_code
def yX10_testSum : MethodName := ⟨RX10, "testSum", "()I"⟩
abbrev cX10_alarms : ByteArray := prog_12_method_25_code
def yX10_alarms : MethodName := ⟨RX10, "alarms", "()I"⟩
abbrev cX10_ofAlarm : ByteArray := prog_12_method_26_code
def yX10_ofAlarm : MethodName := ⟨RX10, "ofAlarm", "([II)I"⟩
abbrev cX10_alarmKind : ByteArray := prog_12_method_27_code
def yX10_alarmKind : MethodName := ⟨RX10, "alarmKind", "(I)I"⟩
abbrev cX10_alarmNumber : ByteArray := prog_12_method_28_code
def yX10_alarmNumber : MethodName := ⟨RX10, "alarmNumber", "(I)I"⟩
abbrev cX10_alarmStart : ByteArray := prog_12_method_29_code
def yX10_alarmStart : MethodName := ⟨RX10, "alarmStart", "(I)I"⟩
abbrev cX10_sorts : ByteArray := prog_12_method_30_code
def yX10_sorts : MethodName := ⟨RX10, "sorts", "(II)V"⟩
abbrev cX10_weighs : ByteArray := prog_12_method_31_code
def yX10_weighs : MethodName := ⟨RX10, "weighs", "()V"⟩
abbrev cX10_of : ByteArray := prog_12_method_32_code
def yX10_of : MethodName := ⟨RX10, "of", "(II)I"⟩
abbrev cX10_isSegment : ByteArray := prog_12_method_33_code
def yX10_isSegment : MethodName := ⟨RX10, "isSegment", "(II)Z"⟩
abbrev cX10_cost : ByteArray := prog_12_method_34_code
def yX10_cost : MethodName := ⟨RX10, "cost", "(II)I"⟩
abbrev cX10_middle : ByteArray := prog_12_method_35_code
def yX10_middle : MethodName := ⟨RX10, "middle", "(II)I"⟩
abbrev cX10_cuts : ByteArray := prog_12_method_36_code
def yX10_cuts : MethodName := ⟨RX10, "cuts", "()V"⟩
abbrev cX10_next : ByteArray := prog_12_method_37_code
def yX10_next : MethodName := ⟨RX10, "next", "(I)I"⟩
abbrev cX10_changes : ByteArray := prog_12_method_38_code
def yX10_changes : MethodName := ⟨RX10, "changes", "()I"⟩
abbrev cX10_change : ByteArray := prog_12_method_39_code
def yX10_change : MethodName := ⟨RX10, "change", "(I)I"⟩
abbrev cX10_bestCost : ByteArray := prog_12_method_40_code
def yX10_bestCost : MethodName := ⟨RX10, "bestCost", "()I"⟩
abbrev cX10_leastCost : ByteArray := prog_12_method_41_code
def yX10_leastCost : MethodName := ⟨RX10, "leastCost", "(I)I"⟩
abbrev cX10_cutsGreedily : ByteArray := prog_12_method_42_code
def yX10_cutsGreedily : MethodName := ⟨RX10, "cutsGreedily", "()I"⟩
abbrev cX10_cut : ByteArray := prog_12_method_43_code
def yX10_cut : MethodName := ⟨RX10, "cut", "(I)I"⟩
abbrev cX10_greedyChanges : ByteArray := prog_12_method_44_code
def yX10_greedyChanges : MethodName := ⟨RX10, "greedyChanges", "()I"⟩
abbrev cX10_greedyChange : ByteArray := prog_12_method_45_code
def yX10_greedyChange : MethodName := ⟨RX10, "greedyChange", "(I)I"⟩
abbrev cX10_greedyCost : ByteArray := prog_12_method_46_code
def yX10_greedyCost : MethodName := ⟨RX10, "greedyCost", "()I"⟩
abbrev cX10_toggleTruth : ByteArray := prog_12_method_47_code
def yX10_toggleTruth : MethodName := ⟨RX10, "toggleTruth", "(I)Z"⟩
abbrev cX10_matches : ByteArray := prog_12_method_48_code
def yX10_matches : MethodName := ⟨RX10, "matches", "(II)I"⟩
abbrev cX10_isNoWindow : ByteArray := prog_12_method_49_code
def yX10_isNoWindow : MethodName := ⟨RX10, "isNoWindow", "(II)Z"⟩
abbrev cX10_matched : ByteArray := prog_12_method_50_code
def yX10_matched : MethodName := ⟨RX10, "matched", "(II)I"⟩
abbrev cX10_falseAlarms : ByteArray := prog_12_method_51_code
def yX10_falseAlarms : MethodName := ⟨RX10, "falseAlarms", "(II)I"⟩
abbrev cX10_averageDelay : ByteArray := prog_12_method_52_code
def yX10_averageDelay : MethodName := ⟨RX10, "averageDelay", "(II)F"⟩
def RJ9 : String := "java/lang/Math"
def TJ9 : u_T := fun k => match k with
  | _ => ("", "", "", false)
def tyJ9 : Nat → FieldType := fun k => match k with
  | _ => .int
abbrev wsJ90 : List Cond := u_ws RJ9 TJ9 0
theorem nmJ9 : ∀ a, a < 0 → ∀ b, b < 0 → a ≠ b → (TJ9 a).2.1 ≠ (TJ9 b).2.1 := by decide +kernel
theorem tyJ9_ok : ∀ k, k < 0 → parseFieldDescriptor (TJ9 k).2.2.1 = some (tyJ9 k) := by decide +kernel
abbrev cJ9_floorDiv_7cf53 : ByteArray := prog_17_method_47_code
def yJ9_floorDiv_7cf53 : MethodName := ⟨RJ9, "floorDiv", "(II)I"⟩
abbrev cJ9_max_7cf53 : ByteArray := prog_17_method_65_code
def yJ9_max_7cf53 : MethodName := ⟨RJ9, "max", "(II)I"⟩
abbrev cJ9_min_7cf53 : ByteArray := prog_17_method_69_code
def yJ9_min_7cf53 : MethodName := ⟨RJ9, "min", "(II)I"⟩
def RJ0 : String := "java/lang/String"
def TJ0 : u_T := fun k => match k with
  | _ => ("", "", "", false)
def tyJ0 : Nat → FieldType := fun k => match k with
  | _ => .int
abbrev wsJ00 : List Cond := u_ws RJ0 TJ0 0
theorem nmJ0 : ∀ a, a < 0 → ∀ b, b < 0 → a ≠ b → (TJ0 a).2.1 ≠ (TJ0 b).2.1 := by decide +kernel
theorem tyJ0_ok : ∀ k, k < 0 → parseFieldDescriptor (TJ0 k).2.2.1 = some (tyJ0 k) := by decide +kernel
def RL : String := "BreakpointLaw"
abbrev cL_setSums : ByteArray := method_3_code
def yL_setSums : MethodName := ⟨RL, "setSums", "(LBreakpoint;III)I"⟩
abbrev cL_setTest : ByteArray := method_4_code
def yL_setTest : MethodName := ⟨RL, "setTest", "(LBreakpoint;III)I"⟩
abbrev cL_setPenalty : ByteArray := method_5_code
def yL_setPenalty : MethodName := ⟨RL, "setPenalty", "(LBreakpoint;I[J)I"⟩
abbrev cL_add : ByteArray := method_6_code
def yL_add : MethodName := ⟨RL, "add", "(LBreakpoint;I[J)I"⟩
abbrev cL_addRun : ByteArray := method_7_code
def yL_addRun : MethodName := ⟨RL, "addRun", "(LBreakpoint;III[J)I"⟩
abbrev cL_value : ByteArray := method_8_code
def yL_value : MethodName := ⟨RL, "value", "(LBreakpoint;I[J)I"⟩
abbrev cL_alarmKind : ByteArray := method_9_code
def yL_alarmKind : MethodName := ⟨RL, "alarmKind", "(LBreakpoint;I[J)I"⟩
abbrev cL_alarmNumber : ByteArray := method_10_code
def yL_alarmNumber : MethodName := ⟨RL, "alarmNumber", "(LBreakpoint;I[J)I"⟩
abbrev cL_alarmStart : ByteArray := method_11_code
def yL_alarmStart : MethodName := ⟨RL, "alarmStart", "(LBreakpoint;I[J)I"⟩
abbrev cL_cost : ByteArray := method_12_code
def yL_cost : MethodName := ⟨RL, "cost", "(LBreakpoint;II[J)I"⟩
abbrev cL_middle : ByteArray := method_13_code
def yL_middle : MethodName := ⟨RL, "middle", "(LBreakpoint;II[J)I"⟩
abbrev cL_change : ByteArray := method_14_code
def yL_change : MethodName := ⟨RL, "change", "(LBreakpoint;I[J)I"⟩
abbrev cL_leastCost : ByteArray := method_15_code
def yL_leastCost : MethodName := ⟨RL, "leastCost", "(LBreakpoint;I[J)I"⟩
abbrev cL_greedyChange : ByteArray := method_16_code
def yL_greedyChange : MethodName := ⟨RL, "greedyChange", "(LBreakpoint;I[J)I"⟩
abbrev cL_toggleTruth : ByteArray := method_17_code
def yL_toggleTruth : MethodName := ⟨RL, "toggleTruth", "(LBreakpoint;I[J)I"⟩
abbrev cL_matched : ByteArray := method_18_code
def yL_matched : MethodName := ⟨RL, "matched", "(LBreakpoint;II[J)I"⟩
abbrev cL_falseAlarms : ByteArray := method_19_code
def yL_falseAlarms : MethodName := ⟨RL, "falseAlarms", "(LBreakpoint;II[J)I"⟩
abbrev cL_averageDelay : ByteArray := method_20_code
def yL_averageDelay : MethodName := ⟨RL, "averageDelay", "(LBreakpoint;II[D)I"⟩
abbrev cL_law : ByteArray := code
def yL_law : MethodName := ⟨RL, "law", "([I)Z"⟩
abbrev vwCl : List vw_C := [(RX0, TX0, 4), (RX1, TX1, 3), (RX2, TX2, 7), (RX3, TX3, 4), (RX5, TX5, 2), (RX6, TX6, 8), (RX7, TX7, 3), (RX8, TX8, 5), (RX9, TX9, 12), (RX10, TX10, 34)]
end
section
/-! ===== BEGIN words of one list among another's, by their places ===== -/
theorem goodIn_r {big : List Cond} (ws : List Cond) (ps : List Nat) (hp : ws = ps.filterMap (fun i => big[i]?)) (h : ws.all goodWord = true) : GoodIn big ws := by
  intro w hw
  have h1 := List.all_eq_true.mp h w hw
  rw [hp] at hw
  obtain ⟨i, -, hi⟩ := List.mem_filterMap.mp hw
  have hm : w ∈ big := by first | exact List.mem_of_getElem? hi | exact List.getElem?_mem hi
  exact ⟨hm, good_of_word h1⟩
theorem goodIn_app {big a b : List Cond} (ha : GoodIn big a) (hb : GoodIn big b) : GoodIn big (a ++ b) := fun w h => (List.mem_append.mp h).elim (ha w) (hb w)
theorem goodIn_ca {big a b : List Cond} {c : Cond} (ha : GoodIn big (c :: a)) (hb : GoodIn big b) : GoodIn big (c :: (a ++ b)) := fun w h => (List.mem_cons.mp h).elim (fun e => ha w (List.mem_cons.mpr (Or.inl e))) (fun h => (List.mem_append.mp h).elim (fun h => ha w (List.mem_cons.mpr (Or.inr h))) (hb w))
theorem goodIn_sub {big ws : List Cond} (hm : ∀ w ∈ ws, w ∈ big) (h : ws.all goodWord = true) : GoodIn big ws := fun w hw => ⟨hm w hw, good_of_word (List.all_eq_true.mp h w hw)⟩
/-! ===== END ===== -/

/-! ===== BEGIN exceptions that leave a method, and their catching by the caller (launches without stack traces) ===== -/
section VXA
/-! The laws vx_back, vx_callV, vx_callS, vx_callSW, vx_throw0, vx_throwS follow proofs of the library, with one case more: JvmDerived/Free/Laws.lean (Back.of_free), Shelf42/LK1.lean (callV, callS), Shelf/KitTraced.lean (throwNew0V, throwNewS). -/
/-- where a method has thrown q: the class by its name, the cell, what was written, the world -/
def vx_T (XC : String → State → State → Prop) (st : State) (q : Addr) (t : State) (mc ms : Nat) (free : Addr → Prop) : Prop :=
  ∃ (E : String) (ce : Cell) (L : List Loc), XC E st t ∧ t.heap[q]? = some ce ∧ ce.vm = .none ∧ st.vm.findClass E = some ce.cls ∧ st.WarmedH t.vm ∧ st.sameButNew ({ t with vm := st.vm } : State) L mc ms ∧ ∀ z ∈ L, free z.base
def vx_Q (Qc : Array Value → State → Outcome → State → Prop) (XC : String → State → State → Prop) (mc ms : Nat) (free : Addr → Prop) : Array Value → State → Outcome → State → Prop := fun a st o t =>
  (Qc a st o t ∧ ∃ L, FrameEnd st o t L mc ms ∧ ∀ q ∈ L, free q.base) ∨ ∃ q, o = .threw q ∧ vx_T XC st q t mc ms free
/-- a callee that returns or throws -/
def vx_Met (l : Launch) (y : MethodName) (ws : List Cond) (rm : Room) (Pc : Array Value → State → Prop) (Qc : Array Value → State → Outcome → State → Prop) (XC : String → State → State → Prop) (mc ms : Nat) (free : Addr → Prop) : Prop :=
  MetFree l y (headSpec ws rm) Pc (fun _ _ _ _ _ => True) (vx_Q Qc XC mc ms free)
def vx_Post (XC : String → State → State → Prop) (mc ms : Nat) (free : Addr → Prop) : Pt → Array Value → Addr → Pt → Prop := fun A a q B =>
  ∃ (g : JFrame) (mk : MethodId) (t : State) (L : List Loc) (E : String) (ce : Cell), B.U.heap = t.heap ∧ B.U.vm = t.vm ∧ XC E (A.U.calling g mk a) t ∧ t.heap[q]? = some ce ∧ ce.vm = .none ∧ A.U.vm.findClass E = some ce.cls ∧ B.locs = A.locs ++ L ∧ (∀ z ∈ L, free z.base) ∧ B.cells = A.cells + mc ∧ B.slots = A.slots + ms
def vx_Back (l : Launch) (R : Room) (p : Program) (e : Env) (below : List Frame) (s : State) (sargs : Array Value) (y : MethodName) (len W9 : Nat)
    (Pre : Pt → Array Value → Prop) (Post : Pt → Array Value → Option Value → Pt → Prop) (PostX : Pt → Array Value → Addr → Pt → Prop) : Prop :=
  ∀ (m : MethodId) (meth : Method) (c : Code) (A : Pt) (g : JFrame) (ig : Instr) (mk : MethodId) (a : Array Value),
    Stand p l e R s m sargs below meth c A.U A.locs A.cells A.slots → g.method = m → g.locals.size = c.maxLocals → decode c.code g.pc = .ok (ig, len) →
    2 * g.monitorRoom + (g.stack.map fun v => v.category).sum ≤ W9 → A.U.methodNamed? y = some mk → Pre A a →
    (∃ (v : Option Value) (B : Pt), Stand p l e R s m sargs below meth c B.U B.locs B.cells B.slots ∧ Post A a v B ∧
      Steps p.tables e below (doInvoke e (A.U.setTop g) [] mk a).1 (B.U.setTop { g with pc := g.pc + len, stack := v.toList ++ g.stack })) ∨
    (∃ (q : Addr) (B : Pt), Stand p l e R s m sargs below meth c B.U B.locs B.cells B.slots ∧ PostX A a q B ∧
      Steps p.tables e below (doInvoke e (A.U.setTop g) [] mk a).1 ((B.U.setTop g).pushFrame (.throwing q)))
section Payer
variable {l : Launch} {R : Room} {p : Program} {e : Env} {below : List Frame} {s : State} {sargs : Array Value} {y : MethodName} {len W9 : Nat}
theorem vx_back {ws : List Cond} {rm : Room} {Pc : Array Value → State → Prop} {Qc : Array Value → State → Outcome → State → Prop} {XC : String → State → State → Prop} {mc ms : Nat} {free : Addr → Prop} {bytes : ByteArray} {maxL : Nat} {ret : Option FieldType}
    (hM : vx_Met l y ws rm Pc Qc XC mc ms free) (hblind : FrameBlind Pc) (hrc : rm.cells = mc) (hrs : rm.slots = ms)
    (hframes : rm.frames + 1 ≤ R.frames) (hlocals : W9 + (maxL + 11) + rm.locals ≤ R.locals)
    (hws : ∀ w ∈ ws, ∀ a' U, s.WarmedH U.vm → w.before a' U = true) (hcode : Cond.code y bytes maxL ret ∈ ws) (hinit : ∀ a' U, s.WarmedH U.vm → (Cond.initialized y.cls).before a' U = true) :
    vx_Back l R p e below s sargs y len W9 (PreOf R mc ms Pc) (PostOf Qc mc ms free) (vx_Post XC mc ms free) := by
  intro m meth c A g ig mk a X hg hsize hdg hW hn hp
  have h1 : (headSpec ws rm).pre.before a A.U = true := atoms_intro fun w hw => hws w hw _ _ X.warmed
  have h2 : (Cond.code y bytes maxL ret).before a A.U = true := hws _ hcode _ _ X.warmed
  have h3 : (Cond.initialized y.cls).before a A.U = true := hinit _ _ X.warmed
  have h4 : A.cells + (headSpec ws rm).room.cells ≤ R.cells := by rw [show (headSpec ws rm).room.cells = mc from hrc]; exact hp.1
  have h5 : A.slots + (headSpec ws rm).room.slots ≤ R.slots := by rw [show (headSpec ws rm).room.slots = ms from hrs]; exact hp.2.1
  have hPc : Pc a (A.U.calling g mk a) := hblind _ _ _ _ hp.2.2
  obtain ⟨U, Ls, c0, s0⟩ := A
  dsimp only [Pt.U, Pt.locs, Pt.cells, Pt.slots] at h1 h2 h3 h4 h5 X hn hPc ⊢
  obtain ⟨methY, cY, hmY, hcY, -, hlY, -, -, -, -⟩ := Cond.code_spec hn h2
  obtain ⟨kY, hkY, -⟩ := className_of_methodNamed hn
  have hinitY : kY.init = .initialized := Cond.initialized_spec (findClass_of_methodNamed hn) hkY h3
  have h : At U g.method c below := by rw [hg]; exact X.here
  have hlocals9 : W9 + (maxL + 11) + (headSpec ws rm).room.locals ≤ R.locals := hlocals
  have happ : (headSpec ws rm).appliesLoose y e.platform (U.calling g mk a) = true :=
    Spec.appliesLoose_calling (g := g) h hdg hn hkY hinitY
      (X.room_calling (g := g) (R' := (headSpec ws rm).room) hsize hmY hcY hframes (by rw [hlY]; omega) h4 h5) h1
  obtain ⟨mid, hmid⟩ := h.above
  have hfr : (U.setTop g).frames = (.java g :: mid) ++ below := by rw [State.frames_setTop' g h.top, hmid]; rfl
  obtain ⟨o, s₂, hsteps, -, hend, hq⟩ := Steps.callFree hM p X.admits X.cas X.clock (acts := []) hfr happ hPc trivial
  have hq' : vx_Q Qc XC mc ms free a (U.calling g mk a) o s₂ := hq
  rw [State.frames_setTop' g h.top] at hend
  obtain ⟨g₀, hg0⟩ := Option.isSome_iff_exists.mp h.top
  obtain ⟨r, hr⟩ := State.topJava?_eq_some.mp hg0
  have hr' : (({ U with heap := s₂.heap, slotsUsed := s₂.slotsUsed } : State).setVm s₂.vm).frames = .java g₀ :: r := hr
  rcases hq' with ⟨hqc, L, hfe, hL⟩ | ⟨q, rfl, E, ce, L, hx, hce, hcv, hcl, hW₂, hsm, hL⟩
  · obtain ⟨⟨v, rfl⟩, hW₂, e2, q2, q3, q4, q5, q6⟩ := id hfe
    have e3 : s₂ = ({ (U.calling g mk a).setFrames s₂.frames with heap := s₂.heap, slotsUsed := s₂.slotsUsed } : State).setVm s₂.vm := by
      have : s₂ = ({ s₂ with vm := (U.calling g mk a).vm } : State).setVm s₂.vm := rfl
      rw [e2] at this
      exact this
    obtain ⟨c₂, i₂, len₂, hc₂, hd₂, hf₂⟩ := hend
    have hW' : U.WarmedH s₂.vm := hW₂
    have hcc : c₂ = c := by
      have h1 : s₂.code? g.method = U.code? g.method := by
        rw [State.code?_eq, State.code?_eq, hW'.alike.method?]
      exact Option.some.inj (hc₂.symm.trans (h1.trans h.code))
    subst hcc
    have hlen : len₂ = len := by rw [hdg] at hd₂; cases hd₂; rfl
    subst hlen
    have hs₂ : s₂ = (({ U with heap := s₂.heap, slotsUsed := s₂.slotsUsed } : State).setVm s₂.vm).setTop { g with pc := g.pc + len₂, stack := v.toList ++ g.stack } := by
      refine e3.trans ?_
      rw [hf₂, State.calling_eq h.top, State.setFrames_setFrames, State.setTop_of_frames _ hr', hr]
      rfl
    have hsame : U.sameButNew ({ U with heap := s₂.heap, slotsUsed := s₂.slotsUsed } : State) L mc ms := by
      refine ⟨?_, q2, q3, q4, q5, q6⟩
      obtain ⟨t, ht, -⟩ := State.frames_cons hr
      show ({ U with heap := s₂.heap, slotsUsed := s₂.slotsUsed } : State) = { U.setFrames U.frames with heap := s₂.heap, slotsUsed := s₂.slotsUsed }
      rw [State.setFrames_self ht]
    subst hg
    refine Or.inl ⟨v, ⟨(({ U with heap := s₂.heap, slotsUsed := s₂.slotsUsed } : State).setVm s₂.vm), Ls ++ L, c0 + mc, s0 + ms⟩,
      ⟨X.admits, X.cas, X.clock, X.frames, X.room, X.hears, X.method, X.code, (X.here.setHeapUsed s₂.heap s₂.slotsUsed).setVm hW'.alike, X.tail, State.WarmedH.trans X.warmed hW', X.limits, X.bytes, X.same.trans (hsame.setVm s.vm)⟩,
      ⟨g, mk, s₂, L, rfl, rfl, hqc, rfl, hL, rfl, rfl⟩, ?_⟩
    show Steps p.tables e below _ ((({ U with heap := s₂.heap, slotsUsed := s₂.slotsUsed } : State).setVm s₂.vm).setTop { g with pc := g.pc + len₂, stack := v.toList ++ g.stack })
    rw [← hs₂]
    exact hsteps
  · obtain ⟨e2, q2, q3, q4, q5, q6⟩ := id hsm
    have e3 : s₂ = ({ (U.calling g mk a).setFrames s₂.frames with heap := s₂.heap, slotsUsed := s₂.slotsUsed } : State).setVm s₂.vm := by
      have : s₂ = ({ s₂ with vm := (U.calling g mk a).vm } : State).setVm s₂.vm := rfl
      rw [e2] at this
      exact this
    have hf₂ : s₂.frames = .throwing q :: .java g :: U.frames.tail := hend
    have hW' : U.WarmedH s₂.vm := hW₂
    have hs₂ : s₂ = ((({ U with heap := s₂.heap, slotsUsed := s₂.slotsUsed } : State).setVm s₂.vm).setTop g).pushFrame (.throwing q) := by
      refine e3.trans ?_
      rw [hf₂, State.calling_eq h.top, State.setFrames_setFrames, State.pushFrame, State.frames_setTop _ hr', State.setTop_of_frames _ hr', State.setFrames_setFrames, hr]
      rfl
    have hsame : U.sameButNew ({ U with heap := s₂.heap, slotsUsed := s₂.slotsUsed } : State) L mc ms := by
      refine ⟨?_, q2, q3, q4, q5, q6⟩
      obtain ⟨t, ht, -⟩ := State.frames_cons hr
      show ({ U with heap := s₂.heap, slotsUsed := s₂.slotsUsed } : State) = { U.setFrames U.frames with heap := s₂.heap, slotsUsed := s₂.slotsUsed }
      rw [State.setFrames_self ht]
    subst hg
    refine Or.inr ⟨q, ⟨(({ U with heap := s₂.heap, slotsUsed := s₂.slotsUsed } : State).setVm s₂.vm), Ls ++ L, c0 + mc, s0 + ms⟩,
      ⟨X.admits, X.cas, X.clock, X.frames, X.room, X.hears, X.method, X.code, (X.here.setHeapUsed s₂.heap s₂.slotsUsed).setVm hW'.alike, X.tail, State.WarmedH.trans X.warmed hW', X.limits, X.bytes, X.same.trans (hsame.setVm s.vm)⟩,
      ⟨g, mk, s₂, L, E, ce, rfl, rfl, hx, hce, hcv, hcl, rfl, hL, rfl, rfl⟩, ?_⟩
    show Steps p.tables e below _ (((({ U with heap := s₂.heap, slotsUsed := s₂.slotsUsed } : State).setVm s₂.vm).setTop g).pushFrame (.throwing q))
    rw [← hs₂]
    exact hsteps
end Payer
section Calls
variable {p : Program} {l : Launch} {e : Env} {R : Room} {s : State} {m : MethodId} {args : Array Value} {below : List Frame} {meth : Method} {c : Code} {T : State} {locs : List Loc} {cells slots : Nat}
theorem vx_callV (X : Stand p l e R s m args below meth c T locs cells slots) (hexec : p.tables.exec = Jvm.exec) {own C : String} {index : Nat} {y : MethodName} {bytes : ByteArray} {maxL : Nat} {ret : Option FieldType}
    (hown : s.vm.findClass own = some m.cls) (hlink : (Cond.methodLink own index y).before args s = true) (hinst : (Cond.instanceMethod y).before args s = true) (hsel : (Cond.selects C y y).before args s = true)
    (hcode : (Cond.code y bytes maxL ret).before args s = true) (hy : y.cls ≠ "java/lang/invoke/MethodHandle" ∧ y.cls ≠ "java/lang/invoke/VarHandle")
    {W9 : Nat} {Pre : Pt → Array Value → Prop} {Post : Pt → Array Value → Option Value → Pt → Prop} {PostX : Pt → Array Value → Addr → Pt → Prop} (hK : vx_Back l R p e below s args y 3 W9 Pre Post PostX)
    {b : Addr} {cellB : Cell} (hcell : T.heap[b]? = some cellB) (hobj : cellB.vm.isStatics = false) (hcls : s.vm.findClass C = some cellB.cls)
    {g : JFrame} (hg : g.method = m) (hsize : g.locals.size = c.maxLocals) {argsL rest : List Value} (hlen : ∀ sig, parseMethodDescriptor y.desc = some sig → argsL.length = sig.parameters.length)
    (hstack : g.stack = argsL.reverse ++ .ref b :: rest) (hW : 2 * g.monitorRoom + (rest.map fun v => v.category).sum ≤ W9) (hdg : decode c.code g.pc = .ok (.invokevirtual index, 3))
    (hpre : ∀ vm₁, s.WarmedH vm₁ → Pre ⟨T.setVm vm₁, locs, cells, slots⟩ (Value.ref b :: argsL).toArray) :
    (∃ (v : Option Value) (vm₁ : Vm) (B : Pt), s.WarmedH vm₁ ∧ Stand p l e R s m args below meth c B.U B.locs B.cells B.slots ∧ Post ⟨T.setVm vm₁, locs, cells, slots⟩ (Value.ref b :: argsL).toArray v B ∧
      ∀ target, Steps p.tables e below (B.U.setTop { g with pc := g.pc + 3, stack := v.toList ++ rest }) target → Steps p.tables e below (T.setTop g) target) ∨
    (∃ (q : Addr) (vm₁ : Vm) (B : Pt), s.WarmedH vm₁ ∧ Stand p l e R s m args below meth c B.U B.locs B.cells B.slots ∧ PostX ⟨T.setVm vm₁, locs, cells, slots⟩ (Value.ref b :: argsL).toArray q B ∧
      Steps p.tables e below (T.setTop g) ((B.U.setTop { g with stack := rest }).pushFrame (.throwing q))) := by
  obtain ⟨mk, methM, hnamed, hmethM, hstM, habM⟩ := Cond.instanceMethod_spec hinst
  obtain ⟨methM', cM, hmethM', -, -, -, -, -, -, hsigM⟩ := Cond.code_spec hnamed hcode
  cases hmethM.symm.trans hmethM'
  obtain ⟨c2, r2, m2, q1, q2, q3, q4, kP, hkP, hkPi⟩ := Cond.selects_spec hsel
  cases hcls.symm.trans q1
  cases (State.methodFound?_of_named hnamed hy).symm.trans q2
  cases hnamed.symm.trans q3
  have hselP : selectMethod e.platform s.vm cellB.cls mk = .method mk := by rw [Launch.admits_selectMethod X.admits]; exact q4
  obtain ⟨vm₁, X₁, hstep₁⟩ := X.invokevirtual hexec hown hlink hnamed hmethM hstM hkP hkPi hy (a := b) (cell := cellB) hcell
    (fun z h => by rw [h] at hobj; cases hobj) hselP hmethM habM hkP hkPi (g := g) hg (argsL := argsL) (rest := rest) (hlen _ hsigM) hstack hdg
  rcases hK m meth c ⟨T.setVm vm₁, locs, cells, slots⟩ { g with stack := rest } (.invokevirtual index) mk (Value.ref b :: argsL).toArray X₁ hg hsize hdg hW (X₁.named hnamed) (hpre vm₁ X₁.warmed) with ⟨v, B, X', hpost, hsteps⟩ | ⟨q, B, X', hpost, hsteps⟩
  · exact Or.inl ⟨v, vm₁, B, X₁.warmed, X', hpost, fun target h => hstep₁ _ fun acts => by rw [doInvoke_state]; exact hsteps.trans h⟩
  · exact Or.inr ⟨q, vm₁, B, X₁.warmed, X', hpost, hstep₁ _ fun acts => by rw [doInvoke_state]; exact hsteps⟩
theorem vx_callS (X : Stand p l e R s m args below meth c T locs cells slots) (hexec : p.tables.exec = Jvm.exec) {own : String} {index : Nat} {y : MethodName} {bytes : ByteArray} {maxL : Nat} {ret : Option FieldType}
    (hown : s.vm.findClass own = some m.cls) (hlink : (Cond.methodLink own index y).before args s = true) (hstat : (Cond.static y).before args s = true) (hinit : (Cond.initialized y.cls).before args s = true)
    (hcode : (Cond.code y bytes maxL ret).before args s = true) (hy : y.cls ≠ "java/lang/invoke/MethodHandle" ∧ y.cls ≠ "java/lang/invoke/VarHandle")
    {W9 : Nat} {Pre : Pt → Array Value → Prop} {Post : Pt → Array Value → Option Value → Pt → Prop} {PostX : Pt → Array Value → Addr → Pt → Prop} (hK : vx_Back l R p e below s args y 3 W9 Pre Post PostX)
    {g : JFrame} (hg : g.method = m) (hsize : g.locals.size = c.maxLocals) {argsL rest : List Value} (hlen : ∀ sig, parseMethodDescriptor y.desc = some sig → argsL.length = sig.parameters.length)
    (hstack : g.stack = argsL.reverse ++ rest) (hW : 2 * g.monitorRoom + (rest.map fun v => v.category).sum ≤ W9) (hdg : decode c.code g.pc = .ok (.invokestatic index, 3))
    (hpre : ∀ vm₁, s.WarmedH vm₁ → Pre ⟨T.setVm vm₁, locs, cells, slots⟩ argsL.toArray) :
    (∃ (v : Option Value) (vm₁ : Vm) (B : Pt), s.WarmedH vm₁ ∧ Stand p l e R s m args below meth c B.U B.locs B.cells B.slots ∧ Post ⟨T.setVm vm₁, locs, cells, slots⟩ argsL.toArray v B ∧
      ∀ target, Steps p.tables e below (B.U.setTop { g with pc := g.pc + 3, stack := v.toList ++ rest }) target → Steps p.tables e below (T.setTop g) target) ∨
    (∃ (q : Addr) (vm₁ : Vm) (B : Pt), s.WarmedH vm₁ ∧ Stand p l e R s m args below meth c B.U B.locs B.cells B.slots ∧ PostX ⟨T.setVm vm₁, locs, cells, slots⟩ argsL.toArray q B ∧
      Steps p.tables e below (T.setTop g) ((B.U.setTop { g with stack := rest }).pushFrame (.throwing q))) := by
  obtain ⟨mk, hnamed⟩ := Cond.code_named hcode
  obtain ⟨methM, cM, hmethM, -, -, -, -, -, -, hsigM⟩ := Cond.code_spec hnamed hcode
  have hstatic : methM.isStatic = true := Cond.static_spec hnamed hmethM hstat
  obtain ⟨kP, hkP, -⟩ := className_of_methodNamed hnamed
  have hinitP : kP.init = .initialized := Cond.initialized_spec (findClass_of_methodNamed hnamed) hkP hinit
  obtain ⟨vm₁, X₁, hstep₁⟩ := X.invokestatic hexec hown hlink hnamed hmethM hstatic hkP hinitP hy (g := g) hg (argsL := argsL) (rest := rest) (hlen _ hsigM) hstack hdg
  rcases hK m meth c ⟨T.setVm vm₁, locs, cells, slots⟩ { g with stack := rest } (.invokestatic index) mk argsL.toArray X₁ hg hsize hdg hW (X₁.named hnamed) (hpre vm₁ X₁.warmed) with ⟨v, B, X', hpost, hsteps⟩ | ⟨q, B, X', hpost, hsteps⟩
  · exact Or.inl ⟨v, vm₁, B, X₁.warmed, X', hpost, fun target h => hstep₁ _ fun acts => by rw [doInvoke_state]; exact hsteps.trans h⟩
  · exact Or.inr ⟨q, vm₁, B, X₁.warmed, X', hpost, hstep₁ _ fun acts => by rw [doInvoke_state]; exact hsteps⟩
end Calls
theorem vx_cls {s : State} {T : State} {vm₁ : Vm} {E : String} {k : ClassId} (hW : s.WarmedH vm₁) (h : (T.setVm vm₁).vm.findClass E = some k) : s.vm.findClass E = some k := by
  have h1 : vm₁.findClass E = some k := h
  rw [hW.alike.findClass] at h1
  exact h1
/-- the method's frame g, with q thrown over it -/
def vx_W (p : Program) (l : Launch) (e : Env) (R : Room) (s : State) (m : MethodId) (args : Array Value) (below : List Frame) (meth : Method) (c : Code) (H : Heap) (locs : List Loc) (cells slots : Nat) (Q : State → Prop) (g : JFrame) (q : Addr) : Prop :=
  ∀ T : State, T.heap = H → Stand p l e R s m args below meth c T locs cells slots → ∃ t, Steps p.tables e below ((T.setTop g).pushFrame (.throwing q)) t ∧ Q t
def vx_Run (p : Program) (l : Launch) (e : Env) (R : Room) (s : State) (m : MethodId) (args : Array Value) (below : List Frame) (meth : Method) (c : Code) (H : Heap) (locs : List Loc) (cells slots mc ms : Nat) (g : JFrame) (rest : List Value) (Qa : State → Outcome → State → Prop) (XC : String → State → State → Prop) (free : Addr → Prop) : Prop :=
  ∀ T : State, T.heap = H → Stand p l e R s m args below meth c T locs cells slots →
    (∃ (v : Option Value) (st₀ t T' : State) (L : List Loc), st₀.heap = H ∧ Stand p l e R s m args below meth c T' (locs ++ L) (cells + mc) (slots + ms) ∧ (∀ q ∈ L, free q.base) ∧ T'.heap = t.heap ∧ T'.vm = t.vm ∧ Qa st₀ (.returned v) t ∧
      Goes p e below T g T' { g with pc := g.pc + 3, stack := v.toList ++ rest }) ∨
    (∃ (q : Addr) (st₀ t T' : State) (L : List Loc) (E : String) (ce : Cell), st₀.heap = H ∧ Stand p l e R s m args below meth c T' (locs ++ L) (cells + mc) (slots + ms) ∧ (∀ z ∈ L, free z.base) ∧ T'.heap = t.heap ∧ T'.vm = t.vm ∧ XC E st₀ t ∧ t.heap[q]? = some ce ∧ ce.vm = .none ∧ s.vm.findClass E = some ce.cls ∧
      Steps p.tables e below (T.setTop g) ((T'.setTop { g with stack := rest }).pushFrame (.throwing q)))
def vx_X {S : Type} (px : S → Prop) (B : String → S → State → Prop) (A : Nat → Prop) : String → State → State → Prop := fun E st t => ∃ u : S, px u ∧ B E u t ∧ va_F A st t
section Runs
variable {p : Program} {l : Launch} {e : Env} {R : Room} {s : State} {m : MethodId} {args : Array Value} {below : List Frame} {meth : Method} {c : Code} {H : Heap} {locs : List Loc} {cells slots : Nat}
variable {y : MethodName} {bytes cc : ByteArray} {maxL nL mc ms n index : Nat} {ret : Option FieldType} {ws : List Cond} {rm : Room} {Pc : Array Value → State → Prop} {Qc : Array Value → State → Outcome → State → Prop} {XC : String → State → State → Prop} {free : Addr → Prop} {Ts : List Cond} {own C : String} {b : Addr} {As rest : List Value} {g : JFrame}
theorem vx_callBack (cb : CallB R s args own index y bytes maxL ret ws rm mc ms n) (hM : vx_Met l y ws rm Pc Qc XC mc ms free) (hbl : FrameBlind Pc) : vx_Back l R p e below s args y 3 8 (PreOf R mc ms Pc) (PostOf Qc mc ms free) (vx_Post XC mc ms free) := by
  obtain ⟨hrc, hrs, hfr, hlo, hws, hcw, -, hini, -⟩ := cb
  exact vx_back (bytes := bytes) (maxL := maxL) (ret := ret) hM hbl hrc hrs hfr hlo hws hcw (fun a' U hW => word_at hW (Or.inl (by first | rfl | simp [Cond.onTables, Cond.keeps, Cond.steady])) hini)
theorem vx_runV (S : CallFix p m c cc nL s args Ts own) (hM : vx_Met l y ws rm Pc Qc XC mc ms free) (cw : CallW R s args own C index y bytes maxL ret ws rm mc ms n) (hp : PreV s H C b Pc As)
    (hg : g.method = m) (hn : As.length = n) (hsize : g.locals.size = nL) (hstack : g.stack = As.reverse ++ .ref b :: rest) (hW : 2 * g.monitorRoom + (rest.map fun v => v.category).sum ≤ 8) (hdg : decode cc g.pc = .ok (.invokevirtual index, 3)) (hf : cells + mc ≤ R.cells ∧ slots + ms ≤ R.slots) :
    vx_Run p l e R s m args below meth c H locs cells slots mc ms g rest (Qc (Value.ref b :: As).toArray) XC free := by
  have hK : vx_Back l R p e below s args y 3 8 (PreOf R mc ms Pc) (PostOf Qc mc ms free) (vx_Post XC mc ms free) := vx_callBack cw.1 hM hp.1
  obtain ⟨⟨-, -, -, -, -, -, hcode, -, hy, hlen, hl⟩, hin, hse⟩ := cw
  obtain ⟨hx, hb, hml, ho, -⟩ := S
  obtain ⟨-, ⟨cellB, hcB, hoB, hclB⟩, hPc⟩ := hp
  intro T hT X
  rcases vx_callV X hx (C := C) (bytes := bytes) (maxL := maxL) (ret := ret) ho hl hin hse hcode hy hK (by rw [hT]; exact hcB) hoB hclB hg (hsize.trans hml.symm) (argsL := As) (rest := rest) (fun sig h => hn.trans (hlen sig h)) hstack hW (by rw [hb]; exact hdg)
    (fun vm₁ hW₁ => ⟨hf.1, hf.2, hPc (T.setVm vm₁) hT hW₁⟩) with ⟨v, vm₁, ⟨U', l2, c2, s2⟩, hW₁, X', ⟨g', mk, t, L, e1, e2, hq, h1, hL, h2, h3⟩, st⟩ | ⟨q, vm₁, ⟨U', l2, c2, s2⟩, hW₁, X', ⟨g', mk, t, L, E, ce, e1, e2, hq, hce, hcv, hcl, h1, hL, h2, h3⟩, st⟩
  · dsimp only [Pt.U, Pt.locs, Pt.cells, Pt.slots] at X' e1 e2 h1 h2 h3 st
    subst h1; subst h2; subst h3
    exact Or.inl ⟨v, (T.setVm vm₁).calling g' mk (Value.ref b :: As).toArray, t, U', L, hT, X', hL, e1, e2, hq, st⟩
  · dsimp only [Pt.U, Pt.locs, Pt.cells, Pt.slots] at X' e1 e2 h1 h2 h3 st hcl
    subst h1; subst h2; subst h3
    exact Or.inr ⟨q, (T.setVm vm₁).calling g' mk (Value.ref b :: As).toArray, t, U', L, E, ce, hT, X', hL, e1, e2, hq, hce, hcv, vx_cls hW₁ hcl, st⟩
theorem vx_runS (S : CallFix p m c cc nL s args Ts own) (hM : vx_Met l y ws rm Pc Qc XC mc ms free) (cw : CallB R s args own index y bytes maxL ret ws rm mc ms n ∧ (Cond.static y).before args s = true) (hp : PreS s H Pc As)
    (hg : g.method = m) (hn : As.length = n) (hsize : g.locals.size = nL) (hstack : g.stack = As.reverse ++ rest) (hW : 2 * g.monitorRoom + (rest.map fun v => v.category).sum ≤ 8) (hdg : decode cc g.pc = .ok (.invokestatic index, 3)) (hf : cells + mc ≤ R.cells ∧ slots + ms ≤ R.slots) :
    vx_Run p l e R s m args below meth c H locs cells slots mc ms g rest (Qc As.toArray) XC free := by
  have hK : vx_Back l R p e below s args y 3 8 (PreOf R mc ms Pc) (PostOf Qc mc ms free) (vx_Post XC mc ms free) := vx_callBack cw.1 hM hp.1
  obtain ⟨⟨-, -, -, -, -, -, hcode, hini, hy, hlen, hl⟩, hstt⟩ := cw
  obtain ⟨hx, hb, hml, ho, -⟩ := S
  intro T hT X
  rcases vx_callS X hx (bytes := bytes) (maxL := maxL) (ret := ret) ho hl hstt hini hcode hy hK hg (hsize.trans hml.symm) (argsL := As) (rest := rest) (fun sig h => hn.trans (hlen sig h)) hstack hW (by rw [hb]; exact hdg)
    (fun vm₁ hW₁ => ⟨hf.1, hf.2, hp.2 (T.setVm vm₁) hT hW₁⟩) with ⟨v, vm₁, ⟨U', l2, c2, s2⟩, hW₁, X', ⟨g', mk, t, L, e1, e2, hq, h1, hL, h2, h3⟩, st⟩ | ⟨q, vm₁, ⟨U', l2, c2, s2⟩, hW₁, X', ⟨g', mk, t, L, E, ce, e1, e2, hq, hce, hcv, hcl, h1, hL, h2, h3⟩, st⟩
  · dsimp only [Pt.U, Pt.locs, Pt.cells, Pt.slots] at X' e1 e2 h1 h2 h3 st
    subst h1; subst h2; subst h3
    exact Or.inl ⟨v, (T.setVm vm₁).calling g' mk As.toArray, t, U', L, hT, X', hL, e1, e2, hq, st⟩
  · dsimp only [Pt.U, Pt.locs, Pt.cells, Pt.slots] at X' e1 e2 h1 h2 h3 st hcl
    subst h1; subst h2; subst h3
    exact Or.inr ⟨q, (T.setVm vm₁).calling g' mk As.toArray, t, U', L, E, ce, hT, X', hL, e1, e2, hq, hce, hcv, vx_cls hW₁ hcl, st⟩
end Runs
section Rows
variable {p : Program} {l : Launch} {e : Env} {R : Room} {s : State} {m : MethodId} {args : Array Value} {below : List Frame} {meth : Method} {c : Code} {H : Heap} {locs : List Loc} {cells slots : Nat} {Q : State → Prop}
variable {mc ms : Nat} {free : Addr → Prop} {A0 A1 : Nat → Prop} {H0 : Heap} {a : Array Value} {pc : Nat} {ls : Array Slot} {st0 rest : List Value}
theorem vx_keep {st₀ t T' : State} {L : List Loc} (h0 : st₀.heap = H) (e1 : T'.heap = t.heap) (hS : va_S A0 H0 H locs) (hA : ∀ q, q < H.size → A1 q → A0 q) (hf : ∀ q, free q → A0 q) (hL : ∀ q ∈ L, free q.base) (hF : va_F A1 st₀ t) :
    H.size ≤ T'.heap.size ∧ (∀ q : Nat, q < H.size → ¬ A1 q → T'.heap[q]? = H[q]?) ∧ va_S A0 H0 T'.heap (locs ++ L) := by
  obtain ⟨hz, hk⟩ := hF
  rw [h0] at hz hk
  exact ⟨by rw [e1]; exact hz, fun q h1 h2 => by rw [e1]; exact hk q h1 h2,
    ⟨Nat.le_trans hS.1 (by rw [e1]; exact hz), fun q h1 h2 => by rw [e1, hk q (Nat.lt_of_lt_of_le h1 hS.1) (fun z => h2 (hA q (Nat.lt_of_lt_of_le h1 hS.1) z))]; exact hS.2.1 q h1 h2, fun q hq => by
      rcases List.mem_append.mp hq with h | h
      · exact hS.2.2 q h
      · exact hf _ (hL q h)⟩⟩
theorem vx_calli {S SX : Type} {post : Int32 → S → Prop} {px : SX → Prop} {B : S → State → Prop} {BX : String → SX → State → Prop} {AX : Nat → Prop} (hr : vx_Run p l e R s m args below meth c H locs cells slots mc ms (F0 m pc ls st0) rest (va_Qi post B A1 a) (vx_X px BX AX) free) (hS : va_S A0 H0 H locs) (hA : ∀ q, q < H.size → A1 q → A0 q) (hf : ∀ q, free q → A0 q) (hAX : ∀ q, q < H.size → AX q → A0 q)
    (kx : ∀ (E : String) (ce : Cell) (q9 : Addr) (u : SX) (t : State) (H1 : Heap) (locs1 : List Loc), t.heap = H1 → s.vm.Alike t.vm → px u → BX E u t → H.size ≤ H1.size → (∀ q : Nat, q < H.size → ¬ AX q → H1[q]? = H[q]?) → va_S A0 H0 H1 locs1 → H1[q9]? = some ce → ce.vm = .none → s.vm.findClass E = some ce.cls → vx_W p l e R s m args below meth c H1 locs1 (cells + mc) (slots + ms) Q (F0 m pc ls rest) q9)
    (kk : ∀ (r : Int32) (u : S) (t : State) (H1 : Heap) (locs1 : List Loc), t.heap = H1 → s.vm.Alike t.vm → post r u → B u t → H.size ≤ H1.size → (∀ q : Nat, q < H.size → ¬ A1 q → H1[q]? = H[q]?) → va_S A0 H0 H1 locs1 → W p l e R s m args below meth c H1 locs1 (cells + mc) (slots + ms) Q (F0 m (pc + 3) ls (.int r :: rest))) : W p l e R s m args below meth c H locs cells slots Q (F0 m pc ls st0) := by
  intro T hT X
  rcases hr T hT X with ⟨v, st₀, t, T', L, h0, X', hL, e1, e2, ⟨⟨r, u, hv, hp, hb⟩, hF⟩, st⟩ | ⟨q, st₀, t, T', L, E, ce, h0, X', hL, e1, e2, ⟨u, hp, hb, hF⟩, hce, hcv, hcl, st⟩
  · cases hv
    obtain ⟨k1, k2, k3⟩ := vx_keep h0 e1 hS hA hf hL hF
    obtain ⟨t2, a1, b1⟩ := kk r u t T'.heap (locs ++ L) e1.symm (by rw [← e2]; exact X'.warmed.alike) hp hb k1 k2 k3 T' rfl X'
    exact ⟨t2, st t2 a1, b1⟩
  · obtain ⟨k1, k2, k3⟩ := vx_keep h0 e1 hS hAX hf hL hF
    obtain ⟨t2, a1, b1⟩ := kx E ce q u t T'.heap (locs ++ L) e1.symm (by rw [← e2]; exact X'.warmed.alike) hp hb k1 k2 k3 (by rw [e1]; exact hce) hcv hcl T' rfl X'
    exact ⟨t2, st.trans a1, b1⟩
theorem vx_calll {S SX : Type} {post : Int64 → S → Prop} {px : SX → Prop} {B : S → State → Prop} {BX : String → SX → State → Prop} {AX : Nat → Prop} (hr : vx_Run p l e R s m args below meth c H locs cells slots mc ms (F0 m pc ls st0) rest (va_Ql post B A1 a) (vx_X px BX AX) free) (hS : va_S A0 H0 H locs) (hA : ∀ q, q < H.size → A1 q → A0 q) (hf : ∀ q, free q → A0 q) (hAX : ∀ q, q < H.size → AX q → A0 q)
    (kx : ∀ (E : String) (ce : Cell) (q9 : Addr) (u : SX) (t : State) (H1 : Heap) (locs1 : List Loc), t.heap = H1 → s.vm.Alike t.vm → px u → BX E u t → H.size ≤ H1.size → (∀ q : Nat, q < H.size → ¬ AX q → H1[q]? = H[q]?) → va_S A0 H0 H1 locs1 → H1[q9]? = some ce → ce.vm = .none → s.vm.findClass E = some ce.cls → vx_W p l e R s m args below meth c H1 locs1 (cells + mc) (slots + ms) Q (F0 m pc ls rest) q9)
    (kk : ∀ (r : Int64) (u : S) (t : State) (H1 : Heap) (locs1 : List Loc), t.heap = H1 → s.vm.Alike t.vm → post r u → B u t → H.size ≤ H1.size → (∀ q : Nat, q < H.size → ¬ A1 q → H1[q]? = H[q]?) → va_S A0 H0 H1 locs1 → W p l e R s m args below meth c H1 locs1 (cells + mc) (slots + ms) Q (F0 m (pc + 3) ls (.long r :: rest))) : W p l e R s m args below meth c H locs cells slots Q (F0 m pc ls st0) := by
  intro T hT X
  rcases hr T hT X with ⟨v, st₀, t, T', L, h0, X', hL, e1, e2, ⟨⟨r, u, hv, hp, hb⟩, hF⟩, st⟩ | ⟨q, st₀, t, T', L, E, ce, h0, X', hL, e1, e2, ⟨u, hp, hb, hF⟩, hce, hcv, hcl, st⟩
  · cases hv
    obtain ⟨k1, k2, k3⟩ := vx_keep h0 e1 hS hA hf hL hF
    obtain ⟨t2, a1, b1⟩ := kk r u t T'.heap (locs ++ L) e1.symm (by rw [← e2]; exact X'.warmed.alike) hp hb k1 k2 k3 T' rfl X'
    exact ⟨t2, st t2 a1, b1⟩
  · obtain ⟨k1, k2, k3⟩ := vx_keep h0 e1 hS hAX hf hL hF
    obtain ⟨t2, a1, b1⟩ := kx E ce q u t T'.heap (locs ++ L) e1.symm (by rw [← e2]; exact X'.warmed.alike) hp hb k1 k2 k3 (by rw [e1]; exact hce) hcv hcl T' rfl X'
    exact ⟨t2, st.trans a1, b1⟩
theorem vx_callf {S SX : Type} {post : UInt32 → S → Prop} {px : SX → Prop} {B : S → State → Prop} {BX : String → SX → State → Prop} {AX : Nat → Prop} (hr : vx_Run p l e R s m args below meth c H locs cells slots mc ms (F0 m pc ls st0) rest (va_Qf post B A1 a) (vx_X px BX AX) free) (hS : va_S A0 H0 H locs) (hA : ∀ q, q < H.size → A1 q → A0 q) (hf : ∀ q, free q → A0 q) (hAX : ∀ q, q < H.size → AX q → A0 q)
    (kx : ∀ (E : String) (ce : Cell) (q9 : Addr) (u : SX) (t : State) (H1 : Heap) (locs1 : List Loc), t.heap = H1 → s.vm.Alike t.vm → px u → BX E u t → H.size ≤ H1.size → (∀ q : Nat, q < H.size → ¬ AX q → H1[q]? = H[q]?) → va_S A0 H0 H1 locs1 → H1[q9]? = some ce → ce.vm = .none → s.vm.findClass E = some ce.cls → vx_W p l e R s m args below meth c H1 locs1 (cells + mc) (slots + ms) Q (F0 m pc ls rest) q9)
    (kk : ∀ (r : UInt32) (u : S) (t : State) (H1 : Heap) (locs1 : List Loc), t.heap = H1 → s.vm.Alike t.vm → post r u → B u t → H.size ≤ H1.size → (∀ q : Nat, q < H.size → ¬ A1 q → H1[q]? = H[q]?) → va_S A0 H0 H1 locs1 → W p l e R s m args below meth c H1 locs1 (cells + mc) (slots + ms) Q (F0 m (pc + 3) ls (.float r :: rest))) : W p l e R s m args below meth c H locs cells slots Q (F0 m pc ls st0) := by
  intro T hT X
  rcases hr T hT X with ⟨v, st₀, t, T', L, h0, X', hL, e1, e2, ⟨⟨r, u, hv, hp, hb⟩, hF⟩, st⟩ | ⟨q, st₀, t, T', L, E, ce, h0, X', hL, e1, e2, ⟨u, hp, hb, hF⟩, hce, hcv, hcl, st⟩
  · cases hv
    obtain ⟨k1, k2, k3⟩ := vx_keep h0 e1 hS hA hf hL hF
    obtain ⟨t2, a1, b1⟩ := kk r u t T'.heap (locs ++ L) e1.symm (by rw [← e2]; exact X'.warmed.alike) hp hb k1 k2 k3 T' rfl X'
    exact ⟨t2, st t2 a1, b1⟩
  · obtain ⟨k1, k2, k3⟩ := vx_keep h0 e1 hS hAX hf hL hF
    obtain ⟨t2, a1, b1⟩ := kx E ce q u t T'.heap (locs ++ L) e1.symm (by rw [← e2]; exact X'.warmed.alike) hp hb k1 k2 k3 (by rw [e1]; exact hce) hcv hcl T' rfl X'
    exact ⟨t2, st.trans a1, b1⟩
theorem vx_calld {S SX : Type} {post : UInt64 → S → Prop} {px : SX → Prop} {B : S → State → Prop} {BX : String → SX → State → Prop} {AX : Nat → Prop} (hr : vx_Run p l e R s m args below meth c H locs cells slots mc ms (F0 m pc ls st0) rest (va_Qd post B A1 a) (vx_X px BX AX) free) (hS : va_S A0 H0 H locs) (hA : ∀ q, q < H.size → A1 q → A0 q) (hf : ∀ q, free q → A0 q) (hAX : ∀ q, q < H.size → AX q → A0 q)
    (kx : ∀ (E : String) (ce : Cell) (q9 : Addr) (u : SX) (t : State) (H1 : Heap) (locs1 : List Loc), t.heap = H1 → s.vm.Alike t.vm → px u → BX E u t → H.size ≤ H1.size → (∀ q : Nat, q < H.size → ¬ AX q → H1[q]? = H[q]?) → va_S A0 H0 H1 locs1 → H1[q9]? = some ce → ce.vm = .none → s.vm.findClass E = some ce.cls → vx_W p l e R s m args below meth c H1 locs1 (cells + mc) (slots + ms) Q (F0 m pc ls rest) q9)
    (kk : ∀ (r : UInt64) (u : S) (t : State) (H1 : Heap) (locs1 : List Loc), t.heap = H1 → s.vm.Alike t.vm → post r u → B u t → H.size ≤ H1.size → (∀ q : Nat, q < H.size → ¬ A1 q → H1[q]? = H[q]?) → va_S A0 H0 H1 locs1 → W p l e R s m args below meth c H1 locs1 (cells + mc) (slots + ms) Q (F0 m (pc + 3) ls (.double r :: rest))) : W p l e R s m args below meth c H locs cells slots Q (F0 m pc ls st0) := by
  intro T hT X
  rcases hr T hT X with ⟨v, st₀, t, T', L, h0, X', hL, e1, e2, ⟨⟨r, u, hv, hp, hb⟩, hF⟩, st⟩ | ⟨q, st₀, t, T', L, E, ce, h0, X', hL, e1, e2, ⟨u, hp, hb, hF⟩, hce, hcv, hcl, st⟩
  · cases hv
    obtain ⟨k1, k2, k3⟩ := vx_keep h0 e1 hS hA hf hL hF
    obtain ⟨t2, a1, b1⟩ := kk r u t T'.heap (locs ++ L) e1.symm (by rw [← e2]; exact X'.warmed.alike) hp hb k1 k2 k3 T' rfl X'
    exact ⟨t2, st t2 a1, b1⟩
  · obtain ⟨k1, k2, k3⟩ := vx_keep h0 e1 hS hAX hf hL hF
    obtain ⟨t2, a1, b1⟩ := kx E ce q u t T'.heap (locs ++ L) e1.symm (by rw [← e2]; exact X'.warmed.alike) hp hb k1 k2 k3 (by rw [e1]; exact hce) hcv hcl T' rfl X'
    exact ⟨t2, st.trans a1, b1⟩
theorem vx_callv {S SX : Type} {post : S → Prop} {px : SX → Prop} {B : S → State → Prop} {BX : String → SX → State → Prop} {AX : Nat → Prop} (hr : vx_Run p l e R s m args below meth c H locs cells slots mc ms (F0 m pc ls st0) rest (va_Qv post B A1 a) (vx_X px BX AX) free) (hS : va_S A0 H0 H locs) (hA : ∀ q, q < H.size → A1 q → A0 q) (hf : ∀ q, free q → A0 q) (hAX : ∀ q, q < H.size → AX q → A0 q)
    (kx : ∀ (E : String) (ce : Cell) (q9 : Addr) (u : SX) (t : State) (H1 : Heap) (locs1 : List Loc), t.heap = H1 → s.vm.Alike t.vm → px u → BX E u t → H.size ≤ H1.size → (∀ q : Nat, q < H.size → ¬ AX q → H1[q]? = H[q]?) → va_S A0 H0 H1 locs1 → H1[q9]? = some ce → ce.vm = .none → s.vm.findClass E = some ce.cls → vx_W p l e R s m args below meth c H1 locs1 (cells + mc) (slots + ms) Q (F0 m pc ls rest) q9)
    (kk : ∀ (u : S) (t : State) (H1 : Heap) (locs1 : List Loc), t.heap = H1 → s.vm.Alike t.vm → post u → B u t → H.size ≤ H1.size → (∀ q : Nat, q < H.size → ¬ A1 q → H1[q]? = H[q]?) → va_S A0 H0 H1 locs1 → W p l e R s m args below meth c H1 locs1 (cells + mc) (slots + ms) Q (F0 m (pc + 3) ls (rest))) : W p l e R s m args below meth c H locs cells slots Q (F0 m pc ls st0) := by
  intro T hT X
  rcases hr T hT X with ⟨v, st₀, t, T', L, h0, X', hL, e1, e2, ⟨⟨u, hv, hp, hb⟩, hF⟩, st⟩ | ⟨q, st₀, t, T', L, E, ce, h0, X', hL, e1, e2, ⟨u, hp, hb, hF⟩, hce, hcv, hcl, st⟩
  · cases hv
    obtain ⟨k1, k2, k3⟩ := vx_keep h0 e1 hS hA hf hL hF
    obtain ⟨t2, a1, b1⟩ := kk u t T'.heap (locs ++ L) e1.symm (by rw [← e2]; exact X'.warmed.alike) hp hb k1 k2 k3 T' rfl X'
    exact ⟨t2, st t2 a1, b1⟩
  · obtain ⟨k1, k2, k3⟩ := vx_keep h0 e1 hS hAX hf hL hF
    obtain ⟨t2, a1, b1⟩ := kx E ce q u t T'.heap (locs ++ L) e1.symm (by rw [← e2]; exact X'.warmed.alike) hp hb k1 k2 k3 (by rw [e1]; exact hce) hcv hcl T' rfl X'
    exact ⟨t2, st.trans a1, b1⟩
/-- caught by the row x of this method's table; the rows ahead don't take it -/
theorem vx_catch {own name : String} {E : String} {ce : Cell} {q : Addr} (hown : s.vm.findClass own = some m.cls) (pre : List ExceptionTableEntry) (x : ExceptionTableEntry) (suf : List ExceptionTableEntry) (hsplit : c.exceptionTable.toList = pre ++ x :: suf)
    (hpass : ∀ z ∈ pre, covers z pc = false ∨ (z.catchType ≠ 0 ∧ ∃ nm : String, (Cond.classLink own z.catchType nm).before args s = true ∧ va_Nc E nm s)) (hx : covers x pc = true) (h0 : x.catchType ≠ 0)
    (hlink : (Cond.classLink own x.catchType name).before args s = true) (hcast : (Cond.castable E name).before args s = true) (hcell : H[q]? = some ce) (hv : ce.vm = .none) (hcl : s.vm.findClass E = some ce.cls)
    (kk : W p l e R s m args below meth c H locs cells slots Q (F0 m x.handlerPc ls [.ref q])) : vx_W p l e R s m args below meth c H locs cells slots Q (F0 m pc ls rest) q := by
  intro T hT X
  have hpl : e.platform.magicAccessors = ({} : Platform).magicAccessors := by rw [X.admits.platform]
  obtain ⟨c3, c4, hc3, hc4, hasg⟩ := Cond.castable_spec hcast
  cases Option.some.inj (hc3.symm.trans hcl)
  obtain ⟨c5, hc5, hcl5⟩ := Cond.classLink_spec hown hlink e.platform hpl
  cases Option.some.inj (hc4.symm.trans hc5)
  obtain ⟨vm', X', st⟩ := X.thenCaughtThrough q (g := F0 m pc ls rest) rfl (Steps.refl _) (by rw [hT]; exact hcell) (by rw [hv]; rfl) (by obtain ⟨k9, h9, -⟩ := Vm.findClass_spec hcl; exact ⟨k9, h9⟩) pre x suf hsplit
    (fun z hz => by
      rcases hpass z hz with h | ⟨hz0, nm, hl1, hn1⟩
      · exact Or.inl h
      · obtain ⟨c6, hc6, hcl6⟩ := Cond.classLink_spec hown hl1 e.platform hpl
        obtain ⟨a8, b8, h1, h2, h3⟩ := hn1
        cases Option.some.inj (h1.symm.trans hcl)
        cases Option.some.inj (h2.symm.trans hc6)
        exact Or.inr ⟨hz0, _, hcl6, h3⟩) hx (Or.inr ⟨h0, c4, hcl5, hasg⟩)
  obtain ⟨t, a1, b1⟩ := kk (T.setVm vm') hT X'
  exact ⟨t, st.trans a1, b1⟩
end Rows
section Ends
variable {p : Program} {l : Launch} {e : Env} {R : Room} {s : State} {m : MethodId} {args : Array Value} {below : List Frame} {meth : Method} {c : Code} {H : Heap} {locs : List Loc} {cells slots : Nat} {Q : State → Prop}
variable {mc ms : Nat} {free : Addr → Prop} {A0 A1 : Nat → Prop} {H0 : Heap} {a : Array Value} {ls : Array Slot} {st0 rest : List Value}
variable {Qc : Array Value → State → Outcome → State → Prop} {XC : String → State → State → Prop}
/-- what a body that may throw owes at its end -/
def vx_MQ (below : List Frame) (Qc : Array Value → State → Outcome → State → Prop) (XC : String → State → State → Prop) (a : Array Value) (s : State) (mc ms : Nat) (free : Addr → Prop) : State → Prop := fun t =>
  ∃ o, t.status = .running ∧ Ended t below o ∧ vx_Q Qc XC mc ms free a s o t
theorem vx_ret {g : JFrame} {mc ms : Nat} (k : W p l e R s m args below meth c H locs cells slots (MQ below Qc args s mc ms free) g) : W p l e R s m args below meth c H locs cells slots (vx_MQ below Qc XC args s mc ms free) g := by
  intro T hT X
  obtain ⟨t, a1, o, b1, b2, b3, b4⟩ := k T hT X
  exact ⟨t, a1, o, b1, b2, Or.inl ⟨b3, b4⟩⟩
/-- not caught here: it goes on to the caller -/
theorem vx_widen {g : JFrame} {q : Addr} {k n : Nat} (h1 : cells ≤ k) (h2 : slots ≤ n) (kk : vx_W p l e R s m args below meth c H locs k n Q g q) : vx_W p l e R s m args below meth c H locs cells slots Q g q := fun T hT X => kk T hT (stand_widen X h1 h2)
theorem vx_out {pc : Nat} {E : String} {ce : Cell} {q : Addr} {mc ms : Nat} (hout : ∀ x ∈ c.exceptionTable.toList, covers x pc = false) (hlocks : meth.locks = false) (hcell : H[q]? = some ce) (hv : ce.vm = .none) (hcl : s.vm.findClass E = some ce.cls)
    (hx : ∀ t : State, t.heap = H → s.vm.Alike t.vm → XC E s t) (hf : ∀ z ∈ locs, free z.base) (hc : cells ≤ mc) (hs : slots ≤ ms) :
    vx_W p l e R s m args below meth c H locs cells slots (vx_MQ below Qc XC args s mc ms free) (F0 m pc ls rest) q := by
  intro T hT X
  obtain ⟨st1, hrun, hend, hW, hsm⟩ := X.leaveThrown q (g := F0 m pc ls rest) rfl rfl rfl hout hlocks
  have hcell9 : (T.setFrames (.throwing q :: below)).heap[q]? = some ce := by
    show T.heap[q]? = some ce
    rw [hT]; exact hcell
  exact ⟨_, st1, .threw q, hrun, hend, Or.inr ⟨q, rfl, E, ce, locs, hx _ hT hW.alike, hcell9, hv, hcl, hW, hsm.mono hc hs, hf⟩⟩
theorem vx_frame {U : State} {k n : Nat} (h : s.sameButNew ({ U with vm := s.vm } : State) locs k n) : s.heap.size ≤ U.heap.size ∧ ∀ q : Nat, q < s.heap.size → (∀ z ∈ locs, z.base ≠ q) → U.heap[q]? = s.heap[q]? := by
  obtain ⟨-, h2, -, -, -, h6⟩ := h
  refine ⟨h2, fun q hq hz => ?_⟩
  obtain ⟨c9, e1, e2, e3, e4⟩ := h6 q _ (Array.getElem?_eq_getElem hq)
  have hs : c9.slots = (s.heap[q]).slots := Array.ext_getElem? fun i => e4 i fun hm => hz _ hm rfl
  have h9 : c9 = s.heap[q] := by
    rw [hs] at e2
    exact e2
  have e5 : U.heap[q]? = some c9 := e1
  rw [e5, h9, Array.getElem?_eq_getElem hq]
/-- the words of a throw but the four that speak of the heap -/
def vx_no (w : Cond) : Bool := decide (w ≠ .isRef (.static Bundle.tN "UNASSIGNED_STACK" Bundle.steD)) && decide (w ≠ .isRef (.static Bundle.tN "SUPPRESSED_SENTINEL" Bundle.listD)) && decide (w ≠ .laysStatic Bundle.tN "UNASSIGNED_STACK" Bundle.steD) && decide (w ≠ .laysStatic Bundle.tN "SUPPRESSED_SENTINEL" Bundle.listD)
def vx_at0 (own : String) (ic : Nat) (X : String) (names : List String) : List Cond := (Bundle.ownAtoms0 own ic X names).filter vx_no
def vx_atS (own : String) (ic : Nat) (X : String) (names : List String) : List Cond := (Bundle.ownAtoms own ic X names).filter vx_no
/-- a word that the tables alone decide, or a good one -/
def vx_ot (w : Cond) : Bool := w.onTables || goodWord w
theorem vx_ot_at {args a' : Array Value} {s U : State} {w : Cond} (hW : s.WarmedH U.vm) (hvm : s.vm = U.vm) (hg : vx_ot w = true) (h : w.before args s = true) : w.before a' U = true := by
  simp only [vx_ot, Bool.or_eq_true] at hg
  rcases hg with hg | hg
  · exact va_tabs hg hvm h
  · exact word_at hW (good_of_word hg) h
/-- a list's words: the good ones out of the method's own list, the others by premises of their own -/
theorem vx_hat {args : Array Value} {s : State} {L B : List Cond} (h1 : ∀ w ∈ L.filter goodWord, w.before args s = true) (h2 : ∀ w ∈ L.filter (fun w => !goodWord w), w ∈ B) (h3 : ∀ w ∈ B, w.before args s = true) : ∀ w ∈ L, w.before args s = true := by
  intro w hw
  by_cases g : goodWord w = true
  · exact h1 w (List.mem_filter.mpr ⟨hw, g⟩)
  · refine h3 w (h2 w (List.mem_filter.mpr ⟨hw, ?_⟩))
    show (!goodWord w) = true
    cases hgw : goodWord w
    · rfl
    · exact absurd hgw g
theorem vx_c {args : Array Value} {s : State} {w : Cond} {B : List Cond} (h : w.before args s = true) (t : ∀ w ∈ B, w.before args s = true) : ∀ w' ∈ w :: B, w'.before args s = true := fun w' h' => (List.mem_cons.mp h').elim (fun e => by rw [e]; exact h) (t w')
theorem vx_n {args : Array Value} {s : State} : ∀ w ∈ ([] : List Cond), w.before args s = true := fun _ h => nomatch h
theorem vx_own {args : Array Value} {s : State} {L : List Cond} (h1 : ∀ w ∈ L.filter vx_no, w.before args s = true)
    (hU : (Cond.isRef (.static Bundle.tN "UNASSIGNED_STACK" Bundle.steD)).before args s = true) (hN : (Cond.isRef (.static Bundle.tN "SUPPRESSED_SENTINEL" Bundle.listD)).before args s = true)
    (lU : (Cond.laysStatic Bundle.tN "UNASSIGNED_STACK" Bundle.steD).before args s = true) (lN : (Cond.laysStatic Bundle.tN "SUPPRESSED_SENTINEL" Bundle.listD).before args s = true) : ∀ w ∈ L, w.before args s = true := by
  intro w hw
  by_cases e1 : w = .isRef (.static Bundle.tN "UNASSIGNED_STACK" Bundle.steD)
  · rw [e1]; exact hU
  · by_cases e2 : w = .isRef (.static Bundle.tN "SUPPRESSED_SENTINEL" Bundle.listD)
    · rw [e2]; exact hN
    · by_cases e3 : w = .laysStatic Bundle.tN "UNASSIGNED_STACK" Bundle.steD
      · rw [e3]; exact lU
      · by_cases e4 : w = .laysStatic Bundle.tN "SUPPRESSED_SENTINEL" Bundle.listD
        · rw [e4]; exact lN
        · exact h1 w (List.mem_filter.mpr ⟨hw, by unfold vx_no; rw [decide_eq_true e1, decide_eq_true e2, decide_eq_true e3, decide_eq_true e4]; rfl⟩)
/-- where a static field lies, its class's statics cell in H -/
def vx_L (C n d : String) (A : Nat → Prop) (U : State) (H : Heap) : Prop := ∃ (c : ClassId) (k : Class) (i : Nat) (f : Field) (a : Nat) (cell : Cell), U.vm.findClass C = some c ∧ U.fieldFound? C n d = some (c, k, i, f) ∧ f.isStatic = true ∧ k.statics = some a ∧ H[a]? = some cell ∧ cell.vm.isStatics = true ∧ cell.cls = c ∧ f.slot < cell.slots.size ∧ k.staticTypes[f.slot]? = some f.type ∧ ¬ A a
theorem vx_L.moved {C n d : String} {A : Nat → Prop} {u U : State} {H : Heap} (hvm : u.vm.Alike U.vm) (h : vx_L C n d A u H) : vx_L C n d A U H := by
  obtain ⟨c, k, i, f, a, cell, h1, h2, h3, h4, h5, h6, h7, h8, h9, h10⟩ := h
  obtain ⟨k', hi', he⟩ := State.fieldFound?_setVm hvm h2
  exact ⟨c, k', i, f, a, cell, by rw [hvm.findClass]; exact h1, hi', h3, by rw [he]; exact h4, h5, h6, h7, h8, by rw [he]; exact h9, h10⟩
theorem vx_L.kept {C n d : String} {A : Nat → Prop} {U : State} {H H1 : Heap} (h : vx_L C n d A U H) (hq : ∀ a : Nat, a < H.size → ¬ A a → H1[a]? = H[a]?) : vx_L C n d A U H1 := by
  obtain ⟨c, k, i, f, a, cell, h1, h2, h3, h4, h5, h6, h7, h8, h9, h10⟩ := h
  exact ⟨c, k, i, f, a, cell, h1, h2, h3, h4, by rw [hq a (Array.getElem?_eq_some_iff.mp h5).1 h10]; exact h5, h6, h7, h8, h9, h10⟩
theorem vx_L.narrow {C n d : String} {A B : Nat → Prop} {U : State} {H : Heap} (h : vx_L C n d A U H) (hAB : ∀ q, B q → A q) : vx_L C n d B U H := by
  obtain ⟨c, k, i, f, a, cell, h1, h2, h3, h4, h5, h6, h7, h8, h9, h10⟩ := h
  exact ⟨c, k, i, f, a, cell, h1, h2, h3, h4, h5, h6, h7, h8, h9, fun z => h10 (hAB _ z)⟩
theorem vx_L.word {C n d : String} {A : Nat → Prop} {s : State} {args : Array Value} (h : vx_L C n d A s s.heap) : (Cond.laysStatic C n d).before args s = true := by
  obtain ⟨c, k, i, f, a, cell, h1, h2, h3, h4, h5, h6, h7, h8, h9, -⟩ := h
  show (Cond.laysStatic C n d).holds args s none s [] = true
  exact Cond.laysStatic_of h1 h2 h3 h4 h5 h6 h7 h8 h9
/-- .. and what it holds: null or some reference -/
def vx_Zq (C n d : String) (A : Nat → Prop) (U : State) (H : Heap) : Prop := va_Zq C n d A U H ∧ vx_L C n d A U H
theorem vx_Zq.moved {C n d : String} {A : Nat → Prop} {u U : State} {H : Heap} (hvm : u.vm.Alike U.vm) (h : vx_Zq C n d A u H) : vx_Zq C n d A U H := ⟨va_Zq.moved hvm h.1, vx_L.moved hvm h.2⟩
theorem vx_Zq.kept {C n d : String} {A : Nat → Prop} {U : State} {H H1 : Heap} (h : vx_Zq C n d A U H) (hq : ∀ a : Nat, a < H.size → ¬ A a → H1[a]? = H[a]?) : vx_Zq C n d A U H1 := ⟨va_Zq.kept h.1 hq, vx_L.kept h.2 hq⟩
theorem vx_Zq.narrow {C n d : String} {A B : Nat → Prop} {U : State} {H : Heap} (h : vx_Zq C n d A U H) (hAB : ∀ q, B q → A q) : vx_Zq C n d B U H := ⟨va_Zq.narrow h.1 hAB, vx_L.narrow h.2 hAB⟩
theorem vx_Zqof {args : Array Value} {s : State} {C n d : String} {A : Nat → Prop} (hl : (Cond.laysStatic C n d).before args s = true) (hini : (Cond.initialized C).before args s = true) (h : (Cond.isRef (.static C n d)).before args s = true) (hA : ∀ a : Nat, a < s.heap.size → ¬ A a) : vx_Zq C n d A s s.heap := by
  refine ⟨va_Zqof hl hini h hA, ?_⟩
  obtain ⟨c, k, i, f, a, cell, h1, h2, h3, h4, h5, h6, h7, h8, h9⟩ := Cond.laysStatic_spec hl
  exact ⟨c, k, i, f, a, cell, h1, h2, h3, h4, h5, h6, h7, h8, h9, hA a (Array.getElem?_eq_some_iff.mp h5).1⟩
theorem vx_isRef {C n d : String} {v : Value} {A : Nat → Prop} {s : State} {args : Array Value} (h : va_Z C n d v A s s.heap) (hv : v.isRef = true) : (Cond.isRef (.static C n d)).before args s = true := by
  obtain ⟨cf, kf, fi, f, a, cell, h1, h2, h3, h4, h5, h6, h7, -⟩ := h
  have he : (Term.static C n d).eval args s none [] s = some v := by
    simp [Term.eval, State.fieldNamed?, h1, h2, h4, h5, h6, h7]
  simp only [Cond.before, Cond.holds, Cond.value, he]
  cases v <;> simp_all [Value.isRef]
theorem vx_isRefq {C n d : String} {A : Nat → Prop} {s : State} {args : Array Value} (h : va_Zq C n d A s s.heap) : (Cond.isRef (.static C n d)).before args s = true := by
  rcases h with h | ⟨t, h⟩
  · exact vx_isRef h rfl
  · exact vx_isRef h rfl
/-- the same frame, seen from here: as if the method were called anew in this heap -/
theorem vx_rebase {T : State} (X : Stand p l e R s m args below meth c T locs cells slots) {R' : Room} (hf : R'.frames ≤ R.frames) (hl : R'.locals ≤ R.locals) (hc : cells + R'.cells ≤ R.cells) (hs : slots + R'.slots ≤ R.slots) :
    Stand p l e R' ((T.setVm s.vm).setFrames (.invoking m args :: below)) m args below meth c T [] 0 0 := by
  have htop : (T.setVm s.vm).topJava?.isSome := X.here.top
  have hF : ((T.setVm s.vm).setFrames (.invoking m args :: below)).frames = .invoking m args :: below := State.frames_setFrames _ (State.cur_lt_of_top htop)
  obtain ⟨g₀, hg0⟩ := Option.isSome_iff_exists.mp htop
  obtain ⟨r, hr⟩ := State.topJava?_eq_some.mp hg0
  have hl9 : e.platform.stackLimits (T.setVm s.vm).me = e.platform.stackLimits s.me := X.limits
  have hb9 : (T.setVm s.vm).me.stackBytes = s.me.stackBytes := X.bytes
  refine ⟨X.admits, X.cas, X.clock, hF, ?_, X.hears, X.method, X.code, X.here, X.tail, X.warmed, ?_, ?_, ?_⟩
  · have h := X.room
    have hU : ((T.setVm s.vm).setFrames (.invoking m args :: below)).localsInUse = s.localsInUse := by
      rw [State.localsInUse_invoking hF (meth := meth) (c := c) X.method X.code, State.localsInUse_invoking X.frames X.method X.code]
    simp only [State.hasRoom, Bool.and_eq_true, decide_eq_true_eq] at h ⊢
    obtain ⟨⟨⟨⟨h1, h2, h3, h4, h5, h6⟩, h7⟩, h8⟩, h9⟩ := h
    rw [X.frames, List.length_cons] at h2 h3
    have q1 := X.heapSize
    have q2 := X.used
    simp only [hF, hU, List.length_cons, State.stackLimits_setFrames, State.stackBytes_setFrames, hl9, hb9]
    refine ⟨⟨⟨⟨by omega, by omega, by omega, by omega, by omega, h6⟩, ?_⟩, ?_⟩, X.book⟩
    · show T.heap.size + R'.cells ≤ e.platform.maxCells
      omega
    · show T.slotsUsed + R'.slots ≤ e.platform.maxSlots
      omega
  · rw [State.stackLimits_setFrames]; rfl
  · rw [State.stackBytes_setFrames]; rfl
  · refine ⟨?_, Nat.le_refl _, Nat.le_refl _, ?_, ?_, fun a c9 h9 => ⟨c9, h9, rfl, rfl, fun _ _ => rfl⟩⟩
    · obtain ⟨t, ht, -⟩ := State.frames_cons hr
      show T.setVm s.vm = { ((T.setVm s.vm).setFrames (.invoking m args :: below)).setFrames (T.setVm s.vm).frames with heap := T.heap, slotsUsed := T.slotsUsed }
      rw [State.setFrames_setFrames, State.setFrames_self ht]
      rfl
    · show T.slotsUsed = T.slotsUsed + ((T.heap.toList.drop T.heap.size).map (·.slots.size)).sum
      rw [List.drop_eq_nil_of_le (Nat.le_of_eq Array.length_toList)]
      rfl
    · show ((T.heap.toList.drop T.heap.size).map (·.slots.size)).sum ≤ 0
      rw [List.drop_eq_nil_of_le (Nat.le_of_eq Array.length_toList)]
      exact Nat.le_refl _
/-- 'throw new E()': new; dup; invokespecial; athrow -/
theorem vx_throw0 {cc : ByteArray} {pc : Nat} (hexec : p.tables.exec = Jvm.exec) (hb : c.code = cc) (hl : l.stackTraces = false) {own cls : String} {names : List String} {ik ic mc ms : Nat} {A : Nat → Prop}
    (hown : s.vm.findClass own = some m.cls) (hcls : Bundle.fit cls = true) (hnames : ∀ n ∈ names, Bundle.fit n = true)
    (hk : (Cond.classLink own ik cls).before args s = true) (hini : (Cond.initialized cls).before args s = true) (hat : ∀ w ∈ vx_at0 own ic cls names, w.before args s = true)
    (hgood : ∀ w ∈ Cond.classLink own ik cls :: Cond.initialized cls :: vx_at0 own ic cls names, vx_ot w = true)
    (hU : vx_Zq Bundle.tN "UNASSIGNED_STACK" Bundle.steD A s s.heap) (hN : vx_Zq Bundle.tN "SUPPRESSED_SENTINEL" Bundle.listD A s s.heap) (hS : va_S A s.heap H locs) (hsize : ls.size = c.maxLocals)
    (d0 : decode cc pc = .ok (.new ik, 3)) (d3 : decode cc (pc + 3) = .ok (.dup, 1)) (d4 : decode cc (pc + 4) = .ok (.invokespecial ic, 3)) (d7 : decode cc (pc + 7) = .ok (.athrow, 1))
    (hout : ∀ x ∈ c.exceptionTable.toList, covers x (pc + 7) = false)
    (hRframes : names.length + 3 < R.frames) (hRlocals : (rest.map fun v => v.category).sum + (13 * (names.length + 1) + 42) ≤ R.locals) (hRcells : cells + 1 ≤ R.cells) (hRslots : slots + 6 ≤ R.slots) (hlocks : meth.locks = false)
    (hx : ∀ t : State, s.vm.Alike t.vm → H.size ≤ t.heap.size → (∀ q : Nat, q < H.size → t.heap[q]? = H[q]?) → XC cls s t)
    (hf : ∀ z ∈ locs, free z.base) (hc : cells + 1 ≤ mc) (hs : slots + 6 ≤ ms) :
    W p l e R s m args below meth c H locs cells slots (vx_MQ below Qc XC args s mc ms free) (F0 m pc ls rest) := by
  intro T hT X
  have htr : e.platform.stackTraces = false := (show e.platform.stackTraces = l.stackTraces by rw [X.admits.platform]).trans hl
  have Y := vx_rebase X (R' := { frames := R.frames, locals := R.locals, cells := 1, slots := 6 }) (Nat.le_refl _) (Nat.le_refl _) hRcells hRslots
  obtain ⟨s', hA⟩ : ∃ z, z = (T.setVm s.vm).setFrames (.invoking m args :: below) := ⟨_, rfl⟩
  rw [← hA] at Y
  have hvm : s'.vm = s.vm := by rw [hA]; rfl
  have hhp : s'.heap = H := by rw [hA]; exact hT
  have hW0 : s.WarmedH s'.vm := by rw [hvm]; exact State.WarmedH.refl s
  have hat' : ∀ w ∈ vx_at0 own ic cls names, w.before args s' = true := fun w hw => vx_ot_at hW0 hvm.symm (hgood w (List.mem_cons_of_mem _ (List.mem_cons_of_mem _ hw))) (hat w hw)
  have hk' : (Cond.classLink own ik cls).before args s' = true := vx_ot_at hW0 hvm.symm (hgood _ List.mem_cons_self) hk
  have hini' : (Cond.initialized cls).before args s' = true := vx_ot_at hW0 hvm.symm (hgood _ (List.mem_cons_of_mem _ List.mem_cons_self)) hini
  have hU' : vx_Zq Bundle.tN "UNASSIGNED_STACK" Bundle.steD A s' s'.heap := by rw [hhp]; exact vx_Zq.moved hW0.alike (hU.kept hS.2.1)
  have hN' : vx_Zq Bundle.tN "SUPPRESSED_SENTINEL" Bundle.listD A s' s'.heap := by rw [hhp]; exact vx_Zq.moved hW0.alike (hN.kept hS.2.1)
  have h : ∀ w ∈ Bundle.ownAtoms0 own ic cls names, w.before args s' = true := vx_own hat' (vx_isRefq hU'.1) (vx_isRefq hN'.1) hU'.2.word hN'.2.word
  have hown' : s'.vm.findClass own = some m.cls := by rw [hvm]; exact hown
  have hins : (Cond.instantiable cls 6).before args s' = true := h _ (by simp [Bundle.ownAtoms0])
  obtain ⟨vm₁, cX, kX, hfX, hkX, -, -, X₁, st1⟩ := Y.newCold hexec (own := own) (C := cls) (index := ik) (n := 6) hown' hk' hins hini'
    (g := F0 m pc ls rest) rfl (by rw [hb]; exact d0) (Nat.le_refl _) (Nat.le_refl _)
  generalize hT1 : (T.setVm vm₁).pushCell { cls := cX, slots := kX.instanceTypes.map defaultValue, vm := .none } = T1 at X₁ st1
  have hcat : (Value.ref T.heap.size).category = 1 := rfl
  have hcellA : T1.heap[T.heap.size]? = some (freshCell cX kX) := by rw [← hT1]; exact State.heap_pushCell_size _ _
  have d3' : decode c.code (pc + 3) = .ok (.dup, 1) := by rw [hb]; exact d3
  obtain ⟨U, hsteps, hrun, hend, hW, hsame, ce, hce, hO⟩ := X₁.ctorThrow0 hexec htr (own := own) (cls := cls) (names := names) (ic := ic) hown' hcls hnames h (fun x hx => nomatch hx) hfX hkX hcellA (by rw [hhp, hT]; exact Nat.le_refl _)
    (g := { method := m, pc := pc + 4, locals := ls, stack := .ref T.heap.size :: .ref T.heap.size :: rest, locked := none }) rfl hsize rfl rfl (rest := rest) rfl
    (by rw [hb]; exact d4) (by rw [hb]; exact d7) hout hRframes (by simp only [List.map_cons, List.sum_cons, hcat]; omega) hlocks
  obtain ⟨f1, f2⟩ := vx_frame hsame
  rw [hhp] at f1 f2
  have hWs : s.WarmedH U.vm := State.WarmedH.trans hW0 hW
  have hcl : s.vm.findClass cls = some ce.cls := by
    have h9 := hO.cls
    rw [hvm] at h9
    exact h9
  have hall : s.sameButNew ({ U with vm := s.vm } : State) locs mc ms := by
    subst hA
    obtain ⟨e1, e2⟩ := hsame
    rw [State.setFrames_setFrames] at e1
    have h2 : (T.setVm s.vm).sameButNew ({ U with vm := s.vm } : State) [] (0 + 1) (0 + 6) := ⟨e1, e2⟩
    have h3 := X.same.trans h2
    rw [List.append_nil] at h3
    exact h3.mono hc hs
  refine ⟨U, ?_, .threw T.heap.size, hrun, hend, Or.inr ⟨T.heap.size, rfl, cls, ce, locs, hx U hWs.alike f1 (fun q hq => f2 q hq (fun z hz => nomatch hz)), hce, hO.vm, hcl, hWs, hall, hf⟩⟩
  refine st1 _ ?_
  show Steps p.tables e below (T1.setTop { method := m, pc := pc + 3, locals := ls, stack := .ref T.heap.size :: rest, locked := none }) _
  jvm_step X₁.here [X₁.here.top, hexec, d3', Value.category]
  exact hsteps
/-- 'throw new E("text")': new; dup; ldc; invokespecial; athrow -/
theorem vx_throwS {cc : ByteArray} {pc : Nat} (hexec : p.tables.exec = Jvm.exec) (hb : c.code = cc) (hl : l.stackTraces = false) {own cls text : String} {names : List String} {ik is ic mc ms sa : Nat} {A : Nat → Prop}
    (hown : s.vm.findClass own = some m.cls) (hcls : Bundle.fit cls = true) (hnames : ∀ n ∈ names, Bundle.fit n = true)
    (hk : (Cond.classLink own ik cls).before args s = true) (hini : (Cond.initialized cls).before args s = true) (hstr : vk_R own is text sa s) (hat : ∀ w ∈ vx_atS own ic cls names, w.before args s = true)
    (hgood : ∀ w ∈ Cond.classLink own ik cls :: Cond.initialized cls :: vx_atS own ic cls names, vx_ot w = true)
    (hU : vx_Zq Bundle.tN "UNASSIGNED_STACK" Bundle.steD A s s.heap) (hN : vx_Zq Bundle.tN "SUPPRESSED_SENTINEL" Bundle.listD A s s.heap) (hS : va_S A s.heap H locs) (hsize : ls.size = c.maxLocals)
    (d0 : decode cc pc = .ok (.new ik, 3)) (d3 : decode cc (pc + 3) = .ok (.dup, 1)) (d4 : decode cc (pc + 4) = .ok (.ldc is, 2)) (d6 : decode cc (pc + 6) = .ok (.invokespecial ic, 3)) (d9 : decode cc (pc + 9) = .ok (.athrow, 1))
    (hout : ∀ x ∈ c.exceptionTable.toList, covers x (pc + 9) = false)
    (hRframes : names.length + 3 < R.frames) (hRlocals : (rest.map fun v => v.category).sum + (13 * (names.length + 1) + 43) ≤ R.locals) (hRcells : cells + 1 ≤ R.cells) (hRslots : slots + 6 ≤ R.slots) (hlocks : meth.locks = false)
    (hx : ∀ t : State, s.vm.Alike t.vm → H.size ≤ t.heap.size → (∀ q : Nat, q < H.size → t.heap[q]? = H[q]?) → XC cls s t)
    (hf : ∀ z ∈ locs, free z.base) (hc : cells + 1 ≤ mc) (hs : slots + 6 ≤ ms) :
    W p l e R s m args below meth c H locs cells slots (vx_MQ below Qc XC args s mc ms free) (F0 m pc ls rest) := by
  intro T hT X
  have htr : e.platform.stackTraces = false := (show e.platform.stackTraces = l.stackTraces by rw [X.admits.platform]).trans hl
  have Y := vx_rebase X (R' := { frames := R.frames, locals := R.locals, cells := 1, slots := 6 }) (Nat.le_refl _) (Nat.le_refl _) hRcells hRslots
  obtain ⟨s', hA⟩ : ∃ z, z = (T.setVm s.vm).setFrames (.invoking m args :: below) := ⟨_, rfl⟩
  rw [← hA] at Y
  have hvm : s'.vm = s.vm := by rw [hA]; rfl
  have hhp : s'.heap = H := by rw [hA]; exact hT
  have hW0 : s.WarmedH s'.vm := by rw [hvm]; exact State.WarmedH.refl s
  have hat' : ∀ w ∈ vx_atS own ic cls names, w.before args s' = true := fun w hw => vx_ot_at hW0 hvm.symm (hgood w (List.mem_cons_of_mem _ (List.mem_cons_of_mem _ hw))) (hat w hw)
  have hk' : (Cond.classLink own ik cls).before args s' = true := vx_ot_at hW0 hvm.symm (hgood _ List.mem_cons_self) hk
  have hini' : (Cond.initialized cls).before args s' = true := vx_ot_at hW0 hvm.symm (hgood _ (List.mem_cons_of_mem _ List.mem_cons_self)) hini
  have hU' : vx_Zq Bundle.tN "UNASSIGNED_STACK" Bundle.steD A s' s'.heap := by rw [hhp]; exact vx_Zq.moved hW0.alike (hU.kept hS.2.1)
  have hN' : vx_Zq Bundle.tN "SUPPRESSED_SENTINEL" Bundle.listD A s' s'.heap := by rw [hhp]; exact vx_Zq.moved hW0.alike (hN.kept hS.2.1)
  have h : ∀ w ∈ Bundle.ownAtoms own ic cls names, w.before args s' = true := vx_own hat' (vx_isRefq hU'.1) (vx_isRefq hN'.1) hU'.2.word hN'.2.word
  have hown' : s'.vm.findClass own = some m.cls := by rw [hvm]; exact hown
  have hins : (Cond.instantiable cls 6).before args s' = true := h _ (by simp [Bundle.ownAtoms])
  obtain ⟨vm₁, cX, kX, hfX, hkX, -, -, X₁, st1⟩ := Y.newCold hexec (own := own) (C := cls) (index := ik) (n := 6) hown' hk' hins hini'
    (g := F0 m pc ls rest) rfl (by rw [hb]; exact d0) (Nat.le_refl _) (Nat.le_refl _)
  generalize hT1 : (T.setVm vm₁).pushCell { cls := cX, slots := kX.instanceTypes.map defaultValue, vm := .none } = T1 at X₁ st1
  have hcat : (Value.ref T.heap.size).category = 1 := rfl
  have hcellA : T1.heap[T.heap.size]? = some (freshCell cX kX) := by rw [← hT1]; exact State.heap_pushCell_size _ _
  have d3' : decode c.code (pc + 3) = .ok (.dup, 1) := by rw [hb]; exact d3
  have d4' : decode c.code (pc + 4) = .ok (.ldc is, 2) := by rw [hb]; exact d4
  have hstr' : vk_R own is text sa s' := vk_R.warm hW0 hstr
  obtain ⟨U, hsteps, hrun, hend, hW, hsame, ce, hce, hO⟩ := X₁.ctorThrowS hexec htr (own := own) (cls := cls) (names := names) (ic := ic) hown' hcls hnames h (fun x hx => nomatch hx) hfX hkX hcellA (by rw [hhp, hT]; exact Nat.le_refl _) (msg := .ref sa) rfl
    (g := { method := m, pc := pc + 6, locals := ls, stack := .ref sa :: .ref T.heap.size :: .ref T.heap.size :: rest, locked := none }) rfl hsize rfl rfl (rest := rest) rfl
    (by rw [hb]; exact d6) (by rw [hb]; exact d9) hout hRframes (by simp only [List.map_cons, List.sum_cons, hcat]; omega) hlocks
  obtain ⟨f1, f2⟩ := vx_frame hsame
  rw [hhp] at f1 f2
  have hWs : s.WarmedH U.vm := State.WarmedH.trans hW0 hW
  have hcl : s.vm.findClass cls = some ce.cls := by
    have h9 := hO.cls
    rw [hvm] at h9
    exact h9
  have hall : s.sameButNew ({ U with vm := s.vm } : State) locs mc ms := by
    subst hA
    obtain ⟨e1, e2⟩ := hsame
    rw [State.setFrames_setFrames] at e1
    have h2 : (T.setVm s.vm).sameButNew ({ U with vm := s.vm } : State) [] (0 + 1) (0 + 6) := ⟨e1, e2⟩
    have h3 := X.same.trans h2
    rw [List.append_nil] at h3
    exact h3.mono hc hs
  refine ⟨U, ?_, .threw T.heap.size, hrun, hend, Or.inr ⟨T.heap.size, rfl, cls, ce, locs, hx U hWs.alike f1 (fun q hq => f2 q hq (fun z hz => nomatch hz)), hce, hO.vm, hcl, hWs, hall, hf⟩⟩
  refine st1 _ ?_
  show Steps p.tables e below (T1.setTop { method := m, pc := pc + 3, locals := ls, stack := .ref T.heap.size :: rest, locked := none }) _
  jvm_step X₁.here [X₁.here.top, hexec, d3', Value.category]
  exact X₁.ldcString hexec (own := own) (text := text) (index := is) (a := sa) hown' hstr'.1 hstr'.2
    (g := { method := m, pc := pc + 4, locals := ls, stack := .ref T.heap.size :: .ref T.heap.size :: rest, locked := none }) rfl d4' _ hsteps
/-- 'throw new E("text")', the text by a wide index -/
theorem vx_throwSW {cc : ByteArray} {pc : Nat} (hexec : p.tables.exec = Jvm.exec) (hb : c.code = cc) (hl : l.stackTraces = false) {own cls text : String} {names : List String} {ik is ic mc ms sa : Nat} {A : Nat → Prop}
    (hown : s.vm.findClass own = some m.cls) (hcls : Bundle.fit cls = true) (hnames : ∀ n ∈ names, Bundle.fit n = true)
    (hk : (Cond.classLink own ik cls).before args s = true) (hini : (Cond.initialized cls).before args s = true) (hstr : vk_R own is text sa s) (hat : ∀ w ∈ vx_atS own ic cls names, w.before args s = true)
    (hgood : ∀ w ∈ Cond.classLink own ik cls :: Cond.initialized cls :: vx_atS own ic cls names, vx_ot w = true)
    (hU : vx_Zq Bundle.tN "UNASSIGNED_STACK" Bundle.steD A s s.heap) (hN : vx_Zq Bundle.tN "SUPPRESSED_SENTINEL" Bundle.listD A s s.heap) (hS : va_S A s.heap H locs) (hsize : ls.size = c.maxLocals)
    (d0 : decode cc pc = .ok (.new ik, 3)) (d3 : decode cc (pc + 3) = .ok (.dup, 1)) (d4 : decode cc (pc + 4) = .ok (.ldc_w is, 3)) (d7 : decode cc (pc + 7) = .ok (.invokespecial ic, 3)) (d10 : decode cc (pc + 10) = .ok (.athrow, 1))
    (hout : ∀ x ∈ c.exceptionTable.toList, covers x (pc + 10) = false)
    (hRframes : names.length + 3 < R.frames) (hRlocals : (rest.map fun v => v.category).sum + (13 * (names.length + 1) + 43) ≤ R.locals) (hRcells : cells + 1 ≤ R.cells) (hRslots : slots + 6 ≤ R.slots) (hlocks : meth.locks = false)
    (hx : ∀ t : State, s.vm.Alike t.vm → H.size ≤ t.heap.size → (∀ q : Nat, q < H.size → t.heap[q]? = H[q]?) → XC cls s t)
    (hf : ∀ z ∈ locs, free z.base) (hc : cells + 1 ≤ mc) (hs : slots + 6 ≤ ms) :
    W p l e R s m args below meth c H locs cells slots (vx_MQ below Qc XC args s mc ms free) (F0 m pc ls rest) := by
  intro T hT X
  have htr : e.platform.stackTraces = false := (show e.platform.stackTraces = l.stackTraces by rw [X.admits.platform]).trans hl
  have Y := vx_rebase X (R' := { frames := R.frames, locals := R.locals, cells := 1, slots := 6 }) (Nat.le_refl _) (Nat.le_refl _) hRcells hRslots
  obtain ⟨s', hA⟩ : ∃ z, z = (T.setVm s.vm).setFrames (.invoking m args :: below) := ⟨_, rfl⟩
  rw [← hA] at Y
  have hvm : s'.vm = s.vm := by rw [hA]; rfl
  have hhp : s'.heap = H := by rw [hA]; exact hT
  have hW0 : s.WarmedH s'.vm := by rw [hvm]; exact State.WarmedH.refl s
  have hat' : ∀ w ∈ vx_atS own ic cls names, w.before args s' = true := fun w hw => vx_ot_at hW0 hvm.symm (hgood w (List.mem_cons_of_mem _ (List.mem_cons_of_mem _ hw))) (hat w hw)
  have hk' : (Cond.classLink own ik cls).before args s' = true := vx_ot_at hW0 hvm.symm (hgood _ List.mem_cons_self) hk
  have hini' : (Cond.initialized cls).before args s' = true := vx_ot_at hW0 hvm.symm (hgood _ (List.mem_cons_of_mem _ List.mem_cons_self)) hini
  have hU' : vx_Zq Bundle.tN "UNASSIGNED_STACK" Bundle.steD A s' s'.heap := by rw [hhp]; exact vx_Zq.moved hW0.alike (hU.kept hS.2.1)
  have hN' : vx_Zq Bundle.tN "SUPPRESSED_SENTINEL" Bundle.listD A s' s'.heap := by rw [hhp]; exact vx_Zq.moved hW0.alike (hN.kept hS.2.1)
  have h : ∀ w ∈ Bundle.ownAtoms own ic cls names, w.before args s' = true := vx_own hat' (vx_isRefq hU'.1) (vx_isRefq hN'.1) hU'.2.word hN'.2.word
  have hown' : s'.vm.findClass own = some m.cls := by rw [hvm]; exact hown
  have hins : (Cond.instantiable cls 6).before args s' = true := h _ (by simp [Bundle.ownAtoms])
  obtain ⟨vm₁, cX, kX, hfX, hkX, -, -, X₁, st1⟩ := Y.newCold hexec (own := own) (C := cls) (index := ik) (n := 6) hown' hk' hins hini'
    (g := F0 m pc ls rest) rfl (by rw [hb]; exact d0) (Nat.le_refl _) (Nat.le_refl _)
  generalize hT1 : (T.setVm vm₁).pushCell { cls := cX, slots := kX.instanceTypes.map defaultValue, vm := .none } = T1 at X₁ st1
  have hcat : (Value.ref T.heap.size).category = 1 := rfl
  have hcellA : T1.heap[T.heap.size]? = some (freshCell cX kX) := by rw [← hT1]; exact State.heap_pushCell_size _ _
  have d3' : decode c.code (pc + 3) = .ok (.dup, 1) := by rw [hb]; exact d3
  have d4' : decode c.code (pc + 4) = .ok (.ldc_w is, 3) := by rw [hb]; exact d4
  have hstr' : vk_R own is text sa s' := vk_R.warm hW0 hstr
  obtain ⟨U, hsteps, hrun, hend, hW, hsame, ce, hce, hO⟩ := X₁.ctorThrowS hexec htr (own := own) (cls := cls) (names := names) (ic := ic) hown' hcls hnames h (fun x hx => nomatch hx) hfX hkX hcellA (by rw [hhp, hT]; exact Nat.le_refl _) (msg := .ref sa) rfl
    (g := { method := m, pc := pc + 7, locals := ls, stack := .ref sa :: .ref T.heap.size :: .ref T.heap.size :: rest, locked := none }) rfl hsize rfl rfl (rest := rest) rfl
    (by rw [hb]; exact d7) (by rw [hb]; exact d10) hout hRframes (by simp only [List.map_cons, List.sum_cons, hcat]; omega) hlocks
  obtain ⟨f1, f2⟩ := vx_frame hsame
  rw [hhp] at f1 f2
  have hWs : s.WarmedH U.vm := State.WarmedH.trans hW0 hW
  have hcl : s.vm.findClass cls = some ce.cls := by
    have h9 := hO.cls
    rw [hvm] at h9
    exact h9
  have hall : s.sameButNew ({ U with vm := s.vm } : State) locs mc ms := by
    subst hA
    obtain ⟨e1, e2⟩ := hsame
    rw [State.setFrames_setFrames] at e1
    have h2 : (T.setVm s.vm).sameButNew ({ U with vm := s.vm } : State) [] (0 + 1) (0 + 6) := ⟨e1, e2⟩
    have h3 := X.same.trans h2
    rw [List.append_nil] at h3
    exact h3.mono hc hs
  refine ⟨U, ?_, .threw T.heap.size, hrun, hend, Or.inr ⟨T.heap.size, rfl, cls, ce, locs, hx U hWs.alike f1 (fun q hq => f2 q hq (fun z hz => nomatch hz)), hce, hO.vm, hcl, hWs, hall, hf⟩⟩
  refine st1 _ ?_
  show Steps p.tables e below (T1.setTop { method := m, pc := pc + 3, locals := ls, stack := .ref T.heap.size :: rest, locked := none }) _
  jvm_step X₁.here [X₁.here.top, hexec, d3', Value.category]
  exact X₁.ldcStringW hexec (own := own) (text := text) (index := is) (a := sa) hown' hstr'.1 hstr'.2
    (g := { method := m, pc := pc + 4, locals := ls, stack := .ref T.heap.size :: .ref T.heap.size :: rest, locked := none }) rfl d4' _ hsteps
end Ends
section Bodies
variable {l : Launch}
theorem vx_ofW {y : MethodName} {ws ws' : List Cond} {rm : Room} {Pc : Array Value → State → Prop} {Qc : Array Value → State → Outcome → State → Prop} {XC : String → State → State → Prop} {mc ms : Nat} {free : Addr → Prop} {cc : ByteArray} {maxL : Nat} {ret : Option FieldType}
    (hy : plainName y.cls = true) (hw : ws = Cond.code y cc maxL ret :: ws')
    (body : ∀ p e s m args below meth c s₁, BodyLoose p l y (headSpec ws rm) cc maxL ret e s m args below meth c s₁ → c.maxLocals = maxL → (∀ x ∈ c.exceptionTable.toList, False) → Pc args s →
      W p l e (headSpec ws rm).room s m args below meth c s.heap [] 0 0 (vx_MQ below Qc XC args s mc ms free) (entryFrame m args maxL)) : vx_Met l y ws rm Pc Qc XC mc ms free := by
  refine MetFree.of_bodyS (code := cc) (maxLocals := maxL) (ret := ret) hy ?_ ?_
  · intro args s m h hn
    obtain ⟨meth, c, h1, h2, h3, h4, h5, h6, -, -⟩ := Cond.code_spec hn (atoms_spec (ws := ws) h _ (by rw [hw]; exact List.mem_cons_self))
    exact ⟨meth, c, h1, h2, h3, h4, h5, h6⟩
  · intro p e s m args below meth c s₁ B hml hP _
    have hh0 : s₁.heap = s.heap := by rw [B.state]; rfl
    have ht : ∀ x ∈ c.exceptionTable.toList, False := by
      obtain ⟨meth9, c9, h1, h2, -, -, -, -, h7, -⟩ := Cond.code_spec B.named (atoms_spec (ws := ws) B.pre _ (by rw [hw]; exact List.mem_cons_self))
      cases Option.some.inj (h1.symm.trans B.method)
      cases Option.some.inj (h2.symm.trans (Stand.of_body B).code)
      intro x hx
      rw [Array.isEmpty_iff.mp h7] at hx
      cases hx
    obtain ⟨t, a1, o, b1, b2, b3⟩ := body p e s m args below meth c s₁ B hml ht hP s₁ hh0 (Stand.of_body B)
    exact ⟨t, o, a1, b1, b2, b3⟩
/-- the table of a body with handlers -/
theorem vx_table {p : Program} {x y : MethodName} {S : Spec} {cc bytes : ByteArray} {maxL maxL' : Nat} {ret ret' : Option FieldType} {e : Env} {s s₁ : State} {m : MethodId} {args : Array Value} {below : List Frame} {meth : Method} {c : Code} {hh : List (Nat × Nat × Nat × Nat)}
    (B : BodyLoose p l y S cc maxL ret e s m args below meth c s₁) (h : (Cond.codeWith y bytes maxL' ret' hh).before args s = true) : c.exceptionTable.toList = tableOf hh := by
  obtain ⟨m9, meth9, c9, hn9, h1, h2, -, -, h6, -⟩ := Cond.codeWith_spec h
  cases Option.some.inj (hn9.symm.trans B.named)
  cases Option.some.inj (h1.symm.trans B.method)
  cases Option.some.inj (h2.symm.trans (Stand.of_body B).code)
  rw [← h6, table_eq]
end Bodies
end VXA
/-! ===== END ===== -/
/-! ===== BEGIN a static call of a method with an exception table ===== -/
section VXS
variable {p : Program} {l : Launch} {e : Env} {R : Room} {s : State} {m : MethodId} {args : Array Value} {below : List Frame} {meth : Method} {c : Code} {T : State} {H : Heap} {locs : List Loc} {cells slots : Nat}
abbrev vx_CSW (R : Room) (s : State) (args : Array Value) (own : String) (index : Nat) (y : MethodName) (bytes : ByteArray) (maxL : Nat) (ret : Option FieldType) (hh : List (Nat × Nat × Nat × Nat)) (ws : List Cond) (rm : Room) (mc ms n : Nat) : Prop :=
  (rm.cells = mc ∧ rm.slots = ms ∧ rm.frames + 1 ≤ R.frames ∧ 8 + (maxL + 11) + rm.locals ≤ R.locals ∧ (∀ w ∈ ws, ∀ (a' : Array Value) (U : State), s.WarmedH U.vm → w.before a' U = true) ∧ Cond.codeWith y bytes maxL ret hh ∈ ws) ∧
  (Cond.codeWith y bytes maxL ret hh).before args s = true ∧ (Cond.initialized y.cls).before args s = true ∧ (y.cls ≠ "java/lang/invoke/MethodHandle" ∧ y.cls ≠ "java/lang/invoke/VarHandle") ∧
  (∀ sig, parseMethodDescriptor y.desc = some sig → n = sig.parameters.length) ∧ (Cond.methodLink own index y).before args s = true ∧ (Cond.static y).before args s = true
theorem vx_cwSW {own : String} {index maxL mc ms : Nat} {y : MethodName} {bytes : ByteArray} {ret : Option FieldType} {hh : List (Nat × Nat × Nat × Nat)} {Ts ws ws' : List Cond} {rm : Room} (n : Nat) (ht : ∀ w ∈ Ts, w.before args s = true) (hT : GoodIn Ts (va_wsS own index y ws)) (hw : ws = Cond.codeWith y bytes maxL ret hh :: ws') (hrc : rm.cells = mc) (hrs : rm.slots = ms)
    (hd : y.cls ≠ "java/lang/invoke/MethodHandle" ∧ y.cls ≠ "java/lang/invoke/VarHandle" ∧ (parseMethodDescriptor y.desc).map (fun d => d.parameters.length) = some n) (hR : rm.frames + 1 ≤ R.frames ∧ 8 + (maxL + 11) + rm.locals ≤ R.locals) :
    vx_CSW R s args own index y bytes maxL ret hh ws rm mc ms n := by
  have ok : ∀ w ∈ va_wsS own index y ws, w.before args s = true := fun w h => ht w (hT w h).1
  have hG : GoodIn Ts ws := fun w h => hT w (by unfold va_wsS; exact List.mem_append_right _ h)
  have hc : Cond.codeWith y bytes maxL ret hh ∈ ws := by rw [hw]; exact List.mem_cons_self
  refine ⟨⟨hrc, hrs, hR.1, hR.2, pay_in ht hG, hc⟩, ht _ (hG _ hc).1, ok _ (by simp [va_wsS]), ⟨hd.1, hd.2.1⟩, fun sig h => ?_, ok _ (by simp [va_wsS]), ok _ (by simp [va_wsS])⟩
  have h2 := hd.2.2
  rw [h] at h2
  exact (Option.some.inj h2).symm
theorem vx_callSW (X : Stand p l e R s m args below meth c T locs cells slots) (hexec : p.tables.exec = Jvm.exec) {own : String} {index : Nat} {y : MethodName} {bytes : ByteArray} {maxL : Nat} {ret : Option FieldType} {hh : List (Nat × Nat × Nat × Nat)}
    (hown : s.vm.findClass own = some m.cls) (hlink : (Cond.methodLink own index y).before args s = true) (hstat : (Cond.static y).before args s = true) (hinit : (Cond.initialized y.cls).before args s = true)
    (hcode : (Cond.codeWith y bytes maxL ret hh).before args s = true) (hy : y.cls ≠ "java/lang/invoke/MethodHandle" ∧ y.cls ≠ "java/lang/invoke/VarHandle")
    {W9 : Nat} {Pre : Pt → Array Value → Prop} {Post : Pt → Array Value → Option Value → Pt → Prop} (hK : Back l R p e below s args y 3 W9 Pre Post)
    {g : JFrame} (hg : g.method = m) (hsize : g.locals.size = c.maxLocals) {argsL rest : List Value} (hlen : ∀ sig, parseMethodDescriptor y.desc = some sig → argsL.length = sig.parameters.length)
    (hstack : g.stack = argsL.reverse ++ rest) (hW : 2 * g.monitorRoom + (rest.map fun v => v.category).sum ≤ W9) (hdg : decode c.code g.pc = .ok (.invokestatic index, 3))
    (hpre : ∀ vm₁, s.WarmedH vm₁ → Pre ⟨T.setVm vm₁, locs, cells, slots⟩ argsL.toArray) :
    ∃ (v : Option Value) (vm₁ : Vm) (B : Pt), s.WarmedH vm₁ ∧ Stand p l e R s m args below meth c B.U B.locs B.cells B.slots ∧ Post ⟨T.setVm vm₁, locs, cells, slots⟩ argsL.toArray v B ∧
      ∀ target, Steps p.tables e below (B.U.setTop { g with pc := g.pc + 3, stack := v.toList ++ rest }) target → Steps p.tables e below (T.setTop g) target := by
  obtain ⟨mk, methM, cM, hnamed, hmethM, -, -, -, -, -, -, hsigM⟩ := Cond.codeWith_spec hcode
  have hstatic : methM.isStatic = true := Cond.static_spec hnamed hmethM hstat
  obtain ⟨kP, hkP, -⟩ := className_of_methodNamed hnamed
  have hinitP : kP.init = .initialized := Cond.initialized_spec (findClass_of_methodNamed hnamed) hkP hinit
  obtain ⟨vm₁, X₁, hstep₁⟩ := X.invokestatic hexec hown hlink hnamed hmethM hstatic hkP hinitP hy (g := g) hg (argsL := argsL) (rest := rest) (hlen _ hsigM) hstack hdg
  obtain ⟨v, B, X', hpost, hsteps⟩ := hK m meth c ⟨T.setVm vm₁, locs, cells, slots⟩ { g with stack := rest } (.invokestatic index) mk argsL.toArray X₁ hg hsize hdg hW (X₁.named hnamed) (hpre vm₁ X₁.warmed)
  exact ⟨v, vm₁, B, X₁.warmed, X', hpost, fun target h => hstep₁ _ fun acts => by rw [doInvoke_state]; exact hsteps.trans h⟩
theorem vx_runSW {y : MethodName} {bytes cc : ByteArray} {maxL nL mc ms n index : Nat} {ret : Option FieldType} {hh : List (Nat × Nat × Nat × Nat)} {ws : List Cond} {rm : Room} {Pc : Array Value → State → Prop} {Qc : Array Value → State → Outcome → State → Prop} {free : Addr → Prop} {Ts : List Cond} {own : String} {As rest : List Value} {g : JFrame}
    (S : CallFix p m c cc nL s args Ts own) (hM : Met l y ws rm Pc Qc mc ms free) (cw : vx_CSW R s args own index y bytes maxL ret hh ws rm mc ms n) (hp : PreS s H Pc As)
    (hg : g.method = m) (hn : As.length = n) (hsize : g.locals.size = nL) (hstack : g.stack = As.reverse ++ rest) (hW : 2 * g.monitorRoom + (rest.map fun v => v.category).sum ≤ 8) (hdg : decode cc g.pc = .ok (.invokestatic index, 3)) (hf : cells + mc ≤ R.cells ∧ slots + ms ≤ R.slots) :
    va_Run p l e R s m args below meth c H locs cells slots mc ms g rest (Qc As.toArray) (free) := by
  obtain ⟨⟨hrc, hrs, hfr, hlo, hws, hcw⟩, hcode, hini, hy, hlen, hl, hstt⟩ := cw
  have hK : Back l R p e below s args y 3 8 (PreOf R mc ms Pc) (PostOf Qc mc ms free) := va_backW (hh := hh) (bytes := bytes) (maxL := maxL) (ret := ret) hM hp.1 hrc hrs hfr hlo hws hcw (fun a' U hW => word_at hW (Or.inl (by first | rfl | simp [Cond.onTables, Cond.keeps, Cond.steady])) hini)
  obtain ⟨hx, hb, hml, ho, -⟩ := S
  intro T hT X
  obtain ⟨v, vm₁, ⟨U', l2, c2, s2⟩, hW₁, X', ⟨g', mk, t, L, e1, e2, hq, h1, hL, h2, h3⟩, st⟩ := vx_callSW X hx (hh := hh) (bytes := bytes) (maxL := maxL) (ret := ret) ho hl hstt hini hcode hy hK hg (hsize.trans hml.symm) (argsL := As) (rest := rest) (fun sig h => hn.trans (hlen sig h)) hstack hW (by rw [hb]; exact hdg)
    (fun vm₁ hW₁ => ⟨hf.1, hf.2, hp.2 (T.setVm vm₁) hT hW₁⟩)
  dsimp only [Pt.U, Pt.locs, Pt.cells, Pt.slots] at X' e1 e2 h1 h2 h3 st
  subst h1; subst h2; subst h3
  exact ⟨v, (T.setVm vm₁).calling g' mk As.toArray, t, U', L, hT, X', hL, e1, e2, hq, st⟩
/-- not caught here, past rows that name other classes: it goes on to the caller -/
theorem vx_outP {p : Program} {l : Launch} {e : Env} {R : Room} {s : State} {m : MethodId} {args : Array Value} {below : List Frame} {meth : Method} {c : Code} {H : Heap} {locs : List Loc} {cells slots : Nat} {free : Addr → Prop} {ls : Array Slot} {rest : List Value} {Qc : Array Value → State → Outcome → State → Prop} {XC : String → State → State → Prop}
    {pc : Nat} {own E : String} {ce : Cell} {q : Addr} {mc ms : Nat} (hown : s.vm.findClass own = some m.cls) (hlocks : meth.locks = false)
    (hpass : ∀ z ∈ c.exceptionTable.toList, covers z pc = false ∨ (z.catchType ≠ 0 ∧ ∃ nm : String, (Cond.classLink own z.catchType nm).before args s = true ∧ va_Nc E nm s)) (hcell : H[q]? = some ce) (hv : ce.vm = .none) (hcl : s.vm.findClass E = some ce.cls)
    (hx : ∀ t : State, t.heap = H → s.vm.Alike t.vm → XC E s t) (hf : ∀ z ∈ locs, free z.base) (hc : cells ≤ mc) (hs : slots ≤ ms) :
    vx_W p l e R s m args below meth c H locs cells slots (vx_MQ below Qc XC args s mc ms free) (F0 m pc ls rest) q := by
  intro T hT X
  have hpl : e.platform.magicAccessors = ({} : Platform).magicAccessors := by rw [X.admits.platform]
  obtain ⟨vm', hW', X', st⟩ := X.outThrough hlocks q (g := F0 m pc ls rest) rfl rfl rfl (cell := ce) (by rw [hT]; exact hcell) (by rw [hv]; rfl)
    (by obtain ⟨k9, h9, -⟩ := Vm.findClass_spec hcl; exact ⟨k9, h9⟩) (fun z hz => by
      rcases hpass z hz with h | ⟨hz0, nm, hl1, hn1⟩
      · exact Or.inl h
      · obtain ⟨c6, hc6, hcl6⟩ := Cond.classLink_spec hown hl1 e.platform hpl
        obtain ⟨a8, b8, h1, h2, h3⟩ := hn1
        cases Option.some.inj (h1.symm.trans hcl)
        cases Option.some.inj (h2.symm.trans hc6)
        exact Or.inr ⟨hz0, _, hcl6, h3⟩)
  obtain ⟨g₀, hfr⟩ := X'.frames_eq
  have hcell9 : ((T.setVm vm').setFrames (.throwing q :: below)).heap[q]? = some ce := by
    show T.heap[q]? = some ce
    rw [hT]; exact hcell
  have hend : Ended ((T.setVm vm').setFrames (.throwing q :: below)) below (.threw q) := State.frames_setFrames _ (State.cur_lt_of_frames hfr)
  refine ⟨(T.setVm vm').setFrames (.throwing q :: below), ?_, .threw q, X'.here.running, hend, Or.inr ⟨q, rfl, E, ce, locs, hx _ hT (X'.ends _).1.alike, hcell9, hv, hcl, (X'.ends _).1, (X'.ends _).2.mono hc hs, hf⟩⟩
  rw [X.pushThrowing_eq]
  exact st
/-- a thing of a world lies in the heap -/
theorem vx_lt {D : va_G} {cl : List vw_C} {ws : va_W} {H1 : Heap} (h : va_P D cl ws H1) {k : Nat} {q : Nat × va_E} (hk : ws[k]? = some q) : q.1 < H1.size := (h k q hk).lt
end VXS
/-! ===== END ===== -/
/-! ===== BEGIN methods with a table of their own: called by a name, returning or throwing ===== -/
section VXH
/-! vx_backW, vx_callVX, vx_callSX, vx_callVW, vx_runVW, vx_runVX, vx_runSX, vx_ofWH follow the same proofs as their sisters above (Free/Laws.lean, Shelf42/LK1.lean); vx_outP calls Shelf42/NT130.lean (outThrough). -/
section
variable {l : Launch} {R : Room} {p : Program} {e : Env} {below : List Frame} {s : State} {sargs : Array Value} {y : MethodName} {len W9 : Nat}
theorem vx_backW {ws : List Cond} {rm : Room} {Pc : Array Value → State → Prop} {Qc : Array Value → State → Outcome → State → Prop} {XC : String → State → State → Prop} {mc ms : Nat} {free : Addr → Prop} {bytes : ByteArray} {maxL : Nat} {ret : Option FieldType} {hh : List (Nat × Nat × Nat × Nat)}
    (hM : vx_Met l y ws rm Pc Qc XC mc ms free) (hblind : FrameBlind Pc) (hrc : rm.cells = mc) (hrs : rm.slots = ms)
    (hframes : rm.frames + 1 ≤ R.frames) (hlocals : W9 + (maxL + 11) + rm.locals ≤ R.locals)
    (hws : ∀ w ∈ ws, ∀ a' U, s.WarmedH U.vm → w.before a' U = true) (hcode : Cond.codeWith y bytes maxL ret hh ∈ ws) (hinit : ∀ a' U, s.WarmedH U.vm → (Cond.initialized y.cls).before a' U = true) :
    vx_Back l R p e below s sargs y len W9 (PreOf R mc ms Pc) (PostOf Qc mc ms free) (vx_Post XC mc ms free) := by
  intro m meth c A g ig mk a X hg hsize hdg hW hn hp
  have h1 : (headSpec ws rm).pre.before a A.U = true := atoms_intro fun w hw => hws w hw _ _ X.warmed
  have h2 : (Cond.codeWith y bytes maxL ret hh).before a A.U = true := hws _ hcode _ _ X.warmed
  have h3 : (Cond.initialized y.cls).before a A.U = true := hinit _ _ X.warmed
  have h4 : A.cells + (headSpec ws rm).room.cells ≤ R.cells := by rw [show (headSpec ws rm).room.cells = mc from hrc]; exact hp.1
  have h5 : A.slots + (headSpec ws rm).room.slots ≤ R.slots := by rw [show (headSpec ws rm).room.slots = ms from hrs]; exact hp.2.1
  have hPc : Pc a (A.U.calling g mk a) := hblind _ _ _ _ hp.2.2
  obtain ⟨U, Ls, c0, s0⟩ := A
  dsimp only [Pt.U, Pt.locs, Pt.cells, Pt.slots] at h1 h2 h3 h4 h5 X hn hPc ⊢
  obtain ⟨m9, methY, cY, hn9, hmY, hcY, -, hlY, -⟩ := Cond.codeWith_spec h2
  cases Option.some.inj (hn9.symm.trans hn)
  obtain ⟨kY, hkY, -⟩ := className_of_methodNamed hn
  have hinitY : kY.init = .initialized := Cond.initialized_spec (findClass_of_methodNamed hn) hkY h3
  have h : At U g.method c below := by rw [hg]; exact X.here
  have hlocals9 : W9 + (maxL + 11) + (headSpec ws rm).room.locals ≤ R.locals := hlocals
  have happ : (headSpec ws rm).appliesLoose y e.platform (U.calling g mk a) = true :=
    Spec.appliesLoose_calling (g := g) h hdg hn hkY hinitY
      (X.room_calling (g := g) (R' := (headSpec ws rm).room) hsize hmY hcY hframes (by rw [hlY]; omega) h4 h5) h1
  obtain ⟨mid, hmid⟩ := h.above
  have hfr : (U.setTop g).frames = (.java g :: mid) ++ below := by rw [State.frames_setTop' g h.top, hmid]; rfl
  obtain ⟨o, s₂, hsteps, -, hend, hq⟩ := Steps.callFree hM p X.admits X.cas X.clock (acts := []) hfr happ hPc trivial
  have hq' : vx_Q Qc XC mc ms free a (U.calling g mk a) o s₂ := hq
  rw [State.frames_setTop' g h.top] at hend
  obtain ⟨g₀, hg0⟩ := Option.isSome_iff_exists.mp h.top
  obtain ⟨r, hr⟩ := State.topJava?_eq_some.mp hg0
  have hr' : (({ U with heap := s₂.heap, slotsUsed := s₂.slotsUsed } : State).setVm s₂.vm).frames = .java g₀ :: r := hr
  rcases hq' with ⟨hqc, L, hfe, hL⟩ | ⟨q, rfl, E, ce, L, hx, hce, hcv, hcl, hW₂, hsm, hL⟩
  · obtain ⟨⟨v, rfl⟩, hW₂, e2, q2, q3, q4, q5, q6⟩ := id hfe
    have e3 : s₂ = ({ (U.calling g mk a).setFrames s₂.frames with heap := s₂.heap, slotsUsed := s₂.slotsUsed } : State).setVm s₂.vm := by
      have : s₂ = ({ s₂ with vm := (U.calling g mk a).vm } : State).setVm s₂.vm := rfl
      rw [e2] at this
      exact this
    obtain ⟨c₂, i₂, len₂, hc₂, hd₂, hf₂⟩ := hend
    have hW' : U.WarmedH s₂.vm := hW₂
    have hcc : c₂ = c := by
      have h1 : s₂.code? g.method = U.code? g.method := by
        rw [State.code?_eq, State.code?_eq, hW'.alike.method?]
      exact Option.some.inj (hc₂.symm.trans (h1.trans h.code))
    subst hcc
    have hlen : len₂ = len := by rw [hdg] at hd₂; cases hd₂; rfl
    subst hlen
    have hs₂ : s₂ = (({ U with heap := s₂.heap, slotsUsed := s₂.slotsUsed } : State).setVm s₂.vm).setTop { g with pc := g.pc + len₂, stack := v.toList ++ g.stack } := by
      refine e3.trans ?_
      rw [hf₂, State.calling_eq h.top, State.setFrames_setFrames, State.setTop_of_frames _ hr', hr]
      rfl
    have hsame : U.sameButNew ({ U with heap := s₂.heap, slotsUsed := s₂.slotsUsed } : State) L mc ms := by
      refine ⟨?_, q2, q3, q4, q5, q6⟩
      obtain ⟨t, ht, -⟩ := State.frames_cons hr
      show ({ U with heap := s₂.heap, slotsUsed := s₂.slotsUsed } : State) = { U.setFrames U.frames with heap := s₂.heap, slotsUsed := s₂.slotsUsed }
      rw [State.setFrames_self ht]
    subst hg
    refine Or.inl ⟨v, ⟨(({ U with heap := s₂.heap, slotsUsed := s₂.slotsUsed } : State).setVm s₂.vm), Ls ++ L, c0 + mc, s0 + ms⟩,
      ⟨X.admits, X.cas, X.clock, X.frames, X.room, X.hears, X.method, X.code, (X.here.setHeapUsed s₂.heap s₂.slotsUsed).setVm hW'.alike, X.tail, State.WarmedH.trans X.warmed hW', X.limits, X.bytes, X.same.trans (hsame.setVm s.vm)⟩,
      ⟨g, mk, s₂, L, rfl, rfl, hqc, rfl, hL, rfl, rfl⟩, ?_⟩
    show Steps p.tables e below _ ((({ U with heap := s₂.heap, slotsUsed := s₂.slotsUsed } : State).setVm s₂.vm).setTop { g with pc := g.pc + len₂, stack := v.toList ++ g.stack })
    rw [← hs₂]
    exact hsteps
  · obtain ⟨e2, q2, q3, q4, q5, q6⟩ := id hsm
    have e3 : s₂ = ({ (U.calling g mk a).setFrames s₂.frames with heap := s₂.heap, slotsUsed := s₂.slotsUsed } : State).setVm s₂.vm := by
      have : s₂ = ({ s₂ with vm := (U.calling g mk a).vm } : State).setVm s₂.vm := rfl
      rw [e2] at this
      exact this
    have hf₂ : s₂.frames = .throwing q :: .java g :: U.frames.tail := hend
    have hW' : U.WarmedH s₂.vm := hW₂
    have hs₂ : s₂ = ((({ U with heap := s₂.heap, slotsUsed := s₂.slotsUsed } : State).setVm s₂.vm).setTop g).pushFrame (.throwing q) := by
      refine e3.trans ?_
      rw [hf₂, State.calling_eq h.top, State.setFrames_setFrames, State.pushFrame, State.frames_setTop _ hr', State.setTop_of_frames _ hr', State.setFrames_setFrames, hr]
      rfl
    have hsame : U.sameButNew ({ U with heap := s₂.heap, slotsUsed := s₂.slotsUsed } : State) L mc ms := by
      refine ⟨?_, q2, q3, q4, q5, q6⟩
      obtain ⟨t, ht, -⟩ := State.frames_cons hr
      show ({ U with heap := s₂.heap, slotsUsed := s₂.slotsUsed } : State) = { U.setFrames U.frames with heap := s₂.heap, slotsUsed := s₂.slotsUsed }
      rw [State.setFrames_self ht]
    subst hg
    refine Or.inr ⟨q, ⟨(({ U with heap := s₂.heap, slotsUsed := s₂.slotsUsed } : State).setVm s₂.vm), Ls ++ L, c0 + mc, s0 + ms⟩,
      ⟨X.admits, X.cas, X.clock, X.frames, X.room, X.hears, X.method, X.code, (X.here.setHeapUsed s₂.heap s₂.slotsUsed).setVm hW'.alike, X.tail, State.WarmedH.trans X.warmed hW', X.limits, X.bytes, X.same.trans (hsame.setVm s.vm)⟩,
      ⟨g, mk, s₂, L, E, ce, rfl, rfl, hx, hce, hcv, hcl, rfl, hL, rfl, rfl⟩, ?_⟩
    show Steps p.tables e below _ (((({ U with heap := s₂.heap, slotsUsed := s₂.slotsUsed } : State).setVm s₂.vm).setTop g).pushFrame (.throwing q))
    rw [← hs₂]
    exact hsteps
end
variable {p : Program} {l : Launch} {e : Env} {R : Room} {s : State} {m : MethodId} {args : Array Value} {below : List Frame} {meth : Method} {c : Code} {T : State} {H : Heap} {locs : List Loc} {cells slots : Nat}
theorem vx_callVX (X : Stand p l e R s m args below meth c T locs cells slots) (hexec : p.tables.exec = Jvm.exec) {own C : String} {index : Nat} {y : MethodName} {bytes : ByteArray} {maxL : Nat} {ret : Option FieldType} {hh : List (Nat × Nat × Nat × Nat)}
    (hown : s.vm.findClass own = some m.cls) (hlink : (Cond.methodLink own index y).before args s = true) (hinst : (Cond.instanceMethod y).before args s = true) (hsel : (Cond.selects C y y).before args s = true)
    (hcode : (Cond.codeWith y bytes maxL ret hh).before args s = true) (hy : y.cls ≠ "java/lang/invoke/MethodHandle" ∧ y.cls ≠ "java/lang/invoke/VarHandle")
    {W9 : Nat} {Pre : Pt → Array Value → Prop} {Post : Pt → Array Value → Option Value → Pt → Prop} {PostX : Pt → Array Value → Addr → Pt → Prop} (hK : vx_Back l R p e below s args y 3 W9 Pre Post PostX)
    {b : Addr} {cellB : Cell} (hcell : T.heap[b]? = some cellB) (hobj : cellB.vm.isStatics = false) (hcls : s.vm.findClass C = some cellB.cls)
    {g : JFrame} (hg : g.method = m) (hsize : g.locals.size = c.maxLocals) {argsL rest : List Value} (hlen : ∀ sig, parseMethodDescriptor y.desc = some sig → argsL.length = sig.parameters.length)
    (hstack : g.stack = argsL.reverse ++ .ref b :: rest) (hW : 2 * g.monitorRoom + (rest.map fun v => v.category).sum ≤ W9) (hdg : decode c.code g.pc = .ok (.invokevirtual index, 3))
    (hpre : ∀ vm₁, s.WarmedH vm₁ → Pre ⟨T.setVm vm₁, locs, cells, slots⟩ (Value.ref b :: argsL).toArray) :
    (∃ (v : Option Value) (vm₁ : Vm) (B : Pt), s.WarmedH vm₁ ∧ Stand p l e R s m args below meth c B.U B.locs B.cells B.slots ∧ Post ⟨T.setVm vm₁, locs, cells, slots⟩ (Value.ref b :: argsL).toArray v B ∧
      ∀ target, Steps p.tables e below (B.U.setTop { g with pc := g.pc + 3, stack := v.toList ++ rest }) target → Steps p.tables e below (T.setTop g) target) ∨
    (∃ (q : Addr) (vm₁ : Vm) (B : Pt), s.WarmedH vm₁ ∧ Stand p l e R s m args below meth c B.U B.locs B.cells B.slots ∧ PostX ⟨T.setVm vm₁, locs, cells, slots⟩ (Value.ref b :: argsL).toArray q B ∧
      Steps p.tables e below (T.setTop g) ((B.U.setTop { g with stack := rest }).pushFrame (.throwing q))) := by
  obtain ⟨mk, methM, hnamed, hmethM, hstM, habM⟩ := Cond.instanceMethod_spec hinst
  obtain ⟨m8, methM', cM, hn8, hmethM', -, -, -, -, -, -, hsigM⟩ := Cond.codeWith_spec hcode
  cases Option.some.inj (hn8.symm.trans hnamed)
  cases hmethM.symm.trans hmethM'
  obtain ⟨c2, r2, m2, q1, q2, q3, q4, kP, hkP, hkPi⟩ := Cond.selects_spec hsel
  cases hcls.symm.trans q1
  cases (State.methodFound?_of_named hnamed hy).symm.trans q2
  cases hnamed.symm.trans q3
  have hselP : selectMethod e.platform s.vm cellB.cls mk = .method mk := by rw [Launch.admits_selectMethod X.admits]; exact q4
  obtain ⟨vm₁, X₁, hstep₁⟩ := X.invokevirtual hexec hown hlink hnamed hmethM hstM hkP hkPi hy (a := b) (cell := cellB) hcell
    (fun z h => by rw [h] at hobj; cases hobj) hselP hmethM habM hkP hkPi (g := g) hg (argsL := argsL) (rest := rest) (hlen _ hsigM) hstack hdg
  rcases hK m meth c ⟨T.setVm vm₁, locs, cells, slots⟩ { g with stack := rest } (.invokevirtual index) mk (Value.ref b :: argsL).toArray X₁ hg hsize hdg hW (X₁.named hnamed) (hpre vm₁ X₁.warmed) with ⟨v, B, X', hpost, hsteps⟩ | ⟨q, B, X', hpost, hsteps⟩
  · exact Or.inl ⟨v, vm₁, B, X₁.warmed, X', hpost, fun target h => hstep₁ _ fun acts => by rw [doInvoke_state]; exact hsteps.trans h⟩
  · exact Or.inr ⟨q, vm₁, B, X₁.warmed, X', hpost, hstep₁ _ fun acts => by rw [doInvoke_state]; exact hsteps⟩
theorem vx_callSX (X : Stand p l e R s m args below meth c T locs cells slots) (hexec : p.tables.exec = Jvm.exec) {own : String} {index : Nat} {y : MethodName} {bytes : ByteArray} {maxL : Nat} {ret : Option FieldType} {hh : List (Nat × Nat × Nat × Nat)}
    (hown : s.vm.findClass own = some m.cls) (hlink : (Cond.methodLink own index y).before args s = true) (hstat : (Cond.static y).before args s = true) (hinit : (Cond.initialized y.cls).before args s = true)
    (hcode : (Cond.codeWith y bytes maxL ret hh).before args s = true) (hy : y.cls ≠ "java/lang/invoke/MethodHandle" ∧ y.cls ≠ "java/lang/invoke/VarHandle")
    {W9 : Nat} {Pre : Pt → Array Value → Prop} {Post : Pt → Array Value → Option Value → Pt → Prop} {PostX : Pt → Array Value → Addr → Pt → Prop} (hK : vx_Back l R p e below s args y 3 W9 Pre Post PostX)
    {g : JFrame} (hg : g.method = m) (hsize : g.locals.size = c.maxLocals) {argsL rest : List Value} (hlen : ∀ sig, parseMethodDescriptor y.desc = some sig → argsL.length = sig.parameters.length)
    (hstack : g.stack = argsL.reverse ++ rest) (hW : 2 * g.monitorRoom + (rest.map fun v => v.category).sum ≤ W9) (hdg : decode c.code g.pc = .ok (.invokestatic index, 3))
    (hpre : ∀ vm₁, s.WarmedH vm₁ → Pre ⟨T.setVm vm₁, locs, cells, slots⟩ argsL.toArray) :
    (∃ (v : Option Value) (vm₁ : Vm) (B : Pt), s.WarmedH vm₁ ∧ Stand p l e R s m args below meth c B.U B.locs B.cells B.slots ∧ Post ⟨T.setVm vm₁, locs, cells, slots⟩ argsL.toArray v B ∧
      ∀ target, Steps p.tables e below (B.U.setTop { g with pc := g.pc + 3, stack := v.toList ++ rest }) target → Steps p.tables e below (T.setTop g) target) ∨
    (∃ (q : Addr) (vm₁ : Vm) (B : Pt), s.WarmedH vm₁ ∧ Stand p l e R s m args below meth c B.U B.locs B.cells B.slots ∧ PostX ⟨T.setVm vm₁, locs, cells, slots⟩ argsL.toArray q B ∧
      Steps p.tables e below (T.setTop g) ((B.U.setTop { g with stack := rest }).pushFrame (.throwing q))) := by
  obtain ⟨mk, methM, cM, hnamed, hmethM, -, -, -, -, -, -, hsigM⟩ := Cond.codeWith_spec hcode
  have hstatic : methM.isStatic = true := Cond.static_spec hnamed hmethM hstat
  obtain ⟨kP, hkP, -⟩ := className_of_methodNamed hnamed
  have hinitP : kP.init = .initialized := Cond.initialized_spec (findClass_of_methodNamed hnamed) hkP hinit
  obtain ⟨vm₁, X₁, hstep₁⟩ := X.invokestatic hexec hown hlink hnamed hmethM hstatic hkP hinitP hy (g := g) hg (argsL := argsL) (rest := rest) (hlen _ hsigM) hstack hdg
  rcases hK m meth c ⟨T.setVm vm₁, locs, cells, slots⟩ { g with stack := rest } (.invokestatic index) mk argsL.toArray X₁ hg hsize hdg hW (X₁.named hnamed) (hpre vm₁ X₁.warmed) with ⟨v, B, X', hpost, hsteps⟩ | ⟨q, B, X', hpost, hsteps⟩
  · exact Or.inl ⟨v, vm₁, B, X₁.warmed, X', hpost, fun target h => hstep₁ _ fun acts => by rw [doInvoke_state]; exact hsteps.trans h⟩
  · exact Or.inr ⟨q, vm₁, B, X₁.warmed, X', hpost, hstep₁ _ fun acts => by rw [doInvoke_state]; exact hsteps⟩
theorem vx_callVW (X : Stand p l e R s m args below meth c T locs cells slots) (hexec : p.tables.exec = Jvm.exec) {own C : String} {index : Nat} {y : MethodName} {bytes : ByteArray} {maxL : Nat} {ret : Option FieldType} {hh : List (Nat × Nat × Nat × Nat)}
    (hown : s.vm.findClass own = some m.cls) (hlink : (Cond.methodLink own index y).before args s = true) (hinst : (Cond.instanceMethod y).before args s = true) (hsel : (Cond.selects C y y).before args s = true)
    (hcode : (Cond.codeWith y bytes maxL ret hh).before args s = true) (hy : y.cls ≠ "java/lang/invoke/MethodHandle" ∧ y.cls ≠ "java/lang/invoke/VarHandle")
    {W9 : Nat} {Pre : Pt → Array Value → Prop} {Post : Pt → Array Value → Option Value → Pt → Prop} (hK : Back l R p e below s args y 3 W9 Pre Post)
    {b : Addr} {cellB : Cell} (hcell : T.heap[b]? = some cellB) (hobj : cellB.vm.isStatics = false) (hcls : s.vm.findClass C = some cellB.cls)
    {g : JFrame} (hg : g.method = m) (hsize : g.locals.size = c.maxLocals) {argsL rest : List Value} (hlen : ∀ sig, parseMethodDescriptor y.desc = some sig → argsL.length = sig.parameters.length)
    (hstack : g.stack = argsL.reverse ++ .ref b :: rest) (hW : 2 * g.monitorRoom + (rest.map fun v => v.category).sum ≤ W9) (hdg : decode c.code g.pc = .ok (.invokevirtual index, 3))
    (hpre : ∀ vm₁, s.WarmedH vm₁ → Pre ⟨T.setVm vm₁, locs, cells, slots⟩ (Value.ref b :: argsL).toArray) :
    ∃ (v : Option Value) (vm₁ : Vm) (B : Pt), s.WarmedH vm₁ ∧ Stand p l e R s m args below meth c B.U B.locs B.cells B.slots ∧ Post ⟨T.setVm vm₁, locs, cells, slots⟩ (Value.ref b :: argsL).toArray v B ∧
      ∀ target, Steps p.tables e below (B.U.setTop { g with pc := g.pc + 3, stack := v.toList ++ rest }) target → Steps p.tables e below (T.setTop g) target := by
  obtain ⟨mk, methM, hnamed, hmethM, hstM, habM⟩ := Cond.instanceMethod_spec hinst
  obtain ⟨m8, methM', cM, hn8, hmethM', -, -, -, -, -, -, hsigM⟩ := Cond.codeWith_spec hcode
  cases Option.some.inj (hn8.symm.trans hnamed)
  cases hmethM.symm.trans hmethM'
  obtain ⟨c2, r2, m2, q1, q2, q3, q4, kP, hkP, hkPi⟩ := Cond.selects_spec hsel
  cases hcls.symm.trans q1
  cases (State.methodFound?_of_named hnamed hy).symm.trans q2
  cases hnamed.symm.trans q3
  have hselP : selectMethod e.platform s.vm cellB.cls mk = .method mk := by rw [Launch.admits_selectMethod X.admits]; exact q4
  obtain ⟨vm₁, X₁, hstep₁⟩ := X.invokevirtual hexec hown hlink hnamed hmethM hstM hkP hkPi hy (a := b) (cell := cellB) hcell
    (fun z h => by rw [h] at hobj; cases hobj) hselP hmethM habM hkP hkPi (g := g) hg (argsL := argsL) (rest := rest) (hlen _ hsigM) hstack hdg
  obtain ⟨v, B, X', hpost, hsteps⟩ := hK m meth c ⟨T.setVm vm₁, locs, cells, slots⟩ { g with stack := rest } (.invokevirtual index) mk (Value.ref b :: argsL).toArray X₁ hg hsize hdg hW (X₁.named hnamed) (hpre vm₁ X₁.warmed)
  exact ⟨v, vm₁, B, X₁.warmed, X', hpost, fun target h => hstep₁ _ fun acts => by rw [doInvoke_state]; exact hsteps.trans h⟩
abbrev vx_CVW (R : Room) (s : State) (args : Array Value) (own C : String) (index : Nat) (y : MethodName) (bytes : ByteArray) (maxL : Nat) (ret : Option FieldType) (hh : List (Nat × Nat × Nat × Nat)) (ws : List Cond) (rm : Room) (mc ms n : Nat) : Prop :=
  (rm.cells = mc ∧ rm.slots = ms ∧ rm.frames + 1 ≤ R.frames ∧ 8 + (maxL + 11) + rm.locals ≤ R.locals ∧ (∀ w ∈ ws, ∀ (a' : Array Value) (U : State), s.WarmedH U.vm → w.before a' U = true) ∧ Cond.codeWith y bytes maxL ret hh ∈ ws) ∧
  (Cond.codeWith y bytes maxL ret hh).before args s = true ∧ (Cond.initialized y.cls).before args s = true ∧ (y.cls ≠ "java/lang/invoke/MethodHandle" ∧ y.cls ≠ "java/lang/invoke/VarHandle") ∧
  (∀ sig, parseMethodDescriptor y.desc = some sig → n = sig.parameters.length) ∧ (Cond.methodLink own index y).before args s = true ∧ (Cond.instanceMethod y).before args s = true ∧ (Cond.selects C y y).before args s = true
theorem vx_cwVW {own C : String} {index maxL mc ms : Nat} {y : MethodName} {bytes : ByteArray} {ret : Option FieldType} {hh : List (Nat × Nat × Nat × Nat)} {Ts ws ws' : List Cond} {rm : Room} (n : Nat) (ht : ∀ w ∈ Ts, w.before args s = true) (hT : GoodIn Ts (wsV own index C y ws)) (hw : ws = Cond.codeWith y bytes maxL ret hh :: ws') (hrc : rm.cells = mc) (hrs : rm.slots = ms)
    (hd : y.cls = C ∧ y.cls ≠ "java/lang/invoke/MethodHandle" ∧ y.cls ≠ "java/lang/invoke/VarHandle" ∧ (parseMethodDescriptor y.desc).map (fun d => d.parameters.length) = some n) (hR : rm.frames + 1 ≤ R.frames ∧ 8 + (maxL + 11) + rm.locals ≤ R.locals) :
    vx_CVW R s args own C index y bytes maxL ret hh ws rm mc ms n := by
  obtain ⟨hC, hd⟩ := hd
  subst hC
  have ok : ∀ w ∈ wsV own index y.cls y ws, w.before args s = true := fun w h => ht w (hT w h).1
  have hG : GoodIn Ts ws := fun w h => hT w (by unfold wsV; exact List.mem_append_right _ h)
  have hc : Cond.codeWith y bytes maxL ret hh ∈ ws := by rw [hw]; exact List.mem_cons_self
  refine ⟨⟨hrc, hrs, hR.1, hR.2, pay_in ht hG, hc⟩, ht _ (hG _ hc).1, ok _ (by simp [wsV]), ⟨hd.1, hd.2.1⟩, fun sig h => ?_, ok _ (by simp [wsV]), ok _ (by simp [wsV]), ok _ (by simp [wsV])⟩
  have h2 := hd.2.2
  rw [h] at h2
  exact (Option.some.inj h2).symm
theorem vx_runVW {y : MethodName} {bytes cc : ByteArray} {maxL nL mc ms n index : Nat} {ret : Option FieldType} {hh : List (Nat × Nat × Nat × Nat)} {ws : List Cond} {rm : Room} {Pc : Array Value → State → Prop} {Qc : Array Value → State → Outcome → State → Prop} {free : Addr → Prop} {Ts : List Cond} {own C : String} {b : Addr} {As rest : List Value} {g : JFrame}
    (S : CallFix p m c cc nL s args Ts own) (hM : Met l y ws rm Pc Qc mc ms free) (cw : vx_CVW R s args own C index y bytes maxL ret hh ws rm mc ms n) (hp : PreV s H C b Pc As)
    (hg : g.method = m) (hn : As.length = n) (hsize : g.locals.size = nL) (hstack : g.stack = As.reverse ++ .ref b :: rest) (hW : 2 * g.monitorRoom + (rest.map fun v => v.category).sum ≤ 8) (hdg : decode cc g.pc = .ok (.invokevirtual index, 3)) (hf : cells + mc ≤ R.cells ∧ slots + ms ≤ R.slots) :
    va_Run p l e R s m args below meth c H locs cells slots mc ms g rest (Qc (Value.ref b :: As).toArray) free := by
  obtain ⟨⟨hrc, hrs, hfr, hlo, hws, hcw⟩, hcode, hini, hy, hlen, hl, hin, hse⟩ := cw
  have hK : Back l R p e below s args y 3 8 (PreOf R mc ms Pc) (PostOf Qc mc ms free) := va_backW (hh := hh) (bytes := bytes) (maxL := maxL) (ret := ret) hM hp.1 hrc hrs hfr hlo hws hcw (fun a' U hW => word_at hW (Or.inl (by first | rfl | simp [Cond.onTables, Cond.keeps, Cond.steady])) hini)
  obtain ⟨hx, hb, hml, ho, -⟩ := S
  obtain ⟨-, ⟨cellB, hcB, hoB, hclB⟩, hPc⟩ := hp
  intro T hT X
  obtain ⟨v, vm₁, ⟨U', l2, c2, s2⟩, hW₁, X', ⟨g', mk, t, L, e1, e2, hq, h1, hL, h2, h3⟩, st⟩ := vx_callVW X hx (C := C) (hh := hh) (bytes := bytes) (maxL := maxL) (ret := ret) ho hl hin hse hcode hy hK (by rw [hT]; exact hcB) hoB hclB hg (hsize.trans hml.symm) (argsL := As) (rest := rest) (fun sig h => hn.trans (hlen sig h)) hstack hW (by rw [hb]; exact hdg)
    (fun vm₁ hW₁ => ⟨hf.1, hf.2, hPc (T.setVm vm₁) hT hW₁⟩)
  dsimp only [Pt.U, Pt.locs, Pt.cells, Pt.slots] at X' e1 e2 h1 h2 h3 st
  subst h1; subst h2; subst h3
  exact ⟨v, (T.setVm vm₁).calling g' mk (Value.ref b :: As).toArray, t, U', L, hT, X', hL, e1, e2, hq, st⟩
section
variable {y : MethodName} {bytes cc : ByteArray} {maxL nL mc ms n index : Nat} {ret : Option FieldType} {ws : List Cond} {rm : Room} {Pc : Array Value → State → Prop} {Qc : Array Value → State → Outcome → State → Prop} {XC : String → State → State → Prop} {free : Addr → Prop} {Ts : List Cond} {own C : String} {b : Addr} {As rest : List Value} {g : JFrame}
theorem vx_runVX {hh : List (Nat × Nat × Nat × Nat)} (S : CallFix p m c cc nL s args Ts own) (hM : vx_Met l y ws rm Pc Qc XC mc ms free) (cw : vx_CVW R s args own C index y bytes maxL ret hh ws rm mc ms n) (hp : PreV s H C b Pc As)
    (hg : g.method = m) (hn : As.length = n) (hsize : g.locals.size = nL) (hstack : g.stack = As.reverse ++ .ref b :: rest) (hW : 2 * g.monitorRoom + (rest.map fun v => v.category).sum ≤ 8) (hdg : decode cc g.pc = .ok (.invokevirtual index, 3)) (hf : cells + mc ≤ R.cells ∧ slots + ms ≤ R.slots) :
    vx_Run p l e R s m args below meth c H locs cells slots mc ms g rest (Qc (Value.ref b :: As).toArray) XC free := by
  obtain ⟨⟨hrc, hrs, hfr, hlo, hws, hcw⟩, hcode, hini, hy, hlen, hl, hin, hse⟩ := cw
  have hK : vx_Back l R p e below s args y 3 8 (PreOf R mc ms Pc) (PostOf Qc mc ms free) (vx_Post XC mc ms free) := vx_backW (hh := hh) (bytes := bytes) (maxL := maxL) (ret := ret) hM hp.1 hrc hrs hfr hlo hws hcw (fun a' U hW => word_at hW (Or.inl (by first | rfl | simp [Cond.onTables, Cond.keeps, Cond.steady])) hini)
  obtain ⟨hx, hb, hml, ho, -⟩ := S
  obtain ⟨-, ⟨cellB, hcB, hoB, hclB⟩, hPc⟩ := hp
  intro T hT X
  rcases vx_callVX X hx (C := C) (hh := hh) (bytes := bytes) (maxL := maxL) (ret := ret) ho hl hin hse hcode hy hK (by rw [hT]; exact hcB) hoB hclB hg (hsize.trans hml.symm) (argsL := As) (rest := rest) (fun sig h => hn.trans (hlen sig h)) hstack hW (by rw [hb]; exact hdg)
    (fun vm₁ hW₁ => ⟨hf.1, hf.2, hPc (T.setVm vm₁) hT hW₁⟩) with ⟨v, vm₁, ⟨U', l2, c2, s2⟩, hW₁, X', ⟨g', mk, t, L, e1, e2, hq, h1, hL, h2, h3⟩, st⟩ | ⟨q, vm₁, ⟨U', l2, c2, s2⟩, hW₁, X', ⟨g', mk, t, L, E, ce, e1, e2, hq, hce, hcv, hcl, h1, hL, h2, h3⟩, st⟩
  · dsimp only [Pt.U, Pt.locs, Pt.cells, Pt.slots] at X' e1 e2 h1 h2 h3 st
    subst h1; subst h2; subst h3
    exact Or.inl ⟨v, (T.setVm vm₁).calling g' mk (Value.ref b :: As).toArray, t, U', L, hT, X', hL, e1, e2, hq, st⟩
  · dsimp only [Pt.U, Pt.locs, Pt.cells, Pt.slots] at X' e1 e2 h1 h2 h3 st hcl
    subst h1; subst h2; subst h3
    exact Or.inr ⟨q, (T.setVm vm₁).calling g' mk (Value.ref b :: As).toArray, t, U', L, E, ce, hT, X', hL, e1, e2, hq, hce, hcv, vx_cls hW₁ hcl, st⟩
theorem vx_runSX {hh : List (Nat × Nat × Nat × Nat)} (S : CallFix p m c cc nL s args Ts own) (hM : vx_Met l y ws rm Pc Qc XC mc ms free) (cw : vx_CSW R s args own index y bytes maxL ret hh ws rm mc ms n) (hp : PreS s H Pc As)
    (hg : g.method = m) (hn : As.length = n) (hsize : g.locals.size = nL) (hstack : g.stack = As.reverse ++ rest) (hW : 2 * g.monitorRoom + (rest.map fun v => v.category).sum ≤ 8) (hdg : decode cc g.pc = .ok (.invokestatic index, 3)) (hf : cells + mc ≤ R.cells ∧ slots + ms ≤ R.slots) :
    vx_Run p l e R s m args below meth c H locs cells slots mc ms g rest (Qc As.toArray) XC free := by
  obtain ⟨⟨hrc, hrs, hfr, hlo, hws, hcw⟩, hcode, hini, hy, hlen, hl, hstt⟩ := cw
  have hK : vx_Back l R p e below s args y 3 8 (PreOf R mc ms Pc) (PostOf Qc mc ms free) (vx_Post XC mc ms free) := vx_backW (hh := hh) (bytes := bytes) (maxL := maxL) (ret := ret) hM hp.1 hrc hrs hfr hlo hws hcw (fun a' U hW => word_at hW (Or.inl (by first | rfl | simp [Cond.onTables, Cond.keeps, Cond.steady])) hini)
  obtain ⟨hx, hb, hml, ho, -⟩ := S
  intro T hT X
  rcases vx_callSX X hx (hh := hh) (bytes := bytes) (maxL := maxL) (ret := ret) ho hl hstt hini hcode hy hK hg (hsize.trans hml.symm) (argsL := As) (rest := rest) (fun sig h => hn.trans (hlen sig h)) hstack hW (by rw [hb]; exact hdg)
    (fun vm₁ hW₁ => ⟨hf.1, hf.2, hp.2 (T.setVm vm₁) hT hW₁⟩) with ⟨v, vm₁, ⟨U', l2, c2, s2⟩, hW₁, X', ⟨g', mk, t, L, e1, e2, hq, h1, hL, h2, h3⟩, st⟩ | ⟨q, vm₁, ⟨U', l2, c2, s2⟩, hW₁, X', ⟨g', mk, t, L, E, ce, e1, e2, hq, hce, hcv, hcl, h1, hL, h2, h3⟩, st⟩
  · dsimp only [Pt.U, Pt.locs, Pt.cells, Pt.slots] at X' e1 e2 h1 h2 h3 st
    subst h1; subst h2; subst h3
    exact Or.inl ⟨v, (T.setVm vm₁).calling g' mk As.toArray, t, U', L, hT, X', hL, e1, e2, hq, st⟩
  · dsimp only [Pt.U, Pt.locs, Pt.cells, Pt.slots] at X' e1 e2 h1 h2 h3 st hcl
    subst h1; subst h2; subst h3
    exact Or.inr ⟨q, (T.setVm vm₁).calling g' mk As.toArray, t, U', L, E, ce, hT, X', hL, e1, e2, hq, hce, hcv, vx_cls hW₁ hcl, st⟩
end
end VXH
theorem vx_ofWH {l : Launch} {y : MethodName} {ws ws' : List Cond} {rm : Room} {Pc : Array Value → State → Prop} {Qc : Array Value → State → Outcome → State → Prop} {XC : String → State → State → Prop} {mc ms : Nat} {free : Addr → Prop} {cc : ByteArray} {maxL : Nat} {ret : Option FieldType} {hh : List (Nat × Nat × Nat × Nat)}
    (hy : plainName y.cls = true) (hw : ws = Cond.codeWith y cc maxL ret hh :: ws')
    (body : ∀ p e s m args below meth c s₁, BodyLoose p l y (headSpec ws rm) cc maxL ret e s m args below meth c s₁ → c.maxLocals = maxL → Pc args s →
      W p l e (headSpec ws rm).room s m args below meth c s.heap [] 0 0 (vx_MQ below Qc XC args s mc ms free) (entryFrame m args maxL)) : vx_Met l y ws rm Pc Qc XC mc ms free := by
  refine MetFree.of_bodyS (code := cc) (maxLocals := maxL) (ret := ret) hy ?_ ?_
  · intro args s m h hn
    obtain ⟨m9, meth, c, hn9, h1, h2, h3, h4, -, h5, h6, -⟩ := Cond.codeWith_spec (atoms_spec (ws := ws) h _ (by rw [hw]; exact List.mem_cons_self))
    cases hn.symm.trans hn9
    exact ⟨meth, c, h1, h2, h3, h4, h5, h6⟩
  · intro p e s m args below meth c s₁ B hml hP _
    have hh0 : s₁.heap = s.heap := by rw [B.state]; rfl
    obtain ⟨t, a1, o, b1, b2, b3⟩ := body p e s m args below meth c s₁ B hml hP s₁ hh0 (Stand.of_body B)
    exact ⟨t, o, a1, b1, b2, b3⟩
/-! ===== END ===== -/
end
section
theorem dX0_init_0 : decode cX0_init 0 = .ok (.aload_n 0, 1) := by decide +kernel
theorem dX0_init_1 : decode cX0_init 1 = .ok (.invokespecial 3, 3) := by decide +kernel
theorem dX0_init_4 : decode cX0_init 4 = .ok (.aload_n 0, 1) := by decide +kernel
theorem dX0_init_5 : decode cX0_init 5 = .ok (.sipush 360, 3) := by decide +kernel
theorem dX0_init_8 : decode cX0_init 8 = .ok (.newarray .int, 2) := by decide +kernel
theorem dX0_init_10 : decode cX0_init 10 = .ok (.putfield 11, 3) := by decide +kernel
theorem dX0_init_13 : decode cX0_init 13 = .ok (.aload_n 0, 1) := by decide +kernel
theorem dX0_init_14 : decode cX0_init 14 = .ok (.sipush 360, 3) := by decide +kernel
theorem dX0_init_17 : decode cX0_init 17 = .ok (.newarray .int, 2) := by decide +kernel
theorem dX0_init_19 : decode cX0_init 19 = .ok (.putfield 15, 3) := by decide +kernel
theorem dX0_init_22 : decode cX0_init 22 = .ok (.aload_n 0, 1) := by decide +kernel
theorem dX0_init_23 : decode cX0_init 23 = .ok (.sipush 360, 3) := by decide +kernel
theorem dX0_init_26 : decode cX0_init 26 = .ok (.newarray .int, 2) := by decide +kernel
theorem dX0_init_28 : decode cX0_init 28 = .ok (.putfield 18, 3) := by decide +kernel
theorem dX0_init_31 : decode cX0_init 31 = .ok (.aload_n 0, 1) := by decide +kernel
theorem dX0_init_32 : decode cX0_init 32 = .ok (.iconst 0, 1) := by decide +kernel
theorem dX0_init_33 : decode cX0_init 33 = .ok (.putfield 21, 3) := by decide +kernel
theorem dX0_init_36 : decode cX0_init 36 = .ok (.return_, 1) := by decide +kernel
theorem dX0_raise_0 : decode cX0_raise 0 = .ok (.aload_n 0, 1) := by decide +kernel
theorem dX0_raise_1 : decode cX0_raise 1 = .ok (.getfield 21, 3) := by decide +kernel
theorem dX0_raise_4 : decode cX0_raise 4 = .ok (.sipush 360, 3) := by decide +kernel
theorem dX0_raise_7 : decode cX0_raise 7 = .ok (.if_icmp .ge 43, 3) := by decide +kernel
theorem dX0_raise_10 : decode cX0_raise 10 = .ok (.aload_n 0, 1) := by decide +kernel
theorem dX0_raise_11 : decode cX0_raise 11 = .ok (.getfield 11, 3) := by decide +kernel
theorem dX0_raise_14 : decode cX0_raise 14 = .ok (.aload_n 0, 1) := by decide +kernel
theorem dX0_raise_15 : decode cX0_raise 15 = .ok (.getfield 21, 3) := by decide +kernel
theorem dX0_raise_18 : decode cX0_raise 18 = .ok (.iload_n 1, 1) := by decide +kernel
theorem dX0_raise_19 : decode cX0_raise 19 = .ok (.iastore, 1) := by decide +kernel
theorem dX0_raise_20 : decode cX0_raise 20 = .ok (.aload_n 0, 1) := by decide +kernel
theorem dX0_raise_21 : decode cX0_raise 21 = .ok (.getfield 15, 3) := by decide +kernel
theorem dX0_raise_24 : decode cX0_raise 24 = .ok (.aload_n 0, 1) := by decide +kernel
theorem dX0_raise_25 : decode cX0_raise 25 = .ok (.getfield 21, 3) := by decide +kernel
theorem dX0_raise_28 : decode cX0_raise 28 = .ok (.iload_n 2, 1) := by decide +kernel
theorem dX0_raise_29 : decode cX0_raise 29 = .ok (.iastore, 1) := by decide +kernel
theorem dX0_raise_30 : decode cX0_raise 30 = .ok (.aload_n 0, 1) := by decide +kernel
theorem dX0_raise_31 : decode cX0_raise 31 = .ok (.getfield 18, 3) := by decide +kernel
theorem dX0_raise_34 : decode cX0_raise 34 = .ok (.aload_n 0, 1) := by decide +kernel
theorem dX0_raise_35 : decode cX0_raise 35 = .ok (.getfield 21, 3) := by decide +kernel
theorem dX0_raise_38 : decode cX0_raise 38 = .ok (.iload_n 3, 1) := by decide +kernel
theorem dX0_raise_39 : decode cX0_raise 39 = .ok (.iastore, 1) := by decide +kernel
theorem dX0_raise_40 : decode cX0_raise 40 = .ok (.aload_n 0, 1) := by decide +kernel
theorem dX0_raise_41 : decode cX0_raise 41 = .ok (.dup, 1) := by decide +kernel
theorem dX0_raise_42 : decode cX0_raise 42 = .ok (.getfield 21, 3) := by decide +kernel
theorem dX0_raise_45 : decode cX0_raise 45 = .ok (.iconst 1, 1) := by decide +kernel
theorem dX0_raise_46 : decode cX0_raise 46 = .ok (.iadd, 1) := by decide +kernel
theorem dX0_raise_47 : decode cX0_raise 47 = .ok (.putfield 21, 3) := by decide +kernel
theorem dX0_raise_50 : decode cX0_raise 50 = .ok (.return_, 1) := by decide +kernel
theorem dX0_has_0 : decode cX0_has 0 = .ok (.iload_n 1, 1) := by decide +kernel
theorem dX0_has_1 : decode cX0_has 1 = .ok (.ifCond .lt 15, 3) := by decide +kernel
theorem dX0_has_4 : decode cX0_has 4 = .ok (.iload_n 1, 1) := by decide +kernel
theorem dX0_has_5 : decode cX0_has 5 = .ok (.aload_n 0, 1) := by decide +kernel
theorem dX0_has_6 : decode cX0_has 6 = .ok (.getfield 21, 3) := by decide +kernel
theorem dX0_has_9 : decode cX0_has 9 = .ok (.if_icmp .ge 7, 3) := by decide +kernel
theorem dX0_has_12 : decode cX0_has 12 = .ok (.iconst 1, 1) := by decide +kernel
theorem dX0_has_13 : decode cX0_has 13 = .ok (.goto 4, 3) := by decide +kernel
theorem dX0_has_16 : decode cX0_has 16 = .ok (.iconst 0, 1) := by decide +kernel
theorem dX0_has_17 : decode cX0_has 17 = .ok (.ireturn, 1) := by decide +kernel
theorem dX0_removeAll_0 : decode cX0_removeAll 0 = .ok (.aload_n 0, 1) := by decide +kernel
theorem dX0_removeAll_1 : decode cX0_removeAll 1 = .ok (.iconst 0, 1) := by decide +kernel
theorem dX0_removeAll_2 : decode cX0_removeAll 2 = .ok (.putfield 21, 3) := by decide +kernel
theorem dX0_removeAll_5 : decode cX0_removeAll 5 = .ok (.return_, 1) := by decide +kernel
theorem dX1_init_0 : decode cX1_init 0 = .ok (.aload_n 0, 1) := by decide +kernel
theorem dX1_init_1 : decode cX1_init 1 = .ok (.invokespecial 3, 3) := by decide +kernel
theorem dX1_init_4 : decode cX1_init 4 = .ok (.aload_n 0, 1) := by decide +kernel
theorem dX1_init_5 : decode cX1_init 5 = .ok (.bipush 120, 2) := by decide +kernel
theorem dX1_init_7 : decode cX1_init 7 = .ok (.newarray .int, 2) := by decide +kernel
theorem dX1_init_9 : decode cX1_init 9 = .ok (.putfield 9, 3) := by decide +kernel
theorem dX1_init_12 : decode cX1_init 12 = .ok (.aload_n 0, 1) := by decide +kernel
theorem dX1_init_13 : decode cX1_init 13 = .ok (.bipush 120, 2) := by decide +kernel
theorem dX1_init_15 : decode cX1_init 15 = .ok (.newarray .int, 2) := by decide +kernel
theorem dX1_init_17 : decode cX1_init 17 = .ok (.putfield 15, 3) := by decide +kernel
theorem dX1_init_20 : decode cX1_init 20 = .ok (.aload_n 0, 1) := by decide +kernel
theorem dX1_init_21 : decode cX1_init 21 = .ok (.bipush 120, 2) := by decide +kernel
theorem dX1_init_23 : decode cX1_init 23 = .ok (.newarray .int, 2) := by decide +kernel
theorem dX1_init_25 : decode cX1_init 25 = .ok (.putfield 18, 3) := by decide +kernel
theorem dX1_init_28 : decode cX1_init 28 = .ok (.return_, 1) := by decide +kernel
theorem dX1_find_0 : decode cX1_find 0 = .ok (.iload_n 2, 1) := by decide +kernel
theorem dX1_find_1 : decode cX1_find 1 = .ok (.iconst 1, 1) := by decide +kernel
theorem dX1_find_2 : decode cX1_find 2 = .ok (.isub, 1) := by decide +kernel
theorem dX1_find_3 : decode cX1_find 3 = .ok (.istore 5, 2) := by decide +kernel
theorem dX1_find_5 : decode cX1_find 5 = .ok (.iload 5, 2) := by decide +kernel
theorem dX1_find_7 : decode cX1_find 7 = .ok (.ifCond .lt 18, 3) := by decide +kernel
theorem dX1_find_10 : decode cX1_find 10 = .ok (.aload_n 0, 1) := by decide +kernel
theorem dX1_find_11 : decode cX1_find 11 = .ok (.aload_n 1, 1) := by decide +kernel
theorem dX1_find_12 : decode cX1_find 12 = .ok (.iload 5, 2) := by decide +kernel
theorem dX1_find_14 : decode cX1_find 14 = .ok (.iload_n 2, 1) := by decide +kernel
theorem dX1_find_15 : decode cX1_find 15 = .ok (.iload_n 3, 1) := by decide +kernel
theorem dX1_find_16 : decode cX1_find 16 = .ok (.invokevirtual 21, 3) := by decide +kernel
theorem dX1_find_19 : decode cX1_find 19 = .ok (.iinc 5 (-1), 3) := by decide +kernel
theorem dX1_find_22 : decode cX1_find 22 = .ok (.goto (-17), 3) := by decide +kernel
theorem dX1_find_25 : decode cX1_find 25 = .ok (.aload 4, 2) := by decide +kernel
theorem dX1_find_27 : decode cX1_find 27 = .ok (.invokevirtual 25, 3) := by decide +kernel
theorem dX1_find_30 : decode cX1_find 30 = .ok (.iload_n 2, 1) := by decide +kernel
theorem dX1_find_31 : decode cX1_find 31 = .ok (.ifCond .le 12, 3) := by decide +kernel
theorem dX1_find_34 : decode cX1_find 34 = .ok (.aload_n 0, 1) := by decide +kernel
theorem dX1_find_35 : decode cX1_find 35 = .ok (.getfield 18, 3) := by decide +kernel
theorem dX1_find_38 : decode cX1_find 38 = .ok (.iconst 0, 1) := by decide +kernel
theorem dX1_find_39 : decode cX1_find 39 = .ok (.iaload, 1) := by decide +kernel
theorem dX1_find_40 : decode cX1_find 40 = .ok (.goto 4, 3) := by decide +kernel
theorem dX1_find_43 : decode cX1_find 43 = .ok (.iconst 0, 1) := by decide +kernel
theorem dX1_find_44 : decode cX1_find 44 = .ok (.istore 5, 2) := by decide +kernel
theorem dX1_find_46 : decode cX1_find 46 = .ok (.iconst 1, 1) := by decide +kernel
theorem dX1_find_47 : decode cX1_find 47 = .ok (.istore 6, 2) := by decide +kernel
theorem dX1_find_49 : decode cX1_find 49 = .ok (.iload 6, 2) := by decide +kernel
theorem dX1_find_51 : decode cX1_find 51 = .ok (.iload_n 2, 1) := by decide +kernel
theorem dX1_find_52 : decode cX1_find 52 = .ok (.if_icmp .ge 32, 3) := by decide +kernel
theorem dX1_find_55 : decode cX1_find 55 = .ok (.iload 6, 2) := by decide +kernel
theorem dX1_find_57 : decode cX1_find 57 = .ok (.iload 5, 2) := by decide +kernel
theorem dX1_find_59 : decode cX1_find 59 = .ok (.if_icmp .ne 19, 3) := by decide +kernel
theorem dX1_find_62 : decode cX1_find 62 = .ok (.aload 4, 2) := by decide +kernel
theorem dX1_find_64 : decode cX1_find 64 = .ok (.iload 6, 2) := by decide +kernel
theorem dX1_find_66 : decode cX1_find 66 = .ok (.invokevirtual 30, 3) := by decide +kernel
theorem dX1_find_69 : decode cX1_find 69 = .ok (.aload_n 0, 1) := by decide +kernel
theorem dX1_find_70 : decode cX1_find 70 = .ok (.getfield 18, 3) := by decide +kernel
theorem dX1_find_73 : decode cX1_find 73 = .ok (.iload 6, 2) := by decide +kernel
theorem dX1_find_75 : decode cX1_find 75 = .ok (.iaload, 1) := by decide +kernel
theorem dX1_find_76 : decode cX1_find 76 = .ok (.istore 5, 2) := by decide +kernel
theorem dX1_find_78 : decode cX1_find 78 = .ok (.iinc 6 1, 3) := by decide +kernel
theorem dX1_find_81 : decode cX1_find 81 = .ok (.goto (-32), 3) := by decide +kernel
theorem dX1_find_84 : decode cX1_find 84 = .ok (.return_, 1) := by decide +kernel
theorem dX1_findFrom_0 : decode cX1_findFrom 0 = .ok (.aload_n 1, 1) := by decide +kernel
theorem dX1_findFrom_1 : decode cX1_findFrom 1 = .ok (.iload_n 2, 1) := by decide +kernel
theorem dX1_findFrom_2 : decode cX1_findFrom 2 = .ok (.iload_n 3, 1) := by decide +kernel
theorem dX1_findFrom_3 : decode cX1_findFrom 3 = .ok (.invokevirtual 34, 3) := by decide +kernel
theorem dX1_findFrom_6 : decode cX1_findFrom 6 = .ok (.istore 5, 2) := by decide +kernel
theorem dX1_findFrom_8 : decode cX1_findFrom 8 = .ok (.iconst 0, 1) := by decide +kernel
theorem dX1_findFrom_9 : decode cX1_findFrom 9 = .ok (.istore 6, 2) := by decide +kernel
theorem dX1_findFrom_11 : decode cX1_findFrom 11 = .ok (.iload_n 3, 1) := by decide +kernel
theorem dX1_findFrom_12 : decode cX1_findFrom 12 = .ok (.istore 7, 2) := by decide +kernel
theorem dX1_findFrom_14 : decode cX1_findFrom 14 = .ok (.iload_n 2, 1) := by decide +kernel
theorem dX1_findFrom_15 : decode cX1_findFrom 15 = .ok (.iconst 1, 1) := by decide +kernel
theorem dX1_findFrom_16 : decode cX1_findFrom 16 = .ok (.iadd, 1) := by decide +kernel
theorem dX1_findFrom_17 : decode cX1_findFrom 17 = .ok (.istore 8, 2) := by decide +kernel
theorem dX1_findFrom_19 : decode cX1_findFrom 19 = .ok (.iload 8, 2) := by decide +kernel
theorem dX1_findFrom_21 : decode cX1_findFrom 21 = .ok (.iload_n 3, 1) := by decide +kernel
theorem dX1_findFrom_22 : decode cX1_findFrom 22 = .ok (.if_icmp .ge 73, 3) := by decide +kernel
theorem dX1_findFrom_25 : decode cX1_findFrom 25 = .ok (.aload_n 1, 1) := by decide +kernel
theorem dX1_findFrom_26 : decode cX1_findFrom 26 = .ok (.iload_n 2, 1) := by decide +kernel
theorem dX1_findFrom_27 : decode cX1_findFrom 27 = .ok (.iload 8, 2) := by decide +kernel
theorem dX1_findFrom_29 : decode cX1_findFrom 29 = .ok (.invokevirtual 34, 3) := by decide +kernel
theorem dX1_findFrom_32 : decode cX1_findFrom 32 = .ok (.iload 4, 2) := by decide +kernel
theorem dX1_findFrom_34 : decode cX1_findFrom 34 = .ok (.iadd, 1) := by decide +kernel
theorem dX1_findFrom_35 : decode cX1_findFrom 35 = .ok (.aload_n 0, 1) := by decide +kernel
theorem dX1_findFrom_36 : decode cX1_findFrom 36 = .ok (.getfield 9, 3) := by decide +kernel
theorem dX1_findFrom_39 : decode cX1_findFrom 39 = .ok (.iload 8, 2) := by decide +kernel
theorem dX1_findFrom_41 : decode cX1_findFrom 41 = .ok (.iaload, 1) := by decide +kernel
theorem dX1_findFrom_42 : decode cX1_findFrom 42 = .ok (.iadd, 1) := by decide +kernel
theorem dX1_findFrom_43 : decode cX1_findFrom 43 = .ok (.istore 9, 2) := by decide +kernel
theorem dX1_findFrom_45 : decode cX1_findFrom 45 = .ok (.iconst 1, 1) := by decide +kernel
theorem dX1_findFrom_46 : decode cX1_findFrom 46 = .ok (.aload_n 0, 1) := by decide +kernel
theorem dX1_findFrom_47 : decode cX1_findFrom 47 = .ok (.getfield 15, 3) := by decide +kernel
theorem dX1_findFrom_50 : decode cX1_findFrom 50 = .ok (.iload 8, 2) := by decide +kernel
theorem dX1_findFrom_52 : decode cX1_findFrom 52 = .ok (.iaload, 1) := by decide +kernel
theorem dX1_findFrom_53 : decode cX1_findFrom 53 = .ok (.iadd, 1) := by decide +kernel
theorem dX1_findFrom_54 : decode cX1_findFrom 54 = .ok (.istore 10, 2) := by decide +kernel
theorem dX1_findFrom_56 : decode cX1_findFrom 56 = .ok (.iload 9, 2) := by decide +kernel
theorem dX1_findFrom_58 : decode cX1_findFrom 58 = .ok (.iload 5, 2) := by decide +kernel
theorem dX1_findFrom_60 : decode cX1_findFrom 60 = .ok (.if_icmp .lt 17, 3) := by decide +kernel
theorem dX1_findFrom_63 : decode cX1_findFrom 63 = .ok (.iload 9, 2) := by decide +kernel
theorem dX1_findFrom_65 : decode cX1_findFrom 65 = .ok (.iload 5, 2) := by decide +kernel
theorem dX1_findFrom_67 : decode cX1_findFrom 67 = .ok (.if_icmp .ne 22, 3) := by decide +kernel
theorem dX1_findFrom_70 : decode cX1_findFrom 70 = .ok (.iload 10, 2) := by decide +kernel
theorem dX1_findFrom_72 : decode cX1_findFrom 72 = .ok (.iload 6, 2) := by decide +kernel
theorem dX1_findFrom_74 : decode cX1_findFrom 74 = .ok (.if_icmp .ge 15, 3) := by decide +kernel
theorem dX1_findFrom_77 : decode cX1_findFrom 77 = .ok (.iload 9, 2) := by decide +kernel
theorem dX1_findFrom_79 : decode cX1_findFrom 79 = .ok (.istore 5, 2) := by decide +kernel
theorem dX1_findFrom_81 : decode cX1_findFrom 81 = .ok (.iload 10, 2) := by decide +kernel
theorem dX1_findFrom_83 : decode cX1_findFrom 83 = .ok (.istore 6, 2) := by decide +kernel
theorem dX1_findFrom_85 : decode cX1_findFrom 85 = .ok (.iload 8, 2) := by decide +kernel
theorem dX1_findFrom_87 : decode cX1_findFrom 87 = .ok (.istore 7, 2) := by decide +kernel
theorem dX1_findFrom_89 : decode cX1_findFrom 89 = .ok (.iinc 8 1, 3) := by decide +kernel
theorem dX1_findFrom_92 : decode cX1_findFrom 92 = .ok (.goto (-73), 3) := by decide +kernel
theorem dX1_findFrom_95 : decode cX1_findFrom 95 = .ok (.aload_n 0, 1) := by decide +kernel
theorem dX1_findFrom_96 : decode cX1_findFrom 96 = .ok (.getfield 9, 3) := by decide +kernel
theorem dX1_findFrom_99 : decode cX1_findFrom 99 = .ok (.iload_n 2, 1) := by decide +kernel
theorem dX1_findFrom_100 : decode cX1_findFrom 100 = .ok (.iload 5, 2) := by decide +kernel
theorem dX1_findFrom_102 : decode cX1_findFrom 102 = .ok (.iastore, 1) := by decide +kernel
theorem dX1_findFrom_103 : decode cX1_findFrom 103 = .ok (.aload_n 0, 1) := by decide +kernel
theorem dX1_findFrom_104 : decode cX1_findFrom 104 = .ok (.getfield 15, 3) := by decide +kernel
theorem dX1_findFrom_107 : decode cX1_findFrom 107 = .ok (.iload_n 2, 1) := by decide +kernel
theorem dX1_findFrom_108 : decode cX1_findFrom 108 = .ok (.iload 6, 2) := by decide +kernel
theorem dX1_findFrom_110 : decode cX1_findFrom 110 = .ok (.iastore, 1) := by decide +kernel
theorem dX1_findFrom_111 : decode cX1_findFrom 111 = .ok (.aload_n 0, 1) := by decide +kernel
theorem dX1_findFrom_112 : decode cX1_findFrom 112 = .ok (.getfield 18, 3) := by decide +kernel
theorem dX1_findFrom_115 : decode cX1_findFrom 115 = .ok (.iload_n 2, 1) := by decide +kernel
theorem dX1_findFrom_116 : decode cX1_findFrom 116 = .ok (.iload 7, 2) := by decide +kernel
theorem dX1_findFrom_118 : decode cX1_findFrom 118 = .ok (.iastore, 1) := by decide +kernel
theorem dX1_findFrom_119 : decode cX1_findFrom 119 = .ok (.return_, 1) := by decide +kernel
theorem dX2_init_0 : decode cX2_init 0 = .ok (.aload_n 0, 1) := by decide +kernel
theorem dX2_init_1 : decode cX2_init 1 = .ok (.invokespecial 3, 3) := by decide +kernel
theorem dX2_init_4 : decode cX2_init 4 = .ok (.aload_n 0, 1) := by decide +kernel
theorem dX2_init_5 : decode cX2_init 5 = .ok (.iconst 0, 1) := by decide +kernel
theorem dX2_init_6 : decode cX2_init 6 = .ok (.iconst 5, 1) := by decide +kernel
theorem dX2_init_7 : decode cX2_init 7 = .ok (.bipush 50, 2) := by decide +kernel
theorem dX2_init_9 : decode cX2_init 9 = .ok (.invokevirtual 9, 3) := by decide +kernel
theorem dX2_init_12 : decode cX2_init 12 = .ok (.return_, 1) := by decide +kernel
theorem dX2_setUp_0 : decode cX2_setUp 0 = .ok (.aload_n 0, 1) := by decide +kernel
theorem dX2_setUp_1 : decode cX2_setUp 1 = .ok (.iload_n 1, 1) := by decide +kernel
theorem dX2_setUp_2 : decode cX2_setUp 2 = .ok (.putfield 15, 3) := by decide +kernel
theorem dX2_setUp_5 : decode cX2_setUp 5 = .ok (.aload_n 0, 1) := by decide +kernel
theorem dX2_setUp_6 : decode cX2_setUp 6 = .ok (.iload_n 2, 1) := by decide +kernel
theorem dX2_setUp_7 : decode cX2_setUp 7 = .ok (.putfield 19, 3) := by decide +kernel
theorem dX2_setUp_10 : decode cX2_setUp 10 = .ok (.aload_n 0, 1) := by decide +kernel
theorem dX2_setUp_11 : decode cX2_setUp 11 = .ok (.iload_n 3, 1) := by decide +kernel
theorem dX2_setUp_12 : decode cX2_setUp 12 = .ok (.putfield 22, 3) := by decide +kernel
theorem dX2_setUp_15 : decode cX2_setUp 15 = .ok (.aload_n 0, 1) := by decide +kernel
theorem dX2_setUp_16 : decode cX2_setUp 16 = .ok (.invokevirtual 25, 3) := by decide +kernel
theorem dX2_setUp_19 : decode cX2_setUp 19 = .ok (.return_, 1) := by decide +kernel
theorem dX2_beginAnew_0 : decode cX2_beginAnew 0 = .ok (.aload_n 0, 1) := by decide +kernel
theorem dX2_beginAnew_1 : decode cX2_beginAnew 1 = .ok (.iconst 0, 1) := by decide +kernel
theorem dX2_beginAnew_2 : decode cX2_beginAnew 2 = .ok (.putfield 28, 3) := by decide +kernel
theorem dX2_beginAnew_5 : decode cX2_beginAnew 5 = .ok (.aload_n 0, 1) := by decide +kernel
theorem dX2_beginAnew_6 : decode cX2_beginAnew 6 = .ok (.iconst 0, 1) := by decide +kernel
theorem dX2_beginAnew_7 : decode cX2_beginAnew 7 = .ok (.putfield 31, 3) := by decide +kernel
theorem dX2_beginAnew_10 : decode cX2_beginAnew 10 = .ok (.return_, 1) := by decide +kernel
theorem dX2_watch_0 : decode cX2_watch 0 = .ok (.aload_n 0, 1) := by decide +kernel
theorem dX2_watch_1 : decode cX2_watch 1 = .ok (.iload_n 1, 1) := by decide +kernel
theorem dX2_watch_2 : decode cX2_watch 2 = .ok (.iload_n 2, 1) := by decide +kernel
theorem dX2_watch_3 : decode cX2_watch 3 = .ok (.invokevirtual 34, 3) := by decide +kernel
theorem dX2_watch_6 : decode cX2_watch 6 = .ok (.iconst 0, 1) := by decide +kernel
theorem dX2_watch_7 : decode cX2_watch 7 = .ok (.istore 4, 2) := by decide +kernel
theorem dX2_watch_9 : decode cX2_watch 9 = .ok (.aload_n 0, 1) := by decide +kernel
theorem dX2_watch_10 : decode cX2_watch 10 = .ok (.getfield 28, 3) := by decide +kernel
theorem dX2_watch_13 : decode cX2_watch 13 = .ok (.aload_n 0, 1) := by decide +kernel
theorem dX2_watch_14 : decode cX2_watch 14 = .ok (.getfield 22, 3) := by decide +kernel
theorem dX2_watch_17 : decode cX2_watch 17 = .ok (.if_icmp .le 19, 3) := by decide +kernel
theorem dX2_watch_20 : decode cX2_watch 20 = .ok (.aload_n 3, 1) := by decide +kernel
theorem dX2_watch_21 : decode cX2_watch 21 = .ok (.iconst 0, 1) := by decide +kernel
theorem dX2_watch_22 : decode cX2_watch 22 = .ok (.iload_n 2, 1) := by decide +kernel
theorem dX2_watch_23 : decode cX2_watch 23 = .ok (.aload_n 0, 1) := by decide +kernel
theorem dX2_watch_24 : decode cX2_watch 24 = .ok (.getfield 38, 3) := by decide +kernel
theorem dX2_watch_27 : decode cX2_watch 27 = .ok (.invokevirtual 41, 3) := by decide +kernel
theorem dX2_watch_30 : decode cX2_watch 30 = .ok (.iload 4, 2) := by decide +kernel
theorem dX2_watch_32 : decode cX2_watch 32 = .ok (.iconst 1, 1) := by decide +kernel
theorem dX2_watch_33 : decode cX2_watch 33 = .ok (.ior, 1) := by decide +kernel
theorem dX2_watch_34 : decode cX2_watch 34 = .ok (.istore 4, 2) := by decide +kernel
theorem dX2_watch_36 : decode cX2_watch 36 = .ok (.aload_n 0, 1) := by decide +kernel
theorem dX2_watch_37 : decode cX2_watch 37 = .ok (.getfield 31, 3) := by decide +kernel
theorem dX2_watch_40 : decode cX2_watch 40 = .ok (.aload_n 0, 1) := by decide +kernel
theorem dX2_watch_41 : decode cX2_watch 41 = .ok (.getfield 22, 3) := by decide +kernel
theorem dX2_watch_44 : decode cX2_watch 44 = .ok (.if_icmp .le 19, 3) := by decide +kernel
theorem dX2_watch_47 : decode cX2_watch 47 = .ok (.aload_n 3, 1) := by decide +kernel
theorem dX2_watch_48 : decode cX2_watch 48 = .ok (.iconst 1, 1) := by decide +kernel
theorem dX2_watch_49 : decode cX2_watch 49 = .ok (.iload_n 2, 1) := by decide +kernel
theorem dX2_watch_50 : decode cX2_watch 50 = .ok (.aload_n 0, 1) := by decide +kernel
theorem dX2_watch_51 : decode cX2_watch 51 = .ok (.getfield 46, 3) := by decide +kernel
theorem dX2_watch_54 : decode cX2_watch 54 = .ok (.invokevirtual 41, 3) := by decide +kernel
theorem dX2_watch_57 : decode cX2_watch 57 = .ok (.iload 4, 2) := by decide +kernel
theorem dX2_watch_59 : decode cX2_watch 59 = .ok (.iconst 2, 1) := by decide +kernel
theorem dX2_watch_60 : decode cX2_watch 60 = .ok (.ior, 1) := by decide +kernel
theorem dX2_watch_61 : decode cX2_watch 61 = .ok (.istore 4, 2) := by decide +kernel
theorem dX2_watch_63 : decode cX2_watch 63 = .ok (.iload 4, 2) := by decide +kernel
theorem dX2_watch_65 : decode cX2_watch 65 = .ok (.ifCond .eq 7, 3) := by decide +kernel
theorem dX2_watch_68 : decode cX2_watch 68 = .ok (.aload_n 0, 1) := by decide +kernel
theorem dX2_watch_69 : decode cX2_watch 69 = .ok (.invokevirtual 25, 3) := by decide +kernel
theorem dX2_watch_72 : decode cX2_watch 72 = .ok (.iload 4, 2) := by decide +kernel
theorem dX2_watch_74 : decode cX2_watch 74 = .ok (.ireturn, 1) := by decide +kernel
theorem dX2_moveSums_0 : decode cX2_moveSums 0 = .ok (.aload_n 0, 1) := by decide +kernel
theorem dX2_moveSums_1 : decode cX2_moveSums 1 = .ok (.getfield 28, 3) := by decide +kernel
theorem dX2_moveSums_4 : decode cX2_moveSums 4 = .ok (.ifCond .ne 8, 3) := by decide +kernel
theorem dX2_moveSums_7 : decode cX2_moveSums 7 = .ok (.aload_n 0, 1) := by decide +kernel
theorem dX2_moveSums_8 : decode cX2_moveSums 8 = .ok (.iload_n 2, 1) := by decide +kernel
theorem dX2_moveSums_9 : decode cX2_moveSums 9 = .ok (.putfield 38, 3) := by decide +kernel
theorem dX2_moveSums_12 : decode cX2_moveSums 12 = .ok (.aload_n 0, 1) := by decide +kernel
theorem dX2_moveSums_13 : decode cX2_moveSums 13 = .ok (.getfield 31, 3) := by decide +kernel
theorem dX2_moveSums_16 : decode cX2_moveSums 16 = .ok (.ifCond .ne 8, 3) := by decide +kernel
theorem dX2_moveSums_19 : decode cX2_moveSums 19 = .ok (.aload_n 0, 1) := by decide +kernel
theorem dX2_moveSums_20 : decode cX2_moveSums 20 = .ok (.iload_n 2, 1) := by decide +kernel
theorem dX2_moveSums_21 : decode cX2_moveSums 21 = .ok (.putfield 46, 3) := by decide +kernel
theorem dX2_moveSums_24 : decode cX2_moveSums 24 = .ok (.aload_n 0, 1) := by decide +kernel
theorem dX2_moveSums_25 : decode cX2_moveSums 25 = .ok (.iconst 0, 1) := by decide +kernel
theorem dX2_moveSums_26 : decode cX2_moveSums 26 = .ok (.aload_n 0, 1) := by decide +kernel
theorem dX2_moveSums_27 : decode cX2_moveSums 27 = .ok (.getfield 28, 3) := by decide +kernel
theorem dX2_moveSums_30 : decode cX2_moveSums 30 = .ok (.iload_n 1, 1) := by decide +kernel
theorem dX2_moveSums_31 : decode cX2_moveSums 31 = .ok (.iadd, 1) := by decide +kernel
theorem dX2_moveSums_32 : decode cX2_moveSums 32 = .ok (.aload_n 0, 1) := by decide +kernel
theorem dX2_moveSums_33 : decode cX2_moveSums 33 = .ok (.getfield 15, 3) := by decide +kernel
theorem dX2_moveSums_36 : decode cX2_moveSums 36 = .ok (.isub, 1) := by decide +kernel
theorem dX2_moveSums_37 : decode cX2_moveSums 37 = .ok (.aload_n 0, 1) := by decide +kernel
theorem dX2_moveSums_38 : decode cX2_moveSums 38 = .ok (.getfield 19, 3) := by decide +kernel
theorem dX2_moveSums_41 : decode cX2_moveSums 41 = .ok (.isub, 1) := by decide +kernel
theorem dX2_moveSums_42 : decode cX2_moveSums 42 = .ok (.invokestatic 49, 3) := by decide +kernel
theorem dX2_moveSums_45 : decode cX2_moveSums 45 = .ok (.putfield 28, 3) := by decide +kernel
theorem dX2_moveSums_48 : decode cX2_moveSums 48 = .ok (.aload_n 0, 1) := by decide +kernel
theorem dX2_moveSums_49 : decode cX2_moveSums 49 = .ok (.iconst 0, 1) := by decide +kernel
theorem dX2_moveSums_50 : decode cX2_moveSums 50 = .ok (.aload_n 0, 1) := by decide +kernel
theorem dX2_moveSums_51 : decode cX2_moveSums 51 = .ok (.getfield 31, 3) := by decide +kernel
theorem dX2_moveSums_54 : decode cX2_moveSums 54 = .ok (.aload_n 0, 1) := by decide +kernel
theorem dX2_moveSums_55 : decode cX2_moveSums 55 = .ok (.getfield 15, 3) := by decide +kernel
theorem dX2_moveSums_58 : decode cX2_moveSums 58 = .ok (.iadd, 1) := by decide +kernel
theorem dX2_moveSums_59 : decode cX2_moveSums 59 = .ok (.aload_n 0, 1) := by decide +kernel
theorem dX2_moveSums_60 : decode cX2_moveSums 60 = .ok (.getfield 19, 3) := by decide +kernel
theorem dX2_moveSums_63 : decode cX2_moveSums 63 = .ok (.isub, 1) := by decide +kernel
theorem dX2_moveSums_64 : decode cX2_moveSums 64 = .ok (.iload_n 1, 1) := by decide +kernel
theorem dX2_moveSums_65 : decode cX2_moveSums 65 = .ok (.isub, 1) := by decide +kernel
theorem dX2_moveSums_66 : decode cX2_moveSums 66 = .ok (.invokestatic 49, 3) := by decide +kernel
theorem dX2_moveSums_69 : decode cX2_moveSums 69 = .ok (.putfield 31, 3) := by decide +kernel
theorem dX2_moveSums_72 : decode cX2_moveSums 72 = .ok (.return_, 1) := by decide +kernel
theorem dX3_init_0 : decode cX3_init 0 = .ok (.aload_n 0, 1) := by decide +kernel
theorem dX3_init_1 : decode cX3_init 1 = .ok (.invokespecial 3, 3) := by decide +kernel
theorem dX3_init_4 : decode cX3_init 4 = .ok (.aload_n 0, 1) := by decide +kernel
theorem dX3_init_5 : decode cX3_init 5 = .ok (.bipush 120, 2) := by decide +kernel
theorem dX3_init_7 : decode cX3_init 7 = .ok (.newarray .boolean, 2) := by decide +kernel
theorem dX3_init_9 : decode cX3_init 9 = .ok (.putfield 9, 3) := by decide +kernel
theorem dX3_init_12 : decode cX3_init 12 = .ok (.aload_n 0, 1) := by decide +kernel
theorem dX3_init_13 : decode cX3_init 13 = .ok (.iconst 0, 1) := by decide +kernel
theorem dX3_init_14 : decode cX3_init 14 = .ok (.putfield 15, 3) := by decide +kernel
theorem dX3_init_17 : decode cX3_init 17 = .ok (.aload_n 0, 1) := by decide +kernel
theorem dX3_init_18 : decode cX3_init 18 = .ok (.iconst 0, 1) := by decide +kernel
theorem dX3_init_19 : decode cX3_init 19 = .ok (.putfield 19, 3) := by decide +kernel
theorem dX3_init_22 : decode cX3_init 22 = .ok (.aload_n 0, 1) := by decide +kernel
theorem dX3_init_23 : decode cX3_init 23 = .ok (.iconst 0, 1) := by decide +kernel
theorem dX3_init_24 : decode cX3_init 24 = .ok (.putfield 22, 3) := by decide +kernel
theorem dX3_init_27 : decode cX3_init 27 = .ok (.return_, 1) := by decide +kernel
theorem dX3_join_0 : decode cX3_join 0 = .ok (.iconst 0, 1) := by decide +kernel
theorem dX3_join_1 : decode cX3_join 1 = .ok (.istore_n 1, 1) := by decide +kernel
theorem dX3_join_2 : decode cX3_join 2 = .ok (.iload_n 1, 1) := by decide +kernel
theorem dX3_join_3 : decode cX3_join 3 = .ok (.bipush 120, 2) := by decide +kernel
theorem dX3_join_5 : decode cX3_join 5 = .ok (.if_icmp .ge 16, 3) := by decide +kernel
theorem dX3_join_8 : decode cX3_join 8 = .ok (.aload_n 0, 1) := by decide +kernel
theorem dX3_join_9 : decode cX3_join 9 = .ok (.getfield 9, 3) := by decide +kernel
theorem dX3_join_12 : decode cX3_join 12 = .ok (.iload_n 1, 1) := by decide +kernel
theorem dX3_join_13 : decode cX3_join 13 = .ok (.iconst 0, 1) := by decide +kernel
theorem dX3_join_14 : decode cX3_join 14 = .ok (.bastore, 1) := by decide +kernel
theorem dX3_join_15 : decode cX3_join 15 = .ok (.iinc 1 1, 3) := by decide +kernel
theorem dX3_join_18 : decode cX3_join 18 = .ok (.goto (-16), 3) := by decide +kernel
theorem dX3_join_21 : decode cX3_join 21 = .ok (.aload_n 0, 1) := by decide +kernel
theorem dX3_join_22 : decode cX3_join 22 = .ok (.iconst 0, 1) := by decide +kernel
theorem dX3_join_23 : decode cX3_join 23 = .ok (.putfield 15, 3) := by decide +kernel
theorem dX3_join_26 : decode cX3_join 26 = .ok (.return_, 1) := by decide +kernel
theorem dX3_cut_0 : decode cX3_cut 0 = .ok (.aload_n 0, 1) := by decide +kernel
theorem dX3_cut_1 : decode cX3_cut 1 = .ok (.getfield 9, 3) := by decide +kernel
theorem dX3_cut_4 : decode cX3_cut 4 = .ok (.iload_n 1, 1) := by decide +kernel
theorem dX3_cut_5 : decode cX3_cut 5 = .ok (.iconst 1, 1) := by decide +kernel
theorem dX3_cut_6 : decode cX3_cut 6 = .ok (.bastore, 1) := by decide +kernel
theorem dX3_cut_7 : decode cX3_cut 7 = .ok (.aload_n 0, 1) := by decide +kernel
theorem dX3_cut_8 : decode cX3_cut 8 = .ok (.dup, 1) := by decide +kernel
theorem dX3_cut_9 : decode cX3_cut 9 = .ok (.getfield 15, 3) := by decide +kernel
theorem dX3_cut_12 : decode cX3_cut 12 = .ok (.iconst 1, 1) := by decide +kernel
theorem dX3_cut_13 : decode cX3_cut 13 = .ok (.iadd, 1) := by decide +kernel
theorem dX3_cut_14 : decode cX3_cut 14 = .ok (.putfield 15, 3) := by decide +kernel
theorem dX3_cut_17 : decode cX3_cut 17 = .ok (.return_, 1) := by decide +kernel
theorem dX3_settle_0 : decode cX3_settle 0 = .ok (.aload_n 0, 1) := by decide +kernel
theorem dX3_settle_1 : decode cX3_settle 1 = .ok (.aload_n 0, 1) := by decide +kernel
theorem dX3_settle_2 : decode cX3_settle 2 = .ok (.getfield 15, 3) := by decide +kernel
theorem dX3_settle_5 : decode cX3_settle 5 = .ok (.iload_n 3, 1) := by decide +kernel
theorem dX3_settle_6 : decode cX3_settle 6 = .ok (.imul, 1) := by decide +kernel
theorem dX3_settle_7 : decode cX3_settle 7 = .ok (.putfield 19, 3) := by decide +kernel
theorem dX3_settle_10 : decode cX3_settle 10 = .ok (.iconst 0, 1) := by decide +kernel
theorem dX3_settle_11 : decode cX3_settle 11 = .ok (.istore 4, 2) := by decide +kernel
theorem dX3_settle_13 : decode cX3_settle 13 = .ok (.iconst 1, 1) := by decide +kernel
theorem dX3_settle_14 : decode cX3_settle 14 = .ok (.istore 5, 2) := by decide +kernel
theorem dX3_settle_16 : decode cX3_settle 16 = .ok (.iload 5, 2) := by decide +kernel
theorem dX3_settle_18 : decode cX3_settle 18 = .ok (.iload_n 2, 1) := by decide +kernel
theorem dX3_settle_19 : decode cX3_settle 19 = .ok (.if_icmp .gt 46, 3) := by decide +kernel
theorem dX3_settle_22 : decode cX3_settle 22 = .ok (.iload 5, 2) := by decide +kernel
theorem dX3_settle_24 : decode cX3_settle 24 = .ok (.iload_n 2, 1) := by decide +kernel
theorem dX3_settle_25 : decode cX3_settle 25 = .ok (.if_icmp .eq 13, 3) := by decide +kernel
theorem dX3_settle_28 : decode cX3_settle 28 = .ok (.aload_n 0, 1) := by decide +kernel
theorem dX3_settle_29 : decode cX3_settle 29 = .ok (.getfield 9, 3) := by decide +kernel
theorem dX3_settle_32 : decode cX3_settle 32 = .ok (.iload 5, 2) := by decide +kernel
theorem dX3_settle_34 : decode cX3_settle 34 = .ok (.baload, 1) := by decide +kernel
theorem dX3_settle_35 : decode cX3_settle 35 = .ok (.ifCond .eq 24, 3) := by decide +kernel
theorem dX3_settle_38 : decode cX3_settle 38 = .ok (.aload_n 0, 1) := by decide +kernel
theorem dX3_settle_39 : decode cX3_settle 39 = .ok (.dup, 1) := by decide +kernel
theorem dX3_settle_40 : decode cX3_settle 40 = .ok (.getfield 19, 3) := by decide +kernel
theorem dX3_settle_43 : decode cX3_settle 43 = .ok (.aload_n 1, 1) := by decide +kernel
theorem dX3_settle_44 : decode cX3_settle 44 = .ok (.iload 4, 2) := by decide +kernel
theorem dX3_settle_46 : decode cX3_settle 46 = .ok (.iload 5, 2) := by decide +kernel
theorem dX3_settle_48 : decode cX3_settle 48 = .ok (.invokevirtual 26, 3) := by decide +kernel
theorem dX3_settle_51 : decode cX3_settle 51 = .ok (.iadd, 1) := by decide +kernel
theorem dX3_settle_52 : decode cX3_settle 52 = .ok (.putfield 19, 3) := by decide +kernel
theorem dX3_settle_55 : decode cX3_settle 55 = .ok (.iload 5, 2) := by decide +kernel
theorem dX3_settle_57 : decode cX3_settle 57 = .ok (.istore 4, 2) := by decide +kernel
theorem dX3_settle_59 : decode cX3_settle 59 = .ok (.iinc 5 1, 3) := by decide +kernel
theorem dX3_settle_62 : decode cX3_settle 62 = .ok (.goto (-46), 3) := by decide +kernel
theorem dX3_settle_65 : decode cX3_settle 65 = .ok (.aload_n 0, 1) := by decide +kernel
theorem dX3_settle_66 : decode cX3_settle 66 = .ok (.iconst 1, 1) := by decide +kernel
theorem dX3_settle_67 : decode cX3_settle 67 = .ok (.putfield 22, 3) := by decide +kernel
theorem dX3_settle_70 : decode cX3_settle 70 = .ok (.return_, 1) := by decide +kernel
theorem dX3_endOfSegment_0 : decode cX3_endOfSegment 0 = .ok (.iload_n 1, 1) := by decide +kernel
theorem dX3_endOfSegment_1 : decode cX3_endOfSegment 1 = .ok (.iconst 1, 1) := by decide +kernel
theorem dX3_endOfSegment_2 : decode cX3_endOfSegment 2 = .ok (.iadd, 1) := by decide +kernel
theorem dX3_endOfSegment_3 : decode cX3_endOfSegment 3 = .ok (.istore_n 3, 1) := by decide +kernel
theorem dX3_endOfSegment_4 : decode cX3_endOfSegment 4 = .ok (.iload_n 3, 1) := by decide +kernel
theorem dX3_endOfSegment_5 : decode cX3_endOfSegment 5 = .ok (.iload_n 2, 1) := by decide +kernel
theorem dX3_endOfSegment_6 : decode cX3_endOfSegment 6 = .ok (.if_icmp .ge 20, 3) := by decide +kernel
theorem dX3_endOfSegment_9 : decode cX3_endOfSegment 9 = .ok (.aload_n 0, 1) := by decide +kernel
theorem dX3_endOfSegment_10 : decode cX3_endOfSegment 10 = .ok (.getfield 9, 3) := by decide +kernel
theorem dX3_endOfSegment_13 : decode cX3_endOfSegment 13 = .ok (.iload_n 3, 1) := by decide +kernel
theorem dX3_endOfSegment_14 : decode cX3_endOfSegment 14 = .ok (.baload, 1) := by decide +kernel
theorem dX3_endOfSegment_15 : decode cX3_endOfSegment 15 = .ok (.ifCond .eq 5, 3) := by decide +kernel
theorem dX3_endOfSegment_18 : decode cX3_endOfSegment 18 = .ok (.iload_n 3, 1) := by decide +kernel
theorem dX3_endOfSegment_19 : decode cX3_endOfSegment 19 = .ok (.ireturn, 1) := by decide +kernel
theorem dX3_endOfSegment_20 : decode cX3_endOfSegment 20 = .ok (.iinc 3 1, 3) := by decide +kernel
theorem dX3_endOfSegment_23 : decode cX3_endOfSegment 23 = .ok (.goto (-19), 3) := by decide +kernel
theorem dX3_endOfSegment_26 : decode cX3_endOfSegment 26 = .ok (.iload_n 2, 1) := by decide +kernel
theorem dX3_endOfSegment_27 : decode cX3_endOfSegment 27 = .ok (.ireturn, 1) := by decide +kernel
theorem dX3_has_0 : decode cX3_has 0 = .ok (.iload_n 1, 1) := by decide +kernel
theorem dX3_has_1 : decode cX3_has 1 = .ok (.ifCond .lt 15, 3) := by decide +kernel
theorem dX3_has_4 : decode cX3_has 4 = .ok (.iload_n 1, 1) := by decide +kernel
theorem dX3_has_5 : decode cX3_has 5 = .ok (.aload_n 0, 1) := by decide +kernel
theorem dX3_has_6 : decode cX3_has 6 = .ok (.getfield 15, 3) := by decide +kernel
theorem dX3_has_9 : decode cX3_has 9 = .ok (.if_icmp .ge 7, 3) := by decide +kernel
theorem dX3_has_12 : decode cX3_has 12 = .ok (.iconst 1, 1) := by decide +kernel
theorem dX3_has_13 : decode cX3_has 13 = .ok (.goto 4, 3) := by decide +kernel
theorem dX3_has_16 : decode cX3_has 16 = .ok (.iconst 0, 1) := by decide +kernel
theorem dX3_has_17 : decode cX3_has 17 = .ok (.ireturn, 1) := by decide +kernel
theorem dX3_numberAt_0 : decode cX3_numberAt 0 = .ok (.iconst 0, 1) := by decide +kernel
theorem dX3_numberAt_1 : decode cX3_numberAt 1 = .ok (.istore_n 2, 1) := by decide +kernel
theorem dX3_numberAt_2 : decode cX3_numberAt 2 = .ok (.iconst 0, 1) := by decide +kernel
theorem dX3_numberAt_3 : decode cX3_numberAt 3 = .ok (.istore_n 3, 1) := by decide +kernel
theorem dX3_numberAt_4 : decode cX3_numberAt 4 = .ok (.iload_n 3, 1) := by decide +kernel
theorem dX3_numberAt_5 : decode cX3_numberAt 5 = .ok (.bipush 120, 2) := by decide +kernel
theorem dX3_numberAt_7 : decode cX3_numberAt 7 = .ok (.if_icmp .ge 28, 3) := by decide +kernel
theorem dX3_numberAt_10 : decode cX3_numberAt 10 = .ok (.aload_n 0, 1) := by decide +kernel
theorem dX3_numberAt_11 : decode cX3_numberAt 11 = .ok (.getfield 9, 3) := by decide +kernel
theorem dX3_numberAt_14 : decode cX3_numberAt 14 = .ok (.iload_n 3, 1) := by decide +kernel
theorem dX3_numberAt_15 : decode cX3_numberAt 15 = .ok (.baload, 1) := by decide +kernel
theorem dX3_numberAt_16 : decode cX3_numberAt 16 = .ok (.ifCond .eq 13, 3) := by decide +kernel
theorem dX3_numberAt_19 : decode cX3_numberAt 19 = .ok (.iload_n 2, 1) := by decide +kernel
theorem dX3_numberAt_20 : decode cX3_numberAt 20 = .ok (.iload_n 1, 1) := by decide +kernel
theorem dX3_numberAt_21 : decode cX3_numberAt 21 = .ok (.if_icmp .ne 5, 3) := by decide +kernel
theorem dX3_numberAt_24 : decode cX3_numberAt 24 = .ok (.iload_n 3, 1) := by decide +kernel
theorem dX3_numberAt_25 : decode cX3_numberAt 25 = .ok (.ireturn, 1) := by decide +kernel
theorem dX3_numberAt_26 : decode cX3_numberAt 26 = .ok (.iinc 2 1, 3) := by decide +kernel
theorem dX3_numberAt_29 : decode cX3_numberAt 29 = .ok (.iinc 3 1, 3) := by decide +kernel
theorem dX3_numberAt_32 : decode cX3_numberAt 32 = .ok (.goto (-28), 3) := by decide +kernel
theorem dX3_numberAt_35 : decode cX3_numberAt 35 = .ok (.iconst 0, 1) := by decide +kernel
theorem dX3_numberAt_36 : decode cX3_numberAt 36 = .ok (.ireturn, 1) := by decide +kernel
theorem dX4_find_0 : decode cX4_find 0 = .ok (.aload_n 3, 1) := by decide +kernel
theorem dX4_find_1 : decode cX4_find 1 = .ok (.invokevirtual 7, 3) := by decide +kernel
theorem dX4_find_4 : decode cX4_find 4 = .ok (.iconst 1, 1) := by decide +kernel
theorem dX4_find_5 : decode cX4_find 5 = .ok (.istore 4, 2) := by decide +kernel
theorem dX4_find_7 : decode cX4_find 7 = .ok (.iload 4, 2) := by decide +kernel
theorem dX4_find_9 : decode cX4_find 9 = .ok (.iload_n 1, 1) := by decide +kernel
theorem dX4_find_10 : decode cX4_find 10 = .ok (.if_icmp .ge 30, 3) := by decide +kernel
theorem dX4_find_13 : decode cX4_find 13 = .ok (.aload_n 0, 1) := by decide +kernel
theorem dX4_find_14 : decode cX4_find 14 = .ok (.iload_n 1, 1) := by decide +kernel
theorem dX4_find_15 : decode cX4_find 15 = .ok (.iload_n 2, 1) := by decide +kernel
theorem dX4_find_16 : decode cX4_find 16 = .ok (.aload_n 3, 1) := by decide +kernel
theorem dX4_find_17 : decode cX4_find 17 = .ok (.invokestatic 12, 3) := by decide +kernel
theorem dX4_find_20 : decode cX4_find 20 = .ok (.istore 5, 2) := by decide +kernel
theorem dX4_find_22 : decode cX4_find 22 = .ok (.iload 5, 2) := by decide +kernel
theorem dX4_find_24 : decode cX4_find 24 = .ok (.ifCond .ne 4, 3) := by decide +kernel
theorem dX4_find_27 : decode cX4_find 27 = .ok (.return_, 1) := by decide +kernel
theorem dX4_find_28 : decode cX4_find 28 = .ok (.aload_n 3, 1) := by decide +kernel
theorem dX4_find_29 : decode cX4_find 29 = .ok (.iload 5, 2) := by decide +kernel
theorem dX4_find_31 : decode cX4_find 31 = .ok (.invokevirtual 18, 3) := by decide +kernel
theorem dX4_find_34 : decode cX4_find 34 = .ok (.iinc 4 1, 3) := by decide +kernel
theorem dX4_find_37 : decode cX4_find 37 = .ok (.goto (-30), 3) := by decide +kernel
theorem dX4_find_40 : decode cX4_find 40 = .ok (.return_, 1) := by decide +kernel
theorem dX4_numberOfGreatestGain_0 : decode cX4_numberOfGreatestGain 0 = .ok (.iload_n 2, 1) := by decide +kernel
theorem dX4_numberOfGreatestGain_1 : decode cX4_numberOfGreatestGain 1 = .ok (.istore 4, 2) := by decide +kernel
theorem dX4_numberOfGreatestGain_3 : decode cX4_numberOfGreatestGain 3 = .ok (.iconst 0, 1) := by decide +kernel
theorem dX4_numberOfGreatestGain_4 : decode cX4_numberOfGreatestGain 4 = .ok (.istore 5, 2) := by decide +kernel
theorem dX4_numberOfGreatestGain_6 : decode cX4_numberOfGreatestGain 6 = .ok (.iconst 0, 1) := by decide +kernel
theorem dX4_numberOfGreatestGain_7 : decode cX4_numberOfGreatestGain 7 = .ok (.istore 6, 2) := by decide +kernel
theorem dX4_numberOfGreatestGain_9 : decode cX4_numberOfGreatestGain 9 = .ok (.aload_n 3, 1) := by decide +kernel
theorem dX4_numberOfGreatestGain_10 : decode cX4_numberOfGreatestGain 10 = .ok (.iconst 0, 1) := by decide +kernel
theorem dX4_numberOfGreatestGain_11 : decode cX4_numberOfGreatestGain 11 = .ok (.iload_n 1, 1) := by decide +kernel
theorem dX4_numberOfGreatestGain_12 : decode cX4_numberOfGreatestGain 12 = .ok (.invokevirtual 22, 3) := by decide +kernel
theorem dX4_numberOfGreatestGain_15 : decode cX4_numberOfGreatestGain 15 = .ok (.istore 7, 2) := by decide +kernel
theorem dX4_numberOfGreatestGain_17 : decode cX4_numberOfGreatestGain 17 = .ok (.iconst 1, 1) := by decide +kernel
theorem dX4_numberOfGreatestGain_18 : decode cX4_numberOfGreatestGain 18 = .ok (.istore 8, 2) := by decide +kernel
theorem dX4_numberOfGreatestGain_20 : decode cX4_numberOfGreatestGain 20 = .ok (.iload 8, 2) := by decide +kernel
theorem dX4_numberOfGreatestGain_22 : decode cX4_numberOfGreatestGain 22 = .ok (.iload_n 1, 1) := by decide +kernel
theorem dX4_numberOfGreatestGain_23 : decode cX4_numberOfGreatestGain 23 = .ok (.if_icmp .ge 75, 3) := by decide +kernel
theorem dX4_numberOfGreatestGain_26 : decode cX4_numberOfGreatestGain 26 = .ok (.iload 8, 2) := by decide +kernel
theorem dX4_numberOfGreatestGain_28 : decode cX4_numberOfGreatestGain 28 = .ok (.iload 7, 2) := by decide +kernel
theorem dX4_numberOfGreatestGain_30 : decode cX4_numberOfGreatestGain 30 = .ok (.if_icmp .ne 19, 3) := by decide +kernel
theorem dX4_numberOfGreatestGain_33 : decode cX4_numberOfGreatestGain 33 = .ok (.iload 8, 2) := by decide +kernel
theorem dX4_numberOfGreatestGain_35 : decode cX4_numberOfGreatestGain 35 = .ok (.istore 6, 2) := by decide +kernel
theorem dX4_numberOfGreatestGain_37 : decode cX4_numberOfGreatestGain 37 = .ok (.aload_n 3, 1) := by decide +kernel
theorem dX4_numberOfGreatestGain_38 : decode cX4_numberOfGreatestGain 38 = .ok (.iload 8, 2) := by decide +kernel
theorem dX4_numberOfGreatestGain_40 : decode cX4_numberOfGreatestGain 40 = .ok (.iload_n 1, 1) := by decide +kernel
theorem dX4_numberOfGreatestGain_41 : decode cX4_numberOfGreatestGain 41 = .ok (.invokevirtual 22, 3) := by decide +kernel
theorem dX4_numberOfGreatestGain_44 : decode cX4_numberOfGreatestGain 44 = .ok (.istore 7, 2) := by decide +kernel
theorem dX4_numberOfGreatestGain_46 : decode cX4_numberOfGreatestGain 46 = .ok (.goto 46, 3) := by decide +kernel
theorem dX4_numberOfGreatestGain_49 : decode cX4_numberOfGreatestGain 49 = .ok (.aload_n 0, 1) := by decide +kernel
theorem dX4_numberOfGreatestGain_50 : decode cX4_numberOfGreatestGain 50 = .ok (.iload 6, 2) := by decide +kernel
theorem dX4_numberOfGreatestGain_52 : decode cX4_numberOfGreatestGain 52 = .ok (.iload 7, 2) := by decide +kernel
theorem dX4_numberOfGreatestGain_54 : decode cX4_numberOfGreatestGain 54 = .ok (.invokevirtual 26, 3) := by decide +kernel
theorem dX4_numberOfGreatestGain_57 : decode cX4_numberOfGreatestGain 57 = .ok (.aload_n 0, 1) := by decide +kernel
theorem dX4_numberOfGreatestGain_58 : decode cX4_numberOfGreatestGain 58 = .ok (.iload 6, 2) := by decide +kernel
theorem dX4_numberOfGreatestGain_60 : decode cX4_numberOfGreatestGain 60 = .ok (.iload 8, 2) := by decide +kernel
theorem dX4_numberOfGreatestGain_62 : decode cX4_numberOfGreatestGain 62 = .ok (.invokevirtual 26, 3) := by decide +kernel
theorem dX4_numberOfGreatestGain_65 : decode cX4_numberOfGreatestGain 65 = .ok (.isub, 1) := by decide +kernel
theorem dX4_numberOfGreatestGain_66 : decode cX4_numberOfGreatestGain 66 = .ok (.aload_n 0, 1) := by decide +kernel
theorem dX4_numberOfGreatestGain_67 : decode cX4_numberOfGreatestGain 67 = .ok (.iload 8, 2) := by decide +kernel
theorem dX4_numberOfGreatestGain_69 : decode cX4_numberOfGreatestGain 69 = .ok (.iload 7, 2) := by decide +kernel
theorem dX4_numberOfGreatestGain_71 : decode cX4_numberOfGreatestGain 71 = .ok (.invokevirtual 26, 3) := by decide +kernel
theorem dX4_numberOfGreatestGain_74 : decode cX4_numberOfGreatestGain 74 = .ok (.isub, 1) := by decide +kernel
theorem dX4_numberOfGreatestGain_75 : decode cX4_numberOfGreatestGain 75 = .ok (.istore 9, 2) := by decide +kernel
theorem dX4_numberOfGreatestGain_77 : decode cX4_numberOfGreatestGain 77 = .ok (.iload 9, 2) := by decide +kernel
theorem dX4_numberOfGreatestGain_79 : decode cX4_numberOfGreatestGain 79 = .ok (.iload 4, 2) := by decide +kernel
theorem dX4_numberOfGreatestGain_81 : decode cX4_numberOfGreatestGain 81 = .ok (.if_icmp .le 11, 3) := by decide +kernel
theorem dX4_numberOfGreatestGain_84 : decode cX4_numberOfGreatestGain 84 = .ok (.iload 9, 2) := by decide +kernel
theorem dX4_numberOfGreatestGain_86 : decode cX4_numberOfGreatestGain 86 = .ok (.istore 4, 2) := by decide +kernel
theorem dX4_numberOfGreatestGain_88 : decode cX4_numberOfGreatestGain 88 = .ok (.iload 8, 2) := by decide +kernel
theorem dX4_numberOfGreatestGain_90 : decode cX4_numberOfGreatestGain 90 = .ok (.istore 5, 2) := by decide +kernel
theorem dX4_numberOfGreatestGain_92 : decode cX4_numberOfGreatestGain 92 = .ok (.iinc 8 1, 3) := by decide +kernel
theorem dX4_numberOfGreatestGain_95 : decode cX4_numberOfGreatestGain 95 = .ok (.goto (-75), 3) := by decide +kernel
theorem dX4_numberOfGreatestGain_98 : decode cX4_numberOfGreatestGain 98 = .ok (.iload 5, 2) := by decide +kernel
theorem dX4_numberOfGreatestGain_100 : decode cX4_numberOfGreatestGain 100 = .ok (.ireturn, 1) := by decide +kernel
theorem dX5_init_0 : decode cX5_init 0 = .ok (.aload_n 0, 1) := by decide +kernel
theorem dX5_init_1 : decode cX5_init 1 = .ok (.invokespecial 3, 3) := by decide +kernel
theorem dX5_init_4 : decode cX5_init 4 = .ok (.aload_n 0, 1) := by decide +kernel
theorem dX5_init_5 : decode cX5_init 5 = .ok (.bipush 120, 2) := by decide +kernel
theorem dX5_init_7 : decode cX5_init 7 = .ok (.invokestatic 9, 3) := by decide +kernel
theorem dX5_init_10 : decode cX5_init 10 = .ok (.newarray .int, 2) := by decide +kernel
theorem dX5_init_12 : decode cX5_init 12 = .ok (.putfield 15, 3) := by decide +kernel
theorem dX5_init_15 : decode cX5_init 15 = .ok (.aload_n 0, 1) := by decide +kernel
theorem dX5_init_16 : decode cX5_init 16 = .ok (.iconst 0, 1) := by decide +kernel
theorem dX5_init_17 : decode cX5_init 17 = .ok (.putfield 21, 3) := by decide +kernel
theorem dX5_init_20 : decode cX5_init 20 = .ok (.return_, 1) := by decide +kernel
theorem dX5_forget_0 : decode cX5_forget 0 = .ok (.aload_n 0, 1) := by decide +kernel
theorem dX5_forget_1 : decode cX5_forget 1 = .ok (.iconst 0, 1) := by decide +kernel
theorem dX5_forget_2 : decode cX5_forget 2 = .ok (.putfield 21, 3) := by decide +kernel
theorem dX5_forget_5 : decode cX5_forget 5 = .ok (.return_, 1) := by decide +kernel
theorem dX5_learn_0 : decode cX5_learn 0 = .ok (.aload_n 0, 1) := by decide +kernel
theorem dX5_learn_1 : decode cX5_learn 1 = .ok (.getfield 21, 3) := by decide +kernel
theorem dX5_learn_4 : decode cX5_learn 4 = .ok (.iconst 1, 1) := by decide +kernel
theorem dX5_learn_5 : decode cX5_learn 5 = .ok (.iadd, 1) := by decide +kernel
theorem dX5_learn_6 : decode cX5_learn 6 = .ok (.istore_n 3, 1) := by decide +kernel
theorem dX5_learn_7 : decode cX5_learn 7 = .ok (.iload_n 3, 1) := by decide +kernel
theorem dX5_learn_8 : decode cX5_learn 8 = .ok (.iload_n 2, 1) := by decide +kernel
theorem dX5_learn_9 : decode cX5_learn 9 = .ok (.if_icmp .gt 20, 3) := by decide +kernel
theorem dX5_learn_12 : decode cX5_learn 12 = .ok (.aload_n 0, 1) := by decide +kernel
theorem dX5_learn_13 : decode cX5_learn 13 = .ok (.aload_n 1, 1) := by decide +kernel
theorem dX5_learn_14 : decode cX5_learn 14 = .ok (.iload_n 3, 1) := by decide +kernel
theorem dX5_learn_15 : decode cX5_learn 15 = .ok (.invokevirtual 25, 3) := by decide +kernel
theorem dX5_learn_18 : decode cX5_learn 18 = .ok (.aload_n 0, 1) := by decide +kernel
theorem dX5_learn_19 : decode cX5_learn 19 = .ok (.iload_n 3, 1) := by decide +kernel
theorem dX5_learn_20 : decode cX5_learn 20 = .ok (.putfield 21, 3) := by decide +kernel
theorem dX5_learn_23 : decode cX5_learn 23 = .ok (.iinc 3 1, 3) := by decide +kernel
theorem dX5_learn_26 : decode cX5_learn 26 = .ok (.goto (-19), 3) := by decide +kernel
theorem dX5_learn_29 : decode cX5_learn 29 = .ok (.return_, 1) := by decide +kernel
theorem dX5_of_0 : decode cX5_of 0 = .ok (.aload_n 0, 1) := by decide +kernel
theorem dX5_of_1 : decode cX5_of 1 = .ok (.getfield 15, 3) := by decide +kernel
theorem dX5_of_4 : decode cX5_of 4 = .ok (.iload_n 2, 1) := by decide +kernel
theorem dX5_of_5 : decode cX5_of 5 = .ok (.iconst 1, 1) := by decide +kernel
theorem dX5_of_6 : decode cX5_of 6 = .ok (.isub, 1) := by decide +kernel
theorem dX5_of_7 : decode cX5_of 7 = .ok (.invokestatic 9, 3) := by decide +kernel
theorem dX5_of_10 : decode cX5_of 10 = .ok (.iload_n 1, 1) := by decide +kernel
theorem dX5_of_11 : decode cX5_of 11 = .ok (.iadd, 1) := by decide +kernel
theorem dX5_of_12 : decode cX5_of 12 = .ok (.iaload, 1) := by decide +kernel
theorem dX5_of_13 : decode cX5_of 13 = .ok (.ireturn, 1) := by decide +kernel
theorem dX5_learnCuttingsTo_0 : decode cX5_learnCuttingsTo 0 = .ok (.iload_n 2, 1) := by decide +kernel
theorem dX5_learnCuttingsTo_1 : decode cX5_learnCuttingsTo 1 = .ok (.iconst 1, 1) := by decide +kernel
theorem dX5_learnCuttingsTo_2 : decode cX5_learnCuttingsTo 2 = .ok (.isub, 1) := by decide +kernel
theorem dX5_learnCuttingsTo_3 : decode cX5_learnCuttingsTo 3 = .ok (.invokestatic 9, 3) := by decide +kernel
theorem dX5_learnCuttingsTo_6 : decode cX5_learnCuttingsTo 6 = .ok (.istore_n 3, 1) := by decide +kernel
theorem dX5_learnCuttingsTo_7 : decode cX5_learnCuttingsTo 7 = .ok (.aload_n 0, 1) := by decide +kernel
theorem dX5_learnCuttingsTo_8 : decode cX5_learnCuttingsTo 8 = .ok (.getfield 15, 3) := by decide +kernel
theorem dX5_learnCuttingsTo_11 : decode cX5_learnCuttingsTo 11 = .ok (.iload_n 3, 1) := by decide +kernel
theorem dX5_learnCuttingsTo_12 : decode cX5_learnCuttingsTo 12 = .ok (.aload_n 1, 1) := by decide +kernel
theorem dX5_learnCuttingsTo_13 : decode cX5_learnCuttingsTo 13 = .ok (.iconst 0, 1) := by decide +kernel
theorem dX5_learnCuttingsTo_14 : decode cX5_learnCuttingsTo 14 = .ok (.iload_n 2, 1) := by decide +kernel
theorem dX5_learnCuttingsTo_15 : decode cX5_learnCuttingsTo 15 = .ok (.invokevirtual 29, 3) := by decide +kernel
theorem dX5_learnCuttingsTo_18 : decode cX5_learnCuttingsTo 18 = .ok (.iastore, 1) := by decide +kernel
theorem dX5_learnCuttingsTo_19 : decode cX5_learnCuttingsTo 19 = .ok (.iconst 1, 1) := by decide +kernel
theorem dX5_learnCuttingsTo_20 : decode cX5_learnCuttingsTo 20 = .ok (.istore 4, 2) := by decide +kernel
theorem dX5_learnCuttingsTo_22 : decode cX5_learnCuttingsTo 22 = .ok (.iload 4, 2) := by decide +kernel
theorem dX5_learnCuttingsTo_24 : decode cX5_learnCuttingsTo 24 = .ok (.iload_n 2, 1) := by decide +kernel
theorem dX5_learnCuttingsTo_25 : decode cX5_learnCuttingsTo 25 = .ok (.if_icmp .ge 26, 3) := by decide +kernel
theorem dX5_learnCuttingsTo_28 : decode cX5_learnCuttingsTo 28 = .ok (.aload_n 0, 1) := by decide +kernel
theorem dX5_learnCuttingsTo_29 : decode cX5_learnCuttingsTo 29 = .ok (.getfield 15, 3) := by decide +kernel
theorem dX5_learnCuttingsTo_32 : decode cX5_learnCuttingsTo 32 = .ok (.iload_n 3, 1) := by decide +kernel
theorem dX5_learnCuttingsTo_33 : decode cX5_learnCuttingsTo 33 = .ok (.iload 4, 2) := by decide +kernel
theorem dX5_learnCuttingsTo_35 : decode cX5_learnCuttingsTo 35 = .ok (.iadd, 1) := by decide +kernel
theorem dX5_learnCuttingsTo_36 : decode cX5_learnCuttingsTo 36 = .ok (.aload_n 0, 1) := by decide +kernel
theorem dX5_learnCuttingsTo_37 : decode cX5_learnCuttingsTo 37 = .ok (.aload_n 1, 1) := by decide +kernel
theorem dX5_learnCuttingsTo_38 : decode cX5_learnCuttingsTo 38 = .ok (.iload 4, 2) := by decide +kernel
theorem dX5_learnCuttingsTo_40 : decode cX5_learnCuttingsTo 40 = .ok (.iload_n 2, 1) := by decide +kernel
theorem dX5_learnCuttingsTo_41 : decode cX5_learnCuttingsTo 41 = .ok (.invokevirtual 33, 3) := by decide +kernel
theorem dX5_learnCuttingsTo_44 : decode cX5_learnCuttingsTo 44 = .ok (.iastore, 1) := by decide +kernel
theorem dX5_learnCuttingsTo_45 : decode cX5_learnCuttingsTo 45 = .ok (.iinc 4 1, 3) := by decide +kernel
theorem dX5_learnCuttingsTo_48 : decode cX5_learnCuttingsTo 48 = .ok (.goto (-26), 3) := by decide +kernel
theorem dX5_learnCuttingsTo_51 : decode cX5_learnCuttingsTo 51 = .ok (.return_, 1) := by decide +kernel
theorem dX5_leastWithLastSegment_0 : decode cX5_leastWithLastSegment 0 = .ok (.ldc 39, 2) := by decide +kernel
theorem dX5_leastWithLastSegment_2 : decode cX5_leastWithLastSegment 2 = .ok (.istore 4, 2) := by decide +kernel
theorem dX5_leastWithLastSegment_4 : decode cX5_leastWithLastSegment 4 = .ok (.iload_n 2, 1) := by decide +kernel
theorem dX5_leastWithLastSegment_5 : decode cX5_leastWithLastSegment 5 = .ok (.istore 5, 2) := by decide +kernel
theorem dX5_leastWithLastSegment_7 : decode cX5_leastWithLastSegment 7 = .ok (.iload 5, 2) := by decide +kernel
theorem dX5_leastWithLastSegment_9 : decode cX5_leastWithLastSegment 9 = .ok (.iload_n 3, 1) := by decide +kernel
theorem dX5_leastWithLastSegment_10 : decode cX5_leastWithLastSegment 10 = .ok (.if_icmp .ge 33, 3) := by decide +kernel
theorem dX5_leastWithLastSegment_13 : decode cX5_leastWithLastSegment 13 = .ok (.iload 4, 2) := by decide +kernel
theorem dX5_leastWithLastSegment_15 : decode cX5_leastWithLastSegment 15 = .ok (.aload_n 0, 1) := by decide +kernel
theorem dX5_leastWithLastSegment_16 : decode cX5_leastWithLastSegment 16 = .ok (.iload_n 2, 1) := by decide +kernel
theorem dX5_leastWithLastSegment_17 : decode cX5_leastWithLastSegment 17 = .ok (.iconst 1, 1) := by decide +kernel
theorem dX5_leastWithLastSegment_18 : decode cX5_leastWithLastSegment 18 = .ok (.isub, 1) := by decide +kernel
theorem dX5_leastWithLastSegment_19 : decode cX5_leastWithLastSegment 19 = .ok (.iload 5, 2) := by decide +kernel
theorem dX5_leastWithLastSegment_21 : decode cX5_leastWithLastSegment 21 = .ok (.invokevirtual 40, 3) := by decide +kernel
theorem dX5_leastWithLastSegment_24 : decode cX5_leastWithLastSegment 24 = .ok (.aload_n 1, 1) := by decide +kernel
theorem dX5_leastWithLastSegment_25 : decode cX5_leastWithLastSegment 25 = .ok (.iload 5, 2) := by decide +kernel
theorem dX5_leastWithLastSegment_27 : decode cX5_leastWithLastSegment 27 = .ok (.iload_n 3, 1) := by decide +kernel
theorem dX5_leastWithLastSegment_28 : decode cX5_leastWithLastSegment 28 = .ok (.invokevirtual 29, 3) := by decide +kernel
theorem dX5_leastWithLastSegment_31 : decode cX5_leastWithLastSegment 31 = .ok (.iadd, 1) := by decide +kernel
theorem dX5_leastWithLastSegment_32 : decode cX5_leastWithLastSegment 32 = .ok (.invokestatic 41, 3) := by decide +kernel
theorem dX5_leastWithLastSegment_35 : decode cX5_leastWithLastSegment 35 = .ok (.istore 4, 2) := by decide +kernel
theorem dX5_leastWithLastSegment_37 : decode cX5_leastWithLastSegment 37 = .ok (.iinc 5 1, 3) := by decide +kernel
theorem dX5_leastWithLastSegment_40 : decode cX5_leastWithLastSegment 40 = .ok (.goto (-33), 3) := by decide +kernel
theorem dX5_leastWithLastSegment_43 : decode cX5_leastWithLastSegment 43 = .ok (.iload 4, 2) := by decide +kernel
theorem dX5_leastWithLastSegment_45 : decode cX5_leastWithLastSegment 45 = .ok (.ireturn, 1) := by decide +kernel
theorem dX6_init_0 : decode cX6_init 0 = .ok (.aload_n 0, 1) := by decide +kernel
theorem dX6_init_1 : decode cX6_init 1 = .ok (.invokespecial 3, 3) := by decide +kernel
theorem dX6_init_4 : decode cX6_init 4 = .ok (.aload_n 0, 1) := by decide +kernel
theorem dX6_init_5 : decode cX6_init 5 = .ok (.iconst 5, 1) := by decide +kernel
theorem dX6_init_6 : decode cX6_init 6 = .ok (.sipush 1000, 3) := by decide +kernel
theorem dX6_init_9 : decode cX6_init 9 = .ok (.bipush 50, 2) := by decide +kernel
theorem dX6_init_11 : decode cX6_init 11 = .ok (.invokevirtual 11, 3) := by decide +kernel
theorem dX6_init_14 : decode cX6_init 14 = .ok (.return_, 1) := by decide +kernel
theorem dX6_setUp_0 : decode cX6_setUp 0 = .ok (.aload_n 0, 1) := by decide +kernel
theorem dX6_setUp_1 : decode cX6_setUp 1 = .ok (.iload_n 1, 1) := by decide +kernel
theorem dX6_setUp_2 : decode cX6_setUp 2 = .ok (.putfield 15, 3) := by decide +kernel
theorem dX6_setUp_5 : decode cX6_setUp 5 = .ok (.aload_n 0, 1) := by decide +kernel
theorem dX6_setUp_6 : decode cX6_setUp 6 = .ok (.iload_n 2, 1) := by decide +kernel
theorem dX6_setUp_7 : decode cX6_setUp 7 = .ok (.putfield 19, 3) := by decide +kernel
theorem dX6_setUp_10 : decode cX6_setUp 10 = .ok (.aload_n 0, 1) := by decide +kernel
theorem dX6_setUp_11 : decode cX6_setUp 11 = .ok (.iload_n 3, 1) := by decide +kernel
theorem dX6_setUp_12 : decode cX6_setUp 12 = .ok (.putfield 22, 3) := by decide +kernel
theorem dX6_setUp_15 : decode cX6_setUp 15 = .ok (.aload_n 0, 1) := by decide +kernel
theorem dX6_setUp_16 : decode cX6_setUp 16 = .ok (.invokevirtual 25, 3) := by decide +kernel
theorem dX6_setUp_19 : decode cX6_setUp 19 = .ok (.return_, 1) := by decide +kernel
theorem dX6_beginAnew_0 : decode cX6_beginAnew 0 = .ok (.aload_n 0, 1) := by decide +kernel
theorem dX6_beginAnew_1 : decode cX6_beginAnew 1 = .ok (.iconst 0, 1) := by decide +kernel
theorem dX6_beginAnew_2 : decode cX6_beginAnew 2 = .ok (.putfield 28, 3) := by decide +kernel
theorem dX6_beginAnew_5 : decode cX6_beginAnew 5 = .ok (.aload_n 0, 1) := by decide +kernel
theorem dX6_beginAnew_6 : decode cX6_beginAnew 6 = .ok (.iconst 0, 1) := by decide +kernel
theorem dX6_beginAnew_7 : decode cX6_beginAnew 7 = .ok (.putfield 31, 3) := by decide +kernel
theorem dX6_beginAnew_10 : decode cX6_beginAnew 10 = .ok (.aload_n 0, 1) := by decide +kernel
theorem dX6_beginAnew_11 : decode cX6_beginAnew 11 = .ok (.iconst 0, 1) := by decide +kernel
theorem dX6_beginAnew_12 : decode cX6_beginAnew 12 = .ok (.putfield 34, 3) := by decide +kernel
theorem dX6_beginAnew_15 : decode cX6_beginAnew 15 = .ok (.aload_n 0, 1) := by decide +kernel
theorem dX6_beginAnew_16 : decode cX6_beginAnew 16 = .ok (.iconst 0, 1) := by decide +kernel
theorem dX6_beginAnew_17 : decode cX6_beginAnew 17 = .ok (.putfield 37, 3) := by decide +kernel
theorem dX6_beginAnew_20 : decode cX6_beginAnew 20 = .ok (.aload_n 0, 1) := by decide +kernel
theorem dX6_beginAnew_21 : decode cX6_beginAnew 21 = .ok (.iconst 0, 1) := by decide +kernel
theorem dX6_beginAnew_22 : decode cX6_beginAnew 22 = .ok (.putfield 40, 3) := by decide +kernel
theorem dX6_beginAnew_25 : decode cX6_beginAnew 25 = .ok (.return_, 1) := by decide +kernel
theorem dX6_watch_0 : decode cX6_watch 0 = .ok (.aload_n 0, 1) := by decide +kernel
theorem dX6_watch_1 : decode cX6_watch 1 = .ok (.iload_n 1, 1) := by decide +kernel
theorem dX6_watch_2 : decode cX6_watch 2 = .ok (.iload_n 2, 1) := by decide +kernel
theorem dX6_watch_3 : decode cX6_watch 3 = .ok (.invokevirtual 43, 3) := by decide +kernel
theorem dX6_watch_6 : decode cX6_watch 6 = .ok (.aload_n 0, 1) := by decide +kernel
theorem dX6_watch_7 : decode cX6_watch 7 = .ok (.getfield 34, 3) := by decide +kernel
theorem dX6_watch_10 : decode cX6_watch 10 = .ok (.aload_n 0, 1) := by decide +kernel
theorem dX6_watch_11 : decode cX6_watch 11 = .ok (.getfield 37, 3) := by decide +kernel
theorem dX6_watch_14 : decode cX6_watch 14 = .ok (.isub, 1) := by decide +kernel
theorem dX6_watch_15 : decode cX6_watch 15 = .ok (.aload_n 0, 1) := by decide +kernel
theorem dX6_watch_16 : decode cX6_watch 16 = .ok (.getfield 22, 3) := by decide +kernel
theorem dX6_watch_19 : decode cX6_watch 19 = .ok (.if_icmp .gt 5, 3) := by decide +kernel
theorem dX6_watch_22 : decode cX6_watch 22 = .ok (.iconst 0, 1) := by decide +kernel
theorem dX6_watch_23 : decode cX6_watch 23 = .ok (.ireturn, 1) := by decide +kernel
theorem dX6_watch_24 : decode cX6_watch 24 = .ok (.aload_n 3, 1) := by decide +kernel
theorem dX6_watch_25 : decode cX6_watch 25 = .ok (.iconst 2, 1) := by decide +kernel
theorem dX6_watch_26 : decode cX6_watch 26 = .ok (.iload_n 2, 1) := by decide +kernel
theorem dX6_watch_27 : decode cX6_watch 27 = .ok (.aload_n 0, 1) := by decide +kernel
theorem dX6_watch_28 : decode cX6_watch 28 = .ok (.iload_n 2, 1) := by decide +kernel
theorem dX6_watch_29 : decode cX6_watch 29 = .ok (.invokevirtual 47, 3) := by decide +kernel
theorem dX6_watch_32 : decode cX6_watch 32 = .ok (.invokevirtual 51, 3) := by decide +kernel
theorem dX6_watch_35 : decode cX6_watch 35 = .ok (.aload_n 0, 1) := by decide +kernel
theorem dX6_watch_36 : decode cX6_watch 36 = .ok (.invokevirtual 25, 3) := by decide +kernel
theorem dX6_watch_39 : decode cX6_watch 39 = .ok (.iconst 4, 1) := by decide +kernel
theorem dX6_watch_40 : decode cX6_watch 40 = .ok (.ireturn, 1) := by decide +kernel
theorem dX6_moveSum_0 : decode cX6_moveSum 0 = .ok (.aload_n 0, 1) := by decide +kernel
theorem dX6_moveSum_1 : decode cX6_moveSum 1 = .ok (.dup, 1) := by decide +kernel
theorem dX6_moveSum_2 : decode cX6_moveSum 2 = .ok (.getfield 28, 3) := by decide +kernel
theorem dX6_moveSum_5 : decode cX6_moveSum 5 = .ok (.iconst 1, 1) := by decide +kernel
theorem dX6_moveSum_6 : decode cX6_moveSum 6 = .ok (.iadd, 1) := by decide +kernel
theorem dX6_moveSum_7 : decode cX6_moveSum 7 = .ok (.putfield 28, 3) := by decide +kernel
theorem dX6_moveSum_10 : decode cX6_moveSum 10 = .ok (.aload_n 0, 1) := by decide +kernel
theorem dX6_moveSum_11 : decode cX6_moveSum 11 = .ok (.dup, 1) := by decide +kernel
theorem dX6_moveSum_12 : decode cX6_moveSum 12 = .ok (.getfield 31, 3) := by decide +kernel
theorem dX6_moveSum_15 : decode cX6_moveSum 15 = .ok (.iload_n 1, 1) := by decide +kernel
theorem dX6_moveSum_16 : decode cX6_moveSum 16 = .ok (.iadd, 1) := by decide +kernel
theorem dX6_moveSum_17 : decode cX6_moveSum 17 = .ok (.putfield 31, 3) := by decide +kernel
theorem dX6_moveSum_20 : decode cX6_moveSum 20 = .ok (.aload_n 0, 1) := by decide +kernel
theorem dX6_moveSum_21 : decode cX6_moveSum 21 = .ok (.getfield 31, 3) := by decide +kernel
theorem dX6_moveSum_24 : decode cX6_moveSum 24 = .ok (.aload_n 0, 1) := by decide +kernel
theorem dX6_moveSum_25 : decode cX6_moveSum 25 = .ok (.getfield 28, 3) := by decide +kernel
theorem dX6_moveSum_28 : decode cX6_moveSum 28 = .ok (.invokestatic 56, 3) := by decide +kernel
theorem dX6_moveSum_31 : decode cX6_moveSum 31 = .ok (.istore_n 3, 1) := by decide +kernel
theorem dX6_moveSum_32 : decode cX6_moveSum 32 = .ok (.aload_n 0, 1) := by decide +kernel
theorem dX6_moveSum_33 : decode cX6_moveSum 33 = .ok (.aload_n 0, 1) := by decide +kernel
theorem dX6_moveSum_34 : decode cX6_moveSum 34 = .ok (.getfield 34, 3) := by decide +kernel
theorem dX6_moveSum_37 : decode cX6_moveSum 37 = .ok (.aload_n 0, 1) := by decide +kernel
theorem dX6_moveSum_38 : decode cX6_moveSum 38 = .ok (.getfield 19, 3) := by decide +kernel
theorem dX6_moveSum_41 : decode cX6_moveSum 41 = .ok (.imul, 1) := by decide +kernel
theorem dX6_moveSum_42 : decode cX6_moveSum 42 = .ok (.sipush 1000, 3) := by decide +kernel
theorem dX6_moveSum_45 : decode cX6_moveSum 45 = .ok (.idiv, 1) := by decide +kernel
theorem dX6_moveSum_46 : decode cX6_moveSum 46 = .ok (.iload_n 1, 1) := by decide +kernel
theorem dX6_moveSum_47 : decode cX6_moveSum 47 = .ok (.iadd, 1) := by decide +kernel
theorem dX6_moveSum_48 : decode cX6_moveSum 48 = .ok (.iload_n 3, 1) := by decide +kernel
theorem dX6_moveSum_49 : decode cX6_moveSum 49 = .ok (.isub, 1) := by decide +kernel
theorem dX6_moveSum_50 : decode cX6_moveSum 50 = .ok (.aload_n 0, 1) := by decide +kernel
theorem dX6_moveSum_51 : decode cX6_moveSum 51 = .ok (.getfield 15, 3) := by decide +kernel
theorem dX6_moveSum_54 : decode cX6_moveSum 54 = .ok (.isub, 1) := by decide +kernel
theorem dX6_moveSum_55 : decode cX6_moveSum 55 = .ok (.putfield 34, 3) := by decide +kernel
theorem dX6_moveSum_58 : decode cX6_moveSum 58 = .ok (.aload_n 0, 1) := by decide +kernel
theorem dX6_moveSum_59 : decode cX6_moveSum 59 = .ok (.getfield 34, 3) := by decide +kernel
theorem dX6_moveSum_62 : decode cX6_moveSum 62 = .ok (.aload_n 0, 1) := by decide +kernel
theorem dX6_moveSum_63 : decode cX6_moveSum 63 = .ok (.getfield 37, 3) := by decide +kernel
theorem dX6_moveSum_66 : decode cX6_moveSum 66 = .ok (.if_icmp .ge 16, 3) := by decide +kernel
theorem dX6_moveSum_69 : decode cX6_moveSum 69 = .ok (.aload_n 0, 1) := by decide +kernel
theorem dX6_moveSum_70 : decode cX6_moveSum 70 = .ok (.aload_n 0, 1) := by decide +kernel
theorem dX6_moveSum_71 : decode cX6_moveSum 71 = .ok (.getfield 34, 3) := by decide +kernel
theorem dX6_moveSum_74 : decode cX6_moveSum 74 = .ok (.putfield 37, 3) := by decide +kernel
theorem dX6_moveSum_77 : decode cX6_moveSum 77 = .ok (.aload_n 0, 1) := by decide +kernel
theorem dX6_moveSum_78 : decode cX6_moveSum 78 = .ok (.iload_n 2, 1) := by decide +kernel
theorem dX6_moveSum_79 : decode cX6_moveSum 79 = .ok (.putfield 40, 3) := by decide +kernel
theorem dX6_moveSum_82 : decode cX6_moveSum 82 = .ok (.return_, 1) := by decide +kernel
theorem dX6_startOfGrowth_0 : decode cX6_startOfGrowth 0 = .ok (.aload_n 0, 1) := by decide +kernel
theorem dX6_startOfGrowth_1 : decode cX6_startOfGrowth 1 = .ok (.getfield 37, 3) := by decide +kernel
theorem dX6_startOfGrowth_4 : decode cX6_startOfGrowth 4 = .ok (.ifCond .ge 12, 3) := by decide +kernel
theorem dX6_startOfGrowth_7 : decode cX6_startOfGrowth 7 = .ok (.aload_n 0, 1) := by decide +kernel
theorem dX6_startOfGrowth_8 : decode cX6_startOfGrowth 8 = .ok (.getfield 40, 3) := by decide +kernel
theorem dX6_startOfGrowth_11 : decode cX6_startOfGrowth 11 = .ok (.iconst 1, 1) := by decide +kernel
theorem dX6_startOfGrowth_12 : decode cX6_startOfGrowth 12 = .ok (.iadd, 1) := by decide +kernel
theorem dX6_startOfGrowth_13 : decode cX6_startOfGrowth 13 = .ok (.goto 11, 3) := by decide +kernel
theorem dX6_startOfGrowth_16 : decode cX6_startOfGrowth 16 = .ok (.iload_n 1, 1) := by decide +kernel
theorem dX6_startOfGrowth_17 : decode cX6_startOfGrowth 17 = .ok (.aload_n 0, 1) := by decide +kernel
theorem dX6_startOfGrowth_18 : decode cX6_startOfGrowth 18 = .ok (.getfield 28, 3) := by decide +kernel
theorem dX6_startOfGrowth_21 : decode cX6_startOfGrowth 21 = .ok (.isub, 1) := by decide +kernel
theorem dX6_startOfGrowth_22 : decode cX6_startOfGrowth 22 = .ok (.iconst 1, 1) := by decide +kernel
theorem dX6_startOfGrowth_23 : decode cX6_startOfGrowth 23 = .ok (.iadd, 1) := by decide +kernel
theorem dX6_startOfGrowth_24 : decode cX6_startOfGrowth 24 = .ok (.ireturn, 1) := by decide +kernel
theorem dX7_init_0 : decode cX7_init 0 = .ok (.aload_n 0, 1) := by decide +kernel
theorem dX7_init_1 : decode cX7_init 1 = .ok (.invokespecial 3, 3) := by decide +kernel
theorem dX7_init_4 : decode cX7_init 4 = .ok (.aload_n 0, 1) := by decide +kernel
theorem dX7_init_5 : decode cX7_init 5 = .ok (.bipush 120, 2) := by decide +kernel
theorem dX7_init_7 : decode cX7_init 7 = .ok (.invokestatic 9, 3) := by decide +kernel
theorem dX7_init_10 : decode cX7_init 10 = .ok (.newarray .int, 2) := by decide +kernel
theorem dX7_init_12 : decode cX7_init 12 = .ok (.putfield 15, 3) := by decide +kernel
theorem dX7_init_15 : decode cX7_init 15 = .ok (.aload_n 0, 1) := by decide +kernel
theorem dX7_init_16 : decode cX7_init 16 = .ok (.bipush 120, 2) := by decide +kernel
theorem dX7_init_18 : decode cX7_init 18 = .ok (.newarray .int, 2) := by decide +kernel
theorem dX7_init_20 : decode cX7_init 20 = .ok (.putfield 19, 3) := by decide +kernel
theorem dX7_init_23 : decode cX7_init 23 = .ok (.aload_n 0, 1) := by decide +kernel
theorem dX7_init_24 : decode cX7_init 24 = .ok (.iconst 0, 1) := by decide +kernel
theorem dX7_init_25 : decode cX7_init 25 = .ok (.putfield 22, 3) := by decide +kernel
theorem dX7_init_28 : decode cX7_init 28 = .ok (.return_, 1) := by decide +kernel
theorem dX7_triangle_0 : decode cX7_triangle 0 = .ok (.iload_n 0, 1) := by decide +kernel
theorem dX7_triangle_1 : decode cX7_triangle 1 = .ok (.iload_n 0, 1) := by decide +kernel
theorem dX7_triangle_2 : decode cX7_triangle 2 = .ok (.iconst 1, 1) := by decide +kernel
theorem dX7_triangle_3 : decode cX7_triangle 3 = .ok (.iadd, 1) := by decide +kernel
theorem dX7_triangle_4 : decode cX7_triangle 4 = .ok (.imul, 1) := by decide +kernel
theorem dX7_triangle_5 : decode cX7_triangle 5 = .ok (.iconst 2, 1) := by decide +kernel
theorem dX7_triangle_6 : decode cX7_triangle 6 = .ok (.idiv, 1) := by decide +kernel
theorem dX7_triangle_7 : decode cX7_triangle 7 = .ok (.ireturn, 1) := by decide +kernel
theorem dX7_forget_0 : decode cX7_forget 0 = .ok (.aload_n 0, 1) := by decide +kernel
theorem dX7_forget_1 : decode cX7_forget 1 = .ok (.iconst 0, 1) := by decide +kernel
theorem dX7_forget_2 : decode cX7_forget 2 = .ok (.putfield 22, 3) := by decide +kernel
theorem dX7_forget_5 : decode cX7_forget 5 = .ok (.return_, 1) := by decide +kernel
theorem dX7_learn_0 : decode cX7_learn 0 = .ok (.aload_n 0, 1) := by decide +kernel
theorem dX7_learn_1 : decode cX7_learn 1 = .ok (.getfield 22, 3) := by decide +kernel
theorem dX7_learn_4 : decode cX7_learn 4 = .ok (.iconst 1, 1) := by decide +kernel
theorem dX7_learn_5 : decode cX7_learn 5 = .ok (.iadd, 1) := by decide +kernel
theorem dX7_learn_6 : decode cX7_learn 6 = .ok (.istore_n 3, 1) := by decide +kernel
theorem dX7_learn_7 : decode cX7_learn 7 = .ok (.iload_n 3, 1) := by decide +kernel
theorem dX7_learn_8 : decode cX7_learn 8 = .ok (.iload_n 2, 1) := by decide +kernel
theorem dX7_learn_9 : decode cX7_learn 9 = .ok (.if_icmp .gt 20, 3) := by decide +kernel
theorem dX7_learn_12 : decode cX7_learn 12 = .ok (.aload_n 0, 1) := by decide +kernel
theorem dX7_learn_13 : decode cX7_learn 13 = .ok (.aload_n 1, 1) := by decide +kernel
theorem dX7_learn_14 : decode cX7_learn 14 = .ok (.iload_n 3, 1) := by decide +kernel
theorem dX7_learn_15 : decode cX7_learn 15 = .ok (.invokevirtual 26, 3) := by decide +kernel
theorem dX7_learn_18 : decode cX7_learn 18 = .ok (.aload_n 0, 1) := by decide +kernel
theorem dX7_learn_19 : decode cX7_learn 19 = .ok (.iload_n 3, 1) := by decide +kernel
theorem dX7_learn_20 : decode cX7_learn 20 = .ok (.putfield 22, 3) := by decide +kernel
theorem dX7_learn_23 : decode cX7_learn 23 = .ok (.iinc 3 1, 3) := by decide +kernel
theorem dX7_learn_26 : decode cX7_learn 26 = .ok (.goto (-19), 3) := by decide +kernel
theorem dX7_learn_29 : decode cX7_learn 29 = .ok (.return_, 1) := by decide +kernel
theorem dX7_of_0 : decode cX7_of 0 = .ok (.aload_n 0, 1) := by decide +kernel
theorem dX7_of_1 : decode cX7_of 1 = .ok (.getfield 15, 3) := by decide +kernel
theorem dX7_of_4 : decode cX7_of 4 = .ok (.iload_n 2, 1) := by decide +kernel
theorem dX7_of_5 : decode cX7_of 5 = .ok (.iconst 1, 1) := by decide +kernel
theorem dX7_of_6 : decode cX7_of 6 = .ok (.isub, 1) := by decide +kernel
theorem dX7_of_7 : decode cX7_of 7 = .ok (.invokestatic 9, 3) := by decide +kernel
theorem dX7_of_10 : decode cX7_of 10 = .ok (.iload_n 1, 1) := by decide +kernel
theorem dX7_of_11 : decode cX7_of 11 = .ok (.iadd, 1) := by decide +kernel
theorem dX7_of_12 : decode cX7_of 12 = .ok (.iaload, 1) := by decide +kernel
theorem dX7_of_13 : decode cX7_of 13 = .ok (.ireturn, 1) := by decide +kernel
theorem dX7_middleOf_0 : decode cX7_middleOf 0 = .ok (.iload_n 2, 1) := by decide +kernel
theorem dX7_middleOf_1 : decode cX7_middleOf 1 = .ok (.istore 4, 2) := by decide +kernel
theorem dX7_middleOf_3 : decode cX7_middleOf 3 = .ok (.iload 4, 2) := by decide +kernel
theorem dX7_middleOf_5 : decode cX7_middleOf 5 = .ok (.iload_n 3, 1) := by decide +kernel
theorem dX7_middleOf_6 : decode cX7_middleOf 6 = .ok (.if_icmp .ge 21, 3) := by decide +kernel
theorem dX7_middleOf_9 : decode cX7_middleOf 9 = .ok (.aload_n 0, 1) := by decide +kernel
theorem dX7_middleOf_10 : decode cX7_middleOf 10 = .ok (.aload_n 1, 1) := by decide +kernel
theorem dX7_middleOf_11 : decode cX7_middleOf 11 = .ok (.iload 4, 2) := by decide +kernel
theorem dX7_middleOf_13 : decode cX7_middleOf 13 = .ok (.iaload, 1) := by decide +kernel
theorem dX7_middleOf_14 : decode cX7_middleOf 14 = .ok (.iload 4, 2) := by decide +kernel
theorem dX7_middleOf_16 : decode cX7_middleOf 16 = .ok (.iload_n 2, 1) := by decide +kernel
theorem dX7_middleOf_17 : decode cX7_middleOf 17 = .ok (.isub, 1) := by decide +kernel
theorem dX7_middleOf_18 : decode cX7_middleOf 18 = .ok (.invokevirtual 30, 3) := by decide +kernel
theorem dX7_middleOf_21 : decode cX7_middleOf 21 = .ok (.iinc 4 1, 3) := by decide +kernel
theorem dX7_middleOf_24 : decode cX7_middleOf 24 = .ok (.goto (-21), 3) := by decide +kernel
theorem dX7_middleOf_27 : decode cX7_middleOf 27 = .ok (.aload_n 0, 1) := by decide +kernel
theorem dX7_middleOf_28 : decode cX7_middleOf 28 = .ok (.getfield 19, 3) := by decide +kernel
theorem dX7_middleOf_31 : decode cX7_middleOf 31 = .ok (.iload_n 3, 1) := by decide +kernel
theorem dX7_middleOf_32 : decode cX7_middleOf 32 = .ok (.iload_n 2, 1) := by decide +kernel
theorem dX7_middleOf_33 : decode cX7_middleOf 33 = .ok (.isub, 1) := by decide +kernel
theorem dX7_middleOf_34 : decode cX7_middleOf 34 = .ok (.iconst 1, 1) := by decide +kernel
theorem dX7_middleOf_35 : decode cX7_middleOf 35 = .ok (.isub, 1) := by decide +kernel
theorem dX7_middleOf_36 : decode cX7_middleOf 36 = .ok (.iconst 2, 1) := by decide +kernel
theorem dX7_middleOf_37 : decode cX7_middleOf 37 = .ok (.idiv, 1) := by decide +kernel
theorem dX7_middleOf_38 : decode cX7_middleOf 38 = .ok (.iaload, 1) := by decide +kernel
theorem dX7_middleOf_39 : decode cX7_middleOf 39 = .ok (.ireturn, 1) := by decide +kernel
theorem dX7_learnSegmentsTo_0 : decode cX7_learnSegmentsTo 0 = .ok (.iload_n 2, 1) := by decide +kernel
theorem dX7_learnSegmentsTo_1 : decode cX7_learnSegmentsTo 1 = .ok (.iconst 1, 1) := by decide +kernel
theorem dX7_learnSegmentsTo_2 : decode cX7_learnSegmentsTo 2 = .ok (.isub, 1) := by decide +kernel
theorem dX7_learnSegmentsTo_3 : decode cX7_learnSegmentsTo 3 = .ok (.invokestatic 9, 3) := by decide +kernel
theorem dX7_learnSegmentsTo_6 : decode cX7_learnSegmentsTo 6 = .ok (.istore_n 3, 1) := by decide +kernel
theorem dX7_learnSegmentsTo_7 : decode cX7_learnSegmentsTo 7 = .ok (.iconst 0, 1) := by decide +kernel
theorem dX7_learnSegmentsTo_8 : decode cX7_learnSegmentsTo 8 = .ok (.istore 4, 2) := by decide +kernel
theorem dX7_learnSegmentsTo_10 : decode cX7_learnSegmentsTo 10 = .ok (.iload_n 2, 1) := by decide +kernel
theorem dX7_learnSegmentsTo_11 : decode cX7_learnSegmentsTo 11 = .ok (.iconst 1, 1) := by decide +kernel
theorem dX7_learnSegmentsTo_12 : decode cX7_learnSegmentsTo 12 = .ok (.isub, 1) := by decide +kernel
theorem dX7_learnSegmentsTo_13 : decode cX7_learnSegmentsTo 13 = .ok (.istore 5, 2) := by decide +kernel
theorem dX7_learnSegmentsTo_15 : decode cX7_learnSegmentsTo 15 = .ok (.iload 5, 2) := by decide +kernel
theorem dX7_learnSegmentsTo_17 : decode cX7_learnSegmentsTo 17 = .ok (.ifCond .lt 53, 3) := by decide +kernel
theorem dX7_learnSegmentsTo_20 : decode cX7_learnSegmentsTo 20 = .ok (.iload_n 2, 1) := by decide +kernel
theorem dX7_learnSegmentsTo_21 : decode cX7_learnSegmentsTo 21 = .ok (.iconst 1, 1) := by decide +kernel
theorem dX7_learnSegmentsTo_22 : decode cX7_learnSegmentsTo 22 = .ok (.isub, 1) := by decide +kernel
theorem dX7_learnSegmentsTo_23 : decode cX7_learnSegmentsTo 23 = .ok (.iload 5, 2) := by decide +kernel
theorem dX7_learnSegmentsTo_25 : decode cX7_learnSegmentsTo 25 = .ok (.isub, 1) := by decide +kernel
theorem dX7_learnSegmentsTo_26 : decode cX7_learnSegmentsTo 26 = .ok (.istore 6, 2) := by decide +kernel
theorem dX7_learnSegmentsTo_28 : decode cX7_learnSegmentsTo 28 = .ok (.iload 4, 2) := by decide +kernel
theorem dX7_learnSegmentsTo_30 : decode cX7_learnSegmentsTo 30 = .ok (.aload_n 0, 1) := by decide +kernel
theorem dX7_learnSegmentsTo_31 : decode cX7_learnSegmentsTo 31 = .ok (.aload_n 1, 1) := by decide +kernel
theorem dX7_learnSegmentsTo_32 : decode cX7_learnSegmentsTo 32 = .ok (.iload 5, 2) := by decide +kernel
theorem dX7_learnSegmentsTo_34 : decode cX7_learnSegmentsTo 34 = .ok (.iaload, 1) := by decide +kernel
theorem dX7_learnSegmentsTo_35 : decode cX7_learnSegmentsTo 35 = .ok (.iload 6, 2) := by decide +kernel
theorem dX7_learnSegmentsTo_37 : decode cX7_learnSegmentsTo 37 = .ok (.invokevirtual 34, 3) := by decide +kernel
theorem dX7_learnSegmentsTo_40 : decode cX7_learnSegmentsTo 40 = .ok (.iadd, 1) := by decide +kernel
theorem dX7_learnSegmentsTo_41 : decode cX7_learnSegmentsTo 41 = .ok (.istore 4, 2) := by decide +kernel
theorem dX7_learnSegmentsTo_43 : decode cX7_learnSegmentsTo 43 = .ok (.aload_n 0, 1) := by decide +kernel
theorem dX7_learnSegmentsTo_44 : decode cX7_learnSegmentsTo 44 = .ok (.getfield 15, 3) := by decide +kernel
theorem dX7_learnSegmentsTo_47 : decode cX7_learnSegmentsTo 47 = .ok (.iload_n 3, 1) := by decide +kernel
theorem dX7_learnSegmentsTo_48 : decode cX7_learnSegmentsTo 48 = .ok (.iload 5, 2) := by decide +kernel
theorem dX7_learnSegmentsTo_50 : decode cX7_learnSegmentsTo 50 = .ok (.iadd, 1) := by decide +kernel
theorem dX7_learnSegmentsTo_51 : decode cX7_learnSegmentsTo 51 = .ok (.iload 4, 2) := by decide +kernel
theorem dX7_learnSegmentsTo_53 : decode cX7_learnSegmentsTo 53 = .ok (.iastore, 1) := by decide +kernel
theorem dX7_learnSegmentsTo_54 : decode cX7_learnSegmentsTo 54 = .ok (.aload_n 0, 1) := by decide +kernel
theorem dX7_learnSegmentsTo_55 : decode cX7_learnSegmentsTo 55 = .ok (.aload_n 1, 1) := by decide +kernel
theorem dX7_learnSegmentsTo_56 : decode cX7_learnSegmentsTo 56 = .ok (.iload 5, 2) := by decide +kernel
theorem dX7_learnSegmentsTo_58 : decode cX7_learnSegmentsTo 58 = .ok (.iaload, 1) := by decide +kernel
theorem dX7_learnSegmentsTo_59 : decode cX7_learnSegmentsTo 59 = .ok (.iload 6, 2) := by decide +kernel
theorem dX7_learnSegmentsTo_61 : decode cX7_learnSegmentsTo 61 = .ok (.invokevirtual 30, 3) := by decide +kernel
theorem dX7_learnSegmentsTo_64 : decode cX7_learnSegmentsTo 64 = .ok (.iinc 5 (-1), 3) := by decide +kernel
theorem dX7_learnSegmentsTo_67 : decode cX7_learnSegmentsTo 67 = .ok (.goto (-52), 3) := by decide +kernel
theorem dX7_learnSegmentsTo_70 : decode cX7_learnSegmentsTo 70 = .ok (.return_, 1) := by decide +kernel
theorem dX7_distanceFromMiddles_0 : decode cX7_distanceFromMiddles 0 = .ok (.iload_n 2, 1) := by decide +kernel
theorem dX7_distanceFromMiddles_1 : decode cX7_distanceFromMiddles 1 = .ok (.ifCond .ne 5, 3) := by decide +kernel
theorem dX7_distanceFromMiddles_4 : decode cX7_distanceFromMiddles 4 = .ok (.iconst 0, 1) := by decide +kernel
theorem dX7_distanceFromMiddles_5 : decode cX7_distanceFromMiddles 5 = .ok (.ireturn, 1) := by decide +kernel
theorem dX7_distanceFromMiddles_6 : decode cX7_distanceFromMiddles 6 = .ok (.aload_n 0, 1) := by decide +kernel
theorem dX7_distanceFromMiddles_7 : decode cX7_distanceFromMiddles 7 = .ok (.getfield 19, 3) := by decide +kernel
theorem dX7_distanceFromMiddles_10 : decode cX7_distanceFromMiddles 10 = .ok (.iload_n 2, 1) := by decide +kernel
theorem dX7_distanceFromMiddles_11 : decode cX7_distanceFromMiddles 11 = .ok (.iconst 1, 1) := by decide +kernel
theorem dX7_distanceFromMiddles_12 : decode cX7_distanceFromMiddles 12 = .ok (.isub, 1) := by decide +kernel
theorem dX7_distanceFromMiddles_13 : decode cX7_distanceFromMiddles 13 = .ok (.iconst 2, 1) := by decide +kernel
theorem dX7_distanceFromMiddles_14 : decode cX7_distanceFromMiddles 14 = .ok (.idiv, 1) := by decide +kernel
theorem dX7_distanceFromMiddles_15 : decode cX7_distanceFromMiddles 15 = .ok (.iaload, 1) := by decide +kernel
theorem dX7_distanceFromMiddles_16 : decode cX7_distanceFromMiddles 16 = .ok (.istore_n 3, 1) := by decide +kernel
theorem dX7_distanceFromMiddles_17 : decode cX7_distanceFromMiddles 17 = .ok (.aload_n 0, 1) := by decide +kernel
theorem dX7_distanceFromMiddles_18 : decode cX7_distanceFromMiddles 18 = .ok (.getfield 19, 3) := by decide +kernel
theorem dX7_distanceFromMiddles_21 : decode cX7_distanceFromMiddles 21 = .ok (.iload_n 2, 1) := by decide +kernel
theorem dX7_distanceFromMiddles_22 : decode cX7_distanceFromMiddles 22 = .ok (.iconst 2, 1) := by decide +kernel
theorem dX7_distanceFromMiddles_23 : decode cX7_distanceFromMiddles 23 = .ok (.idiv, 1) := by decide +kernel
theorem dX7_distanceFromMiddles_24 : decode cX7_distanceFromMiddles 24 = .ok (.iaload, 1) := by decide +kernel
theorem dX7_distanceFromMiddles_25 : decode cX7_distanceFromMiddles 25 = .ok (.istore 4, 2) := by decide +kernel
theorem dX7_distanceFromMiddles_27 : decode cX7_distanceFromMiddles 27 = .ok (.iload_n 1, 1) := by decide +kernel
theorem dX7_distanceFromMiddles_28 : decode cX7_distanceFromMiddles 28 = .ok (.iload_n 3, 1) := by decide +kernel
theorem dX7_distanceFromMiddles_29 : decode cX7_distanceFromMiddles 29 = .ok (.if_icmp .ge 7, 3) := by decide +kernel
theorem dX7_distanceFromMiddles_32 : decode cX7_distanceFromMiddles 32 = .ok (.iload_n 3, 1) := by decide +kernel
theorem dX7_distanceFromMiddles_33 : decode cX7_distanceFromMiddles 33 = .ok (.iload_n 1, 1) := by decide +kernel
theorem dX7_distanceFromMiddles_34 : decode cX7_distanceFromMiddles 34 = .ok (.isub, 1) := by decide +kernel
theorem dX7_distanceFromMiddles_35 : decode cX7_distanceFromMiddles 35 = .ok (.ireturn, 1) := by decide +kernel
theorem dX7_distanceFromMiddles_36 : decode cX7_distanceFromMiddles 36 = .ok (.iload_n 1, 1) := by decide +kernel
theorem dX7_distanceFromMiddles_37 : decode cX7_distanceFromMiddles 37 = .ok (.iload 4, 2) := by decide +kernel
theorem dX7_distanceFromMiddles_39 : decode cX7_distanceFromMiddles 39 = .ok (.if_icmp .le 10, 3) := by decide +kernel
theorem dX7_distanceFromMiddles_42 : decode cX7_distanceFromMiddles 42 = .ok (.iload_n 1, 1) := by decide +kernel
theorem dX7_distanceFromMiddles_43 : decode cX7_distanceFromMiddles 43 = .ok (.iload 4, 2) := by decide +kernel
theorem dX7_distanceFromMiddles_45 : decode cX7_distanceFromMiddles 45 = .ok (.isub, 1) := by decide +kernel
theorem dX7_distanceFromMiddles_46 : decode cX7_distanceFromMiddles 46 = .ok (.goto 4, 3) := by decide +kernel
theorem dX7_distanceFromMiddles_49 : decode cX7_distanceFromMiddles 49 = .ok (.iconst 0, 1) := by decide +kernel
theorem dX7_distanceFromMiddles_50 : decode cX7_distanceFromMiddles 50 = .ok (.ireturn, 1) := by decide +kernel
theorem dX7_sortIn_0 : decode cX7_sortIn 0 = .ok (.iload_n 2, 1) := by decide +kernel
theorem dX7_sortIn_1 : decode cX7_sortIn 1 = .ok (.istore_n 3, 1) := by decide +kernel
theorem dX7_sortIn_2 : decode cX7_sortIn 2 = .ok (.iload_n 3, 1) := by decide +kernel
theorem dX7_sortIn_3 : decode cX7_sortIn 3 = .ok (.ifCond .le 35, 3) := by decide +kernel
theorem dX7_sortIn_6 : decode cX7_sortIn 6 = .ok (.aload_n 0, 1) := by decide +kernel
theorem dX7_sortIn_7 : decode cX7_sortIn 7 = .ok (.getfield 19, 3) := by decide +kernel
theorem dX7_sortIn_10 : decode cX7_sortIn 10 = .ok (.iload_n 3, 1) := by decide +kernel
theorem dX7_sortIn_11 : decode cX7_sortIn 11 = .ok (.iconst 1, 1) := by decide +kernel
theorem dX7_sortIn_12 : decode cX7_sortIn 12 = .ok (.isub, 1) := by decide +kernel
theorem dX7_sortIn_13 : decode cX7_sortIn 13 = .ok (.iaload, 1) := by decide +kernel
theorem dX7_sortIn_14 : decode cX7_sortIn 14 = .ok (.iload_n 1, 1) := by decide +kernel
theorem dX7_sortIn_15 : decode cX7_sortIn 15 = .ok (.if_icmp .le 23, 3) := by decide +kernel
theorem dX7_sortIn_18 : decode cX7_sortIn 18 = .ok (.aload_n 0, 1) := by decide +kernel
theorem dX7_sortIn_19 : decode cX7_sortIn 19 = .ok (.getfield 19, 3) := by decide +kernel
theorem dX7_sortIn_22 : decode cX7_sortIn 22 = .ok (.iload_n 3, 1) := by decide +kernel
theorem dX7_sortIn_23 : decode cX7_sortIn 23 = .ok (.aload_n 0, 1) := by decide +kernel
theorem dX7_sortIn_24 : decode cX7_sortIn 24 = .ok (.getfield 19, 3) := by decide +kernel
theorem dX7_sortIn_27 : decode cX7_sortIn 27 = .ok (.iload_n 3, 1) := by decide +kernel
theorem dX7_sortIn_28 : decode cX7_sortIn 28 = .ok (.iconst 1, 1) := by decide +kernel
theorem dX7_sortIn_29 : decode cX7_sortIn 29 = .ok (.isub, 1) := by decide +kernel
theorem dX7_sortIn_30 : decode cX7_sortIn 30 = .ok (.iaload, 1) := by decide +kernel
theorem dX7_sortIn_31 : decode cX7_sortIn 31 = .ok (.iastore, 1) := by decide +kernel
theorem dX7_sortIn_32 : decode cX7_sortIn 32 = .ok (.iinc 3 (-1), 3) := by decide +kernel
theorem dX7_sortIn_35 : decode cX7_sortIn 35 = .ok (.goto (-33), 3) := by decide +kernel
theorem dX7_sortIn_38 : decode cX7_sortIn 38 = .ok (.aload_n 0, 1) := by decide +kernel
theorem dX7_sortIn_39 : decode cX7_sortIn 39 = .ok (.getfield 19, 3) := by decide +kernel
theorem dX7_sortIn_42 : decode cX7_sortIn 42 = .ok (.iload_n 3, 1) := by decide +kernel
theorem dX7_sortIn_43 : decode cX7_sortIn 43 = .ok (.iload_n 1, 1) := by decide +kernel
theorem dX7_sortIn_44 : decode cX7_sortIn 44 = .ok (.iastore, 1) := by decide +kernel
theorem dX7_sortIn_45 : decode cX7_sortIn 45 = .ok (.return_, 1) := by decide +kernel
theorem dX8_init_0 : decode cX8_init 0 = .ok (.aload_n 0, 1) := by decide +kernel
theorem dX8_init_1 : decode cX8_init 1 = .ok (.invokespecial 3, 3) := by decide +kernel
theorem dX8_init_4 : decode cX8_init 4 = .ok (.aload_n 0, 1) := by decide +kernel
theorem dX8_init_5 : decode cX8_init 5 = .ok (.bipush 120, 2) := by decide +kernel
theorem dX8_init_7 : decode cX8_init 7 = .ok (.newarray .boolean, 2) := by decide +kernel
theorem dX8_init_9 : decode cX8_init 9 = .ok (.putfield 9, 3) := by decide +kernel
theorem dX8_init_12 : decode cX8_init 12 = .ok (.aload_n 0, 1) := by decide +kernel
theorem dX8_init_13 : decode cX8_init 13 = .ok (.bipush 120, 2) := by decide +kernel
theorem dX8_init_15 : decode cX8_init 15 = .ok (.newarray .boolean, 2) := by decide +kernel
theorem dX8_init_17 : decode cX8_init 17 = .ok (.putfield 15, 3) := by decide +kernel
theorem dX8_init_20 : decode cX8_init 20 = .ok (.aload_n 0, 1) := by decide +kernel
theorem dX8_init_21 : decode cX8_init 21 = .ok (.iconst 0, 1) := by decide +kernel
theorem dX8_init_22 : decode cX8_init 22 = .ok (.putfield 18, 3) := by decide +kernel
theorem dX8_init_25 : decode cX8_init 25 = .ok (.aload_n 0, 1) := by decide +kernel
theorem dX8_init_26 : decode cX8_init 26 = .ok (.iconst 0, 1) := by decide +kernel
theorem dX8_init_27 : decode cX8_init 27 = .ok (.putfield 22, 3) := by decide +kernel
theorem dX8_init_30 : decode cX8_init 30 = .ok (.aload_n 0, 1) := by decide +kernel
theorem dX8_init_31 : decode cX8_init 31 = .ok (.iconst 0, 1) := by decide +kernel
theorem dX8_init_32 : decode cX8_init 32 = .ok (.putfield 25, 3) := by decide +kernel
theorem dX8_init_35 : decode cX8_init 35 = .ok (.return_, 1) := by decide +kernel
theorem dX8_removeMarks_0 : decode cX8_removeMarks 0 = .ok (.iconst 0, 1) := by decide +kernel
theorem dX8_removeMarks_1 : decode cX8_removeMarks 1 = .ok (.istore_n 1, 1) := by decide +kernel
theorem dX8_removeMarks_2 : decode cX8_removeMarks 2 = .ok (.iload_n 1, 1) := by decide +kernel
theorem dX8_removeMarks_3 : decode cX8_removeMarks 3 = .ok (.bipush 120, 2) := by decide +kernel
theorem dX8_removeMarks_5 : decode cX8_removeMarks 5 = .ok (.if_icmp .ge 16, 3) := by decide +kernel
theorem dX8_removeMarks_8 : decode cX8_removeMarks 8 = .ok (.aload_n 0, 1) := by decide +kernel
theorem dX8_removeMarks_9 : decode cX8_removeMarks 9 = .ok (.getfield 9, 3) := by decide +kernel
theorem dX8_removeMarks_12 : decode cX8_removeMarks 12 = .ok (.iload_n 1, 1) := by decide +kernel
theorem dX8_removeMarks_13 : decode cX8_removeMarks 13 = .ok (.iconst 0, 1) := by decide +kernel
theorem dX8_removeMarks_14 : decode cX8_removeMarks 14 = .ok (.bastore, 1) := by decide +kernel
theorem dX8_removeMarks_15 : decode cX8_removeMarks 15 = .ok (.iinc 1 1, 3) := by decide +kernel
theorem dX8_removeMarks_18 : decode cX8_removeMarks 18 = .ok (.goto (-16), 3) := by decide +kernel
theorem dX8_removeMarks_21 : decode cX8_removeMarks 21 = .ok (.return_, 1) := by decide +kernel
theorem dX8_match_0 : decode cX8_match 0 = .ok (.aload_n 0, 1) := by decide +kernel
theorem dX8_match_1 : decode cX8_match 1 = .ok (.invokevirtual 28, 3) := by decide +kernel
theorem dX8_match_4 : decode cX8_match 4 = .ok (.iconst 0, 1) := by decide +kernel
theorem dX8_match_5 : decode cX8_match 5 = .ok (.istore 4, 2) := by decide +kernel
theorem dX8_match_7 : decode cX8_match 7 = .ok (.iload 4, 2) := by decide +kernel
theorem dX8_match_9 : decode cX8_match 9 = .ok (.aload_n 1, 1) := by decide +kernel
theorem dX8_match_10 : decode cX8_match 10 = .ok (.getfield 31, 3) := by decide +kernel
theorem dX8_match_13 : decode cX8_match 13 = .ok (.if_icmp .ge 32, 3) := by decide +kernel
theorem dX8_match_16 : decode cX8_match 16 = .ok (.aload_n 1, 1) := by decide +kernel
theorem dX8_match_17 : decode cX8_match 17 = .ok (.getfield 36, 3) := by decide +kernel
theorem dX8_match_20 : decode cX8_match 20 = .ok (.iload 4, 2) := by decide +kernel
theorem dX8_match_22 : decode cX8_match 22 = .ok (.iaload, 1) := by decide +kernel
theorem dX8_match_23 : decode cX8_match 23 = .ok (.iload_n 2, 1) := by decide +kernel
theorem dX8_match_24 : decode cX8_match 24 = .ok (.if_icmp .ne 15, 3) := by decide +kernel
theorem dX8_match_27 : decode cX8_match 27 = .ok (.aload_n 0, 1) := by decide +kernel
theorem dX8_match_28 : decode cX8_match 28 = .ok (.aload_n 1, 1) := by decide +kernel
theorem dX8_match_29 : decode cX8_match 29 = .ok (.getfield 40, 3) := by decide +kernel
theorem dX8_match_32 : decode cX8_match 32 = .ok (.iload 4, 2) := by decide +kernel
theorem dX8_match_34 : decode cX8_match 34 = .ok (.iaload, 1) := by decide +kernel
theorem dX8_match_35 : decode cX8_match 35 = .ok (.iload_n 3, 1) := by decide +kernel
theorem dX8_match_36 : decode cX8_match 36 = .ok (.invokevirtual 43, 3) := by decide +kernel
theorem dX8_match_39 : decode cX8_match 39 = .ok (.iinc 4 1, 3) := by decide +kernel
theorem dX8_match_42 : decode cX8_match 42 = .ok (.goto (-35), 3) := by decide +kernel
theorem dX8_match_45 : decode cX8_match 45 = .ok (.return_, 1) := by decide +kernel
theorem dX8_beginMatching_0 : decode cX8_beginMatching 0 = .ok (.iconst 0, 1) := by decide +kernel
theorem dX8_beginMatching_1 : decode cX8_beginMatching 1 = .ok (.istore_n 1, 1) := by decide +kernel
theorem dX8_beginMatching_2 : decode cX8_beginMatching 2 = .ok (.iload_n 1, 1) := by decide +kernel
theorem dX8_beginMatching_3 : decode cX8_beginMatching 3 = .ok (.bipush 120, 2) := by decide +kernel
theorem dX8_beginMatching_5 : decode cX8_beginMatching 5 = .ok (.if_icmp .ge 16, 3) := by decide +kernel
theorem dX8_beginMatching_8 : decode cX8_beginMatching 8 = .ok (.aload_n 0, 1) := by decide +kernel
theorem dX8_beginMatching_9 : decode cX8_beginMatching 9 = .ok (.getfield 15, 3) := by decide +kernel
theorem dX8_beginMatching_12 : decode cX8_beginMatching 12 = .ok (.iload_n 1, 1) := by decide +kernel
theorem dX8_beginMatching_13 : decode cX8_beginMatching 13 = .ok (.iconst 0, 1) := by decide +kernel
theorem dX8_beginMatching_14 : decode cX8_beginMatching 14 = .ok (.bastore, 1) := by decide +kernel
theorem dX8_beginMatching_15 : decode cX8_beginMatching 15 = .ok (.iinc 1 1, 3) := by decide +kernel
theorem dX8_beginMatching_18 : decode cX8_beginMatching 18 = .ok (.goto (-16), 3) := by decide +kernel
theorem dX8_beginMatching_21 : decode cX8_beginMatching 21 = .ok (.aload_n 0, 1) := by decide +kernel
theorem dX8_beginMatching_22 : decode cX8_beginMatching 22 = .ok (.iconst 0, 1) := by decide +kernel
theorem dX8_beginMatching_23 : decode cX8_beginMatching 23 = .ok (.putfield 18, 3) := by decide +kernel
theorem dX8_beginMatching_26 : decode cX8_beginMatching 26 = .ok (.aload_n 0, 1) := by decide +kernel
theorem dX8_beginMatching_27 : decode cX8_beginMatching 27 = .ok (.iconst 0, 1) := by decide +kernel
theorem dX8_beginMatching_28 : decode cX8_beginMatching 28 = .ok (.putfield 22, 3) := by decide +kernel
theorem dX8_beginMatching_31 : decode cX8_beginMatching 31 = .ok (.aload_n 0, 1) := by decide +kernel
theorem dX8_beginMatching_32 : decode cX8_beginMatching 32 = .ok (.iconst 0, 1) := by decide +kernel
theorem dX8_beginMatching_33 : decode cX8_beginMatching 33 = .ok (.putfield 25, 3) := by decide +kernel
theorem dX8_beginMatching_36 : decode cX8_beginMatching 36 = .ok (.return_, 1) := by decide +kernel
theorem dX8_matchAlarm_0 : decode cX8_matchAlarm 0 = .ok (.iconst 0, 1) := by decide +kernel
theorem dX8_matchAlarm_1 : decode cX8_matchAlarm 1 = .ok (.iload_n 1, 1) := by decide +kernel
theorem dX8_matchAlarm_2 : decode cX8_matchAlarm 2 = .ok (.iload_n 2, 1) := by decide +kernel
theorem dX8_matchAlarm_3 : decode cX8_matchAlarm 3 = .ok (.isub, 1) := by decide +kernel
theorem dX8_matchAlarm_4 : decode cX8_matchAlarm 4 = .ok (.invokestatic 47, 3) := by decide +kernel
theorem dX8_matchAlarm_7 : decode cX8_matchAlarm 7 = .ok (.istore_n 3, 1) := by decide +kernel
theorem dX8_matchAlarm_8 : decode cX8_matchAlarm 8 = .ok (.iload_n 1, 1) := by decide +kernel
theorem dX8_matchAlarm_9 : decode cX8_matchAlarm 9 = .ok (.istore 4, 2) := by decide +kernel
theorem dX8_matchAlarm_11 : decode cX8_matchAlarm 11 = .ok (.iload 4, 2) := by decide +kernel
theorem dX8_matchAlarm_13 : decode cX8_matchAlarm 13 = .ok (.iload_n 3, 1) := by decide +kernel
theorem dX8_matchAlarm_14 : decode cX8_matchAlarm 14 = .ok (.if_icmp .lt 61, 3) := by decide +kernel
theorem dX8_matchAlarm_17 : decode cX8_matchAlarm 17 = .ok (.aload_n 0, 1) := by decide +kernel
theorem dX8_matchAlarm_18 : decode cX8_matchAlarm 18 = .ok (.getfield 9, 3) := by decide +kernel
theorem dX8_matchAlarm_21 : decode cX8_matchAlarm 21 = .ok (.iload 4, 2) := by decide +kernel
theorem dX8_matchAlarm_23 : decode cX8_matchAlarm 23 = .ok (.baload, 1) := by decide +kernel
theorem dX8_matchAlarm_24 : decode cX8_matchAlarm 24 = .ok (.ifCond .eq 45, 3) := by decide +kernel
theorem dX8_matchAlarm_27 : decode cX8_matchAlarm 27 = .ok (.aload_n 0, 1) := by decide +kernel
theorem dX8_matchAlarm_28 : decode cX8_matchAlarm 28 = .ok (.getfield 15, 3) := by decide +kernel
theorem dX8_matchAlarm_31 : decode cX8_matchAlarm 31 = .ok (.iload 4, 2) := by decide +kernel
theorem dX8_matchAlarm_33 : decode cX8_matchAlarm 33 = .ok (.baload, 1) := by decide +kernel
theorem dX8_matchAlarm_34 : decode cX8_matchAlarm 34 = .ok (.ifCond .ne 35, 3) := by decide +kernel
theorem dX8_matchAlarm_37 : decode cX8_matchAlarm 37 = .ok (.aload_n 0, 1) := by decide +kernel
theorem dX8_matchAlarm_38 : decode cX8_matchAlarm 38 = .ok (.getfield 15, 3) := by decide +kernel
theorem dX8_matchAlarm_41 : decode cX8_matchAlarm 41 = .ok (.iload 4, 2) := by decide +kernel
theorem dX8_matchAlarm_43 : decode cX8_matchAlarm 43 = .ok (.iconst 1, 1) := by decide +kernel
theorem dX8_matchAlarm_44 : decode cX8_matchAlarm 44 = .ok (.bastore, 1) := by decide +kernel
theorem dX8_matchAlarm_45 : decode cX8_matchAlarm 45 = .ok (.aload_n 0, 1) := by decide +kernel
theorem dX8_matchAlarm_46 : decode cX8_matchAlarm 46 = .ok (.dup, 1) := by decide +kernel
theorem dX8_matchAlarm_47 : decode cX8_matchAlarm 47 = .ok (.getfield 18, 3) := by decide +kernel
theorem dX8_matchAlarm_50 : decode cX8_matchAlarm 50 = .ok (.iconst 1, 1) := by decide +kernel
theorem dX8_matchAlarm_51 : decode cX8_matchAlarm 51 = .ok (.iadd, 1) := by decide +kernel
theorem dX8_matchAlarm_52 : decode cX8_matchAlarm 52 = .ok (.putfield 18, 3) := by decide +kernel
theorem dX8_matchAlarm_55 : decode cX8_matchAlarm 55 = .ok (.aload_n 0, 1) := by decide +kernel
theorem dX8_matchAlarm_56 : decode cX8_matchAlarm 56 = .ok (.dup, 1) := by decide +kernel
theorem dX8_matchAlarm_57 : decode cX8_matchAlarm 57 = .ok (.getfield 25, 3) := by decide +kernel
theorem dX8_matchAlarm_60 : decode cX8_matchAlarm 60 = .ok (.iload_n 1, 1) := by decide +kernel
theorem dX8_matchAlarm_61 : decode cX8_matchAlarm 61 = .ok (.iload 4, 2) := by decide +kernel
theorem dX8_matchAlarm_63 : decode cX8_matchAlarm 63 = .ok (.isub, 1) := by decide +kernel
theorem dX8_matchAlarm_64 : decode cX8_matchAlarm 64 = .ok (.iadd, 1) := by decide +kernel
theorem dX8_matchAlarm_65 : decode cX8_matchAlarm 65 = .ok (.putfield 25, 3) := by decide +kernel
theorem dX8_matchAlarm_68 : decode cX8_matchAlarm 68 = .ok (.return_, 1) := by decide +kernel
theorem dX8_matchAlarm_69 : decode cX8_matchAlarm 69 = .ok (.iinc 4 (-1), 3) := by decide +kernel
theorem dX8_matchAlarm_72 : decode cX8_matchAlarm 72 = .ok (.goto (-61), 3) := by decide +kernel
theorem dX8_matchAlarm_75 : decode cX8_matchAlarm 75 = .ok (.aload_n 0, 1) := by decide +kernel
theorem dX8_matchAlarm_76 : decode cX8_matchAlarm 76 = .ok (.dup, 1) := by decide +kernel
theorem dX8_matchAlarm_77 : decode cX8_matchAlarm 77 = .ok (.getfield 22, 3) := by decide +kernel
theorem dX8_matchAlarm_80 : decode cX8_matchAlarm 80 = .ok (.iconst 1, 1) := by decide +kernel
theorem dX8_matchAlarm_81 : decode cX8_matchAlarm 81 = .ok (.iadd, 1) := by decide +kernel
theorem dX8_matchAlarm_82 : decode cX8_matchAlarm 82 = .ok (.putfield 22, 3) := by decide +kernel
theorem dX8_matchAlarm_85 : decode cX8_matchAlarm 85 = .ok (.return_, 1) := by decide +kernel
theorem dX9_init_0 : decode cX9_init 0 = .ok (.aload_n 0, 1) := by decide +kernel
theorem dX9_init_1 : decode cX9_init 1 = .ok (.invokespecial 1, 3) := by decide +kernel
theorem dX9_init_4 : decode cX9_init 4 = .ok (.aload_n 0, 1) := by decide +kernel
theorem dX9_init_5 : decode cX9_init 5 = .ok (.bipush 120, 2) := by decide +kernel
theorem dX9_init_7 : decode cX9_init 7 = .ok (.newarray .int, 2) := by decide +kernel
theorem dX9_init_9 : decode cX9_init 9 = .ok (.putfield 9, 3) := by decide +kernel
theorem dX9_init_12 : decode cX9_init 12 = .ok (.aload_n 0, 1) := by decide +kernel
theorem dX9_init_13 : decode cX9_init 13 = .ok (.new 13, 3) := by decide +kernel
theorem dX9_init_16 : decode cX9_init 16 = .ok (.dup, 1) := by decide +kernel
theorem dX9_init_17 : decode cX9_init 17 = .ok (.invokespecial 15, 3) := by decide +kernel
theorem dX9_init_20 : decode cX9_init 20 = .ok (.putfield 16, 3) := by decide +kernel
theorem dX9_init_23 : decode cX9_init 23 = .ok (.aload_n 0, 1) := by decide +kernel
theorem dX9_init_24 : decode cX9_init 24 = .ok (.new 20, 3) := by decide +kernel
theorem dX9_init_27 : decode cX9_init 27 = .ok (.dup, 1) := by decide +kernel
theorem dX9_init_28 : decode cX9_init 28 = .ok (.invokespecial 22, 3) := by decide +kernel
theorem dX9_init_31 : decode cX9_init 31 = .ok (.putfield 23, 3) := by decide +kernel
theorem dX9_init_34 : decode cX9_init 34 = .ok (.aload_n 0, 1) := by decide +kernel
theorem dX9_init_35 : decode cX9_init 35 = .ok (.new 27, 3) := by decide +kernel
theorem dX9_init_38 : decode cX9_init 38 = .ok (.dup, 1) := by decide +kernel
theorem dX9_init_39 : decode cX9_init 39 = .ok (.invokespecial 29, 3) := by decide +kernel
theorem dX9_init_42 : decode cX9_init 42 = .ok (.putfield 30, 3) := by decide +kernel
theorem dX9_init_45 : decode cX9_init 45 = .ok (.aload_n 0, 1) := by decide +kernel
theorem dX9_init_46 : decode cX9_init 46 = .ok (.new 34, 3) := by decide +kernel
theorem dX9_init_49 : decode cX9_init 49 = .ok (.dup, 1) := by decide +kernel
theorem dX9_init_50 : decode cX9_init 50 = .ok (.invokespecial 36, 3) := by decide +kernel
theorem dX9_init_53 : decode cX9_init 53 = .ok (.putfield 37, 3) := by decide +kernel
theorem dX9_init_56 : decode cX9_init 56 = .ok (.aload_n 0, 1) := by decide +kernel
theorem dX9_init_57 : decode cX9_init 57 = .ok (.new 41, 3) := by decide +kernel
theorem dX9_init_60 : decode cX9_init 60 = .ok (.dup, 1) := by decide +kernel
theorem dX9_init_61 : decode cX9_init 61 = .ok (.invokespecial 43, 3) := by decide +kernel
theorem dX9_init_64 : decode cX9_init 64 = .ok (.putfield 44, 3) := by decide +kernel
theorem dX9_init_67 : decode cX9_init 67 = .ok (.aload_n 0, 1) := by decide +kernel
theorem dX9_init_68 : decode cX9_init 68 = .ok (.new 48, 3) := by decide +kernel
theorem dX9_init_71 : decode cX9_init 71 = .ok (.dup, 1) := by decide +kernel
theorem dX9_init_72 : decode cX9_init 72 = .ok (.invokespecial 50, 3) := by decide +kernel
theorem dX9_init_75 : decode cX9_init 75 = .ok (.putfield 51, 3) := by decide +kernel
theorem dX9_init_78 : decode cX9_init 78 = .ok (.aload_n 0, 1) := by decide +kernel
theorem dX9_init_79 : decode cX9_init 79 = .ok (.new 55, 3) := by decide +kernel
theorem dX9_init_82 : decode cX9_init 82 = .ok (.dup, 1) := by decide +kernel
theorem dX9_init_83 : decode cX9_init 83 = .ok (.invokespecial 57, 3) := by decide +kernel
theorem dX9_init_86 : decode cX9_init 86 = .ok (.putfield 58, 3) := by decide +kernel
theorem dX9_init_89 : decode cX9_init 89 = .ok (.aload_n 0, 1) := by decide +kernel
theorem dX9_init_90 : decode cX9_init 90 = .ok (.new 55, 3) := by decide +kernel
theorem dX9_init_93 : decode cX9_init 93 = .ok (.dup, 1) := by decide +kernel
theorem dX9_init_94 : decode cX9_init 94 = .ok (.invokespecial 57, 3) := by decide +kernel
theorem dX9_init_97 : decode cX9_init 97 = .ok (.putfield 62, 3) := by decide +kernel
theorem dX9_init_100 : decode cX9_init 100 = .ok (.aload_n 0, 1) := by decide +kernel
theorem dX9_init_101 : decode cX9_init 101 = .ok (.new 65, 3) := by decide +kernel
theorem dX9_init_104 : decode cX9_init 104 = .ok (.dup, 1) := by decide +kernel
theorem dX9_init_105 : decode cX9_init 105 = .ok (.invokespecial 67, 3) := by decide +kernel
theorem dX9_init_108 : decode cX9_init 108 = .ok (.putfield 68, 3) := by decide +kernel
theorem dX9_init_111 : decode cX9_init 111 = .ok (.aload_n 0, 1) := by decide +kernel
theorem dX9_init_112 : decode cX9_init 112 = .ok (.iconst 0, 1) := by decide +kernel
theorem dX9_init_113 : decode cX9_init 113 = .ok (.putfield 72, 3) := by decide +kernel
theorem dX9_init_116 : decode cX9_init 116 = .ok (.aload_n 0, 1) := by decide +kernel
theorem dX9_init_117 : decode cX9_init 117 = .ok (.bipush 20, 2) := by decide +kernel
theorem dX9_init_119 : decode cX9_init 119 = .ok (.putfield 76, 3) := by decide +kernel
theorem dX9_init_122 : decode cX9_init 122 = .ok (.return_, 1) := by decide +kernel
theorem dX9_clear_0 : decode cX9_clear 0 = .ok (.aload_n 0, 1) := by decide +kernel
theorem dX9_clear_1 : decode cX9_clear 1 = .ok (.getfield 72, 3) := by decide +kernel
theorem dX9_clear_4 : decode cX9_clear 4 = .ok (.istore_n 1, 1) := by decide +kernel
theorem dX9_clear_5 : decode cX9_clear 5 = .ok (.aload_n 0, 1) := by decide +kernel
theorem dX9_clear_6 : decode cX9_clear 6 = .ok (.iconst 0, 1) := by decide +kernel
theorem dX9_clear_7 : decode cX9_clear 7 = .ok (.putfield 72, 3) := by decide +kernel
theorem dX9_clear_10 : decode cX9_clear 10 = .ok (.aload_n 0, 1) := by decide +kernel
theorem dX9_clear_11 : decode cX9_clear 11 = .ok (.getfield 16, 3) := by decide +kernel
theorem dX9_clear_14 : decode cX9_clear 14 = .ok (.invokevirtual 79, 3) := by decide +kernel
end
section
theorem dX9_clear_17 : decode cX9_clear 17 = .ok (.aload_n 0, 1) := by decide +kernel
theorem dX9_clear_18 : decode cX9_clear 18 = .ok (.getfield 68, 3) := by decide +kernel
theorem dX9_clear_21 : decode cX9_clear 21 = .ok (.invokevirtual 82, 3) := by decide +kernel
theorem dX9_clear_24 : decode cX9_clear 24 = .ok (.aload_n 0, 1) := by decide +kernel
theorem dX9_clear_25 : decode cX9_clear 25 = .ok (.getfield 23, 3) := by decide +kernel
theorem dX9_clear_28 : decode cX9_clear 28 = .ok (.invokevirtual 85, 3) := by decide +kernel
theorem dX9_clear_31 : decode cX9_clear 31 = .ok (.aload_n 0, 1) := by decide +kernel
theorem dX9_clear_32 : decode cX9_clear 32 = .ok (.getfield 30, 3) := by decide +kernel
theorem dX9_clear_35 : decode cX9_clear 35 = .ok (.invokevirtual 88, 3) := by decide +kernel
theorem dX9_clear_38 : decode cX9_clear 38 = .ok (.aload_n 0, 1) := by decide +kernel
theorem dX9_clear_39 : decode cX9_clear 39 = .ok (.getfield 37, 3) := by decide +kernel
theorem dX9_clear_42 : decode cX9_clear 42 = .ok (.invokevirtual 89, 3) := by decide +kernel
theorem dX9_clear_45 : decode cX9_clear 45 = .ok (.aload_n 0, 1) := by decide +kernel
theorem dX9_clear_46 : decode cX9_clear 46 = .ok (.getfield 44, 3) := by decide +kernel
theorem dX9_clear_49 : decode cX9_clear 49 = .ok (.invokevirtual 92, 3) := by decide +kernel
theorem dX9_clear_52 : decode cX9_clear 52 = .ok (.aload_n 0, 1) := by decide +kernel
theorem dX9_clear_53 : decode cX9_clear 53 = .ok (.invokevirtual 93, 3) := by decide +kernel
theorem dX9_clear_56 : decode cX9_clear 56 = .ok (.iload_n 1, 1) := by decide +kernel
theorem dX9_clear_57 : decode cX9_clear 57 = .ok (.ireturn, 1) := by decide +kernel
theorem dX9_setSums_0 : decode cX9_setSums 0 = .ok (.iload_n 1, 1) := by decide +kernel
theorem dX9_setSums_1 : decode cX9_setSums 1 = .ok (.invokestatic 96, 3) := by decide +kernel
theorem dX9_setSums_4 : decode cX9_setSums 4 = .ok (.invokestatic 100, 3) := by decide +kernel
theorem dX9_setSums_7 : decode cX9_setSums 7 = .ok (.iload_n 2, 1) := by decide +kernel
theorem dX9_setSums_8 : decode cX9_setSums 8 = .ok (.iconst 0, 1) := by decide +kernel
theorem dX9_setSums_9 : decode cX9_setSums 9 = .ok (.sipush 1000, 3) := by decide +kernel
theorem dX9_setSums_12 : decode cX9_setSums 12 = .ok (.invokestatic 104, 3) := by decide +kernel
theorem dX9_setSums_15 : decode cX9_setSums 15 = .ok (.invokestatic 100, 3) := by decide +kernel
theorem dX9_setSums_18 : decode cX9_setSums 18 = .ok (.iload_n 3, 1) := by decide +kernel
theorem dX9_setSums_19 : decode cX9_setSums 19 = .ok (.iconst 0, 1) := by decide +kernel
theorem dX9_setSums_20 : decode cX9_setSums 20 = .ok (.ldc 108, 2) := by decide +kernel
theorem dX9_setSums_22 : decode cX9_setSums 22 = .ok (.invokestatic 104, 3) := by decide +kernel
theorem dX9_setSums_25 : decode cX9_setSums 25 = .ok (.invokestatic 100, 3) := by decide +kernel
theorem dX9_setSums_28 : decode cX9_setSums 28 = .ok (.aload_n 0, 1) := by decide +kernel
theorem dX9_setSums_29 : decode cX9_setSums 29 = .ok (.getfield 23, 3) := by decide +kernel
theorem dX9_setSums_32 : decode cX9_setSums 32 = .ok (.iload_n 1, 1) := by decide +kernel
theorem dX9_setSums_33 : decode cX9_setSums 33 = .ok (.iload_n 2, 1) := by decide +kernel
theorem dX9_setSums_34 : decode cX9_setSums 34 = .ok (.iload_n 3, 1) := by decide +kernel
theorem dX9_setSums_35 : decode cX9_setSums 35 = .ok (.invokevirtual 109, 3) := by decide +kernel
theorem dX9_setSums_38 : decode cX9_setSums 38 = .ok (.return_, 1) := by decide +kernel
theorem dX9_setTest_0 : decode cX9_setTest 0 = .ok (.iload_n 1, 1) := by decide +kernel
theorem dX9_setTest_1 : decode cX9_setTest 1 = .ok (.iconst 0, 1) := by decide +kernel
theorem dX9_setTest_2 : decode cX9_setTest 2 = .ok (.sipush 1000, 3) := by decide +kernel
theorem dX9_setTest_5 : decode cX9_setTest 5 = .ok (.invokestatic 104, 3) := by decide +kernel
theorem dX9_setTest_8 : decode cX9_setTest 8 = .ok (.invokestatic 100, 3) := by decide +kernel
theorem dX9_setTest_11 : decode cX9_setTest 11 = .ok (.iload_n 2, 1) := by decide +kernel
theorem dX9_setTest_12 : decode cX9_setTest 12 = .ok (.iconst 0, 1) := by decide +kernel
theorem dX9_setTest_13 : decode cX9_setTest 13 = .ok (.sipush 1000, 3) := by decide +kernel
theorem dX9_setTest_16 : decode cX9_setTest 16 = .ok (.invokestatic 104, 3) := by decide +kernel
theorem dX9_setTest_19 : decode cX9_setTest 19 = .ok (.invokestatic 100, 3) := by decide +kernel
theorem dX9_setTest_22 : decode cX9_setTest 22 = .ok (.iload_n 3, 1) := by decide +kernel
theorem dX9_setTest_23 : decode cX9_setTest 23 = .ok (.iconst 0, 1) := by decide +kernel
theorem dX9_setTest_24 : decode cX9_setTest 24 = .ok (.ldc 108, 2) := by decide +kernel
theorem dX9_setTest_26 : decode cX9_setTest 26 = .ok (.invokestatic 104, 3) := by decide +kernel
theorem dX9_setTest_29 : decode cX9_setTest 29 = .ok (.invokestatic 100, 3) := by decide +kernel
theorem dX9_setTest_32 : decode cX9_setTest 32 = .ok (.aload_n 0, 1) := by decide +kernel
theorem dX9_setTest_33 : decode cX9_setTest 33 = .ok (.getfield 30, 3) := by decide +kernel
theorem dX9_setTest_36 : decode cX9_setTest 36 = .ok (.iload_n 1, 1) := by decide +kernel
theorem dX9_setTest_37 : decode cX9_setTest 37 = .ok (.iload_n 2, 1) := by decide +kernel
theorem dX9_setTest_38 : decode cX9_setTest 38 = .ok (.iload_n 3, 1) := by decide +kernel
theorem dX9_setTest_39 : decode cX9_setTest 39 = .ok (.invokevirtual 113, 3) := by decide +kernel
theorem dX9_setTest_42 : decode cX9_setTest 42 = .ok (.return_, 1) := by decide +kernel
theorem dX9_setPenalty_0 : decode cX9_setPenalty 0 = .ok (.iload_n 1, 1) := by decide +kernel
theorem dX9_setPenalty_1 : decode cX9_setPenalty 1 = .ok (.iconst 0, 1) := by decide +kernel
theorem dX9_setPenalty_2 : decode cX9_setPenalty 2 = .ok (.ldc 108, 2) := by decide +kernel
theorem dX9_setPenalty_4 : decode cX9_setPenalty 4 = .ok (.invokestatic 104, 3) := by decide +kernel
theorem dX9_setPenalty_7 : decode cX9_setPenalty 7 = .ok (.invokestatic 100, 3) := by decide +kernel
theorem dX9_setPenalty_10 : decode cX9_setPenalty 10 = .ok (.aload_n 0, 1) := by decide +kernel
theorem dX9_setPenalty_11 : decode cX9_setPenalty 11 = .ok (.getfield 76, 3) := by decide +kernel
theorem dX9_setPenalty_14 : decode cX9_setPenalty 14 = .ok (.istore_n 2, 1) := by decide +kernel
theorem dX9_setPenalty_15 : decode cX9_setPenalty 15 = .ok (.aload_n 0, 1) := by decide +kernel
theorem dX9_setPenalty_16 : decode cX9_setPenalty 16 = .ok (.iload_n 1, 1) := by decide +kernel
theorem dX9_setPenalty_17 : decode cX9_setPenalty 17 = .ok (.putfield 76, 3) := by decide +kernel
theorem dX9_setPenalty_20 : decode cX9_setPenalty 20 = .ok (.aload_n 0, 1) := by decide +kernel
theorem dX9_setPenalty_21 : decode cX9_setPenalty 21 = .ok (.invokevirtual 93, 3) := by decide +kernel
theorem dX9_setPenalty_24 : decode cX9_setPenalty 24 = .ok (.iload_n 2, 1) := by decide +kernel
theorem dX9_setPenalty_25 : decode cX9_setPenalty 25 = .ok (.ireturn, 1) := by decide +kernel
theorem dX9_add_0 : decode cX9_add 0 = .ok (.iload_n 1, 1) := by decide +kernel
theorem dX9_add_1 : decode cX9_add 1 = .ok (.invokestatic 96, 3) := by decide +kernel
theorem dX9_add_4 : decode cX9_add 4 = .ok (.invokestatic 100, 3) := by decide +kernel
theorem dX9_add_7 : decode cX9_add 7 = .ok (.aload_n 0, 1) := by decide +kernel
theorem dX9_add_8 : decode cX9_add 8 = .ok (.getfield 72, 3) := by decide +kernel
theorem dX9_add_11 : decode cX9_add 11 = .ok (.bipush 120, 2) := by decide +kernel
theorem dX9_add_13 : decode cX9_add 13 = .ok (.if_icmp .ge 7, 3) := by decide +kernel
theorem dX9_add_16 : decode cX9_add 16 = .ok (.iconst 1, 1) := by decide +kernel
theorem dX9_add_17 : decode cX9_add 17 = .ok (.goto 4, 3) := by decide +kernel
theorem dX9_add_20 : decode cX9_add 20 = .ok (.iconst 0, 1) := by decide +kernel
theorem dX9_add_21 : decode cX9_add 21 = .ok (.invokestatic 114, 3) := by decide +kernel
theorem dX9_add_24 : decode cX9_add 24 = .ok (.aload_n 0, 1) := by decide +kernel
theorem dX9_add_25 : decode cX9_add 25 = .ok (.iload_n 1, 1) := by decide +kernel
theorem dX9_add_26 : decode cX9_add 26 = .ok (.invokevirtual 117, 3) := by decide +kernel
theorem dX9_add_29 : decode cX9_add 29 = .ok (.ireturn, 1) := by decide +kernel
theorem dX9_addRun_0 : decode cX9_addRun 0 = .ok (.iload_n 1, 1) := by decide +kernel
theorem dX9_addRun_1 : decode cX9_addRun 1 = .ok (.invokestatic 96, 3) := by decide +kernel
theorem dX9_addRun_4 : decode cX9_addRun 4 = .ok (.invokestatic 100, 3) := by decide +kernel
theorem dX9_addRun_7 : decode cX9_addRun 7 = .ok (.iload_n 2, 1) := by decide +kernel
theorem dX9_addRun_8 : decode cX9_addRun 8 = .ok (.invokestatic 96, 3) := by decide +kernel
theorem dX9_addRun_11 : decode cX9_addRun 11 = .ok (.invokestatic 100, 3) := by decide +kernel
theorem dX9_addRun_14 : decode cX9_addRun 14 = .ok (.iload_n 3, 1) := by decide +kernel
theorem dX9_addRun_15 : decode cX9_addRun 15 = .ok (.iconst 1, 1) := by decide +kernel
theorem dX9_addRun_16 : decode cX9_addRun 16 = .ok (.bipush 40, 2) := by decide +kernel
theorem dX9_addRun_18 : decode cX9_addRun 18 = .ok (.invokestatic 104, 3) := by decide +kernel
theorem dX9_addRun_21 : decode cX9_addRun 21 = .ok (.invokestatic 100, 3) := by decide +kernel
theorem dX9_addRun_24 : decode cX9_addRun 24 = .ok (.iload_n 1, 1) := by decide +kernel
theorem dX9_addRun_25 : decode cX9_addRun 25 = .ok (.iload_n 2, 1) := by decide +kernel
theorem dX9_addRun_26 : decode cX9_addRun 26 = .ok (.iload_n 3, 1) := by decide +kernel
theorem dX9_addRun_27 : decode cX9_addRun 27 = .ok (.iconst 1, 1) := by decide +kernel
theorem dX9_addRun_28 : decode cX9_addRun 28 = .ok (.isub, 1) := by decide +kernel
theorem dX9_addRun_29 : decode cX9_addRun 29 = .ok (.imul, 1) := by decide +kernel
theorem dX9_addRun_30 : decode cX9_addRun 30 = .ok (.iadd, 1) := by decide +kernel
theorem dX9_addRun_31 : decode cX9_addRun 31 = .ok (.invokestatic 96, 3) := by decide +kernel
theorem dX9_addRun_34 : decode cX9_addRun 34 = .ok (.invokestatic 100, 3) := by decide +kernel
theorem dX9_addRun_37 : decode cX9_addRun 37 = .ok (.aload_n 0, 1) := by decide +kernel
theorem dX9_addRun_38 : decode cX9_addRun 38 = .ok (.getfield 72, 3) := by decide +kernel
theorem dX9_addRun_41 : decode cX9_addRun 41 = .ok (.iload_n 3, 1) := by decide +kernel
theorem dX9_addRun_42 : decode cX9_addRun 42 = .ok (.iadd, 1) := by decide +kernel
theorem dX9_addRun_43 : decode cX9_addRun 43 = .ok (.bipush 120, 2) := by decide +kernel
theorem dX9_addRun_45 : decode cX9_addRun 45 = .ok (.if_icmp .gt 7, 3) := by decide +kernel
theorem dX9_addRun_48 : decode cX9_addRun 48 = .ok (.iconst 1, 1) := by decide +kernel
theorem dX9_addRun_49 : decode cX9_addRun 49 = .ok (.goto 4, 3) := by decide +kernel
theorem dX9_addRun_52 : decode cX9_addRun 52 = .ok (.iconst 0, 1) := by decide +kernel
theorem dX9_addRun_53 : decode cX9_addRun 53 = .ok (.invokestatic 114, 3) := by decide +kernel
theorem dX9_addRun_56 : decode cX9_addRun 56 = .ok (.aload_n 0, 1) := by decide +kernel
theorem dX9_addRun_57 : decode cX9_addRun 57 = .ok (.getfield 16, 3) := by decide +kernel
theorem dX9_addRun_60 : decode cX9_addRun 60 = .ok (.getfield 121, 3) := by decide +kernel
theorem dX9_addRun_63 : decode cX9_addRun 63 = .ok (.istore 4, 2) := by decide +kernel
theorem dX9_addRun_65 : decode cX9_addRun 65 = .ok (.iconst 0, 1) := by decide +kernel
theorem dX9_addRun_66 : decode cX9_addRun 66 = .ok (.istore 5, 2) := by decide +kernel
theorem dX9_addRun_68 : decode cX9_addRun 68 = .ok (.iload 5, 2) := by decide +kernel
theorem dX9_addRun_70 : decode cX9_addRun 70 = .ok (.iload_n 3, 1) := by decide +kernel
theorem dX9_addRun_71 : decode cX9_addRun 71 = .ok (.if_icmp .ge 20, 3) := by decide +kernel
theorem dX9_addRun_74 : decode cX9_addRun 74 = .ok (.aload_n 0, 1) := by decide +kernel
theorem dX9_addRun_75 : decode cX9_addRun 75 = .ok (.iload_n 1, 1) := by decide +kernel
theorem dX9_addRun_76 : decode cX9_addRun 76 = .ok (.iload_n 2, 1) := by decide +kernel
theorem dX9_addRun_77 : decode cX9_addRun 77 = .ok (.iload 5, 2) := by decide +kernel
theorem dX9_addRun_79 : decode cX9_addRun 79 = .ok (.imul, 1) := by decide +kernel
theorem dX9_addRun_80 : decode cX9_addRun 80 = .ok (.iadd, 1) := by decide +kernel
theorem dX9_addRun_81 : decode cX9_addRun 81 = .ok (.invokevirtual 117, 3) := by decide +kernel
theorem dX9_addRun_84 : decode cX9_addRun 84 = .ok (.pop, 1) := by decide +kernel
theorem dX9_addRun_85 : decode cX9_addRun 85 = .ok (.iinc 5 1, 3) := by decide +kernel
theorem dX9_addRun_88 : decode cX9_addRun 88 = .ok (.goto (-20), 3) := by decide +kernel
theorem dX9_addRun_91 : decode cX9_addRun 91 = .ok (.aload_n 0, 1) := by decide +kernel
theorem dX9_addRun_92 : decode cX9_addRun 92 = .ok (.getfield 16, 3) := by decide +kernel
theorem dX9_addRun_95 : decode cX9_addRun 95 = .ok (.getfield 121, 3) := by decide +kernel
theorem dX9_addRun_98 : decode cX9_addRun 98 = .ok (.iload 4, 2) := by decide +kernel
theorem dX9_addRun_100 : decode cX9_addRun 100 = .ok (.isub, 1) := by decide +kernel
theorem dX9_addRun_101 : decode cX9_addRun 101 = .ok (.ireturn, 1) := by decide +kernel
theorem dX9_size_0 : decode cX9_size 0 = .ok (.aload_n 0, 1) := by decide +kernel
theorem dX9_size_1 : decode cX9_size 1 = .ok (.getfield 72, 3) := by decide +kernel
theorem dX9_size_4 : decode cX9_size 4 = .ok (.ireturn, 1) := by decide +kernel
theorem dX9_value_0 : decode cX9_value 0 = .ok (.aload_n 0, 1) := by decide +kernel
theorem dX9_value_1 : decode cX9_value 1 = .ok (.iload_n 1, 1) := by decide +kernel
theorem dX9_value_2 : decode cX9_value 2 = .ok (.invokevirtual 124, 3) := by decide +kernel
theorem dX9_value_5 : decode cX9_value 5 = .ok (.invokestatic 127, 3) := by decide +kernel
theorem dX9_value_8 : decode cX9_value 8 = .ok (.aload_n 0, 1) := by decide +kernel
theorem dX9_value_9 : decode cX9_value 9 = .ok (.getfield 9, 3) := by decide +kernel
theorem dX9_value_12 : decode cX9_value 12 = .ok (.iload_n 1, 1) := by decide +kernel
theorem dX9_value_13 : decode cX9_value 13 = .ok (.iaload, 1) := by decide +kernel
theorem dX9_value_14 : decode cX9_value 14 = .ok (.ireturn, 1) := by decide +kernel
theorem dX9_highSum_0 : decode cX9_highSum 0 = .ok (.aload_n 0, 1) := by decide +kernel
theorem dX9_highSum_1 : decode cX9_highSum 1 = .ok (.getfield 23, 3) := by decide +kernel
theorem dX9_highSum_4 : decode cX9_highSum 4 = .ok (.getfield 130, 3) := by decide +kernel
theorem dX9_highSum_7 : decode cX9_highSum 7 = .ok (.ireturn, 1) := by decide +kernel
theorem dX9_lowSum_0 : decode cX9_lowSum 0 = .ok (.aload_n 0, 1) := by decide +kernel
theorem dX9_lowSum_1 : decode cX9_lowSum 1 = .ok (.getfield 23, 3) := by decide +kernel
theorem dX9_lowSum_4 : decode cX9_lowSum 4 = .ok (.getfield 133, 3) := by decide +kernel
theorem dX9_lowSum_7 : decode cX9_lowSum 7 = .ok (.ireturn, 1) := by decide +kernel
theorem dX9_testSum_0 : decode cX9_testSum 0 = .ok (.aload_n 0, 1) := by decide +kernel
theorem dX9_testSum_1 : decode cX9_testSum 1 = .ok (.getfield 30, 3) := by decide +kernel
theorem dX9_testSum_4 : decode cX9_testSum 4 = .ok (.getfield 136, 3) := by decide +kernel
theorem dX9_testSum_7 : decode cX9_testSum 7 = .ok (.aload_n 0, 1) := by decide +kernel
theorem dX9_testSum_8 : decode cX9_testSum 8 = .ok (.getfield 30, 3) := by decide +kernel
theorem dX9_testSum_11 : decode cX9_testSum 11 = .ok (.getfield 139, 3) := by decide +kernel
theorem dX9_testSum_14 : decode cX9_testSum 14 = .ok (.isub, 1) := by decide +kernel
theorem dX9_testSum_15 : decode cX9_testSum 15 = .ok (.ireturn, 1) := by decide +kernel
theorem dX9_alarms_0 : decode cX9_alarms 0 = .ok (.aload_n 0, 1) := by decide +kernel
theorem dX9_alarms_1 : decode cX9_alarms 1 = .ok (.getfield 16, 3) := by decide +kernel
theorem dX9_alarms_4 : decode cX9_alarms 4 = .ok (.getfield 121, 3) := by decide +kernel
theorem dX9_alarms_7 : decode cX9_alarms 7 = .ok (.ireturn, 1) := by decide +kernel
theorem dX9_alarmKind_0 : decode cX9_alarmKind 0 = .ok (.aload_n 0, 1) := by decide +kernel
theorem dX9_alarmKind_1 : decode cX9_alarmKind 1 = .ok (.getfield 16, 3) := by decide +kernel
theorem dX9_alarmKind_4 : decode cX9_alarmKind 4 = .ok (.iload_n 1, 1) := by decide +kernel
theorem dX9_alarmKind_5 : decode cX9_alarmKind 5 = .ok (.invokevirtual 142, 3) := by decide +kernel
theorem dX9_alarmKind_8 : decode cX9_alarmKind 8 = .ok (.invokestatic 127, 3) := by decide +kernel
theorem dX9_alarmKind_11 : decode cX9_alarmKind 11 = .ok (.aload_n 0, 1) := by decide +kernel
theorem dX9_alarmKind_12 : decode cX9_alarmKind 12 = .ok (.getfield 16, 3) := by decide +kernel
theorem dX9_alarmKind_15 : decode cX9_alarmKind 15 = .ok (.getfield 145, 3) := by decide +kernel
theorem dX9_alarmKind_18 : decode cX9_alarmKind 18 = .ok (.iload_n 1, 1) := by decide +kernel
theorem dX9_alarmKind_19 : decode cX9_alarmKind 19 = .ok (.iaload, 1) := by decide +kernel
theorem dX9_alarmKind_20 : decode cX9_alarmKind 20 = .ok (.ireturn, 1) := by decide +kernel
theorem dX9_alarmNumber_0 : decode cX9_alarmNumber 0 = .ok (.aload_n 0, 1) := by decide +kernel
theorem dX9_alarmNumber_1 : decode cX9_alarmNumber 1 = .ok (.getfield 16, 3) := by decide +kernel
theorem dX9_alarmNumber_4 : decode cX9_alarmNumber 4 = .ok (.iload_n 1, 1) := by decide +kernel
theorem dX9_alarmNumber_5 : decode cX9_alarmNumber 5 = .ok (.invokevirtual 142, 3) := by decide +kernel
theorem dX9_alarmNumber_8 : decode cX9_alarmNumber 8 = .ok (.invokestatic 127, 3) := by decide +kernel
theorem dX9_alarmNumber_11 : decode cX9_alarmNumber 11 = .ok (.aload_n 0, 1) := by decide +kernel
theorem dX9_alarmNumber_12 : decode cX9_alarmNumber 12 = .ok (.getfield 16, 3) := by decide +kernel
theorem dX9_alarmNumber_15 : decode cX9_alarmNumber 15 = .ok (.getfield 148, 3) := by decide +kernel
theorem dX9_alarmNumber_18 : decode cX9_alarmNumber 18 = .ok (.iload_n 1, 1) := by decide +kernel
theorem dX9_alarmNumber_19 : decode cX9_alarmNumber 19 = .ok (.iaload, 1) := by decide +kernel
theorem dX9_alarmNumber_20 : decode cX9_alarmNumber 20 = .ok (.ireturn, 1) := by decide +kernel
theorem dX9_alarmStart_0 : decode cX9_alarmStart 0 = .ok (.aload_n 0, 1) := by decide +kernel
theorem dX9_alarmStart_1 : decode cX9_alarmStart 1 = .ok (.getfield 16, 3) := by decide +kernel
theorem dX9_alarmStart_4 : decode cX9_alarmStart 4 = .ok (.iload_n 1, 1) := by decide +kernel
theorem dX9_alarmStart_5 : decode cX9_alarmStart 5 = .ok (.invokevirtual 142, 3) := by decide +kernel
theorem dX9_alarmStart_8 : decode cX9_alarmStart 8 = .ok (.invokestatic 127, 3) := by decide +kernel
theorem dX9_alarmStart_11 : decode cX9_alarmStart 11 = .ok (.aload_n 0, 1) := by decide +kernel
theorem dX9_alarmStart_12 : decode cX9_alarmStart 12 = .ok (.getfield 16, 3) := by decide +kernel
theorem dX9_alarmStart_15 : decode cX9_alarmStart 15 = .ok (.getfield 151, 3) := by decide +kernel
theorem dX9_alarmStart_18 : decode cX9_alarmStart 18 = .ok (.iload_n 1, 1) := by decide +kernel
theorem dX9_alarmStart_19 : decode cX9_alarmStart 19 = .ok (.iaload, 1) := by decide +kernel
theorem dX9_alarmStart_20 : decode cX9_alarmStart 20 = .ok (.ireturn, 1) := by decide +kernel
theorem dX9_cost_0 : decode cX9_cost 0 = .ok (.aload_n 0, 1) := by decide +kernel
theorem dX9_cost_1 : decode cX9_cost 1 = .ok (.iload_n 1, 1) := by decide +kernel
theorem dX9_cost_2 : decode cX9_cost 2 = .ok (.iload_n 2, 1) := by decide +kernel
theorem dX9_cost_3 : decode cX9_cost 3 = .ok (.invokevirtual 154, 3) := by decide +kernel
theorem dX9_cost_6 : decode cX9_cost 6 = .ok (.invokestatic 127, 3) := by decide +kernel
theorem dX9_cost_9 : decode cX9_cost 9 = .ok (.aload_n 0, 1) := by decide +kernel
theorem dX9_cost_10 : decode cX9_cost 10 = .ok (.invokevirtual 158, 3) := by decide +kernel
theorem dX9_cost_13 : decode cX9_cost 13 = .ok (.iload_n 1, 1) := by decide +kernel
theorem dX9_cost_14 : decode cX9_cost 14 = .ok (.iload_n 2, 1) := by decide +kernel
theorem dX9_cost_15 : decode cX9_cost 15 = .ok (.invokevirtual 162, 3) := by decide +kernel
theorem dX9_cost_18 : decode cX9_cost 18 = .ok (.ireturn, 1) := by decide +kernel
theorem dX9_middle_0 : decode cX9_middle 0 = .ok (.aload_n 0, 1) := by decide +kernel
theorem dX9_middle_1 : decode cX9_middle 1 = .ok (.iload_n 1, 1) := by decide +kernel
theorem dX9_middle_2 : decode cX9_middle 2 = .ok (.iload_n 2, 1) := by decide +kernel
theorem dX9_middle_3 : decode cX9_middle 3 = .ok (.invokevirtual 154, 3) := by decide +kernel
theorem dX9_middle_6 : decode cX9_middle 6 = .ok (.invokestatic 127, 3) := by decide +kernel
theorem dX9_middle_9 : decode cX9_middle 9 = .ok (.aload_n 0, 1) := by decide +kernel
theorem dX9_middle_10 : decode cX9_middle 10 = .ok (.getfield 37, 3) := by decide +kernel
theorem dX9_middle_13 : decode cX9_middle 13 = .ok (.aload_n 0, 1) := by decide +kernel
theorem dX9_middle_14 : decode cX9_middle 14 = .ok (.getfield 9, 3) := by decide +kernel
theorem dX9_middle_17 : decode cX9_middle 17 = .ok (.iload_n 1, 1) := by decide +kernel
theorem dX9_middle_18 : decode cX9_middle 18 = .ok (.iload_n 2, 1) := by decide +kernel
theorem dX9_middle_19 : decode cX9_middle 19 = .ok (.invokevirtual 166, 3) := by decide +kernel
theorem dX9_middle_22 : decode cX9_middle 22 = .ok (.ireturn, 1) := by decide +kernel
theorem dX9_changes_0 : decode cX9_changes 0 = .ok (.aload_n 0, 1) := by decide +kernel
theorem dX9_changes_1 : decode cX9_changes 1 = .ok (.invokevirtual 170, 3) := by decide +kernel
theorem dX9_changes_4 : decode cX9_changes 4 = .ok (.getfield 174, 3) := by decide +kernel
theorem dX9_changes_7 : decode cX9_changes 7 = .ok (.ireturn, 1) := by decide +kernel
theorem dX9_change_0 : decode cX9_change 0 = .ok (.aload_n 0, 1) := by decide +kernel
theorem dX9_change_1 : decode cX9_change 1 = .ok (.invokevirtual 170, 3) := by decide +kernel
theorem dX9_change_4 : decode cX9_change 4 = .ok (.astore_n 2, 1) := by decide +kernel
theorem dX9_change_5 : decode cX9_change 5 = .ok (.aload_n 2, 1) := by decide +kernel
theorem dX9_change_6 : decode cX9_change 6 = .ok (.iload_n 1, 1) := by decide +kernel
theorem dX9_change_7 : decode cX9_change 7 = .ok (.invokevirtual 177, 3) := by decide +kernel
theorem dX9_change_10 : decode cX9_change 10 = .ok (.invokestatic 127, 3) := by decide +kernel
theorem dX9_change_13 : decode cX9_change 13 = .ok (.aload_n 2, 1) := by decide +kernel
theorem dX9_change_14 : decode cX9_change 14 = .ok (.iload_n 1, 1) := by decide +kernel
theorem dX9_change_15 : decode cX9_change 15 = .ok (.invokevirtual 178, 3) := by decide +kernel
theorem dX9_change_18 : decode cX9_change 18 = .ok (.ireturn, 1) := by decide +kernel
theorem dX9_bestCost_0 : decode cX9_bestCost 0 = .ok (.aload_n 0, 1) := by decide +kernel
theorem dX9_bestCost_1 : decode cX9_bestCost 1 = .ok (.invokevirtual 170, 3) := by decide +kernel
theorem dX9_bestCost_4 : decode cX9_bestCost 4 = .ok (.getfield 181, 3) := by decide +kernel
theorem dX9_bestCost_7 : decode cX9_bestCost 7 = .ok (.ireturn, 1) := by decide +kernel
theorem dX9_leastCost_0 : decode cX9_leastCost 0 = .ok (.iload_n 1, 1) := by decide +kernel
theorem dX9_leastCost_1 : decode cX9_leastCost 1 = .ok (.iconst 0, 1) := by decide +kernel
theorem dX9_leastCost_2 : decode cX9_leastCost 2 = .ok (.bipush 119, 2) := by decide +kernel
theorem dX9_leastCost_4 : decode cX9_leastCost 4 = .ok (.invokestatic 104, 3) := by decide +kernel
theorem dX9_leastCost_7 : decode cX9_leastCost 7 = .ok (.invokestatic 100, 3) := by decide +kernel
theorem dX9_leastCost_10 : decode cX9_leastCost 10 = .ok (.iload_n 1, 1) := by decide +kernel
theorem dX9_leastCost_11 : decode cX9_leastCost 11 = .ok (.aload_n 0, 1) := by decide +kernel
theorem dX9_leastCost_12 : decode cX9_leastCost 12 = .ok (.getfield 72, 3) := by decide +kernel
theorem dX9_leastCost_15 : decode cX9_leastCost 15 = .ok (.if_icmp .ge 7, 3) := by decide +kernel
theorem dX9_leastCost_18 : decode cX9_leastCost 18 = .ok (.iconst 1, 1) := by decide +kernel
theorem dX9_leastCost_19 : decode cX9_leastCost 19 = .ok (.goto 4, 3) := by decide +kernel
theorem dX9_leastCost_22 : decode cX9_leastCost 22 = .ok (.iconst 0, 1) := by decide +kernel
theorem dX9_leastCost_23 : decode cX9_leastCost 23 = .ok (.invokestatic 114, 3) := by decide +kernel
theorem dX9_leastCost_26 : decode cX9_leastCost 26 = .ok (.aload_n 0, 1) := by decide +kernel
theorem dX9_leastCost_27 : decode cX9_leastCost 27 = .ok (.getfield 44, 3) := by decide +kernel
theorem dX9_leastCost_30 : decode cX9_leastCost 30 = .ok (.aload_n 0, 1) := by decide +kernel
theorem dX9_leastCost_31 : decode cX9_leastCost 31 = .ok (.invokevirtual 158, 3) := by decide +kernel
theorem dX9_leastCost_34 : decode cX9_leastCost 34 = .ok (.aload_n 0, 1) := by decide +kernel
theorem dX9_leastCost_35 : decode cX9_leastCost 35 = .ok (.getfield 72, 3) := by decide +kernel
theorem dX9_leastCost_38 : decode cX9_leastCost 38 = .ok (.invokevirtual 184, 3) := by decide +kernel
theorem dX9_leastCost_41 : decode cX9_leastCost 41 = .ok (.aload_n 0, 1) := by decide +kernel
theorem dX9_leastCost_42 : decode cX9_leastCost 42 = .ok (.getfield 44, 3) := by decide +kernel
theorem dX9_leastCost_45 : decode cX9_leastCost 45 = .ok (.iload_n 1, 1) := by decide +kernel
theorem dX9_leastCost_46 : decode cX9_leastCost 46 = .ok (.aload_n 0, 1) := by decide +kernel
theorem dX9_leastCost_47 : decode cX9_leastCost 47 = .ok (.getfield 72, 3) := by decide +kernel
theorem dX9_leastCost_50 : decode cX9_leastCost 50 = .ok (.invokevirtual 188, 3) := by decide +kernel
theorem dX9_leastCost_53 : decode cX9_leastCost 53 = .ok (.ireturn, 1) := by decide +kernel
theorem dX9_greedyChanges_0 : decode cX9_greedyChanges 0 = .ok (.aload_n 0, 1) := by decide +kernel
theorem dX9_greedyChanges_1 : decode cX9_greedyChanges 1 = .ok (.invokevirtual 189, 3) := by decide +kernel
theorem dX9_greedyChanges_4 : decode cX9_greedyChanges 4 = .ok (.getfield 174, 3) := by decide +kernel
theorem dX9_greedyChanges_7 : decode cX9_greedyChanges 7 = .ok (.ireturn, 1) := by decide +kernel
theorem dX9_greedyChange_0 : decode cX9_greedyChange 0 = .ok (.aload_n 0, 1) := by decide +kernel
theorem dX9_greedyChange_1 : decode cX9_greedyChange 1 = .ok (.invokevirtual 189, 3) := by decide +kernel
theorem dX9_greedyChange_4 : decode cX9_greedyChange 4 = .ok (.astore_n 2, 1) := by decide +kernel
theorem dX9_greedyChange_5 : decode cX9_greedyChange 5 = .ok (.aload_n 2, 1) := by decide +kernel
theorem dX9_greedyChange_6 : decode cX9_greedyChange 6 = .ok (.iload_n 1, 1) := by decide +kernel
theorem dX9_greedyChange_7 : decode cX9_greedyChange 7 = .ok (.invokevirtual 177, 3) := by decide +kernel
theorem dX9_greedyChange_10 : decode cX9_greedyChange 10 = .ok (.invokestatic 127, 3) := by decide +kernel
theorem dX9_greedyChange_13 : decode cX9_greedyChange 13 = .ok (.aload_n 2, 1) := by decide +kernel
theorem dX9_greedyChange_14 : decode cX9_greedyChange 14 = .ok (.iload_n 1, 1) := by decide +kernel
theorem dX9_greedyChange_15 : decode cX9_greedyChange 15 = .ok (.invokevirtual 178, 3) := by decide +kernel
theorem dX9_greedyChange_18 : decode cX9_greedyChange 18 = .ok (.ireturn, 1) := by decide +kernel
theorem dX9_greedyCost_0 : decode cX9_greedyCost 0 = .ok (.aload_n 0, 1) := by decide +kernel
theorem dX9_greedyCost_1 : decode cX9_greedyCost 1 = .ok (.invokevirtual 189, 3) := by decide +kernel
theorem dX9_greedyCost_4 : decode cX9_greedyCost 4 = .ok (.getfield 181, 3) := by decide +kernel
theorem dX9_greedyCost_7 : decode cX9_greedyCost 7 = .ok (.ireturn, 1) := by decide +kernel
theorem dX9_toggleTruth_0 : decode cX9_toggleTruth 0 = .ok (.aload_n 0, 1) := by decide +kernel
theorem dX9_toggleTruth_1 : decode cX9_toggleTruth 1 = .ok (.iload_n 1, 1) := by decide +kernel
theorem dX9_toggleTruth_2 : decode cX9_toggleTruth 2 = .ok (.invokevirtual 124, 3) := by decide +kernel
theorem dX9_toggleTruth_5 : decode cX9_toggleTruth 5 = .ok (.invokestatic 127, 3) := by decide +kernel
theorem dX9_toggleTruth_8 : decode cX9_toggleTruth 8 = .ok (.aload_n 0, 1) := by decide +kernel
theorem dX9_toggleTruth_9 : decode cX9_toggleTruth 9 = .ok (.getfield 68, 3) := by decide +kernel
theorem dX9_toggleTruth_12 : decode cX9_toggleTruth 12 = .ok (.getfield 192, 3) := by decide +kernel
theorem dX9_toggleTruth_15 : decode cX9_toggleTruth 15 = .ok (.iload_n 1, 1) := by decide +kernel
theorem dX9_toggleTruth_16 : decode cX9_toggleTruth 16 = .ok (.aload_n 0, 1) := by decide +kernel
theorem dX9_toggleTruth_17 : decode cX9_toggleTruth 17 = .ok (.getfield 68, 3) := by decide +kernel
theorem dX9_toggleTruth_20 : decode cX9_toggleTruth 20 = .ok (.getfield 192, 3) := by decide +kernel
theorem dX9_toggleTruth_23 : decode cX9_toggleTruth 23 = .ok (.iload_n 1, 1) := by decide +kernel
theorem dX9_toggleTruth_24 : decode cX9_toggleTruth 24 = .ok (.baload, 1) := by decide +kernel
theorem dX9_toggleTruth_25 : decode cX9_toggleTruth 25 = .ok (.ifCond .ne 7, 3) := by decide +kernel
theorem dX9_toggleTruth_28 : decode cX9_toggleTruth 28 = .ok (.iconst 1, 1) := by decide +kernel
theorem dX9_toggleTruth_29 : decode cX9_toggleTruth 29 = .ok (.goto 4, 3) := by decide +kernel
theorem dX9_toggleTruth_32 : decode cX9_toggleTruth 32 = .ok (.iconst 0, 1) := by decide +kernel
theorem dX9_toggleTruth_33 : decode cX9_toggleTruth 33 = .ok (.bastore, 1) := by decide +kernel
theorem dX9_toggleTruth_34 : decode cX9_toggleTruth 34 = .ok (.aload_n 0, 1) := by decide +kernel
theorem dX9_toggleTruth_35 : decode cX9_toggleTruth 35 = .ok (.getfield 68, 3) := by decide +kernel
theorem dX9_toggleTruth_38 : decode cX9_toggleTruth 38 = .ok (.getfield 192, 3) := by decide +kernel
theorem dX9_toggleTruth_41 : decode cX9_toggleTruth 41 = .ok (.iload_n 1, 1) := by decide +kernel
theorem dX9_toggleTruth_42 : decode cX9_toggleTruth 42 = .ok (.baload, 1) := by decide +kernel
theorem dX9_toggleTruth_43 : decode cX9_toggleTruth 43 = .ok (.ireturn, 1) := by decide +kernel
theorem dX9_matched_0 : decode cX9_matched 0 = .ok (.aload_n 0, 1) := by decide +kernel
theorem dX9_matched_1 : decode cX9_matched 1 = .ok (.iload_n 1, 1) := by decide +kernel
theorem dX9_matched_2 : decode cX9_matched 2 = .ok (.iload_n 2, 1) := by decide +kernel
theorem dX9_matched_3 : decode cX9_matched 3 = .ok (.invokevirtual 196, 3) := by decide +kernel
theorem dX9_matched_6 : decode cX9_matched 6 = .ok (.aload_n 0, 1) := by decide +kernel
theorem dX9_matched_7 : decode cX9_matched 7 = .ok (.getfield 68, 3) := by decide +kernel
theorem dX9_matched_10 : decode cX9_matched 10 = .ok (.getfield 200, 3) := by decide +kernel
theorem dX9_matched_13 : decode cX9_matched 13 = .ok (.ireturn, 1) := by decide +kernel
theorem dX9_falseAlarms_0 : decode cX9_falseAlarms 0 = .ok (.aload_n 0, 1) := by decide +kernel
theorem dX9_falseAlarms_1 : decode cX9_falseAlarms 1 = .ok (.iload_n 1, 1) := by decide +kernel
theorem dX9_falseAlarms_2 : decode cX9_falseAlarms 2 = .ok (.iload_n 2, 1) := by decide +kernel
theorem dX9_falseAlarms_3 : decode cX9_falseAlarms 3 = .ok (.invokevirtual 196, 3) := by decide +kernel
theorem dX9_falseAlarms_6 : decode cX9_falseAlarms 6 = .ok (.aload_n 0, 1) := by decide +kernel
theorem dX9_falseAlarms_7 : decode cX9_falseAlarms 7 = .ok (.getfield 68, 3) := by decide +kernel
theorem dX9_falseAlarms_10 : decode cX9_falseAlarms 10 = .ok (.getfield 203, 3) := by decide +kernel
theorem dX9_falseAlarms_13 : decode cX9_falseAlarms 13 = .ok (.ireturn, 1) := by decide +kernel
theorem dX9_averageDelay_0 : decode cX9_averageDelay 0 = .ok (.aload_n 0, 1) := by decide +kernel
theorem dX9_averageDelay_1 : decode cX9_averageDelay 1 = .ok (.iload_n 1, 1) := by decide +kernel
theorem dX9_averageDelay_2 : decode cX9_averageDelay 2 = .ok (.iload_n 2, 1) := by decide +kernel
theorem dX9_averageDelay_3 : decode cX9_averageDelay 3 = .ok (.invokevirtual 196, 3) := by decide +kernel
theorem dX9_averageDelay_6 : decode cX9_averageDelay 6 = .ok (.aload_n 0, 1) := by decide +kernel
theorem dX9_averageDelay_7 : decode cX9_averageDelay 7 = .ok (.getfield 68, 3) := by decide +kernel
theorem dX9_averageDelay_10 : decode cX9_averageDelay 10 = .ok (.getfield 200, 3) := by decide +kernel
theorem dX9_averageDelay_13 : decode cX9_averageDelay 13 = .ok (.ifCond .le 7, 3) := by decide +kernel
theorem dX9_averageDelay_16 : decode cX9_averageDelay 16 = .ok (.iconst 1, 1) := by decide +kernel
theorem dX9_averageDelay_17 : decode cX9_averageDelay 17 = .ok (.goto 4, 3) := by decide +kernel
theorem dX9_averageDelay_20 : decode cX9_averageDelay 20 = .ok (.iconst 0, 1) := by decide +kernel
theorem dX9_averageDelay_21 : decode cX9_averageDelay 21 = .ok (.invokestatic 114, 3) := by decide +kernel
theorem dX9_averageDelay_24 : decode cX9_averageDelay 24 = .ok (.aload_n 0, 1) := by decide +kernel
theorem dX9_averageDelay_25 : decode cX9_averageDelay 25 = .ok (.getfield 68, 3) := by decide +kernel
theorem dX9_averageDelay_28 : decode cX9_averageDelay 28 = .ok (.getfield 206, 3) := by decide +kernel
theorem dX9_averageDelay_31 : decode cX9_averageDelay 31 = .ok (.i2f, 1) := by decide +kernel
theorem dX9_averageDelay_32 : decode cX9_averageDelay 32 = .ok (.aload_n 0, 1) := by decide +kernel
theorem dX9_averageDelay_33 : decode cX9_averageDelay 33 = .ok (.getfield 68, 3) := by decide +kernel
theorem dX9_averageDelay_36 : decode cX9_averageDelay 36 = .ok (.getfield 200, 3) := by decide +kernel
theorem dX9_averageDelay_39 : decode cX9_averageDelay 39 = .ok (.i2f, 1) := by decide +kernel
theorem dX9_averageDelay_40 : decode cX9_averageDelay 40 = .ok (.fdiv, 1) := by decide +kernel
theorem dX9_averageDelay_41 : decode cX9_averageDelay 41 = .ok (.freturn, 1) := by decide +kernel
theorem dX9_take_0 : decode cX9_take 0 = .ok (.aload_n 0, 1) := by decide +kernel
theorem dX9_take_1 : decode cX9_take 1 = .ok (.getfield 72, 3) := by decide +kernel
theorem dX9_take_4 : decode cX9_take 4 = .ok (.istore_n 2, 1) := by decide +kernel
theorem dX9_take_5 : decode cX9_take 5 = .ok (.aload_n 0, 1) := by decide +kernel
theorem dX9_take_6 : decode cX9_take 6 = .ok (.getfield 9, 3) := by decide +kernel
theorem dX9_take_9 : decode cX9_take 9 = .ok (.iload_n 2, 1) := by decide +kernel
theorem dX9_take_10 : decode cX9_take 10 = .ok (.iload_n 1, 1) := by decide +kernel
theorem dX9_take_11 : decode cX9_take 11 = .ok (.iastore, 1) := by decide +kernel
theorem dX9_take_12 : decode cX9_take 12 = .ok (.aload_n 0, 1) := by decide +kernel
theorem dX9_take_13 : decode cX9_take 13 = .ok (.dup, 1) := by decide +kernel
theorem dX9_take_14 : decode cX9_take 14 = .ok (.getfield 72, 3) := by decide +kernel
theorem dX9_take_17 : decode cX9_take 17 = .ok (.iconst 1, 1) := by decide +kernel
theorem dX9_take_18 : decode cX9_take 18 = .ok (.iadd, 1) := by decide +kernel
theorem dX9_take_19 : decode cX9_take 19 = .ok (.putfield 72, 3) := by decide +kernel
theorem dX9_take_22 : decode cX9_take 22 = .ok (.aload_n 0, 1) := by decide +kernel
theorem dX9_take_23 : decode cX9_take 23 = .ok (.invokevirtual 93, 3) := by decide +kernel
theorem dX9_take_26 : decode cX9_take 26 = .ok (.aload_n 0, 1) := by decide +kernel
theorem dX9_take_27 : decode cX9_take 27 = .ok (.getfield 23, 3) := by decide +kernel
theorem dX9_take_30 : decode cX9_take 30 = .ok (.iload_n 1, 1) := by decide +kernel
theorem dX9_take_31 : decode cX9_take 31 = .ok (.iload_n 2, 1) := by decide +kernel
theorem dX9_take_32 : decode cX9_take 32 = .ok (.aload_n 0, 1) := by decide +kernel
theorem dX9_take_33 : decode cX9_take 33 = .ok (.getfield 16, 3) := by decide +kernel
theorem dX9_take_36 : decode cX9_take 36 = .ok (.invokevirtual 209, 3) := by decide +kernel
theorem dX9_take_39 : decode cX9_take 39 = .ok (.istore_n 3, 1) := by decide +kernel
theorem dX9_take_40 : decode cX9_take 40 = .ok (.aload_n 0, 1) := by decide +kernel
theorem dX9_take_41 : decode cX9_take 41 = .ok (.getfield 30, 3) := by decide +kernel
theorem dX9_take_44 : decode cX9_take 44 = .ok (.iload_n 1, 1) := by decide +kernel
theorem dX9_take_45 : decode cX9_take 45 = .ok (.iload_n 2, 1) := by decide +kernel
theorem dX9_take_46 : decode cX9_take 46 = .ok (.aload_n 0, 1) := by decide +kernel
theorem dX9_take_47 : decode cX9_take 47 = .ok (.getfield 16, 3) := by decide +kernel
theorem dX9_take_50 : decode cX9_take 50 = .ok (.invokevirtual 213, 3) := by decide +kernel
theorem dX9_take_53 : decode cX9_take 53 = .ok (.istore 4, 2) := by decide +kernel
theorem dX9_take_55 : decode cX9_take 55 = .ok (.iload_n 3, 1) := by decide +kernel
theorem dX9_take_56 : decode cX9_take 56 = .ok (.iload 4, 2) := by decide +kernel
theorem dX9_take_58 : decode cX9_take 58 = .ok (.ior, 1) := by decide +kernel
theorem dX9_take_59 : decode cX9_take 59 = .ok (.ireturn, 1) := by decide +kernel
theorem dX9_forgetCuttings_0 : decode cX9_forgetCuttings 0 = .ok (.aload_n 0, 1) := by decide +kernel
theorem dX9_forgetCuttings_1 : decode cX9_forgetCuttings 1 = .ok (.getfield 58, 3) := by decide +kernel
theorem dX9_forgetCuttings_4 : decode cX9_forgetCuttings 4 = .ok (.iconst 0, 1) := by decide +kernel
theorem dX9_forgetCuttings_5 : decode cX9_forgetCuttings 5 = .ok (.putfield 214, 3) := by decide +kernel
theorem dX9_forgetCuttings_8 : decode cX9_forgetCuttings 8 = .ok (.aload_n 0, 1) := by decide +kernel
theorem dX9_forgetCuttings_9 : decode cX9_forgetCuttings 9 = .ok (.getfield 62, 3) := by decide +kernel
theorem dX9_forgetCuttings_12 : decode cX9_forgetCuttings 12 = .ok (.iconst 0, 1) := by decide +kernel
theorem dX9_forgetCuttings_13 : decode cX9_forgetCuttings 13 = .ok (.putfield 214, 3) := by decide +kernel
theorem dX9_forgetCuttings_16 : decode cX9_forgetCuttings 16 = .ok (.return_, 1) := by decide +kernel
theorem dX9_learntCosts_0 : decode cX9_learntCosts 0 = .ok (.aload_n 0, 1) := by decide +kernel
theorem dX9_learntCosts_1 : decode cX9_learntCosts 1 = .ok (.getfield 37, 3) := by decide +kernel
theorem dX9_learntCosts_4 : decode cX9_learntCosts 4 = .ok (.aload_n 0, 1) := by decide +kernel
theorem dX9_learntCosts_5 : decode cX9_learntCosts 5 = .ok (.getfield 9, 3) := by decide +kernel
theorem dX9_learntCosts_8 : decode cX9_learntCosts 8 = .ok (.aload_n 0, 1) := by decide +kernel
theorem dX9_learntCosts_9 : decode cX9_learntCosts 9 = .ok (.getfield 72, 3) := by decide +kernel
theorem dX9_learntCosts_12 : decode cX9_learntCosts 12 = .ok (.invokevirtual 218, 3) := by decide +kernel
theorem dX9_learntCosts_15 : decode cX9_learntCosts 15 = .ok (.aload_n 0, 1) := by decide +kernel
theorem dX9_learntCosts_16 : decode cX9_learntCosts 16 = .ok (.getfield 37, 3) := by decide +kernel
theorem dX9_learntCosts_19 : decode cX9_learntCosts 19 = .ok (.areturn, 1) := by decide +kernel
theorem dX9_bestCutting_0 : decode cX9_bestCutting 0 = .ok (.aload_n 0, 1) := by decide +kernel
theorem dX9_bestCutting_1 : decode cX9_bestCutting 1 = .ok (.getfield 58, 3) := by decide +kernel
theorem dX9_bestCutting_4 : decode cX9_bestCutting 4 = .ok (.getfield 214, 3) := by decide +kernel
theorem dX9_bestCutting_7 : decode cX9_bestCutting 7 = .ok (.ifCond .ne 44, 3) := by decide +kernel
theorem dX9_bestCutting_10 : decode cX9_bestCutting 10 = .ok (.aload_n 0, 1) := by decide +kernel
theorem dX9_bestCutting_11 : decode cX9_bestCutting 11 = .ok (.invokevirtual 158, 3) := by decide +kernel
theorem dX9_bestCutting_14 : decode cX9_bestCutting 14 = .ok (.astore_n 1, 1) := by decide +kernel
theorem dX9_bestCutting_15 : decode cX9_bestCutting 15 = .ok (.aload_n 0, 1) := by decide +kernel
theorem dX9_bestCutting_16 : decode cX9_bestCutting 16 = .ok (.getfield 51, 3) := by decide +kernel
theorem dX9_bestCutting_19 : decode cX9_bestCutting 19 = .ok (.aload_n 1, 1) := by decide +kernel
theorem dX9_bestCutting_20 : decode cX9_bestCutting 20 = .ok (.aload_n 0, 1) := by decide +kernel
theorem dX9_bestCutting_21 : decode cX9_bestCutting 21 = .ok (.getfield 72, 3) := by decide +kernel
theorem dX9_bestCutting_24 : decode cX9_bestCutting 24 = .ok (.aload_n 0, 1) := by decide +kernel
theorem dX9_bestCutting_25 : decode cX9_bestCutting 25 = .ok (.getfield 76, 3) := by decide +kernel
theorem dX9_bestCutting_28 : decode cX9_bestCutting 28 = .ok (.aload_n 0, 1) := by decide +kernel
theorem dX9_bestCutting_29 : decode cX9_bestCutting 29 = .ok (.getfield 58, 3) := by decide +kernel
theorem dX9_bestCutting_32 : decode cX9_bestCutting 32 = .ok (.invokevirtual 221, 3) := by decide +kernel
theorem dX9_bestCutting_35 : decode cX9_bestCutting 35 = .ok (.aload_n 0, 1) := by decide +kernel
theorem dX9_bestCutting_36 : decode cX9_bestCutting 36 = .ok (.getfield 58, 3) := by decide +kernel
theorem dX9_bestCutting_39 : decode cX9_bestCutting 39 = .ok (.aload_n 1, 1) := by decide +kernel
theorem dX9_bestCutting_40 : decode cX9_bestCutting 40 = .ok (.aload_n 0, 1) := by decide +kernel
theorem dX9_bestCutting_41 : decode cX9_bestCutting 41 = .ok (.getfield 72, 3) := by decide +kernel
theorem dX9_bestCutting_44 : decode cX9_bestCutting 44 = .ok (.aload_n 0, 1) := by decide +kernel
theorem dX9_bestCutting_45 : decode cX9_bestCutting 45 = .ok (.getfield 76, 3) := by decide +kernel
theorem dX9_bestCutting_48 : decode cX9_bestCutting 48 = .ok (.invokevirtual 225, 3) := by decide +kernel
theorem dX9_bestCutting_51 : decode cX9_bestCutting 51 = .ok (.aload_n 0, 1) := by decide +kernel
theorem dX9_bestCutting_52 : decode cX9_bestCutting 52 = .ok (.getfield 58, 3) := by decide +kernel
theorem dX9_bestCutting_55 : decode cX9_bestCutting 55 = .ok (.areturn, 1) := by decide +kernel
theorem dX9_greedyCutting_0 : decode cX9_greedyCutting 0 = .ok (.aload_n 0, 1) := by decide +kernel
theorem dX9_greedyCutting_1 : decode cX9_greedyCutting 1 = .ok (.getfield 62, 3) := by decide +kernel
theorem dX9_greedyCutting_4 : decode cX9_greedyCutting 4 = .ok (.getfield 214, 3) := by decide +kernel
theorem dX9_greedyCutting_7 : decode cX9_greedyCutting 7 = .ok (.ifCond .ne 40, 3) := by decide +kernel
theorem dX9_greedyCutting_10 : decode cX9_greedyCutting 10 = .ok (.aload_n 0, 1) := by decide +kernel
theorem dX9_greedyCutting_11 : decode cX9_greedyCutting 11 = .ok (.invokevirtual 158, 3) := by decide +kernel
theorem dX9_greedyCutting_14 : decode cX9_greedyCutting 14 = .ok (.astore_n 1, 1) := by decide +kernel
theorem dX9_greedyCutting_15 : decode cX9_greedyCutting 15 = .ok (.aload_n 1, 1) := by decide +kernel
theorem dX9_greedyCutting_16 : decode cX9_greedyCutting 16 = .ok (.aload_n 0, 1) := by decide +kernel
theorem dX9_greedyCutting_17 : decode cX9_greedyCutting 17 = .ok (.getfield 72, 3) := by decide +kernel
theorem dX9_greedyCutting_20 : decode cX9_greedyCutting 20 = .ok (.aload_n 0, 1) := by decide +kernel
theorem dX9_greedyCutting_21 : decode cX9_greedyCutting 21 = .ok (.getfield 76, 3) := by decide +kernel
theorem dX9_greedyCutting_24 : decode cX9_greedyCutting 24 = .ok (.aload_n 0, 1) := by decide +kernel
theorem dX9_greedyCutting_25 : decode cX9_greedyCutting 25 = .ok (.getfield 62, 3) := by decide +kernel
theorem dX9_greedyCutting_28 : decode cX9_greedyCutting 28 = .ok (.invokestatic 229, 3) := by decide +kernel
theorem dX9_greedyCutting_31 : decode cX9_greedyCutting 31 = .ok (.aload_n 0, 1) := by decide +kernel
theorem dX9_greedyCutting_32 : decode cX9_greedyCutting 32 = .ok (.getfield 62, 3) := by decide +kernel
theorem dX9_greedyCutting_35 : decode cX9_greedyCutting 35 = .ok (.aload_n 1, 1) := by decide +kernel
theorem dX9_greedyCutting_36 : decode cX9_greedyCutting 36 = .ok (.aload_n 0, 1) := by decide +kernel
theorem dX9_greedyCutting_37 : decode cX9_greedyCutting 37 = .ok (.getfield 72, 3) := by decide +kernel
theorem dX9_greedyCutting_40 : decode cX9_greedyCutting 40 = .ok (.aload_n 0, 1) := by decide +kernel
theorem dX9_greedyCutting_41 : decode cX9_greedyCutting 41 = .ok (.getfield 76, 3) := by decide +kernel
theorem dX9_greedyCutting_44 : decode cX9_greedyCutting 44 = .ok (.invokevirtual 225, 3) := by decide +kernel
theorem dX9_greedyCutting_47 : decode cX9_greedyCutting 47 = .ok (.aload_n 0, 1) := by decide +kernel
theorem dX9_greedyCutting_48 : decode cX9_greedyCutting 48 = .ok (.getfield 62, 3) := by decide +kernel
theorem dX9_greedyCutting_51 : decode cX9_greedyCutting 51 = .ok (.areturn, 1) := by decide +kernel
theorem dX9_matchAlarms_0 : decode cX9_matchAlarms 0 = .ok (.iload_n 1, 1) := by decide +kernel
theorem dX9_matchAlarms_1 : decode cX9_matchAlarms 1 = .ok (.iconst 0, 1) := by decide +kernel
theorem dX9_matchAlarms_2 : decode cX9_matchAlarms 2 = .ok (.iconst 2, 1) := by decide +kernel
theorem dX9_matchAlarms_3 : decode cX9_matchAlarms 3 = .ok (.invokestatic 104, 3) := by decide +kernel
theorem dX9_matchAlarms_6 : decode cX9_matchAlarms 6 = .ok (.invokestatic 100, 3) := by decide +kernel
theorem dX9_matchAlarms_9 : decode cX9_matchAlarms 9 = .ok (.iload_n 2, 1) := by decide +kernel
theorem dX9_matchAlarms_10 : decode cX9_matchAlarms 10 = .ok (.iconst 0, 1) := by decide +kernel
theorem dX9_matchAlarms_11 : decode cX9_matchAlarms 11 = .ok (.bipush 120, 2) := by decide +kernel
theorem dX9_matchAlarms_13 : decode cX9_matchAlarms 13 = .ok (.invokestatic 104, 3) := by decide +kernel
theorem dX9_matchAlarms_16 : decode cX9_matchAlarms 16 = .ok (.invokestatic 100, 3) := by decide +kernel
theorem dX9_matchAlarms_19 : decode cX9_matchAlarms 19 = .ok (.aload_n 0, 1) := by decide +kernel
theorem dX9_matchAlarms_20 : decode cX9_matchAlarms 20 = .ok (.getfield 68, 3) := by decide +kernel
theorem dX9_matchAlarms_23 : decode cX9_matchAlarms 23 = .ok (.aload_n 0, 1) := by decide +kernel
theorem dX9_matchAlarms_24 : decode cX9_matchAlarms 24 = .ok (.getfield 16, 3) := by decide +kernel
theorem dX9_matchAlarms_27 : decode cX9_matchAlarms 27 = .ok (.iload_n 1, 1) := by decide +kernel
theorem dX9_matchAlarms_28 : decode cX9_matchAlarms 28 = .ok (.iload_n 2, 1) := by decide +kernel
theorem dX9_matchAlarms_29 : decode cX9_matchAlarms 29 = .ok (.invokevirtual 232, 3) := by decide +kernel
theorem dX9_matchAlarms_32 : decode cX9_matchAlarms 32 = .ok (.return_, 1) := by decide +kernel
theorem dX9_isValueNumber_0 : decode cX9_isValueNumber 0 = .ok (.iload_n 1, 1) := by decide +kernel
theorem dX9_isValueNumber_1 : decode cX9_isValueNumber 1 = .ok (.ifCond .lt 15, 3) := by decide +kernel
theorem dX9_isValueNumber_4 : decode cX9_isValueNumber 4 = .ok (.iload_n 1, 1) := by decide +kernel
theorem dX9_isValueNumber_5 : decode cX9_isValueNumber 5 = .ok (.aload_n 0, 1) := by decide +kernel
theorem dX9_isValueNumber_6 : decode cX9_isValueNumber 6 = .ok (.getfield 72, 3) := by decide +kernel
theorem dX9_isValueNumber_9 : decode cX9_isValueNumber 9 = .ok (.if_icmp .ge 7, 3) := by decide +kernel
theorem dX9_isValueNumber_12 : decode cX9_isValueNumber 12 = .ok (.iconst 1, 1) := by decide +kernel
theorem dX9_isValueNumber_13 : decode cX9_isValueNumber 13 = .ok (.goto 4, 3) := by decide +kernel
theorem dX9_isValueNumber_16 : decode cX9_isValueNumber 16 = .ok (.iconst 0, 1) := by decide +kernel
theorem dX9_isValueNumber_17 : decode cX9_isValueNumber 17 = .ok (.ireturn, 1) := by decide +kernel
theorem dX9_isSegment_0 : decode cX9_isSegment 0 = .ok (.iload_n 1, 1) := by decide +kernel
theorem dX9_isSegment_1 : decode cX9_isSegment 1 = .ok (.ifCond .lt 20, 3) := by decide +kernel
theorem dX9_isSegment_4 : decode cX9_isSegment 4 = .ok (.iload_n 1, 1) := by decide +kernel
theorem dX9_isSegment_5 : decode cX9_isSegment 5 = .ok (.iload_n 2, 1) := by decide +kernel
theorem dX9_isSegment_6 : decode cX9_isSegment 6 = .ok (.if_icmp .ge 15, 3) := by decide +kernel
theorem dX9_isSegment_9 : decode cX9_isSegment 9 = .ok (.iload_n 2, 1) := by decide +kernel
theorem dX9_isSegment_10 : decode cX9_isSegment 10 = .ok (.aload_n 0, 1) := by decide +kernel
theorem dX9_isSegment_11 : decode cX9_isSegment 11 = .ok (.getfield 72, 3) := by decide +kernel
theorem dX9_isSegment_14 : decode cX9_isSegment 14 = .ok (.if_icmp .gt 7, 3) := by decide +kernel
theorem dX9_isSegment_17 : decode cX9_isSegment 17 = .ok (.iconst 1, 1) := by decide +kernel
theorem dX9_isSegment_18 : decode cX9_isSegment 18 = .ok (.goto 4, 3) := by decide +kernel
theorem dX9_isSegment_21 : decode cX9_isSegment 21 = .ok (.iconst 0, 1) := by decide +kernel
theorem dX9_isSegment_22 : decode cX9_isSegment 22 = .ok (.ireturn, 1) := by decide +kernel
theorem dX9_isAmountFromZero_0 : decode cX9_isAmountFromZero 0 = .ok (.iload_n 0, 1) := by decide +kernel
theorem dX9_isAmountFromZero_1 : decode cX9_isAmountFromZero 1 = .ok (.sipush (-1000), 3) := by decide +kernel
theorem dX9_isAmountFromZero_4 : decode cX9_isAmountFromZero 4 = .ok (.sipush 1000, 3) := by decide +kernel
theorem dX9_isAmountFromZero_7 : decode cX9_isAmountFromZero 7 = .ok (.invokestatic 104, 3) := by decide +kernel
theorem dX9_isAmountFromZero_10 : decode cX9_isAmountFromZero 10 = .ok (.ireturn, 1) := by decide +kernel
theorem dX9_isBetween_0 : decode cX9_isBetween 0 = .ok (.iload_n 0, 1) := by decide +kernel
theorem dX9_isBetween_1 : decode cX9_isBetween 1 = .ok (.iload_n 1, 1) := by decide +kernel
theorem dX9_isBetween_2 : decode cX9_isBetween 2 = .ok (.if_icmp .lt 12, 3) := by decide +kernel
theorem dX9_isBetween_5 : decode cX9_isBetween 5 = .ok (.iload_n 0, 1) := by decide +kernel
theorem dX9_isBetween_6 : decode cX9_isBetween 6 = .ok (.iload_n 2, 1) := by decide +kernel
theorem dX9_isBetween_7 : decode cX9_isBetween 7 = .ok (.if_icmp .gt 7, 3) := by decide +kernel
theorem dX9_isBetween_10 : decode cX9_isBetween 10 = .ok (.iconst 1, 1) := by decide +kernel
theorem dX9_isBetween_11 : decode cX9_isBetween 11 = .ok (.goto 4, 3) := by decide +kernel
theorem dX9_isBetween_14 : decode cX9_isBetween 14 = .ok (.iconst 0, 1) := by decide +kernel
theorem dX9_isBetween_15 : decode cX9_isBetween 15 = .ok (.ireturn, 1) := by decide +kernel
theorem dX9_requireArgument_0 : decode cX9_requireArgument 0 = .ok (.iload_n 0, 1) := by decide +kernel
theorem dX9_requireArgument_1 : decode cX9_requireArgument 1 = .ok (.ifCond .ne 13, 3) := by decide +kernel
theorem dX9_requireArgument_4 : decode cX9_requireArgument 4 = .ok (.new 236, 3) := by decide +kernel
theorem dX9_requireArgument_7 : decode cX9_requireArgument 7 = .ok (.dup, 1) := by decide +kernel
theorem dX9_requireArgument_8 : decode cX9_requireArgument 8 = .ok (.ldc 238, 2) := by decide +kernel
theorem dX9_requireArgument_10 : decode cX9_requireArgument 10 = .ok (.invokespecial 240, 3) := by decide +kernel
theorem dX9_requireArgument_13 : decode cX9_requireArgument 13 = .ok (.athrow, 1) := by decide +kernel
theorem dX9_requireArgument_14 : decode cX9_requireArgument 14 = .ok (.return_, 1) := by decide +kernel
theorem dX9_requireIndex_0 : decode cX9_requireIndex 0 = .ok (.iload_n 0, 1) := by decide +kernel
theorem dX9_requireIndex_1 : decode cX9_requireIndex 1 = .ok (.ifCond .ne 13, 3) := by decide +kernel
theorem dX9_requireIndex_4 : decode cX9_requireIndex 4 = .ok (.new 243, 3) := by decide +kernel
theorem dX9_requireIndex_7 : decode cX9_requireIndex 7 = .ok (.dup, 1) := by decide +kernel
theorem dX9_requireIndex_8 : decode cX9_requireIndex 8 = .ok (.ldc 245, 2) := by decide +kernel
theorem dX9_requireIndex_10 : decode cX9_requireIndex 10 = .ok (.invokespecial 247, 3) := by decide +kernel
theorem dX9_requireIndex_13 : decode cX9_requireIndex 13 = .ok (.athrow, 1) := by decide +kernel
theorem dX9_requireIndex_14 : decode cX9_requireIndex 14 = .ok (.return_, 1) := by decide +kernel
theorem dX9_requireState_0 : decode cX9_requireState 0 = .ok (.iload_n 0, 1) := by decide +kernel
theorem dX9_requireState_1 : decode cX9_requireState 1 = .ok (.ifCond .ne 13, 3) := by decide +kernel
theorem dX9_requireState_4 : decode cX9_requireState 4 = .ok (.new 248, 3) := by decide +kernel
theorem dX9_requireState_7 : decode cX9_requireState 7 = .ok (.dup, 1) := by decide +kernel
theorem dX9_requireState_8 : decode cX9_requireState 8 = .ok (.ldc 250, 2) := by decide +kernel
theorem dX9_requireState_10 : decode cX9_requireState 10 = .ok (.invokespecial 252, 3) := by decide +kernel
theorem dX9_requireState_13 : decode cX9_requireState 13 = .ok (.athrow, 1) := by decide +kernel
theorem dX9_requireState_14 : decode cX9_requireState 14 = .ok (.return_, 1) := by decide +kernel
theorem dX10_init_0 : decode cX10_init 0 = .ok (.aload_n 0, 1) := by decide +kernel
theorem dX10_init_1 : decode cX10_init 1 = .ok (.invokespecial 1, 3) := by decide +kernel
theorem dX10_init_4 : decode cX10_init 4 = .ok (.aload_n 0, 1) := by decide +kernel
theorem dX10_init_5 : decode cX10_init 5 = .ok (.iconst 5, 1) := by decide +kernel
theorem dX10_init_6 : decode cX10_init 6 = .ok (.putfield 7, 3) := by decide +kernel
theorem dX10_init_9 : decode cX10_init 9 = .ok (.aload_n 0, 1) := by decide +kernel
theorem dX10_init_10 : decode cX10_init 10 = .ok (.bipush 50, 2) := by decide +kernel
theorem dX10_init_12 : decode cX10_init 12 = .ok (.putfield 13, 3) := by decide +kernel
theorem dX10_init_15 : decode cX10_init 15 = .ok (.aload_n 0, 1) := by decide +kernel
theorem dX10_init_16 : decode cX10_init 16 = .ok (.iconst 5, 1) := by decide +kernel
theorem dX10_init_17 : decode cX10_init 17 = .ok (.putfield 16, 3) := by decide +kernel
theorem dX10_init_20 : decode cX10_init 20 = .ok (.aload_n 0, 1) := by decide +kernel
theorem dX10_init_21 : decode cX10_init 21 = .ok (.sipush 1000, 3) := by decide +kernel
theorem dX10_init_24 : decode cX10_init 24 = .ok (.putfield 19, 3) := by decide +kernel
theorem dX10_init_27 : decode cX10_init 27 = .ok (.aload_n 0, 1) := by decide +kernel
theorem dX10_init_28 : decode cX10_init 28 = .ok (.bipush 50, 2) := by decide +kernel
theorem dX10_init_30 : decode cX10_init 30 = .ok (.putfield 22, 3) := by decide +kernel
theorem dX10_init_33 : decode cX10_init 33 = .ok (.aload_n 0, 1) := by decide +kernel
theorem dX10_init_34 : decode cX10_init 34 = .ok (.bipush 20, 2) := by decide +kernel
theorem dX10_init_36 : decode cX10_init 36 = .ok (.putfield 25, 3) := by decide +kernel
theorem dX10_init_39 : decode cX10_init 39 = .ok (.aload_n 0, 1) := by decide +kernel
theorem dX10_init_40 : decode cX10_init 40 = .ok (.bipush 120, 2) := by decide +kernel
theorem dX10_init_42 : decode cX10_init 42 = .ok (.newarray .int, 2) := by decide +kernel
theorem dX10_init_44 : decode cX10_init 44 = .ok (.putfield 28, 3) := by decide +kernel
theorem dX10_init_47 : decode cX10_init 47 = .ok (.aload_n 0, 1) := by decide +kernel
theorem dX10_init_48 : decode cX10_init 48 = .ok (.bipush 120, 2) := by decide +kernel
theorem dX10_init_50 : decode cX10_init 50 = .ok (.newarray .boolean, 2) := by decide +kernel
theorem dX10_init_52 : decode cX10_init 52 = .ok (.putfield 32, 3) := by decide +kernel
theorem dX10_init_55 : decode cX10_init 55 = .ok (.aload_n 0, 1) := by decide +kernel
theorem dX10_init_56 : decode cX10_init 56 = .ok (.sipush 360, 3) := by decide +kernel
theorem dX10_init_59 : decode cX10_init 59 = .ok (.newarray .int, 2) := by decide +kernel
theorem dX10_init_61 : decode cX10_init 61 = .ok (.putfield 36, 3) := by decide +kernel
theorem dX10_init_64 : decode cX10_init 64 = .ok (.aload_n 0, 1) := by decide +kernel
theorem dX10_init_65 : decode cX10_init 65 = .ok (.sipush 360, 3) := by decide +kernel
theorem dX10_init_68 : decode cX10_init 68 = .ok (.newarray .int, 2) := by decide +kernel
theorem dX10_init_70 : decode cX10_init 70 = .ok (.putfield 39, 3) := by decide +kernel
theorem dX10_init_73 : decode cX10_init 73 = .ok (.aload_n 0, 1) := by decide +kernel
theorem dX10_init_74 : decode cX10_init 74 = .ok (.sipush 360, 3) := by decide +kernel
theorem dX10_init_77 : decode cX10_init 77 = .ok (.newarray .int, 2) := by decide +kernel
theorem dX10_init_79 : decode cX10_init 79 = .ok (.putfield 42, 3) := by decide +kernel
theorem dX10_init_82 : decode cX10_init 82 = .ok (.aload_n 0, 1) := by decide +kernel
theorem dX10_init_83 : decode cX10_init 83 = .ok (.sipush 14641, 3) := by decide +kernel
theorem dX10_init_86 : decode cX10_init 86 = .ok (.newarray .int, 2) := by decide +kernel
theorem dX10_init_88 : decode cX10_init 88 = .ok (.putfield 45, 3) := by decide +kernel
theorem dX10_init_91 : decode cX10_init 91 = .ok (.aload_n 0, 1) := by decide +kernel
theorem dX10_init_92 : decode cX10_init 92 = .ok (.bipush 120, 2) := by decide +kernel
theorem dX10_init_94 : decode cX10_init 94 = .ok (.newarray .int, 2) := by decide +kernel
theorem dX10_init_96 : decode cX10_init 96 = .ok (.putfield 48, 3) := by decide +kernel
theorem dX10_init_99 : decode cX10_init 99 = .ok (.aload_n 0, 1) := by decide +kernel
theorem dX10_init_100 : decode cX10_init 100 = .ok (.bipush 121, 2) := by decide +kernel
theorem dX10_init_102 : decode cX10_init 102 = .ok (.newarray .int, 2) := by decide +kernel
theorem dX10_init_104 : decode cX10_init 104 = .ok (.putfield 51, 3) := by decide +kernel
theorem dX10_init_107 : decode cX10_init 107 = .ok (.aload_n 0, 1) := by decide +kernel
theorem dX10_init_108 : decode cX10_init 108 = .ok (.bipush 121, 2) := by decide +kernel
theorem dX10_init_110 : decode cX10_init 110 = .ok (.newarray .int, 2) := by decide +kernel
theorem dX10_init_112 : decode cX10_init 112 = .ok (.putfield 54, 3) := by decide +kernel
theorem dX10_init_115 : decode cX10_init 115 = .ok (.aload_n 0, 1) := by decide +kernel
theorem dX10_init_116 : decode cX10_init 116 = .ok (.bipush 121, 2) := by decide +kernel
theorem dX10_init_118 : decode cX10_init 118 = .ok (.newarray .int, 2) := by decide +kernel
theorem dX10_init_120 : decode cX10_init 120 = .ok (.putfield 57, 3) := by decide +kernel
theorem dX10_init_123 : decode cX10_init 123 = .ok (.aload_n 0, 1) := by decide +kernel
theorem dX10_init_124 : decode cX10_init 124 = .ok (.bipush 121, 2) := by decide +kernel
theorem dX10_init_126 : decode cX10_init 126 = .ok (.newarray .int, 2) := by decide +kernel
theorem dX10_init_128 : decode cX10_init 128 = .ok (.putfield 60, 3) := by decide +kernel
theorem dX10_init_131 : decode cX10_init 131 = .ok (.aload_n 0, 1) := by decide +kernel
theorem dX10_init_132 : decode cX10_init 132 = .ok (.bipush 121, 2) := by decide +kernel
theorem dX10_init_134 : decode cX10_init 134 = .ok (.newarray .boolean, 2) := by decide +kernel
theorem dX10_init_136 : decode cX10_init 136 = .ok (.putfield 63, 3) := by decide +kernel
theorem dX10_init_139 : decode cX10_init 139 = .ok (.aload_n 0, 1) := by decide +kernel
theorem dX10_init_140 : decode cX10_init 140 = .ok (.bipush 120, 2) := by decide +kernel
theorem dX10_init_142 : decode cX10_init 142 = .ok (.newarray .boolean, 2) := by decide +kernel
theorem dX10_init_144 : decode cX10_init 144 = .ok (.putfield 66, 3) := by decide +kernel
theorem dX10_init_147 : decode cX10_init 147 = .ok (.return_, 1) := by decide +kernel
theorem dX10_thrown_0 : decode cX10_thrown 0 = .ok (.aload_n 0, 1) := by decide +kernel
theorem dX10_thrown_1 : decode cX10_thrown 1 = .ok (.getfield 69, 3) := by decide +kernel
theorem dX10_thrown_4 : decode cX10_thrown 4 = .ok (.ireturn, 1) := by decide +kernel
theorem dX10_fails_0 : decode cX10_fails 0 = .ok (.aload_n 0, 1) := by decide +kernel
theorem dX10_fails_1 : decode cX10_fails 1 = .ok (.iload_n 1, 1) := by decide +kernel
theorem dX10_fails_2 : decode cX10_fails 2 = .ok (.putfield 69, 3) := by decide +kernel
theorem dX10_fails_5 : decode cX10_fails 5 = .ok (.iload_n 1, 1) := by decide +kernel
theorem dX10_fails_6 : decode cX10_fails 6 = .ok (.ifCond .le 7, 3) := by decide +kernel
theorem dX10_fails_9 : decode cX10_fails 9 = .ok (.iconst 1, 1) := by decide +kernel
theorem dX10_fails_10 : decode cX10_fails 10 = .ok (.goto 4, 3) := by decide +kernel
theorem dX10_fails_13 : decode cX10_fails 13 = .ok (.iconst 0, 1) := by decide +kernel
theorem dX10_fails_14 : decode cX10_fails 14 = .ok (.ireturn, 1) := by decide +kernel
theorem dX10_tells_0 : decode cX10_tells 0 = .ok (.aload_n 0, 1) := by decide +kernel
theorem dX10_tells_1 : decode cX10_tells 1 = .ok (.iconst 0, 1) := by decide +kernel
theorem dX10_tells_2 : decode cX10_tells 2 = .ok (.putfield 69, 3) := by decide +kernel
theorem dX10_tells_5 : decode cX10_tells 5 = .ok (.iload_n 1, 1) := by decide +kernel
theorem dX10_tells_6 : decode cX10_tells 6 = .ok (.ireturn, 1) := by decide +kernel
theorem dX10_isIn_0 : decode cX10_isIn 0 = .ok (.iload_n 0, 1) := by decide +kernel
theorem dX10_isIn_1 : decode cX10_isIn 1 = .ok (.iload_n 1, 1) := by decide +kernel
theorem dX10_isIn_2 : decode cX10_isIn 2 = .ok (.if_icmp .lt 12, 3) := by decide +kernel
theorem dX10_isIn_5 : decode cX10_isIn 5 = .ok (.iload_n 0, 1) := by decide +kernel
theorem dX10_isIn_6 : decode cX10_isIn 6 = .ok (.iload_n 2, 1) := by decide +kernel
theorem dX10_isIn_7 : decode cX10_isIn 7 = .ok (.if_icmp .gt 7, 3) := by decide +kernel
theorem dX10_isIn_10 : decode cX10_isIn 10 = .ok (.iconst 1, 1) := by decide +kernel
theorem dX10_isIn_11 : decode cX10_isIn 11 = .ok (.goto 4, 3) := by decide +kernel
theorem dX10_isIn_14 : decode cX10_isIn 14 = .ok (.iconst 0, 1) := by decide +kernel
theorem dX10_isIn_15 : decode cX10_isIn 15 = .ok (.ireturn, 1) := by decide +kernel
theorem dX10_restsSums_0 : decode cX10_restsSums 0 = .ok (.aload_n 0, 1) := by decide +kernel
theorem dX10_restsSums_1 : decode cX10_restsSums 1 = .ok (.iconst 0, 1) := by decide +kernel
theorem dX10_restsSums_2 : decode cX10_restsSums 2 = .ok (.putfield 72, 3) := by decide +kernel
theorem dX10_restsSums_5 : decode cX10_restsSums 5 = .ok (.aload_n 0, 1) := by decide +kernel
theorem dX10_restsSums_6 : decode cX10_restsSums 6 = .ok (.iconst 0, 1) := by decide +kernel
theorem dX10_restsSums_7 : decode cX10_restsSums 7 = .ok (.putfield 75, 3) := by decide +kernel
theorem dX10_restsSums_10 : decode cX10_restsSums 10 = .ok (.return_, 1) := by decide +kernel
theorem dX10_restsTest_0 : decode cX10_restsTest 0 = .ok (.aload_n 0, 1) := by decide +kernel
theorem dX10_restsTest_1 : decode cX10_restsTest 1 = .ok (.iconst 0, 1) := by decide +kernel
theorem dX10_restsTest_2 : decode cX10_restsTest 2 = .ok (.putfield 78, 3) := by decide +kernel
theorem dX10_restsTest_5 : decode cX10_restsTest 5 = .ok (.aload_n 0, 1) := by decide +kernel
theorem dX10_restsTest_6 : decode cX10_restsTest 6 = .ok (.iconst 0, 1) := by decide +kernel
theorem dX10_restsTest_7 : decode cX10_restsTest 7 = .ok (.putfield 81, 3) := by decide +kernel
theorem dX10_restsTest_10 : decode cX10_restsTest 10 = .ok (.aload_n 0, 1) := by decide +kernel
theorem dX10_restsTest_11 : decode cX10_restsTest 11 = .ok (.iconst 0, 1) := by decide +kernel
theorem dX10_restsTest_12 : decode cX10_restsTest 12 = .ok (.putfield 84, 3) := by decide +kernel
theorem dX10_restsTest_15 : decode cX10_restsTest 15 = .ok (.aload_n 0, 1) := by decide +kernel
theorem dX10_restsTest_16 : decode cX10_restsTest 16 = .ok (.iconst 0, 1) := by decide +kernel
theorem dX10_restsTest_17 : decode cX10_restsTest 17 = .ok (.putfield 87, 3) := by decide +kernel
theorem dX10_restsTest_20 : decode cX10_restsTest 20 = .ok (.aload_n 0, 1) := by decide +kernel
theorem dX10_restsTest_21 : decode cX10_restsTest 21 = .ok (.iconst (-1), 1) := by decide +kernel
theorem dX10_restsTest_22 : decode cX10_restsTest 22 = .ok (.putfield 90, 3) := by decide +kernel
theorem dX10_restsTest_25 : decode cX10_restsTest 25 = .ok (.return_, 1) := by decide +kernel
theorem dX10_clear_0 : decode cX10_clear 0 = .ok (.aload_n 0, 1) := by decide +kernel
theorem dX10_clear_1 : decode cX10_clear 1 = .ok (.iconst 0, 1) := by decide +kernel
theorem dX10_clear_2 : decode cX10_clear 2 = .ok (.putfield 69, 3) := by decide +kernel
theorem dX10_clear_5 : decode cX10_clear 5 = .ok (.aload_n 0, 1) := by decide +kernel
theorem dX10_clear_6 : decode cX10_clear 6 = .ok (.getfield 93, 3) := by decide +kernel
theorem dX10_clear_9 : decode cX10_clear 9 = .ok (.istore_n 1, 1) := by decide +kernel
theorem dX10_clear_10 : decode cX10_clear 10 = .ok (.aload_n 0, 1) := by decide +kernel
theorem dX10_clear_11 : decode cX10_clear 11 = .ok (.iconst 0, 1) := by decide +kernel
theorem dX10_clear_12 : decode cX10_clear 12 = .ok (.putfield 93, 3) := by decide +kernel
theorem dX10_clear_15 : decode cX10_clear 15 = .ok (.aload_n 0, 1) := by decide +kernel
theorem dX10_clear_16 : decode cX10_clear 16 = .ok (.iconst 0, 1) := by decide +kernel
theorem dX10_clear_17 : decode cX10_clear 17 = .ok (.putfield 96, 3) := by decide +kernel
theorem dX10_clear_20 : decode cX10_clear 20 = .ok (.aload_n 0, 1) := by decide +kernel
theorem dX10_clear_21 : decode cX10_clear 21 = .ok (.iconst 0, 1) := by decide +kernel
theorem dX10_clear_22 : decode cX10_clear 22 = .ok (.putfield 99, 3) := by decide +kernel
theorem dX10_clear_25 : decode cX10_clear 25 = .ok (.iconst 0, 1) := by decide +kernel
theorem dX10_clear_26 : decode cX10_clear 26 = .ok (.istore_n 2, 1) := by decide +kernel
theorem dX10_clear_27 : decode cX10_clear 27 = .ok (.iload_n 2, 1) := by decide +kernel
theorem dX10_clear_28 : decode cX10_clear 28 = .ok (.bipush 120, 2) := by decide +kernel
theorem dX10_clear_30 : decode cX10_clear 30 = .ok (.if_icmp .ge 16, 3) := by decide +kernel
theorem dX10_clear_33 : decode cX10_clear 33 = .ok (.aload_n 0, 1) := by decide +kernel
theorem dX10_clear_34 : decode cX10_clear 34 = .ok (.getfield 32, 3) := by decide +kernel
theorem dX10_clear_37 : decode cX10_clear 37 = .ok (.iload_n 2, 1) := by decide +kernel
theorem dX10_clear_38 : decode cX10_clear 38 = .ok (.iconst 0, 1) := by decide +kernel
theorem dX10_clear_39 : decode cX10_clear 39 = .ok (.bastore, 1) := by decide +kernel
theorem dX10_clear_40 : decode cX10_clear 40 = .ok (.iinc 2 1, 3) := by decide +kernel
theorem dX10_clear_43 : decode cX10_clear 43 = .ok (.goto (-16), 3) := by decide +kernel
theorem dX10_clear_46 : decode cX10_clear 46 = .ok (.aload_n 0, 1) := by decide +kernel
theorem dX10_clear_47 : decode cX10_clear 47 = .ok (.invokevirtual 103, 3) := by decide +kernel
theorem dX10_clear_50 : decode cX10_clear 50 = .ok (.aload_n 0, 1) := by decide +kernel
theorem dX10_clear_51 : decode cX10_clear 51 = .ok (.invokevirtual 106, 3) := by decide +kernel
theorem dX10_clear_54 : decode cX10_clear 54 = .ok (.iload_n 1, 1) := by decide +kernel
theorem dX10_clear_55 : decode cX10_clear 55 = .ok (.ireturn, 1) := by decide +kernel
theorem dX10_setSums_0 : decode cX10_setSums 0 = .ok (.aload_n 0, 1) := by decide +kernel
theorem dX10_setSums_1 : decode cX10_setSums 1 = .ok (.iload_n 1, 1) := by decide +kernel
theorem dX10_setSums_2 : decode cX10_setSums 2 = .ok (.sipush (-1000), 3) := by decide +kernel
theorem dX10_setSums_5 : decode cX10_setSums 5 = .ok (.sipush 1000, 3) := by decide +kernel
theorem dX10_setSums_8 : decode cX10_setSums 8 = .ok (.invokestatic 109, 3) := by decide +kernel
theorem dX10_setSums_11 : decode cX10_setSums 11 = .ok (.ifCond .eq 28, 3) := by decide +kernel
theorem dX10_setSums_14 : decode cX10_setSums 14 = .ok (.iload_n 2, 1) := by decide +kernel
theorem dX10_setSums_15 : decode cX10_setSums 15 = .ok (.iconst 0, 1) := by decide +kernel
theorem dX10_setSums_16 : decode cX10_setSums 16 = .ok (.sipush 1000, 3) := by decide +kernel
theorem dX10_setSums_19 : decode cX10_setSums 19 = .ok (.invokestatic 109, 3) := by decide +kernel
theorem dX10_setSums_22 : decode cX10_setSums 22 = .ok (.ifCond .eq 17, 3) := by decide +kernel
theorem dX10_setSums_25 : decode cX10_setSums 25 = .ok (.iload_n 3, 1) := by decide +kernel
theorem dX10_setSums_26 : decode cX10_setSums 26 = .ok (.iconst 0, 1) := by decide +kernel
theorem dX10_setSums_27 : decode cX10_setSums 27 = .ok (.ldc 113, 2) := by decide +kernel
theorem dX10_setSums_29 : decode cX10_setSums 29 = .ok (.invokestatic 109, 3) := by decide +kernel
theorem dX10_setSums_32 : decode cX10_setSums 32 = .ok (.ifCond .eq 7, 3) := by decide +kernel
theorem dX10_setSums_35 : decode cX10_setSums 35 = .ok (.iconst 0, 1) := by decide +kernel
theorem dX10_setSums_36 : decode cX10_setSums 36 = .ok (.goto 4, 3) := by decide +kernel
theorem dX10_setSums_39 : decode cX10_setSums 39 = .ok (.iconst 1, 1) := by decide +kernel
theorem dX10_setSums_40 : decode cX10_setSums 40 = .ok (.invokevirtual 114, 3) := by decide +kernel
theorem dX10_setSums_43 : decode cX10_setSums 43 = .ok (.ifCond .ne 22, 3) := by decide +kernel
theorem dX10_setSums_46 : decode cX10_setSums 46 = .ok (.aload_n 0, 1) := by decide +kernel
theorem dX10_setSums_47 : decode cX10_setSums 47 = .ok (.iload_n 1, 1) := by decide +kernel
theorem dX10_setSums_48 : decode cX10_setSums 48 = .ok (.putfield 118, 3) := by decide +kernel
theorem dX10_setSums_51 : decode cX10_setSums 51 = .ok (.aload_n 0, 1) := by decide +kernel
theorem dX10_setSums_52 : decode cX10_setSums 52 = .ok (.iload_n 2, 1) := by decide +kernel
theorem dX10_setSums_53 : decode cX10_setSums 53 = .ok (.putfield 7, 3) := by decide +kernel
theorem dX10_setSums_56 : decode cX10_setSums 56 = .ok (.aload_n 0, 1) := by decide +kernel
theorem dX10_setSums_57 : decode cX10_setSums 57 = .ok (.iload_n 3, 1) := by decide +kernel
theorem dX10_setSums_58 : decode cX10_setSums 58 = .ok (.putfield 13, 3) := by decide +kernel
theorem dX10_setSums_61 : decode cX10_setSums 61 = .ok (.aload_n 0, 1) := by decide +kernel
theorem dX10_setSums_62 : decode cX10_setSums 62 = .ok (.invokevirtual 103, 3) := by decide +kernel
theorem dX10_setSums_65 : decode cX10_setSums 65 = .ok (.return_, 1) := by decide +kernel
theorem dX10_setTest_0 : decode cX10_setTest 0 = .ok (.aload_n 0, 1) := by decide +kernel
theorem dX10_setTest_1 : decode cX10_setTest 1 = .ok (.iload_n 1, 1) := by decide +kernel
theorem dX10_setTest_2 : decode cX10_setTest 2 = .ok (.iconst 0, 1) := by decide +kernel
theorem dX10_setTest_3 : decode cX10_setTest 3 = .ok (.sipush 1000, 3) := by decide +kernel
theorem dX10_setTest_6 : decode cX10_setTest 6 = .ok (.invokestatic 109, 3) := by decide +kernel
theorem dX10_setTest_9 : decode cX10_setTest 9 = .ok (.ifCond .eq 28, 3) := by decide +kernel
theorem dX10_setTest_12 : decode cX10_setTest 12 = .ok (.iload_n 2, 1) := by decide +kernel
theorem dX10_setTest_13 : decode cX10_setTest 13 = .ok (.iconst 0, 1) := by decide +kernel
theorem dX10_setTest_14 : decode cX10_setTest 14 = .ok (.sipush 1000, 3) := by decide +kernel
theorem dX10_setTest_17 : decode cX10_setTest 17 = .ok (.invokestatic 109, 3) := by decide +kernel
theorem dX10_setTest_20 : decode cX10_setTest 20 = .ok (.ifCond .eq 17, 3) := by decide +kernel
theorem dX10_setTest_23 : decode cX10_setTest 23 = .ok (.iload_n 3, 1) := by decide +kernel
theorem dX10_setTest_24 : decode cX10_setTest 24 = .ok (.iconst 0, 1) := by decide +kernel
theorem dX10_setTest_25 : decode cX10_setTest 25 = .ok (.ldc 113, 2) := by decide +kernel
theorem dX10_setTest_27 : decode cX10_setTest 27 = .ok (.invokestatic 109, 3) := by decide +kernel
theorem dX10_setTest_30 : decode cX10_setTest 30 = .ok (.ifCond .eq 7, 3) := by decide +kernel
theorem dX10_setTest_33 : decode cX10_setTest 33 = .ok (.iconst 0, 1) := by decide +kernel
theorem dX10_setTest_34 : decode cX10_setTest 34 = .ok (.goto 4, 3) := by decide +kernel
theorem dX10_setTest_37 : decode cX10_setTest 37 = .ok (.iconst 1, 1) := by decide +kernel
theorem dX10_setTest_38 : decode cX10_setTest 38 = .ok (.invokevirtual 114, 3) := by decide +kernel
theorem dX10_setTest_41 : decode cX10_setTest 41 = .ok (.ifCond .ne 22, 3) := by decide +kernel
theorem dX10_setTest_44 : decode cX10_setTest 44 = .ok (.aload_n 0, 1) := by decide +kernel
theorem dX10_setTest_45 : decode cX10_setTest 45 = .ok (.iload_n 1, 1) := by decide +kernel
theorem dX10_setTest_46 : decode cX10_setTest 46 = .ok (.putfield 16, 3) := by decide +kernel
theorem dX10_setTest_49 : decode cX10_setTest 49 = .ok (.aload_n 0, 1) := by decide +kernel
theorem dX10_setTest_50 : decode cX10_setTest 50 = .ok (.iload_n 2, 1) := by decide +kernel
theorem dX10_setTest_51 : decode cX10_setTest 51 = .ok (.putfield 19, 3) := by decide +kernel
theorem dX10_setTest_54 : decode cX10_setTest 54 = .ok (.aload_n 0, 1) := by decide +kernel
theorem dX10_setTest_55 : decode cX10_setTest 55 = .ok (.iload_n 3, 1) := by decide +kernel
theorem dX10_setTest_56 : decode cX10_setTest 56 = .ok (.putfield 22, 3) := by decide +kernel
theorem dX10_setTest_59 : decode cX10_setTest 59 = .ok (.aload_n 0, 1) := by decide +kernel
theorem dX10_setTest_60 : decode cX10_setTest 60 = .ok (.invokevirtual 106, 3) := by decide +kernel
theorem dX10_setTest_63 : decode cX10_setTest 63 = .ok (.return_, 1) := by decide +kernel
theorem dX10_setPenalty_0 : decode cX10_setPenalty 0 = .ok (.aload_n 0, 1) := by decide +kernel
theorem dX10_setPenalty_1 : decode cX10_setPenalty 1 = .ok (.iload_n 1, 1) := by decide +kernel
theorem dX10_setPenalty_2 : decode cX10_setPenalty 2 = .ok (.iconst 0, 1) := by decide +kernel
theorem dX10_setPenalty_3 : decode cX10_setPenalty 3 = .ok (.ldc 113, 2) := by decide +kernel
theorem dX10_setPenalty_5 : decode cX10_setPenalty 5 = .ok (.invokestatic 109, 3) := by decide +kernel
theorem dX10_setPenalty_8 : decode cX10_setPenalty 8 = .ok (.ifCond .eq 7, 3) := by decide +kernel
theorem dX10_setPenalty_11 : decode cX10_setPenalty 11 = .ok (.iconst 0, 1) := by decide +kernel
theorem dX10_setPenalty_12 : decode cX10_setPenalty 12 = .ok (.goto 4, 3) := by decide +kernel
theorem dX10_setPenalty_15 : decode cX10_setPenalty 15 = .ok (.iconst 1, 1) := by decide +kernel
theorem dX10_setPenalty_16 : decode cX10_setPenalty 16 = .ok (.invokevirtual 114, 3) := by decide +kernel
theorem dX10_setPenalty_19 : decode cX10_setPenalty 19 = .ok (.ifCond .eq 5, 3) := by decide +kernel
theorem dX10_setPenalty_22 : decode cX10_setPenalty 22 = .ok (.iconst 0, 1) := by decide +kernel
theorem dX10_setPenalty_23 : decode cX10_setPenalty 23 = .ok (.ireturn, 1) := by decide +kernel
theorem dX10_setPenalty_24 : decode cX10_setPenalty 24 = .ok (.aload_n 0, 1) := by decide +kernel
theorem dX10_setPenalty_25 : decode cX10_setPenalty 25 = .ok (.getfield 25, 3) := by decide +kernel
theorem dX10_setPenalty_28 : decode cX10_setPenalty 28 = .ok (.istore_n 2, 1) := by decide +kernel
theorem dX10_setPenalty_29 : decode cX10_setPenalty 29 = .ok (.aload_n 0, 1) := by decide +kernel
theorem dX10_setPenalty_30 : decode cX10_setPenalty 30 = .ok (.iload_n 1, 1) := by decide +kernel
theorem dX10_setPenalty_31 : decode cX10_setPenalty 31 = .ok (.putfield 25, 3) := by decide +kernel
theorem dX10_setPenalty_34 : decode cX10_setPenalty 34 = .ok (.iload_n 2, 1) := by decide +kernel
theorem dX10_setPenalty_35 : decode cX10_setPenalty 35 = .ok (.ireturn, 1) := by decide +kernel
theorem dX10_raises_0 : decode cX10_raises 0 = .ok (.aload_n 0, 1) := by decide +kernel
theorem dX10_raises_1 : decode cX10_raises 1 = .ok (.getfield 36, 3) := by decide +kernel
theorem dX10_raises_4 : decode cX10_raises 4 = .ok (.aload_n 0, 1) := by decide +kernel
theorem dX10_raises_5 : decode cX10_raises 5 = .ok (.getfield 96, 3) := by decide +kernel
theorem dX10_raises_8 : decode cX10_raises 8 = .ok (.iload_n 1, 1) := by decide +kernel
theorem dX10_raises_9 : decode cX10_raises 9 = .ok (.iastore, 1) := by decide +kernel
theorem dX10_raises_10 : decode cX10_raises 10 = .ok (.aload_n 0, 1) := by decide +kernel
theorem dX10_raises_11 : decode cX10_raises 11 = .ok (.getfield 39, 3) := by decide +kernel
theorem dX10_raises_14 : decode cX10_raises 14 = .ok (.aload_n 0, 1) := by decide +kernel
theorem dX10_raises_15 : decode cX10_raises 15 = .ok (.getfield 96, 3) := by decide +kernel
theorem dX10_raises_18 : decode cX10_raises 18 = .ok (.aload_n 0, 1) := by decide +kernel
theorem dX10_raises_19 : decode cX10_raises 19 = .ok (.getfield 93, 3) := by decide +kernel
theorem dX10_raises_22 : decode cX10_raises 22 = .ok (.iastore, 1) := by decide +kernel
theorem dX10_raises_23 : decode cX10_raises 23 = .ok (.aload_n 0, 1) := by decide +kernel
theorem dX10_raises_24 : decode cX10_raises 24 = .ok (.getfield 42, 3) := by decide +kernel
theorem dX10_raises_27 : decode cX10_raises 27 = .ok (.aload_n 0, 1) := by decide +kernel
theorem dX10_raises_28 : decode cX10_raises 28 = .ok (.getfield 96, 3) := by decide +kernel
theorem dX10_raises_31 : decode cX10_raises 31 = .ok (.iload_n 2, 1) := by decide +kernel
theorem dX10_raises_32 : decode cX10_raises 32 = .ok (.iastore, 1) := by decide +kernel
theorem dX10_raises_33 : decode cX10_raises 33 = .ok (.aload_n 0, 1) := by decide +kernel
theorem dX10_raises_34 : decode cX10_raises 34 = .ok (.dup, 1) := by decide +kernel
theorem dX10_raises_35 : decode cX10_raises 35 = .ok (.getfield 96, 3) := by decide +kernel
theorem dX10_raises_38 : decode cX10_raises 38 = .ok (.iconst 1, 1) := by decide +kernel
theorem dX10_raises_39 : decode cX10_raises 39 = .ok (.iadd, 1) := by decide +kernel
theorem dX10_raises_40 : decode cX10_raises 40 = .ok (.putfield 96, 3) := by decide +kernel
theorem dX10_raises_43 : decode cX10_raises 43 = .ok (.return_, 1) := by decide +kernel
theorem dX10_sums_0 : decode cX10_sums 0 = .ok (.aload_n 0, 1) := by decide +kernel
theorem dX10_sums_1 : decode cX10_sums 1 = .ok (.aload_n 0, 1) := by decide +kernel
theorem dX10_sums_2 : decode cX10_sums 2 = .ok (.getfield 72, 3) := by decide +kernel
theorem dX10_sums_5 : decode cX10_sums 5 = .ok (.ifCond .ne 10, 3) := by decide +kernel
theorem dX10_sums_8 : decode cX10_sums 8 = .ok (.aload_n 0, 1) := by decide +kernel
theorem dX10_sums_9 : decode cX10_sums 9 = .ok (.getfield 93, 3) := by decide +kernel
theorem dX10_sums_12 : decode cX10_sums 12 = .ok (.goto 7, 3) := by decide +kernel
theorem dX10_sums_15 : decode cX10_sums 15 = .ok (.aload_n 0, 1) := by decide +kernel
theorem dX10_sums_16 : decode cX10_sums 16 = .ok (.getfield 121, 3) := by decide +kernel
theorem dX10_sums_19 : decode cX10_sums 19 = .ok (.putfield 121, 3) := by decide +kernel
theorem dX10_sums_22 : decode cX10_sums 22 = .ok (.aload_n 0, 1) := by decide +kernel
theorem dX10_sums_23 : decode cX10_sums 23 = .ok (.aload_n 0, 1) := by decide +kernel
theorem dX10_sums_24 : decode cX10_sums 24 = .ok (.getfield 75, 3) := by decide +kernel
theorem dX10_sums_27 : decode cX10_sums 27 = .ok (.ifCond .ne 10, 3) := by decide +kernel
theorem dX10_sums_30 : decode cX10_sums 30 = .ok (.aload_n 0, 1) := by decide +kernel
theorem dX10_sums_31 : decode cX10_sums 31 = .ok (.getfield 93, 3) := by decide +kernel
theorem dX10_sums_34 : decode cX10_sums 34 = .ok (.goto 7, 3) := by decide +kernel
theorem dX10_sums_37 : decode cX10_sums 37 = .ok (.aload_n 0, 1) := by decide +kernel
theorem dX10_sums_38 : decode cX10_sums 38 = .ok (.getfield 124, 3) := by decide +kernel
theorem dX10_sums_41 : decode cX10_sums 41 = .ok (.putfield 124, 3) := by decide +kernel
theorem dX10_sums_44 : decode cX10_sums 44 = .ok (.aload_n 0, 1) := by decide +kernel
theorem dX10_sums_45 : decode cX10_sums 45 = .ok (.dup, 1) := by decide +kernel
theorem dX10_sums_46 : decode cX10_sums 46 = .ok (.getfield 72, 3) := by decide +kernel
theorem dX10_sums_49 : decode cX10_sums 49 = .ok (.iload_n 1, 1) := by decide +kernel
theorem dX10_sums_50 : decode cX10_sums 50 = .ok (.aload_n 0, 1) := by decide +kernel
theorem dX10_sums_51 : decode cX10_sums 51 = .ok (.getfield 118, 3) := by decide +kernel
theorem dX10_sums_54 : decode cX10_sums 54 = .ok (.isub, 1) := by decide +kernel
theorem dX10_sums_55 : decode cX10_sums 55 = .ok (.aload_n 0, 1) := by decide +kernel
theorem dX10_sums_56 : decode cX10_sums 56 = .ok (.getfield 7, 3) := by decide +kernel
theorem dX10_sums_59 : decode cX10_sums 59 = .ok (.isub, 1) := by decide +kernel
theorem dX10_sums_60 : decode cX10_sums 60 = .ok (.iadd, 1) := by decide +kernel
theorem dX10_sums_61 : decode cX10_sums 61 = .ok (.putfield 72, 3) := by decide +kernel
theorem dX10_sums_64 : decode cX10_sums 64 = .ok (.aload_n 0, 1) := by decide +kernel
theorem dX10_sums_65 : decode cX10_sums 65 = .ok (.aload_n 0, 1) := by decide +kernel
theorem dX10_sums_66 : decode cX10_sums 66 = .ok (.getfield 72, 3) := by decide +kernel
theorem dX10_sums_69 : decode cX10_sums 69 = .ok (.ifCond .ge 7, 3) := by decide +kernel
theorem dX10_sums_72 : decode cX10_sums 72 = .ok (.iconst 0, 1) := by decide +kernel
theorem dX10_sums_73 : decode cX10_sums 73 = .ok (.goto 7, 3) := by decide +kernel
theorem dX10_sums_76 : decode cX10_sums 76 = .ok (.aload_n 0, 1) := by decide +kernel
theorem dX10_sums_77 : decode cX10_sums 77 = .ok (.getfield 72, 3) := by decide +kernel
theorem dX10_sums_80 : decode cX10_sums 80 = .ok (.putfield 72, 3) := by decide +kernel
theorem dX10_sums_83 : decode cX10_sums 83 = .ok (.aload_n 0, 1) := by decide +kernel
theorem dX10_sums_84 : decode cX10_sums 84 = .ok (.dup, 1) := by decide +kernel
theorem dX10_sums_85 : decode cX10_sums 85 = .ok (.getfield 75, 3) := by decide +kernel
theorem dX10_sums_88 : decode cX10_sums 88 = .ok (.aload_n 0, 1) := by decide +kernel
theorem dX10_sums_89 : decode cX10_sums 89 = .ok (.getfield 118, 3) := by decide +kernel
theorem dX10_sums_92 : decode cX10_sums 92 = .ok (.aload_n 0, 1) := by decide +kernel
theorem dX10_sums_93 : decode cX10_sums 93 = .ok (.getfield 7, 3) := by decide +kernel
theorem dX10_sums_96 : decode cX10_sums 96 = .ok (.isub, 1) := by decide +kernel
theorem dX10_sums_97 : decode cX10_sums 97 = .ok (.iload_n 1, 1) := by decide +kernel
theorem dX10_sums_98 : decode cX10_sums 98 = .ok (.isub, 1) := by decide +kernel
theorem dX10_sums_99 : decode cX10_sums 99 = .ok (.iadd, 1) := by decide +kernel
theorem dX10_sums_100 : decode cX10_sums 100 = .ok (.putfield 75, 3) := by decide +kernel
theorem dX10_sums_103 : decode cX10_sums 103 = .ok (.aload_n 0, 1) := by decide +kernel
theorem dX10_sums_104 : decode cX10_sums 104 = .ok (.aload_n 0, 1) := by decide +kernel
theorem dX10_sums_105 : decode cX10_sums 105 = .ok (.getfield 75, 3) := by decide +kernel
theorem dX10_sums_108 : decode cX10_sums 108 = .ok (.ifCond .ge 7, 3) := by decide +kernel
theorem dX10_sums_111 : decode cX10_sums 111 = .ok (.iconst 0, 1) := by decide +kernel
theorem dX10_sums_112 : decode cX10_sums 112 = .ok (.goto 7, 3) := by decide +kernel
theorem dX10_sums_115 : decode cX10_sums 115 = .ok (.aload_n 0, 1) := by decide +kernel
theorem dX10_sums_116 : decode cX10_sums 116 = .ok (.getfield 75, 3) := by decide +kernel
theorem dX10_sums_119 : decode cX10_sums 119 = .ok (.putfield 75, 3) := by decide +kernel
theorem dX10_sums_122 : decode cX10_sums 122 = .ok (.aload_n 0, 1) := by decide +kernel
theorem dX10_sums_123 : decode cX10_sums 123 = .ok (.getfield 72, 3) := by decide +kernel
theorem dX10_sums_126 : decode cX10_sums 126 = .ok (.aload_n 0, 1) := by decide +kernel
theorem dX10_sums_127 : decode cX10_sums 127 = .ok (.getfield 13, 3) := by decide +kernel
theorem dX10_sums_130 : decode cX10_sums 130 = .ok (.if_icmp .le 7, 3) := by decide +kernel
theorem dX10_sums_133 : decode cX10_sums 133 = .ok (.iconst 1, 1) := by decide +kernel
theorem dX10_sums_134 : decode cX10_sums 134 = .ok (.goto 4, 3) := by decide +kernel
theorem dX10_sums_137 : decode cX10_sums 137 = .ok (.iconst 0, 1) := by decide +kernel
theorem dX10_sums_138 : decode cX10_sums 138 = .ok (.aload_n 0, 1) := by decide +kernel
theorem dX10_sums_139 : decode cX10_sums 139 = .ok (.getfield 75, 3) := by decide +kernel
theorem dX10_sums_142 : decode cX10_sums 142 = .ok (.aload_n 0, 1) := by decide +kernel
theorem dX10_sums_143 : decode cX10_sums 143 = .ok (.getfield 13, 3) := by decide +kernel
theorem dX10_sums_146 : decode cX10_sums 146 = .ok (.if_icmp .le 7, 3) := by decide +kernel
theorem dX10_sums_149 : decode cX10_sums 149 = .ok (.iconst 2, 1) := by decide +kernel
theorem dX10_sums_150 : decode cX10_sums 150 = .ok (.goto 4, 3) := by decide +kernel
theorem dX10_sums_153 : decode cX10_sums 153 = .ok (.iconst 0, 1) := by decide +kernel
theorem dX10_sums_154 : decode cX10_sums 154 = .ok (.iadd, 1) := by decide +kernel
theorem dX10_sums_155 : decode cX10_sums 155 = .ok (.istore_n 2, 1) := by decide +kernel
theorem dX10_sums_156 : decode cX10_sums 156 = .ok (.iload_n 2, 1) := by decide +kernel
theorem dX10_sums_157 : decode cX10_sums 157 = .ok (.iconst 1, 1) := by decide +kernel
theorem dX10_sums_158 : decode cX10_sums 158 = .ok (.iand, 1) := by decide +kernel
theorem dX10_sums_159 : decode cX10_sums 159 = .ok (.iconst 1, 1) := by decide +kernel
theorem dX10_sums_160 : decode cX10_sums 160 = .ok (.if_icmp .ne 12, 3) := by decide +kernel
theorem dX10_sums_163 : decode cX10_sums 163 = .ok (.aload_n 0, 1) := by decide +kernel
theorem dX10_sums_164 : decode cX10_sums 164 = .ok (.iconst 0, 1) := by decide +kernel
theorem dX10_sums_165 : decode cX10_sums 165 = .ok (.aload_n 0, 1) := by decide +kernel
theorem dX10_sums_166 : decode cX10_sums 166 = .ok (.getfield 121, 3) := by decide +kernel
theorem dX10_sums_169 : decode cX10_sums 169 = .ok (.invokevirtual 127, 3) := by decide +kernel
theorem dX10_sums_172 : decode cX10_sums 172 = .ok (.iload_n 2, 1) := by decide +kernel
theorem dX10_sums_173 : decode cX10_sums 173 = .ok (.iconst 1, 1) := by decide +kernel
theorem dX10_sums_174 : decode cX10_sums 174 = .ok (.if_icmp .le 12, 3) := by decide +kernel
theorem dX10_sums_177 : decode cX10_sums 177 = .ok (.aload_n 0, 1) := by decide +kernel
theorem dX10_sums_178 : decode cX10_sums 178 = .ok (.iconst 1, 1) := by decide +kernel
theorem dX10_sums_179 : decode cX10_sums 179 = .ok (.aload_n 0, 1) := by decide +kernel
theorem dX10_sums_180 : decode cX10_sums 180 = .ok (.getfield 124, 3) := by decide +kernel
theorem dX10_sums_183 : decode cX10_sums 183 = .ok (.invokevirtual 127, 3) := by decide +kernel
theorem dX10_sums_186 : decode cX10_sums 186 = .ok (.iload_n 2, 1) := by decide +kernel
theorem dX10_sums_187 : decode cX10_sums 187 = .ok (.ifCond .le 7, 3) := by decide +kernel
theorem dX10_sums_190 : decode cX10_sums 190 = .ok (.aload_n 0, 1) := by decide +kernel
theorem dX10_sums_191 : decode cX10_sums 191 = .ok (.invokevirtual 103, 3) := by decide +kernel
theorem dX10_sums_194 : decode cX10_sums 194 = .ok (.iload_n 2, 1) := by decide +kernel
theorem dX10_sums_195 : decode cX10_sums 195 = .ok (.ireturn, 1) := by decide +kernel
theorem dX10_floor_0 : decode cX10_floor 0 = .ok (.iload_n 0, 1) := by decide +kernel
theorem dX10_floor_1 : decode cX10_floor 1 = .ok (.ifCond .lt 9, 3) := by decide +kernel
theorem dX10_floor_4 : decode cX10_floor 4 = .ok (.iload_n 0, 1) := by decide +kernel
theorem dX10_floor_5 : decode cX10_floor 5 = .ok (.iload_n 1, 1) := by decide +kernel
theorem dX10_floor_6 : decode cX10_floor 6 = .ok (.idiv, 1) := by decide +kernel
theorem dX10_floor_7 : decode cX10_floor 7 = .ok (.goto 12, 3) := by decide +kernel
theorem dX10_floor_10 : decode cX10_floor 10 = .ok (.iload_n 0, 1) := by decide +kernel
theorem dX10_floor_11 : decode cX10_floor 11 = .ok (.ineg, 1) := by decide +kernel
theorem dX10_floor_12 : decode cX10_floor 12 = .ok (.iload_n 1, 1) := by decide +kernel
theorem dX10_floor_13 : decode cX10_floor 13 = .ok (.iadd, 1) := by decide +kernel
theorem dX10_floor_14 : decode cX10_floor 14 = .ok (.iconst 1, 1) := by decide +kernel
theorem dX10_floor_15 : decode cX10_floor 15 = .ok (.isub, 1) := by decide +kernel
theorem dX10_floor_16 : decode cX10_floor 16 = .ok (.iload_n 1, 1) := by decide +kernel
theorem dX10_floor_17 : decode cX10_floor 17 = .ok (.idiv, 1) := by decide +kernel
theorem dX10_floor_18 : decode cX10_floor 18 = .ok (.ineg, 1) := by decide +kernel
theorem dX10_floor_19 : decode cX10_floor 19 = .ok (.ireturn, 1) := by decide +kernel
theorem dX10_tests_0 : decode cX10_tests 0 = .ok (.aload_n 0, 1) := by decide +kernel
theorem dX10_tests_1 : decode cX10_tests 1 = .ok (.getfield 78, 3) := by decide +kernel
theorem dX10_tests_4 : decode cX10_tests 4 = .ok (.ifCond .ne 13, 3) := by decide +kernel
theorem dX10_tests_7 : decode cX10_tests 7 = .ok (.aload_n 0, 1) := by decide +kernel
theorem dX10_tests_8 : decode cX10_tests 8 = .ok (.aload_n 0, 1) := by decide +kernel
theorem dX10_tests_9 : decode cX10_tests 9 = .ok (.getfield 93, 3) := by decide +kernel
theorem dX10_tests_12 : decode cX10_tests 12 = .ok (.iconst 1, 1) := by decide +kernel
theorem dX10_tests_13 : decode cX10_tests 13 = .ok (.isub, 1) := by decide +kernel
theorem dX10_tests_14 : decode cX10_tests 14 = .ok (.putfield 90, 3) := by decide +kernel
theorem dX10_tests_17 : decode cX10_tests 17 = .ok (.aload_n 0, 1) := by decide +kernel
theorem dX10_tests_18 : decode cX10_tests 18 = .ok (.dup, 1) := by decide +kernel
theorem dX10_tests_19 : decode cX10_tests 19 = .ok (.getfield 78, 3) := by decide +kernel
theorem dX10_tests_22 : decode cX10_tests 22 = .ok (.iconst 1, 1) := by decide +kernel
theorem dX10_tests_23 : decode cX10_tests 23 = .ok (.iadd, 1) := by decide +kernel
theorem dX10_tests_24 : decode cX10_tests 24 = .ok (.putfield 78, 3) := by decide +kernel
theorem dX10_tests_27 : decode cX10_tests 27 = .ok (.aload_n 0, 1) := by decide +kernel
theorem dX10_tests_28 : decode cX10_tests 28 = .ok (.dup, 1) := by decide +kernel
theorem dX10_tests_29 : decode cX10_tests 29 = .ok (.getfield 81, 3) := by decide +kernel
theorem dX10_tests_32 : decode cX10_tests 32 = .ok (.iload_n 1, 1) := by decide +kernel
theorem dX10_tests_33 : decode cX10_tests 33 = .ok (.iadd, 1) := by decide +kernel
theorem dX10_tests_34 : decode cX10_tests 34 = .ok (.putfield 81, 3) := by decide +kernel
theorem dX10_tests_37 : decode cX10_tests 37 = .ok (.aload_n 0, 1) := by decide +kernel
theorem dX10_tests_38 : decode cX10_tests 38 = .ok (.aload_n 0, 1) := by decide +kernel
theorem dX10_tests_39 : decode cX10_tests 39 = .ok (.getfield 84, 3) := by decide +kernel
theorem dX10_tests_42 : decode cX10_tests 42 = .ok (.aload_n 0, 1) := by decide +kernel
theorem dX10_tests_43 : decode cX10_tests 43 = .ok (.getfield 19, 3) := by decide +kernel
theorem dX10_tests_46 : decode cX10_tests 46 = .ok (.imul, 1) := by decide +kernel
theorem dX10_tests_47 : decode cX10_tests 47 = .ok (.sipush 1000, 3) := by decide +kernel
theorem dX10_tests_50 : decode cX10_tests 50 = .ok (.idiv, 1) := by decide +kernel
theorem dX10_tests_51 : decode cX10_tests 51 = .ok (.iload_n 1, 1) := by decide +kernel
theorem dX10_tests_52 : decode cX10_tests 52 = .ok (.iadd, 1) := by decide +kernel
theorem dX10_tests_53 : decode cX10_tests 53 = .ok (.aload_n 0, 1) := by decide +kernel
theorem dX10_tests_54 : decode cX10_tests 54 = .ok (.getfield 81, 3) := by decide +kernel
theorem dX10_tests_57 : decode cX10_tests 57 = .ok (.aload_n 0, 1) := by decide +kernel
theorem dX10_tests_58 : decode cX10_tests 58 = .ok (.getfield 78, 3) := by decide +kernel
theorem dX10_tests_61 : decode cX10_tests 61 = .ok (.invokestatic 131, 3) := by decide +kernel
theorem dX10_tests_64 : decode cX10_tests 64 = .ok (.isub, 1) := by decide +kernel
theorem dX10_tests_65 : decode cX10_tests 65 = .ok (.aload_n 0, 1) := by decide +kernel
theorem dX10_tests_66 : decode cX10_tests 66 = .ok (.getfield 16, 3) := by decide +kernel
theorem dX10_tests_69 : decode cX10_tests 69 = .ok (.isub, 1) := by decide +kernel
theorem dX10_tests_70 : decode cX10_tests 70 = .ok (.putfield 84, 3) := by decide +kernel
theorem dX10_tests_73 : decode cX10_tests 73 = .ok (.aload_n 0, 1) := by decide +kernel
theorem dX10_tests_74 : decode cX10_tests 74 = .ok (.getfield 84, 3) := by decide +kernel
theorem dX10_tests_77 : decode cX10_tests 77 = .ok (.aload_n 0, 1) := by decide +kernel
theorem dX10_tests_78 : decode cX10_tests 78 = .ok (.getfield 87, 3) := by decide +kernel
theorem dX10_tests_81 : decode cX10_tests 81 = .ok (.if_icmp .ge 19, 3) := by decide +kernel
theorem dX10_tests_84 : decode cX10_tests 84 = .ok (.aload_n 0, 1) := by decide +kernel
theorem dX10_tests_85 : decode cX10_tests 85 = .ok (.aload_n 0, 1) := by decide +kernel
theorem dX10_tests_86 : decode cX10_tests 86 = .ok (.getfield 84, 3) := by decide +kernel
theorem dX10_tests_89 : decode cX10_tests 89 = .ok (.putfield 87, 3) := by decide +kernel
theorem dX10_tests_92 : decode cX10_tests 92 = .ok (.aload_n 0, 1) := by decide +kernel
theorem dX10_tests_93 : decode cX10_tests 93 = .ok (.aload_n 0, 1) := by decide +kernel
theorem dX10_tests_94 : decode cX10_tests 94 = .ok (.getfield 93, 3) := by decide +kernel
theorem dX10_tests_97 : decode cX10_tests 97 = .ok (.putfield 90, 3) := by decide +kernel
theorem dX10_tests_100 : decode cX10_tests 100 = .ok (.aload_n 0, 1) := by decide +kernel
theorem dX10_tests_101 : decode cX10_tests 101 = .ok (.getfield 84, 3) := by decide +kernel
theorem dX10_tests_104 : decode cX10_tests 104 = .ok (.aload_n 0, 1) := by decide +kernel
theorem dX10_tests_105 : decode cX10_tests 105 = .ok (.getfield 87, 3) := by decide +kernel
theorem dX10_tests_108 : decode cX10_tests 108 = .ok (.isub, 1) := by decide +kernel
theorem dX10_tests_109 : decode cX10_tests 109 = .ok (.aload_n 0, 1) := by decide +kernel
theorem dX10_tests_110 : decode cX10_tests 110 = .ok (.getfield 22, 3) := by decide +kernel
theorem dX10_tests_113 : decode cX10_tests 113 = .ok (.if_icmp .gt 5, 3) := by decide +kernel
theorem dX10_tests_116 : decode cX10_tests 116 = .ok (.iconst 0, 1) := by decide +kernel
theorem dX10_tests_117 : decode cX10_tests 117 = .ok (.ireturn, 1) := by decide +kernel
theorem dX10_tests_118 : decode cX10_tests 118 = .ok (.aload_n 0, 1) := by decide +kernel
theorem dX10_tests_119 : decode cX10_tests 119 = .ok (.iconst 2, 1) := by decide +kernel
theorem dX10_tests_120 : decode cX10_tests 120 = .ok (.aload_n 0, 1) := by decide +kernel
theorem dX10_tests_121 : decode cX10_tests 121 = .ok (.getfield 90, 3) := by decide +kernel
theorem dX10_tests_124 : decode cX10_tests 124 = .ok (.iconst 1, 1) := by decide +kernel
theorem dX10_tests_125 : decode cX10_tests 125 = .ok (.iadd, 1) := by decide +kernel
theorem dX10_tests_126 : decode cX10_tests 126 = .ok (.invokevirtual 127, 3) := by decide +kernel
theorem dX10_tests_129 : decode cX10_tests 129 = .ok (.aload_n 0, 1) := by decide +kernel
theorem dX10_tests_130 : decode cX10_tests 130 = .ok (.invokevirtual 106, 3) := by decide +kernel
theorem dX10_tests_133 : decode cX10_tests 133 = .ok (.iconst 4, 1) := by decide +kernel
theorem dX10_tests_134 : decode cX10_tests 134 = .ok (.ireturn, 1) := by decide +kernel
theorem dX10_puts_0 : decode cX10_puts 0 = .ok (.aload_n 0, 1) := by decide +kernel
theorem dX10_puts_1 : decode cX10_puts 1 = .ok (.getfield 28, 3) := by decide +kernel
theorem dX10_puts_4 : decode cX10_puts 4 = .ok (.aload_n 0, 1) := by decide +kernel
theorem dX10_puts_5 : decode cX10_puts 5 = .ok (.getfield 93, 3) := by decide +kernel
theorem dX10_puts_8 : decode cX10_puts 8 = .ok (.iload_n 1, 1) := by decide +kernel
theorem dX10_puts_9 : decode cX10_puts 9 = .ok (.iastore, 1) := by decide +kernel
theorem dX10_puts_10 : decode cX10_puts 10 = .ok (.aload_n 0, 1) := by decide +kernel
theorem dX10_puts_11 : decode cX10_puts 11 = .ok (.getfield 32, 3) := by decide +kernel
theorem dX10_puts_14 : decode cX10_puts 14 = .ok (.aload_n 0, 1) := by decide +kernel
theorem dX10_puts_15 : decode cX10_puts 15 = .ok (.getfield 93, 3) := by decide +kernel
theorem dX10_puts_18 : decode cX10_puts 18 = .ok (.iconst 0, 1) := by decide +kernel
theorem dX10_puts_19 : decode cX10_puts 19 = .ok (.bastore, 1) := by decide +kernel
theorem dX10_puts_20 : decode cX10_puts 20 = .ok (.aload_n 0, 1) := by decide +kernel
theorem dX10_puts_21 : decode cX10_puts 21 = .ok (.iload_n 1, 1) := by decide +kernel
theorem dX10_puts_22 : decode cX10_puts 22 = .ok (.invokevirtual 135, 3) := by decide +kernel
theorem dX10_puts_25 : decode cX10_puts 25 = .ok (.istore_n 2, 1) := by decide +kernel
theorem dX10_puts_26 : decode cX10_puts 26 = .ok (.iload_n 2, 1) := by decide +kernel
theorem dX10_puts_27 : decode cX10_puts 27 = .ok (.aload_n 0, 1) := by decide +kernel
theorem dX10_puts_28 : decode cX10_puts 28 = .ok (.iload_n 1, 1) := by decide +kernel
theorem dX10_puts_29 : decode cX10_puts 29 = .ok (.invokevirtual 139, 3) := by decide +kernel
theorem dX10_puts_32 : decode cX10_puts 32 = .ok (.iadd, 1) := by decide +kernel
theorem dX10_puts_33 : decode cX10_puts 33 = .ok (.istore_n 2, 1) := by decide +kernel
theorem dX10_puts_34 : decode cX10_puts 34 = .ok (.aload_n 0, 1) := by decide +kernel
theorem dX10_puts_35 : decode cX10_puts 35 = .ok (.dup, 1) := by decide +kernel
theorem dX10_puts_36 : decode cX10_puts 36 = .ok (.getfield 93, 3) := by decide +kernel
theorem dX10_puts_39 : decode cX10_puts 39 = .ok (.iconst 1, 1) := by decide +kernel
theorem dX10_puts_40 : decode cX10_puts 40 = .ok (.iadd, 1) := by decide +kernel
theorem dX10_puts_41 : decode cX10_puts 41 = .ok (.putfield 93, 3) := by decide +kernel
theorem dX10_puts_44 : decode cX10_puts 44 = .ok (.aload_n 0, 1) := by decide +kernel
theorem dX10_puts_45 : decode cX10_puts 45 = .ok (.iconst 0, 1) := by decide +kernel
theorem dX10_puts_46 : decode cX10_puts 46 = .ok (.putfield 99, 3) := by decide +kernel
theorem dX10_puts_49 : decode cX10_puts 49 = .ok (.iload_n 2, 1) := by decide +kernel
theorem dX10_puts_50 : decode cX10_puts 50 = .ok (.ireturn, 1) := by decide +kernel
theorem dX10_isValue_0 : decode cX10_isValue 0 = .ok (.iload_n 0, 1) := by decide +kernel
theorem dX10_isValue_1 : decode cX10_isValue 1 = .ok (.sipush (-1000), 3) := by decide +kernel
theorem dX10_isValue_4 : decode cX10_isValue 4 = .ok (.sipush 1000, 3) := by decide +kernel
theorem dX10_isValue_7 : decode cX10_isValue 7 = .ok (.invokestatic 109, 3) := by decide +kernel
theorem dX10_isValue_10 : decode cX10_isValue 10 = .ok (.ireturn, 1) := by decide +kernel
theorem dX10_add_0 : decode cX10_add 0 = .ok (.aload_n 0, 1) := by decide +kernel
theorem dX10_add_1 : decode cX10_add 1 = .ok (.iload_n 1, 1) := by decide +kernel
theorem dX10_add_2 : decode cX10_add 2 = .ok (.invokestatic 142, 3) := by decide +kernel
theorem dX10_add_5 : decode cX10_add 5 = .ok (.ifCond .ne 7, 3) := by decide +kernel
theorem dX10_add_8 : decode cX10_add 8 = .ok (.iconst 1, 1) := by decide +kernel
theorem dX10_add_9 : decode cX10_add 9 = .ok (.goto 17, 3) := by decide +kernel
theorem dX10_add_12 : decode cX10_add 12 = .ok (.aload_n 0, 1) := by decide +kernel
theorem dX10_add_13 : decode cX10_add 13 = .ok (.getfield 93, 3) := by decide +kernel
theorem dX10_add_16 : decode cX10_add 16 = .ok (.bipush 120, 2) := by decide +kernel
theorem dX10_add_18 : decode cX10_add 18 = .ok (.if_icmp .ne 7, 3) := by decide +kernel
theorem dX10_add_21 : decode cX10_add 21 = .ok (.iconst 2, 1) := by decide +kernel
theorem dX10_add_22 : decode cX10_add 22 = .ok (.goto 4, 3) := by decide +kernel
theorem dX10_add_25 : decode cX10_add 25 = .ok (.iconst 0, 1) := by decide +kernel
theorem dX10_add_26 : decode cX10_add 26 = .ok (.invokevirtual 114, 3) := by decide +kernel
theorem dX10_add_29 : decode cX10_add 29 = .ok (.ifCond .eq 7, 3) := by decide +kernel
theorem dX10_add_32 : decode cX10_add 32 = .ok (.iconst 0, 1) := by decide +kernel
theorem dX10_add_33 : decode cX10_add 33 = .ok (.goto 8, 3) := by decide +kernel
theorem dX10_add_36 : decode cX10_add 36 = .ok (.aload_n 0, 1) := by decide +kernel
theorem dX10_add_37 : decode cX10_add 37 = .ok (.iload_n 1, 1) := by decide +kernel
theorem dX10_add_38 : decode cX10_add 38 = .ok (.invokevirtual 145, 3) := by decide +kernel
theorem dX10_add_41 : decode cX10_add 41 = .ok (.ireturn, 1) := by decide +kernel
theorem dX10_addRun_0 : decode cX10_addRun 0 = .ok (.iload_n 2, 1) := by decide +kernel
theorem dX10_addRun_1 : decode cX10_addRun 1 = .ok (.sipush (-1000), 3) := by decide +kernel
theorem dX10_addRun_4 : decode cX10_addRun 4 = .ok (.sipush 1000, 3) := by decide +kernel
theorem dX10_addRun_7 : decode cX10_addRun 7 = .ok (.invokestatic 109, 3) := by decide +kernel
theorem dX10_addRun_10 : decode cX10_addRun 10 = .ok (.ifCond .eq 37, 3) := by decide +kernel
theorem dX10_addRun_13 : decode cX10_addRun 13 = .ok (.iload_n 3, 1) := by decide +kernel
theorem dX10_addRun_14 : decode cX10_addRun 14 = .ok (.iconst 1, 1) := by decide +kernel
theorem dX10_addRun_15 : decode cX10_addRun 15 = .ok (.bipush 40, 2) := by decide +kernel
theorem dX10_addRun_17 : decode cX10_addRun 17 = .ok (.invokestatic 109, 3) := by decide +kernel
theorem dX10_addRun_20 : decode cX10_addRun 20 = .ok (.ifCond .eq 27, 3) := by decide +kernel
theorem dX10_addRun_23 : decode cX10_addRun 23 = .ok (.iload_n 1, 1) := by decide +kernel
theorem dX10_addRun_24 : decode cX10_addRun 24 = .ok (.invokestatic 142, 3) := by decide +kernel
theorem dX10_addRun_27 : decode cX10_addRun 27 = .ok (.ifCond .eq 20, 3) := by decide +kernel
theorem dX10_addRun_30 : decode cX10_addRun 30 = .ok (.iload_n 1, 1) := by decide +kernel
theorem dX10_addRun_31 : decode cX10_addRun 31 = .ok (.iload_n 2, 1) := by decide +kernel
theorem dX10_addRun_32 : decode cX10_addRun 32 = .ok (.iload_n 3, 1) := by decide +kernel
theorem dX10_addRun_33 : decode cX10_addRun 33 = .ok (.iconst 1, 1) := by decide +kernel
theorem dX10_addRun_34 : decode cX10_addRun 34 = .ok (.isub, 1) := by decide +kernel
theorem dX10_addRun_35 : decode cX10_addRun 35 = .ok (.imul, 1) := by decide +kernel
theorem dX10_addRun_36 : decode cX10_addRun 36 = .ok (.iadd, 1) := by decide +kernel
theorem dX10_addRun_37 : decode cX10_addRun 37 = .ok (.invokestatic 142, 3) := by decide +kernel
theorem dX10_addRun_40 : decode cX10_addRun 40 = .ok (.ifCond .eq 7, 3) := by decide +kernel
theorem dX10_addRun_43 : decode cX10_addRun 43 = .ok (.iconst 1, 1) := by decide +kernel
theorem dX10_addRun_44 : decode cX10_addRun 44 = .ok (.goto 4, 3) := by decide +kernel
theorem dX10_addRun_47 : decode cX10_addRun 47 = .ok (.iconst 0, 1) := by decide +kernel
theorem dX10_addRun_48 : decode cX10_addRun 48 = .ok (.istore 4, 2) := by decide +kernel
theorem dX10_addRun_50 : decode cX10_addRun 50 = .ok (.aload_n 0, 1) := by decide +kernel
theorem dX10_addRun_51 : decode cX10_addRun 51 = .ok (.iload 4, 2) := by decide +kernel
theorem dX10_addRun_53 : decode cX10_addRun 53 = .ok (.ifCond .ne 7, 3) := by decide +kernel
theorem dX10_addRun_56 : decode cX10_addRun 56 = .ok (.iconst 1, 1) := by decide +kernel
theorem dX10_addRun_57 : decode cX10_addRun 57 = .ok (.goto 19, 3) := by decide +kernel
theorem dX10_addRun_60 : decode cX10_addRun 60 = .ok (.aload_n 0, 1) := by decide +kernel
theorem dX10_addRun_61 : decode cX10_addRun 61 = .ok (.getfield 93, 3) := by decide +kernel
theorem dX10_addRun_64 : decode cX10_addRun 64 = .ok (.iload_n 3, 1) := by decide +kernel
theorem dX10_addRun_65 : decode cX10_addRun 65 = .ok (.iadd, 1) := by decide +kernel
theorem dX10_addRun_66 : decode cX10_addRun 66 = .ok (.bipush 120, 2) := by decide +kernel
theorem dX10_addRun_68 : decode cX10_addRun 68 = .ok (.if_icmp .le 7, 3) := by decide +kernel
theorem dX10_addRun_71 : decode cX10_addRun 71 = .ok (.iconst 2, 1) := by decide +kernel
theorem dX10_addRun_72 : decode cX10_addRun 72 = .ok (.goto 4, 3) := by decide +kernel
theorem dX10_addRun_75 : decode cX10_addRun 75 = .ok (.iconst 0, 1) := by decide +kernel
theorem dX10_addRun_76 : decode cX10_addRun 76 = .ok (.invokevirtual 114, 3) := by decide +kernel
end
section
theorem dX10_addRun_79 : decode cX10_addRun 79 = .ok (.ifCond .eq 5, 3) := by decide +kernel
theorem dX10_addRun_82 : decode cX10_addRun 82 = .ok (.iconst 0, 1) := by decide +kernel
theorem dX10_addRun_83 : decode cX10_addRun 83 = .ok (.ireturn, 1) := by decide +kernel
theorem dX10_addRun_84 : decode cX10_addRun 84 = .ok (.aload_n 0, 1) := by decide +kernel
theorem dX10_addRun_85 : decode cX10_addRun 85 = .ok (.getfield 96, 3) := by decide +kernel
theorem dX10_addRun_88 : decode cX10_addRun 88 = .ok (.istore 5, 2) := by decide +kernel
theorem dX10_addRun_90 : decode cX10_addRun 90 = .ok (.iconst 0, 1) := by decide +kernel
theorem dX10_addRun_91 : decode cX10_addRun 91 = .ok (.istore 6, 2) := by decide +kernel
theorem dX10_addRun_93 : decode cX10_addRun 93 = .ok (.iload 6, 2) := by decide +kernel
theorem dX10_addRun_95 : decode cX10_addRun 95 = .ok (.iload_n 3, 1) := by decide +kernel
theorem dX10_addRun_96 : decode cX10_addRun 96 = .ok (.if_icmp .ge 20, 3) := by decide +kernel
theorem dX10_addRun_99 : decode cX10_addRun 99 = .ok (.aload_n 0, 1) := by decide +kernel
theorem dX10_addRun_100 : decode cX10_addRun 100 = .ok (.iload_n 1, 1) := by decide +kernel
theorem dX10_addRun_101 : decode cX10_addRun 101 = .ok (.iload 6, 2) := by decide +kernel
theorem dX10_addRun_103 : decode cX10_addRun 103 = .ok (.iload_n 2, 1) := by decide +kernel
theorem dX10_addRun_104 : decode cX10_addRun 104 = .ok (.imul, 1) := by decide +kernel
theorem dX10_addRun_105 : decode cX10_addRun 105 = .ok (.iadd, 1) := by decide +kernel
theorem dX10_addRun_106 : decode cX10_addRun 106 = .ok (.invokevirtual 145, 3) := by decide +kernel
theorem dX10_addRun_109 : decode cX10_addRun 109 = .ok (.pop, 1) := by decide +kernel
theorem dX10_addRun_110 : decode cX10_addRun 110 = .ok (.iinc 6 1, 3) := by decide +kernel
theorem dX10_addRun_113 : decode cX10_addRun 113 = .ok (.goto (-20), 3) := by decide +kernel
theorem dX10_addRun_116 : decode cX10_addRun 116 = .ok (.aload_n 0, 1) := by decide +kernel
theorem dX10_addRun_117 : decode cX10_addRun 117 = .ok (.getfield 96, 3) := by decide +kernel
theorem dX10_addRun_120 : decode cX10_addRun 120 = .ok (.iload 5, 2) := by decide +kernel
theorem dX10_addRun_122 : decode cX10_addRun 122 = .ok (.isub, 1) := by decide +kernel
theorem dX10_addRun_123 : decode cX10_addRun 123 = .ok (.ireturn, 1) := by decide +kernel
theorem dX10_size_0 : decode cX10_size 0 = .ok (.aload_n 0, 1) := by decide +kernel
theorem dX10_size_1 : decode cX10_size 1 = .ok (.aload_n 0, 1) := by decide +kernel
theorem dX10_size_2 : decode cX10_size 2 = .ok (.getfield 93, 3) := by decide +kernel
theorem dX10_size_5 : decode cX10_size 5 = .ok (.invokevirtual 148, 3) := by decide +kernel
theorem dX10_size_8 : decode cX10_size 8 = .ok (.ireturn, 1) := by decide +kernel
theorem dX10_value_0 : decode cX10_value 0 = .ok (.aload_n 0, 1) := by decide +kernel
theorem dX10_value_1 : decode cX10_value 1 = .ok (.iload_n 1, 1) := by decide +kernel
theorem dX10_value_2 : decode cX10_value 2 = .ok (.iconst 0, 1) := by decide +kernel
theorem dX10_value_3 : decode cX10_value 3 = .ok (.aload_n 0, 1) := by decide +kernel
theorem dX10_value_4 : decode cX10_value 4 = .ok (.getfield 93, 3) := by decide +kernel
theorem dX10_value_7 : decode cX10_value 7 = .ok (.iconst 1, 1) := by decide +kernel
theorem dX10_value_8 : decode cX10_value 8 = .ok (.isub, 1) := by decide +kernel
theorem dX10_value_9 : decode cX10_value 9 = .ok (.invokestatic 109, 3) := by decide +kernel
theorem dX10_value_12 : decode cX10_value 12 = .ok (.ifCond .eq 7, 3) := by decide +kernel
theorem dX10_value_15 : decode cX10_value 15 = .ok (.iconst 0, 1) := by decide +kernel
theorem dX10_value_16 : decode cX10_value 16 = .ok (.goto 4, 3) := by decide +kernel
theorem dX10_value_19 : decode cX10_value 19 = .ok (.iconst 1, 1) := by decide +kernel
theorem dX10_value_20 : decode cX10_value 20 = .ok (.invokevirtual 114, 3) := by decide +kernel
theorem dX10_value_23 : decode cX10_value 23 = .ok (.ifCond .eq 7, 3) := by decide +kernel
theorem dX10_value_26 : decode cX10_value 26 = .ok (.iconst 0, 1) := by decide +kernel
theorem dX10_value_27 : decode cX10_value 27 = .ok (.goto 9, 3) := by decide +kernel
theorem dX10_value_30 : decode cX10_value 30 = .ok (.aload_n 0, 1) := by decide +kernel
theorem dX10_value_31 : decode cX10_value 31 = .ok (.getfield 28, 3) := by decide +kernel
theorem dX10_value_34 : decode cX10_value 34 = .ok (.iload_n 1, 1) := by decide +kernel
theorem dX10_value_35 : decode cX10_value 35 = .ok (.iaload, 1) := by decide +kernel
theorem dX10_value_36 : decode cX10_value 36 = .ok (.ireturn, 1) := by decide +kernel
theorem dX10_highSum_0 : decode cX10_highSum 0 = .ok (.aload_n 0, 1) := by decide +kernel
theorem dX10_highSum_1 : decode cX10_highSum 1 = .ok (.aload_n 0, 1) := by decide +kernel
theorem dX10_highSum_2 : decode cX10_highSum 2 = .ok (.getfield 72, 3) := by decide +kernel
theorem dX10_highSum_5 : decode cX10_highSum 5 = .ok (.invokevirtual 148, 3) := by decide +kernel
theorem dX10_highSum_8 : decode cX10_highSum 8 = .ok (.ireturn, 1) := by decide +kernel
theorem dX10_lowSum_0 : decode cX10_lowSum 0 = .ok (.aload_n 0, 1) := by decide +kernel
theorem dX10_lowSum_1 : decode cX10_lowSum 1 = .ok (.aload_n 0, 1) := by decide +kernel
theorem dX10_lowSum_2 : decode cX10_lowSum 2 = .ok (.getfield 75, 3) := by decide +kernel
theorem dX10_lowSum_5 : decode cX10_lowSum 5 = .ok (.invokevirtual 148, 3) := by decide +kernel
theorem dX10_lowSum_8 : decode cX10_lowSum 8 = .ok (.ireturn, 1) := by decide +kernel
theorem dX10_testSum_0 : decode cX10_testSum 0 = .ok (.aload_n 0, 1) := by decide +kernel
theorem dX10_testSum_1 : decode cX10_testSum 1 = .ok (.aload_n 0, 1) := by decide +kernel
theorem dX10_testSum_2 : decode cX10_testSum 2 = .ok (.getfield 84, 3) := by decide +kernel
theorem dX10_testSum_5 : decode cX10_testSum 5 = .ok (.aload_n 0, 1) := by decide +kernel
theorem dX10_testSum_6 : decode cX10_testSum 6 = .ok (.getfield 87, 3) := by decide +kernel
theorem dX10_testSum_9 : decode cX10_testSum 9 = .ok (.isub, 1) := by decide +kernel
theorem dX10_testSum_10 : decode cX10_testSum 10 = .ok (.invokevirtual 148, 3) := by decide +kernel
theorem dX10_testSum_13 : decode cX10_testSum 13 = .ok (.ireturn, 1) := by decide +kernel
theorem dX10_alarms_0 : decode cX10_alarms 0 = .ok (.aload_n 0, 1) := by decide +kernel
theorem dX10_alarms_1 : decode cX10_alarms 1 = .ok (.aload_n 0, 1) := by decide +kernel
theorem dX10_alarms_2 : decode cX10_alarms 2 = .ok (.getfield 96, 3) := by decide +kernel
theorem dX10_alarms_5 : decode cX10_alarms 5 = .ok (.invokevirtual 148, 3) := by decide +kernel
theorem dX10_alarms_8 : decode cX10_alarms 8 = .ok (.ireturn, 1) := by decide +kernel
theorem dX10_ofAlarm_0 : decode cX10_ofAlarm 0 = .ok (.aload_n 0, 1) := by decide +kernel
theorem dX10_ofAlarm_1 : decode cX10_ofAlarm 1 = .ok (.iload_n 2, 1) := by decide +kernel
theorem dX10_ofAlarm_2 : decode cX10_ofAlarm 2 = .ok (.iconst 0, 1) := by decide +kernel
theorem dX10_ofAlarm_3 : decode cX10_ofAlarm 3 = .ok (.aload_n 0, 1) := by decide +kernel
theorem dX10_ofAlarm_4 : decode cX10_ofAlarm 4 = .ok (.getfield 96, 3) := by decide +kernel
theorem dX10_ofAlarm_7 : decode cX10_ofAlarm 7 = .ok (.iconst 1, 1) := by decide +kernel
theorem dX10_ofAlarm_8 : decode cX10_ofAlarm 8 = .ok (.isub, 1) := by decide +kernel
theorem dX10_ofAlarm_9 : decode cX10_ofAlarm 9 = .ok (.invokestatic 109, 3) := by decide +kernel
theorem dX10_ofAlarm_12 : decode cX10_ofAlarm 12 = .ok (.ifCond .eq 7, 3) := by decide +kernel
theorem dX10_ofAlarm_15 : decode cX10_ofAlarm 15 = .ok (.iconst 0, 1) := by decide +kernel
theorem dX10_ofAlarm_16 : decode cX10_ofAlarm 16 = .ok (.goto 4, 3) := by decide +kernel
theorem dX10_ofAlarm_19 : decode cX10_ofAlarm 19 = .ok (.iconst 1, 1) := by decide +kernel
theorem dX10_ofAlarm_20 : decode cX10_ofAlarm 20 = .ok (.invokevirtual 114, 3) := by decide +kernel
theorem dX10_ofAlarm_23 : decode cX10_ofAlarm 23 = .ok (.ifCond .eq 7, 3) := by decide +kernel
theorem dX10_ofAlarm_26 : decode cX10_ofAlarm 26 = .ok (.iconst 0, 1) := by decide +kernel
theorem dX10_ofAlarm_27 : decode cX10_ofAlarm 27 = .ok (.goto 6, 3) := by decide +kernel
theorem dX10_ofAlarm_30 : decode cX10_ofAlarm 30 = .ok (.aload_n 1, 1) := by decide +kernel
theorem dX10_ofAlarm_31 : decode cX10_ofAlarm 31 = .ok (.iload_n 2, 1) := by decide +kernel
theorem dX10_ofAlarm_32 : decode cX10_ofAlarm 32 = .ok (.iaload, 1) := by decide +kernel
theorem dX10_ofAlarm_33 : decode cX10_ofAlarm 33 = .ok (.ireturn, 1) := by decide +kernel
theorem dX10_alarmKind_0 : decode cX10_alarmKind 0 = .ok (.aload_n 0, 1) := by decide +kernel
theorem dX10_alarmKind_1 : decode cX10_alarmKind 1 = .ok (.aload_n 0, 1) := by decide +kernel
theorem dX10_alarmKind_2 : decode cX10_alarmKind 2 = .ok (.getfield 36, 3) := by decide +kernel
theorem dX10_alarmKind_5 : decode cX10_alarmKind 5 = .ok (.iload_n 1, 1) := by decide +kernel
theorem dX10_alarmKind_6 : decode cX10_alarmKind 6 = .ok (.invokevirtual 151, 3) := by decide +kernel
theorem dX10_alarmKind_9 : decode cX10_alarmKind 9 = .ok (.ireturn, 1) := by decide +kernel
theorem dX10_alarmNumber_0 : decode cX10_alarmNumber 0 = .ok (.aload_n 0, 1) := by decide +kernel
theorem dX10_alarmNumber_1 : decode cX10_alarmNumber 1 = .ok (.aload_n 0, 1) := by decide +kernel
theorem dX10_alarmNumber_2 : decode cX10_alarmNumber 2 = .ok (.getfield 39, 3) := by decide +kernel
theorem dX10_alarmNumber_5 : decode cX10_alarmNumber 5 = .ok (.iload_n 1, 1) := by decide +kernel
theorem dX10_alarmNumber_6 : decode cX10_alarmNumber 6 = .ok (.invokevirtual 151, 3) := by decide +kernel
theorem dX10_alarmNumber_9 : decode cX10_alarmNumber 9 = .ok (.ireturn, 1) := by decide +kernel
theorem dX10_alarmStart_0 : decode cX10_alarmStart 0 = .ok (.aload_n 0, 1) := by decide +kernel
theorem dX10_alarmStart_1 : decode cX10_alarmStart 1 = .ok (.aload_n 0, 1) := by decide +kernel
theorem dX10_alarmStart_2 : decode cX10_alarmStart 2 = .ok (.getfield 42, 3) := by decide +kernel
theorem dX10_alarmStart_5 : decode cX10_alarmStart 5 = .ok (.iload_n 1, 1) := by decide +kernel
theorem dX10_alarmStart_6 : decode cX10_alarmStart 6 = .ok (.invokevirtual 151, 3) := by decide +kernel
theorem dX10_alarmStart_9 : decode cX10_alarmStart 9 = .ok (.ireturn, 1) := by decide +kernel
theorem dX10_sorts_0 : decode cX10_sorts 0 = .ok (.iload_n 2, 1) := by decide +kernel
theorem dX10_sorts_1 : decode cX10_sorts 1 = .ok (.istore_n 3, 1) := by decide +kernel
theorem dX10_sorts_2 : decode cX10_sorts 2 = .ok (.iload_n 3, 1) := by decide +kernel
theorem dX10_sorts_3 : decode cX10_sorts 3 = .ok (.ifCond .le 35, 3) := by decide +kernel
theorem dX10_sorts_6 : decode cX10_sorts 6 = .ok (.aload_n 0, 1) := by decide +kernel
theorem dX10_sorts_7 : decode cX10_sorts 7 = .ok (.getfield 48, 3) := by decide +kernel
theorem dX10_sorts_10 : decode cX10_sorts 10 = .ok (.iload_n 3, 1) := by decide +kernel
theorem dX10_sorts_11 : decode cX10_sorts 11 = .ok (.iconst 1, 1) := by decide +kernel
theorem dX10_sorts_12 : decode cX10_sorts 12 = .ok (.isub, 1) := by decide +kernel
theorem dX10_sorts_13 : decode cX10_sorts 13 = .ok (.iaload, 1) := by decide +kernel
theorem dX10_sorts_14 : decode cX10_sorts 14 = .ok (.iload_n 1, 1) := by decide +kernel
theorem dX10_sorts_15 : decode cX10_sorts 15 = .ok (.if_icmp .le 23, 3) := by decide +kernel
theorem dX10_sorts_18 : decode cX10_sorts 18 = .ok (.aload_n 0, 1) := by decide +kernel
theorem dX10_sorts_19 : decode cX10_sorts 19 = .ok (.getfield 48, 3) := by decide +kernel
theorem dX10_sorts_22 : decode cX10_sorts 22 = .ok (.iload_n 3, 1) := by decide +kernel
theorem dX10_sorts_23 : decode cX10_sorts 23 = .ok (.aload_n 0, 1) := by decide +kernel
theorem dX10_sorts_24 : decode cX10_sorts 24 = .ok (.getfield 48, 3) := by decide +kernel
theorem dX10_sorts_27 : decode cX10_sorts 27 = .ok (.iload_n 3, 1) := by decide +kernel
theorem dX10_sorts_28 : decode cX10_sorts 28 = .ok (.iconst 1, 1) := by decide +kernel
theorem dX10_sorts_29 : decode cX10_sorts 29 = .ok (.isub, 1) := by decide +kernel
theorem dX10_sorts_30 : decode cX10_sorts 30 = .ok (.iaload, 1) := by decide +kernel
theorem dX10_sorts_31 : decode cX10_sorts 31 = .ok (.iastore, 1) := by decide +kernel
theorem dX10_sorts_32 : decode cX10_sorts 32 = .ok (.iinc 3 (-1), 3) := by decide +kernel
theorem dX10_sorts_35 : decode cX10_sorts 35 = .ok (.goto (-33), 3) := by decide +kernel
theorem dX10_sorts_38 : decode cX10_sorts 38 = .ok (.aload_n 0, 1) := by decide +kernel
theorem dX10_sorts_39 : decode cX10_sorts 39 = .ok (.getfield 48, 3) := by decide +kernel
theorem dX10_sorts_42 : decode cX10_sorts 42 = .ok (.iload_n 3, 1) := by decide +kernel
theorem dX10_sorts_43 : decode cX10_sorts 43 = .ok (.iload_n 1, 1) := by decide +kernel
theorem dX10_sorts_44 : decode cX10_sorts 44 = .ok (.iastore, 1) := by decide +kernel
theorem dX10_sorts_45 : decode cX10_sorts 45 = .ok (.return_, 1) := by decide +kernel
theorem dX10_weighs_0 : decode cX10_weighs 0 = .ok (.iconst 0, 1) := by decide +kernel
theorem dX10_weighs_1 : decode cX10_weighs 1 = .ok (.istore_n 1, 1) := by decide +kernel
theorem dX10_weighs_2 : decode cX10_weighs 2 = .ok (.iload_n 1, 1) := by decide +kernel
theorem dX10_weighs_3 : decode cX10_weighs 3 = .ok (.aload_n 0, 1) := by decide +kernel
theorem dX10_weighs_4 : decode cX10_weighs 4 = .ok (.getfield 93, 3) := by decide +kernel
theorem dX10_weighs_7 : decode cX10_weighs 7 = .ok (.if_icmp .ge 136, 3) := by decide +kernel
theorem dX10_weighs_10 : decode cX10_weighs 10 = .ok (.aload_n 0, 1) := by decide +kernel
theorem dX10_weighs_11 : decode cX10_weighs 11 = .ok (.getfield 99, 3) := by decide +kernel
theorem dX10_weighs_14 : decode cX10_weighs 14 = .ok (.ifCond .ne 129, 3) := by decide +kernel
theorem dX10_weighs_17 : decode cX10_weighs 17 = .ok (.iload_n 1, 1) := by decide +kernel
theorem dX10_weighs_18 : decode cX10_weighs 18 = .ok (.iconst 1, 1) := by decide +kernel
theorem dX10_weighs_19 : decode cX10_weighs 19 = .ok (.iadd, 1) := by decide +kernel
theorem dX10_weighs_20 : decode cX10_weighs 20 = .ok (.istore_n 2, 1) := by decide +kernel
theorem dX10_weighs_21 : decode cX10_weighs 21 = .ok (.iload_n 2, 1) := by decide +kernel
theorem dX10_weighs_22 : decode cX10_weighs 22 = .ok (.aload_n 0, 1) := by decide +kernel
theorem dX10_weighs_23 : decode cX10_weighs 23 = .ok (.getfield 93, 3) := by decide +kernel
theorem dX10_weighs_26 : decode cX10_weighs 26 = .ok (.if_icmp .gt 111, 3) := by decide +kernel
theorem dX10_weighs_29 : decode cX10_weighs 29 = .ok (.iload_n 2, 1) := by decide +kernel
theorem dX10_weighs_30 : decode cX10_weighs 30 = .ok (.iload_n 1, 1) := by decide +kernel
theorem dX10_weighs_31 : decode cX10_weighs 31 = .ok (.isub, 1) := by decide +kernel
theorem dX10_weighs_32 : decode cX10_weighs 32 = .ok (.istore_n 3, 1) := by decide +kernel
theorem dX10_weighs_33 : decode cX10_weighs 33 = .ok (.aload_n 0, 1) := by decide +kernel
theorem dX10_weighs_34 : decode cX10_weighs 34 = .ok (.aload_n 0, 1) := by decide +kernel
theorem dX10_weighs_35 : decode cX10_weighs 35 = .ok (.getfield 28, 3) := by decide +kernel
theorem dX10_weighs_38 : decode cX10_weighs 38 = .ok (.iload_n 2, 1) := by decide +kernel
theorem dX10_weighs_39 : decode cX10_weighs 39 = .ok (.iconst 1, 1) := by decide +kernel
theorem dX10_weighs_40 : decode cX10_weighs 40 = .ok (.isub, 1) := by decide +kernel
theorem dX10_weighs_41 : decode cX10_weighs 41 = .ok (.iaload, 1) := by decide +kernel
theorem dX10_weighs_42 : decode cX10_weighs 42 = .ok (.iload_n 3, 1) := by decide +kernel
theorem dX10_weighs_43 : decode cX10_weighs 43 = .ok (.iconst 1, 1) := by decide +kernel
theorem dX10_weighs_44 : decode cX10_weighs 44 = .ok (.isub, 1) := by decide +kernel
theorem dX10_weighs_45 : decode cX10_weighs 45 = .ok (.invokevirtual 155, 3) := by decide +kernel
theorem dX10_weighs_48 : decode cX10_weighs 48 = .ok (.aload_n 0, 1) := by decide +kernel
theorem dX10_weighs_49 : decode cX10_weighs 49 = .ok (.getfield 48, 3) := by decide +kernel
theorem dX10_weighs_52 : decode cX10_weighs 52 = .ok (.iload_n 3, 1) := by decide +kernel
theorem dX10_weighs_53 : decode cX10_weighs 53 = .ok (.iconst 1, 1) := by decide +kernel
theorem dX10_weighs_54 : decode cX10_weighs 54 = .ok (.isub, 1) := by decide +kernel
theorem dX10_weighs_55 : decode cX10_weighs 55 = .ok (.iconst 2, 1) := by decide +kernel
theorem dX10_weighs_56 : decode cX10_weighs 56 = .ok (.idiv, 1) := by decide +kernel
theorem dX10_weighs_57 : decode cX10_weighs 57 = .ok (.iaload, 1) := by decide +kernel
theorem dX10_weighs_58 : decode cX10_weighs 58 = .ok (.istore 4, 2) := by decide +kernel
theorem dX10_weighs_60 : decode cX10_weighs 60 = .ok (.iconst 0, 1) := by decide +kernel
theorem dX10_weighs_61 : decode cX10_weighs 61 = .ok (.istore 5, 2) := by decide +kernel
theorem dX10_weighs_63 : decode cX10_weighs 63 = .ok (.iconst 0, 1) := by decide +kernel
theorem dX10_weighs_64 : decode cX10_weighs 64 = .ok (.istore 6, 2) := by decide +kernel
theorem dX10_weighs_66 : decode cX10_weighs 66 = .ok (.iload 6, 2) := by decide +kernel
theorem dX10_weighs_68 : decode cX10_weighs 68 = .ok (.iload_n 3, 1) := by decide +kernel
theorem dX10_weighs_69 : decode cX10_weighs 69 = .ok (.if_icmp .ge 49, 3) := by decide +kernel
theorem dX10_weighs_72 : decode cX10_weighs 72 = .ok (.iload 5, 2) := by decide +kernel
theorem dX10_weighs_74 : decode cX10_weighs 74 = .ok (.aload_n 0, 1) := by decide +kernel
theorem dX10_weighs_75 : decode cX10_weighs 75 = .ok (.getfield 48, 3) := by decide +kernel
theorem dX10_weighs_78 : decode cX10_weighs 78 = .ok (.iload 6, 2) := by decide +kernel
theorem dX10_weighs_80 : decode cX10_weighs 80 = .ok (.iaload, 1) := by decide +kernel
theorem dX10_weighs_81 : decode cX10_weighs 81 = .ok (.iload 4, 2) := by decide +kernel
theorem dX10_weighs_83 : decode cX10_weighs 83 = .ok (.if_icmp .ge 16, 3) := by decide +kernel
theorem dX10_weighs_86 : decode cX10_weighs 86 = .ok (.iload 4, 2) := by decide +kernel
theorem dX10_weighs_88 : decode cX10_weighs 88 = .ok (.aload_n 0, 1) := by decide +kernel
theorem dX10_weighs_89 : decode cX10_weighs 89 = .ok (.getfield 48, 3) := by decide +kernel
theorem dX10_weighs_92 : decode cX10_weighs 92 = .ok (.iload 6, 2) := by decide +kernel
theorem dX10_weighs_94 : decode cX10_weighs 94 = .ok (.iaload, 1) := by decide +kernel
theorem dX10_weighs_95 : decode cX10_weighs 95 = .ok (.isub, 1) := by decide +kernel
theorem dX10_weighs_96 : decode cX10_weighs 96 = .ok (.goto 13, 3) := by decide +kernel
theorem dX10_weighs_99 : decode cX10_weighs 99 = .ok (.aload_n 0, 1) := by decide +kernel
theorem dX10_weighs_100 : decode cX10_weighs 100 = .ok (.getfield 48, 3) := by decide +kernel
theorem dX10_weighs_103 : decode cX10_weighs 103 = .ok (.iload 6, 2) := by decide +kernel
theorem dX10_weighs_105 : decode cX10_weighs 105 = .ok (.iaload, 1) := by decide +kernel
theorem dX10_weighs_106 : decode cX10_weighs 106 = .ok (.iload 4, 2) := by decide +kernel
theorem dX10_weighs_108 : decode cX10_weighs 108 = .ok (.isub, 1) := by decide +kernel
theorem dX10_weighs_109 : decode cX10_weighs 109 = .ok (.iadd, 1) := by decide +kernel
theorem dX10_weighs_110 : decode cX10_weighs 110 = .ok (.istore 5, 2) := by decide +kernel
theorem dX10_weighs_112 : decode cX10_weighs 112 = .ok (.iinc 6 1, 3) := by decide +kernel
theorem dX10_weighs_115 : decode cX10_weighs 115 = .ok (.goto (-49), 3) := by decide +kernel
theorem dX10_weighs_118 : decode cX10_weighs 118 = .ok (.aload_n 0, 1) := by decide +kernel
theorem dX10_weighs_119 : decode cX10_weighs 119 = .ok (.getfield 45, 3) := by decide +kernel
theorem dX10_weighs_122 : decode cX10_weighs 122 = .ok (.bipush 121, 2) := by decide +kernel
theorem dX10_weighs_124 : decode cX10_weighs 124 = .ok (.iload_n 1, 1) := by decide +kernel
theorem dX10_weighs_125 : decode cX10_weighs 125 = .ok (.imul, 1) := by decide +kernel
theorem dX10_weighs_126 : decode cX10_weighs 126 = .ok (.iload_n 2, 1) := by decide +kernel
theorem dX10_weighs_127 : decode cX10_weighs 127 = .ok (.iadd, 1) := by decide +kernel
theorem dX10_weighs_128 : decode cX10_weighs 128 = .ok (.iload 5, 2) := by decide +kernel
theorem dX10_weighs_130 : decode cX10_weighs 130 = .ok (.iastore, 1) := by decide +kernel
theorem dX10_weighs_131 : decode cX10_weighs 131 = .ok (.iinc 2 1, 3) := by decide +kernel
theorem dX10_weighs_134 : decode cX10_weighs 134 = .ok (.goto (-113), 3) := by decide +kernel
theorem dX10_weighs_137 : decode cX10_weighs 137 = .ok (.iinc 1 1, 3) := by decide +kernel
theorem dX10_weighs_140 : decode cX10_weighs 140 = .ok (.goto (-138), 3) := by decide +kernel
theorem dX10_weighs_143 : decode cX10_weighs 143 = .ok (.aload_n 0, 1) := by decide +kernel
theorem dX10_weighs_144 : decode cX10_weighs 144 = .ok (.iconst 1, 1) := by decide +kernel
theorem dX10_weighs_145 : decode cX10_weighs 145 = .ok (.putfield 99, 3) := by decide +kernel
theorem dX10_weighs_148 : decode cX10_weighs 148 = .ok (.return_, 1) := by decide +kernel
theorem dX10_of_0 : decode cX10_of 0 = .ok (.aload_n 0, 1) := by decide +kernel
theorem dX10_of_1 : decode cX10_of 1 = .ok (.getfield 45, 3) := by decide +kernel
theorem dX10_of_4 : decode cX10_of 4 = .ok (.bipush 121, 2) := by decide +kernel
theorem dX10_of_6 : decode cX10_of 6 = .ok (.iload_n 1, 1) := by decide +kernel
theorem dX10_of_7 : decode cX10_of 7 = .ok (.imul, 1) := by decide +kernel
theorem dX10_of_8 : decode cX10_of 8 = .ok (.iload_n 2, 1) := by decide +kernel
theorem dX10_of_9 : decode cX10_of 9 = .ok (.iadd, 1) := by decide +kernel
theorem dX10_of_10 : decode cX10_of 10 = .ok (.iaload, 1) := by decide +kernel
theorem dX10_of_11 : decode cX10_of 11 = .ok (.ireturn, 1) := by decide +kernel
theorem dX10_isSegment_0 : decode cX10_isSegment 0 = .ok (.iload_n 1, 1) := by decide +kernel
theorem dX10_isSegment_1 : decode cX10_isSegment 1 = .ok (.ifCond .lt 20, 3) := by decide +kernel
theorem dX10_isSegment_4 : decode cX10_isSegment 4 = .ok (.iload_n 1, 1) := by decide +kernel
theorem dX10_isSegment_5 : decode cX10_isSegment 5 = .ok (.iload_n 2, 1) := by decide +kernel
theorem dX10_isSegment_6 : decode cX10_isSegment 6 = .ok (.if_icmp .ge 15, 3) := by decide +kernel
theorem dX10_isSegment_9 : decode cX10_isSegment 9 = .ok (.iload_n 2, 1) := by decide +kernel
theorem dX10_isSegment_10 : decode cX10_isSegment 10 = .ok (.aload_n 0, 1) := by decide +kernel
theorem dX10_isSegment_11 : decode cX10_isSegment 11 = .ok (.getfield 93, 3) := by decide +kernel
theorem dX10_isSegment_14 : decode cX10_isSegment 14 = .ok (.if_icmp .gt 7, 3) := by decide +kernel
theorem dX10_isSegment_17 : decode cX10_isSegment 17 = .ok (.iconst 1, 1) := by decide +kernel
theorem dX10_isSegment_18 : decode cX10_isSegment 18 = .ok (.goto 4, 3) := by decide +kernel
theorem dX10_isSegment_21 : decode cX10_isSegment 21 = .ok (.iconst 0, 1) := by decide +kernel
theorem dX10_isSegment_22 : decode cX10_isSegment 22 = .ok (.ireturn, 1) := by decide +kernel
theorem dX10_cost_0 : decode cX10_cost 0 = .ok (.aload_n 0, 1) := by decide +kernel
theorem dX10_cost_1 : decode cX10_cost 1 = .ok (.aload_n 0, 1) := by decide +kernel
theorem dX10_cost_2 : decode cX10_cost 2 = .ok (.iload_n 1, 1) := by decide +kernel
theorem dX10_cost_3 : decode cX10_cost 3 = .ok (.iload_n 2, 1) := by decide +kernel
theorem dX10_cost_4 : decode cX10_cost 4 = .ok (.invokevirtual 158, 3) := by decide +kernel
theorem dX10_cost_7 : decode cX10_cost 7 = .ok (.ifCond .eq 7, 3) := by decide +kernel
theorem dX10_cost_10 : decode cX10_cost 10 = .ok (.iconst 0, 1) := by decide +kernel
theorem dX10_cost_11 : decode cX10_cost 11 = .ok (.goto 4, 3) := by decide +kernel
theorem dX10_cost_14 : decode cX10_cost 14 = .ok (.iconst 1, 1) := by decide +kernel
theorem dX10_cost_15 : decode cX10_cost 15 = .ok (.invokevirtual 114, 3) := by decide +kernel
theorem dX10_cost_18 : decode cX10_cost 18 = .ok (.ifCond .eq 5, 3) := by decide +kernel
theorem dX10_cost_21 : decode cX10_cost 21 = .ok (.iconst 0, 1) := by decide +kernel
theorem dX10_cost_22 : decode cX10_cost 22 = .ok (.ireturn, 1) := by decide +kernel
theorem dX10_cost_23 : decode cX10_cost 23 = .ok (.aload_n 0, 1) := by decide +kernel
theorem dX10_cost_24 : decode cX10_cost 24 = .ok (.invokevirtual 162, 3) := by decide +kernel
theorem dX10_cost_27 : decode cX10_cost 27 = .ok (.aload_n 0, 1) := by decide +kernel
theorem dX10_cost_28 : decode cX10_cost 28 = .ok (.iload_n 1, 1) := by decide +kernel
theorem dX10_cost_29 : decode cX10_cost 29 = .ok (.iload_n 2, 1) := by decide +kernel
theorem dX10_cost_30 : decode cX10_cost 30 = .ok (.invokevirtual 165, 3) := by decide +kernel
theorem dX10_cost_33 : decode cX10_cost 33 = .ok (.ireturn, 1) := by decide +kernel
theorem dX10_middle_0 : decode cX10_middle 0 = .ok (.aload_n 0, 1) := by decide +kernel
theorem dX10_middle_1 : decode cX10_middle 1 = .ok (.aload_n 0, 1) := by decide +kernel
theorem dX10_middle_2 : decode cX10_middle 2 = .ok (.iload_n 1, 1) := by decide +kernel
theorem dX10_middle_3 : decode cX10_middle 3 = .ok (.iload_n 2, 1) := by decide +kernel
theorem dX10_middle_4 : decode cX10_middle 4 = .ok (.invokevirtual 158, 3) := by decide +kernel
theorem dX10_middle_7 : decode cX10_middle 7 = .ok (.ifCond .eq 7, 3) := by decide +kernel
theorem dX10_middle_10 : decode cX10_middle 10 = .ok (.iconst 0, 1) := by decide +kernel
theorem dX10_middle_11 : decode cX10_middle 11 = .ok (.goto 4, 3) := by decide +kernel
theorem dX10_middle_14 : decode cX10_middle 14 = .ok (.iconst 1, 1) := by decide +kernel
theorem dX10_middle_15 : decode cX10_middle 15 = .ok (.invokevirtual 114, 3) := by decide +kernel
theorem dX10_middle_18 : decode cX10_middle 18 = .ok (.ifCond .eq 5, 3) := by decide +kernel
theorem dX10_middle_21 : decode cX10_middle 21 = .ok (.iconst 0, 1) := by decide +kernel
theorem dX10_middle_22 : decode cX10_middle 22 = .ok (.ireturn, 1) := by decide +kernel
theorem dX10_middle_23 : decode cX10_middle 23 = .ok (.iload_n 1, 1) := by decide +kernel
theorem dX10_middle_24 : decode cX10_middle 24 = .ok (.istore_n 3, 1) := by decide +kernel
theorem dX10_middle_25 : decode cX10_middle 25 = .ok (.iload_n 3, 1) := by decide +kernel
theorem dX10_middle_26 : decode cX10_middle 26 = .ok (.iload_n 2, 1) := by decide +kernel
theorem dX10_middle_27 : decode cX10_middle 27 = .ok (.if_icmp .ge 22, 3) := by decide +kernel
theorem dX10_middle_30 : decode cX10_middle 30 = .ok (.aload_n 0, 1) := by decide +kernel
theorem dX10_middle_31 : decode cX10_middle 31 = .ok (.aload_n 0, 1) := by decide +kernel
theorem dX10_middle_32 : decode cX10_middle 32 = .ok (.getfield 28, 3) := by decide +kernel
theorem dX10_middle_35 : decode cX10_middle 35 = .ok (.iload_n 3, 1) := by decide +kernel
theorem dX10_middle_36 : decode cX10_middle 36 = .ok (.iaload, 1) := by decide +kernel
theorem dX10_middle_37 : decode cX10_middle 37 = .ok (.iload_n 3, 1) := by decide +kernel
theorem dX10_middle_38 : decode cX10_middle 38 = .ok (.iload_n 1, 1) := by decide +kernel
theorem dX10_middle_39 : decode cX10_middle 39 = .ok (.isub, 1) := by decide +kernel
theorem dX10_middle_40 : decode cX10_middle 40 = .ok (.invokevirtual 155, 3) := by decide +kernel
theorem dX10_middle_43 : decode cX10_middle 43 = .ok (.iinc 3 1, 3) := by decide +kernel
theorem dX10_middle_46 : decode cX10_middle 46 = .ok (.goto (-21), 3) := by decide +kernel
theorem dX10_middle_49 : decode cX10_middle 49 = .ok (.aload_n 0, 1) := by decide +kernel
theorem dX10_middle_50 : decode cX10_middle 50 = .ok (.getfield 48, 3) := by decide +kernel
theorem dX10_middle_53 : decode cX10_middle 53 = .ok (.iload_n 2, 1) := by decide +kernel
theorem dX10_middle_54 : decode cX10_middle 54 = .ok (.iload_n 1, 1) := by decide +kernel
theorem dX10_middle_55 : decode cX10_middle 55 = .ok (.isub, 1) := by decide +kernel
theorem dX10_middle_56 : decode cX10_middle 56 = .ok (.iconst 1, 1) := by decide +kernel
theorem dX10_middle_57 : decode cX10_middle 57 = .ok (.isub, 1) := by decide +kernel
theorem dX10_middle_58 : decode cX10_middle 58 = .ok (.iconst 2, 1) := by decide +kernel
theorem dX10_middle_59 : decode cX10_middle 59 = .ok (.idiv, 1) := by decide +kernel
theorem dX10_middle_60 : decode cX10_middle 60 = .ok (.iaload, 1) := by decide +kernel
theorem dX10_middle_61 : decode cX10_middle 61 = .ok (.ireturn, 1) := by decide +kernel
theorem dX10_cuts_0 : decode cX10_cuts 0 = .ok (.aload_n 0, 1) := by decide +kernel
theorem dX10_cuts_1 : decode cX10_cuts 1 = .ok (.invokevirtual 162, 3) := by decide +kernel
theorem dX10_cuts_4 : decode cX10_cuts 4 = .ok (.aload_n 0, 1) := by decide +kernel
theorem dX10_cuts_5 : decode cX10_cuts 5 = .ok (.getfield 51, 3) := by decide +kernel
theorem dX10_cuts_8 : decode cX10_cuts 8 = .ok (.aload_n 0, 1) := by decide +kernel
theorem dX10_cuts_9 : decode cX10_cuts 9 = .ok (.getfield 93, 3) := by decide +kernel
theorem dX10_cuts_12 : decode cX10_cuts 12 = .ok (.iconst 0, 1) := by decide +kernel
theorem dX10_cuts_13 : decode cX10_cuts 13 = .ok (.iastore, 1) := by decide +kernel
theorem dX10_cuts_14 : decode cX10_cuts 14 = .ok (.aload_n 0, 1) := by decide +kernel
theorem dX10_cuts_15 : decode cX10_cuts 15 = .ok (.getfield 54, 3) := by decide +kernel
theorem dX10_cuts_18 : decode cX10_cuts 18 = .ok (.aload_n 0, 1) := by decide +kernel
theorem dX10_cuts_19 : decode cX10_cuts 19 = .ok (.getfield 93, 3) := by decide +kernel
theorem dX10_cuts_22 : decode cX10_cuts 22 = .ok (.iconst (-1), 1) := by decide +kernel
theorem dX10_cuts_23 : decode cX10_cuts 23 = .ok (.iastore, 1) := by decide +kernel
theorem dX10_cuts_24 : decode cX10_cuts 24 = .ok (.aload_n 0, 1) := by decide +kernel
theorem dX10_cuts_25 : decode cX10_cuts 25 = .ok (.getfield 93, 3) := by decide +kernel
theorem dX10_cuts_28 : decode cX10_cuts 28 = .ok (.iconst 1, 1) := by decide +kernel
theorem dX10_cuts_29 : decode cX10_cuts 29 = .ok (.isub, 1) := by decide +kernel
theorem dX10_cuts_30 : decode cX10_cuts 30 = .ok (.istore_n 1, 1) := by decide +kernel
theorem dX10_cuts_31 : decode cX10_cuts 31 = .ok (.iload_n 1, 1) := by decide +kernel
theorem dX10_cuts_32 : decode cX10_cuts 32 = .ok (.ifCond .lt 161, 3) := by decide +kernel
theorem dX10_cuts_35 : decode cX10_cuts 35 = .ok (.aload_n 0, 1) := by decide +kernel
theorem dX10_cuts_36 : decode cX10_cuts 36 = .ok (.getfield 51, 3) := by decide +kernel
theorem dX10_cuts_39 : decode cX10_cuts 39 = .ok (.iload_n 1, 1) := by decide +kernel
theorem dX10_cuts_40 : decode cX10_cuts 40 = .ok (.aload_n 0, 1) := by decide +kernel
theorem dX10_cuts_41 : decode cX10_cuts 41 = .ok (.iload_n 1, 1) := by decide +kernel
theorem dX10_cuts_42 : decode cX10_cuts 42 = .ok (.aload_n 0, 1) := by decide +kernel
theorem dX10_cuts_43 : decode cX10_cuts 43 = .ok (.getfield 93, 3) := by decide +kernel
theorem dX10_cuts_46 : decode cX10_cuts 46 = .ok (.invokevirtual 165, 3) := by decide +kernel
theorem dX10_cuts_49 : decode cX10_cuts 49 = .ok (.iastore, 1) := by decide +kernel
theorem dX10_cuts_50 : decode cX10_cuts 50 = .ok (.aload_n 0, 1) := by decide +kernel
theorem dX10_cuts_51 : decode cX10_cuts 51 = .ok (.getfield 54, 3) := by decide +kernel
theorem dX10_cuts_54 : decode cX10_cuts 54 = .ok (.iload_n 1, 1) := by decide +kernel
theorem dX10_cuts_55 : decode cX10_cuts 55 = .ok (.iconst 0, 1) := by decide +kernel
theorem dX10_cuts_56 : decode cX10_cuts 56 = .ok (.iastore, 1) := by decide +kernel
theorem dX10_cuts_57 : decode cX10_cuts 57 = .ok (.iload_n 1, 1) := by decide +kernel
theorem dX10_cuts_58 : decode cX10_cuts 58 = .ok (.iconst 1, 1) := by decide +kernel
theorem dX10_cuts_59 : decode cX10_cuts 59 = .ok (.iadd, 1) := by decide +kernel
theorem dX10_cuts_60 : decode cX10_cuts 60 = .ok (.istore_n 2, 1) := by decide +kernel
theorem dX10_cuts_61 : decode cX10_cuts 61 = .ok (.iload_n 2, 1) := by decide +kernel
theorem dX10_cuts_62 : decode cX10_cuts 62 = .ok (.aload_n 0, 1) := by decide +kernel
theorem dX10_cuts_63 : decode cX10_cuts 63 = .ok (.getfield 93, 3) := by decide +kernel
theorem dX10_cuts_66 : decode cX10_cuts 66 = .ok (.if_icmp .ge 121, 3) := by decide +kernel
theorem dX10_cuts_69 : decode cX10_cuts 69 = .ok (.aload_n 0, 1) := by decide +kernel
theorem dX10_cuts_70 : decode cX10_cuts 70 = .ok (.iload_n 1, 1) := by decide +kernel
theorem dX10_cuts_71 : decode cX10_cuts 71 = .ok (.iload_n 2, 1) := by decide +kernel
theorem dX10_cuts_72 : decode cX10_cuts 72 = .ok (.invokevirtual 165, 3) := by decide +kernel
theorem dX10_cuts_75 : decode cX10_cuts 75 = .ok (.aload_n 0, 1) := by decide +kernel
theorem dX10_cuts_76 : decode cX10_cuts 76 = .ok (.getfield 25, 3) := by decide +kernel
theorem dX10_cuts_79 : decode cX10_cuts 79 = .ok (.iadd, 1) := by decide +kernel
theorem dX10_cuts_80 : decode cX10_cuts 80 = .ok (.aload_n 0, 1) := by decide +kernel
theorem dX10_cuts_81 : decode cX10_cuts 81 = .ok (.getfield 51, 3) := by decide +kernel
theorem dX10_cuts_84 : decode cX10_cuts 84 = .ok (.iload_n 2, 1) := by decide +kernel
theorem dX10_cuts_85 : decode cX10_cuts 85 = .ok (.iaload, 1) := by decide +kernel
theorem dX10_cuts_86 : decode cX10_cuts 86 = .ok (.iadd, 1) := by decide +kernel
theorem dX10_cuts_87 : decode cX10_cuts 87 = .ok (.istore_n 3, 1) := by decide +kernel
theorem dX10_cuts_88 : decode cX10_cuts 88 = .ok (.iload_n 3, 1) := by decide +kernel
theorem dX10_cuts_89 : decode cX10_cuts 89 = .ok (.aload_n 0, 1) := by decide +kernel
theorem dX10_cuts_90 : decode cX10_cuts 90 = .ok (.getfield 51, 3) := by decide +kernel
theorem dX10_cuts_93 : decode cX10_cuts 93 = .ok (.iload_n 1, 1) := by decide +kernel
theorem dX10_cuts_94 : decode cX10_cuts 94 = .ok (.iaload, 1) := by decide +kernel
theorem dX10_cuts_95 : decode cX10_cuts 95 = .ok (.if_icmp .lt 30, 3) := by decide +kernel
theorem dX10_cuts_98 : decode cX10_cuts 98 = .ok (.iload_n 3, 1) := by decide +kernel
theorem dX10_cuts_99 : decode cX10_cuts 99 = .ok (.aload_n 0, 1) := by decide +kernel
theorem dX10_cuts_100 : decode cX10_cuts 100 = .ok (.getfield 51, 3) := by decide +kernel
theorem dX10_cuts_103 : decode cX10_cuts 103 = .ok (.iload_n 1, 1) := by decide +kernel
theorem dX10_cuts_104 : decode cX10_cuts 104 = .ok (.iaload, 1) := by decide +kernel
theorem dX10_cuts_105 : decode cX10_cuts 105 = .ok (.if_icmp .ne 24, 3) := by decide +kernel
theorem dX10_cuts_108 : decode cX10_cuts 108 = .ok (.aload_n 0, 1) := by decide +kernel
theorem dX10_cuts_109 : decode cX10_cuts 109 = .ok (.getfield 54, 3) := by decide +kernel
theorem dX10_cuts_112 : decode cX10_cuts 112 = .ok (.iload_n 2, 1) := by decide +kernel
theorem dX10_cuts_113 : decode cX10_cuts 113 = .ok (.iaload, 1) := by decide +kernel
theorem dX10_cuts_114 : decode cX10_cuts 114 = .ok (.iconst 1, 1) := by decide +kernel
theorem dX10_cuts_115 : decode cX10_cuts 115 = .ok (.iadd, 1) := by decide +kernel
theorem dX10_cuts_116 : decode cX10_cuts 116 = .ok (.aload_n 0, 1) := by decide +kernel
theorem dX10_cuts_117 : decode cX10_cuts 117 = .ok (.getfield 54, 3) := by decide +kernel
theorem dX10_cuts_120 : decode cX10_cuts 120 = .ok (.iload_n 1, 1) := by decide +kernel
theorem dX10_cuts_121 : decode cX10_cuts 121 = .ok (.iaload, 1) := by decide +kernel
theorem dX10_cuts_122 : decode cX10_cuts 122 = .ok (.if_icmp .ge 7, 3) := by decide +kernel
theorem dX10_cuts_125 : decode cX10_cuts 125 = .ok (.iconst 1, 1) := by decide +kernel
theorem dX10_cuts_126 : decode cX10_cuts 126 = .ok (.goto 4, 3) := by decide +kernel
theorem dX10_cuts_129 : decode cX10_cuts 129 = .ok (.iconst 0, 1) := by decide +kernel
theorem dX10_cuts_130 : decode cX10_cuts 130 = .ok (.istore 4, 2) := by decide +kernel
theorem dX10_cuts_132 : decode cX10_cuts 132 = .ok (.aload_n 0, 1) := by decide +kernel
theorem dX10_cuts_133 : decode cX10_cuts 133 = .ok (.getfield 51, 3) := by decide +kernel
theorem dX10_cuts_136 : decode cX10_cuts 136 = .ok (.iload_n 1, 1) := by decide +kernel
theorem dX10_cuts_137 : decode cX10_cuts 137 = .ok (.iload 4, 2) := by decide +kernel
theorem dX10_cuts_139 : decode cX10_cuts 139 = .ok (.ifCond .eq 7, 3) := by decide +kernel
theorem dX10_cuts_142 : decode cX10_cuts 142 = .ok (.iload_n 3, 1) := by decide +kernel
theorem dX10_cuts_143 : decode cX10_cuts 143 = .ok (.goto 9, 3) := by decide +kernel
theorem dX10_cuts_146 : decode cX10_cuts 146 = .ok (.aload_n 0, 1) := by decide +kernel
theorem dX10_cuts_147 : decode cX10_cuts 147 = .ok (.getfield 51, 3) := by decide +kernel
theorem dX10_cuts_150 : decode cX10_cuts 150 = .ok (.iload_n 1, 1) := by decide +kernel
theorem dX10_cuts_151 : decode cX10_cuts 151 = .ok (.iaload, 1) := by decide +kernel
theorem dX10_cuts_152 : decode cX10_cuts 152 = .ok (.iastore, 1) := by decide +kernel
theorem dX10_cuts_153 : decode cX10_cuts 153 = .ok (.aload_n 0, 1) := by decide +kernel
theorem dX10_cuts_154 : decode cX10_cuts 154 = .ok (.getfield 54, 3) := by decide +kernel
theorem dX10_cuts_157 : decode cX10_cuts 157 = .ok (.iload_n 1, 1) := by decide +kernel
theorem dX10_cuts_158 : decode cX10_cuts 158 = .ok (.iload 4, 2) := by decide +kernel
theorem dX10_cuts_160 : decode cX10_cuts 160 = .ok (.ifCond .eq 14, 3) := by decide +kernel
theorem dX10_cuts_163 : decode cX10_cuts 163 = .ok (.aload_n 0, 1) := by decide +kernel
theorem dX10_cuts_164 : decode cX10_cuts 164 = .ok (.getfield 54, 3) := by decide +kernel
theorem dX10_cuts_167 : decode cX10_cuts 167 = .ok (.iload_n 2, 1) := by decide +kernel
theorem dX10_cuts_168 : decode cX10_cuts 168 = .ok (.iaload, 1) := by decide +kernel
theorem dX10_cuts_169 : decode cX10_cuts 169 = .ok (.iconst 1, 1) := by decide +kernel
theorem dX10_cuts_170 : decode cX10_cuts 170 = .ok (.iadd, 1) := by decide +kernel
theorem dX10_cuts_171 : decode cX10_cuts 171 = .ok (.goto 9, 3) := by decide +kernel
theorem dX10_cuts_174 : decode cX10_cuts 174 = .ok (.aload_n 0, 1) := by decide +kernel
theorem dX10_cuts_175 : decode cX10_cuts 175 = .ok (.getfield 54, 3) := by decide +kernel
theorem dX10_cuts_178 : decode cX10_cuts 178 = .ok (.iload_n 1, 1) := by decide +kernel
theorem dX10_cuts_179 : decode cX10_cuts 179 = .ok (.iaload, 1) := by decide +kernel
theorem dX10_cuts_180 : decode cX10_cuts 180 = .ok (.iastore, 1) := by decide +kernel
theorem dX10_cuts_181 : decode cX10_cuts 181 = .ok (.iinc 2 1, 3) := by decide +kernel
theorem dX10_cuts_184 : decode cX10_cuts 184 = .ok (.goto (-123), 3) := by decide +kernel
theorem dX10_cuts_187 : decode cX10_cuts 187 = .ok (.iinc 1 (-1), 3) := by decide +kernel
theorem dX10_cuts_190 : decode cX10_cuts 190 = .ok (.goto (-159), 3) := by decide +kernel
theorem dX10_cuts_193 : decode cX10_cuts 193 = .ok (.return_, 1) := by decide +kernel
theorem dX10_next_0 : decode cX10_next 0 = .ok (.aload_n 0, 1) := by decide +kernel
theorem dX10_next_1 : decode cX10_next 1 = .ok (.getfield 54, 3) := by decide +kernel
theorem dX10_next_4 : decode cX10_next 4 = .ok (.iload_n 1, 1) := by decide +kernel
theorem dX10_next_5 : decode cX10_next 5 = .ok (.iaload, 1) := by decide +kernel
theorem dX10_next_6 : decode cX10_next 6 = .ok (.ifCond .ne 10, 3) := by decide +kernel
theorem dX10_next_9 : decode cX10_next 9 = .ok (.aload_n 0, 1) := by decide +kernel
theorem dX10_next_10 : decode cX10_next 10 = .ok (.getfield 93, 3) := by decide +kernel
theorem dX10_next_13 : decode cX10_next 13 = .ok (.goto 4, 3) := by decide +kernel
theorem dX10_next_16 : decode cX10_next 16 = .ok (.iconst (-1), 1) := by decide +kernel
theorem dX10_next_17 : decode cX10_next 17 = .ok (.istore_n 2, 1) := by decide +kernel
theorem dX10_next_18 : decode cX10_next 18 = .ok (.aload_n 0, 1) := by decide +kernel
theorem dX10_next_19 : decode cX10_next 19 = .ok (.getfield 93, 3) := by decide +kernel
theorem dX10_next_22 : decode cX10_next 22 = .ok (.iconst 1, 1) := by decide +kernel
theorem dX10_next_23 : decode cX10_next 23 = .ok (.isub, 1) := by decide +kernel
theorem dX10_next_24 : decode cX10_next 24 = .ok (.istore_n 3, 1) := by decide +kernel
theorem dX10_next_25 : decode cX10_next 25 = .ok (.iload_n 3, 1) := by decide +kernel
theorem dX10_next_26 : decode cX10_next 26 = .ok (.iload_n 1, 1) := by decide +kernel
theorem dX10_next_27 : decode cX10_next 27 = .ok (.if_icmp .le 80, 3) := by decide +kernel
theorem dX10_next_30 : decode cX10_next 30 = .ok (.aload_n 0, 1) := by decide +kernel
theorem dX10_next_31 : decode cX10_next 31 = .ok (.getfield 54, 3) := by decide +kernel
theorem dX10_next_34 : decode cX10_next 34 = .ok (.iload_n 1, 1) := by decide +kernel
theorem dX10_next_35 : decode cX10_next 35 = .ok (.iaload, 1) := by decide +kernel
theorem dX10_next_36 : decode cX10_next 36 = .ok (.ifCond .le 71, 3) := by decide +kernel
theorem dX10_next_39 : decode cX10_next 39 = .ok (.aload_n 0, 1) := by decide +kernel
theorem dX10_next_40 : decode cX10_next 40 = .ok (.iload_n 1, 1) := by decide +kernel
theorem dX10_next_41 : decode cX10_next 41 = .ok (.iload_n 3, 1) := by decide +kernel
theorem dX10_next_42 : decode cX10_next 42 = .ok (.invokevirtual 165, 3) := by decide +kernel
theorem dX10_next_45 : decode cX10_next 45 = .ok (.aload_n 0, 1) := by decide +kernel
theorem dX10_next_46 : decode cX10_next 46 = .ok (.getfield 25, 3) := by decide +kernel
theorem dX10_next_49 : decode cX10_next 49 = .ok (.iadd, 1) := by decide +kernel
theorem dX10_next_50 : decode cX10_next 50 = .ok (.aload_n 0, 1) := by decide +kernel
theorem dX10_next_51 : decode cX10_next 51 = .ok (.getfield 51, 3) := by decide +kernel
theorem dX10_next_54 : decode cX10_next 54 = .ok (.iload_n 3, 1) := by decide +kernel
theorem dX10_next_55 : decode cX10_next 55 = .ok (.iaload, 1) := by decide +kernel
theorem dX10_next_56 : decode cX10_next 56 = .ok (.iadd, 1) := by decide +kernel
theorem dX10_next_57 : decode cX10_next 57 = .ok (.aload_n 0, 1) := by decide +kernel
theorem dX10_next_58 : decode cX10_next 58 = .ok (.getfield 51, 3) := by decide +kernel
theorem dX10_next_61 : decode cX10_next 61 = .ok (.iload_n 1, 1) := by decide +kernel
theorem dX10_next_62 : decode cX10_next 62 = .ok (.iaload, 1) := by decide +kernel
theorem dX10_next_63 : decode cX10_next 63 = .ok (.if_icmp .ne 24, 3) := by decide +kernel
theorem dX10_next_66 : decode cX10_next 66 = .ok (.aload_n 0, 1) := by decide +kernel
theorem dX10_next_67 : decode cX10_next 67 = .ok (.getfield 54, 3) := by decide +kernel
theorem dX10_next_70 : decode cX10_next 70 = .ok (.iload_n 3, 1) := by decide +kernel
theorem dX10_next_71 : decode cX10_next 71 = .ok (.iaload, 1) := by decide +kernel
theorem dX10_next_72 : decode cX10_next 72 = .ok (.iconst 1, 1) := by decide +kernel
theorem dX10_next_73 : decode cX10_next 73 = .ok (.iadd, 1) := by decide +kernel
theorem dX10_next_74 : decode cX10_next 74 = .ok (.aload_n 0, 1) := by decide +kernel
theorem dX10_next_75 : decode cX10_next 75 = .ok (.getfield 54, 3) := by decide +kernel
theorem dX10_next_78 : decode cX10_next 78 = .ok (.iload_n 1, 1) := by decide +kernel
theorem dX10_next_79 : decode cX10_next 79 = .ok (.iaload, 1) := by decide +kernel
theorem dX10_next_80 : decode cX10_next 80 = .ok (.if_icmp .ne 7, 3) := by decide +kernel
theorem dX10_next_83 : decode cX10_next 83 = .ok (.iconst 1, 1) := by decide +kernel
theorem dX10_next_84 : decode cX10_next 84 = .ok (.goto 4, 3) := by decide +kernel
theorem dX10_next_87 : decode cX10_next 87 = .ok (.iconst 0, 1) := by decide +kernel
theorem dX10_next_88 : decode cX10_next 88 = .ok (.istore 4, 2) := by decide +kernel
theorem dX10_next_90 : decode cX10_next 90 = .ok (.iload 4, 2) := by decide +kernel
theorem dX10_next_92 : decode cX10_next 92 = .ok (.ifCond .eq 7, 3) := by decide +kernel
theorem dX10_next_95 : decode cX10_next 95 = .ok (.iload_n 3, 1) := by decide +kernel
theorem dX10_next_96 : decode cX10_next 96 = .ok (.goto 4, 3) := by decide +kernel
theorem dX10_next_99 : decode cX10_next 99 = .ok (.iload_n 2, 1) := by decide +kernel
theorem dX10_next_100 : decode cX10_next 100 = .ok (.istore_n 2, 1) := by decide +kernel
theorem dX10_next_101 : decode cX10_next 101 = .ok (.iinc 3 (-1), 3) := by decide +kernel
theorem dX10_next_104 : decode cX10_next 104 = .ok (.goto (-79), 3) := by decide +kernel
theorem dX10_next_107 : decode cX10_next 107 = .ok (.iload_n 2, 1) := by decide +kernel
theorem dX10_next_108 : decode cX10_next 108 = .ok (.ireturn, 1) := by decide +kernel
theorem dX10_changes_0 : decode cX10_changes 0 = .ok (.aload_n 0, 1) := by decide +kernel
theorem dX10_changes_1 : decode cX10_changes 1 = .ok (.invokevirtual 168, 3) := by decide +kernel
theorem dX10_changes_4 : decode cX10_changes 4 = .ok (.aload_n 0, 1) := by decide +kernel
theorem dX10_changes_5 : decode cX10_changes 5 = .ok (.aload_n 0, 1) := by decide +kernel
theorem dX10_changes_6 : decode cX10_changes 6 = .ok (.getfield 93, 3) := by decide +kernel
theorem dX10_changes_9 : decode cX10_changes 9 = .ok (.ifCond .ne 7, 3) := by decide +kernel
theorem dX10_changes_12 : decode cX10_changes 12 = .ok (.iconst 0, 1) := by decide +kernel
theorem dX10_changes_13 : decode cX10_changes 13 = .ok (.goto 9, 3) := by decide +kernel
theorem dX10_changes_16 : decode cX10_changes 16 = .ok (.aload_n 0, 1) := by decide +kernel
theorem dX10_changes_17 : decode cX10_changes 17 = .ok (.getfield 54, 3) := by decide +kernel
theorem dX10_changes_20 : decode cX10_changes 20 = .ok (.iconst 0, 1) := by decide +kernel
theorem dX10_changes_21 : decode cX10_changes 21 = .ok (.iaload, 1) := by decide +kernel
theorem dX10_changes_22 : decode cX10_changes 22 = .ok (.invokevirtual 148, 3) := by decide +kernel
theorem dX10_changes_25 : decode cX10_changes 25 = .ok (.ireturn, 1) := by decide +kernel
theorem dX10_change_0 : decode cX10_change 0 = .ok (.aload_n 0, 1) := by decide +kernel
theorem dX10_change_1 : decode cX10_change 1 = .ok (.invokevirtual 168, 3) := by decide +kernel
theorem dX10_change_4 : decode cX10_change 4 = .ok (.aload_n 0, 1) := by decide +kernel
theorem dX10_change_5 : decode cX10_change 5 = .ok (.aload_n 0, 1) := by decide +kernel
theorem dX10_change_6 : decode cX10_change 6 = .ok (.getfield 93, 3) := by decide +kernel
theorem dX10_change_9 : decode cX10_change 9 = .ok (.ifCond .le 21, 3) := by decide +kernel
theorem dX10_change_12 : decode cX10_change 12 = .ok (.iload_n 1, 1) := by decide +kernel
theorem dX10_change_13 : decode cX10_change 13 = .ok (.ifCond .lt 17, 3) := by decide +kernel
theorem dX10_change_16 : decode cX10_change 16 = .ok (.iload_n 1, 1) := by decide +kernel
theorem dX10_change_17 : decode cX10_change 17 = .ok (.aload_n 0, 1) := by decide +kernel
theorem dX10_change_18 : decode cX10_change 18 = .ok (.getfield 54, 3) := by decide +kernel
theorem dX10_change_21 : decode cX10_change 21 = .ok (.iconst 0, 1) := by decide +kernel
theorem dX10_change_22 : decode cX10_change 22 = .ok (.iaload, 1) := by decide +kernel
theorem dX10_change_23 : decode cX10_change 23 = .ok (.if_icmp .ge 7, 3) := by decide +kernel
theorem dX10_change_26 : decode cX10_change 26 = .ok (.iconst 0, 1) := by decide +kernel
theorem dX10_change_27 : decode cX10_change 27 = .ok (.goto 4, 3) := by decide +kernel
theorem dX10_change_30 : decode cX10_change 30 = .ok (.iconst 1, 1) := by decide +kernel
theorem dX10_change_31 : decode cX10_change 31 = .ok (.invokevirtual 114, 3) := by decide +kernel
theorem dX10_change_34 : decode cX10_change 34 = .ok (.ifCond .eq 5, 3) := by decide +kernel
theorem dX10_change_37 : decode cX10_change 37 = .ok (.iconst 0, 1) := by decide +kernel
theorem dX10_change_38 : decode cX10_change 38 = .ok (.ireturn, 1) := by decide +kernel
theorem dX10_change_39 : decode cX10_change 39 = .ok (.aload_n 0, 1) := by decide +kernel
theorem dX10_change_40 : decode cX10_change 40 = .ok (.iconst 0, 1) := by decide +kernel
theorem dX10_change_41 : decode cX10_change 41 = .ok (.invokevirtual 171, 3) := by decide +kernel
theorem dX10_change_44 : decode cX10_change 44 = .ok (.istore_n 2, 1) := by decide +kernel
theorem dX10_change_45 : decode cX10_change 45 = .ok (.iconst 0, 1) := by decide +kernel
theorem dX10_change_46 : decode cX10_change 46 = .ok (.istore_n 3, 1) := by decide +kernel
theorem dX10_change_47 : decode cX10_change 47 = .ok (.iload_n 3, 1) := by decide +kernel
theorem dX10_change_48 : decode cX10_change 48 = .ok (.iload_n 1, 1) := by decide +kernel
theorem dX10_change_49 : decode cX10_change 49 = .ok (.if_icmp .ge 15, 3) := by decide +kernel
theorem dX10_change_52 : decode cX10_change 52 = .ok (.aload_n 0, 1) := by decide +kernel
theorem dX10_change_53 : decode cX10_change 53 = .ok (.iload_n 2, 1) := by decide +kernel
theorem dX10_change_54 : decode cX10_change 54 = .ok (.invokevirtual 171, 3) := by decide +kernel
theorem dX10_change_57 : decode cX10_change 57 = .ok (.istore_n 2, 1) := by decide +kernel
theorem dX10_change_58 : decode cX10_change 58 = .ok (.iinc 3 1, 3) := by decide +kernel
theorem dX10_change_61 : decode cX10_change 61 = .ok (.goto (-14), 3) := by decide +kernel
theorem dX10_change_64 : decode cX10_change 64 = .ok (.iload_n 2, 1) := by decide +kernel
theorem dX10_change_65 : decode cX10_change 65 = .ok (.ireturn, 1) := by decide +kernel
theorem dX10_bestCost_0 : decode cX10_bestCost 0 = .ok (.aload_n 0, 1) := by decide +kernel
theorem dX10_bestCost_1 : decode cX10_bestCost 1 = .ok (.invokevirtual 168, 3) := by decide +kernel
theorem dX10_bestCost_4 : decode cX10_bestCost 4 = .ok (.aload_n 0, 1) := by decide +kernel
theorem dX10_bestCost_5 : decode cX10_bestCost 5 = .ok (.aload_n 0, 1) := by decide +kernel
theorem dX10_bestCost_6 : decode cX10_bestCost 6 = .ok (.getfield 51, 3) := by decide +kernel
theorem dX10_bestCost_9 : decode cX10_bestCost 9 = .ok (.iconst 0, 1) := by decide +kernel
theorem dX10_bestCost_10 : decode cX10_bestCost 10 = .ok (.iaload, 1) := by decide +kernel
theorem dX10_bestCost_11 : decode cX10_bestCost 11 = .ok (.invokevirtual 148, 3) := by decide +kernel
theorem dX10_bestCost_14 : decode cX10_bestCost 14 = .ok (.ireturn, 1) := by decide +kernel
theorem dX10_leastCost_0 : decode cX10_leastCost 0 = .ok (.aload_n 0, 1) := by decide +kernel
theorem dX10_leastCost_1 : decode cX10_leastCost 1 = .ok (.iload_n 1, 1) := by decide +kernel
theorem dX10_leastCost_2 : decode cX10_leastCost 2 = .ok (.iconst 0, 1) := by decide +kernel
theorem dX10_leastCost_3 : decode cX10_leastCost 3 = .ok (.bipush 119, 2) := by decide +kernel
theorem dX10_leastCost_5 : decode cX10_leastCost 5 = .ok (.invokestatic 109, 3) := by decide +kernel
theorem dX10_leastCost_8 : decode cX10_leastCost 8 = .ok (.ifCond .ne 7, 3) := by decide +kernel
theorem dX10_leastCost_11 : decode cX10_leastCost 11 = .ok (.iconst 1, 1) := by decide +kernel
theorem dX10_leastCost_12 : decode cX10_leastCost 12 = .ok (.goto 16, 3) := by decide +kernel
theorem dX10_leastCost_15 : decode cX10_leastCost 15 = .ok (.iload_n 1, 1) := by decide +kernel
theorem dX10_leastCost_16 : decode cX10_leastCost 16 = .ok (.aload_n 0, 1) := by decide +kernel
theorem dX10_leastCost_17 : decode cX10_leastCost 17 = .ok (.getfield 93, 3) := by decide +kernel
theorem dX10_leastCost_20 : decode cX10_leastCost 20 = .ok (.if_icmp .ge 7, 3) := by decide +kernel
theorem dX10_leastCost_23 : decode cX10_leastCost 23 = .ok (.iconst 0, 1) := by decide +kernel
theorem dX10_leastCost_24 : decode cX10_leastCost 24 = .ok (.goto 4, 3) := by decide +kernel
theorem dX10_leastCost_27 : decode cX10_leastCost 27 = .ok (.iconst 2, 1) := by decide +kernel
theorem dX10_leastCost_28 : decode cX10_leastCost 28 = .ok (.invokevirtual 114, 3) := by decide +kernel
theorem dX10_leastCost_31 : decode cX10_leastCost 31 = .ok (.ifCond .eq 5, 3) := by decide +kernel
theorem dX10_leastCost_34 : decode cX10_leastCost 34 = .ok (.iconst 0, 1) := by decide +kernel
theorem dX10_leastCost_35 : decode cX10_leastCost 35 = .ok (.ireturn, 1) := by decide +kernel
theorem dX10_leastCost_36 : decode cX10_leastCost 36 = .ok (.aload_n 0, 1) := by decide +kernel
theorem dX10_leastCost_37 : decode cX10_leastCost 37 = .ok (.invokevirtual 162, 3) := by decide +kernel
theorem dX10_leastCost_40 : decode cX10_leastCost 40 = .ok (.iconst 1, 1) := by decide +kernel
theorem dX10_leastCost_41 : decode cX10_leastCost 41 = .ok (.istore_n 2, 1) := by decide +kernel
theorem dX10_leastCost_42 : decode cX10_leastCost 42 = .ok (.iload_n 2, 1) := by decide +kernel
theorem dX10_leastCost_43 : decode cX10_leastCost 43 = .ok (.aload_n 0, 1) := by decide +kernel
theorem dX10_leastCost_44 : decode cX10_leastCost 44 = .ok (.getfield 93, 3) := by decide +kernel
theorem dX10_leastCost_47 : decode cX10_leastCost 47 = .ok (.if_icmp .gt 21, 3) := by decide +kernel
theorem dX10_leastCost_50 : decode cX10_leastCost 50 = .ok (.aload_n 0, 1) := by decide +kernel
theorem dX10_leastCost_51 : decode cX10_leastCost 51 = .ok (.getfield 57, 3) := by decide +kernel
theorem dX10_leastCost_54 : decode cX10_leastCost 54 = .ok (.iload_n 2, 1) := by decide +kernel
theorem dX10_leastCost_55 : decode cX10_leastCost 55 = .ok (.aload_n 0, 1) := by decide +kernel
theorem dX10_leastCost_56 : decode cX10_leastCost 56 = .ok (.iconst 0, 1) := by decide +kernel
theorem dX10_leastCost_57 : decode cX10_leastCost 57 = .ok (.iload_n 2, 1) := by decide +kernel
theorem dX10_leastCost_58 : decode cX10_leastCost 58 = .ok (.invokevirtual 165, 3) := by decide +kernel
theorem dX10_leastCost_61 : decode cX10_leastCost 61 = .ok (.iastore, 1) := by decide +kernel
theorem dX10_leastCost_62 : decode cX10_leastCost 62 = .ok (.iinc 2 1, 3) := by decide +kernel
theorem dX10_leastCost_65 : decode cX10_leastCost 65 = .ok (.goto (-23), 3) := by decide +kernel
theorem dX10_leastCost_68 : decode cX10_leastCost 68 = .ok (.iconst 0, 1) := by decide +kernel
theorem dX10_leastCost_69 : decode cX10_leastCost 69 = .ok (.istore_n 2, 1) := by decide +kernel
theorem dX10_leastCost_70 : decode cX10_leastCost 70 = .ok (.iload_n 2, 1) := by decide +kernel
theorem dX10_leastCost_71 : decode cX10_leastCost 71 = .ok (.iload_n 1, 1) := by decide +kernel
theorem dX10_leastCost_72 : decode cX10_leastCost 72 = .ok (.if_icmp .ge 148, 3) := by decide +kernel
theorem dX10_leastCost_75 : decode cX10_leastCost 75 = .ok (.iconst 1, 1) := by decide +kernel
theorem dX10_leastCost_76 : decode cX10_leastCost 76 = .ok (.istore_n 3, 1) := by decide +kernel
theorem dX10_leastCost_77 : decode cX10_leastCost 77 = .ok (.iload_n 3, 1) := by decide +kernel
theorem dX10_leastCost_78 : decode cX10_leastCost 78 = .ok (.aload_n 0, 1) := by decide +kernel
theorem dX10_leastCost_79 : decode cX10_leastCost 79 = .ok (.getfield 93, 3) := by decide +kernel
theorem dX10_leastCost_82 : decode cX10_leastCost 82 = .ok (.if_icmp .gt 104, 3) := by decide +kernel
theorem dX10_leastCost_85 : decode cX10_leastCost 85 = .ok (.aload_n 0, 1) := by decide +kernel
theorem dX10_leastCost_86 : decode cX10_leastCost 86 = .ok (.getfield 60, 3) := by decide +kernel
theorem dX10_leastCost_89 : decode cX10_leastCost 89 = .ok (.iload_n 3, 1) := by decide +kernel
theorem dX10_leastCost_90 : decode cX10_leastCost 90 = .ok (.iconst (-1), 1) := by decide +kernel
theorem dX10_leastCost_91 : decode cX10_leastCost 91 = .ok (.iastore, 1) := by decide +kernel
theorem dX10_leastCost_92 : decode cX10_leastCost 92 = .ok (.iconst 1, 1) := by decide +kernel
theorem dX10_leastCost_93 : decode cX10_leastCost 93 = .ok (.istore 4, 2) := by decide +kernel
theorem dX10_leastCost_95 : decode cX10_leastCost 95 = .ok (.iload 4, 2) := by decide +kernel
theorem dX10_leastCost_97 : decode cX10_leastCost 97 = .ok (.iload_n 3, 1) := by decide +kernel
theorem dX10_leastCost_98 : decode cX10_leastCost 98 = .ok (.if_icmp .ge 82, 3) := by decide +kernel
theorem dX10_leastCost_101 : decode cX10_leastCost 101 = .ok (.aload_n 0, 1) := by decide +kernel
theorem dX10_leastCost_102 : decode cX10_leastCost 102 = .ok (.getfield 57, 3) := by decide +kernel
theorem dX10_leastCost_105 : decode cX10_leastCost 105 = .ok (.iload 4, 2) := by decide +kernel
theorem dX10_leastCost_107 : decode cX10_leastCost 107 = .ok (.iaload, 1) := by decide +kernel
theorem dX10_leastCost_108 : decode cX10_leastCost 108 = .ok (.ifCond .ge 7, 3) := by decide +kernel
theorem dX10_leastCost_111 : decode cX10_leastCost 111 = .ok (.iconst (-1), 1) := by decide +kernel
theorem dX10_leastCost_112 : decode cX10_leastCost 112 = .ok (.goto 18, 3) := by decide +kernel
theorem dX10_leastCost_115 : decode cX10_leastCost 115 = .ok (.aload_n 0, 1) := by decide +kernel
theorem dX10_leastCost_116 : decode cX10_leastCost 116 = .ok (.getfield 57, 3) := by decide +kernel
theorem dX10_leastCost_119 : decode cX10_leastCost 119 = .ok (.iload 4, 2) := by decide +kernel
theorem dX10_leastCost_121 : decode cX10_leastCost 121 = .ok (.iaload, 1) := by decide +kernel
theorem dX10_leastCost_122 : decode cX10_leastCost 122 = .ok (.aload_n 0, 1) := by decide +kernel
theorem dX10_leastCost_123 : decode cX10_leastCost 123 = .ok (.iload 4, 2) := by decide +kernel
theorem dX10_leastCost_125 : decode cX10_leastCost 125 = .ok (.iload_n 3, 1) := by decide +kernel
theorem dX10_leastCost_126 : decode cX10_leastCost 126 = .ok (.invokevirtual 165, 3) := by decide +kernel
theorem dX10_leastCost_129 : decode cX10_leastCost 129 = .ok (.iadd, 1) := by decide +kernel
theorem dX10_leastCost_130 : decode cX10_leastCost 130 = .ok (.istore 5, 2) := by decide +kernel
theorem dX10_leastCost_132 : decode cX10_leastCost 132 = .ok (.aload_n 0, 1) := by decide +kernel
theorem dX10_leastCost_133 : decode cX10_leastCost 133 = .ok (.getfield 60, 3) := by decide +kernel
theorem dX10_leastCost_136 : decode cX10_leastCost 136 = .ok (.iload_n 3, 1) := by decide +kernel
theorem dX10_leastCost_137 : decode cX10_leastCost 137 = .ok (.iload 5, 2) := by decide +kernel
theorem dX10_leastCost_139 : decode cX10_leastCost 139 = .ok (.ifCond .lt 28, 3) := by decide +kernel
theorem dX10_leastCost_142 : decode cX10_leastCost 142 = .ok (.aload_n 0, 1) := by decide +kernel
theorem dX10_leastCost_143 : decode cX10_leastCost 143 = .ok (.getfield 60, 3) := by decide +kernel
theorem dX10_leastCost_146 : decode cX10_leastCost 146 = .ok (.iload_n 3, 1) := by decide +kernel
theorem dX10_leastCost_147 : decode cX10_leastCost 147 = .ok (.iaload, 1) := by decide +kernel
theorem dX10_leastCost_148 : decode cX10_leastCost 148 = .ok (.ifCond .lt 14, 3) := by decide +kernel
theorem dX10_leastCost_151 : decode cX10_leastCost 151 = .ok (.iload 5, 2) := by decide +kernel
theorem dX10_leastCost_153 : decode cX10_leastCost 153 = .ok (.aload_n 0, 1) := by decide +kernel
theorem dX10_leastCost_154 : decode cX10_leastCost 154 = .ok (.getfield 60, 3) := by decide +kernel
theorem dX10_leastCost_157 : decode cX10_leastCost 157 = .ok (.iload_n 3, 1) := by decide +kernel
theorem dX10_leastCost_158 : decode cX10_leastCost 158 = .ok (.iaload, 1) := by decide +kernel
theorem dX10_leastCost_159 : decode cX10_leastCost 159 = .ok (.if_icmp .ge 8, 3) := by decide +kernel
theorem dX10_leastCost_162 : decode cX10_leastCost 162 = .ok (.iload 5, 2) := by decide +kernel
theorem dX10_leastCost_164 : decode cX10_leastCost 164 = .ok (.goto 9, 3) := by decide +kernel
theorem dX10_leastCost_167 : decode cX10_leastCost 167 = .ok (.aload_n 0, 1) := by decide +kernel
theorem dX10_leastCost_168 : decode cX10_leastCost 168 = .ok (.getfield 60, 3) := by decide +kernel
theorem dX10_leastCost_171 : decode cX10_leastCost 171 = .ok (.iload_n 3, 1) := by decide +kernel
theorem dX10_leastCost_172 : decode cX10_leastCost 172 = .ok (.iaload, 1) := by decide +kernel
theorem dX10_leastCost_173 : decode cX10_leastCost 173 = .ok (.iastore, 1) := by decide +kernel
theorem dX10_leastCost_174 : decode cX10_leastCost 174 = .ok (.iinc 4 1, 3) := by decide +kernel
theorem dX10_leastCost_177 : decode cX10_leastCost 177 = .ok (.goto (-82), 3) := by decide +kernel
theorem dX10_leastCost_180 : decode cX10_leastCost 180 = .ok (.iinc 3 1, 3) := by decide +kernel
theorem dX10_leastCost_183 : decode cX10_leastCost 183 = .ok (.goto (-106), 3) := by decide +kernel
theorem dX10_leastCost_186 : decode cX10_leastCost 186 = .ok (.iconst 1, 1) := by decide +kernel
theorem dX10_leastCost_187 : decode cX10_leastCost 187 = .ok (.istore_n 3, 1) := by decide +kernel
theorem dX10_leastCost_188 : decode cX10_leastCost 188 = .ok (.iload_n 3, 1) := by decide +kernel
theorem dX10_leastCost_189 : decode cX10_leastCost 189 = .ok (.aload_n 0, 1) := by decide +kernel
theorem dX10_leastCost_190 : decode cX10_leastCost 190 = .ok (.getfield 93, 3) := by decide +kernel
theorem dX10_leastCost_193 : decode cX10_leastCost 193 = .ok (.if_icmp .gt 21, 3) := by decide +kernel
theorem dX10_leastCost_196 : decode cX10_leastCost 196 = .ok (.aload_n 0, 1) := by decide +kernel
theorem dX10_leastCost_197 : decode cX10_leastCost 197 = .ok (.getfield 57, 3) := by decide +kernel
theorem dX10_leastCost_200 : decode cX10_leastCost 200 = .ok (.iload_n 3, 1) := by decide +kernel
theorem dX10_leastCost_201 : decode cX10_leastCost 201 = .ok (.aload_n 0, 1) := by decide +kernel
theorem dX10_leastCost_202 : decode cX10_leastCost 202 = .ok (.getfield 60, 3) := by decide +kernel
theorem dX10_leastCost_205 : decode cX10_leastCost 205 = .ok (.iload_n 3, 1) := by decide +kernel
theorem dX10_leastCost_206 : decode cX10_leastCost 206 = .ok (.iaload, 1) := by decide +kernel
theorem dX10_leastCost_207 : decode cX10_leastCost 207 = .ok (.iastore, 1) := by decide +kernel
theorem dX10_leastCost_208 : decode cX10_leastCost 208 = .ok (.iinc 3 1, 3) := by decide +kernel
theorem dX10_leastCost_211 : decode cX10_leastCost 211 = .ok (.goto (-23), 3) := by decide +kernel
theorem dX10_leastCost_214 : decode cX10_leastCost 214 = .ok (.iinc 2 1, 3) := by decide +kernel
theorem dX10_leastCost_217 : decode cX10_leastCost 217 = .ok (.goto (-147), 3) := by decide +kernel
theorem dX10_leastCost_220 : decode cX10_leastCost 220 = .ok (.aload_n 0, 1) := by decide +kernel
theorem dX10_leastCost_221 : decode cX10_leastCost 221 = .ok (.getfield 57, 3) := by decide +kernel
theorem dX10_leastCost_224 : decode cX10_leastCost 224 = .ok (.aload_n 0, 1) := by decide +kernel
theorem dX10_leastCost_225 : decode cX10_leastCost 225 = .ok (.getfield 93, 3) := by decide +kernel
theorem dX10_leastCost_228 : decode cX10_leastCost 228 = .ok (.iaload, 1) := by decide +kernel
theorem dX10_leastCost_229 : decode cX10_leastCost 229 = .ok (.ireturn, 1) := by decide +kernel
theorem dX10_cutsGreedily_0 : decode cX10_cutsGreedily 0 = .ok (.aload_n 0, 1) := by decide +kernel
theorem dX10_cutsGreedily_1 : decode cX10_cutsGreedily 1 = .ok (.invokevirtual 162, 3) := by decide +kernel
theorem dX10_cutsGreedily_4 : decode cX10_cutsGreedily 4 = .ok (.iconst 0, 1) := by decide +kernel
theorem dX10_cutsGreedily_5 : decode cX10_cutsGreedily 5 = .ok (.istore_n 1, 1) := by decide +kernel
theorem dX10_cutsGreedily_6 : decode cX10_cutsGreedily 6 = .ok (.iload_n 1, 1) := by decide +kernel
theorem dX10_cutsGreedily_7 : decode cX10_cutsGreedily 7 = .ok (.bipush 120, 2) := by decide +kernel
theorem dX10_cutsGreedily_9 : decode cX10_cutsGreedily 9 = .ok (.if_icmp .gt 16, 3) := by decide +kernel
theorem dX10_cutsGreedily_12 : decode cX10_cutsGreedily 12 = .ok (.aload_n 0, 1) := by decide +kernel
theorem dX10_cutsGreedily_13 : decode cX10_cutsGreedily 13 = .ok (.getfield 63, 3) := by decide +kernel
theorem dX10_cutsGreedily_16 : decode cX10_cutsGreedily 16 = .ok (.iload_n 1, 1) := by decide +kernel
theorem dX10_cutsGreedily_17 : decode cX10_cutsGreedily 17 = .ok (.iconst 0, 1) := by decide +kernel
theorem dX10_cutsGreedily_18 : decode cX10_cutsGreedily 18 = .ok (.bastore, 1) := by decide +kernel
theorem dX10_cutsGreedily_19 : decode cX10_cutsGreedily 19 = .ok (.iinc 1 1, 3) := by decide +kernel
theorem dX10_cutsGreedily_22 : decode cX10_cutsGreedily 22 = .ok (.goto (-16), 3) := by decide +kernel
theorem dX10_cutsGreedily_25 : decode cX10_cutsGreedily 25 = .ok (.aload_n 0, 1) := by decide +kernel
theorem dX10_cutsGreedily_26 : decode cX10_cutsGreedily 26 = .ok (.getfield 93, 3) := by decide +kernel
theorem dX10_cutsGreedily_29 : decode cX10_cutsGreedily 29 = .ok (.ifCond .ne 7, 3) := by decide +kernel
theorem dX10_cutsGreedily_32 : decode cX10_cutsGreedily 32 = .ok (.iconst 0, 1) := by decide +kernel
theorem dX10_cutsGreedily_33 : decode cX10_cutsGreedily 33 = .ok (.goto 12, 3) := by decide +kernel
theorem dX10_cutsGreedily_36 : decode cX10_cutsGreedily 36 = .ok (.aload_n 0, 1) := by decide +kernel
theorem dX10_cutsGreedily_37 : decode cX10_cutsGreedily 37 = .ok (.iconst 0, 1) := by decide +kernel
theorem dX10_cutsGreedily_38 : decode cX10_cutsGreedily 38 = .ok (.aload_n 0, 1) := by decide +kernel
theorem dX10_cutsGreedily_39 : decode cX10_cutsGreedily 39 = .ok (.getfield 93, 3) := by decide +kernel
theorem dX10_cutsGreedily_42 : decode cX10_cutsGreedily 42 = .ok (.invokevirtual 165, 3) := by decide +kernel
theorem dX10_cutsGreedily_45 : decode cX10_cutsGreedily 45 = .ok (.istore_n 1, 1) := by decide +kernel
theorem dX10_cutsGreedily_46 : decode cX10_cutsGreedily 46 = .ok (.aload_n 0, 1) := by decide +kernel
theorem dX10_cutsGreedily_47 : decode cX10_cutsGreedily 47 = .ok (.getfield 93, 3) := by decide +kernel
theorem dX10_cutsGreedily_50 : decode cX10_cutsGreedily 50 = .ok (.ifCond .le 7, 3) := by decide +kernel
theorem dX10_cutsGreedily_53 : decode cX10_cutsGreedily 53 = .ok (.iconst 1, 1) := by decide +kernel
theorem dX10_cutsGreedily_54 : decode cX10_cutsGreedily 54 = .ok (.goto 4, 3) := by decide +kernel
theorem dX10_cutsGreedily_57 : decode cX10_cutsGreedily 57 = .ok (.iconst 0, 1) := by decide +kernel
theorem dX10_cutsGreedily_58 : decode cX10_cutsGreedily 58 = .ok (.istore_n 2, 1) := by decide +kernel
theorem dX10_cutsGreedily_59 : decode cX10_cutsGreedily 59 = .ok (.iload_n 2, 1) := by decide +kernel
theorem dX10_cutsGreedily_60 : decode cX10_cutsGreedily 60 = .ok (.ifCond .eq 215, 3) := by decide +kernel
theorem dX10_cutsGreedily_63 : decode cX10_cutsGreedily 63 = .ok (.iconst 0, 1) := by decide +kernel
theorem dX10_cutsGreedily_64 : decode cX10_cutsGreedily 64 = .ok (.istore_n 3, 1) := by decide +kernel
theorem dX10_cutsGreedily_65 : decode cX10_cutsGreedily 65 = .ok (.iconst (-1), 1) := by decide +kernel
theorem dX10_cutsGreedily_66 : decode cX10_cutsGreedily 66 = .ok (.istore 4, 2) := by decide +kernel
theorem dX10_cutsGreedily_68 : decode cX10_cutsGreedily 68 = .ok (.iconst 1, 1) := by decide +kernel
theorem dX10_cutsGreedily_69 : decode cX10_cutsGreedily 69 = .ok (.istore 5, 2) := by decide +kernel
theorem dX10_cutsGreedily_71 : decode cX10_cutsGreedily 71 = .ok (.iload 5, 2) := by decide +kernel
theorem dX10_cutsGreedily_73 : decode cX10_cutsGreedily 73 = .ok (.aload_n 0, 1) := by decide +kernel
theorem dX10_cutsGreedily_74 : decode cX10_cutsGreedily 74 = .ok (.getfield 93, 3) := by decide +kernel
theorem dX10_cutsGreedily_77 : decode cX10_cutsGreedily 77 = .ok (.if_icmp .ge 154, 3) := by decide +kernel
theorem dX10_cutsGreedily_80 : decode cX10_cutsGreedily 80 = .ok (.iload 5, 2) := by decide +kernel
theorem dX10_cutsGreedily_82 : decode cX10_cutsGreedily 82 = .ok (.iconst 1, 1) := by decide +kernel
theorem dX10_cutsGreedily_83 : decode cX10_cutsGreedily 83 = .ok (.isub, 1) := by decide +kernel
theorem dX10_cutsGreedily_84 : decode cX10_cutsGreedily 84 = .ok (.istore 6, 2) := by decide +kernel
theorem dX10_cutsGreedily_86 : decode cX10_cutsGreedily 86 = .ok (.iload 5, 2) := by decide +kernel
theorem dX10_cutsGreedily_88 : decode cX10_cutsGreedily 88 = .ok (.iconst 1, 1) := by decide +kernel
theorem dX10_cutsGreedily_89 : decode cX10_cutsGreedily 89 = .ok (.iadd, 1) := by decide +kernel
theorem dX10_cutsGreedily_90 : decode cX10_cutsGreedily 90 = .ok (.istore 7, 2) := by decide +kernel
theorem dX10_cutsGreedily_92 : decode cX10_cutsGreedily 92 = .ok (.iload 6, 2) := by decide +kernel
theorem dX10_cutsGreedily_94 : decode cX10_cutsGreedily 94 = .ok (.ifCond .le 19, 3) := by decide +kernel
theorem dX10_cutsGreedily_97 : decode cX10_cutsGreedily 97 = .ok (.aload_n 0, 1) := by decide +kernel
theorem dX10_cutsGreedily_98 : decode cX10_cutsGreedily 98 = .ok (.getfield 63, 3) := by decide +kernel
theorem dX10_cutsGreedily_101 : decode cX10_cutsGreedily 101 = .ok (.iload 6, 2) := by decide +kernel
theorem dX10_cutsGreedily_103 : decode cX10_cutsGreedily 103 = .ok (.baload, 1) := by decide +kernel
theorem dX10_cutsGreedily_104 : decode cX10_cutsGreedily 104 = .ok (.ifCond .ne 9, 3) := by decide +kernel
theorem dX10_cutsGreedily_107 : decode cX10_cutsGreedily 107 = .ok (.iinc 6 (-1), 3) := by decide +kernel
theorem dX10_cutsGreedily_110 : decode cX10_cutsGreedily 110 = .ok (.goto (-18), 3) := by decide +kernel
theorem dX10_cutsGreedily_113 : decode cX10_cutsGreedily 113 = .ok (.iload 7, 2) := by decide +kernel
theorem dX10_cutsGreedily_115 : decode cX10_cutsGreedily 115 = .ok (.aload_n 0, 1) := by decide +kernel
theorem dX10_cutsGreedily_116 : decode cX10_cutsGreedily 116 = .ok (.getfield 93, 3) := by decide +kernel
theorem dX10_cutsGreedily_119 : decode cX10_cutsGreedily 119 = .ok (.if_icmp .ge 19, 3) := by decide +kernel
theorem dX10_cutsGreedily_122 : decode cX10_cutsGreedily 122 = .ok (.aload_n 0, 1) := by decide +kernel
theorem dX10_cutsGreedily_123 : decode cX10_cutsGreedily 123 = .ok (.getfield 63, 3) := by decide +kernel
theorem dX10_cutsGreedily_126 : decode cX10_cutsGreedily 126 = .ok (.iload 7, 2) := by decide +kernel
theorem dX10_cutsGreedily_128 : decode cX10_cutsGreedily 128 = .ok (.baload, 1) := by decide +kernel
theorem dX10_cutsGreedily_129 : decode cX10_cutsGreedily 129 = .ok (.ifCond .ne 9, 3) := by decide +kernel
theorem dX10_cutsGreedily_132 : decode cX10_cutsGreedily 132 = .ok (.iinc 7 1, 3) := by decide +kernel
theorem dX10_cutsGreedily_135 : decode cX10_cutsGreedily 135 = .ok (.goto (-22), 3) := by decide +kernel
theorem dX10_cutsGreedily_138 : decode cX10_cutsGreedily 138 = .ok (.aload_n 0, 1) := by decide +kernel
theorem dX10_cutsGreedily_139 : decode cX10_cutsGreedily 139 = .ok (.getfield 63, 3) := by decide +kernel
theorem dX10_cutsGreedily_142 : decode cX10_cutsGreedily 142 = .ok (.iload 5, 2) := by decide +kernel
theorem dX10_cutsGreedily_144 : decode cX10_cutsGreedily 144 = .ok (.baload, 1) := by decide +kernel
theorem dX10_cutsGreedily_145 : decode cX10_cutsGreedily 145 = .ok (.ifCond .eq 7, 3) := by decide +kernel
theorem dX10_cutsGreedily_148 : decode cX10_cutsGreedily 148 = .ok (.iconst (-1), 1) := by decide +kernel
theorem dX10_cutsGreedily_149 : decode cX10_cutsGreedily 149 = .ok (.goto 29, 3) := by decide +kernel
theorem dX10_cutsGreedily_152 : decode cX10_cutsGreedily 152 = .ok (.aload_n 0, 1) := by decide +kernel
theorem dX10_cutsGreedily_153 : decode cX10_cutsGreedily 153 = .ok (.iload 6, 2) := by decide +kernel
theorem dX10_cutsGreedily_155 : decode cX10_cutsGreedily 155 = .ok (.iload 7, 2) := by decide +kernel
theorem dX10_cutsGreedily_157 : decode cX10_cutsGreedily 157 = .ok (.invokevirtual 165, 3) := by decide +kernel
theorem dX10_cutsGreedily_160 : decode cX10_cutsGreedily 160 = .ok (.aload_n 0, 1) := by decide +kernel
theorem dX10_cutsGreedily_161 : decode cX10_cutsGreedily 161 = .ok (.iload 6, 2) := by decide +kernel
theorem dX10_cutsGreedily_163 : decode cX10_cutsGreedily 163 = .ok (.iload 5, 2) := by decide +kernel
theorem dX10_cutsGreedily_165 : decode cX10_cutsGreedily 165 = .ok (.invokevirtual 165, 3) := by decide +kernel
theorem dX10_cutsGreedily_168 : decode cX10_cutsGreedily 168 = .ok (.isub, 1) := by decide +kernel
theorem dX10_cutsGreedily_169 : decode cX10_cutsGreedily 169 = .ok (.aload_n 0, 1) := by decide +kernel
theorem dX10_cutsGreedily_170 : decode cX10_cutsGreedily 170 = .ok (.iload 5, 2) := by decide +kernel
theorem dX10_cutsGreedily_172 : decode cX10_cutsGreedily 172 = .ok (.iload 7, 2) := by decide +kernel
theorem dX10_cutsGreedily_174 : decode cX10_cutsGreedily 174 = .ok (.invokevirtual 165, 3) := by decide +kernel
theorem dX10_cutsGreedily_177 : decode cX10_cutsGreedily 177 = .ok (.isub, 1) := by decide +kernel
theorem dX10_cutsGreedily_178 : decode cX10_cutsGreedily 178 = .ok (.istore 8, 2) := by decide +kernel
theorem dX10_cutsGreedily_180 : decode cX10_cutsGreedily 180 = .ok (.aload_n 0, 1) := by decide +kernel
theorem dX10_cutsGreedily_181 : decode cX10_cutsGreedily 181 = .ok (.getfield 63, 3) := by decide +kernel
theorem dX10_cutsGreedily_184 : decode cX10_cutsGreedily 184 = .ok (.iload 5, 2) := by decide +kernel
theorem dX10_cutsGreedily_186 : decode cX10_cutsGreedily 186 = .ok (.baload, 1) := by decide +kernel
theorem dX10_cutsGreedily_187 : decode cX10_cutsGreedily 187 = .ok (.ifCond .ne 20, 3) := by decide +kernel
theorem dX10_cutsGreedily_190 : decode cX10_cutsGreedily 190 = .ok (.iload 4, 2) := by decide +kernel
theorem dX10_cutsGreedily_192 : decode cX10_cutsGreedily 192 = .ok (.iconst (-1), 1) := by decide +kernel
theorem dX10_cutsGreedily_193 : decode cX10_cutsGreedily 193 = .ok (.if_icmp .eq 9, 3) := by decide +kernel
theorem dX10_cutsGreedily_196 : decode cX10_cutsGreedily 196 = .ok (.iload 8, 2) := by decide +kernel
theorem dX10_cutsGreedily_198 : decode cX10_cutsGreedily 198 = .ok (.iload_n 3, 1) := by decide +kernel
theorem dX10_cutsGreedily_199 : decode cX10_cutsGreedily 199 = .ok (.if_icmp .le 8, 3) := by decide +kernel
theorem dX10_cutsGreedily_202 : decode cX10_cutsGreedily 202 = .ok (.iload 5, 2) := by decide +kernel
theorem dX10_cutsGreedily_204 : decode cX10_cutsGreedily 204 = .ok (.goto 5, 3) := by decide +kernel
theorem dX10_cutsGreedily_207 : decode cX10_cutsGreedily 207 = .ok (.iload 4, 2) := by decide +kernel
theorem dX10_cutsGreedily_209 : decode cX10_cutsGreedily 209 = .ok (.istore 4, 2) := by decide +kernel
theorem dX10_cutsGreedily_211 : decode cX10_cutsGreedily 211 = .ok (.iload 4, 2) := by decide +kernel
theorem dX10_cutsGreedily_213 : decode cX10_cutsGreedily 213 = .ok (.iload 5, 2) := by decide +kernel
theorem dX10_cutsGreedily_215 : decode cX10_cutsGreedily 215 = .ok (.if_icmp .ne 8, 3) := by decide +kernel
theorem dX10_cutsGreedily_218 : decode cX10_cutsGreedily 218 = .ok (.iload 8, 2) := by decide +kernel
theorem dX10_cutsGreedily_220 : decode cX10_cutsGreedily 220 = .ok (.goto 4, 3) := by decide +kernel
theorem dX10_cutsGreedily_223 : decode cX10_cutsGreedily 223 = .ok (.iload_n 3, 1) := by decide +kernel
theorem dX10_cutsGreedily_224 : decode cX10_cutsGreedily 224 = .ok (.istore_n 3, 1) := by decide +kernel
theorem dX10_cutsGreedily_225 : decode cX10_cutsGreedily 225 = .ok (.iinc 5 1, 3) := by decide +kernel
theorem dX10_cutsGreedily_228 : decode cX10_cutsGreedily 228 = .ok (.goto (-157), 3) := by decide +kernel
theorem dX10_cutsGreedily_231 : decode cX10_cutsGreedily 231 = .ok (.iload 4, 2) := by decide +kernel
theorem dX10_cutsGreedily_233 : decode cX10_cutsGreedily 233 = .ok (.iconst (-1), 1) := by decide +kernel
theorem dX10_cutsGreedily_234 : decode cX10_cutsGreedily 234 = .ok (.if_icmp .eq 15, 3) := by decide +kernel
theorem dX10_cutsGreedily_237 : decode cX10_cutsGreedily 237 = .ok (.iload_n 3, 1) := by decide +kernel
theorem dX10_cutsGreedily_238 : decode cX10_cutsGreedily 238 = .ok (.aload_n 0, 1) := by decide +kernel
theorem dX10_cutsGreedily_239 : decode cX10_cutsGreedily 239 = .ok (.getfield 25, 3) := by decide +kernel
theorem dX10_cutsGreedily_242 : decode cX10_cutsGreedily 242 = .ok (.if_icmp .le 7, 3) := by decide +kernel
theorem dX10_cutsGreedily_245 : decode cX10_cutsGreedily 245 = .ok (.iconst 1, 1) := by decide +kernel
theorem dX10_cutsGreedily_246 : decode cX10_cutsGreedily 246 = .ok (.goto 4, 3) := by decide +kernel
theorem dX10_cutsGreedily_249 : decode cX10_cutsGreedily 249 = .ok (.iconst 0, 1) := by decide +kernel
theorem dX10_cutsGreedily_250 : decode cX10_cutsGreedily 250 = .ok (.istore_n 2, 1) := by decide +kernel
theorem dX10_cutsGreedily_251 : decode cX10_cutsGreedily 251 = .ok (.iload_n 2, 1) := by decide +kernel
theorem dX10_cutsGreedily_252 : decode cX10_cutsGreedily 252 = .ok (.ifCond .eq 20, 3) := by decide +kernel
theorem dX10_cutsGreedily_255 : decode cX10_cutsGreedily 255 = .ok (.aload_n 0, 1) := by decide +kernel
theorem dX10_cutsGreedily_256 : decode cX10_cutsGreedily 256 = .ok (.getfield 63, 3) := by decide +kernel
theorem dX10_cutsGreedily_259 : decode cX10_cutsGreedily 259 = .ok (.iload 4, 2) := by decide +kernel
theorem dX10_cutsGreedily_261 : decode cX10_cutsGreedily 261 = .ok (.iconst 1, 1) := by decide +kernel
theorem dX10_cutsGreedily_262 : decode cX10_cutsGreedily 262 = .ok (.bastore, 1) := by decide +kernel
theorem dX10_cutsGreedily_263 : decode cX10_cutsGreedily 263 = .ok (.iload_n 1, 1) := by decide +kernel
theorem dX10_cutsGreedily_264 : decode cX10_cutsGreedily 264 = .ok (.aload_n 0, 1) := by decide +kernel
theorem dX10_cutsGreedily_265 : decode cX10_cutsGreedily 265 = .ok (.getfield 25, 3) := by decide +kernel
theorem dX10_cutsGreedily_268 : decode cX10_cutsGreedily 268 = .ok (.iload_n 3, 1) := by decide +kernel
theorem dX10_cutsGreedily_269 : decode cX10_cutsGreedily 269 = .ok (.isub, 1) := by decide +kernel
theorem dX10_cutsGreedily_270 : decode cX10_cutsGreedily 270 = .ok (.iadd, 1) := by decide +kernel
theorem dX10_cutsGreedily_271 : decode cX10_cutsGreedily 271 = .ok (.istore_n 1, 1) := by decide +kernel
theorem dX10_cutsGreedily_272 : decode cX10_cutsGreedily 272 = .ok (.goto (-213), 3) := by decide +kernel
theorem dX10_cutsGreedily_275 : decode cX10_cutsGreedily 275 = .ok (.iload_n 1, 1) := by decide +kernel
theorem dX10_cutsGreedily_276 : decode cX10_cutsGreedily 276 = .ok (.ireturn, 1) := by decide +kernel
theorem dX10_cut_0 : decode cX10_cut 0 = .ok (.iconst 0, 1) := by decide +kernel
theorem dX10_cut_1 : decode cX10_cut 1 = .ok (.istore_n 2, 1) := by decide +kernel
theorem dX10_cut_2 : decode cX10_cut 2 = .ok (.iconst 1, 1) := by decide +kernel
theorem dX10_cut_3 : decode cX10_cut 3 = .ok (.istore_n 3, 1) := by decide +kernel
theorem dX10_cut_4 : decode cX10_cut 4 = .ok (.iload_n 3, 1) := by decide +kernel
theorem dX10_cut_5 : decode cX10_cut 5 = .ok (.aload_n 0, 1) := by decide +kernel
theorem dX10_cut_6 : decode cX10_cut 6 = .ok (.getfield 93, 3) := by decide +kernel
theorem dX10_cut_9 : decode cX10_cut 9 = .ok (.if_icmp .ge 28, 3) := by decide +kernel
theorem dX10_cut_12 : decode cX10_cut 12 = .ok (.aload_n 0, 1) := by decide +kernel
theorem dX10_cut_13 : decode cX10_cut 13 = .ok (.getfield 63, 3) := by decide +kernel
theorem dX10_cut_16 : decode cX10_cut 16 = .ok (.iload_n 3, 1) := by decide +kernel
theorem dX10_cut_17 : decode cX10_cut 17 = .ok (.baload, 1) := by decide +kernel
theorem dX10_cut_18 : decode cX10_cut 18 = .ok (.ifCond .eq 13, 3) := by decide +kernel
theorem dX10_cut_21 : decode cX10_cut 21 = .ok (.iload_n 2, 1) := by decide +kernel
theorem dX10_cut_22 : decode cX10_cut 22 = .ok (.iload_n 1, 1) := by decide +kernel
theorem dX10_cut_23 : decode cX10_cut 23 = .ok (.if_icmp .ne 5, 3) := by decide +kernel
theorem dX10_cut_26 : decode cX10_cut 26 = .ok (.iload_n 3, 1) := by decide +kernel
theorem dX10_cut_27 : decode cX10_cut 27 = .ok (.ireturn, 1) := by decide +kernel
theorem dX10_cut_28 : decode cX10_cut 28 = .ok (.iinc 2 1, 3) := by decide +kernel
theorem dX10_cut_31 : decode cX10_cut 31 = .ok (.iinc 3 1, 3) := by decide +kernel
theorem dX10_cut_34 : decode cX10_cut 34 = .ok (.goto (-30), 3) := by decide +kernel
theorem dX10_cut_37 : decode cX10_cut 37 = .ok (.iconst (-1), 1) := by decide +kernel
theorem dX10_cut_38 : decode cX10_cut 38 = .ok (.iload_n 2, 1) := by decide +kernel
theorem dX10_cut_39 : decode cX10_cut 39 = .ok (.isub, 1) := by decide +kernel
theorem dX10_cut_40 : decode cX10_cut 40 = .ok (.ireturn, 1) := by decide +kernel
theorem dX10_greedyChanges_0 : decode cX10_greedyChanges 0 = .ok (.aload_n 0, 1) := by decide +kernel
theorem dX10_greedyChanges_1 : decode cX10_greedyChanges 1 = .ok (.invokevirtual 174, 3) := by decide +kernel
theorem dX10_greedyChanges_4 : decode cX10_greedyChanges 4 = .ok (.pop, 1) := by decide +kernel
theorem dX10_greedyChanges_5 : decode cX10_greedyChanges 5 = .ok (.aload_n 0, 1) := by decide +kernel
theorem dX10_greedyChanges_6 : decode cX10_greedyChanges 6 = .ok (.iconst (-1), 1) := by decide +kernel
theorem dX10_greedyChanges_7 : decode cX10_greedyChanges 7 = .ok (.aload_n 0, 1) := by decide +kernel
theorem dX10_greedyChanges_8 : decode cX10_greedyChanges 8 = .ok (.iconst (-1), 1) := by decide +kernel
theorem dX10_greedyChanges_9 : decode cX10_greedyChanges 9 = .ok (.invokevirtual 178, 3) := by decide +kernel
theorem dX10_greedyChanges_12 : decode cX10_greedyChanges 12 = .ok (.isub, 1) := by decide +kernel
theorem dX10_greedyChanges_13 : decode cX10_greedyChanges 13 = .ok (.invokevirtual 148, 3) := by decide +kernel
theorem dX10_greedyChanges_16 : decode cX10_greedyChanges 16 = .ok (.ireturn, 1) := by decide +kernel
theorem dX10_greedyChange_0 : decode cX10_greedyChange 0 = .ok (.aload_n 0, 1) := by decide +kernel
theorem dX10_greedyChange_1 : decode cX10_greedyChange 1 = .ok (.invokevirtual 174, 3) := by decide +kernel
theorem dX10_greedyChange_4 : decode cX10_greedyChange 4 = .ok (.pop, 1) := by decide +kernel
theorem dX10_greedyChange_5 : decode cX10_greedyChange 5 = .ok (.iload_n 1, 1) := by decide +kernel
theorem dX10_greedyChange_6 : decode cX10_greedyChange 6 = .ok (.ifCond .ge 7, 3) := by decide +kernel
theorem dX10_greedyChange_9 : decode cX10_greedyChange 9 = .ok (.iconst (-1), 1) := by decide +kernel
theorem dX10_greedyChange_10 : decode cX10_greedyChange 10 = .ok (.goto 8, 3) := by decide +kernel
theorem dX10_greedyChange_13 : decode cX10_greedyChange 13 = .ok (.aload_n 0, 1) := by decide +kernel
theorem dX10_greedyChange_14 : decode cX10_greedyChange 14 = .ok (.iload_n 1, 1) := by decide +kernel
theorem dX10_greedyChange_15 : decode cX10_greedyChange 15 = .ok (.invokevirtual 178, 3) := by decide +kernel
theorem dX10_greedyChange_18 : decode cX10_greedyChange 18 = .ok (.istore_n 2, 1) := by decide +kernel
theorem dX10_greedyChange_19 : decode cX10_greedyChange 19 = .ok (.aload_n 0, 1) := by decide +kernel
theorem dX10_greedyChange_20 : decode cX10_greedyChange 20 = .ok (.iload_n 2, 1) := by decide +kernel
theorem dX10_greedyChange_21 : decode cX10_greedyChange 21 = .ok (.ifCond .ge 7, 3) := by decide +kernel
theorem dX10_greedyChange_24 : decode cX10_greedyChange 24 = .ok (.iconst 1, 1) := by decide +kernel
theorem dX10_greedyChange_25 : decode cX10_greedyChange 25 = .ok (.goto 4, 3) := by decide +kernel
theorem dX10_greedyChange_28 : decode cX10_greedyChange 28 = .ok (.iconst 0, 1) := by decide +kernel
theorem dX10_greedyChange_29 : decode cX10_greedyChange 29 = .ok (.invokevirtual 114, 3) := by decide +kernel
theorem dX10_greedyChange_32 : decode cX10_greedyChange 32 = .ok (.ifCond .eq 7, 3) := by decide +kernel
theorem dX10_greedyChange_35 : decode cX10_greedyChange 35 = .ok (.iconst 0, 1) := by decide +kernel
theorem dX10_greedyChange_36 : decode cX10_greedyChange 36 = .ok (.goto 4, 3) := by decide +kernel
theorem dX10_greedyChange_39 : decode cX10_greedyChange 39 = .ok (.iload_n 2, 1) := by decide +kernel
theorem dX10_greedyChange_40 : decode cX10_greedyChange 40 = .ok (.ireturn, 1) := by decide +kernel
theorem dX10_greedyCost_0 : decode cX10_greedyCost 0 = .ok (.aload_n 0, 1) := by decide +kernel
theorem dX10_greedyCost_1 : decode cX10_greedyCost 1 = .ok (.aload_n 0, 1) := by decide +kernel
theorem dX10_greedyCost_2 : decode cX10_greedyCost 2 = .ok (.invokevirtual 174, 3) := by decide +kernel
theorem dX10_greedyCost_5 : decode cX10_greedyCost 5 = .ok (.invokevirtual 148, 3) := by decide +kernel
theorem dX10_greedyCost_8 : decode cX10_greedyCost 8 = .ok (.ireturn, 1) := by decide +kernel
theorem dX10_toggleTruth_0 : decode cX10_toggleTruth 0 = .ok (.aload_n 0, 1) := by decide +kernel
theorem dX10_toggleTruth_1 : decode cX10_toggleTruth 1 = .ok (.iload_n 1, 1) := by decide +kernel
theorem dX10_toggleTruth_2 : decode cX10_toggleTruth 2 = .ok (.iconst 0, 1) := by decide +kernel
theorem dX10_toggleTruth_3 : decode cX10_toggleTruth 3 = .ok (.aload_n 0, 1) := by decide +kernel
theorem dX10_toggleTruth_4 : decode cX10_toggleTruth 4 = .ok (.getfield 93, 3) := by decide +kernel
theorem dX10_toggleTruth_7 : decode cX10_toggleTruth 7 = .ok (.iconst 1, 1) := by decide +kernel
theorem dX10_toggleTruth_8 : decode cX10_toggleTruth 8 = .ok (.isub, 1) := by decide +kernel
theorem dX10_toggleTruth_9 : decode cX10_toggleTruth 9 = .ok (.invokestatic 109, 3) := by decide +kernel
theorem dX10_toggleTruth_12 : decode cX10_toggleTruth 12 = .ok (.ifCond .eq 7, 3) := by decide +kernel
theorem dX10_toggleTruth_15 : decode cX10_toggleTruth 15 = .ok (.iconst 0, 1) := by decide +kernel
theorem dX10_toggleTruth_16 : decode cX10_toggleTruth 16 = .ok (.goto 4, 3) := by decide +kernel
theorem dX10_toggleTruth_19 : decode cX10_toggleTruth 19 = .ok (.iconst 1, 1) := by decide +kernel
theorem dX10_toggleTruth_20 : decode cX10_toggleTruth 20 = .ok (.invokevirtual 114, 3) := by decide +kernel
theorem dX10_toggleTruth_23 : decode cX10_toggleTruth 23 = .ok (.ifCond .eq 5, 3) := by decide +kernel
theorem dX10_toggleTruth_26 : decode cX10_toggleTruth 26 = .ok (.iconst 0, 1) := by decide +kernel
theorem dX10_toggleTruth_27 : decode cX10_toggleTruth 27 = .ok (.ireturn, 1) := by decide +kernel
theorem dX10_toggleTruth_28 : decode cX10_toggleTruth 28 = .ok (.aload_n 0, 1) := by decide +kernel
theorem dX10_toggleTruth_29 : decode cX10_toggleTruth 29 = .ok (.getfield 32, 3) := by decide +kernel
theorem dX10_toggleTruth_32 : decode cX10_toggleTruth 32 = .ok (.iload_n 1, 1) := by decide +kernel
theorem dX10_toggleTruth_33 : decode cX10_toggleTruth 33 = .ok (.aload_n 0, 1) := by decide +kernel
theorem dX10_toggleTruth_34 : decode cX10_toggleTruth 34 = .ok (.getfield 32, 3) := by decide +kernel
theorem dX10_toggleTruth_37 : decode cX10_toggleTruth 37 = .ok (.iload_n 1, 1) := by decide +kernel
theorem dX10_toggleTruth_38 : decode cX10_toggleTruth 38 = .ok (.baload, 1) := by decide +kernel
theorem dX10_toggleTruth_39 : decode cX10_toggleTruth 39 = .ok (.ifCond .ne 7, 3) := by decide +kernel
theorem dX10_toggleTruth_42 : decode cX10_toggleTruth 42 = .ok (.iconst 1, 1) := by decide +kernel
theorem dX10_toggleTruth_43 : decode cX10_toggleTruth 43 = .ok (.goto 4, 3) := by decide +kernel
theorem dX10_toggleTruth_46 : decode cX10_toggleTruth 46 = .ok (.iconst 0, 1) := by decide +kernel
theorem dX10_toggleTruth_47 : decode cX10_toggleTruth 47 = .ok (.bastore, 1) := by decide +kernel
theorem dX10_toggleTruth_48 : decode cX10_toggleTruth 48 = .ok (.aload_n 0, 1) := by decide +kernel
theorem dX10_toggleTruth_49 : decode cX10_toggleTruth 49 = .ok (.getfield 32, 3) := by decide +kernel
theorem dX10_toggleTruth_52 : decode cX10_toggleTruth 52 = .ok (.iload_n 1, 1) := by decide +kernel
theorem dX10_toggleTruth_53 : decode cX10_toggleTruth 53 = .ok (.baload, 1) := by decide +kernel
theorem dX10_toggleTruth_54 : decode cX10_toggleTruth 54 = .ok (.ireturn, 1) := by decide +kernel
theorem dX10_matches_0 : decode cX10_matches 0 = .ok (.aload_n 0, 1) := by decide +kernel
theorem dX10_matches_1 : decode cX10_matches 1 = .ok (.iconst 0, 1) := by decide +kernel
theorem dX10_matches_2 : decode cX10_matches 2 = .ok (.putfield 181, 3) := by decide +kernel
theorem dX10_matches_5 : decode cX10_matches 5 = .ok (.iconst 0, 1) := by decide +kernel
theorem dX10_matches_6 : decode cX10_matches 6 = .ok (.istore_n 3, 1) := by decide +kernel
theorem dX10_matches_7 : decode cX10_matches 7 = .ok (.iconst 0, 1) := by decide +kernel
theorem dX10_matches_8 : decode cX10_matches 8 = .ok (.istore 4, 2) := by decide +kernel
theorem dX10_matches_10 : decode cX10_matches 10 = .ok (.iload 4, 2) := by decide +kernel
theorem dX10_matches_12 : decode cX10_matches 12 = .ok (.bipush 120, 2) := by decide +kernel
theorem dX10_matches_14 : decode cX10_matches 14 = .ok (.if_icmp .ge 17, 3) := by decide +kernel
theorem dX10_matches_17 : decode cX10_matches 17 = .ok (.aload_n 0, 1) := by decide +kernel
theorem dX10_matches_18 : decode cX10_matches 18 = .ok (.getfield 66, 3) := by decide +kernel
theorem dX10_matches_21 : decode cX10_matches 21 = .ok (.iload 4, 2) := by decide +kernel
theorem dX10_matches_23 : decode cX10_matches 23 = .ok (.iconst 0, 1) := by decide +kernel
theorem dX10_matches_24 : decode cX10_matches 24 = .ok (.bastore, 1) := by decide +kernel
theorem dX10_matches_25 : decode cX10_matches 25 = .ok (.iinc 4 1, 3) := by decide +kernel
theorem dX10_matches_28 : decode cX10_matches 28 = .ok (.goto (-18), 3) := by decide +kernel
theorem dX10_matches_31 : decode cX10_matches 31 = .ok (.iconst 0, 1) := by decide +kernel
theorem dX10_matches_32 : decode cX10_matches 32 = .ok (.istore 4, 2) := by decide +kernel
theorem dX10_matches_34 : decode cX10_matches 34 = .ok (.iload 4, 2) := by decide +kernel
theorem dX10_matches_36 : decode cX10_matches 36 = .ok (.aload_n 0, 1) := by decide +kernel
theorem dX10_matches_37 : decode cX10_matches 37 = .ok (.getfield 96, 3) := by decide +kernel
theorem dX10_matches_40 : decode cX10_matches 40 = .ok (.if_icmp .ge 135, 3) := by decide +kernel
theorem dX10_matches_43 : decode cX10_matches 43 = .ok (.aload_n 0, 1) := by decide +kernel
theorem dX10_matches_44 : decode cX10_matches 44 = .ok (.getfield 39, 3) := by decide +kernel
theorem dX10_matches_47 : decode cX10_matches 47 = .ok (.iload 4, 2) := by decide +kernel
theorem dX10_matches_49 : decode cX10_matches 49 = .ok (.iaload, 1) := by decide +kernel
theorem dX10_matches_50 : decode cX10_matches 50 = .ok (.istore 5, 2) := by decide +kernel
theorem dX10_matches_52 : decode cX10_matches 52 = .ok (.iload 5, 2) := by decide +kernel
theorem dX10_matches_54 : decode cX10_matches 54 = .ok (.ifCond .lt 43, 3) := by decide +kernel
theorem dX10_matches_57 : decode cX10_matches 57 = .ok (.iload 5, 2) := by decide +kernel
theorem dX10_matches_59 : decode cX10_matches 59 = .ok (.aload_n 0, 1) := by decide +kernel
theorem dX10_matches_60 : decode cX10_matches 60 = .ok (.getfield 39, 3) := by decide +kernel
theorem dX10_matches_63 : decode cX10_matches 63 = .ok (.iload 4, 2) := by decide +kernel
theorem dX10_matches_65 : decode cX10_matches 65 = .ok (.iaload, 1) := by decide +kernel
theorem dX10_matches_66 : decode cX10_matches 66 = .ok (.iload_n 2, 1) := by decide +kernel
theorem dX10_matches_67 : decode cX10_matches 67 = .ok (.isub, 1) := by decide +kernel
theorem dX10_matches_68 : decode cX10_matches 68 = .ok (.if_icmp .lt 29, 3) := by decide +kernel
theorem dX10_matches_71 : decode cX10_matches 71 = .ok (.aload_n 0, 1) := by decide +kernel
theorem dX10_matches_72 : decode cX10_matches 72 = .ok (.getfield 32, 3) := by decide +kernel
theorem dX10_matches_75 : decode cX10_matches 75 = .ok (.iload 5, 2) := by decide +kernel
theorem dX10_matches_77 : decode cX10_matches 77 = .ok (.baload, 1) := by decide +kernel
theorem dX10_matches_78 : decode cX10_matches 78 = .ok (.ifCond .eq 13, 3) := by decide +kernel
theorem dX10_matches_81 : decode cX10_matches 81 = .ok (.aload_n 0, 1) := by decide +kernel
theorem dX10_matches_82 : decode cX10_matches 82 = .ok (.getfield 66, 3) := by decide +kernel
theorem dX10_matches_85 : decode cX10_matches 85 = .ok (.iload 5, 2) := by decide +kernel
theorem dX10_matches_87 : decode cX10_matches 87 = .ok (.baload, 1) := by decide +kernel
theorem dX10_matches_88 : decode cX10_matches 88 = .ok (.ifCond .eq 9, 3) := by decide +kernel
theorem dX10_matches_91 : decode cX10_matches 91 = .ok (.iinc 5 (-1), 3) := by decide +kernel
theorem dX10_matches_94 : decode cX10_matches 94 = .ok (.goto (-42), 3) := by decide +kernel
theorem dX10_matches_97 : decode cX10_matches 97 = .ok (.aload_n 0, 1) := by decide +kernel
theorem dX10_matches_98 : decode cX10_matches 98 = .ok (.getfield 36, 3) := by decide +kernel
theorem dX10_matches_101 : decode cX10_matches 101 = .ok (.iload 4, 2) := by decide +kernel
theorem dX10_matches_103 : decode cX10_matches 103 = .ok (.iaload, 1) := by decide +kernel
theorem dX10_matches_104 : decode cX10_matches 104 = .ok (.iload_n 1, 1) := by decide +kernel
theorem dX10_matches_105 : decode cX10_matches 105 = .ok (.if_icmp .ne 26, 3) := by decide +kernel
theorem dX10_matches_108 : decode cX10_matches 108 = .ok (.iload 5, 2) := by decide +kernel
theorem dX10_matches_110 : decode cX10_matches 110 = .ok (.ifCond .lt 21, 3) := by decide +kernel
theorem dX10_matches_113 : decode cX10_matches 113 = .ok (.iload 5, 2) := by decide +kernel
theorem dX10_matches_115 : decode cX10_matches 115 = .ok (.aload_n 0, 1) := by decide +kernel
theorem dX10_matches_116 : decode cX10_matches 116 = .ok (.getfield 39, 3) := by decide +kernel
theorem dX10_matches_119 : decode cX10_matches 119 = .ok (.iload 4, 2) := by decide +kernel
theorem dX10_matches_121 : decode cX10_matches 121 = .ok (.iaload, 1) := by decide +kernel
theorem dX10_matches_122 : decode cX10_matches 122 = .ok (.iload_n 2, 1) := by decide +kernel
theorem dX10_matches_123 : decode cX10_matches 123 = .ok (.isub, 1) := by decide +kernel
theorem dX10_matches_124 : decode cX10_matches 124 = .ok (.if_icmp .lt 7, 3) := by decide +kernel
theorem dX10_matches_127 : decode cX10_matches 127 = .ok (.iconst 1, 1) := by decide +kernel
theorem dX10_matches_128 : decode cX10_matches 128 = .ok (.goto 4, 3) := by decide +kernel
theorem dX10_matches_131 : decode cX10_matches 131 = .ok (.iconst 0, 1) := by decide +kernel
theorem dX10_matches_132 : decode cX10_matches 132 = .ok (.istore 6, 2) := by decide +kernel
theorem dX10_matches_134 : decode cX10_matches 134 = .ok (.iload 6, 2) := by decide +kernel
theorem dX10_matches_136 : decode cX10_matches 136 = .ok (.ifCond .eq 33, 3) := by decide +kernel
theorem dX10_matches_139 : decode cX10_matches 139 = .ok (.aload_n 0, 1) := by decide +kernel
theorem dX10_matches_140 : decode cX10_matches 140 = .ok (.getfield 66, 3) := by decide +kernel
theorem dX10_matches_143 : decode cX10_matches 143 = .ok (.iload 5, 2) := by decide +kernel
theorem dX10_matches_145 : decode cX10_matches 145 = .ok (.iconst 1, 1) := by decide +kernel
theorem dX10_matches_146 : decode cX10_matches 146 = .ok (.bastore, 1) := by decide +kernel
theorem dX10_matches_147 : decode cX10_matches 147 = .ok (.aload_n 0, 1) := by decide +kernel
theorem dX10_matches_148 : decode cX10_matches 148 = .ok (.dup, 1) := by decide +kernel
theorem dX10_matches_149 : decode cX10_matches 149 = .ok (.getfield 181, 3) := by decide +kernel
theorem dX10_matches_152 : decode cX10_matches 152 = .ok (.aload_n 0, 1) := by decide +kernel
theorem dX10_matches_153 : decode cX10_matches 153 = .ok (.getfield 39, 3) := by decide +kernel
theorem dX10_matches_156 : decode cX10_matches 156 = .ok (.iload 4, 2) := by decide +kernel
theorem dX10_matches_158 : decode cX10_matches 158 = .ok (.iaload, 1) := by decide +kernel
theorem dX10_matches_159 : decode cX10_matches 159 = .ok (.iload 5, 2) := by decide +kernel
theorem dX10_matches_161 : decode cX10_matches 161 = .ok (.isub, 1) := by decide +kernel
theorem dX10_matches_162 : decode cX10_matches 162 = .ok (.iadd, 1) := by decide +kernel
theorem dX10_matches_163 : decode cX10_matches 163 = .ok (.putfield 181, 3) := by decide +kernel
theorem dX10_matches_166 : decode cX10_matches 166 = .ok (.iinc 3 1, 3) := by decide +kernel
theorem dX10_matches_169 : decode cX10_matches 169 = .ok (.iinc 4 1, 3) := by decide +kernel
theorem dX10_matches_172 : decode cX10_matches 172 = .ok (.goto (-138), 3) := by decide +kernel
theorem dX10_matches_175 : decode cX10_matches 175 = .ok (.iload_n 3, 1) := by decide +kernel
theorem dX10_matches_176 : decode cX10_matches 176 = .ok (.ireturn, 1) := by decide +kernel
theorem dX10_isNoWindow_0 : decode cX10_isNoWindow 0 = .ok (.aload_n 0, 1) := by decide +kernel
theorem dX10_isNoWindow_1 : decode cX10_isNoWindow 1 = .ok (.iload_n 1, 1) := by decide +kernel
theorem dX10_isNoWindow_2 : decode cX10_isNoWindow 2 = .ok (.iconst 0, 1) := by decide +kernel
theorem dX10_isNoWindow_3 : decode cX10_isNoWindow 3 = .ok (.iconst 2, 1) := by decide +kernel
theorem dX10_isNoWindow_4 : decode cX10_isNoWindow 4 = .ok (.invokestatic 109, 3) := by decide +kernel
theorem dX10_isNoWindow_7 : decode cX10_isNoWindow 7 = .ok (.ifCond .eq 17, 3) := by decide +kernel
theorem dX10_isNoWindow_10 : decode cX10_isNoWindow 10 = .ok (.iload_n 2, 1) := by decide +kernel
theorem dX10_isNoWindow_11 : decode cX10_isNoWindow 11 = .ok (.iconst 0, 1) := by decide +kernel
theorem dX10_isNoWindow_12 : decode cX10_isNoWindow 12 = .ok (.bipush 120, 2) := by decide +kernel
theorem dX10_isNoWindow_14 : decode cX10_isNoWindow 14 = .ok (.invokestatic 109, 3) := by decide +kernel
theorem dX10_isNoWindow_17 : decode cX10_isNoWindow 17 = .ok (.ifCond .eq 7, 3) := by decide +kernel
theorem dX10_isNoWindow_20 : decode cX10_isNoWindow 20 = .ok (.iconst 0, 1) := by decide +kernel
theorem dX10_isNoWindow_21 : decode cX10_isNoWindow 21 = .ok (.goto 4, 3) := by decide +kernel
theorem dX10_isNoWindow_24 : decode cX10_isNoWindow 24 = .ok (.iconst 1, 1) := by decide +kernel
theorem dX10_isNoWindow_25 : decode cX10_isNoWindow 25 = .ok (.invokevirtual 114, 3) := by decide +kernel
theorem dX10_isNoWindow_28 : decode cX10_isNoWindow 28 = .ok (.ireturn, 1) := by decide +kernel
theorem dX10_matched_0 : decode cX10_matched 0 = .ok (.aload_n 0, 1) := by decide +kernel
theorem dX10_matched_1 : decode cX10_matched 1 = .ok (.iload_n 1, 1) := by decide +kernel
theorem dX10_matched_2 : decode cX10_matched 2 = .ok (.iload_n 2, 1) := by decide +kernel
theorem dX10_matched_3 : decode cX10_matched 3 = .ok (.invokevirtual 184, 3) := by decide +kernel
theorem dX10_matched_6 : decode cX10_matched 6 = .ok (.ifCond .eq 7, 3) := by decide +kernel
theorem dX10_matched_9 : decode cX10_matched 9 = .ok (.iconst 0, 1) := by decide +kernel
theorem dX10_matched_10 : decode cX10_matched 10 = .ok (.goto 9, 3) := by decide +kernel
theorem dX10_matched_13 : decode cX10_matched 13 = .ok (.aload_n 0, 1) := by decide +kernel
theorem dX10_matched_14 : decode cX10_matched 14 = .ok (.iload_n 1, 1) := by decide +kernel
theorem dX10_matched_15 : decode cX10_matched 15 = .ok (.iload_n 2, 1) := by decide +kernel
theorem dX10_matched_16 : decode cX10_matched 16 = .ok (.invokevirtual 187, 3) := by decide +kernel
theorem dX10_matched_19 : decode cX10_matched 19 = .ok (.ireturn, 1) := by decide +kernel
theorem dX10_falseAlarms_0 : decode cX10_falseAlarms 0 = .ok (.aload_n 0, 1) := by decide +kernel
theorem dX10_falseAlarms_1 : decode cX10_falseAlarms 1 = .ok (.iload_n 1, 1) := by decide +kernel
theorem dX10_falseAlarms_2 : decode cX10_falseAlarms 2 = .ok (.iload_n 2, 1) := by decide +kernel
theorem dX10_falseAlarms_3 : decode cX10_falseAlarms 3 = .ok (.invokevirtual 184, 3) := by decide +kernel
theorem dX10_falseAlarms_6 : decode cX10_falseAlarms 6 = .ok (.ifCond .eq 5, 3) := by decide +kernel
theorem dX10_falseAlarms_9 : decode cX10_falseAlarms 9 = .ok (.iconst 0, 1) := by decide +kernel
theorem dX10_falseAlarms_10 : decode cX10_falseAlarms 10 = .ok (.ireturn, 1) := by decide +kernel
theorem dX10_falseAlarms_11 : decode cX10_falseAlarms 11 = .ok (.aload_n 0, 1) := by decide +kernel
theorem dX10_falseAlarms_12 : decode cX10_falseAlarms 12 = .ok (.iload_n 1, 1) := by decide +kernel
theorem dX10_falseAlarms_13 : decode cX10_falseAlarms 13 = .ok (.iload_n 2, 1) := by decide +kernel
theorem dX10_falseAlarms_14 : decode cX10_falseAlarms 14 = .ok (.invokevirtual 187, 3) := by decide +kernel
theorem dX10_falseAlarms_17 : decode cX10_falseAlarms 17 = .ok (.ineg, 1) := by decide +kernel
theorem dX10_falseAlarms_18 : decode cX10_falseAlarms 18 = .ok (.istore_n 3, 1) := by decide +kernel
theorem dX10_falseAlarms_19 : decode cX10_falseAlarms 19 = .ok (.iconst 0, 1) := by decide +kernel
theorem dX10_falseAlarms_20 : decode cX10_falseAlarms 20 = .ok (.istore 4, 2) := by decide +kernel
theorem dX10_falseAlarms_22 : decode cX10_falseAlarms 22 = .ok (.iload 4, 2) := by decide +kernel
theorem dX10_falseAlarms_24 : decode cX10_falseAlarms 24 = .ok (.aload_n 0, 1) := by decide +kernel
theorem dX10_falseAlarms_25 : decode cX10_falseAlarms 25 = .ok (.getfield 96, 3) := by decide +kernel
theorem dX10_falseAlarms_28 : decode cX10_falseAlarms 28 = .ok (.if_icmp .ge 28, 3) := by decide +kernel
theorem dX10_falseAlarms_31 : decode cX10_falseAlarms 31 = .ok (.iload_n 3, 1) := by decide +kernel
theorem dX10_falseAlarms_32 : decode cX10_falseAlarms 32 = .ok (.aload_n 0, 1) := by decide +kernel
theorem dX10_falseAlarms_33 : decode cX10_falseAlarms 33 = .ok (.getfield 36, 3) := by decide +kernel
theorem dX10_falseAlarms_36 : decode cX10_falseAlarms 36 = .ok (.iload 4, 2) := by decide +kernel
theorem dX10_falseAlarms_38 : decode cX10_falseAlarms 38 = .ok (.iaload, 1) := by decide +kernel
theorem dX10_falseAlarms_39 : decode cX10_falseAlarms 39 = .ok (.iload_n 1, 1) := by decide +kernel
theorem dX10_falseAlarms_40 : decode cX10_falseAlarms 40 = .ok (.if_icmp .ne 7, 3) := by decide +kernel
theorem dX10_falseAlarms_43 : decode cX10_falseAlarms 43 = .ok (.iconst 1, 1) := by decide +kernel
theorem dX10_falseAlarms_44 : decode cX10_falseAlarms 44 = .ok (.goto 4, 3) := by decide +kernel
theorem dX10_falseAlarms_47 : decode cX10_falseAlarms 47 = .ok (.iconst 0, 1) := by decide +kernel
theorem dX10_falseAlarms_48 : decode cX10_falseAlarms 48 = .ok (.iadd, 1) := by decide +kernel
theorem dX10_falseAlarms_49 : decode cX10_falseAlarms 49 = .ok (.istore_n 3, 1) := by decide +kernel
theorem dX10_falseAlarms_50 : decode cX10_falseAlarms 50 = .ok (.iinc 4 1, 3) := by decide +kernel
theorem dX10_falseAlarms_53 : decode cX10_falseAlarms 53 = .ok (.goto (-31), 3) := by decide +kernel
theorem dX10_falseAlarms_56 : decode cX10_falseAlarms 56 = .ok (.iload_n 3, 1) := by decide +kernel
theorem dX10_falseAlarms_57 : decode cX10_falseAlarms 57 = .ok (.ireturn, 1) := by decide +kernel
theorem dX10_averageDelay_0 : decode cX10_averageDelay 0 = .ok (.aload_n 0, 1) := by decide +kernel
theorem dX10_averageDelay_1 : decode cX10_averageDelay 1 = .ok (.iload_n 1, 1) := by decide +kernel
theorem dX10_averageDelay_2 : decode cX10_averageDelay 2 = .ok (.iload_n 2, 1) := by decide +kernel
theorem dX10_averageDelay_3 : decode cX10_averageDelay 3 = .ok (.invokevirtual 184, 3) := by decide +kernel
theorem dX10_averageDelay_6 : decode cX10_averageDelay 6 = .ok (.ifCond .eq 5, 3) := by decide +kernel
theorem dX10_averageDelay_9 : decode cX10_averageDelay 9 = .ok (.fconst 0, 1) := by decide +kernel
theorem dX10_averageDelay_10 : decode cX10_averageDelay 10 = .ok (.freturn, 1) := by decide +kernel
theorem dX10_averageDelay_11 : decode cX10_averageDelay 11 = .ok (.aload_n 0, 1) := by decide +kernel
theorem dX10_averageDelay_12 : decode cX10_averageDelay 12 = .ok (.iload_n 1, 1) := by decide +kernel
theorem dX10_averageDelay_13 : decode cX10_averageDelay 13 = .ok (.iload_n 2, 1) := by decide +kernel
theorem dX10_averageDelay_14 : decode cX10_averageDelay 14 = .ok (.invokevirtual 187, 3) := by decide +kernel
theorem dX10_averageDelay_17 : decode cX10_averageDelay 17 = .ok (.istore_n 3, 1) := by decide +kernel
theorem dX10_averageDelay_18 : decode cX10_averageDelay 18 = .ok (.aload_n 0, 1) := by decide +kernel
theorem dX10_averageDelay_19 : decode cX10_averageDelay 19 = .ok (.iload_n 3, 1) := by decide +kernel
theorem dX10_averageDelay_20 : decode cX10_averageDelay 20 = .ok (.ifCond .ne 7, 3) := by decide +kernel
theorem dX10_averageDelay_23 : decode cX10_averageDelay 23 = .ok (.iconst 2, 1) := by decide +kernel
theorem dX10_averageDelay_24 : decode cX10_averageDelay 24 = .ok (.goto 4, 3) := by decide +kernel
theorem dX10_averageDelay_27 : decode cX10_averageDelay 27 = .ok (.iconst 0, 1) := by decide +kernel
theorem dX10_averageDelay_28 : decode cX10_averageDelay 28 = .ok (.invokevirtual 114, 3) := by decide +kernel
theorem dX10_averageDelay_31 : decode cX10_averageDelay 31 = .ok (.ifCond .eq 7, 3) := by decide +kernel
theorem dX10_averageDelay_34 : decode cX10_averageDelay 34 = .ok (.fconst 0, 1) := by decide +kernel
theorem dX10_averageDelay_35 : decode cX10_averageDelay 35 = .ok (.goto 11, 3) := by decide +kernel
theorem dX10_averageDelay_38 : decode cX10_averageDelay 38 = .ok (.aload_n 0, 1) := by decide +kernel
theorem dX10_averageDelay_39 : decode cX10_averageDelay 39 = .ok (.getfield 181, 3) := by decide +kernel
theorem dX10_averageDelay_42 : decode cX10_averageDelay 42 = .ok (.i2f, 1) := by decide +kernel
theorem dX10_averageDelay_43 : decode cX10_averageDelay 43 = .ok (.iload_n 3, 1) := by decide +kernel
theorem dX10_averageDelay_44 : decode cX10_averageDelay 44 = .ok (.i2f, 1) := by decide +kernel
theorem dX10_averageDelay_45 : decode cX10_averageDelay 45 = .ok (.fdiv, 1) := by decide +kernel
theorem dX10_averageDelay_46 : decode cX10_averageDelay 46 = .ok (.freturn, 1) := by decide +kernel
theorem dJ9_floorDiv_7cf53_0 : decode cJ9_floorDiv_7cf53 0 = .ok (.iload_n 0, 1) := by decide +kernel
theorem dJ9_floorDiv_7cf53_1 : decode cJ9_floorDiv_7cf53 1 = .ok (.iload_n 1, 1) := by decide +kernel
theorem dJ9_floorDiv_7cf53_2 : decode cJ9_floorDiv_7cf53 2 = .ok (.idiv, 1) := by decide +kernel
theorem dJ9_floorDiv_7cf53_3 : decode cJ9_floorDiv_7cf53 3 = .ok (.istore_n 2, 1) := by decide +kernel
end
section
theorem dJ9_floorDiv_7cf53_4 : decode cJ9_floorDiv_7cf53 4 = .ok (.iload_n 0, 1) := by decide +kernel
theorem dJ9_floorDiv_7cf53_5 : decode cJ9_floorDiv_7cf53 5 = .ok (.iload_n 1, 1) := by decide +kernel
theorem dJ9_floorDiv_7cf53_6 : decode cJ9_floorDiv_7cf53 6 = .ok (.ixor, 1) := by decide +kernel
theorem dJ9_floorDiv_7cf53_7 : decode cJ9_floorDiv_7cf53 7 = .ok (.ifCond .ge 14, 3) := by decide +kernel
theorem dJ9_floorDiv_7cf53_10 : decode cJ9_floorDiv_7cf53 10 = .ok (.iload_n 2, 1) := by decide +kernel
theorem dJ9_floorDiv_7cf53_11 : decode cJ9_floorDiv_7cf53 11 = .ok (.iload_n 1, 1) := by decide +kernel
theorem dJ9_floorDiv_7cf53_12 : decode cJ9_floorDiv_7cf53 12 = .ok (.imul, 1) := by decide +kernel
theorem dJ9_floorDiv_7cf53_13 : decode cJ9_floorDiv_7cf53 13 = .ok (.iload_n 0, 1) := by decide +kernel
theorem dJ9_floorDiv_7cf53_14 : decode cJ9_floorDiv_7cf53 14 = .ok (.if_icmp .eq 7, 3) := by decide +kernel
theorem dJ9_floorDiv_7cf53_17 : decode cJ9_floorDiv_7cf53 17 = .ok (.iload_n 2, 1) := by decide +kernel
theorem dJ9_floorDiv_7cf53_18 : decode cJ9_floorDiv_7cf53 18 = .ok (.iconst 1, 1) := by decide +kernel
theorem dJ9_floorDiv_7cf53_19 : decode cJ9_floorDiv_7cf53 19 = .ok (.isub, 1) := by decide +kernel
theorem dJ9_floorDiv_7cf53_20 : decode cJ9_floorDiv_7cf53 20 = .ok (.ireturn, 1) := by decide +kernel
theorem dJ9_floorDiv_7cf53_21 : decode cJ9_floorDiv_7cf53 21 = .ok (.iload_n 2, 1) := by decide +kernel
theorem dJ9_floorDiv_7cf53_22 : decode cJ9_floorDiv_7cf53 22 = .ok (.ireturn, 1) := by decide +kernel
theorem dJ9_max_7cf53_0 : decode cJ9_max_7cf53 0 = .ok (.iload_n 0, 1) := by decide +kernel
theorem dJ9_max_7cf53_1 : decode cJ9_max_7cf53 1 = .ok (.iload_n 1, 1) := by decide +kernel
theorem dJ9_max_7cf53_2 : decode cJ9_max_7cf53 2 = .ok (.if_icmp .lt 7, 3) := by decide +kernel
theorem dJ9_max_7cf53_5 : decode cJ9_max_7cf53 5 = .ok (.iload_n 0, 1) := by decide +kernel
theorem dJ9_max_7cf53_6 : decode cJ9_max_7cf53 6 = .ok (.goto 4, 3) := by decide +kernel
theorem dJ9_max_7cf53_9 : decode cJ9_max_7cf53 9 = .ok (.iload_n 1, 1) := by decide +kernel
theorem dJ9_max_7cf53_10 : decode cJ9_max_7cf53 10 = .ok (.ireturn, 1) := by decide +kernel
theorem dJ9_min_7cf53_0 : decode cJ9_min_7cf53 0 = .ok (.iload_n 0, 1) := by decide +kernel
theorem dJ9_min_7cf53_1 : decode cJ9_min_7cf53 1 = .ok (.iload_n 1, 1) := by decide +kernel
theorem dJ9_min_7cf53_2 : decode cJ9_min_7cf53 2 = .ok (.if_icmp .gt 7, 3) := by decide +kernel
theorem dJ9_min_7cf53_5 : decode cJ9_min_7cf53 5 = .ok (.iload_n 0, 1) := by decide +kernel
theorem dJ9_min_7cf53_6 : decode cJ9_min_7cf53 6 = .ok (.goto 4, 3) := by decide +kernel
theorem dJ9_min_7cf53_9 : decode cJ9_min_7cf53 9 = .ok (.iload_n 1, 1) := by decide +kernel
theorem dJ9_min_7cf53_10 : decode cJ9_min_7cf53 10 = .ok (.ireturn, 1) := by decide +kernel
theorem dL_setSums_0 : decode cL_setSums 0 = .ok (.aload_n 0, 1) := by decide +kernel
theorem dL_setSums_1 : decode cL_setSums 1 = .ok (.iload_n 1, 1) := by decide +kernel
theorem dL_setSums_2 : decode cL_setSums 2 = .ok (.iload_n 2, 1) := by decide +kernel
theorem dL_setSums_3 : decode cL_setSums 3 = .ok (.iload_n 3, 1) := by decide +kernel
theorem dL_setSums_4 : decode cL_setSums 4 = .ok (.invokevirtual 7, 3) := by decide +kernel
theorem dL_setSums_7 : decode cL_setSums 7 = .ok (.goto 7, 3) := by decide +kernel
theorem dL_setSums_10 : decode cL_setSums 10 = .ok (.astore 4, 2) := by decide +kernel
theorem dL_setSums_12 : decode cL_setSums 12 = .ok (.iconst 1, 1) := by decide +kernel
theorem dL_setSums_13 : decode cL_setSums 13 = .ok (.ireturn, 1) := by decide +kernel
theorem dL_setSums_14 : decode cL_setSums 14 = .ok (.iconst 0, 1) := by decide +kernel
theorem dL_setSums_15 : decode cL_setSums 15 = .ok (.ireturn, 1) := by decide +kernel
theorem dL_setTest_0 : decode cL_setTest 0 = .ok (.aload_n 0, 1) := by decide +kernel
theorem dL_setTest_1 : decode cL_setTest 1 = .ok (.iload_n 1, 1) := by decide +kernel
theorem dL_setTest_2 : decode cL_setTest 2 = .ok (.iload_n 2, 1) := by decide +kernel
theorem dL_setTest_3 : decode cL_setTest 3 = .ok (.iload_n 3, 1) := by decide +kernel
theorem dL_setTest_4 : decode cL_setTest 4 = .ok (.invokevirtual 15, 3) := by decide +kernel
theorem dL_setTest_7 : decode cL_setTest 7 = .ok (.goto 7, 3) := by decide +kernel
theorem dL_setTest_10 : decode cL_setTest 10 = .ok (.astore 4, 2) := by decide +kernel
theorem dL_setTest_12 : decode cL_setTest 12 = .ok (.iconst 1, 1) := by decide +kernel
theorem dL_setTest_13 : decode cL_setTest 13 = .ok (.ireturn, 1) := by decide +kernel
theorem dL_setTest_14 : decode cL_setTest 14 = .ok (.iconst 0, 1) := by decide +kernel
theorem dL_setTest_15 : decode cL_setTest 15 = .ok (.ireturn, 1) := by decide +kernel
theorem dL_setPenalty_0 : decode cL_setPenalty 0 = .ok (.aload_n 2, 1) := by decide +kernel
theorem dL_setPenalty_1 : decode cL_setPenalty 1 = .ok (.iconst 0, 1) := by decide +kernel
theorem dL_setPenalty_2 : decode cL_setPenalty 2 = .ok (.aload_n 0, 1) := by decide +kernel
theorem dL_setPenalty_3 : decode cL_setPenalty 3 = .ok (.iload_n 1, 1) := by decide +kernel
theorem dL_setPenalty_4 : decode cL_setPenalty 4 = .ok (.invokevirtual 18, 3) := by decide +kernel
theorem dL_setPenalty_7 : decode cL_setPenalty 7 = .ok (.i2l, 1) := by decide +kernel
theorem dL_setPenalty_8 : decode cL_setPenalty 8 = .ok (.lastore, 1) := by decide +kernel
theorem dL_setPenalty_9 : decode cL_setPenalty 9 = .ok (.goto 6, 3) := by decide +kernel
theorem dL_setPenalty_12 : decode cL_setPenalty 12 = .ok (.astore_n 3, 1) := by decide +kernel
theorem dL_setPenalty_13 : decode cL_setPenalty 13 = .ok (.iconst 1, 1) := by decide +kernel
theorem dL_setPenalty_14 : decode cL_setPenalty 14 = .ok (.ireturn, 1) := by decide +kernel
theorem dL_setPenalty_15 : decode cL_setPenalty 15 = .ok (.iconst 0, 1) := by decide +kernel
theorem dL_setPenalty_16 : decode cL_setPenalty 16 = .ok (.ireturn, 1) := by decide +kernel
theorem dL_add_0 : decode cL_add 0 = .ok (.aload_n 2, 1) := by decide +kernel
theorem dL_add_1 : decode cL_add 1 = .ok (.iconst 0, 1) := by decide +kernel
theorem dL_add_2 : decode cL_add 2 = .ok (.aload_n 0, 1) := by decide +kernel
theorem dL_add_3 : decode cL_add 3 = .ok (.iload_n 1, 1) := by decide +kernel
theorem dL_add_4 : decode cL_add 4 = .ok (.invokevirtual 22, 3) := by decide +kernel
theorem dL_add_7 : decode cL_add 7 = .ok (.i2l, 1) := by decide +kernel
theorem dL_add_8 : decode cL_add 8 = .ok (.lastore, 1) := by decide +kernel
theorem dL_add_9 : decode cL_add 9 = .ok (.goto 9, 3) := by decide +kernel
theorem dL_add_12 : decode cL_add 12 = .ok (.astore_n 3, 1) := by decide +kernel
theorem dL_add_13 : decode cL_add 13 = .ok (.iconst 1, 1) := by decide +kernel
theorem dL_add_14 : decode cL_add 14 = .ok (.ireturn, 1) := by decide +kernel
theorem dL_add_15 : decode cL_add 15 = .ok (.astore_n 3, 1) := by decide +kernel
theorem dL_add_16 : decode cL_add 16 = .ok (.iconst 2, 1) := by decide +kernel
theorem dL_add_17 : decode cL_add 17 = .ok (.ireturn, 1) := by decide +kernel
theorem dL_add_18 : decode cL_add 18 = .ok (.iconst 0, 1) := by decide +kernel
theorem dL_add_19 : decode cL_add 19 = .ok (.ireturn, 1) := by decide +kernel
theorem dL_addRun_0 : decode cL_addRun 0 = .ok (.aload 4, 2) := by decide +kernel
theorem dL_addRun_2 : decode cL_addRun 2 = .ok (.iconst 0, 1) := by decide +kernel
theorem dL_addRun_3 : decode cL_addRun 3 = .ok (.aload_n 0, 1) := by decide +kernel
theorem dL_addRun_4 : decode cL_addRun 4 = .ok (.iload_n 1, 1) := by decide +kernel
theorem dL_addRun_5 : decode cL_addRun 5 = .ok (.iload_n 2, 1) := by decide +kernel
theorem dL_addRun_6 : decode cL_addRun 6 = .ok (.iload_n 3, 1) := by decide +kernel
theorem dL_addRun_7 : decode cL_addRun 7 = .ok (.invokevirtual 27, 3) := by decide +kernel
theorem dL_addRun_10 : decode cL_addRun 10 = .ok (.i2l, 1) := by decide +kernel
theorem dL_addRun_11 : decode cL_addRun 11 = .ok (.lastore, 1) := by decide +kernel
theorem dL_addRun_12 : decode cL_addRun 12 = .ok (.goto 11, 3) := by decide +kernel
theorem dL_addRun_15 : decode cL_addRun 15 = .ok (.astore 5, 2) := by decide +kernel
theorem dL_addRun_17 : decode cL_addRun 17 = .ok (.iconst 1, 1) := by decide +kernel
theorem dL_addRun_18 : decode cL_addRun 18 = .ok (.ireturn, 1) := by decide +kernel
theorem dL_addRun_19 : decode cL_addRun 19 = .ok (.astore 5, 2) := by decide +kernel
theorem dL_addRun_21 : decode cL_addRun 21 = .ok (.iconst 2, 1) := by decide +kernel
theorem dL_addRun_22 : decode cL_addRun 22 = .ok (.ireturn, 1) := by decide +kernel
theorem dL_addRun_23 : decode cL_addRun 23 = .ok (.iconst 0, 1) := by decide +kernel
theorem dL_addRun_24 : decode cL_addRun 24 = .ok (.ireturn, 1) := by decide +kernel
theorem dL_value_0 : decode cL_value 0 = .ok (.aload_n 2, 1) := by decide +kernel
theorem dL_value_1 : decode cL_value 1 = .ok (.iconst 0, 1) := by decide +kernel
theorem dL_value_2 : decode cL_value 2 = .ok (.aload_n 0, 1) := by decide +kernel
theorem dL_value_3 : decode cL_value 3 = .ok (.iload_n 1, 1) := by decide +kernel
theorem dL_value_4 : decode cL_value 4 = .ok (.invokevirtual 31, 3) := by decide +kernel
theorem dL_value_7 : decode cL_value 7 = .ok (.i2l, 1) := by decide +kernel
theorem dL_value_8 : decode cL_value 8 = .ok (.lastore, 1) := by decide +kernel
theorem dL_value_9 : decode cL_value 9 = .ok (.goto 6, 3) := by decide +kernel
theorem dL_value_12 : decode cL_value 12 = .ok (.astore_n 3, 1) := by decide +kernel
theorem dL_value_13 : decode cL_value 13 = .ok (.iconst 1, 1) := by decide +kernel
theorem dL_value_14 : decode cL_value 14 = .ok (.ireturn, 1) := by decide +kernel
theorem dL_value_15 : decode cL_value 15 = .ok (.iconst 0, 1) := by decide +kernel
theorem dL_value_16 : decode cL_value 16 = .ok (.ireturn, 1) := by decide +kernel
theorem dL_alarmKind_0 : decode cL_alarmKind 0 = .ok (.aload_n 2, 1) := by decide +kernel
theorem dL_alarmKind_1 : decode cL_alarmKind 1 = .ok (.iconst 0, 1) := by decide +kernel
theorem dL_alarmKind_2 : decode cL_alarmKind 2 = .ok (.aload_n 0, 1) := by decide +kernel
theorem dL_alarmKind_3 : decode cL_alarmKind 3 = .ok (.iload_n 1, 1) := by decide +kernel
theorem dL_alarmKind_4 : decode cL_alarmKind 4 = .ok (.invokevirtual 36, 3) := by decide +kernel
theorem dL_alarmKind_7 : decode cL_alarmKind 7 = .ok (.i2l, 1) := by decide +kernel
theorem dL_alarmKind_8 : decode cL_alarmKind 8 = .ok (.lastore, 1) := by decide +kernel
theorem dL_alarmKind_9 : decode cL_alarmKind 9 = .ok (.goto 6, 3) := by decide +kernel
theorem dL_alarmKind_12 : decode cL_alarmKind 12 = .ok (.astore_n 3, 1) := by decide +kernel
theorem dL_alarmKind_13 : decode cL_alarmKind 13 = .ok (.iconst 1, 1) := by decide +kernel
theorem dL_alarmKind_14 : decode cL_alarmKind 14 = .ok (.ireturn, 1) := by decide +kernel
theorem dL_alarmKind_15 : decode cL_alarmKind 15 = .ok (.iconst 0, 1) := by decide +kernel
theorem dL_alarmKind_16 : decode cL_alarmKind 16 = .ok (.ireturn, 1) := by decide +kernel
theorem dL_alarmNumber_0 : decode cL_alarmNumber 0 = .ok (.aload_n 2, 1) := by decide +kernel
theorem dL_alarmNumber_1 : decode cL_alarmNumber 1 = .ok (.iconst 0, 1) := by decide +kernel
theorem dL_alarmNumber_2 : decode cL_alarmNumber 2 = .ok (.aload_n 0, 1) := by decide +kernel
theorem dL_alarmNumber_3 : decode cL_alarmNumber 3 = .ok (.iload_n 1, 1) := by decide +kernel
theorem dL_alarmNumber_4 : decode cL_alarmNumber 4 = .ok (.invokevirtual 39, 3) := by decide +kernel
theorem dL_alarmNumber_7 : decode cL_alarmNumber 7 = .ok (.i2l, 1) := by decide +kernel
theorem dL_alarmNumber_8 : decode cL_alarmNumber 8 = .ok (.lastore, 1) := by decide +kernel
theorem dL_alarmNumber_9 : decode cL_alarmNumber 9 = .ok (.goto 6, 3) := by decide +kernel
theorem dL_alarmNumber_12 : decode cL_alarmNumber 12 = .ok (.astore_n 3, 1) := by decide +kernel
theorem dL_alarmNumber_13 : decode cL_alarmNumber 13 = .ok (.iconst 1, 1) := by decide +kernel
theorem dL_alarmNumber_14 : decode cL_alarmNumber 14 = .ok (.ireturn, 1) := by decide +kernel
theorem dL_alarmNumber_15 : decode cL_alarmNumber 15 = .ok (.iconst 0, 1) := by decide +kernel
theorem dL_alarmNumber_16 : decode cL_alarmNumber 16 = .ok (.ireturn, 1) := by decide +kernel
theorem dL_alarmStart_0 : decode cL_alarmStart 0 = .ok (.aload_n 2, 1) := by decide +kernel
theorem dL_alarmStart_1 : decode cL_alarmStart 1 = .ok (.iconst 0, 1) := by decide +kernel
theorem dL_alarmStart_2 : decode cL_alarmStart 2 = .ok (.aload_n 0, 1) := by decide +kernel
theorem dL_alarmStart_3 : decode cL_alarmStart 3 = .ok (.iload_n 1, 1) := by decide +kernel
theorem dL_alarmStart_4 : decode cL_alarmStart 4 = .ok (.invokevirtual 42, 3) := by decide +kernel
theorem dL_alarmStart_7 : decode cL_alarmStart 7 = .ok (.i2l, 1) := by decide +kernel
theorem dL_alarmStart_8 : decode cL_alarmStart 8 = .ok (.lastore, 1) := by decide +kernel
theorem dL_alarmStart_9 : decode cL_alarmStart 9 = .ok (.goto 6, 3) := by decide +kernel
theorem dL_alarmStart_12 : decode cL_alarmStart 12 = .ok (.astore_n 3, 1) := by decide +kernel
theorem dL_alarmStart_13 : decode cL_alarmStart 13 = .ok (.iconst 1, 1) := by decide +kernel
theorem dL_alarmStart_14 : decode cL_alarmStart 14 = .ok (.ireturn, 1) := by decide +kernel
theorem dL_alarmStart_15 : decode cL_alarmStart 15 = .ok (.iconst 0, 1) := by decide +kernel
theorem dL_alarmStart_16 : decode cL_alarmStart 16 = .ok (.ireturn, 1) := by decide +kernel
theorem dL_cost_0 : decode cL_cost 0 = .ok (.aload_n 3, 1) := by decide +kernel
theorem dL_cost_1 : decode cL_cost 1 = .ok (.iconst 0, 1) := by decide +kernel
theorem dL_cost_2 : decode cL_cost 2 = .ok (.aload_n 0, 1) := by decide +kernel
theorem dL_cost_3 : decode cL_cost 3 = .ok (.iload_n 1, 1) := by decide +kernel
theorem dL_cost_4 : decode cL_cost 4 = .ok (.iload_n 2, 1) := by decide +kernel
theorem dL_cost_5 : decode cL_cost 5 = .ok (.invokevirtual 45, 3) := by decide +kernel
theorem dL_cost_8 : decode cL_cost 8 = .ok (.i2l, 1) := by decide +kernel
theorem dL_cost_9 : decode cL_cost 9 = .ok (.lastore, 1) := by decide +kernel
theorem dL_cost_10 : decode cL_cost 10 = .ok (.goto 7, 3) := by decide +kernel
theorem dL_cost_13 : decode cL_cost 13 = .ok (.astore 4, 2) := by decide +kernel
theorem dL_cost_15 : decode cL_cost 15 = .ok (.iconst 1, 1) := by decide +kernel
theorem dL_cost_16 : decode cL_cost 16 = .ok (.ireturn, 1) := by decide +kernel
theorem dL_cost_17 : decode cL_cost 17 = .ok (.iconst 0, 1) := by decide +kernel
theorem dL_cost_18 : decode cL_cost 18 = .ok (.ireturn, 1) := by decide +kernel
theorem dL_middle_0 : decode cL_middle 0 = .ok (.aload_n 3, 1) := by decide +kernel
theorem dL_middle_1 : decode cL_middle 1 = .ok (.iconst 0, 1) := by decide +kernel
theorem dL_middle_2 : decode cL_middle 2 = .ok (.aload_n 0, 1) := by decide +kernel
theorem dL_middle_3 : decode cL_middle 3 = .ok (.iload_n 1, 1) := by decide +kernel
theorem dL_middle_4 : decode cL_middle 4 = .ok (.iload_n 2, 1) := by decide +kernel
theorem dL_middle_5 : decode cL_middle 5 = .ok (.invokevirtual 49, 3) := by decide +kernel
theorem dL_middle_8 : decode cL_middle 8 = .ok (.i2l, 1) := by decide +kernel
theorem dL_middle_9 : decode cL_middle 9 = .ok (.lastore, 1) := by decide +kernel
theorem dL_middle_10 : decode cL_middle 10 = .ok (.goto 7, 3) := by decide +kernel
theorem dL_middle_13 : decode cL_middle 13 = .ok (.astore 4, 2) := by decide +kernel
theorem dL_middle_15 : decode cL_middle 15 = .ok (.iconst 1, 1) := by decide +kernel
theorem dL_middle_16 : decode cL_middle 16 = .ok (.ireturn, 1) := by decide +kernel
theorem dL_middle_17 : decode cL_middle 17 = .ok (.iconst 0, 1) := by decide +kernel
theorem dL_middle_18 : decode cL_middle 18 = .ok (.ireturn, 1) := by decide +kernel
theorem dL_change_0 : decode cL_change 0 = .ok (.aload_n 2, 1) := by decide +kernel
theorem dL_change_1 : decode cL_change 1 = .ok (.iconst 0, 1) := by decide +kernel
theorem dL_change_2 : decode cL_change 2 = .ok (.aload_n 0, 1) := by decide +kernel
theorem dL_change_3 : decode cL_change 3 = .ok (.iload_n 1, 1) := by decide +kernel
theorem dL_change_4 : decode cL_change 4 = .ok (.invokevirtual 52, 3) := by decide +kernel
theorem dL_change_7 : decode cL_change 7 = .ok (.i2l, 1) := by decide +kernel
theorem dL_change_8 : decode cL_change 8 = .ok (.lastore, 1) := by decide +kernel
theorem dL_change_9 : decode cL_change 9 = .ok (.goto 6, 3) := by decide +kernel
theorem dL_change_12 : decode cL_change 12 = .ok (.astore_n 3, 1) := by decide +kernel
theorem dL_change_13 : decode cL_change 13 = .ok (.iconst 1, 1) := by decide +kernel
theorem dL_change_14 : decode cL_change 14 = .ok (.ireturn, 1) := by decide +kernel
theorem dL_change_15 : decode cL_change 15 = .ok (.iconst 0, 1) := by decide +kernel
theorem dL_change_16 : decode cL_change 16 = .ok (.ireturn, 1) := by decide +kernel
theorem dL_leastCost_0 : decode cL_leastCost 0 = .ok (.aload_n 2, 1) := by decide +kernel
theorem dL_leastCost_1 : decode cL_leastCost 1 = .ok (.iconst 0, 1) := by decide +kernel
theorem dL_leastCost_2 : decode cL_leastCost 2 = .ok (.aload_n 0, 1) := by decide +kernel
theorem dL_leastCost_3 : decode cL_leastCost 3 = .ok (.iload_n 1, 1) := by decide +kernel
theorem dL_leastCost_4 : decode cL_leastCost 4 = .ok (.invokevirtual 55, 3) := by decide +kernel
theorem dL_leastCost_7 : decode cL_leastCost 7 = .ok (.i2l, 1) := by decide +kernel
theorem dL_leastCost_8 : decode cL_leastCost 8 = .ok (.lastore, 1) := by decide +kernel
theorem dL_leastCost_9 : decode cL_leastCost 9 = .ok (.goto 9, 3) := by decide +kernel
theorem dL_leastCost_12 : decode cL_leastCost 12 = .ok (.astore_n 3, 1) := by decide +kernel
theorem dL_leastCost_13 : decode cL_leastCost 13 = .ok (.iconst 1, 1) := by decide +kernel
theorem dL_leastCost_14 : decode cL_leastCost 14 = .ok (.ireturn, 1) := by decide +kernel
theorem dL_leastCost_15 : decode cL_leastCost 15 = .ok (.astore_n 3, 1) := by decide +kernel
theorem dL_leastCost_16 : decode cL_leastCost 16 = .ok (.iconst 2, 1) := by decide +kernel
theorem dL_leastCost_17 : decode cL_leastCost 17 = .ok (.ireturn, 1) := by decide +kernel
theorem dL_leastCost_18 : decode cL_leastCost 18 = .ok (.iconst 0, 1) := by decide +kernel
theorem dL_leastCost_19 : decode cL_leastCost 19 = .ok (.ireturn, 1) := by decide +kernel
theorem dL_greedyChange_0 : decode cL_greedyChange 0 = .ok (.aload_n 2, 1) := by decide +kernel
theorem dL_greedyChange_1 : decode cL_greedyChange 1 = .ok (.iconst 0, 1) := by decide +kernel
theorem dL_greedyChange_2 : decode cL_greedyChange 2 = .ok (.aload_n 0, 1) := by decide +kernel
theorem dL_greedyChange_3 : decode cL_greedyChange 3 = .ok (.iload_n 1, 1) := by decide +kernel
theorem dL_greedyChange_4 : decode cL_greedyChange 4 = .ok (.invokevirtual 58, 3) := by decide +kernel
theorem dL_greedyChange_7 : decode cL_greedyChange 7 = .ok (.i2l, 1) := by decide +kernel
theorem dL_greedyChange_8 : decode cL_greedyChange 8 = .ok (.lastore, 1) := by decide +kernel
theorem dL_greedyChange_9 : decode cL_greedyChange 9 = .ok (.goto 6, 3) := by decide +kernel
theorem dL_greedyChange_12 : decode cL_greedyChange 12 = .ok (.astore_n 3, 1) := by decide +kernel
theorem dL_greedyChange_13 : decode cL_greedyChange 13 = .ok (.iconst 1, 1) := by decide +kernel
theorem dL_greedyChange_14 : decode cL_greedyChange 14 = .ok (.ireturn, 1) := by decide +kernel
theorem dL_greedyChange_15 : decode cL_greedyChange 15 = .ok (.iconst 0, 1) := by decide +kernel
theorem dL_greedyChange_16 : decode cL_greedyChange 16 = .ok (.ireturn, 1) := by decide +kernel
theorem dL_toggleTruth_0 : decode cL_toggleTruth 0 = .ok (.aload_n 2, 1) := by decide +kernel
theorem dL_toggleTruth_1 : decode cL_toggleTruth 1 = .ok (.iconst 0, 1) := by decide +kernel
theorem dL_toggleTruth_2 : decode cL_toggleTruth 2 = .ok (.aload_n 0, 1) := by decide +kernel
theorem dL_toggleTruth_3 : decode cL_toggleTruth 3 = .ok (.iload_n 1, 1) := by decide +kernel
theorem dL_toggleTruth_4 : decode cL_toggleTruth 4 = .ok (.invokevirtual 61, 3) := by decide +kernel
theorem dL_toggleTruth_7 : decode cL_toggleTruth 7 = .ok (.ifCond .eq 7, 3) := by decide +kernel
theorem dL_toggleTruth_10 : decode cL_toggleTruth 10 = .ok (.lconst 1, 1) := by decide +kernel
theorem dL_toggleTruth_11 : decode cL_toggleTruth 11 = .ok (.goto 4, 3) := by decide +kernel
theorem dL_toggleTruth_14 : decode cL_toggleTruth 14 = .ok (.lconst 0, 1) := by decide +kernel
theorem dL_toggleTruth_15 : decode cL_toggleTruth 15 = .ok (.lastore, 1) := by decide +kernel
theorem dL_toggleTruth_16 : decode cL_toggleTruth 16 = .ok (.goto 6, 3) := by decide +kernel
theorem dL_toggleTruth_19 : decode cL_toggleTruth 19 = .ok (.astore_n 3, 1) := by decide +kernel
theorem dL_toggleTruth_20 : decode cL_toggleTruth 20 = .ok (.iconst 1, 1) := by decide +kernel
theorem dL_toggleTruth_21 : decode cL_toggleTruth 21 = .ok (.ireturn, 1) := by decide +kernel
theorem dL_toggleTruth_22 : decode cL_toggleTruth 22 = .ok (.iconst 0, 1) := by decide +kernel
theorem dL_toggleTruth_23 : decode cL_toggleTruth 23 = .ok (.ireturn, 1) := by decide +kernel
theorem dL_matched_0 : decode cL_matched 0 = .ok (.aload_n 3, 1) := by decide +kernel
theorem dL_matched_1 : decode cL_matched 1 = .ok (.iconst 0, 1) := by decide +kernel
theorem dL_matched_2 : decode cL_matched 2 = .ok (.aload_n 0, 1) := by decide +kernel
theorem dL_matched_3 : decode cL_matched 3 = .ok (.iload_n 1, 1) := by decide +kernel
theorem dL_matched_4 : decode cL_matched 4 = .ok (.iload_n 2, 1) := by decide +kernel
theorem dL_matched_5 : decode cL_matched 5 = .ok (.invokevirtual 65, 3) := by decide +kernel
theorem dL_matched_8 : decode cL_matched 8 = .ok (.i2l, 1) := by decide +kernel
theorem dL_matched_9 : decode cL_matched 9 = .ok (.lastore, 1) := by decide +kernel
theorem dL_matched_10 : decode cL_matched 10 = .ok (.goto 7, 3) := by decide +kernel
theorem dL_matched_13 : decode cL_matched 13 = .ok (.astore 4, 2) := by decide +kernel
theorem dL_matched_15 : decode cL_matched 15 = .ok (.iconst 1, 1) := by decide +kernel
theorem dL_matched_16 : decode cL_matched 16 = .ok (.ireturn, 1) := by decide +kernel
theorem dL_matched_17 : decode cL_matched 17 = .ok (.iconst 0, 1) := by decide +kernel
theorem dL_matched_18 : decode cL_matched 18 = .ok (.ireturn, 1) := by decide +kernel
theorem dL_falseAlarms_0 : decode cL_falseAlarms 0 = .ok (.aload_n 3, 1) := by decide +kernel
theorem dL_falseAlarms_1 : decode cL_falseAlarms 1 = .ok (.iconst 0, 1) := by decide +kernel
theorem dL_falseAlarms_2 : decode cL_falseAlarms 2 = .ok (.aload_n 0, 1) := by decide +kernel
theorem dL_falseAlarms_3 : decode cL_falseAlarms 3 = .ok (.iload_n 1, 1) := by decide +kernel
theorem dL_falseAlarms_4 : decode cL_falseAlarms 4 = .ok (.iload_n 2, 1) := by decide +kernel
theorem dL_falseAlarms_5 : decode cL_falseAlarms 5 = .ok (.invokevirtual 68, 3) := by decide +kernel
theorem dL_falseAlarms_8 : decode cL_falseAlarms 8 = .ok (.i2l, 1) := by decide +kernel
theorem dL_falseAlarms_9 : decode cL_falseAlarms 9 = .ok (.lastore, 1) := by decide +kernel
theorem dL_falseAlarms_10 : decode cL_falseAlarms 10 = .ok (.goto 7, 3) := by decide +kernel
theorem dL_falseAlarms_13 : decode cL_falseAlarms 13 = .ok (.astore 4, 2) := by decide +kernel
theorem dL_falseAlarms_15 : decode cL_falseAlarms 15 = .ok (.iconst 1, 1) := by decide +kernel
theorem dL_falseAlarms_16 : decode cL_falseAlarms 16 = .ok (.ireturn, 1) := by decide +kernel
theorem dL_falseAlarms_17 : decode cL_falseAlarms 17 = .ok (.iconst 0, 1) := by decide +kernel
theorem dL_falseAlarms_18 : decode cL_falseAlarms 18 = .ok (.ireturn, 1) := by decide +kernel
theorem dL_averageDelay_0 : decode cL_averageDelay 0 = .ok (.aload_n 3, 1) := by decide +kernel
theorem dL_averageDelay_1 : decode cL_averageDelay 1 = .ok (.iconst 0, 1) := by decide +kernel
theorem dL_averageDelay_2 : decode cL_averageDelay 2 = .ok (.aload_n 0, 1) := by decide +kernel
theorem dL_averageDelay_3 : decode cL_averageDelay 3 = .ok (.iload_n 1, 1) := by decide +kernel
theorem dL_averageDelay_4 : decode cL_averageDelay 4 = .ok (.iload_n 2, 1) := by decide +kernel
theorem dL_averageDelay_5 : decode cL_averageDelay 5 = .ok (.invokevirtual 71, 3) := by decide +kernel
theorem dL_averageDelay_8 : decode cL_averageDelay 8 = .ok (.f2d, 1) := by decide +kernel
theorem dL_averageDelay_9 : decode cL_averageDelay 9 = .ok (.dastore, 1) := by decide +kernel
theorem dL_averageDelay_10 : decode cL_averageDelay 10 = .ok (.goto 11, 3) := by decide +kernel
theorem dL_averageDelay_13 : decode cL_averageDelay 13 = .ok (.astore 4, 2) := by decide +kernel
theorem dL_averageDelay_15 : decode cL_averageDelay 15 = .ok (.iconst 1, 1) := by decide +kernel
theorem dL_averageDelay_16 : decode cL_averageDelay 16 = .ok (.ireturn, 1) := by decide +kernel
theorem dL_averageDelay_17 : decode cL_averageDelay 17 = .ok (.astore 4, 2) := by decide +kernel
theorem dL_averageDelay_19 : decode cL_averageDelay 19 = .ok (.iconst 2, 1) := by decide +kernel
theorem dL_averageDelay_20 : decode cL_averageDelay 20 = .ok (.ireturn, 1) := by decide +kernel
theorem dL_averageDelay_21 : decode cL_averageDelay 21 = .ok (.iconst 0, 1) := by decide +kernel
theorem dL_averageDelay_22 : decode cL_averageDelay 22 = .ok (.ireturn, 1) := by decide +kernel
theorem dL_law_0 : decode cL_law 0 = .ok (.new 8, 3) := by decide +kernel
theorem dL_law_3 : decode cL_law 3 = .ok (.dup, 1) := by decide +kernel
theorem dL_law_4 : decode cL_law 4 = .ok (.invokespecial 75, 3) := by decide +kernel
theorem dL_law_7 : decode cL_law 7 = .ok (.astore_n 1, 1) := by decide +kernel
theorem dL_law_8 : decode cL_law 8 = .ok (.new 76, 3) := by decide +kernel
theorem dL_law_11 : decode cL_law 11 = .ok (.dup, 1) := by decide +kernel
theorem dL_law_12 : decode cL_law 12 = .ok (.invokespecial 78, 3) := by decide +kernel
theorem dL_law_15 : decode cL_law 15 = .ok (.astore_n 2, 1) := by decide +kernel
theorem dL_law_16 : decode cL_law 16 = .ok (.iconst 1, 1) := by decide +kernel
theorem dL_law_17 : decode cL_law 17 = .ok (.newarray .long, 2) := by decide +kernel
theorem dL_law_19 : decode cL_law 19 = .ok (.astore_n 3, 1) := by decide +kernel
theorem dL_law_20 : decode cL_law 20 = .ok (.iconst 1, 1) := by decide +kernel
theorem dL_law_21 : decode cL_law 21 = .ok (.newarray .double, 2) := by decide +kernel
theorem dL_law_23 : decode cL_law 23 = .ok (.astore 4, 2) := by decide +kernel
theorem dL_law_25 : decode cL_law 25 = .ok (.iconst 0, 1) := by decide +kernel
theorem dL_law_26 : decode cL_law 26 = .ok (.istore 5, 2) := by decide +kernel
theorem dL_law_28 : decode cL_law 28 = .ok (.iload 5, 2) := by decide +kernel
theorem dL_law_30 : decode cL_law 30 = .ok (.aload_n 0, 1) := by decide +kernel
theorem dL_law_31 : decode cL_law 31 = .ok (.arraylength, 1) := by decide +kernel
theorem dL_law_32 : decode cL_law 32 = .ok (.iconst 4, 1) := by decide +kernel
theorem dL_law_33 : decode cL_law 33 = .ok (.isub, 1) := by decide +kernel
theorem dL_law_34 : decode cL_law 34 = .ok (.if_icmp .gt 1403, 3) := by decide +kernel
theorem dL_law_37 : decode cL_law 37 = .ok (.aload_n 0, 1) := by decide +kernel
theorem dL_law_38 : decode cL_law 38 = .ok (.iload 5, 2) := by decide +kernel
theorem dL_law_40 : decode cL_law 40 = .ok (.iaload, 1) := by decide +kernel
theorem dL_law_41 : decode cL_law 41 = .ok (.bipush 31, 2) := by decide +kernel
theorem dL_law_43 : decode cL_law 43 = .ok (.iand, 1) := by decide +kernel
theorem dL_law_44 : decode cL_law 44 = .ok (.tableswitch 1387 0 27 #[128, 141, 201, 261, 317, 373, 453, 466, 522, 535, 548, 561, 574, 630, 686, 742, 810, 878, 891, 947, 960, 1016, 1029, 1085, 1098, 1161, 1229, 1297], 128) := by decide +kernel
theorem dL_law_172 : decode cL_law 172 = .ok (.aload_n 1, 1) := by decide +kernel
theorem dL_law_173 : decode cL_law 173 = .ok (.invokevirtual 79, 3) := by decide +kernel
theorem dL_law_176 : decode cL_law 176 = .ok (.aload_n 2, 1) := by decide +kernel
theorem dL_law_177 : decode cL_law 177 = .ok (.invokevirtual 83, 3) := by decide +kernel
theorem dL_law_180 : decode cL_law 180 = .ok (.if_icmp .eq 1251, 3) := by decide +kernel
theorem dL_law_183 : decode cL_law 183 = .ok (.iconst 0, 1) := by decide +kernel
theorem dL_law_184 : decode cL_law 184 = .ok (.ireturn, 1) := by decide +kernel
theorem dL_law_185 : decode cL_law 185 = .ok (.aload_n 1, 1) := by decide +kernel
theorem dL_law_186 : decode cL_law 186 = .ok (.aload_n 0, 1) := by decide +kernel
theorem dL_law_187 : decode cL_law 187 = .ok (.iload 5, 2) := by decide +kernel
theorem dL_law_189 : decode cL_law 189 = .ok (.iconst 1, 1) := by decide +kernel
theorem dL_law_190 : decode cL_law 190 = .ok (.iadd, 1) := by decide +kernel
theorem dL_law_191 : decode cL_law 191 = .ok (.iaload, 1) := by decide +kernel
theorem dL_law_192 : decode cL_law 192 = .ok (.aload_n 0, 1) := by decide +kernel
theorem dL_law_193 : decode cL_law 193 = .ok (.iload 5, 2) := by decide +kernel
theorem dL_law_195 : decode cL_law 195 = .ok (.iconst 2, 1) := by decide +kernel
theorem dL_law_196 : decode cL_law 196 = .ok (.iadd, 1) := by decide +kernel
theorem dL_law_197 : decode cL_law 197 = .ok (.iaload, 1) := by decide +kernel
theorem dL_law_198 : decode cL_law 198 = .ok (.aload_n 0, 1) := by decide +kernel
theorem dL_law_199 : decode cL_law 199 = .ok (.iload 5, 2) := by decide +kernel
theorem dL_law_201 : decode cL_law 201 = .ok (.iconst 3, 1) := by decide +kernel
theorem dL_law_202 : decode cL_law 202 = .ok (.iadd, 1) := by decide +kernel
theorem dL_law_203 : decode cL_law 203 = .ok (.iaload, 1) := by decide +kernel
theorem dL_law_204 : decode cL_law 204 = .ok (.invokestatic 84, 3) := by decide +kernel
theorem dL_law_207 : decode cL_law 207 = .ok (.istore 6, 2) := by decide +kernel
theorem dL_law_209 : decode cL_law 209 = .ok (.aload_n 2, 1) := by decide +kernel
theorem dL_law_210 : decode cL_law 210 = .ok (.aload_n 0, 1) := by decide +kernel
theorem dL_law_211 : decode cL_law 211 = .ok (.iload 5, 2) := by decide +kernel
theorem dL_law_213 : decode cL_law 213 = .ok (.iconst 1, 1) := by decide +kernel
theorem dL_law_214 : decode cL_law 214 = .ok (.iadd, 1) := by decide +kernel
theorem dL_law_215 : decode cL_law 215 = .ok (.iaload, 1) := by decide +kernel
theorem dL_law_216 : decode cL_law 216 = .ok (.aload_n 0, 1) := by decide +kernel
theorem dL_law_217 : decode cL_law 217 = .ok (.iload 5, 2) := by decide +kernel
theorem dL_law_219 : decode cL_law 219 = .ok (.iconst 2, 1) := by decide +kernel
theorem dL_law_220 : decode cL_law 220 = .ok (.iadd, 1) := by decide +kernel
theorem dL_law_221 : decode cL_law 221 = .ok (.iaload, 1) := by decide +kernel
theorem dL_law_222 : decode cL_law 222 = .ok (.aload_n 0, 1) := by decide +kernel
theorem dL_law_223 : decode cL_law 223 = .ok (.iload 5, 2) := by decide +kernel
theorem dL_law_225 : decode cL_law 225 = .ok (.iconst 3, 1) := by decide +kernel
theorem dL_law_226 : decode cL_law 226 = .ok (.iadd, 1) := by decide +kernel
theorem dL_law_227 : decode cL_law 227 = .ok (.iaload, 1) := by decide +kernel
theorem dL_law_228 : decode cL_law 228 = .ok (.invokevirtual 89, 3) := by decide +kernel
theorem dL_law_231 : decode cL_law 231 = .ok (.aload_n 2, 1) := by decide +kernel
theorem dL_law_232 : decode cL_law 232 = .ok (.invokevirtual 90, 3) := by decide +kernel
theorem dL_law_235 : decode cL_law 235 = .ok (.iload 6, 2) := by decide +kernel
theorem dL_law_237 : decode cL_law 237 = .ok (.if_icmp .eq 5, 3) := by decide +kernel
theorem dL_law_240 : decode cL_law 240 = .ok (.iconst 0, 1) := by decide +kernel
theorem dL_law_241 : decode cL_law 241 = .ok (.ireturn, 1) := by decide +kernel
theorem dL_law_242 : decode cL_law 242 = .ok (.goto 1189, 3) := by decide +kernel
theorem dL_law_245 : decode cL_law 245 = .ok (.aload_n 1, 1) := by decide +kernel
theorem dL_law_246 : decode cL_law 246 = .ok (.aload_n 0, 1) := by decide +kernel
theorem dL_law_247 : decode cL_law 247 = .ok (.iload 5, 2) := by decide +kernel
theorem dL_law_249 : decode cL_law 249 = .ok (.iconst 1, 1) := by decide +kernel
theorem dL_law_250 : decode cL_law 250 = .ok (.iadd, 1) := by decide +kernel
theorem dL_law_251 : decode cL_law 251 = .ok (.iaload, 1) := by decide +kernel
theorem dL_law_252 : decode cL_law 252 = .ok (.aload_n 0, 1) := by decide +kernel
theorem dL_law_253 : decode cL_law 253 = .ok (.iload 5, 2) := by decide +kernel
theorem dL_law_255 : decode cL_law 255 = .ok (.iconst 2, 1) := by decide +kernel
theorem dL_law_256 : decode cL_law 256 = .ok (.iadd, 1) := by decide +kernel
theorem dL_law_257 : decode cL_law 257 = .ok (.iaload, 1) := by decide +kernel
theorem dL_law_258 : decode cL_law 258 = .ok (.aload_n 0, 1) := by decide +kernel
theorem dL_law_259 : decode cL_law 259 = .ok (.iload 5, 2) := by decide +kernel
theorem dL_law_261 : decode cL_law 261 = .ok (.iconst 3, 1) := by decide +kernel
theorem dL_law_262 : decode cL_law 262 = .ok (.iadd, 1) := by decide +kernel
theorem dL_law_263 : decode cL_law 263 = .ok (.iaload, 1) := by decide +kernel
theorem dL_law_264 : decode cL_law 264 = .ok (.invokestatic 93, 3) := by decide +kernel
theorem dL_law_267 : decode cL_law 267 = .ok (.istore 6, 2) := by decide +kernel
theorem dL_law_269 : decode cL_law 269 = .ok (.aload_n 2, 1) := by decide +kernel
theorem dL_law_270 : decode cL_law 270 = .ok (.aload_n 0, 1) := by decide +kernel
theorem dL_law_271 : decode cL_law 271 = .ok (.iload 5, 2) := by decide +kernel
theorem dL_law_273 : decode cL_law 273 = .ok (.iconst 1, 1) := by decide +kernel
theorem dL_law_274 : decode cL_law 274 = .ok (.iadd, 1) := by decide +kernel
theorem dL_law_275 : decode cL_law 275 = .ok (.iaload, 1) := by decide +kernel
theorem dL_law_276 : decode cL_law 276 = .ok (.aload_n 0, 1) := by decide +kernel
theorem dL_law_277 : decode cL_law 277 = .ok (.iload 5, 2) := by decide +kernel
theorem dL_law_279 : decode cL_law 279 = .ok (.iconst 2, 1) := by decide +kernel
theorem dL_law_280 : decode cL_law 280 = .ok (.iadd, 1) := by decide +kernel
theorem dL_law_281 : decode cL_law 281 = .ok (.iaload, 1) := by decide +kernel
theorem dL_law_282 : decode cL_law 282 = .ok (.aload_n 0, 1) := by decide +kernel
theorem dL_law_283 : decode cL_law 283 = .ok (.iload 5, 2) := by decide +kernel
theorem dL_law_285 : decode cL_law 285 = .ok (.iconst 3, 1) := by decide +kernel
theorem dL_law_286 : decode cL_law 286 = .ok (.iadd, 1) := by decide +kernel
theorem dL_law_287 : decode cL_law 287 = .ok (.iaload, 1) := by decide +kernel
theorem dL_law_288 : decode cL_law 288 = .ok (.invokevirtual 95, 3) := by decide +kernel
theorem dL_law_291 : decode cL_law 291 = .ok (.aload_n 2, 1) := by decide +kernel
theorem dL_law_292 : decode cL_law 292 = .ok (.invokevirtual 90, 3) := by decide +kernel
theorem dL_law_295 : decode cL_law 295 = .ok (.iload 6, 2) := by decide +kernel
theorem dL_law_297 : decode cL_law 297 = .ok (.if_icmp .eq 5, 3) := by decide +kernel
theorem dL_law_300 : decode cL_law 300 = .ok (.iconst 0, 1) := by decide +kernel
theorem dL_law_301 : decode cL_law 301 = .ok (.ireturn, 1) := by decide +kernel
theorem dL_law_302 : decode cL_law 302 = .ok (.goto 1129, 3) := by decide +kernel
theorem dL_law_305 : decode cL_law 305 = .ok (.aload_n 1, 1) := by decide +kernel
theorem dL_law_306 : decode cL_law 306 = .ok (.aload_n 0, 1) := by decide +kernel
theorem dL_law_307 : decode cL_law 307 = .ok (.iload 5, 2) := by decide +kernel
theorem dL_law_309 : decode cL_law 309 = .ok (.iconst 1, 1) := by decide +kernel
theorem dL_law_310 : decode cL_law 310 = .ok (.iadd, 1) := by decide +kernel
theorem dL_law_311 : decode cL_law 311 = .ok (.iaload, 1) := by decide +kernel
theorem dL_law_312 : decode cL_law 312 = .ok (.aload_n 3, 1) := by decide +kernel
theorem dL_law_313 : decode cL_law 313 = .ok (.invokestatic 96, 3) := by decide +kernel
theorem dL_law_316 : decode cL_law 316 = .ok (.istore 6, 2) := by decide +kernel
theorem dL_law_318 : decode cL_law 318 = .ok (.aload_n 2, 1) := by decide +kernel
theorem dL_law_319 : decode cL_law 319 = .ok (.aload_n 0, 1) := by decide +kernel
theorem dL_law_320 : decode cL_law 320 = .ok (.iload 5, 2) := by decide +kernel
theorem dL_law_322 : decode cL_law 322 = .ok (.iconst 1, 1) := by decide +kernel
theorem dL_law_323 : decode cL_law 323 = .ok (.iadd, 1) := by decide +kernel
theorem dL_law_324 : decode cL_law 324 = .ok (.iaload, 1) := by decide +kernel
theorem dL_law_325 : decode cL_law 325 = .ok (.invokevirtual 99, 3) := by decide +kernel
theorem dL_law_328 : decode cL_law 328 = .ok (.istore 7, 2) := by decide +kernel
theorem dL_law_330 : decode cL_law 330 = .ok (.aload_n 2, 1) := by decide +kernel
theorem dL_law_331 : decode cL_law 331 = .ok (.invokevirtual 90, 3) := by decide +kernel
theorem dL_law_334 : decode cL_law 334 = .ok (.iload 6, 2) := by decide +kernel
theorem dL_law_336 : decode cL_law 336 = .ok (.if_icmp .eq 5, 3) := by decide +kernel
theorem dL_law_339 : decode cL_law 339 = .ok (.iconst 0, 1) := by decide +kernel
theorem dL_law_340 : decode cL_law 340 = .ok (.ireturn, 1) := by decide +kernel
theorem dL_law_341 : decode cL_law 341 = .ok (.iload 6, 2) := by decide +kernel
theorem dL_law_343 : decode cL_law 343 = .ok (.ifCond .ne 15, 3) := by decide +kernel
theorem dL_law_346 : decode cL_law 346 = .ok (.aload_n 3, 1) := by decide +kernel
theorem dL_law_347 : decode cL_law 347 = .ok (.iconst 0, 1) := by decide +kernel
theorem dL_law_348 : decode cL_law 348 = .ok (.laload, 1) := by decide +kernel
theorem dL_law_349 : decode cL_law 349 = .ok (.iload 7, 2) := by decide +kernel
theorem dL_law_351 : decode cL_law 351 = .ok (.i2l, 1) := by decide +kernel
theorem dL_law_352 : decode cL_law 352 = .ok (.lcmp, 1) := by decide +kernel
theorem dL_law_353 : decode cL_law 353 = .ok (.ifCond .eq 5, 3) := by decide +kernel
theorem dL_law_356 : decode cL_law 356 = .ok (.iconst 0, 1) := by decide +kernel
theorem dL_law_357 : decode cL_law 357 = .ok (.ireturn, 1) := by decide +kernel
theorem dL_law_358 : decode cL_law 358 = .ok (.goto 1073, 3) := by decide +kernel
theorem dL_law_361 : decode cL_law 361 = .ok (.aload_n 1, 1) := by decide +kernel
theorem dL_law_362 : decode cL_law 362 = .ok (.aload_n 0, 1) := by decide +kernel
theorem dL_law_363 : decode cL_law 363 = .ok (.iload 5, 2) := by decide +kernel
theorem dL_law_365 : decode cL_law 365 = .ok (.iconst 1, 1) := by decide +kernel
theorem dL_law_366 : decode cL_law 366 = .ok (.iadd, 1) := by decide +kernel
theorem dL_law_367 : decode cL_law 367 = .ok (.iaload, 1) := by decide +kernel
theorem dL_law_368 : decode cL_law 368 = .ok (.aload_n 3, 1) := by decide +kernel
theorem dL_law_369 : decode cL_law 369 = .ok (.invokestatic 100, 3) := by decide +kernel
theorem dL_law_372 : decode cL_law 372 = .ok (.istore 6, 2) := by decide +kernel
theorem dL_law_374 : decode cL_law 374 = .ok (.aload_n 2, 1) := by decide +kernel
theorem dL_law_375 : decode cL_law 375 = .ok (.aload_n 0, 1) := by decide +kernel
theorem dL_law_376 : decode cL_law 376 = .ok (.iload 5, 2) := by decide +kernel
theorem dL_law_378 : decode cL_law 378 = .ok (.iconst 1, 1) := by decide +kernel
theorem dL_law_379 : decode cL_law 379 = .ok (.iadd, 1) := by decide +kernel
theorem dL_law_380 : decode cL_law 380 = .ok (.iaload, 1) := by decide +kernel
theorem dL_law_381 : decode cL_law 381 = .ok (.invokevirtual 102, 3) := by decide +kernel
theorem dL_law_384 : decode cL_law 384 = .ok (.istore 7, 2) := by decide +kernel
theorem dL_law_386 : decode cL_law 386 = .ok (.aload_n 2, 1) := by decide +kernel
theorem dL_law_387 : decode cL_law 387 = .ok (.invokevirtual 90, 3) := by decide +kernel
theorem dL_law_390 : decode cL_law 390 = .ok (.iload 6, 2) := by decide +kernel
theorem dL_law_392 : decode cL_law 392 = .ok (.if_icmp .eq 5, 3) := by decide +kernel
theorem dL_law_395 : decode cL_law 395 = .ok (.iconst 0, 1) := by decide +kernel
theorem dL_law_396 : decode cL_law 396 = .ok (.ireturn, 1) := by decide +kernel
theorem dL_law_397 : decode cL_law 397 = .ok (.iload 6, 2) := by decide +kernel
theorem dL_law_399 : decode cL_law 399 = .ok (.ifCond .ne 15, 3) := by decide +kernel
theorem dL_law_402 : decode cL_law 402 = .ok (.aload_n 3, 1) := by decide +kernel
theorem dL_law_403 : decode cL_law 403 = .ok (.iconst 0, 1) := by decide +kernel
theorem dL_law_404 : decode cL_law 404 = .ok (.laload, 1) := by decide +kernel
theorem dL_law_405 : decode cL_law 405 = .ok (.iload 7, 2) := by decide +kernel
theorem dL_law_407 : decode cL_law 407 = .ok (.i2l, 1) := by decide +kernel
theorem dL_law_408 : decode cL_law 408 = .ok (.lcmp, 1) := by decide +kernel
theorem dL_law_409 : decode cL_law 409 = .ok (.ifCond .eq 5, 3) := by decide +kernel
theorem dL_law_412 : decode cL_law 412 = .ok (.iconst 0, 1) := by decide +kernel
theorem dL_law_413 : decode cL_law 413 = .ok (.ireturn, 1) := by decide +kernel
theorem dL_law_414 : decode cL_law 414 = .ok (.goto 1017, 3) := by decide +kernel
theorem dL_law_417 : decode cL_law 417 = .ok (.aload_n 1, 1) := by decide +kernel
theorem dL_law_418 : decode cL_law 418 = .ok (.aload_n 0, 1) := by decide +kernel
theorem dL_law_419 : decode cL_law 419 = .ok (.iload 5, 2) := by decide +kernel
theorem dL_law_421 : decode cL_law 421 = .ok (.iconst 1, 1) := by decide +kernel
theorem dL_law_422 : decode cL_law 422 = .ok (.iadd, 1) := by decide +kernel
theorem dL_law_423 : decode cL_law 423 = .ok (.iaload, 1) := by decide +kernel
theorem dL_law_424 : decode cL_law 424 = .ok (.aload_n 0, 1) := by decide +kernel
theorem dL_law_425 : decode cL_law 425 = .ok (.iload 5, 2) := by decide +kernel
theorem dL_law_427 : decode cL_law 427 = .ok (.iconst 2, 1) := by decide +kernel
theorem dL_law_428 : decode cL_law 428 = .ok (.iadd, 1) := by decide +kernel
theorem dL_law_429 : decode cL_law 429 = .ok (.iaload, 1) := by decide +kernel
theorem dL_law_430 : decode cL_law 430 = .ok (.aload_n 0, 1) := by decide +kernel
theorem dL_law_431 : decode cL_law 431 = .ok (.iload 5, 2) := by decide +kernel
theorem dL_law_433 : decode cL_law 433 = .ok (.iconst 3, 1) := by decide +kernel
theorem dL_law_434 : decode cL_law 434 = .ok (.iadd, 1) := by decide +kernel
theorem dL_law_435 : decode cL_law 435 = .ok (.iaload, 1) := by decide +kernel
theorem dL_law_436 : decode cL_law 436 = .ok (.aload_n 3, 1) := by decide +kernel
theorem dL_law_437 : decode cL_law 437 = .ok (.invokestatic 103, 3) := by decide +kernel
theorem dL_law_440 : decode cL_law 440 = .ok (.istore 6, 2) := by decide +kernel
theorem dL_law_442 : decode cL_law 442 = .ok (.aload_n 2, 1) := by decide +kernel
theorem dL_law_443 : decode cL_law 443 = .ok (.aload_n 0, 1) := by decide +kernel
theorem dL_law_444 : decode cL_law 444 = .ok (.iload 5, 2) := by decide +kernel
theorem dL_law_446 : decode cL_law 446 = .ok (.iconst 1, 1) := by decide +kernel
theorem dL_law_447 : decode cL_law 447 = .ok (.iadd, 1) := by decide +kernel
theorem dL_law_448 : decode cL_law 448 = .ok (.iaload, 1) := by decide +kernel
theorem dL_law_449 : decode cL_law 449 = .ok (.aload_n 0, 1) := by decide +kernel
theorem dL_law_450 : decode cL_law 450 = .ok (.iload 5, 2) := by decide +kernel
theorem dL_law_452 : decode cL_law 452 = .ok (.iconst 2, 1) := by decide +kernel
theorem dL_law_453 : decode cL_law 453 = .ok (.iadd, 1) := by decide +kernel
theorem dL_law_454 : decode cL_law 454 = .ok (.iaload, 1) := by decide +kernel
theorem dL_law_455 : decode cL_law 455 = .ok (.aload_n 0, 1) := by decide +kernel
theorem dL_law_456 : decode cL_law 456 = .ok (.iload 5, 2) := by decide +kernel
theorem dL_law_458 : decode cL_law 458 = .ok (.iconst 3, 1) := by decide +kernel
theorem dL_law_459 : decode cL_law 459 = .ok (.iadd, 1) := by decide +kernel
theorem dL_law_460 : decode cL_law 460 = .ok (.iaload, 1) := by decide +kernel
theorem dL_law_461 : decode cL_law 461 = .ok (.invokevirtual 106, 3) := by decide +kernel
theorem dL_law_464 : decode cL_law 464 = .ok (.istore 7, 2) := by decide +kernel
theorem dL_law_466 : decode cL_law 466 = .ok (.aload_n 2, 1) := by decide +kernel
theorem dL_law_467 : decode cL_law 467 = .ok (.invokevirtual 90, 3) := by decide +kernel
theorem dL_law_470 : decode cL_law 470 = .ok (.iload 6, 2) := by decide +kernel
theorem dL_law_472 : decode cL_law 472 = .ok (.if_icmp .eq 5, 3) := by decide +kernel
theorem dL_law_475 : decode cL_law 475 = .ok (.iconst 0, 1) := by decide +kernel
theorem dL_law_476 : decode cL_law 476 = .ok (.ireturn, 1) := by decide +kernel
theorem dL_law_477 : decode cL_law 477 = .ok (.iload 6, 2) := by decide +kernel
theorem dL_law_479 : decode cL_law 479 = .ok (.ifCond .ne 15, 3) := by decide +kernel
theorem dL_law_482 : decode cL_law 482 = .ok (.aload_n 3, 1) := by decide +kernel
theorem dL_law_483 : decode cL_law 483 = .ok (.iconst 0, 1) := by decide +kernel
theorem dL_law_484 : decode cL_law 484 = .ok (.laload, 1) := by decide +kernel
theorem dL_law_485 : decode cL_law 485 = .ok (.iload 7, 2) := by decide +kernel
theorem dL_law_487 : decode cL_law 487 = .ok (.i2l, 1) := by decide +kernel
theorem dL_law_488 : decode cL_law 488 = .ok (.lcmp, 1) := by decide +kernel
theorem dL_law_489 : decode cL_law 489 = .ok (.ifCond .eq 5, 3) := by decide +kernel
theorem dL_law_492 : decode cL_law 492 = .ok (.iconst 0, 1) := by decide +kernel
theorem dL_law_493 : decode cL_law 493 = .ok (.ireturn, 1) := by decide +kernel
theorem dL_law_494 : decode cL_law 494 = .ok (.goto 937, 3) := by decide +kernel
theorem dL_law_497 : decode cL_law 497 = .ok (.aload_n 1, 1) := by decide +kernel
theorem dL_law_498 : decode cL_law 498 = .ok (.invokevirtual 107, 3) := by decide +kernel
theorem dL_law_501 : decode cL_law 501 = .ok (.aload_n 2, 1) := by decide +kernel
theorem dL_law_502 : decode cL_law 502 = .ok (.invokevirtual 110, 3) := by decide +kernel
theorem dL_law_505 : decode cL_law 505 = .ok (.if_icmp .eq 926, 3) := by decide +kernel
theorem dL_law_508 : decode cL_law 508 = .ok (.iconst 0, 1) := by decide +kernel
theorem dL_law_509 : decode cL_law 509 = .ok (.ireturn, 1) := by decide +kernel
theorem dL_law_510 : decode cL_law 510 = .ok (.aload_n 1, 1) := by decide +kernel
theorem dL_law_511 : decode cL_law 511 = .ok (.aload_n 0, 1) := by decide +kernel
theorem dL_law_512 : decode cL_law 512 = .ok (.iload 5, 2) := by decide +kernel
theorem dL_law_514 : decode cL_law 514 = .ok (.iconst 1, 1) := by decide +kernel
theorem dL_law_515 : decode cL_law 515 = .ok (.iadd, 1) := by decide +kernel
theorem dL_law_516 : decode cL_law 516 = .ok (.iaload, 1) := by decide +kernel
theorem dL_law_517 : decode cL_law 517 = .ok (.aload_n 3, 1) := by decide +kernel
theorem dL_law_518 : decode cL_law 518 = .ok (.invokestatic 111, 3) := by decide +kernel
theorem dL_law_521 : decode cL_law 521 = .ok (.istore 6, 2) := by decide +kernel
theorem dL_law_523 : decode cL_law 523 = .ok (.aload_n 2, 1) := by decide +kernel
theorem dL_law_524 : decode cL_law 524 = .ok (.aload_n 0, 1) := by decide +kernel
theorem dL_law_525 : decode cL_law 525 = .ok (.iload 5, 2) := by decide +kernel
theorem dL_law_527 : decode cL_law 527 = .ok (.iconst 1, 1) := by decide +kernel
theorem dL_law_528 : decode cL_law 528 = .ok (.iadd, 1) := by decide +kernel
theorem dL_law_529 : decode cL_law 529 = .ok (.iaload, 1) := by decide +kernel
theorem dL_law_530 : decode cL_law 530 = .ok (.invokevirtual 113, 3) := by decide +kernel
theorem dL_law_533 : decode cL_law 533 = .ok (.istore 7, 2) := by decide +kernel
theorem dL_law_535 : decode cL_law 535 = .ok (.aload_n 2, 1) := by decide +kernel
theorem dL_law_536 : decode cL_law 536 = .ok (.invokevirtual 90, 3) := by decide +kernel
theorem dL_law_539 : decode cL_law 539 = .ok (.iload 6, 2) := by decide +kernel
theorem dL_law_541 : decode cL_law 541 = .ok (.if_icmp .eq 5, 3) := by decide +kernel
theorem dL_law_544 : decode cL_law 544 = .ok (.iconst 0, 1) := by decide +kernel
theorem dL_law_545 : decode cL_law 545 = .ok (.ireturn, 1) := by decide +kernel
theorem dL_law_546 : decode cL_law 546 = .ok (.iload 6, 2) := by decide +kernel
theorem dL_law_548 : decode cL_law 548 = .ok (.ifCond .ne 15, 3) := by decide +kernel
theorem dL_law_551 : decode cL_law 551 = .ok (.aload_n 3, 1) := by decide +kernel
theorem dL_law_552 : decode cL_law 552 = .ok (.iconst 0, 1) := by decide +kernel
theorem dL_law_553 : decode cL_law 553 = .ok (.laload, 1) := by decide +kernel
theorem dL_law_554 : decode cL_law 554 = .ok (.iload 7, 2) := by decide +kernel
theorem dL_law_556 : decode cL_law 556 = .ok (.i2l, 1) := by decide +kernel
theorem dL_law_557 : decode cL_law 557 = .ok (.lcmp, 1) := by decide +kernel
theorem dL_law_558 : decode cL_law 558 = .ok (.ifCond .eq 5, 3) := by decide +kernel
theorem dL_law_561 : decode cL_law 561 = .ok (.iconst 0, 1) := by decide +kernel
theorem dL_law_562 : decode cL_law 562 = .ok (.ireturn, 1) := by decide +kernel
theorem dL_law_563 : decode cL_law 563 = .ok (.goto 868, 3) := by decide +kernel
theorem dL_law_566 : decode cL_law 566 = .ok (.aload_n 1, 1) := by decide +kernel
theorem dL_law_567 : decode cL_law 567 = .ok (.invokevirtual 114, 3) := by decide +kernel
theorem dL_law_570 : decode cL_law 570 = .ok (.aload_n 2, 1) := by decide +kernel
theorem dL_law_571 : decode cL_law 571 = .ok (.invokevirtual 117, 3) := by decide +kernel
theorem dL_law_574 : decode cL_law 574 = .ok (.if_icmp .eq 857, 3) := by decide +kernel
theorem dL_law_577 : decode cL_law 577 = .ok (.iconst 0, 1) := by decide +kernel
theorem dL_law_578 : decode cL_law 578 = .ok (.ireturn, 1) := by decide +kernel
theorem dL_law_579 : decode cL_law 579 = .ok (.aload_n 1, 1) := by decide +kernel
theorem dL_law_580 : decode cL_law 580 = .ok (.invokevirtual 118, 3) := by decide +kernel
theorem dL_law_583 : decode cL_law 583 = .ok (.aload_n 2, 1) := by decide +kernel
theorem dL_law_584 : decode cL_law 584 = .ok (.invokevirtual 121, 3) := by decide +kernel
theorem dL_law_587 : decode cL_law 587 = .ok (.if_icmp .eq 844, 3) := by decide +kernel
theorem dL_law_590 : decode cL_law 590 = .ok (.iconst 0, 1) := by decide +kernel
theorem dL_law_591 : decode cL_law 591 = .ok (.ireturn, 1) := by decide +kernel
theorem dL_law_592 : decode cL_law 592 = .ok (.aload_n 1, 1) := by decide +kernel
theorem dL_law_593 : decode cL_law 593 = .ok (.invokevirtual 122, 3) := by decide +kernel
theorem dL_law_596 : decode cL_law 596 = .ok (.aload_n 2, 1) := by decide +kernel
theorem dL_law_597 : decode cL_law 597 = .ok (.invokevirtual 125, 3) := by decide +kernel
theorem dL_law_600 : decode cL_law 600 = .ok (.if_icmp .eq 831, 3) := by decide +kernel
theorem dL_law_603 : decode cL_law 603 = .ok (.iconst 0, 1) := by decide +kernel
theorem dL_law_604 : decode cL_law 604 = .ok (.ireturn, 1) := by decide +kernel
theorem dL_law_605 : decode cL_law 605 = .ok (.aload_n 1, 1) := by decide +kernel
theorem dL_law_606 : decode cL_law 606 = .ok (.invokevirtual 126, 3) := by decide +kernel
theorem dL_law_609 : decode cL_law 609 = .ok (.aload_n 2, 1) := by decide +kernel
theorem dL_law_610 : decode cL_law 610 = .ok (.invokevirtual 129, 3) := by decide +kernel
theorem dL_law_613 : decode cL_law 613 = .ok (.if_icmp .eq 818, 3) := by decide +kernel
theorem dL_law_616 : decode cL_law 616 = .ok (.iconst 0, 1) := by decide +kernel
theorem dL_law_617 : decode cL_law 617 = .ok (.ireturn, 1) := by decide +kernel
theorem dL_law_618 : decode cL_law 618 = .ok (.aload_n 1, 1) := by decide +kernel
theorem dL_law_619 : decode cL_law 619 = .ok (.aload_n 0, 1) := by decide +kernel
theorem dL_law_620 : decode cL_law 620 = .ok (.iload 5, 2) := by decide +kernel
theorem dL_law_622 : decode cL_law 622 = .ok (.iconst 1, 1) := by decide +kernel
theorem dL_law_623 : decode cL_law 623 = .ok (.iadd, 1) := by decide +kernel
theorem dL_law_624 : decode cL_law 624 = .ok (.iaload, 1) := by decide +kernel
theorem dL_law_625 : decode cL_law 625 = .ok (.aload_n 3, 1) := by decide +kernel
theorem dL_law_626 : decode cL_law 626 = .ok (.invokestatic 130, 3) := by decide +kernel
theorem dL_law_629 : decode cL_law 629 = .ok (.istore 6, 2) := by decide +kernel
theorem dL_law_631 : decode cL_law 631 = .ok (.aload_n 2, 1) := by decide +kernel
theorem dL_law_632 : decode cL_law 632 = .ok (.aload_n 0, 1) := by decide +kernel
theorem dL_law_633 : decode cL_law 633 = .ok (.iload 5, 2) := by decide +kernel
theorem dL_law_635 : decode cL_law 635 = .ok (.iconst 1, 1) := by decide +kernel
theorem dL_law_636 : decode cL_law 636 = .ok (.iadd, 1) := by decide +kernel
theorem dL_law_637 : decode cL_law 637 = .ok (.iaload, 1) := by decide +kernel
theorem dL_law_638 : decode cL_law 638 = .ok (.invokevirtual 132, 3) := by decide +kernel
theorem dL_law_641 : decode cL_law 641 = .ok (.istore 7, 2) := by decide +kernel
theorem dL_law_643 : decode cL_law 643 = .ok (.aload_n 2, 1) := by decide +kernel
theorem dL_law_644 : decode cL_law 644 = .ok (.invokevirtual 90, 3) := by decide +kernel
theorem dL_law_647 : decode cL_law 647 = .ok (.iload 6, 2) := by decide +kernel
theorem dL_law_649 : decode cL_law 649 = .ok (.if_icmp .eq 5, 3) := by decide +kernel
theorem dL_law_652 : decode cL_law 652 = .ok (.iconst 0, 1) := by decide +kernel
theorem dL_law_653 : decode cL_law 653 = .ok (.ireturn, 1) := by decide +kernel
theorem dL_law_654 : decode cL_law 654 = .ok (.iload 6, 2) := by decide +kernel
theorem dL_law_656 : decode cL_law 656 = .ok (.ifCond .ne 15, 3) := by decide +kernel
theorem dL_law_659 : decode cL_law 659 = .ok (.aload_n 3, 1) := by decide +kernel
theorem dL_law_660 : decode cL_law 660 = .ok (.iconst 0, 1) := by decide +kernel
theorem dL_law_661 : decode cL_law 661 = .ok (.laload, 1) := by decide +kernel
theorem dL_law_662 : decode cL_law 662 = .ok (.iload 7, 2) := by decide +kernel
theorem dL_law_664 : decode cL_law 664 = .ok (.i2l, 1) := by decide +kernel
theorem dL_law_665 : decode cL_law 665 = .ok (.lcmp, 1) := by decide +kernel
theorem dL_law_666 : decode cL_law 666 = .ok (.ifCond .eq 5, 3) := by decide +kernel
theorem dL_law_669 : decode cL_law 669 = .ok (.iconst 0, 1) := by decide +kernel
theorem dL_law_670 : decode cL_law 670 = .ok (.ireturn, 1) := by decide +kernel
theorem dL_law_671 : decode cL_law 671 = .ok (.goto 760, 3) := by decide +kernel
theorem dL_law_674 : decode cL_law 674 = .ok (.aload_n 1, 1) := by decide +kernel
theorem dL_law_675 : decode cL_law 675 = .ok (.aload_n 0, 1) := by decide +kernel
theorem dL_law_676 : decode cL_law 676 = .ok (.iload 5, 2) := by decide +kernel
theorem dL_law_678 : decode cL_law 678 = .ok (.iconst 1, 1) := by decide +kernel
theorem dL_law_679 : decode cL_law 679 = .ok (.iadd, 1) := by decide +kernel
theorem dL_law_680 : decode cL_law 680 = .ok (.iaload, 1) := by decide +kernel
theorem dL_law_681 : decode cL_law 681 = .ok (.aload_n 3, 1) := by decide +kernel
theorem dL_law_682 : decode cL_law 682 = .ok (.invokestatic 133, 3) := by decide +kernel
theorem dL_law_685 : decode cL_law 685 = .ok (.istore 6, 2) := by decide +kernel
theorem dL_law_687 : decode cL_law 687 = .ok (.aload_n 2, 1) := by decide +kernel
theorem dL_law_688 : decode cL_law 688 = .ok (.aload_n 0, 1) := by decide +kernel
theorem dL_law_689 : decode cL_law 689 = .ok (.iload 5, 2) := by decide +kernel
theorem dL_law_691 : decode cL_law 691 = .ok (.iconst 1, 1) := by decide +kernel
theorem dL_law_692 : decode cL_law 692 = .ok (.iadd, 1) := by decide +kernel
theorem dL_law_693 : decode cL_law 693 = .ok (.iaload, 1) := by decide +kernel
theorem dL_law_694 : decode cL_law 694 = .ok (.invokevirtual 135, 3) := by decide +kernel
theorem dL_law_697 : decode cL_law 697 = .ok (.istore 7, 2) := by decide +kernel
theorem dL_law_699 : decode cL_law 699 = .ok (.aload_n 2, 1) := by decide +kernel
theorem dL_law_700 : decode cL_law 700 = .ok (.invokevirtual 90, 3) := by decide +kernel
theorem dL_law_703 : decode cL_law 703 = .ok (.iload 6, 2) := by decide +kernel
theorem dL_law_705 : decode cL_law 705 = .ok (.if_icmp .eq 5, 3) := by decide +kernel
theorem dL_law_708 : decode cL_law 708 = .ok (.iconst 0, 1) := by decide +kernel
theorem dL_law_709 : decode cL_law 709 = .ok (.ireturn, 1) := by decide +kernel
theorem dL_law_710 : decode cL_law 710 = .ok (.iload 6, 2) := by decide +kernel
theorem dL_law_712 : decode cL_law 712 = .ok (.ifCond .ne 15, 3) := by decide +kernel
theorem dL_law_715 : decode cL_law 715 = .ok (.aload_n 3, 1) := by decide +kernel
theorem dL_law_716 : decode cL_law 716 = .ok (.iconst 0, 1) := by decide +kernel
theorem dL_law_717 : decode cL_law 717 = .ok (.laload, 1) := by decide +kernel
theorem dL_law_718 : decode cL_law 718 = .ok (.iload 7, 2) := by decide +kernel
theorem dL_law_720 : decode cL_law 720 = .ok (.i2l, 1) := by decide +kernel
theorem dL_law_721 : decode cL_law 721 = .ok (.lcmp, 1) := by decide +kernel
theorem dL_law_722 : decode cL_law 722 = .ok (.ifCond .eq 5, 3) := by decide +kernel
theorem dL_law_725 : decode cL_law 725 = .ok (.iconst 0, 1) := by decide +kernel
theorem dL_law_726 : decode cL_law 726 = .ok (.ireturn, 1) := by decide +kernel
theorem dL_law_727 : decode cL_law 727 = .ok (.goto 704, 3) := by decide +kernel
theorem dL_law_730 : decode cL_law 730 = .ok (.aload_n 1, 1) := by decide +kernel
theorem dL_law_731 : decode cL_law 731 = .ok (.aload_n 0, 1) := by decide +kernel
theorem dL_law_732 : decode cL_law 732 = .ok (.iload 5, 2) := by decide +kernel
theorem dL_law_734 : decode cL_law 734 = .ok (.iconst 1, 1) := by decide +kernel
theorem dL_law_735 : decode cL_law 735 = .ok (.iadd, 1) := by decide +kernel
theorem dL_law_736 : decode cL_law 736 = .ok (.iaload, 1) := by decide +kernel
theorem dL_law_737 : decode cL_law 737 = .ok (.aload_n 3, 1) := by decide +kernel
theorem dL_law_738 : decode cL_law 738 = .ok (.invokestatic 136, 3) := by decide +kernel
theorem dL_law_741 : decode cL_law 741 = .ok (.istore 6, 2) := by decide +kernel
theorem dL_law_743 : decode cL_law 743 = .ok (.aload_n 2, 1) := by decide +kernel
theorem dL_law_744 : decode cL_law 744 = .ok (.aload_n 0, 1) := by decide +kernel
theorem dL_law_745 : decode cL_law 745 = .ok (.iload 5, 2) := by decide +kernel
theorem dL_law_747 : decode cL_law 747 = .ok (.iconst 1, 1) := by decide +kernel
theorem dL_law_748 : decode cL_law 748 = .ok (.iadd, 1) := by decide +kernel
theorem dL_law_749 : decode cL_law 749 = .ok (.iaload, 1) := by decide +kernel
theorem dL_law_750 : decode cL_law 750 = .ok (.invokevirtual 138, 3) := by decide +kernel
theorem dL_law_753 : decode cL_law 753 = .ok (.istore 7, 2) := by decide +kernel
theorem dL_law_755 : decode cL_law 755 = .ok (.aload_n 2, 1) := by decide +kernel
theorem dL_law_756 : decode cL_law 756 = .ok (.invokevirtual 90, 3) := by decide +kernel
theorem dL_law_759 : decode cL_law 759 = .ok (.iload 6, 2) := by decide +kernel
theorem dL_law_761 : decode cL_law 761 = .ok (.if_icmp .eq 5, 3) := by decide +kernel
theorem dL_law_764 : decode cL_law 764 = .ok (.iconst 0, 1) := by decide +kernel
theorem dL_law_765 : decode cL_law 765 = .ok (.ireturn, 1) := by decide +kernel
theorem dL_law_766 : decode cL_law 766 = .ok (.iload 6, 2) := by decide +kernel
theorem dL_law_768 : decode cL_law 768 = .ok (.ifCond .ne 15, 3) := by decide +kernel
theorem dL_law_771 : decode cL_law 771 = .ok (.aload_n 3, 1) := by decide +kernel
theorem dL_law_772 : decode cL_law 772 = .ok (.iconst 0, 1) := by decide +kernel
theorem dL_law_773 : decode cL_law 773 = .ok (.laload, 1) := by decide +kernel
theorem dL_law_774 : decode cL_law 774 = .ok (.iload 7, 2) := by decide +kernel
theorem dL_law_776 : decode cL_law 776 = .ok (.i2l, 1) := by decide +kernel
theorem dL_law_777 : decode cL_law 777 = .ok (.lcmp, 1) := by decide +kernel
theorem dL_law_778 : decode cL_law 778 = .ok (.ifCond .eq 5, 3) := by decide +kernel
theorem dL_law_781 : decode cL_law 781 = .ok (.iconst 0, 1) := by decide +kernel
theorem dL_law_782 : decode cL_law 782 = .ok (.ireturn, 1) := by decide +kernel
theorem dL_law_783 : decode cL_law 783 = .ok (.goto 648, 3) := by decide +kernel
theorem dL_law_786 : decode cL_law 786 = .ok (.aload_n 1, 1) := by decide +kernel
theorem dL_law_787 : decode cL_law 787 = .ok (.aload_n 0, 1) := by decide +kernel
theorem dL_law_788 : decode cL_law 788 = .ok (.iload 5, 2) := by decide +kernel
theorem dL_law_790 : decode cL_law 790 = .ok (.iconst 1, 1) := by decide +kernel
theorem dL_law_791 : decode cL_law 791 = .ok (.iadd, 1) := by decide +kernel
theorem dL_law_792 : decode cL_law 792 = .ok (.iaload, 1) := by decide +kernel
theorem dL_law_793 : decode cL_law 793 = .ok (.aload_n 0, 1) := by decide +kernel
theorem dL_law_794 : decode cL_law 794 = .ok (.iload 5, 2) := by decide +kernel
theorem dL_law_796 : decode cL_law 796 = .ok (.iconst 2, 1) := by decide +kernel
theorem dL_law_797 : decode cL_law 797 = .ok (.iadd, 1) := by decide +kernel
theorem dL_law_798 : decode cL_law 798 = .ok (.iaload, 1) := by decide +kernel
theorem dL_law_799 : decode cL_law 799 = .ok (.aload_n 3, 1) := by decide +kernel
theorem dL_law_800 : decode cL_law 800 = .ok (.invokestatic 139, 3) := by decide +kernel
theorem dL_law_803 : decode cL_law 803 = .ok (.istore 6, 2) := by decide +kernel
theorem dL_law_805 : decode cL_law 805 = .ok (.aload_n 2, 1) := by decide +kernel
theorem dL_law_806 : decode cL_law 806 = .ok (.aload_n 0, 1) := by decide +kernel
theorem dL_law_807 : decode cL_law 807 = .ok (.iload 5, 2) := by decide +kernel
theorem dL_law_809 : decode cL_law 809 = .ok (.iconst 1, 1) := by decide +kernel
theorem dL_law_810 : decode cL_law 810 = .ok (.iadd, 1) := by decide +kernel
theorem dL_law_811 : decode cL_law 811 = .ok (.iaload, 1) := by decide +kernel
theorem dL_law_812 : decode cL_law 812 = .ok (.aload_n 0, 1) := by decide +kernel
theorem dL_law_813 : decode cL_law 813 = .ok (.iload 5, 2) := by decide +kernel
theorem dL_law_815 : decode cL_law 815 = .ok (.iconst 2, 1) := by decide +kernel
theorem dL_law_816 : decode cL_law 816 = .ok (.iadd, 1) := by decide +kernel
theorem dL_law_817 : decode cL_law 817 = .ok (.iaload, 1) := by decide +kernel
theorem dL_law_818 : decode cL_law 818 = .ok (.invokevirtual 142, 3) := by decide +kernel
theorem dL_law_821 : decode cL_law 821 = .ok (.istore 7, 2) := by decide +kernel
theorem dL_law_823 : decode cL_law 823 = .ok (.aload_n 2, 1) := by decide +kernel
theorem dL_law_824 : decode cL_law 824 = .ok (.invokevirtual 90, 3) := by decide +kernel
theorem dL_law_827 : decode cL_law 827 = .ok (.iload 6, 2) := by decide +kernel
theorem dL_law_829 : decode cL_law 829 = .ok (.if_icmp .eq 5, 3) := by decide +kernel
theorem dL_law_832 : decode cL_law 832 = .ok (.iconst 0, 1) := by decide +kernel
theorem dL_law_833 : decode cL_law 833 = .ok (.ireturn, 1) := by decide +kernel
theorem dL_law_834 : decode cL_law 834 = .ok (.iload 6, 2) := by decide +kernel
theorem dL_law_836 : decode cL_law 836 = .ok (.ifCond .ne 15, 3) := by decide +kernel
theorem dL_law_839 : decode cL_law 839 = .ok (.aload_n 3, 1) := by decide +kernel
theorem dL_law_840 : decode cL_law 840 = .ok (.iconst 0, 1) := by decide +kernel
theorem dL_law_841 : decode cL_law 841 = .ok (.laload, 1) := by decide +kernel
theorem dL_law_842 : decode cL_law 842 = .ok (.iload 7, 2) := by decide +kernel
theorem dL_law_844 : decode cL_law 844 = .ok (.i2l, 1) := by decide +kernel
theorem dL_law_845 : decode cL_law 845 = .ok (.lcmp, 1) := by decide +kernel
theorem dL_law_846 : decode cL_law 846 = .ok (.ifCond .eq 5, 3) := by decide +kernel
theorem dL_law_849 : decode cL_law 849 = .ok (.iconst 0, 1) := by decide +kernel
theorem dL_law_850 : decode cL_law 850 = .ok (.ireturn, 1) := by decide +kernel
theorem dL_law_851 : decode cL_law 851 = .ok (.goto 580, 3) := by decide +kernel
theorem dL_law_854 : decode cL_law 854 = .ok (.aload_n 1, 1) := by decide +kernel
theorem dL_law_855 : decode cL_law 855 = .ok (.aload_n 0, 1) := by decide +kernel
theorem dL_law_856 : decode cL_law 856 = .ok (.iload 5, 2) := by decide +kernel
theorem dL_law_858 : decode cL_law 858 = .ok (.iconst 1, 1) := by decide +kernel
theorem dL_law_859 : decode cL_law 859 = .ok (.iadd, 1) := by decide +kernel
theorem dL_law_860 : decode cL_law 860 = .ok (.iaload, 1) := by decide +kernel
theorem dL_law_861 : decode cL_law 861 = .ok (.aload_n 0, 1) := by decide +kernel
theorem dL_law_862 : decode cL_law 862 = .ok (.iload 5, 2) := by decide +kernel
theorem dL_law_864 : decode cL_law 864 = .ok (.iconst 2, 1) := by decide +kernel
theorem dL_law_865 : decode cL_law 865 = .ok (.iadd, 1) := by decide +kernel
theorem dL_law_866 : decode cL_law 866 = .ok (.iaload, 1) := by decide +kernel
theorem dL_law_867 : decode cL_law 867 = .ok (.aload_n 3, 1) := by decide +kernel
theorem dL_law_868 : decode cL_law 868 = .ok (.invokestatic 143, 3) := by decide +kernel
theorem dL_law_871 : decode cL_law 871 = .ok (.istore 6, 2) := by decide +kernel
theorem dL_law_873 : decode cL_law 873 = .ok (.aload_n 2, 1) := by decide +kernel
theorem dL_law_874 : decode cL_law 874 = .ok (.aload_n 0, 1) := by decide +kernel
theorem dL_law_875 : decode cL_law 875 = .ok (.iload 5, 2) := by decide +kernel
theorem dL_law_877 : decode cL_law 877 = .ok (.iconst 1, 1) := by decide +kernel
theorem dL_law_878 : decode cL_law 878 = .ok (.iadd, 1) := by decide +kernel
theorem dL_law_879 : decode cL_law 879 = .ok (.iaload, 1) := by decide +kernel
theorem dL_law_880 : decode cL_law 880 = .ok (.aload_n 0, 1) := by decide +kernel
theorem dL_law_881 : decode cL_law 881 = .ok (.iload 5, 2) := by decide +kernel
theorem dL_law_883 : decode cL_law 883 = .ok (.iconst 2, 1) := by decide +kernel
theorem dL_law_884 : decode cL_law 884 = .ok (.iadd, 1) := by decide +kernel
theorem dL_law_885 : decode cL_law 885 = .ok (.iaload, 1) := by decide +kernel
theorem dL_law_886 : decode cL_law 886 = .ok (.invokevirtual 145, 3) := by decide +kernel
theorem dL_law_889 : decode cL_law 889 = .ok (.istore 7, 2) := by decide +kernel
theorem dL_law_891 : decode cL_law 891 = .ok (.aload_n 2, 1) := by decide +kernel
theorem dL_law_892 : decode cL_law 892 = .ok (.invokevirtual 90, 3) := by decide +kernel
theorem dL_law_895 : decode cL_law 895 = .ok (.iload 6, 2) := by decide +kernel
theorem dL_law_897 : decode cL_law 897 = .ok (.if_icmp .eq 5, 3) := by decide +kernel
theorem dL_law_900 : decode cL_law 900 = .ok (.iconst 0, 1) := by decide +kernel
theorem dL_law_901 : decode cL_law 901 = .ok (.ireturn, 1) := by decide +kernel
theorem dL_law_902 : decode cL_law 902 = .ok (.iload 6, 2) := by decide +kernel
theorem dL_law_904 : decode cL_law 904 = .ok (.ifCond .ne 15, 3) := by decide +kernel
theorem dL_law_907 : decode cL_law 907 = .ok (.aload_n 3, 1) := by decide +kernel
theorem dL_law_908 : decode cL_law 908 = .ok (.iconst 0, 1) := by decide +kernel
theorem dL_law_909 : decode cL_law 909 = .ok (.laload, 1) := by decide +kernel
theorem dL_law_910 : decode cL_law 910 = .ok (.iload 7, 2) := by decide +kernel
theorem dL_law_912 : decode cL_law 912 = .ok (.i2l, 1) := by decide +kernel
theorem dL_law_913 : decode cL_law 913 = .ok (.lcmp, 1) := by decide +kernel
theorem dL_law_914 : decode cL_law 914 = .ok (.ifCond .eq 5, 3) := by decide +kernel
theorem dL_law_917 : decode cL_law 917 = .ok (.iconst 0, 1) := by decide +kernel
theorem dL_law_918 : decode cL_law 918 = .ok (.ireturn, 1) := by decide +kernel
theorem dL_law_919 : decode cL_law 919 = .ok (.goto 512, 3) := by decide +kernel
theorem dL_law_922 : decode cL_law 922 = .ok (.aload_n 1, 1) := by decide +kernel
theorem dL_law_923 : decode cL_law 923 = .ok (.invokevirtual 146, 3) := by decide +kernel
theorem dL_law_926 : decode cL_law 926 = .ok (.aload_n 2, 1) := by decide +kernel
theorem dL_law_927 : decode cL_law 927 = .ok (.invokevirtual 149, 3) := by decide +kernel
theorem dL_law_930 : decode cL_law 930 = .ok (.if_icmp .eq 501, 3) := by decide +kernel
theorem dL_law_933 : decode cL_law 933 = .ok (.iconst 0, 1) := by decide +kernel
theorem dL_law_934 : decode cL_law 934 = .ok (.ireturn, 1) := by decide +kernel
theorem dL_law_935 : decode cL_law 935 = .ok (.aload_n 1, 1) := by decide +kernel
theorem dL_law_936 : decode cL_law 936 = .ok (.aload_n 0, 1) := by decide +kernel
theorem dL_law_937 : decode cL_law 937 = .ok (.iload 5, 2) := by decide +kernel
theorem dL_law_939 : decode cL_law 939 = .ok (.iconst 1, 1) := by decide +kernel
theorem dL_law_940 : decode cL_law 940 = .ok (.iadd, 1) := by decide +kernel
theorem dL_law_941 : decode cL_law 941 = .ok (.iaload, 1) := by decide +kernel
theorem dL_law_942 : decode cL_law 942 = .ok (.aload_n 3, 1) := by decide +kernel
theorem dL_law_943 : decode cL_law 943 = .ok (.invokestatic 150, 3) := by decide +kernel
theorem dL_law_946 : decode cL_law 946 = .ok (.istore 6, 2) := by decide +kernel
theorem dL_law_948 : decode cL_law 948 = .ok (.aload_n 2, 1) := by decide +kernel
theorem dL_law_949 : decode cL_law 949 = .ok (.aload_n 0, 1) := by decide +kernel
theorem dL_law_950 : decode cL_law 950 = .ok (.iload 5, 2) := by decide +kernel
theorem dL_law_952 : decode cL_law 952 = .ok (.iconst 1, 1) := by decide +kernel
theorem dL_law_953 : decode cL_law 953 = .ok (.iadd, 1) := by decide +kernel
theorem dL_law_954 : decode cL_law 954 = .ok (.iaload, 1) := by decide +kernel
theorem dL_law_955 : decode cL_law 955 = .ok (.invokevirtual 152, 3) := by decide +kernel
theorem dL_law_958 : decode cL_law 958 = .ok (.istore 7, 2) := by decide +kernel
theorem dL_law_960 : decode cL_law 960 = .ok (.aload_n 2, 1) := by decide +kernel
theorem dL_law_961 : decode cL_law 961 = .ok (.invokevirtual 90, 3) := by decide +kernel
theorem dL_law_964 : decode cL_law 964 = .ok (.iload 6, 2) := by decide +kernel
theorem dL_law_966 : decode cL_law 966 = .ok (.if_icmp .eq 5, 3) := by decide +kernel
theorem dL_law_969 : decode cL_law 969 = .ok (.iconst 0, 1) := by decide +kernel
theorem dL_law_970 : decode cL_law 970 = .ok (.ireturn, 1) := by decide +kernel
theorem dL_law_971 : decode cL_law 971 = .ok (.iload 6, 2) := by decide +kernel
theorem dL_law_973 : decode cL_law 973 = .ok (.ifCond .ne 15, 3) := by decide +kernel
theorem dL_law_976 : decode cL_law 976 = .ok (.aload_n 3, 1) := by decide +kernel
theorem dL_law_977 : decode cL_law 977 = .ok (.iconst 0, 1) := by decide +kernel
theorem dL_law_978 : decode cL_law 978 = .ok (.laload, 1) := by decide +kernel
theorem dL_law_979 : decode cL_law 979 = .ok (.iload 7, 2) := by decide +kernel
theorem dL_law_981 : decode cL_law 981 = .ok (.i2l, 1) := by decide +kernel
theorem dL_law_982 : decode cL_law 982 = .ok (.lcmp, 1) := by decide +kernel
theorem dL_law_983 : decode cL_law 983 = .ok (.ifCond .eq 5, 3) := by decide +kernel
theorem dL_law_986 : decode cL_law 986 = .ok (.iconst 0, 1) := by decide +kernel
theorem dL_law_987 : decode cL_law 987 = .ok (.ireturn, 1) := by decide +kernel
theorem dL_law_988 : decode cL_law 988 = .ok (.goto 443, 3) := by decide +kernel
theorem dL_law_991 : decode cL_law 991 = .ok (.aload_n 1, 1) := by decide +kernel
theorem dL_law_992 : decode cL_law 992 = .ok (.invokevirtual 153, 3) := by decide +kernel
theorem dL_law_995 : decode cL_law 995 = .ok (.aload_n 2, 1) := by decide +kernel
theorem dL_law_996 : decode cL_law 996 = .ok (.invokevirtual 156, 3) := by decide +kernel
theorem dL_law_999 : decode cL_law 999 = .ok (.if_icmp .eq 432, 3) := by decide +kernel
theorem dL_law_1002 : decode cL_law 1002 = .ok (.iconst 0, 1) := by decide +kernel
theorem dL_law_1003 : decode cL_law 1003 = .ok (.ireturn, 1) := by decide +kernel
theorem dL_law_1004 : decode cL_law 1004 = .ok (.aload_n 1, 1) := by decide +kernel
theorem dL_law_1005 : decode cL_law 1005 = .ok (.aload_n 0, 1) := by decide +kernel
theorem dL_law_1006 : decode cL_law 1006 = .ok (.iload 5, 2) := by decide +kernel
theorem dL_law_1008 : decode cL_law 1008 = .ok (.iconst 1, 1) := by decide +kernel
theorem dL_law_1009 : decode cL_law 1009 = .ok (.iadd, 1) := by decide +kernel
theorem dL_law_1010 : decode cL_law 1010 = .ok (.iaload, 1) := by decide +kernel
theorem dL_law_1011 : decode cL_law 1011 = .ok (.aload_n 3, 1) := by decide +kernel
theorem dL_law_1012 : decode cL_law 1012 = .ok (.invokestatic 157, 3) := by decide +kernel
theorem dL_law_1015 : decode cL_law 1015 = .ok (.istore 6, 2) := by decide +kernel
theorem dL_law_1017 : decode cL_law 1017 = .ok (.aload_n 2, 1) := by decide +kernel
theorem dL_law_1018 : decode cL_law 1018 = .ok (.aload_n 0, 1) := by decide +kernel
theorem dL_law_1019 : decode cL_law 1019 = .ok (.iload 5, 2) := by decide +kernel
theorem dL_law_1021 : decode cL_law 1021 = .ok (.iconst 1, 1) := by decide +kernel
theorem dL_law_1022 : decode cL_law 1022 = .ok (.iadd, 1) := by decide +kernel
theorem dL_law_1023 : decode cL_law 1023 = .ok (.iaload, 1) := by decide +kernel
theorem dL_law_1024 : decode cL_law 1024 = .ok (.invokevirtual 159, 3) := by decide +kernel
theorem dL_law_1027 : decode cL_law 1027 = .ok (.istore 7, 2) := by decide +kernel
theorem dL_law_1029 : decode cL_law 1029 = .ok (.aload_n 2, 1) := by decide +kernel
theorem dL_law_1030 : decode cL_law 1030 = .ok (.invokevirtual 90, 3) := by decide +kernel
theorem dL_law_1033 : decode cL_law 1033 = .ok (.iload 6, 2) := by decide +kernel
theorem dL_law_1035 : decode cL_law 1035 = .ok (.if_icmp .eq 5, 3) := by decide +kernel
theorem dL_law_1038 : decode cL_law 1038 = .ok (.iconst 0, 1) := by decide +kernel
theorem dL_law_1039 : decode cL_law 1039 = .ok (.ireturn, 1) := by decide +kernel
theorem dL_law_1040 : decode cL_law 1040 = .ok (.iload 6, 2) := by decide +kernel
theorem dL_law_1042 : decode cL_law 1042 = .ok (.ifCond .ne 15, 3) := by decide +kernel
theorem dL_law_1045 : decode cL_law 1045 = .ok (.aload_n 3, 1) := by decide +kernel
theorem dL_law_1046 : decode cL_law 1046 = .ok (.iconst 0, 1) := by decide +kernel
theorem dL_law_1047 : decode cL_law 1047 = .ok (.laload, 1) := by decide +kernel
theorem dL_law_1048 : decode cL_law 1048 = .ok (.iload 7, 2) := by decide +kernel
theorem dL_law_1050 : decode cL_law 1050 = .ok (.i2l, 1) := by decide +kernel
theorem dL_law_1051 : decode cL_law 1051 = .ok (.lcmp, 1) := by decide +kernel
theorem dL_law_1052 : decode cL_law 1052 = .ok (.ifCond .eq 5, 3) := by decide +kernel
theorem dL_law_1055 : decode cL_law 1055 = .ok (.iconst 0, 1) := by decide +kernel
theorem dL_law_1056 : decode cL_law 1056 = .ok (.ireturn, 1) := by decide +kernel
theorem dL_law_1057 : decode cL_law 1057 = .ok (.goto 374, 3) := by decide +kernel
theorem dL_law_1060 : decode cL_law 1060 = .ok (.aload_n 1, 1) := by decide +kernel
theorem dL_law_1061 : decode cL_law 1061 = .ok (.invokevirtual 160, 3) := by decide +kernel
theorem dL_law_1064 : decode cL_law 1064 = .ok (.aload_n 2, 1) := by decide +kernel
theorem dL_law_1065 : decode cL_law 1065 = .ok (.invokevirtual 163, 3) := by decide +kernel
theorem dL_law_1068 : decode cL_law 1068 = .ok (.if_icmp .eq 363, 3) := by decide +kernel
theorem dL_law_1071 : decode cL_law 1071 = .ok (.iconst 0, 1) := by decide +kernel
theorem dL_law_1072 : decode cL_law 1072 = .ok (.ireturn, 1) := by decide +kernel
theorem dL_law_1073 : decode cL_law 1073 = .ok (.aload_n 1, 1) := by decide +kernel
theorem dL_law_1074 : decode cL_law 1074 = .ok (.aload_n 0, 1) := by decide +kernel
theorem dL_law_1075 : decode cL_law 1075 = .ok (.iload 5, 2) := by decide +kernel
theorem dL_law_1077 : decode cL_law 1077 = .ok (.iconst 1, 1) := by decide +kernel
theorem dL_law_1078 : decode cL_law 1078 = .ok (.iadd, 1) := by decide +kernel
theorem dL_law_1079 : decode cL_law 1079 = .ok (.iaload, 1) := by decide +kernel
theorem dL_law_1080 : decode cL_law 1080 = .ok (.aload_n 3, 1) := by decide +kernel
theorem dL_law_1081 : decode cL_law 1081 = .ok (.invokestatic 164, 3) := by decide +kernel
theorem dL_law_1084 : decode cL_law 1084 = .ok (.istore 6, 2) := by decide +kernel
theorem dL_law_1086 : decode cL_law 1086 = .ok (.aload_n 2, 1) := by decide +kernel
theorem dL_law_1087 : decode cL_law 1087 = .ok (.aload_n 0, 1) := by decide +kernel
theorem dL_law_1088 : decode cL_law 1088 = .ok (.iload 5, 2) := by decide +kernel
theorem dL_law_1090 : decode cL_law 1090 = .ok (.iconst 1, 1) := by decide +kernel
theorem dL_law_1091 : decode cL_law 1091 = .ok (.iadd, 1) := by decide +kernel
theorem dL_law_1092 : decode cL_law 1092 = .ok (.iaload, 1) := by decide +kernel
theorem dL_law_1093 : decode cL_law 1093 = .ok (.invokevirtual 166, 3) := by decide +kernel
theorem dL_law_1096 : decode cL_law 1096 = .ok (.istore 7, 2) := by decide +kernel
theorem dL_law_1098 : decode cL_law 1098 = .ok (.aload_n 2, 1) := by decide +kernel
theorem dL_law_1099 : decode cL_law 1099 = .ok (.invokevirtual 90, 3) := by decide +kernel
theorem dL_law_1102 : decode cL_law 1102 = .ok (.iload 6, 2) := by decide +kernel
theorem dL_law_1104 : decode cL_law 1104 = .ok (.if_icmp .eq 5, 3) := by decide +kernel
theorem dL_law_1107 : decode cL_law 1107 = .ok (.iconst 0, 1) := by decide +kernel
theorem dL_law_1108 : decode cL_law 1108 = .ok (.ireturn, 1) := by decide +kernel
theorem dL_law_1109 : decode cL_law 1109 = .ok (.iload 6, 2) := by decide +kernel
theorem dL_law_1111 : decode cL_law 1111 = .ok (.ifCond .ne 15, 3) := by decide +kernel
theorem dL_law_1114 : decode cL_law 1114 = .ok (.aload_n 3, 1) := by decide +kernel
theorem dL_law_1115 : decode cL_law 1115 = .ok (.iconst 0, 1) := by decide +kernel
theorem dL_law_1116 : decode cL_law 1116 = .ok (.laload, 1) := by decide +kernel
theorem dL_law_1117 : decode cL_law 1117 = .ok (.iload 7, 2) := by decide +kernel
theorem dL_law_1119 : decode cL_law 1119 = .ok (.i2l, 1) := by decide +kernel
theorem dL_law_1120 : decode cL_law 1120 = .ok (.lcmp, 1) := by decide +kernel
theorem dL_law_1121 : decode cL_law 1121 = .ok (.ifCond .eq 5, 3) := by decide +kernel
theorem dL_law_1124 : decode cL_law 1124 = .ok (.iconst 0, 1) := by decide +kernel
theorem dL_law_1125 : decode cL_law 1125 = .ok (.ireturn, 1) := by decide +kernel
theorem dL_law_1126 : decode cL_law 1126 = .ok (.goto 305, 3) := by decide +kernel
theorem dL_law_1129 : decode cL_law 1129 = .ok (.aload_n 1, 1) := by decide +kernel
theorem dL_law_1130 : decode cL_law 1130 = .ok (.invokevirtual 167, 3) := by decide +kernel
theorem dL_law_1133 : decode cL_law 1133 = .ok (.aload_n 2, 1) := by decide +kernel
theorem dL_law_1134 : decode cL_law 1134 = .ok (.invokevirtual 170, 3) := by decide +kernel
theorem dL_law_1137 : decode cL_law 1137 = .ok (.if_icmp .eq 294, 3) := by decide +kernel
theorem dL_law_1140 : decode cL_law 1140 = .ok (.iconst 0, 1) := by decide +kernel
theorem dL_law_1141 : decode cL_law 1141 = .ok (.ireturn, 1) := by decide +kernel
theorem dL_law_1142 : decode cL_law 1142 = .ok (.aload_n 1, 1) := by decide +kernel
theorem dL_law_1143 : decode cL_law 1143 = .ok (.aload_n 0, 1) := by decide +kernel
theorem dL_law_1144 : decode cL_law 1144 = .ok (.iload 5, 2) := by decide +kernel
theorem dL_law_1146 : decode cL_law 1146 = .ok (.iconst 1, 1) := by decide +kernel
theorem dL_law_1147 : decode cL_law 1147 = .ok (.iadd, 1) := by decide +kernel
theorem dL_law_1148 : decode cL_law 1148 = .ok (.iaload, 1) := by decide +kernel
theorem dL_law_1149 : decode cL_law 1149 = .ok (.aload_n 3, 1) := by decide +kernel
theorem dL_law_1150 : decode cL_law 1150 = .ok (.invokestatic 171, 3) := by decide +kernel
theorem dL_law_1153 : decode cL_law 1153 = .ok (.istore 6, 2) := by decide +kernel
theorem dL_law_1155 : decode cL_law 1155 = .ok (.aload_n 2, 1) := by decide +kernel
theorem dL_law_1156 : decode cL_law 1156 = .ok (.aload_n 0, 1) := by decide +kernel
theorem dL_law_1157 : decode cL_law 1157 = .ok (.iload 5, 2) := by decide +kernel
theorem dL_law_1159 : decode cL_law 1159 = .ok (.iconst 1, 1) := by decide +kernel
theorem dL_law_1160 : decode cL_law 1160 = .ok (.iadd, 1) := by decide +kernel
theorem dL_law_1161 : decode cL_law 1161 = .ok (.iaload, 1) := by decide +kernel
theorem dL_law_1162 : decode cL_law 1162 = .ok (.invokevirtual 173, 3) := by decide +kernel
theorem dL_law_1165 : decode cL_law 1165 = .ok (.istore 7, 2) := by decide +kernel
theorem dL_law_1167 : decode cL_law 1167 = .ok (.aload_n 2, 1) := by decide +kernel
theorem dL_law_1168 : decode cL_law 1168 = .ok (.invokevirtual 90, 3) := by decide +kernel
theorem dL_law_1171 : decode cL_law 1171 = .ok (.iload 6, 2) := by decide +kernel
theorem dL_law_1173 : decode cL_law 1173 = .ok (.if_icmp .eq 5, 3) := by decide +kernel
theorem dL_law_1176 : decode cL_law 1176 = .ok (.iconst 0, 1) := by decide +kernel
theorem dL_law_1177 : decode cL_law 1177 = .ok (.ireturn, 1) := by decide +kernel
theorem dL_law_1178 : decode cL_law 1178 = .ok (.iload 6, 2) := by decide +kernel
theorem dL_law_1180 : decode cL_law 1180 = .ok (.ifCond .ne 22, 3) := by decide +kernel
theorem dL_law_1183 : decode cL_law 1183 = .ok (.aload_n 3, 1) := by decide +kernel
theorem dL_law_1184 : decode cL_law 1184 = .ok (.iconst 0, 1) := by decide +kernel
theorem dL_law_1185 : decode cL_law 1185 = .ok (.laload, 1) := by decide +kernel
theorem dL_law_1186 : decode cL_law 1186 = .ok (.iload 7, 2) := by decide +kernel
theorem dL_law_1188 : decode cL_law 1188 = .ok (.ifCond .eq 7, 3) := by decide +kernel
theorem dL_law_1191 : decode cL_law 1191 = .ok (.lconst 1, 1) := by decide +kernel
theorem dL_law_1192 : decode cL_law 1192 = .ok (.goto 4, 3) := by decide +kernel
theorem dL_law_1195 : decode cL_law 1195 = .ok (.lconst 0, 1) := by decide +kernel
theorem dL_law_1196 : decode cL_law 1196 = .ok (.lcmp, 1) := by decide +kernel
theorem dL_law_1197 : decode cL_law 1197 = .ok (.ifCond .eq 5, 3) := by decide +kernel
theorem dL_law_1200 : decode cL_law 1200 = .ok (.iconst 0, 1) := by decide +kernel
theorem dL_law_1201 : decode cL_law 1201 = .ok (.ireturn, 1) := by decide +kernel
theorem dL_law_1202 : decode cL_law 1202 = .ok (.goto 229, 3) := by decide +kernel
theorem dL_law_1205 : decode cL_law 1205 = .ok (.aload_n 1, 1) := by decide +kernel
theorem dL_law_1206 : decode cL_law 1206 = .ok (.aload_n 0, 1) := by decide +kernel
theorem dL_law_1207 : decode cL_law 1207 = .ok (.iload 5, 2) := by decide +kernel
theorem dL_law_1209 : decode cL_law 1209 = .ok (.iconst 1, 1) := by decide +kernel
theorem dL_law_1210 : decode cL_law 1210 = .ok (.iadd, 1) := by decide +kernel
theorem dL_law_1211 : decode cL_law 1211 = .ok (.iaload, 1) := by decide +kernel
theorem dL_law_1212 : decode cL_law 1212 = .ok (.aload_n 0, 1) := by decide +kernel
theorem dL_law_1213 : decode cL_law 1213 = .ok (.iload 5, 2) := by decide +kernel
theorem dL_law_1215 : decode cL_law 1215 = .ok (.iconst 2, 1) := by decide +kernel
theorem dL_law_1216 : decode cL_law 1216 = .ok (.iadd, 1) := by decide +kernel
theorem dL_law_1217 : decode cL_law 1217 = .ok (.iaload, 1) := by decide +kernel
theorem dL_law_1218 : decode cL_law 1218 = .ok (.aload_n 3, 1) := by decide +kernel
theorem dL_law_1219 : decode cL_law 1219 = .ok (.invokestatic 174, 3) := by decide +kernel
theorem dL_law_1222 : decode cL_law 1222 = .ok (.istore 6, 2) := by decide +kernel
theorem dL_law_1224 : decode cL_law 1224 = .ok (.aload_n 2, 1) := by decide +kernel
theorem dL_law_1225 : decode cL_law 1225 = .ok (.aload_n 0, 1) := by decide +kernel
theorem dL_law_1226 : decode cL_law 1226 = .ok (.iload 5, 2) := by decide +kernel
theorem dL_law_1228 : decode cL_law 1228 = .ok (.iconst 1, 1) := by decide +kernel
theorem dL_law_1229 : decode cL_law 1229 = .ok (.iadd, 1) := by decide +kernel
theorem dL_law_1230 : decode cL_law 1230 = .ok (.iaload, 1) := by decide +kernel
theorem dL_law_1231 : decode cL_law 1231 = .ok (.aload_n 0, 1) := by decide +kernel
theorem dL_law_1232 : decode cL_law 1232 = .ok (.iload 5, 2) := by decide +kernel
theorem dL_law_1234 : decode cL_law 1234 = .ok (.iconst 2, 1) := by decide +kernel
theorem dL_law_1235 : decode cL_law 1235 = .ok (.iadd, 1) := by decide +kernel
theorem dL_law_1236 : decode cL_law 1236 = .ok (.iaload, 1) := by decide +kernel
theorem dL_law_1237 : decode cL_law 1237 = .ok (.invokevirtual 176, 3) := by decide +kernel
theorem dL_law_1240 : decode cL_law 1240 = .ok (.istore 7, 2) := by decide +kernel
theorem dL_law_1242 : decode cL_law 1242 = .ok (.aload_n 2, 1) := by decide +kernel
theorem dL_law_1243 : decode cL_law 1243 = .ok (.invokevirtual 90, 3) := by decide +kernel
theorem dL_law_1246 : decode cL_law 1246 = .ok (.iload 6, 2) := by decide +kernel
theorem dL_law_1248 : decode cL_law 1248 = .ok (.if_icmp .eq 5, 3) := by decide +kernel
theorem dL_law_1251 : decode cL_law 1251 = .ok (.iconst 0, 1) := by decide +kernel
theorem dL_law_1252 : decode cL_law 1252 = .ok (.ireturn, 1) := by decide +kernel
theorem dL_law_1253 : decode cL_law 1253 = .ok (.iload 6, 2) := by decide +kernel
theorem dL_law_1255 : decode cL_law 1255 = .ok (.ifCond .ne 15, 3) := by decide +kernel
theorem dL_law_1258 : decode cL_law 1258 = .ok (.aload_n 3, 1) := by decide +kernel
theorem dL_law_1259 : decode cL_law 1259 = .ok (.iconst 0, 1) := by decide +kernel
theorem dL_law_1260 : decode cL_law 1260 = .ok (.laload, 1) := by decide +kernel
theorem dL_law_1261 : decode cL_law 1261 = .ok (.iload 7, 2) := by decide +kernel
theorem dL_law_1263 : decode cL_law 1263 = .ok (.i2l, 1) := by decide +kernel
theorem dL_law_1264 : decode cL_law 1264 = .ok (.lcmp, 1) := by decide +kernel
theorem dL_law_1265 : decode cL_law 1265 = .ok (.ifCond .eq 5, 3) := by decide +kernel
theorem dL_law_1268 : decode cL_law 1268 = .ok (.iconst 0, 1) := by decide +kernel
theorem dL_law_1269 : decode cL_law 1269 = .ok (.ireturn, 1) := by decide +kernel
theorem dL_law_1270 : decode cL_law 1270 = .ok (.goto 161, 3) := by decide +kernel
theorem dL_law_1273 : decode cL_law 1273 = .ok (.aload_n 1, 1) := by decide +kernel
theorem dL_law_1274 : decode cL_law 1274 = .ok (.aload_n 0, 1) := by decide +kernel
theorem dL_law_1275 : decode cL_law 1275 = .ok (.iload 5, 2) := by decide +kernel
theorem dL_law_1277 : decode cL_law 1277 = .ok (.iconst 1, 1) := by decide +kernel
theorem dL_law_1278 : decode cL_law 1278 = .ok (.iadd, 1) := by decide +kernel
theorem dL_law_1279 : decode cL_law 1279 = .ok (.iaload, 1) := by decide +kernel
theorem dL_law_1280 : decode cL_law 1280 = .ok (.aload_n 0, 1) := by decide +kernel
theorem dL_law_1281 : decode cL_law 1281 = .ok (.iload 5, 2) := by decide +kernel
theorem dL_law_1283 : decode cL_law 1283 = .ok (.iconst 2, 1) := by decide +kernel
theorem dL_law_1284 : decode cL_law 1284 = .ok (.iadd, 1) := by decide +kernel
theorem dL_law_1285 : decode cL_law 1285 = .ok (.iaload, 1) := by decide +kernel
theorem dL_law_1286 : decode cL_law 1286 = .ok (.aload_n 3, 1) := by decide +kernel
theorem dL_law_1287 : decode cL_law 1287 = .ok (.invokestatic 177, 3) := by decide +kernel
theorem dL_law_1290 : decode cL_law 1290 = .ok (.istore 6, 2) := by decide +kernel
theorem dL_law_1292 : decode cL_law 1292 = .ok (.aload_n 2, 1) := by decide +kernel
theorem dL_law_1293 : decode cL_law 1293 = .ok (.aload_n 0, 1) := by decide +kernel
theorem dL_law_1294 : decode cL_law 1294 = .ok (.iload 5, 2) := by decide +kernel
theorem dL_law_1296 : decode cL_law 1296 = .ok (.iconst 1, 1) := by decide +kernel
theorem dL_law_1297 : decode cL_law 1297 = .ok (.iadd, 1) := by decide +kernel
theorem dL_law_1298 : decode cL_law 1298 = .ok (.iaload, 1) := by decide +kernel
theorem dL_law_1299 : decode cL_law 1299 = .ok (.aload_n 0, 1) := by decide +kernel
theorem dL_law_1300 : decode cL_law 1300 = .ok (.iload 5, 2) := by decide +kernel
theorem dL_law_1302 : decode cL_law 1302 = .ok (.iconst 2, 1) := by decide +kernel
theorem dL_law_1303 : decode cL_law 1303 = .ok (.iadd, 1) := by decide +kernel
theorem dL_law_1304 : decode cL_law 1304 = .ok (.iaload, 1) := by decide +kernel
theorem dL_law_1305 : decode cL_law 1305 = .ok (.invokevirtual 179, 3) := by decide +kernel
theorem dL_law_1308 : decode cL_law 1308 = .ok (.istore 7, 2) := by decide +kernel
theorem dL_law_1310 : decode cL_law 1310 = .ok (.aload_n 2, 1) := by decide +kernel
theorem dL_law_1311 : decode cL_law 1311 = .ok (.invokevirtual 90, 3) := by decide +kernel
theorem dL_law_1314 : decode cL_law 1314 = .ok (.iload 6, 2) := by decide +kernel
theorem dL_law_1316 : decode cL_law 1316 = .ok (.if_icmp .eq 5, 3) := by decide +kernel
theorem dL_law_1319 : decode cL_law 1319 = .ok (.iconst 0, 1) := by decide +kernel
theorem dL_law_1320 : decode cL_law 1320 = .ok (.ireturn, 1) := by decide +kernel
theorem dL_law_1321 : decode cL_law 1321 = .ok (.iload 6, 2) := by decide +kernel
theorem dL_law_1323 : decode cL_law 1323 = .ok (.ifCond .ne 15, 3) := by decide +kernel
theorem dL_law_1326 : decode cL_law 1326 = .ok (.aload_n 3, 1) := by decide +kernel
theorem dL_law_1327 : decode cL_law 1327 = .ok (.iconst 0, 1) := by decide +kernel
theorem dL_law_1328 : decode cL_law 1328 = .ok (.laload, 1) := by decide +kernel
theorem dL_law_1329 : decode cL_law 1329 = .ok (.iload 7, 2) := by decide +kernel
theorem dL_law_1331 : decode cL_law 1331 = .ok (.i2l, 1) := by decide +kernel
theorem dL_law_1332 : decode cL_law 1332 = .ok (.lcmp, 1) := by decide +kernel
theorem dL_law_1333 : decode cL_law 1333 = .ok (.ifCond .eq 5, 3) := by decide +kernel
theorem dL_law_1336 : decode cL_law 1336 = .ok (.iconst 0, 1) := by decide +kernel
theorem dL_law_1337 : decode cL_law 1337 = .ok (.ireturn, 1) := by decide +kernel
theorem dL_law_1338 : decode cL_law 1338 = .ok (.goto 93, 3) := by decide +kernel
theorem dL_law_1341 : decode cL_law 1341 = .ok (.aload_n 1, 1) := by decide +kernel
theorem dL_law_1342 : decode cL_law 1342 = .ok (.aload_n 0, 1) := by decide +kernel
theorem dL_law_1343 : decode cL_law 1343 = .ok (.iload 5, 2) := by decide +kernel
theorem dL_law_1345 : decode cL_law 1345 = .ok (.iconst 1, 1) := by decide +kernel
theorem dL_law_1346 : decode cL_law 1346 = .ok (.iadd, 1) := by decide +kernel
theorem dL_law_1347 : decode cL_law 1347 = .ok (.iaload, 1) := by decide +kernel
theorem dL_law_1348 : decode cL_law 1348 = .ok (.aload_n 0, 1) := by decide +kernel
theorem dL_law_1349 : decode cL_law 1349 = .ok (.iload 5, 2) := by decide +kernel
theorem dL_law_1351 : decode cL_law 1351 = .ok (.iconst 2, 1) := by decide +kernel
theorem dL_law_1352 : decode cL_law 1352 = .ok (.iadd, 1) := by decide +kernel
theorem dL_law_1353 : decode cL_law 1353 = .ok (.iaload, 1) := by decide +kernel
theorem dL_law_1354 : decode cL_law 1354 = .ok (.aload 4, 2) := by decide +kernel
theorem dL_law_1356 : decode cL_law 1356 = .ok (.invokestatic 180, 3) := by decide +kernel
theorem dL_law_1359 : decode cL_law 1359 = .ok (.istore 6, 2) := by decide +kernel
theorem dL_law_1361 : decode cL_law 1361 = .ok (.aload_n 2, 1) := by decide +kernel
theorem dL_law_1362 : decode cL_law 1362 = .ok (.aload_n 0, 1) := by decide +kernel
theorem dL_law_1363 : decode cL_law 1363 = .ok (.iload 5, 2) := by decide +kernel
theorem dL_law_1365 : decode cL_law 1365 = .ok (.iconst 1, 1) := by decide +kernel
theorem dL_law_1366 : decode cL_law 1366 = .ok (.iadd, 1) := by decide +kernel
theorem dL_law_1367 : decode cL_law 1367 = .ok (.iaload, 1) := by decide +kernel
theorem dL_law_1368 : decode cL_law 1368 = .ok (.aload_n 0, 1) := by decide +kernel
theorem dL_law_1369 : decode cL_law 1369 = .ok (.iload 5, 2) := by decide +kernel
theorem dL_law_1371 : decode cL_law 1371 = .ok (.iconst 2, 1) := by decide +kernel
theorem dL_law_1372 : decode cL_law 1372 = .ok (.iadd, 1) := by decide +kernel
theorem dL_law_1373 : decode cL_law 1373 = .ok (.iaload, 1) := by decide +kernel
theorem dL_law_1374 : decode cL_law 1374 = .ok (.invokevirtual 183, 3) := by decide +kernel
theorem dL_law_1377 : decode cL_law 1377 = .ok (.fstore 7, 2) := by decide +kernel
theorem dL_law_1379 : decode cL_law 1379 = .ok (.aload_n 2, 1) := by decide +kernel
theorem dL_law_1380 : decode cL_law 1380 = .ok (.invokevirtual 90, 3) := by decide +kernel
theorem dL_law_1383 : decode cL_law 1383 = .ok (.iload 6, 2) := by decide +kernel
theorem dL_law_1385 : decode cL_law 1385 = .ok (.if_icmp .eq 5, 3) := by decide +kernel
theorem dL_law_1388 : decode cL_law 1388 = .ok (.iconst 0, 1) := by decide +kernel
theorem dL_law_1389 : decode cL_law 1389 = .ok (.ireturn, 1) := by decide +kernel
theorem dL_law_1390 : decode cL_law 1390 = .ok (.iload 6, 2) := by decide +kernel
theorem dL_law_1392 : decode cL_law 1392 = .ok (.ifCond .ne 36, 3) := by decide +kernel
theorem dL_law_1395 : decode cL_law 1395 = .ok (.aload 4, 2) := by decide +kernel
theorem dL_law_1397 : decode cL_law 1397 = .ok (.iconst 0, 1) := by decide +kernel
theorem dL_law_1398 : decode cL_law 1398 = .ok (.daload, 1) := by decide +kernel
theorem dL_law_1399 : decode cL_law 1399 = .ok (.fload 7, 2) := by decide +kernel
theorem dL_law_1401 : decode cL_law 1401 = .ok (.f2d, 1) := by decide +kernel
theorem dL_law_1402 : decode cL_law 1402 = .ok (.dcmp .l, 1) := by decide +kernel
theorem dL_law_1403 : decode cL_law 1403 = .ok (.ifCond .eq 25, 3) := by decide +kernel
theorem dL_law_1406 : decode cL_law 1406 = .ok (.aload 4, 2) := by decide +kernel
theorem dL_law_1408 : decode cL_law 1408 = .ok (.iconst 0, 1) := by decide +kernel
theorem dL_law_1409 : decode cL_law 1409 = .ok (.daload, 1) := by decide +kernel
theorem dL_law_1410 : decode cL_law 1410 = .ok (.aload 4, 2) := by decide +kernel
theorem dL_law_1412 : decode cL_law 1412 = .ok (.iconst 0, 1) := by decide +kernel
theorem dL_law_1413 : decode cL_law 1413 = .ok (.daload, 1) := by decide +kernel
theorem dL_law_1414 : decode cL_law 1414 = .ok (.dcmp .l, 1) := by decide +kernel
theorem dL_law_1415 : decode cL_law 1415 = .ok (.ifCond .eq 11, 3) := by decide +kernel
theorem dL_law_1418 : decode cL_law 1418 = .ok (.fload 7, 2) := by decide +kernel
theorem dL_law_1420 : decode cL_law 1420 = .ok (.fload 7, 2) := by decide +kernel
theorem dL_law_1422 : decode cL_law 1422 = .ok (.fcmp .l, 1) := by decide +kernel
theorem dL_law_1423 : decode cL_law 1423 = .ok (.ifCond .ne 5, 3) := by decide +kernel
theorem dL_law_1426 : decode cL_law 1426 = .ok (.iconst 0, 1) := by decide +kernel
theorem dL_law_1427 : decode cL_law 1427 = .ok (.ireturn, 1) := by decide +kernel
theorem dL_law_1428 : decode cL_law 1428 = .ok (.goto 3, 3) := by decide +kernel
theorem dL_law_1431 : decode cL_law 1431 = .ok (.iinc 5 4, 3) := by decide +kernel
theorem dL_law_1434 : decode cL_law 1434 = .ok (.goto (-1406), 3) := by decide +kernel
theorem dL_law_1437 : decode cL_law 1437 = .ok (.iconst 1, 1) := by decide +kernel
theorem dL_law_1438 : decode cL_law 1438 = .ok (.ireturn, 1) := by decide +kernel
end
section
/-! the good words of the tables, all in one list, and which words are among them -/
def AW : List Cond := lw_tbl.filter goodWord
theorem aw_good {w : Cond} (h : w ∈ AW) : goodWord w = true := (List.mem_filter.mp h).2
theorem aw_tbl {w : Cond} (h : w ∈ AW) : w ∈ lw_tbl := (List.mem_filter.mp h).1
theorem aw_in {w : Cond} (i : Nat) (h : lw_tbl[i]? = some w) (g : goodWord w = true) : w ∈ AW := List.mem_filter.mpr ⟨List.mem_of_getElem? h, g⟩
abbrev aw (y : MethodName) (c : ByteArray) (n : Nat) (r : Option FieldType) : List Cond := Cond.code y c n r :: AW
theorem gAW {c0 : Cond} {ws : List Cond} (h : ∀ w ∈ ws, w ∈ AW) : GoodIn (c0 :: AW) ws := fun w hw => ⟨List.mem_cons_of_mem _ (h w hw), good_of_word (aw_good (h w hw))⟩
/-- the links of fields across the nest: they travel beside the words -/
abbrev NL : List (String × Nat × String × String × String × String) := [(RX8, 36, "Breakpoint$AlarmList", "kinds", "[I", "Breakpoint"), (RX9, 145, "Breakpoint$AlarmList", "kinds", "[I", "Breakpoint"), (RX8, 40, "Breakpoint$AlarmList", "numbers", "[I", "Breakpoint"), (RX9, 148, "Breakpoint$AlarmList", "numbers", "[I", "Breakpoint"), (RX9, 151, "Breakpoint$AlarmList", "starts", "[I", "Breakpoint"), (RX8, 31, "Breakpoint$AlarmList", "alarmCount", "I", "Breakpoint"), (RX9, 121, "Breakpoint$AlarmList", "alarmCount", "I", "Breakpoint"), (RX9, 130, "Breakpoint$CumulativeSums", "high", "I", "Breakpoint"), (RX9, 133, "Breakpoint$CumulativeSums", "low", "I", "Breakpoint"), (RX9, 136, "Breakpoint$PageHinkley", "sum", "I", "Breakpoint"), (RX9, 139, "Breakpoint$PageHinkley", "leastSum", "I", "Breakpoint"), (RX9, 174, "Breakpoint$Cutting", "cuts", "I", "Breakpoint"), (RX9, 181, "Breakpoint$Cutting", "price", "I", "Breakpoint"), (RX9, 214, "Breakpoint$Cutting", "stands", "Z", "Breakpoint"), (RX9, 192, "Breakpoint$Truth", "marked", "[Z", "Breakpoint"), (RX9, 200, "Breakpoint$Truth", "hits", "I", "Breakpoint"), (RX9, 203, "Breakpoint$Truth", "misses", "I", "Breakpoint"), (RX9, 206, "Breakpoint$Truth", "delays", "I", "Breakpoint")]
def nlw (z : String × Nat × String × String × String × String) : Cond := .fieldLinkNest z.1 z.2.1 z.2.2.1 z.2.2.2.1 z.2.2.2.2.1 z.2.2.2.2.2
def nwAll (U : State) : Prop := ∀ z ∈ NL, va_Nw (nlw z) U
theorem nwAll.same {u U : State} (h : u.vm = U.vm) (hN : nwAll u) : nwAll U := fun z hz => va_Nw.same rfl h (hN z hz)
theorem nwAll.warm {s U : State} (hW : s.WarmedH U.vm) (hN : nwAll s) : nwAll U := fun z hz => va_Nw.warmF hW (hN z hz)
theorem nw_use {args : Array Value} {s : State} (hN : nwAll s) {z : String × Nat × String × String × String × String} (hz : z ∈ NL) : (nlw z).before args s = true := va_Nw.use rfl (hN z hz)
theorem nq73 : (RX8, 36, "Breakpoint$AlarmList", "kinds", "[I", "Breakpoint") ∈ NL := List.mem_of_getElem? (i := 0) rfl
theorem nq74 : (RX9, 145, "Breakpoint$AlarmList", "kinds", "[I", "Breakpoint") ∈ NL := List.mem_of_getElem? (i := 1) rfl
theorem nq76 : (RX8, 40, "Breakpoint$AlarmList", "numbers", "[I", "Breakpoint") ∈ NL := List.mem_of_getElem? (i := 2) rfl
theorem nq77 : (RX9, 148, "Breakpoint$AlarmList", "numbers", "[I", "Breakpoint") ∈ NL := List.mem_of_getElem? (i := 3) rfl
theorem nq79 : (RX9, 151, "Breakpoint$AlarmList", "starts", "[I", "Breakpoint") ∈ NL := List.mem_of_getElem? (i := 4) rfl
theorem nq81 : (RX8, 31, "Breakpoint$AlarmList", "alarmCount", "I", "Breakpoint") ∈ NL := List.mem_of_getElem? (i := 5) rfl
theorem nq82 : (RX9, 121, "Breakpoint$AlarmList", "alarmCount", "I", "Breakpoint") ∈ NL := List.mem_of_getElem? (i := 6) rfl
theorem nq111 : (RX9, 130, "Breakpoint$CumulativeSums", "high", "I", "Breakpoint") ∈ NL := List.mem_of_getElem? (i := 7) rfl
theorem nq113 : (RX9, 133, "Breakpoint$CumulativeSums", "low", "I", "Breakpoint") ∈ NL := List.mem_of_getElem? (i := 8) rfl
theorem nq151 : (RX9, 136, "Breakpoint$PageHinkley", "sum", "I", "Breakpoint") ∈ NL := List.mem_of_getElem? (i := 9) rfl
theorem nq153 : (RX9, 139, "Breakpoint$PageHinkley", "leastSum", "I", "Breakpoint") ∈ NL := List.mem_of_getElem? (i := 10) rfl
theorem nq229 : (RX9, 174, "Breakpoint$Cutting", "cuts", "I", "Breakpoint") ∈ NL := List.mem_of_getElem? (i := 11) rfl
theorem nq231 : (RX9, 181, "Breakpoint$Cutting", "price", "I", "Breakpoint") ∈ NL := List.mem_of_getElem? (i := 12) rfl
theorem nq233 : (RX9, 214, "Breakpoint$Cutting", "stands", "Z", "Breakpoint") ∈ NL := List.mem_of_getElem? (i := 13) rfl
theorem nq251 : (RX9, 192, "Breakpoint$Truth", "marked", "[Z", "Breakpoint") ∈ NL := List.mem_of_getElem? (i := 14) rfl
theorem nq254 : (RX9, 200, "Breakpoint$Truth", "hits", "I", "Breakpoint") ∈ NL := List.mem_of_getElem? (i := 15) rfl
theorem nq256 : (RX9, 203, "Breakpoint$Truth", "misses", "I", "Breakpoint") ∈ NL := List.mem_of_getElem? (i := 16) rfl
theorem nq258 : (RX9, 206, "Breakpoint$Truth", "delays", "I", "Breakpoint") ∈ NL := List.mem_of_getElem? (i := 17) rfl
theorem nl_in : ∀ z ∈ NL, nlw z ∈ lw_tbl := by
  intro z hz
  simp only [NL, List.mem_cons, List.not_mem_nil, or_false] at hz
  rcases hz with rfl | rfl | rfl | rfl | rfl | rfl | rfl | rfl | rfl | rfl | rfl | rfl | rfl | rfl | rfl | rfl | rfl | rfl
  · exact List.mem_of_getElem? (i := 73) (by decide +kernel)
  · exact List.mem_of_getElem? (i := 74) (by decide +kernel)
  · exact List.mem_of_getElem? (i := 76) (by decide +kernel)
  · exact List.mem_of_getElem? (i := 77) (by decide +kernel)
  · exact List.mem_of_getElem? (i := 79) (by decide +kernel)
  · exact List.mem_of_getElem? (i := 81) (by decide +kernel)
  · exact List.mem_of_getElem? (i := 82) (by decide +kernel)
  · exact List.mem_of_getElem? (i := 111) (by decide +kernel)
  · exact List.mem_of_getElem? (i := 113) (by decide +kernel)
  · exact List.mem_of_getElem? (i := 151) (by decide +kernel)
  · exact List.mem_of_getElem? (i := 153) (by decide +kernel)
  · exact List.mem_of_getElem? (i := 229) (by decide +kernel)
  · exact List.mem_of_getElem? (i := 231) (by decide +kernel)
  · exact List.mem_of_getElem? (i := 233) (by decide +kernel)
  · exact List.mem_of_getElem? (i := 251) (by decide +kernel)
  · exact List.mem_of_getElem? (i := 254) (by decide +kernel)
  · exact List.mem_of_getElem? (i := 256) (by decide +kernel)
  · exact List.mem_of_getElem? (i := 258) (by decide +kernel)
theorem nw_of {args : Array Value} {s : State} (hts : ∀ w ∈ lw_tbl, w.before args s = true) : nwAll s := by
  intro z hz
  refine va_Nw.of rfl (hts (nlw z) ?_)
  exact nl_in z hz
theorem q0 : Cond.selects RX9 yX9_forgetCuttings yX9_forgetCuttings ∈ AW := aw_in 0 (by decide +kernel) rfl
theorem q1 : Cond.selects RX9 yX9_bestCutting yX9_bestCutting ∈ AW := aw_in 1 (by decide +kernel) rfl
theorem q2 : Cond.selects RX9 yX9_learntCosts yX9_learntCosts ∈ AW := aw_in 2 (by decide +kernel) rfl
theorem q3 : Cond.selects RX7 yX7_learnSegmentsTo yX7_learnSegmentsTo ∈ AW := aw_in 3 (by decide +kernel) rfl
theorem q4 : Cond.selects RX7 yX7_distanceFromMiddles yX7_distanceFromMiddles ∈ AW := aw_in 4 (by decide +kernel) rfl
theorem q5 : Cond.selects RX7 yX7_sortIn yX7_sortIn ∈ AW := aw_in 5 (by decide +kernel) rfl
theorem q6 : Cond.selects RX1 yX1_findFrom yX1_findFrom ∈ AW := aw_in 6 (by decide +kernel) rfl
theorem q7 : Cond.selects RX9 yX9_greedyCutting yX9_greedyCutting ∈ AW := aw_in 7 (by decide +kernel) rfl
theorem q9 : Cond.selects RX9 yX9_take yX9_take ∈ AW := aw_in 9 (by decide +kernel) rfl
theorem q10 : Cond.selects RX2 yX2_moveSums yX2_moveSums ∈ AW := aw_in 10 (by decide +kernel) rfl
theorem q11 : Cond.selects RX6 yX6_moveSum yX6_moveSum ∈ AW := aw_in 11 (by decide +kernel) rfl
theorem q12 : Cond.selects RX6 yX6_startOfGrowth yX6_startOfGrowth ∈ AW := aw_in 12 (by decide +kernel) rfl
theorem q13 : Cond.selects RX9 yX9_isValueNumber yX9_isValueNumber ∈ AW := aw_in 13 (by decide +kernel) rfl
theorem q14 : Cond.selects RX9 yX9_isSegment yX9_isSegment ∈ AW := aw_in 14 (by decide +kernel) rfl
theorem q15 : Cond.selects RX5 yX5_learnCuttingsTo yX5_learnCuttingsTo ∈ AW := aw_in 15 (by decide +kernel) rfl
theorem q16 : Cond.selects RX5 yX5_leastWithLastSegment yX5_leastWithLastSegment ∈ AW := aw_in 16 (by decide +kernel) rfl
theorem q17 : Cond.selects RX9 yX9_matchAlarms yX9_matchAlarms ∈ AW := aw_in 17 (by decide +kernel) rfl
theorem q18 : Cond.selects RX8 yX8_beginMatching yX8_beginMatching ∈ AW := aw_in 18 (by decide +kernel) rfl
theorem q19 : Cond.selects RX8 yX8_matchAlarm yX8_matchAlarm ∈ AW := aw_in 19 (by decide +kernel) rfl
theorem q20 : Cond.selects RX10 yX10_restsSums yX10_restsSums ∈ AW := aw_in 20 (by decide +kernel) rfl
theorem q21 : Cond.selects RX10 yX10_restsTest yX10_restsTest ∈ AW := aw_in 21 (by decide +kernel) rfl
theorem q22 : Cond.selects RX10 yX10_fails yX10_fails ∈ AW := aw_in 22 (by decide +kernel) rfl
theorem q23 : Cond.selects RX10 yX10_puts yX10_puts ∈ AW := aw_in 23 (by decide +kernel) rfl
theorem q24 : Cond.selects RX10 yX10_sums yX10_sums ∈ AW := aw_in 24 (by decide +kernel) rfl
theorem q25 : Cond.selects RX10 yX10_raises yX10_raises ∈ AW := aw_in 25 (by decide +kernel) rfl
theorem q26 : Cond.selects RX10 yX10_tests yX10_tests ∈ AW := aw_in 26 (by decide +kernel) rfl
theorem q27 : Cond.selects RX10 yX10_tells yX10_tells ∈ AW := aw_in 27 (by decide +kernel) rfl
theorem q28 : Cond.selects RX10 yX10_ofAlarm yX10_ofAlarm ∈ AW := aw_in 28 (by decide +kernel) rfl
theorem q29 : Cond.selects RX10 yX10_isSegment yX10_isSegment ∈ AW := aw_in 29 (by decide +kernel) rfl
theorem q30 : Cond.selects RX10 yX10_weighs yX10_weighs ∈ AW := aw_in 30 (by decide +kernel) rfl
theorem q31 : Cond.selects RX10 yX10_sorts yX10_sorts ∈ AW := aw_in 31 (by decide +kernel) rfl
theorem q32 : Cond.selects RX10 yX10_of yX10_of ∈ AW := aw_in 32 (by decide +kernel) rfl
theorem q33 : Cond.selects RX10 yX10_cuts yX10_cuts ∈ AW := aw_in 33 (by decide +kernel) rfl
theorem q34 : Cond.selects RX10 yX10_next yX10_next ∈ AW := aw_in 34 (by decide +kernel) rfl
theorem q35 : Cond.selects RX10 yX10_cutsGreedily yX10_cutsGreedily ∈ AW := aw_in 35 (by decide +kernel) rfl
theorem q36 : Cond.selects RX10 yX10_cut yX10_cut ∈ AW := aw_in 36 (by decide +kernel) rfl
theorem q37 : Cond.selects RX10 yX10_isNoWindow yX10_isNoWindow ∈ AW := aw_in 37 (by decide +kernel) rfl
theorem q38 : Cond.selects RX10 yX10_matches yX10_matches ∈ AW := aw_in 38 (by decide +kernel) rfl
theorem q39 : Cond.initialized RL ∈ AW := aw_in 39 (by decide +kernel) rfl
theorem q40 : Cond.initialized RX9 ∈ AW := aw_in 40 (by decide +kernel) rfl
theorem q41 : Cond.initialized RX0 ∈ AW := aw_in 41 (by decide +kernel) rfl
theorem q42 : Cond.initialized RX2 ∈ AW := aw_in 42 (by decide +kernel) rfl
theorem q43 : Cond.initialized RX6 ∈ AW := aw_in 43 (by decide +kernel) rfl
theorem q44 : Cond.initialized RX7 ∈ AW := aw_in 44 (by decide +kernel) rfl
theorem q45 : Cond.initialized RX5 ∈ AW := aw_in 45 (by decide +kernel) rfl
theorem q46 : Cond.initialized RX1 ∈ AW := aw_in 46 (by decide +kernel) rfl
theorem q47 : Cond.initialized RX3 ∈ AW := aw_in 47 (by decide +kernel) rfl
theorem q48 : Cond.initialized RX8 ∈ AW := aw_in 48 (by decide +kernel) rfl
theorem q49 : Cond.initialized RX10 ∈ AW := aw_in 49 (by decide +kernel) rfl
theorem q50 : Cond.initialized "java/lang/Throwable" ∈ AW := aw_in 50 (by decide +kernel) rfl
theorem q51 : Cond.initialized "java/lang/Exception" ∈ AW := aw_in 51 (by decide +kernel) rfl
theorem q52 : Cond.initialized "java/lang/RuntimeException" ∈ AW := aw_in 52 (by decide +kernel) rfl
theorem q53 : Cond.initialized "java/lang/IllegalArgumentException" ∈ AW := aw_in 53 (by decide +kernel) rfl
theorem q54 : Cond.initialized "java/lang/IllegalStateException" ∈ AW := aw_in 54 (by decide +kernel) rfl
theorem q55 : Cond.initialized RJ9 ∈ AW := aw_in 55 (by decide +kernel) rfl
theorem q56 : Cond.initialized "java/lang/IndexOutOfBoundsException" ∈ AW := aw_in 56 (by decide +kernel) rfl
theorem q57 : Cond.initialized RX4 ∈ AW := aw_in 57 (by decide +kernel) rfl
theorem q58 : Cond.classLink RL 8 RX9 ∈ AW := aw_in 58 (by decide +kernel) rfl
theorem q59 : Cond.instantiable RX9 12 ∈ AW := aw_in 59 (by decide +kernel) rfl
theorem q60 : Cond.methodLink RL 75 yX9_init ∈ AW := aw_in 60 (by decide +kernel) rfl
theorem q61 : Cond.instanceMethod yX9_init ∈ AW := aw_in 61 (by decide +kernel) rfl
theorem q62 : Cond.code yX9_init cX9_init 1 none ∈ AW := aw_in 62 (by decide +kernel) rfl
theorem q63 : Cond.methodLink RX9 1 objectInit ∈ AW := aw_in 63 (by decide +kernel) rfl
theorem q64 : Cond.instanceMethod objectInit ∈ AW := aw_in 64 (by decide +kernel) rfl
theorem q65 : Cond.code objectInit ⟨#[0xb1]⟩ 1 none ∈ AW := aw_in 65 (by decide +kernel) rfl
theorem q66 : Cond.classLink RX9 13 RX0 ∈ AW := aw_in 66 (by decide +kernel) rfl
theorem q67 : Cond.instantiable RX0 4 ∈ AW := aw_in 67 (by decide +kernel) rfl
theorem q68 : Cond.methodLink RX9 15 yX0_init ∈ AW := aw_in 68 (by decide +kernel) rfl
theorem q69 : Cond.instanceMethod yX0_init ∈ AW := aw_in 69 (by decide +kernel) rfl
theorem q70 : Cond.code yX0_init cX0_init 1 none ∈ AW := aw_in 70 (by decide +kernel) rfl
theorem q71 : Cond.methodLink RX0 3 objectInit ∈ AW := aw_in 71 (by decide +kernel) rfl
theorem q72 : Cond.fieldLink RX0 11 "Breakpoint$AlarmList" "kinds" "[I" ∈ AW := aw_in 72 (by decide +kernel) rfl
theorem q75 : Cond.fieldLink RX0 15 "Breakpoint$AlarmList" "numbers" "[I" ∈ AW := aw_in 75 (by decide +kernel) rfl
theorem q78 : Cond.fieldLink RX0 18 "Breakpoint$AlarmList" "starts" "[I" ∈ AW := aw_in 78 (by decide +kernel) rfl
theorem q80 : Cond.fieldLink RX0 21 "Breakpoint$AlarmList" "alarmCount" "I" ∈ AW := aw_in 80 (by decide +kernel) rfl
theorem q83 : Cond.laysFinal "Breakpoint$AlarmList" "Breakpoint$AlarmList" "kinds" "[I" ∈ AW := aw_in 83 (by decide +kernel) rfl
theorem q85 : Cond.laysFinal "Breakpoint$AlarmList" "Breakpoint$AlarmList" "numbers" "[I" ∈ AW := aw_in 85 (by decide +kernel) rfl
theorem q87 : Cond.laysFinal "Breakpoint$AlarmList" "Breakpoint$AlarmList" "starts" "[I" ∈ AW := aw_in 87 (by decide +kernel) rfl
theorem q89 : Cond.lays "Breakpoint$AlarmList" "Breakpoint$AlarmList" "alarmCount" "I" ∈ AW := aw_in 89 (by decide +kernel) rfl
theorem q92 : Cond.arrayClass .int ∈ AW := aw_in 92 (by decide +kernel) rfl
theorem q93 : Cond.classLink RX9 20 RX2 ∈ AW := aw_in 93 (by decide +kernel) rfl
theorem q94 : Cond.instantiable RX2 7 ∈ AW := aw_in 94 (by decide +kernel) rfl
theorem q95 : Cond.methodLink RX9 22 yX2_init ∈ AW := aw_in 95 (by decide +kernel) rfl
theorem q96 : Cond.instanceMethod yX2_init ∈ AW := aw_in 96 (by decide +kernel) rfl
theorem q97 : Cond.code yX2_init cX2_init 1 none ∈ AW := aw_in 97 (by decide +kernel) rfl
theorem q98 : Cond.methodLink RX2 3 objectInit ∈ AW := aw_in 98 (by decide +kernel) rfl
theorem q99 : Cond.methodLink RX2 9 yX2_setUp ∈ AW := aw_in 99 (by decide +kernel) rfl
theorem q100 : Cond.instanceMethod yX2_setUp ∈ AW := aw_in 100 (by decide +kernel) rfl
theorem q101 : Cond.selects RX2 yX2_setUp yX2_setUp ∈ AW := aw_in 101 (by decide +kernel) rfl
theorem q102 : Cond.code yX2_setUp cX2_setUp 4 none ∈ AW := aw_in 102 (by decide +kernel) rfl
theorem q103 : Cond.methodLink RX2 25 yX2_beginAnew ∈ AW := aw_in 103 (by decide +kernel) rfl
theorem q104 : Cond.instanceMethod yX2_beginAnew ∈ AW := aw_in 104 (by decide +kernel) rfl
theorem q105 : Cond.selects RX2 yX2_beginAnew yX2_beginAnew ∈ AW := aw_in 105 (by decide +kernel) rfl
theorem q106 : Cond.code yX2_beginAnew cX2_beginAnew 1 none ∈ AW := aw_in 106 (by decide +kernel) rfl
theorem q107 : Cond.fieldLink RX2 15 "Breakpoint$CumulativeSums" "target" "I" ∈ AW := aw_in 107 (by decide +kernel) rfl
theorem q108 : Cond.fieldLink RX2 19 "Breakpoint$CumulativeSums" "slack" "I" ∈ AW := aw_in 108 (by decide +kernel) rfl
theorem q109 : Cond.fieldLink RX2 22 "Breakpoint$CumulativeSums" "threshold" "I" ∈ AW := aw_in 109 (by decide +kernel) rfl
theorem q110 : Cond.fieldLink RX2 28 "Breakpoint$CumulativeSums" "high" "I" ∈ AW := aw_in 110 (by decide +kernel) rfl
theorem q112 : Cond.fieldLink RX2 31 "Breakpoint$CumulativeSums" "low" "I" ∈ AW := aw_in 112 (by decide +kernel) rfl
theorem q114 : Cond.fieldLink RX2 38 "Breakpoint$CumulativeSums" "highStart" "I" ∈ AW := aw_in 114 (by decide +kernel) rfl
theorem q115 : Cond.fieldLink RX2 46 "Breakpoint$CumulativeSums" "lowStart" "I" ∈ AW := aw_in 115 (by decide +kernel) rfl
theorem q116 : Cond.lays "Breakpoint$CumulativeSums" "Breakpoint$CumulativeSums" "target" "I" ∈ AW := aw_in 116 (by decide +kernel) rfl
theorem q118 : Cond.lays "Breakpoint$CumulativeSums" "Breakpoint$CumulativeSums" "slack" "I" ∈ AW := aw_in 118 (by decide +kernel) rfl
theorem q120 : Cond.lays "Breakpoint$CumulativeSums" "Breakpoint$CumulativeSums" "threshold" "I" ∈ AW := aw_in 120 (by decide +kernel) rfl
theorem q122 : Cond.lays "Breakpoint$CumulativeSums" "Breakpoint$CumulativeSums" "high" "I" ∈ AW := aw_in 122 (by decide +kernel) rfl
theorem q124 : Cond.lays "Breakpoint$CumulativeSums" "Breakpoint$CumulativeSums" "low" "I" ∈ AW := aw_in 124 (by decide +kernel) rfl
theorem q126 : Cond.lays "Breakpoint$CumulativeSums" "Breakpoint$CumulativeSums" "highStart" "I" ∈ AW := aw_in 126 (by decide +kernel) rfl
theorem q128 : Cond.lays "Breakpoint$CumulativeSums" "Breakpoint$CumulativeSums" "lowStart" "I" ∈ AW := aw_in 128 (by decide +kernel) rfl
theorem q131 : Cond.classLink RX9 27 RX6 ∈ AW := aw_in 131 (by decide +kernel) rfl
theorem q132 : Cond.instantiable RX6 8 ∈ AW := aw_in 132 (by decide +kernel) rfl
theorem q133 : Cond.methodLink RX9 29 yX6_init ∈ AW := aw_in 133 (by decide +kernel) rfl
theorem q134 : Cond.instanceMethod yX6_init ∈ AW := aw_in 134 (by decide +kernel) rfl
theorem q135 : Cond.code yX6_init cX6_init 1 none ∈ AW := aw_in 135 (by decide +kernel) rfl
theorem q136 : Cond.methodLink RX6 3 objectInit ∈ AW := aw_in 136 (by decide +kernel) rfl
theorem q137 : Cond.methodLink RX6 11 yX6_setUp ∈ AW := aw_in 137 (by decide +kernel) rfl
theorem q138 : Cond.instanceMethod yX6_setUp ∈ AW := aw_in 138 (by decide +kernel) rfl
theorem q139 : Cond.selects RX6 yX6_setUp yX6_setUp ∈ AW := aw_in 139 (by decide +kernel) rfl
theorem q140 : Cond.code yX6_setUp cX6_setUp 4 none ∈ AW := aw_in 140 (by decide +kernel) rfl
theorem q141 : Cond.methodLink RX6 25 yX6_beginAnew ∈ AW := aw_in 141 (by decide +kernel) rfl
theorem q142 : Cond.instanceMethod yX6_beginAnew ∈ AW := aw_in 142 (by decide +kernel) rfl
theorem q143 : Cond.selects RX6 yX6_beginAnew yX6_beginAnew ∈ AW := aw_in 143 (by decide +kernel) rfl
theorem q144 : Cond.code yX6_beginAnew cX6_beginAnew 1 none ∈ AW := aw_in 144 (by decide +kernel) rfl
theorem q145 : Cond.fieldLink RX6 15 "Breakpoint$PageHinkley" "allowance" "I" ∈ AW := aw_in 145 (by decide +kernel) rfl
theorem q146 : Cond.fieldLink RX6 19 "Breakpoint$PageHinkley" "forgetting" "I" ∈ AW := aw_in 146 (by decide +kernel) rfl
theorem q147 : Cond.fieldLink RX6 22 "Breakpoint$PageHinkley" "limit" "I" ∈ AW := aw_in 147 (by decide +kernel) rfl
theorem q148 : Cond.fieldLink RX6 28 "Breakpoint$PageHinkley" "counted" "I" ∈ AW := aw_in 148 (by decide +kernel) rfl
theorem q149 : Cond.fieldLink RX6 31 "Breakpoint$PageHinkley" "total" "I" ∈ AW := aw_in 149 (by decide +kernel) rfl
theorem q150 : Cond.fieldLink RX6 34 "Breakpoint$PageHinkley" "sum" "I" ∈ AW := aw_in 150 (by decide +kernel) rfl
theorem q152 : Cond.fieldLink RX6 37 "Breakpoint$PageHinkley" "leastSum" "I" ∈ AW := aw_in 152 (by decide +kernel) rfl
theorem q154 : Cond.fieldLink RX6 40 "Breakpoint$PageHinkley" "leastNumber" "I" ∈ AW := aw_in 154 (by decide +kernel) rfl
theorem q155 : Cond.lays "Breakpoint$PageHinkley" "Breakpoint$PageHinkley" "allowance" "I" ∈ AW := aw_in 155 (by decide +kernel) rfl
theorem q157 : Cond.lays "Breakpoint$PageHinkley" "Breakpoint$PageHinkley" "forgetting" "I" ∈ AW := aw_in 157 (by decide +kernel) rfl
theorem q159 : Cond.lays "Breakpoint$PageHinkley" "Breakpoint$PageHinkley" "limit" "I" ∈ AW := aw_in 159 (by decide +kernel) rfl
theorem q161 : Cond.lays "Breakpoint$PageHinkley" "Breakpoint$PageHinkley" "counted" "I" ∈ AW := aw_in 161 (by decide +kernel) rfl
theorem q163 : Cond.lays "Breakpoint$PageHinkley" "Breakpoint$PageHinkley" "total" "I" ∈ AW := aw_in 163 (by decide +kernel) rfl
theorem q165 : Cond.lays "Breakpoint$PageHinkley" "Breakpoint$PageHinkley" "sum" "I" ∈ AW := aw_in 165 (by decide +kernel) rfl
theorem q167 : Cond.lays "Breakpoint$PageHinkley" "Breakpoint$PageHinkley" "leastSum" "I" ∈ AW := aw_in 167 (by decide +kernel) rfl
theorem q169 : Cond.lays "Breakpoint$PageHinkley" "Breakpoint$PageHinkley" "leastNumber" "I" ∈ AW := aw_in 169 (by decide +kernel) rfl
theorem q172 : Cond.classLink RX9 34 RX7 ∈ AW := aw_in 172 (by decide +kernel) rfl
theorem q173 : Cond.instantiable RX7 3 ∈ AW := aw_in 173 (by decide +kernel) rfl
theorem q174 : Cond.methodLink RX9 36 yX7_init ∈ AW := aw_in 174 (by decide +kernel) rfl
theorem q175 : Cond.instanceMethod yX7_init ∈ AW := aw_in 175 (by decide +kernel) rfl
theorem q176 : Cond.code yX7_init cX7_init 1 none ∈ AW := aw_in 176 (by decide +kernel) rfl
theorem q177 : Cond.methodLink RX7 3 objectInit ∈ AW := aw_in 177 (by decide +kernel) rfl
theorem q178 : Cond.methodLink RX7 9 yX7_triangle ∈ AW := aw_in 178 (by decide +kernel) rfl
theorem q179 : Cond.static yX7_triangle ∈ AW := aw_in 179 (by decide +kernel) rfl
theorem q180 : Cond.code yX7_triangle cX7_triangle 1 (some .int) ∈ AW := aw_in 180 (by decide +kernel) rfl
theorem q181 : Cond.fieldLink RX7 15 "Breakpoint$SegmentCosts" "costs" "[I" ∈ AW := aw_in 181 (by decide +kernel) rfl
theorem q182 : Cond.fieldLink RX7 19 "Breakpoint$SegmentCosts" "sorted" "[I" ∈ AW := aw_in 182 (by decide +kernel) rfl
theorem q183 : Cond.fieldLink RX7 22 "Breakpoint$SegmentCosts" "learnt" "I" ∈ AW := aw_in 183 (by decide +kernel) rfl
theorem q184 : Cond.laysFinal "Breakpoint$SegmentCosts" "Breakpoint$SegmentCosts" "costs" "[I" ∈ AW := aw_in 184 (by decide +kernel) rfl
theorem q186 : Cond.laysFinal "Breakpoint$SegmentCosts" "Breakpoint$SegmentCosts" "sorted" "[I" ∈ AW := aw_in 186 (by decide +kernel) rfl
theorem q188 : Cond.lays "Breakpoint$SegmentCosts" "Breakpoint$SegmentCosts" "learnt" "I" ∈ AW := aw_in 188 (by decide +kernel) rfl
theorem q191 : Cond.classLink RX9 41 RX5 ∈ AW := aw_in 191 (by decide +kernel) rfl
theorem q192 : Cond.instantiable RX5 2 ∈ AW := aw_in 192 (by decide +kernel) rfl
theorem q193 : Cond.methodLink RX9 43 yX5_init ∈ AW := aw_in 193 (by decide +kernel) rfl
theorem q194 : Cond.instanceMethod yX5_init ∈ AW := aw_in 194 (by decide +kernel) rfl
theorem q195 : Cond.code yX5_init cX5_init 1 none ∈ AW := aw_in 195 (by decide +kernel) rfl
theorem q196 : Cond.methodLink RX5 3 objectInit ∈ AW := aw_in 196 (by decide +kernel) rfl
theorem q197 : Cond.methodLink RX5 9 yX7_triangle ∈ AW := aw_in 197 (by decide +kernel) rfl
theorem q198 : Cond.fieldLink RX5 15 "Breakpoint$LeastCosts" "least" "[I" ∈ AW := aw_in 198 (by decide +kernel) rfl
theorem q199 : Cond.fieldLink RX5 21 "Breakpoint$LeastCosts" "learnt" "I" ∈ AW := aw_in 199 (by decide +kernel) rfl
theorem q200 : Cond.laysFinal "Breakpoint$LeastCosts" "Breakpoint$LeastCosts" "least" "[I" ∈ AW := aw_in 200 (by decide +kernel) rfl
theorem q202 : Cond.lays "Breakpoint$LeastCosts" "Breakpoint$LeastCosts" "learnt" "I" ∈ AW := aw_in 202 (by decide +kernel) rfl
theorem q205 : Cond.classLink RX9 48 RX1 ∈ AW := aw_in 205 (by decide +kernel) rfl
theorem q206 : Cond.instantiable RX1 3 ∈ AW := aw_in 206 (by decide +kernel) rfl
theorem q207 : Cond.methodLink RX9 50 yX1_init ∈ AW := aw_in 207 (by decide +kernel) rfl
theorem q208 : Cond.instanceMethod yX1_init ∈ AW := aw_in 208 (by decide +kernel) rfl
theorem q209 : Cond.code yX1_init cX1_init 1 none ∈ AW := aw_in 209 (by decide +kernel) rfl
theorem q210 : Cond.methodLink RX1 3 objectInit ∈ AW := aw_in 210 (by decide +kernel) rfl
theorem q211 : Cond.fieldLink RX1 9 "Breakpoint$BestSearch" "priceFrom" "[I" ∈ AW := aw_in 211 (by decide +kernel) rfl
theorem q212 : Cond.fieldLink RX1 15 "Breakpoint$BestSearch" "cutsFrom" "[I" ∈ AW := aw_in 212 (by decide +kernel) rfl
theorem q213 : Cond.fieldLink RX1 18 "Breakpoint$BestSearch" "nextCut" "[I" ∈ AW := aw_in 213 (by decide +kernel) rfl
theorem q214 : Cond.laysFinal "Breakpoint$BestSearch" "Breakpoint$BestSearch" "priceFrom" "[I" ∈ AW := aw_in 214 (by decide +kernel) rfl
theorem q216 : Cond.laysFinal "Breakpoint$BestSearch" "Breakpoint$BestSearch" "cutsFrom" "[I" ∈ AW := aw_in 216 (by decide +kernel) rfl
theorem q218 : Cond.laysFinal "Breakpoint$BestSearch" "Breakpoint$BestSearch" "nextCut" "[I" ∈ AW := aw_in 218 (by decide +kernel) rfl
theorem q221 : Cond.classLink RX9 55 RX3 ∈ AW := aw_in 221 (by decide +kernel) rfl
theorem q222 : Cond.instantiable RX3 4 ∈ AW := aw_in 222 (by decide +kernel) rfl
theorem q223 : Cond.methodLink RX9 57 yX3_init ∈ AW := aw_in 223 (by decide +kernel) rfl
theorem q224 : Cond.instanceMethod yX3_init ∈ AW := aw_in 224 (by decide +kernel) rfl
theorem q225 : Cond.code yX3_init cX3_init 1 none ∈ AW := aw_in 225 (by decide +kernel) rfl
theorem q226 : Cond.methodLink RX3 3 objectInit ∈ AW := aw_in 226 (by decide +kernel) rfl
theorem q227 : Cond.fieldLink RX3 9 "Breakpoint$Cutting" "cutAt" "[Z" ∈ AW := aw_in 227 (by decide +kernel) rfl
theorem q228 : Cond.fieldLink RX3 15 "Breakpoint$Cutting" "cuts" "I" ∈ AW := aw_in 228 (by decide +kernel) rfl
theorem q230 : Cond.fieldLink RX3 19 "Breakpoint$Cutting" "price" "I" ∈ AW := aw_in 230 (by decide +kernel) rfl
theorem q232 : Cond.fieldLink RX3 22 "Breakpoint$Cutting" "stands" "Z" ∈ AW := aw_in 232 (by decide +kernel) rfl
theorem q234 : Cond.laysFinal "Breakpoint$Cutting" "Breakpoint$Cutting" "cutAt" "[Z" ∈ AW := aw_in 234 (by decide +kernel) rfl
theorem q236 : Cond.lays "Breakpoint$Cutting" "Breakpoint$Cutting" "cuts" "I" ∈ AW := aw_in 236 (by decide +kernel) rfl
theorem q238 : Cond.lays "Breakpoint$Cutting" "Breakpoint$Cutting" "price" "I" ∈ AW := aw_in 238 (by decide +kernel) rfl
theorem q240 : Cond.lays "Breakpoint$Cutting" "Breakpoint$Cutting" "stands" "Z" ∈ AW := aw_in 240 (by decide +kernel) rfl
theorem q243 : Cond.arrayClass .boolean ∈ AW := aw_in 243 (by decide +kernel) rfl
theorem q244 : Cond.classLink RX9 65 RX8 ∈ AW := aw_in 244 (by decide +kernel) rfl
theorem q245 : Cond.instantiable RX8 5 ∈ AW := aw_in 245 (by decide +kernel) rfl
theorem q246 : Cond.methodLink RX9 67 yX8_init ∈ AW := aw_in 246 (by decide +kernel) rfl
theorem q247 : Cond.instanceMethod yX8_init ∈ AW := aw_in 247 (by decide +kernel) rfl
theorem q248 : Cond.code yX8_init cX8_init 1 none ∈ AW := aw_in 248 (by decide +kernel) rfl
theorem q249 : Cond.methodLink RX8 3 objectInit ∈ AW := aw_in 249 (by decide +kernel) rfl
theorem q250 : Cond.fieldLink RX8 9 "Breakpoint$Truth" "marked" "[Z" ∈ AW := aw_in 250 (by decide +kernel) rfl
theorem q252 : Cond.fieldLink RX8 15 "Breakpoint$Truth" "taken" "[Z" ∈ AW := aw_in 252 (by decide +kernel) rfl
theorem q253 : Cond.fieldLink RX8 18 "Breakpoint$Truth" "hits" "I" ∈ AW := aw_in 253 (by decide +kernel) rfl
theorem q255 : Cond.fieldLink RX8 22 "Breakpoint$Truth" "misses" "I" ∈ AW := aw_in 255 (by decide +kernel) rfl
theorem q257 : Cond.fieldLink RX8 25 "Breakpoint$Truth" "delays" "I" ∈ AW := aw_in 257 (by decide +kernel) rfl
theorem q259 : Cond.laysFinal "Breakpoint$Truth" "Breakpoint$Truth" "marked" "[Z" ∈ AW := aw_in 259 (by decide +kernel) rfl
theorem q261 : Cond.laysFinal "Breakpoint$Truth" "Breakpoint$Truth" "taken" "[Z" ∈ AW := aw_in 261 (by decide +kernel) rfl
theorem q263 : Cond.lays "Breakpoint$Truth" "Breakpoint$Truth" "hits" "I" ∈ AW := aw_in 263 (by decide +kernel) rfl
theorem q265 : Cond.lays "Breakpoint$Truth" "Breakpoint$Truth" "misses" "I" ∈ AW := aw_in 265 (by decide +kernel) rfl
theorem q267 : Cond.lays "Breakpoint$Truth" "Breakpoint$Truth" "delays" "I" ∈ AW := aw_in 267 (by decide +kernel) rfl
theorem q270 : Cond.fieldLink RX9 9 "Breakpoint" "values" "[I" ∈ AW := aw_in 270 (by decide +kernel) rfl
theorem q271 : Cond.fieldLink RX9 16 "Breakpoint" "alarmList" "LBreakpoint$AlarmList;" ∈ AW := aw_in 271 (by decide +kernel) rfl
theorem q272 : Cond.fieldLink RX9 23 "Breakpoint" "sums" "LBreakpoint$CumulativeSums;" ∈ AW := aw_in 272 (by decide +kernel) rfl
theorem q273 : Cond.fieldLink RX9 30 "Breakpoint" "test" "LBreakpoint$PageHinkley;" ∈ AW := aw_in 273 (by decide +kernel) rfl
theorem q274 : Cond.fieldLink RX9 37 "Breakpoint" "segmentCosts" "LBreakpoint$SegmentCosts;" ∈ AW := aw_in 274 (by decide +kernel) rfl
theorem q275 : Cond.fieldLink RX9 44 "Breakpoint" "leastCosts" "LBreakpoint$LeastCosts;" ∈ AW := aw_in 275 (by decide +kernel) rfl
theorem q276 : Cond.fieldLink RX9 51 "Breakpoint" "bestSearch" "LBreakpoint$BestSearch;" ∈ AW := aw_in 276 (by decide +kernel) rfl
theorem q277 : Cond.fieldLink RX9 58 "Breakpoint" "best" "LBreakpoint$Cutting;" ∈ AW := aw_in 277 (by decide +kernel) rfl
theorem q278 : Cond.fieldLink RX9 62 "Breakpoint" "greedy" "LBreakpoint$Cutting;" ∈ AW := aw_in 278 (by decide +kernel) rfl
theorem q279 : Cond.fieldLink RX9 68 "Breakpoint" "truth" "LBreakpoint$Truth;" ∈ AW := aw_in 279 (by decide +kernel) rfl
theorem q280 : Cond.fieldLink RX9 72 "Breakpoint" "valueCount" "I" ∈ AW := aw_in 280 (by decide +kernel) rfl
theorem q281 : Cond.fieldLink RX9 76 "Breakpoint" "penalty" "I" ∈ AW := aw_in 281 (by decide +kernel) rfl
theorem q282 : Cond.laysFinal "Breakpoint" "Breakpoint" "values" "[I" ∈ AW := aw_in 282 (by decide +kernel) rfl
theorem q284 : Cond.laysFinal "Breakpoint" "Breakpoint" "alarmList" "LBreakpoint$AlarmList;" ∈ AW := aw_in 284 (by decide +kernel) rfl
theorem q286 : Cond.laysFinal "Breakpoint" "Breakpoint" "sums" "LBreakpoint$CumulativeSums;" ∈ AW := aw_in 286 (by decide +kernel) rfl
theorem q288 : Cond.laysFinal "Breakpoint" "Breakpoint" "test" "LBreakpoint$PageHinkley;" ∈ AW := aw_in 288 (by decide +kernel) rfl
theorem q290 : Cond.laysFinal "Breakpoint" "Breakpoint" "segmentCosts" "LBreakpoint$SegmentCosts;" ∈ AW := aw_in 290 (by decide +kernel) rfl
theorem q292 : Cond.laysFinal "Breakpoint" "Breakpoint" "leastCosts" "LBreakpoint$LeastCosts;" ∈ AW := aw_in 292 (by decide +kernel) rfl
theorem q294 : Cond.laysFinal "Breakpoint" "Breakpoint" "bestSearch" "LBreakpoint$BestSearch;" ∈ AW := aw_in 294 (by decide +kernel) rfl
theorem q296 : Cond.laysFinal "Breakpoint" "Breakpoint" "best" "LBreakpoint$Cutting;" ∈ AW := aw_in 296 (by decide +kernel) rfl
theorem q298 : Cond.laysFinal "Breakpoint" "Breakpoint" "greedy" "LBreakpoint$Cutting;" ∈ AW := aw_in 298 (by decide +kernel) rfl
theorem q300 : Cond.laysFinal "Breakpoint" "Breakpoint" "truth" "LBreakpoint$Truth;" ∈ AW := aw_in 300 (by decide +kernel) rfl
theorem q302 : Cond.lays "Breakpoint" "Breakpoint" "valueCount" "I" ∈ AW := aw_in 302 (by decide +kernel) rfl
theorem q304 : Cond.lays "Breakpoint" "Breakpoint" "penalty" "I" ∈ AW := aw_in 304 (by decide +kernel) rfl
theorem q307 : Cond.methodLink RL 79 yX9_clear ∈ AW := aw_in 307 (by decide +kernel) rfl
theorem q308 : Cond.instanceMethod yX9_clear ∈ AW := aw_in 308 (by decide +kernel) rfl
theorem q309 : Cond.selects RX9 yX9_clear yX9_clear ∈ AW := aw_in 309 (by decide +kernel) rfl
theorem q310 : Cond.code yX9_clear cX9_clear 2 (some .int) ∈ AW := aw_in 310 (by decide +kernel) rfl
theorem q311 : Cond.methodLink RX9 79 yX0_removeAll ∈ AW := aw_in 311 (by decide +kernel) rfl
theorem q312 : Cond.instanceMethod yX0_removeAll ∈ AW := aw_in 312 (by decide +kernel) rfl
theorem q313 : Cond.selects RX0 yX0_removeAll yX0_removeAll ∈ AW := aw_in 313 (by decide +kernel) rfl
theorem q314 : Cond.code yX0_removeAll cX0_removeAll 1 none ∈ AW := aw_in 314 (by decide +kernel) rfl
theorem q315 : Cond.methodLink RX9 82 yX8_removeMarks ∈ AW := aw_in 315 (by decide +kernel) rfl
theorem q316 : Cond.instanceMethod yX8_removeMarks ∈ AW := aw_in 316 (by decide +kernel) rfl
theorem q317 : Cond.selects RX8 yX8_removeMarks yX8_removeMarks ∈ AW := aw_in 317 (by decide +kernel) rfl
theorem q318 : Cond.code yX8_removeMarks cX8_removeMarks 2 none ∈ AW := aw_in 318 (by decide +kernel) rfl
theorem q319 : Cond.methodLink RX9 85 yX2_beginAnew ∈ AW := aw_in 319 (by decide +kernel) rfl
theorem q320 : Cond.methodLink RX9 88 yX6_beginAnew ∈ AW := aw_in 320 (by decide +kernel) rfl
theorem q321 : Cond.methodLink RX9 89 yX7_forget ∈ AW := aw_in 321 (by decide +kernel) rfl
theorem q322 : Cond.instanceMethod yX7_forget ∈ AW := aw_in 322 (by decide +kernel) rfl
theorem q323 : Cond.selects RX7 yX7_forget yX7_forget ∈ AW := aw_in 323 (by decide +kernel) rfl
theorem q324 : Cond.code yX7_forget cX7_forget 1 none ∈ AW := aw_in 324 (by decide +kernel) rfl
theorem q325 : Cond.methodLink RX9 92 yX5_forget ∈ AW := aw_in 325 (by decide +kernel) rfl
theorem q326 : Cond.instanceMethod yX5_forget ∈ AW := aw_in 326 (by decide +kernel) rfl
theorem q327 : Cond.selects RX5 yX5_forget yX5_forget ∈ AW := aw_in 327 (by decide +kernel) rfl
theorem q328 : Cond.code yX5_forget cX5_forget 1 none ∈ AW := aw_in 328 (by decide +kernel) rfl
theorem q329 : Cond.methodLink RX9 93 yX9_forgetCuttings ∈ AW := aw_in 329 (by decide +kernel) rfl
theorem q331 : Cond.instanceMethod yX9_forgetCuttings ∈ AW := aw_in 331 (by decide +kernel) rfl
theorem q332 : Cond.code yX9_forgetCuttings cX9_forgetCuttings 1 none ∈ AW := aw_in 332 (by decide +kernel) rfl
theorem q333 : Cond.methodLink RL 107 yX9_size ∈ AW := aw_in 333 (by decide +kernel) rfl
theorem q334 : Cond.instanceMethod yX9_size ∈ AW := aw_in 334 (by decide +kernel) rfl
theorem q335 : Cond.selects RX9 yX9_size yX9_size ∈ AW := aw_in 335 (by decide +kernel) rfl
theorem q336 : Cond.code yX9_size cX9_size 1 (some .int) ∈ AW := aw_in 336 (by decide +kernel) rfl
theorem q337 : Cond.methodLink RL 114 yX9_highSum ∈ AW := aw_in 337 (by decide +kernel) rfl
theorem q338 : Cond.instanceMethod yX9_highSum ∈ AW := aw_in 338 (by decide +kernel) rfl
theorem q339 : Cond.selects RX9 yX9_highSum yX9_highSum ∈ AW := aw_in 339 (by decide +kernel) rfl
theorem q340 : Cond.code yX9_highSum cX9_highSum 1 (some .int) ∈ AW := aw_in 340 (by decide +kernel) rfl
theorem q341 : Cond.methodLink RL 118 yX9_lowSum ∈ AW := aw_in 341 (by decide +kernel) rfl
theorem q342 : Cond.instanceMethod yX9_lowSum ∈ AW := aw_in 342 (by decide +kernel) rfl
theorem q343 : Cond.selects RX9 yX9_lowSum yX9_lowSum ∈ AW := aw_in 343 (by decide +kernel) rfl
theorem q344 : Cond.code yX9_lowSum cX9_lowSum 1 (some .int) ∈ AW := aw_in 344 (by decide +kernel) rfl
theorem q345 : Cond.methodLink RL 122 yX9_testSum ∈ AW := aw_in 345 (by decide +kernel) rfl
theorem q346 : Cond.instanceMethod yX9_testSum ∈ AW := aw_in 346 (by decide +kernel) rfl
theorem q347 : Cond.selects RX9 yX9_testSum yX9_testSum ∈ AW := aw_in 347 (by decide +kernel) rfl
theorem q348 : Cond.code yX9_testSum cX9_testSum 1 (some .int) ∈ AW := aw_in 348 (by decide +kernel) rfl
theorem q349 : Cond.methodLink RL 126 yX9_alarms ∈ AW := aw_in 349 (by decide +kernel) rfl
theorem q350 : Cond.instanceMethod yX9_alarms ∈ AW := aw_in 350 (by decide +kernel) rfl
theorem q351 : Cond.selects RX9 yX9_alarms yX9_alarms ∈ AW := aw_in 351 (by decide +kernel) rfl
theorem q352 : Cond.code yX9_alarms cX9_alarms 1 (some .int) ∈ AW := aw_in 352 (by decide +kernel) rfl
theorem q353 : Cond.methodLink RL 146 yX9_changes ∈ AW := aw_in 353 (by decide +kernel) rfl
theorem q354 : Cond.instanceMethod yX9_changes ∈ AW := aw_in 354 (by decide +kernel) rfl
theorem q355 : Cond.selects RX9 yX9_changes yX9_changes ∈ AW := aw_in 355 (by decide +kernel) rfl
theorem q356 : Cond.code yX9_changes cX9_changes 1 (some .int) ∈ AW := aw_in 356 (by decide +kernel) rfl
theorem q357 : Cond.methodLink RX9 170 yX9_bestCutting ∈ AW := aw_in 357 (by decide +kernel) rfl
theorem q359 : Cond.instanceMethod yX9_bestCutting ∈ AW := aw_in 359 (by decide +kernel) rfl
theorem q360 : Cond.code yX9_bestCutting cX9_bestCutting 2 (some (( .object "Breakpoint$Cutting" ))) ∈ AW := aw_in 360 (by decide +kernel) rfl
theorem q361 : Cond.methodLink RX9 158 yX9_learntCosts ∈ AW := aw_in 361 (by decide +kernel) rfl
theorem q363 : Cond.instanceMethod yX9_learntCosts ∈ AW := aw_in 363 (by decide +kernel) rfl
theorem q364 : Cond.code yX9_learntCosts cX9_learntCosts 1 (some (( .object "Breakpoint$SegmentCosts" ))) ∈ AW := aw_in 364 (by decide +kernel) rfl
theorem q365 : Cond.methodLink RX9 218 yX7_learn ∈ AW := aw_in 365 (by decide +kernel) rfl
theorem q366 : Cond.instanceMethod yX7_learn ∈ AW := aw_in 366 (by decide +kernel) rfl
theorem q367 : Cond.selects RX7 yX7_learn yX7_learn ∈ AW := aw_in 367 (by decide +kernel) rfl
theorem q368 : Cond.code yX7_learn cX7_learn 4 none ∈ AW := aw_in 368 (by decide +kernel) rfl
theorem q369 : Cond.methodLink RX7 26 yX7_learnSegmentsTo ∈ AW := aw_in 369 (by decide +kernel) rfl
theorem q371 : Cond.instanceMethod yX7_learnSegmentsTo ∈ AW := aw_in 371 (by decide +kernel) rfl
theorem q372 : Cond.code yX7_learnSegmentsTo cX7_learnSegmentsTo 7 none ∈ AW := aw_in 372 (by decide +kernel) rfl
theorem q373 : Cond.methodLink RX7 34 yX7_distanceFromMiddles ∈ AW := aw_in 373 (by decide +kernel) rfl
theorem q375 : Cond.instanceMethod yX7_distanceFromMiddles ∈ AW := aw_in 375 (by decide +kernel) rfl
theorem q376 : Cond.code yX7_distanceFromMiddles cX7_distanceFromMiddles 5 (some .int) ∈ AW := aw_in 376 (by decide +kernel) rfl
theorem q377 : Cond.methodLink RX7 30 yX7_sortIn ∈ AW := aw_in 377 (by decide +kernel) rfl
theorem q379 : Cond.instanceMethod yX7_sortIn ∈ AW := aw_in 379 (by decide +kernel) rfl
theorem q380 : Cond.code yX7_sortIn cX7_sortIn 4 none ∈ AW := aw_in 380 (by decide +kernel) rfl
theorem q381 : Cond.methodLink RX9 221 yX1_find ∈ AW := aw_in 381 (by decide +kernel) rfl
theorem q382 : Cond.instanceMethod yX1_find ∈ AW := aw_in 382 (by decide +kernel) rfl
theorem q383 : Cond.selects RX1 yX1_find yX1_find ∈ AW := aw_in 383 (by decide +kernel) rfl
theorem q384 : Cond.code yX1_find cX1_find 7 none ∈ AW := aw_in 384 (by decide +kernel) rfl
theorem q385 : Cond.methodLink RX1 21 yX1_findFrom ∈ AW := aw_in 385 (by decide +kernel) rfl
theorem q387 : Cond.instanceMethod yX1_findFrom ∈ AW := aw_in 387 (by decide +kernel) rfl
theorem q388 : Cond.code yX1_findFrom cX1_findFrom 11 none ∈ AW := aw_in 388 (by decide +kernel) rfl
theorem q389 : Cond.methodLink RX1 34 yX7_of ∈ AW := aw_in 389 (by decide +kernel) rfl
theorem q390 : Cond.instanceMethod yX7_of ∈ AW := aw_in 390 (by decide +kernel) rfl
theorem q391 : Cond.selects RX7 yX7_of yX7_of ∈ AW := aw_in 391 (by decide +kernel) rfl
theorem q392 : Cond.code yX7_of cX7_of 3 (some .int) ∈ AW := aw_in 392 (by decide +kernel) rfl
theorem q393 : Cond.methodLink RX1 25 yX3_join ∈ AW := aw_in 393 (by decide +kernel) rfl
theorem q394 : Cond.instanceMethod yX3_join ∈ AW := aw_in 394 (by decide +kernel) rfl
theorem q395 : Cond.selects RX3 yX3_join yX3_join ∈ AW := aw_in 395 (by decide +kernel) rfl
theorem q396 : Cond.code yX3_join cX3_join 2 none ∈ AW := aw_in 396 (by decide +kernel) rfl
theorem q397 : Cond.methodLink RX1 30 yX3_cut ∈ AW := aw_in 397 (by decide +kernel) rfl
theorem q398 : Cond.instanceMethod yX3_cut ∈ AW := aw_in 398 (by decide +kernel) rfl
theorem q399 : Cond.selects RX3 yX3_cut yX3_cut ∈ AW := aw_in 399 (by decide +kernel) rfl
theorem q400 : Cond.code yX3_cut cX3_cut 2 none ∈ AW := aw_in 400 (by decide +kernel) rfl
theorem q401 : Cond.methodLink RX9 225 yX3_settle ∈ AW := aw_in 401 (by decide +kernel) rfl
theorem q402 : Cond.instanceMethod yX3_settle ∈ AW := aw_in 402 (by decide +kernel) rfl
theorem q403 : Cond.selects RX3 yX3_settle yX3_settle ∈ AW := aw_in 403 (by decide +kernel) rfl
theorem q404 : Cond.code yX3_settle cX3_settle 6 none ∈ AW := aw_in 404 (by decide +kernel) rfl
theorem q405 : Cond.methodLink RX3 26 yX7_of ∈ AW := aw_in 405 (by decide +kernel) rfl
theorem q406 : Cond.methodLink RL 153 yX9_bestCost ∈ AW := aw_in 406 (by decide +kernel) rfl
theorem q407 : Cond.instanceMethod yX9_bestCost ∈ AW := aw_in 407 (by decide +kernel) rfl
theorem q408 : Cond.selects RX9 yX9_bestCost yX9_bestCost ∈ AW := aw_in 408 (by decide +kernel) rfl
theorem q409 : Cond.code yX9_bestCost cX9_bestCost 1 (some .int) ∈ AW := aw_in 409 (by decide +kernel) rfl
theorem q410 : Cond.methodLink RL 160 yX9_greedyChanges ∈ AW := aw_in 410 (by decide +kernel) rfl
theorem q411 : Cond.instanceMethod yX9_greedyChanges ∈ AW := aw_in 411 (by decide +kernel) rfl
theorem q412 : Cond.selects RX9 yX9_greedyChanges yX9_greedyChanges ∈ AW := aw_in 412 (by decide +kernel) rfl
theorem q413 : Cond.code yX9_greedyChanges cX9_greedyChanges 1 (some .int) ∈ AW := aw_in 413 (by decide +kernel) rfl
theorem q414 : Cond.methodLink RX9 189 yX9_greedyCutting ∈ AW := aw_in 414 (by decide +kernel) rfl
theorem q416 : Cond.instanceMethod yX9_greedyCutting ∈ AW := aw_in 416 (by decide +kernel) rfl
theorem q417 : Cond.code yX9_greedyCutting cX9_greedyCutting 2 (some (( .object "Breakpoint$Cutting" ))) ∈ AW := aw_in 417 (by decide +kernel) rfl
theorem q418 : Cond.methodLink RX9 229 yX4_find ∈ AW := aw_in 418 (by decide +kernel) rfl
theorem q419 : Cond.static yX4_find ∈ AW := aw_in 419 (by decide +kernel) rfl
theorem q420 : Cond.code yX4_find cX4_find 6 none ∈ AW := aw_in 420 (by decide +kernel) rfl
theorem q421 : Cond.methodLink RX4 7 yX3_join ∈ AW := aw_in 421 (by decide +kernel) rfl
theorem q422 : Cond.methodLink RX4 12 yX4_numberOfGreatestGain ∈ AW := aw_in 422 (by decide +kernel) rfl
theorem q423 : Cond.static yX4_numberOfGreatestGain ∈ AW := aw_in 423 (by decide +kernel) rfl
theorem q424 : Cond.code yX4_numberOfGreatestGain cX4_numberOfGreatestGain 10 (some .int) ∈ AW := aw_in 424 (by decide +kernel) rfl
theorem q425 : Cond.methodLink RX4 22 yX3_endOfSegment ∈ AW := aw_in 425 (by decide +kernel) rfl
theorem q426 : Cond.instanceMethod yX3_endOfSegment ∈ AW := aw_in 426 (by decide +kernel) rfl
theorem q427 : Cond.selects RX3 yX3_endOfSegment yX3_endOfSegment ∈ AW := aw_in 427 (by decide +kernel) rfl
theorem q428 : Cond.code yX3_endOfSegment cX3_endOfSegment 4 (some .int) ∈ AW := aw_in 428 (by decide +kernel) rfl
theorem q429 : Cond.methodLink RX4 26 yX7_of ∈ AW := aw_in 429 (by decide +kernel) rfl
theorem q430 : Cond.methodLink RX4 18 yX3_cut ∈ AW := aw_in 430 (by decide +kernel) rfl
theorem q431 : Cond.methodLink RL 167 yX9_greedyCost ∈ AW := aw_in 431 (by decide +kernel) rfl
theorem q432 : Cond.instanceMethod yX9_greedyCost ∈ AW := aw_in 432 (by decide +kernel) rfl
theorem q433 : Cond.selects RX9 yX9_greedyCost yX9_greedyCost ∈ AW := aw_in 433 (by decide +kernel) rfl
theorem q434 : Cond.code yX9_greedyCost cX9_greedyCost 1 (some .int) ∈ AW := aw_in 434 (by decide +kernel) rfl
theorem q435 : Cond.methodLink RL 84 yL_setSums ∈ AW := aw_in 435 (by decide +kernel) rfl
theorem q436 : Cond.static yL_setSums ∈ AW := aw_in 436 (by decide +kernel) rfl
theorem q438 : Cond.classLink RL 13 "java/lang/IllegalArgumentException" ∈ AW := aw_in 438 (by decide +kernel) rfl
theorem q439 : Cond.methodLink RL 7 yX9_setSums ∈ AW := aw_in 439 (by decide +kernel) rfl
theorem q440 : Cond.instanceMethod yX9_setSums ∈ AW := aw_in 440 (by decide +kernel) rfl
theorem q441 : Cond.selects RX9 yX9_setSums yX9_setSums ∈ AW := aw_in 441 (by decide +kernel) rfl
theorem q442 : Cond.code yX9_setSums cX9_setSums 4 none ∈ AW := aw_in 442 (by decide +kernel) rfl
theorem q443 : Cond.methodLink RX9 96 yX9_isAmountFromZero ∈ AW := aw_in 443 (by decide +kernel) rfl
theorem q444 : Cond.static yX9_isAmountFromZero ∈ AW := aw_in 444 (by decide +kernel) rfl
theorem q445 : Cond.code yX9_isAmountFromZero cX9_isAmountFromZero 1 (some .boolean) ∈ AW := aw_in 445 (by decide +kernel) rfl
theorem q446 : Cond.methodLink RX9 104 yX9_isBetween ∈ AW := aw_in 446 (by decide +kernel) rfl
theorem q447 : Cond.static yX9_isBetween ∈ AW := aw_in 447 (by decide +kernel) rfl
theorem q448 : Cond.code yX9_isBetween cX9_isBetween 3 (some .boolean) ∈ AW := aw_in 448 (by decide +kernel) rfl
theorem q449 : Cond.methodLink RX9 100 yX9_requireArgument ∈ AW := aw_in 449 (by decide +kernel) rfl
theorem q450 : Cond.static yX9_requireArgument ∈ AW := aw_in 450 (by decide +kernel) rfl
theorem q451 : Cond.code yX9_requireArgument cX9_requireArgument 1 none ∈ AW := aw_in 451 (by decide +kernel) rfl
theorem q452 : Cond.classLink RX9 236 "java/lang/IllegalArgumentException" ∈ AW := aw_in 452 (by decide +kernel) rfl
theorem q453 : Cond.instantiable "java/lang/IllegalArgumentException" 6 ∈ AW := aw_in 453 (by decide +kernel) rfl
theorem q463 : Cond.lays "java/lang/IllegalArgumentException" "java/lang/Throwable" "cause" "Ljava/lang/Throwable;" ∈ AW := aw_in 463 (by decide +kernel) rfl
theorem q464 : Cond.lays "java/lang/Throwable" "java/lang/Throwable" "cause" "Ljava/lang/Throwable;" ∈ AW := aw_in 464 (by decide +kernel) rfl
theorem q465 : Cond.lays "java/lang/IllegalArgumentException" "java/lang/Throwable" "stackTrace" "[Ljava/lang/StackTraceElement;" ∈ AW := aw_in 465 (by decide +kernel) rfl
theorem q466 : Cond.lays "java/lang/Throwable" "java/lang/Throwable" "stackTrace" "[Ljava/lang/StackTraceElement;" ∈ AW := aw_in 466 (by decide +kernel) rfl
theorem q467 : Cond.lays "java/lang/IllegalArgumentException" "java/lang/Throwable" "suppressedExceptions" "Ljava/util/List;" ∈ AW := aw_in 467 (by decide +kernel) rfl
theorem q468 : Cond.lays "java/lang/Throwable" "java/lang/Throwable" "suppressedExceptions" "Ljava/util/List;" ∈ AW := aw_in 468 (by decide +kernel) rfl
theorem q469 : Cond.lays "java/lang/IllegalArgumentException" "java/lang/Throwable" "detailMessage" "Ljava/lang/String;" ∈ AW := aw_in 469 (by decide +kernel) rfl
theorem q470 : Cond.lays "java/lang/Throwable" "java/lang/Throwable" "detailMessage" "Ljava/lang/String;" ∈ AW := aw_in 470 (by decide +kernel) rfl
theorem q471 : Cond.lays "java/lang/IllegalArgumentException" "java/lang/Throwable" "backtrace" "Ljava/lang/Object;" ∈ AW := aw_in 471 (by decide +kernel) rfl
theorem q472 : Cond.lays "java/lang/Throwable" "java/lang/Throwable" "backtrace" "Ljava/lang/Object;" ∈ AW := aw_in 472 (by decide +kernel) rfl
theorem q491 : Cond.instantiable "java/lang/Throwable" 6 ∈ AW := aw_in 491 (by decide +kernel) rfl
theorem q515 : Cond.lays "java/lang/IllegalArgumentException" "java/lang/Throwable" "depth" "I" ∈ AW := aw_in 515 (by decide +kernel) rfl
theorem q519 : Cond.arrayClass .byte ∈ AW := aw_in 519 (by decide +kernel) rfl
theorem q520 : Cond.constant RX9 108 100000 ∈ AW := aw_in 520 (by decide +kernel) rfl
theorem q521 : Cond.methodLink RX9 109 yX2_setUp ∈ AW := aw_in 521 (by decide +kernel) rfl
theorem q522 : Cond.methodLink RL 93 yL_setTest ∈ AW := aw_in 522 (by decide +kernel) rfl
theorem q523 : Cond.static yL_setTest ∈ AW := aw_in 523 (by decide +kernel) rfl
theorem q525 : Cond.methodLink RL 15 yX9_setTest ∈ AW := aw_in 525 (by decide +kernel) rfl
theorem q526 : Cond.instanceMethod yX9_setTest ∈ AW := aw_in 526 (by decide +kernel) rfl
theorem q527 : Cond.selects RX9 yX9_setTest yX9_setTest ∈ AW := aw_in 527 (by decide +kernel) rfl
theorem q528 : Cond.code yX9_setTest cX9_setTest 4 none ∈ AW := aw_in 528 (by decide +kernel) rfl
theorem q529 : Cond.methodLink RX9 113 yX6_setUp ∈ AW := aw_in 529 (by decide +kernel) rfl
theorem q530 : Cond.methodLink RL 96 yL_setPenalty ∈ AW := aw_in 530 (by decide +kernel) rfl
theorem q531 : Cond.static yL_setPenalty ∈ AW := aw_in 531 (by decide +kernel) rfl
theorem q533 : Cond.methodLink RL 18 yX9_setPenalty ∈ AW := aw_in 533 (by decide +kernel) rfl
theorem q534 : Cond.instanceMethod yX9_setPenalty ∈ AW := aw_in 534 (by decide +kernel) rfl
theorem q535 : Cond.selects RX9 yX9_setPenalty yX9_setPenalty ∈ AW := aw_in 535 (by decide +kernel) rfl
theorem q536 : Cond.code yX9_setPenalty cX9_setPenalty 3 (some .int) ∈ AW := aw_in 536 (by decide +kernel) rfl
theorem q537 : Cond.methodLink RL 100 yL_add ∈ AW := aw_in 537 (by decide +kernel) rfl
theorem q538 : Cond.static yL_add ∈ AW := aw_in 538 (by decide +kernel) rfl
theorem q540 : Cond.classLink RL 25 "java/lang/IllegalStateException" ∈ AW := aw_in 540 (by decide +kernel) rfl
theorem q541 : Cond.methodLink RL 22 yX9_add ∈ AW := aw_in 541 (by decide +kernel) rfl
theorem q542 : Cond.instanceMethod yX9_add ∈ AW := aw_in 542 (by decide +kernel) rfl
theorem q543 : Cond.selects RX9 yX9_add yX9_add ∈ AW := aw_in 543 (by decide +kernel) rfl
theorem q544 : Cond.code yX9_add cX9_add 2 (some .int) ∈ AW := aw_in 544 (by decide +kernel) rfl
theorem q545 : Cond.methodLink RX9 114 yX9_requireState ∈ AW := aw_in 545 (by decide +kernel) rfl
theorem q546 : Cond.static yX9_requireState ∈ AW := aw_in 546 (by decide +kernel) rfl
theorem q547 : Cond.code yX9_requireState cX9_requireState 1 none ∈ AW := aw_in 547 (by decide +kernel) rfl
theorem q548 : Cond.classLink RX9 248 "java/lang/IllegalStateException" ∈ AW := aw_in 548 (by decide +kernel) rfl
theorem q549 : Cond.instantiable "java/lang/IllegalStateException" 6 ∈ AW := aw_in 549 (by decide +kernel) rfl
theorem q552 : Cond.lays "java/lang/IllegalStateException" "java/lang/Throwable" "cause" "Ljava/lang/Throwable;" ∈ AW := aw_in 552 (by decide +kernel) rfl
theorem q553 : Cond.lays "java/lang/IllegalStateException" "java/lang/Throwable" "stackTrace" "[Ljava/lang/StackTraceElement;" ∈ AW := aw_in 553 (by decide +kernel) rfl
theorem q554 : Cond.lays "java/lang/IllegalStateException" "java/lang/Throwable" "suppressedExceptions" "Ljava/util/List;" ∈ AW := aw_in 554 (by decide +kernel) rfl
theorem q555 : Cond.lays "java/lang/IllegalStateException" "java/lang/Throwable" "detailMessage" "Ljava/lang/String;" ∈ AW := aw_in 555 (by decide +kernel) rfl
theorem q556 : Cond.lays "java/lang/IllegalStateException" "java/lang/Throwable" "backtrace" "Ljava/lang/Object;" ∈ AW := aw_in 556 (by decide +kernel) rfl
theorem q562 : Cond.lays "java/lang/IllegalStateException" "java/lang/Throwable" "depth" "I" ∈ AW := aw_in 562 (by decide +kernel) rfl
theorem q564 : Cond.methodLink RX9 117 yX9_take ∈ AW := aw_in 564 (by decide +kernel) rfl
theorem q566 : Cond.instanceMethod yX9_take ∈ AW := aw_in 566 (by decide +kernel) rfl
theorem q567 : Cond.code yX9_take cX9_take 5 (some .int) ∈ AW := aw_in 567 (by decide +kernel) rfl
theorem q568 : Cond.methodLink RX9 209 yX2_watch ∈ AW := aw_in 568 (by decide +kernel) rfl
theorem q569 : Cond.instanceMethod yX2_watch ∈ AW := aw_in 569 (by decide +kernel) rfl
theorem q570 : Cond.selects RX2 yX2_watch yX2_watch ∈ AW := aw_in 570 (by decide +kernel) rfl
theorem q571 : Cond.code yX2_watch cX2_watch 5 (some .int) ∈ AW := aw_in 571 (by decide +kernel) rfl
theorem q572 : Cond.methodLink RX2 34 yX2_moveSums ∈ AW := aw_in 572 (by decide +kernel) rfl
theorem q574 : Cond.instanceMethod yX2_moveSums ∈ AW := aw_in 574 (by decide +kernel) rfl
theorem q575 : Cond.code yX2_moveSums cX2_moveSums 3 none ∈ AW := aw_in 575 (by decide +kernel) rfl
theorem q576 : Cond.methodLink RX2 49 yJ9_max_7cf53 ∈ AW := aw_in 576 (by decide +kernel) rfl
theorem q577 : Cond.static yJ9_max_7cf53 ∈ AW := aw_in 577 (by decide +kernel) rfl
theorem q578 : Cond.code yJ9_max_7cf53 cJ9_max_7cf53 2 (some .int) ∈ AW := aw_in 578 (by decide +kernel) rfl
theorem q579 : Cond.methodLink RX2 41 yX0_raise ∈ AW := aw_in 579 (by decide +kernel) rfl
theorem q580 : Cond.instanceMethod yX0_raise ∈ AW := aw_in 580 (by decide +kernel) rfl
theorem q581 : Cond.selects RX0 yX0_raise yX0_raise ∈ AW := aw_in 581 (by decide +kernel) rfl
theorem q582 : Cond.code yX0_raise cX0_raise 4 none ∈ AW := aw_in 582 (by decide +kernel) rfl
theorem q583 : Cond.methodLink RX9 213 yX6_watch ∈ AW := aw_in 583 (by decide +kernel) rfl
theorem q584 : Cond.instanceMethod yX6_watch ∈ AW := aw_in 584 (by decide +kernel) rfl
theorem q585 : Cond.selects RX6 yX6_watch yX6_watch ∈ AW := aw_in 585 (by decide +kernel) rfl
theorem q586 : Cond.code yX6_watch cX6_watch 4 (some .int) ∈ AW := aw_in 586 (by decide +kernel) rfl
theorem q587 : Cond.methodLink RX6 43 yX6_moveSum ∈ AW := aw_in 587 (by decide +kernel) rfl
theorem q589 : Cond.instanceMethod yX6_moveSum ∈ AW := aw_in 589 (by decide +kernel) rfl
theorem q590 : Cond.code yX6_moveSum cX6_moveSum 4 none ∈ AW := aw_in 590 (by decide +kernel) rfl
theorem q591 : Cond.methodLink RX6 56 yJ9_floorDiv_7cf53 ∈ AW := aw_in 591 (by decide +kernel) rfl
theorem q592 : Cond.static yJ9_floorDiv_7cf53 ∈ AW := aw_in 592 (by decide +kernel) rfl
theorem q593 : Cond.code yJ9_floorDiv_7cf53 cJ9_floorDiv_7cf53 3 (some .int) ∈ AW := aw_in 593 (by decide +kernel) rfl
theorem q594 : Cond.methodLink RX6 47 yX6_startOfGrowth ∈ AW := aw_in 594 (by decide +kernel) rfl
theorem q596 : Cond.instanceMethod yX6_startOfGrowth ∈ AW := aw_in 596 (by decide +kernel) rfl
theorem q597 : Cond.code yX6_startOfGrowth cX6_startOfGrowth 2 (some .int) ∈ AW := aw_in 597 (by decide +kernel) rfl
theorem q598 : Cond.methodLink RX6 51 yX0_raise ∈ AW := aw_in 598 (by decide +kernel) rfl
theorem q599 : Cond.methodLink RL 103 yL_addRun ∈ AW := aw_in 599 (by decide +kernel) rfl
theorem q600 : Cond.static yL_addRun ∈ AW := aw_in 600 (by decide +kernel) rfl
theorem q602 : Cond.methodLink RL 27 yX9_addRun ∈ AW := aw_in 602 (by decide +kernel) rfl
theorem q603 : Cond.instanceMethod yX9_addRun ∈ AW := aw_in 603 (by decide +kernel) rfl
theorem q604 : Cond.selects RX9 yX9_addRun yX9_addRun ∈ AW := aw_in 604 (by decide +kernel) rfl
theorem q605 : Cond.code yX9_addRun cX9_addRun 6 (some .int) ∈ AW := aw_in 605 (by decide +kernel) rfl
theorem q606 : Cond.methodLink RL 111 yL_value ∈ AW := aw_in 606 (by decide +kernel) rfl
theorem q607 : Cond.static yL_value ∈ AW := aw_in 607 (by decide +kernel) rfl
theorem q609 : Cond.classLink RL 34 "java/lang/IndexOutOfBoundsException" ∈ AW := aw_in 609 (by decide +kernel) rfl
theorem q610 : Cond.methodLink RL 31 yX9_value ∈ AW := aw_in 610 (by decide +kernel) rfl
theorem q611 : Cond.instanceMethod yX9_value ∈ AW := aw_in 611 (by decide +kernel) rfl
theorem q612 : Cond.selects RX9 yX9_value yX9_value ∈ AW := aw_in 612 (by decide +kernel) rfl
theorem q613 : Cond.code yX9_value cX9_value 2 (some .int) ∈ AW := aw_in 613 (by decide +kernel) rfl
theorem q614 : Cond.methodLink RX9 124 yX9_isValueNumber ∈ AW := aw_in 614 (by decide +kernel) rfl
theorem q616 : Cond.instanceMethod yX9_isValueNumber ∈ AW := aw_in 616 (by decide +kernel) rfl
theorem q617 : Cond.code yX9_isValueNumber cX9_isValueNumber 2 (some .boolean) ∈ AW := aw_in 617 (by decide +kernel) rfl
theorem q618 : Cond.methodLink RX9 127 yX9_requireIndex ∈ AW := aw_in 618 (by decide +kernel) rfl
theorem q619 : Cond.static yX9_requireIndex ∈ AW := aw_in 619 (by decide +kernel) rfl
theorem q620 : Cond.code yX9_requireIndex cX9_requireIndex 1 none ∈ AW := aw_in 620 (by decide +kernel) rfl
theorem q621 : Cond.classLink RX9 243 "java/lang/IndexOutOfBoundsException" ∈ AW := aw_in 621 (by decide +kernel) rfl
theorem q622 : Cond.instantiable "java/lang/IndexOutOfBoundsException" 6 ∈ AW := aw_in 622 (by decide +kernel) rfl
theorem q625 : Cond.lays "java/lang/IndexOutOfBoundsException" "java/lang/Throwable" "cause" "Ljava/lang/Throwable;" ∈ AW := aw_in 625 (by decide +kernel) rfl
theorem q626 : Cond.lays "java/lang/IndexOutOfBoundsException" "java/lang/Throwable" "stackTrace" "[Ljava/lang/StackTraceElement;" ∈ AW := aw_in 626 (by decide +kernel) rfl
theorem q627 : Cond.lays "java/lang/IndexOutOfBoundsException" "java/lang/Throwable" "suppressedExceptions" "Ljava/util/List;" ∈ AW := aw_in 627 (by decide +kernel) rfl
theorem q628 : Cond.lays "java/lang/IndexOutOfBoundsException" "java/lang/Throwable" "detailMessage" "Ljava/lang/String;" ∈ AW := aw_in 628 (by decide +kernel) rfl
theorem q629 : Cond.lays "java/lang/IndexOutOfBoundsException" "java/lang/Throwable" "backtrace" "Ljava/lang/Object;" ∈ AW := aw_in 629 (by decide +kernel) rfl
theorem q635 : Cond.lays "java/lang/IndexOutOfBoundsException" "java/lang/Throwable" "depth" "I" ∈ AW := aw_in 635 (by decide +kernel) rfl
theorem q637 : Cond.methodLink RL 130 yL_alarmKind ∈ AW := aw_in 637 (by decide +kernel) rfl
theorem q638 : Cond.static yL_alarmKind ∈ AW := aw_in 638 (by decide +kernel) rfl
theorem q640 : Cond.methodLink RL 36 yX9_alarmKind ∈ AW := aw_in 640 (by decide +kernel) rfl
theorem q641 : Cond.instanceMethod yX9_alarmKind ∈ AW := aw_in 641 (by decide +kernel) rfl
theorem q642 : Cond.selects RX9 yX9_alarmKind yX9_alarmKind ∈ AW := aw_in 642 (by decide +kernel) rfl
theorem q643 : Cond.code yX9_alarmKind cX9_alarmKind 2 (some .int) ∈ AW := aw_in 643 (by decide +kernel) rfl
theorem q644 : Cond.methodLink RX9 142 yX0_has ∈ AW := aw_in 644 (by decide +kernel) rfl
theorem q645 : Cond.instanceMethod yX0_has ∈ AW := aw_in 645 (by decide +kernel) rfl
theorem q646 : Cond.selects RX0 yX0_has yX0_has ∈ AW := aw_in 646 (by decide +kernel) rfl
theorem q647 : Cond.code yX0_has cX0_has 2 (some .boolean) ∈ AW := aw_in 647 (by decide +kernel) rfl
theorem q648 : Cond.methodLink RL 133 yL_alarmNumber ∈ AW := aw_in 648 (by decide +kernel) rfl
theorem q649 : Cond.static yL_alarmNumber ∈ AW := aw_in 649 (by decide +kernel) rfl
theorem q651 : Cond.methodLink RL 39 yX9_alarmNumber ∈ AW := aw_in 651 (by decide +kernel) rfl
theorem q652 : Cond.instanceMethod yX9_alarmNumber ∈ AW := aw_in 652 (by decide +kernel) rfl
theorem q653 : Cond.selects RX9 yX9_alarmNumber yX9_alarmNumber ∈ AW := aw_in 653 (by decide +kernel) rfl
theorem q654 : Cond.code yX9_alarmNumber cX9_alarmNumber 2 (some .int) ∈ AW := aw_in 654 (by decide +kernel) rfl
theorem q655 : Cond.methodLink RL 136 yL_alarmStart ∈ AW := aw_in 655 (by decide +kernel) rfl
theorem q656 : Cond.static yL_alarmStart ∈ AW := aw_in 656 (by decide +kernel) rfl
theorem q658 : Cond.methodLink RL 42 yX9_alarmStart ∈ AW := aw_in 658 (by decide +kernel) rfl
theorem q659 : Cond.instanceMethod yX9_alarmStart ∈ AW := aw_in 659 (by decide +kernel) rfl
theorem q660 : Cond.selects RX9 yX9_alarmStart yX9_alarmStart ∈ AW := aw_in 660 (by decide +kernel) rfl
theorem q661 : Cond.code yX9_alarmStart cX9_alarmStart 2 (some .int) ∈ AW := aw_in 661 (by decide +kernel) rfl
theorem q662 : Cond.methodLink RL 139 yL_cost ∈ AW := aw_in 662 (by decide +kernel) rfl
theorem q663 : Cond.static yL_cost ∈ AW := aw_in 663 (by decide +kernel) rfl
theorem q665 : Cond.methodLink RL 45 yX9_cost ∈ AW := aw_in 665 (by decide +kernel) rfl
theorem q666 : Cond.instanceMethod yX9_cost ∈ AW := aw_in 666 (by decide +kernel) rfl
theorem q667 : Cond.selects RX9 yX9_cost yX9_cost ∈ AW := aw_in 667 (by decide +kernel) rfl
theorem q668 : Cond.code yX9_cost cX9_cost 3 (some .int) ∈ AW := aw_in 668 (by decide +kernel) rfl
theorem q669 : Cond.methodLink RX9 154 yX9_isSegment ∈ AW := aw_in 669 (by decide +kernel) rfl
theorem q671 : Cond.instanceMethod yX9_isSegment ∈ AW := aw_in 671 (by decide +kernel) rfl
theorem q672 : Cond.code yX9_isSegment cX9_isSegment 3 (some .boolean) ∈ AW := aw_in 672 (by decide +kernel) rfl
theorem q673 : Cond.methodLink RX9 162 yX7_of ∈ AW := aw_in 673 (by decide +kernel) rfl
theorem q674 : Cond.methodLink RL 143 yL_middle ∈ AW := aw_in 674 (by decide +kernel) rfl
theorem q675 : Cond.static yL_middle ∈ AW := aw_in 675 (by decide +kernel) rfl
theorem q677 : Cond.methodLink RL 49 yX9_middle ∈ AW := aw_in 677 (by decide +kernel) rfl
theorem q678 : Cond.instanceMethod yX9_middle ∈ AW := aw_in 678 (by decide +kernel) rfl
theorem q679 : Cond.selects RX9 yX9_middle yX9_middle ∈ AW := aw_in 679 (by decide +kernel) rfl
theorem q680 : Cond.code yX9_middle cX9_middle 3 (some .int) ∈ AW := aw_in 680 (by decide +kernel) rfl
theorem q681 : Cond.methodLink RX9 166 yX7_middleOf ∈ AW := aw_in 681 (by decide +kernel) rfl
theorem q682 : Cond.instanceMethod yX7_middleOf ∈ AW := aw_in 682 (by decide +kernel) rfl
theorem q683 : Cond.selects RX7 yX7_middleOf yX7_middleOf ∈ AW := aw_in 683 (by decide +kernel) rfl
theorem q684 : Cond.code yX7_middleOf cX7_middleOf 5 (some .int) ∈ AW := aw_in 684 (by decide +kernel) rfl
theorem q685 : Cond.methodLink RL 150 yL_change ∈ AW := aw_in 685 (by decide +kernel) rfl
theorem q686 : Cond.static yL_change ∈ AW := aw_in 686 (by decide +kernel) rfl
theorem q688 : Cond.methodLink RL 52 yX9_change ∈ AW := aw_in 688 (by decide +kernel) rfl
theorem q689 : Cond.instanceMethod yX9_change ∈ AW := aw_in 689 (by decide +kernel) rfl
theorem q690 : Cond.selects RX9 yX9_change yX9_change ∈ AW := aw_in 690 (by decide +kernel) rfl
theorem q691 : Cond.code yX9_change cX9_change 3 (some .int) ∈ AW := aw_in 691 (by decide +kernel) rfl
theorem q692 : Cond.methodLink RX9 177 yX3_has ∈ AW := aw_in 692 (by decide +kernel) rfl
theorem q693 : Cond.instanceMethod yX3_has ∈ AW := aw_in 693 (by decide +kernel) rfl
theorem q694 : Cond.selects RX3 yX3_has yX3_has ∈ AW := aw_in 694 (by decide +kernel) rfl
theorem q695 : Cond.code yX3_has cX3_has 2 (some .boolean) ∈ AW := aw_in 695 (by decide +kernel) rfl
theorem q696 : Cond.methodLink RX9 178 yX3_numberAt ∈ AW := aw_in 696 (by decide +kernel) rfl
theorem q697 : Cond.instanceMethod yX3_numberAt ∈ AW := aw_in 697 (by decide +kernel) rfl
theorem q698 : Cond.selects RX3 yX3_numberAt yX3_numberAt ∈ AW := aw_in 698 (by decide +kernel) rfl
theorem q699 : Cond.code yX3_numberAt cX3_numberAt 4 (some .int) ∈ AW := aw_in 699 (by decide +kernel) rfl
theorem q700 : Cond.methodLink RL 157 yL_leastCost ∈ AW := aw_in 700 (by decide +kernel) rfl
theorem q701 : Cond.static yL_leastCost ∈ AW := aw_in 701 (by decide +kernel) rfl
theorem q703 : Cond.methodLink RL 55 yX9_leastCost ∈ AW := aw_in 703 (by decide +kernel) rfl
theorem q704 : Cond.instanceMethod yX9_leastCost ∈ AW := aw_in 704 (by decide +kernel) rfl
theorem q705 : Cond.selects RX9 yX9_leastCost yX9_leastCost ∈ AW := aw_in 705 (by decide +kernel) rfl
theorem q706 : Cond.code yX9_leastCost cX9_leastCost 2 (some .int) ∈ AW := aw_in 706 (by decide +kernel) rfl
theorem q707 : Cond.methodLink RX9 184 yX5_learn ∈ AW := aw_in 707 (by decide +kernel) rfl
theorem q708 : Cond.instanceMethod yX5_learn ∈ AW := aw_in 708 (by decide +kernel) rfl
theorem q709 : Cond.selects RX5 yX5_learn yX5_learn ∈ AW := aw_in 709 (by decide +kernel) rfl
theorem q710 : Cond.code yX5_learn cX5_learn 4 none ∈ AW := aw_in 710 (by decide +kernel) rfl
theorem q711 : Cond.methodLink RX5 25 yX5_learnCuttingsTo ∈ AW := aw_in 711 (by decide +kernel) rfl
theorem q713 : Cond.instanceMethod yX5_learnCuttingsTo ∈ AW := aw_in 713 (by decide +kernel) rfl
theorem q714 : Cond.code yX5_learnCuttingsTo cX5_learnCuttingsTo 5 none ∈ AW := aw_in 714 (by decide +kernel) rfl
theorem q715 : Cond.methodLink RX5 29 yX7_of ∈ AW := aw_in 715 (by decide +kernel) rfl
theorem q716 : Cond.methodLink RX5 33 yX5_leastWithLastSegment ∈ AW := aw_in 716 (by decide +kernel) rfl
theorem q718 : Cond.instanceMethod yX5_leastWithLastSegment ∈ AW := aw_in 718 (by decide +kernel) rfl
theorem q719 : Cond.code yX5_leastWithLastSegment cX5_leastWithLastSegment 6 (some .int) ∈ AW := aw_in 719 (by decide +kernel) rfl
theorem q720 : Cond.constant RX5 39 2147483647 ∈ AW := aw_in 720 (by decide +kernel) rfl
theorem q721 : Cond.methodLink RX5 40 yX5_of ∈ AW := aw_in 721 (by decide +kernel) rfl
theorem q722 : Cond.instanceMethod yX5_of ∈ AW := aw_in 722 (by decide +kernel) rfl
theorem q723 : Cond.selects RX5 yX5_of yX5_of ∈ AW := aw_in 723 (by decide +kernel) rfl
theorem q724 : Cond.code yX5_of cX5_of 3 (some .int) ∈ AW := aw_in 724 (by decide +kernel) rfl
theorem q725 : Cond.methodLink RX5 41 yJ9_min_7cf53 ∈ AW := aw_in 725 (by decide +kernel) rfl
theorem q726 : Cond.static yJ9_min_7cf53 ∈ AW := aw_in 726 (by decide +kernel) rfl
theorem q727 : Cond.code yJ9_min_7cf53 cJ9_min_7cf53 2 (some .int) ∈ AW := aw_in 727 (by decide +kernel) rfl
theorem q728 : Cond.methodLink RX9 188 yX5_of ∈ AW := aw_in 728 (by decide +kernel) rfl
theorem q729 : Cond.methodLink RL 164 yL_greedyChange ∈ AW := aw_in 729 (by decide +kernel) rfl
theorem q730 : Cond.static yL_greedyChange ∈ AW := aw_in 730 (by decide +kernel) rfl
theorem q732 : Cond.methodLink RL 58 yX9_greedyChange ∈ AW := aw_in 732 (by decide +kernel) rfl
theorem q733 : Cond.instanceMethod yX9_greedyChange ∈ AW := aw_in 733 (by decide +kernel) rfl
theorem q734 : Cond.selects RX9 yX9_greedyChange yX9_greedyChange ∈ AW := aw_in 734 (by decide +kernel) rfl
theorem q735 : Cond.code yX9_greedyChange cX9_greedyChange 3 (some .int) ∈ AW := aw_in 735 (by decide +kernel) rfl
theorem q736 : Cond.methodLink RL 171 yL_toggleTruth ∈ AW := aw_in 736 (by decide +kernel) rfl
theorem q737 : Cond.static yL_toggleTruth ∈ AW := aw_in 737 (by decide +kernel) rfl
theorem q739 : Cond.methodLink RL 61 yX9_toggleTruth ∈ AW := aw_in 739 (by decide +kernel) rfl
theorem q740 : Cond.instanceMethod yX9_toggleTruth ∈ AW := aw_in 740 (by decide +kernel) rfl
theorem q741 : Cond.selects RX9 yX9_toggleTruth yX9_toggleTruth ∈ AW := aw_in 741 (by decide +kernel) rfl
theorem q742 : Cond.code yX9_toggleTruth cX9_toggleTruth 2 (some .boolean) ∈ AW := aw_in 742 (by decide +kernel) rfl
theorem q743 : Cond.methodLink RL 174 yL_matched ∈ AW := aw_in 743 (by decide +kernel) rfl
theorem q744 : Cond.static yL_matched ∈ AW := aw_in 744 (by decide +kernel) rfl
theorem q746 : Cond.methodLink RL 65 yX9_matched ∈ AW := aw_in 746 (by decide +kernel) rfl
theorem q747 : Cond.instanceMethod yX9_matched ∈ AW := aw_in 747 (by decide +kernel) rfl
theorem q748 : Cond.selects RX9 yX9_matched yX9_matched ∈ AW := aw_in 748 (by decide +kernel) rfl
theorem q749 : Cond.code yX9_matched cX9_matched 3 (some .int) ∈ AW := aw_in 749 (by decide +kernel) rfl
theorem q750 : Cond.methodLink RX9 196 yX9_matchAlarms ∈ AW := aw_in 750 (by decide +kernel) rfl
theorem q752 : Cond.instanceMethod yX9_matchAlarms ∈ AW := aw_in 752 (by decide +kernel) rfl
theorem q753 : Cond.code yX9_matchAlarms cX9_matchAlarms 3 none ∈ AW := aw_in 753 (by decide +kernel) rfl
theorem q754 : Cond.methodLink RX9 232 yX8_match ∈ AW := aw_in 754 (by decide +kernel) rfl
theorem q755 : Cond.instanceMethod yX8_match ∈ AW := aw_in 755 (by decide +kernel) rfl
theorem q756 : Cond.selects RX8 yX8_match yX8_match ∈ AW := aw_in 756 (by decide +kernel) rfl
theorem q757 : Cond.code yX8_match cX8_match 5 none ∈ AW := aw_in 757 (by decide +kernel) rfl
theorem q758 : Cond.methodLink RX8 28 yX8_beginMatching ∈ AW := aw_in 758 (by decide +kernel) rfl
theorem q760 : Cond.instanceMethod yX8_beginMatching ∈ AW := aw_in 760 (by decide +kernel) rfl
theorem q761 : Cond.code yX8_beginMatching cX8_beginMatching 2 none ∈ AW := aw_in 761 (by decide +kernel) rfl
theorem q762 : Cond.methodLink RX8 43 yX8_matchAlarm ∈ AW := aw_in 762 (by decide +kernel) rfl
theorem q764 : Cond.instanceMethod yX8_matchAlarm ∈ AW := aw_in 764 (by decide +kernel) rfl
theorem q765 : Cond.code yX8_matchAlarm cX8_matchAlarm 5 none ∈ AW := aw_in 765 (by decide +kernel) rfl
theorem q766 : Cond.methodLink RX8 47 yJ9_max_7cf53 ∈ AW := aw_in 766 (by decide +kernel) rfl
theorem q767 : Cond.methodLink RL 177 yL_falseAlarms ∈ AW := aw_in 767 (by decide +kernel) rfl
theorem q768 : Cond.static yL_falseAlarms ∈ AW := aw_in 768 (by decide +kernel) rfl
theorem q770 : Cond.methodLink RL 68 yX9_falseAlarms ∈ AW := aw_in 770 (by decide +kernel) rfl
theorem q771 : Cond.instanceMethod yX9_falseAlarms ∈ AW := aw_in 771 (by decide +kernel) rfl
theorem q772 : Cond.selects RX9 yX9_falseAlarms yX9_falseAlarms ∈ AW := aw_in 772 (by decide +kernel) rfl
theorem q773 : Cond.code yX9_falseAlarms cX9_falseAlarms 3 (some .int) ∈ AW := aw_in 773 (by decide +kernel) rfl
theorem q774 : Cond.methodLink RL 180 yL_averageDelay ∈ AW := aw_in 774 (by decide +kernel) rfl
theorem q775 : Cond.static yL_averageDelay ∈ AW := aw_in 775 (by decide +kernel) rfl
theorem q777 : Cond.methodLink RL 71 yX9_averageDelay ∈ AW := aw_in 777 (by decide +kernel) rfl
theorem q778 : Cond.instanceMethod yX9_averageDelay ∈ AW := aw_in 778 (by decide +kernel) rfl
theorem q779 : Cond.selects RX9 yX9_averageDelay yX9_averageDelay ∈ AW := aw_in 779 (by decide +kernel) rfl
theorem q780 : Cond.code yX9_averageDelay cX9_averageDelay 3 (some .float) ∈ AW := aw_in 780 (by decide +kernel) rfl
theorem q781 : Cond.classLink RL 76 RX10 ∈ AW := aw_in 781 (by decide +kernel) rfl
theorem q782 : Cond.instantiable RX10 34 ∈ AW := aw_in 782 (by decide +kernel) rfl
theorem q783 : Cond.methodLink RL 78 yX10_init ∈ AW := aw_in 783 (by decide +kernel) rfl
theorem q784 : Cond.instanceMethod yX10_init ∈ AW := aw_in 784 (by decide +kernel) rfl
theorem q785 : Cond.code yX10_init cX10_init 1 none ∈ AW := aw_in 785 (by decide +kernel) rfl
theorem q786 : Cond.methodLink RX10 1 objectInit ∈ AW := aw_in 786 (by decide +kernel) rfl
theorem q787 : Cond.fieldLink RX10 118 "BreakpointModel" "target" "I" ∈ AW := aw_in 787 (by decide +kernel) rfl
theorem q788 : Cond.fieldLink RX10 7 "BreakpointModel" "slack" "I" ∈ AW := aw_in 788 (by decide +kernel) rfl
theorem q789 : Cond.fieldLink RX10 13 "BreakpointModel" "threshold" "I" ∈ AW := aw_in 789 (by decide +kernel) rfl
theorem q790 : Cond.fieldLink RX10 16 "BreakpointModel" "allowance" "I" ∈ AW := aw_in 790 (by decide +kernel) rfl
theorem q791 : Cond.fieldLink RX10 19 "BreakpointModel" "forgetting" "I" ∈ AW := aw_in 791 (by decide +kernel) rfl
theorem q792 : Cond.fieldLink RX10 22 "BreakpointModel" "limit" "I" ∈ AW := aw_in 792 (by decide +kernel) rfl
theorem q793 : Cond.fieldLink RX10 25 "BreakpointModel" "penalty" "I" ∈ AW := aw_in 793 (by decide +kernel) rfl
theorem q794 : Cond.fieldLink RX10 93 "BreakpointModel" "size" "I" ∈ AW := aw_in 794 (by decide +kernel) rfl
theorem q795 : Cond.fieldLink RX10 28 "BreakpointModel" "value" "[I" ∈ AW := aw_in 795 (by decide +kernel) rfl
theorem q796 : Cond.fieldLink RX10 32 "BreakpointModel" "isTrue" "[Z" ∈ AW := aw_in 796 (by decide +kernel) rfl
theorem q797 : Cond.fieldLink RX10 72 "BreakpointModel" "high" "I" ∈ AW := aw_in 797 (by decide +kernel) rfl
theorem q798 : Cond.fieldLink RX10 75 "BreakpointModel" "low" "I" ∈ AW := aw_in 798 (by decide +kernel) rfl
theorem q799 : Cond.fieldLink RX10 121 "BreakpointModel" "highStart" "I" ∈ AW := aw_in 799 (by decide +kernel) rfl
theorem q800 : Cond.fieldLink RX10 124 "BreakpointModel" "lowStart" "I" ∈ AW := aw_in 800 (by decide +kernel) rfl
theorem q801 : Cond.fieldLink RX10 78 "BreakpointModel" "count" "I" ∈ AW := aw_in 801 (by decide +kernel) rfl
theorem q802 : Cond.fieldLink RX10 81 "BreakpointModel" "total" "I" ∈ AW := aw_in 802 (by decide +kernel) rfl
theorem q803 : Cond.fieldLink RX10 84 "BreakpointModel" "sum" "I" ∈ AW := aw_in 803 (by decide +kernel) rfl
theorem q804 : Cond.fieldLink RX10 87 "BreakpointModel" "least" "I" ∈ AW := aw_in 804 (by decide +kernel) rfl
theorem q805 : Cond.fieldLink RX10 90 "BreakpointModel" "leastAt" "I" ∈ AW := aw_in 805 (by decide +kernel) rfl
theorem q806 : Cond.fieldLink RX10 96 "BreakpointModel" "alarms" "I" ∈ AW := aw_in 806 (by decide +kernel) rfl
theorem q807 : Cond.fieldLink RX10 36 "BreakpointModel" "kind" "[I" ∈ AW := aw_in 807 (by decide +kernel) rfl
theorem q808 : Cond.fieldLink RX10 39 "BreakpointModel" "number" "[I" ∈ AW := aw_in 808 (by decide +kernel) rfl
theorem q809 : Cond.fieldLink RX10 42 "BreakpointModel" "start" "[I" ∈ AW := aw_in 809 (by decide +kernel) rfl
theorem q810 : Cond.fieldLink RX10 69 "BreakpointModel" "thrown" "I" ∈ AW := aw_in 810 (by decide +kernel) rfl
theorem q811 : Cond.fieldLink RX10 99 "BreakpointModel" "isKnown" "Z" ∈ AW := aw_in 811 (by decide +kernel) rfl
theorem q812 : Cond.fieldLink RX10 45 "BreakpointModel" "costs" "[I" ∈ AW := aw_in 812 (by decide +kernel) rfl
theorem q813 : Cond.fieldLink RX10 48 "BreakpointModel" "sorted" "[I" ∈ AW := aw_in 813 (by decide +kernel) rfl
theorem q814 : Cond.fieldLink RX10 51 "BreakpointModel" "best" "[I" ∈ AW := aw_in 814 (by decide +kernel) rfl
theorem q815 : Cond.fieldLink RX10 54 "BreakpointModel" "few" "[I" ∈ AW := aw_in 815 (by decide +kernel) rfl
theorem q816 : Cond.fieldLink RX10 57 "BreakpointModel" "one" "[I" ∈ AW := aw_in 816 (by decide +kernel) rfl
theorem q817 : Cond.fieldLink RX10 60 "BreakpointModel" "other" "[I" ∈ AW := aw_in 817 (by decide +kernel) rfl
theorem q818 : Cond.fieldLink RX10 63 "BreakpointModel" "isCut" "[Z" ∈ AW := aw_in 818 (by decide +kernel) rfl
theorem q819 : Cond.fieldLink RX10 66 "BreakpointModel" "isMet" "[Z" ∈ AW := aw_in 819 (by decide +kernel) rfl
theorem q820 : Cond.fieldLink RX10 181 "BreakpointModel" "delays" "I" ∈ AW := aw_in 820 (by decide +kernel) rfl
theorem q821 : Cond.lays "BreakpointModel" "BreakpointModel" "target" "I" ∈ AW := aw_in 821 (by decide +kernel) rfl
theorem q823 : Cond.lays "BreakpointModel" "BreakpointModel" "slack" "I" ∈ AW := aw_in 823 (by decide +kernel) rfl
theorem q825 : Cond.lays "BreakpointModel" "BreakpointModel" "threshold" "I" ∈ AW := aw_in 825 (by decide +kernel) rfl
theorem q827 : Cond.lays "BreakpointModel" "BreakpointModel" "allowance" "I" ∈ AW := aw_in 827 (by decide +kernel) rfl
theorem q829 : Cond.lays "BreakpointModel" "BreakpointModel" "forgetting" "I" ∈ AW := aw_in 829 (by decide +kernel) rfl
theorem q831 : Cond.lays "BreakpointModel" "BreakpointModel" "limit" "I" ∈ AW := aw_in 831 (by decide +kernel) rfl
theorem q833 : Cond.lays "BreakpointModel" "BreakpointModel" "penalty" "I" ∈ AW := aw_in 833 (by decide +kernel) rfl
theorem q835 : Cond.lays "BreakpointModel" "BreakpointModel" "size" "I" ∈ AW := aw_in 835 (by decide +kernel) rfl
theorem q837 : Cond.laysFinal "BreakpointModel" "BreakpointModel" "value" "[I" ∈ AW := aw_in 837 (by decide +kernel) rfl
theorem q839 : Cond.laysFinal "BreakpointModel" "BreakpointModel" "isTrue" "[Z" ∈ AW := aw_in 839 (by decide +kernel) rfl
theorem q841 : Cond.lays "BreakpointModel" "BreakpointModel" "high" "I" ∈ AW := aw_in 841 (by decide +kernel) rfl
theorem q843 : Cond.lays "BreakpointModel" "BreakpointModel" "low" "I" ∈ AW := aw_in 843 (by decide +kernel) rfl
theorem q845 : Cond.lays "BreakpointModel" "BreakpointModel" "highStart" "I" ∈ AW := aw_in 845 (by decide +kernel) rfl
theorem q847 : Cond.lays "BreakpointModel" "BreakpointModel" "lowStart" "I" ∈ AW := aw_in 847 (by decide +kernel) rfl
theorem q849 : Cond.lays "BreakpointModel" "BreakpointModel" "count" "I" ∈ AW := aw_in 849 (by decide +kernel) rfl
theorem q851 : Cond.lays "BreakpointModel" "BreakpointModel" "total" "I" ∈ AW := aw_in 851 (by decide +kernel) rfl
theorem q853 : Cond.lays "BreakpointModel" "BreakpointModel" "sum" "I" ∈ AW := aw_in 853 (by decide +kernel) rfl
theorem q855 : Cond.lays "BreakpointModel" "BreakpointModel" "least" "I" ∈ AW := aw_in 855 (by decide +kernel) rfl
theorem q857 : Cond.lays "BreakpointModel" "BreakpointModel" "leastAt" "I" ∈ AW := aw_in 857 (by decide +kernel) rfl
theorem q859 : Cond.lays "BreakpointModel" "BreakpointModel" "alarms" "I" ∈ AW := aw_in 859 (by decide +kernel) rfl
theorem q861 : Cond.laysFinal "BreakpointModel" "BreakpointModel" "kind" "[I" ∈ AW := aw_in 861 (by decide +kernel) rfl
theorem q863 : Cond.laysFinal "BreakpointModel" "BreakpointModel" "number" "[I" ∈ AW := aw_in 863 (by decide +kernel) rfl
theorem q865 : Cond.laysFinal "BreakpointModel" "BreakpointModel" "start" "[I" ∈ AW := aw_in 865 (by decide +kernel) rfl
theorem q867 : Cond.lays "BreakpointModel" "BreakpointModel" "thrown" "I" ∈ AW := aw_in 867 (by decide +kernel) rfl
theorem q869 : Cond.lays "BreakpointModel" "BreakpointModel" "isKnown" "Z" ∈ AW := aw_in 869 (by decide +kernel) rfl
theorem q871 : Cond.laysFinal "BreakpointModel" "BreakpointModel" "costs" "[I" ∈ AW := aw_in 871 (by decide +kernel) rfl
theorem q873 : Cond.laysFinal "BreakpointModel" "BreakpointModel" "sorted" "[I" ∈ AW := aw_in 873 (by decide +kernel) rfl
theorem q875 : Cond.laysFinal "BreakpointModel" "BreakpointModel" "best" "[I" ∈ AW := aw_in 875 (by decide +kernel) rfl
theorem q877 : Cond.laysFinal "BreakpointModel" "BreakpointModel" "few" "[I" ∈ AW := aw_in 877 (by decide +kernel) rfl
theorem q879 : Cond.laysFinal "BreakpointModel" "BreakpointModel" "one" "[I" ∈ AW := aw_in 879 (by decide +kernel) rfl
theorem q881 : Cond.laysFinal "BreakpointModel" "BreakpointModel" "other" "[I" ∈ AW := aw_in 881 (by decide +kernel) rfl
theorem q883 : Cond.laysFinal "BreakpointModel" "BreakpointModel" "isCut" "[Z" ∈ AW := aw_in 883 (by decide +kernel) rfl
theorem q885 : Cond.laysFinal "BreakpointModel" "BreakpointModel" "isMet" "[Z" ∈ AW := aw_in 885 (by decide +kernel) rfl
theorem q887 : Cond.lays "BreakpointModel" "BreakpointModel" "delays" "I" ∈ AW := aw_in 887 (by decide +kernel) rfl
theorem q890 : Cond.methodLink RL 90 yX10_thrown ∈ AW := aw_in 890 (by decide +kernel) rfl
theorem q891 : Cond.instanceMethod yX10_thrown ∈ AW := aw_in 891 (by decide +kernel) rfl
theorem q892 : Cond.selects RX10 yX10_thrown yX10_thrown ∈ AW := aw_in 892 (by decide +kernel) rfl
theorem q893 : Cond.code yX10_thrown cX10_thrown 1 (some .int) ∈ AW := aw_in 893 (by decide +kernel) rfl
theorem q894 : Cond.methodLink RL 83 yX10_clear ∈ AW := aw_in 894 (by decide +kernel) rfl
theorem q895 : Cond.instanceMethod yX10_clear ∈ AW := aw_in 895 (by decide +kernel) rfl
theorem q896 : Cond.selects RX10 yX10_clear yX10_clear ∈ AW := aw_in 896 (by decide +kernel) rfl
theorem q897 : Cond.code yX10_clear cX10_clear 3 (some .int) ∈ AW := aw_in 897 (by decide +kernel) rfl
theorem q898 : Cond.methodLink RX10 103 yX10_restsSums ∈ AW := aw_in 898 (by decide +kernel) rfl
theorem q900 : Cond.instanceMethod yX10_restsSums ∈ AW := aw_in 900 (by decide +kernel) rfl
theorem q901 : Cond.code yX10_restsSums cX10_restsSums 1 none ∈ AW := aw_in 901 (by decide +kernel) rfl
theorem q902 : Cond.methodLink RX10 106 yX10_restsTest ∈ AW := aw_in 902 (by decide +kernel) rfl
theorem q904 : Cond.instanceMethod yX10_restsTest ∈ AW := aw_in 904 (by decide +kernel) rfl
theorem q905 : Cond.code yX10_restsTest cX10_restsTest 1 none ∈ AW := aw_in 905 (by decide +kernel) rfl
theorem q906 : Cond.methodLink RL 89 yX10_setSums ∈ AW := aw_in 906 (by decide +kernel) rfl
theorem q907 : Cond.instanceMethod yX10_setSums ∈ AW := aw_in 907 (by decide +kernel) rfl
theorem q908 : Cond.selects RX10 yX10_setSums yX10_setSums ∈ AW := aw_in 908 (by decide +kernel) rfl
theorem q909 : Cond.code yX10_setSums cX10_setSums 4 none ∈ AW := aw_in 909 (by decide +kernel) rfl
theorem q910 : Cond.methodLink RX10 109 yX10_isIn ∈ AW := aw_in 910 (by decide +kernel) rfl
theorem q911 : Cond.static yX10_isIn ∈ AW := aw_in 911 (by decide +kernel) rfl
theorem q912 : Cond.code yX10_isIn cX10_isIn 3 (some .boolean) ∈ AW := aw_in 912 (by decide +kernel) rfl
theorem q913 : Cond.constant RX10 113 100000 ∈ AW := aw_in 913 (by decide +kernel) rfl
theorem q914 : Cond.methodLink RX10 114 yX10_fails ∈ AW := aw_in 914 (by decide +kernel) rfl
theorem q916 : Cond.instanceMethod yX10_fails ∈ AW := aw_in 916 (by decide +kernel) rfl
theorem q917 : Cond.code yX10_fails cX10_fails 2 (some .boolean) ∈ AW := aw_in 917 (by decide +kernel) rfl
theorem q918 : Cond.methodLink RL 95 yX10_setTest ∈ AW := aw_in 918 (by decide +kernel) rfl
theorem q919 : Cond.instanceMethod yX10_setTest ∈ AW := aw_in 919 (by decide +kernel) rfl
theorem q920 : Cond.selects RX10 yX10_setTest yX10_setTest ∈ AW := aw_in 920 (by decide +kernel) rfl
theorem q921 : Cond.code yX10_setTest cX10_setTest 4 none ∈ AW := aw_in 921 (by decide +kernel) rfl
theorem q922 : Cond.methodLink RL 99 yX10_setPenalty ∈ AW := aw_in 922 (by decide +kernel) rfl
theorem q923 : Cond.instanceMethod yX10_setPenalty ∈ AW := aw_in 923 (by decide +kernel) rfl
theorem q924 : Cond.selects RX10 yX10_setPenalty yX10_setPenalty ∈ AW := aw_in 924 (by decide +kernel) rfl
theorem q925 : Cond.code yX10_setPenalty cX10_setPenalty 3 (some .int) ∈ AW := aw_in 925 (by decide +kernel) rfl
theorem q926 : Cond.methodLink RL 102 yX10_add ∈ AW := aw_in 926 (by decide +kernel) rfl
theorem q927 : Cond.instanceMethod yX10_add ∈ AW := aw_in 927 (by decide +kernel) rfl
theorem q928 : Cond.selects RX10 yX10_add yX10_add ∈ AW := aw_in 928 (by decide +kernel) rfl
theorem q929 : Cond.code yX10_add cX10_add 2 (some .int) ∈ AW := aw_in 929 (by decide +kernel) rfl
theorem q930 : Cond.methodLink RX10 142 yX10_isValue ∈ AW := aw_in 930 (by decide +kernel) rfl
theorem q931 : Cond.static yX10_isValue ∈ AW := aw_in 931 (by decide +kernel) rfl
theorem q932 : Cond.code yX10_isValue cX10_isValue 1 (some .boolean) ∈ AW := aw_in 932 (by decide +kernel) rfl
theorem q933 : Cond.methodLink RX10 145 yX10_puts ∈ AW := aw_in 933 (by decide +kernel) rfl
theorem q935 : Cond.instanceMethod yX10_puts ∈ AW := aw_in 935 (by decide +kernel) rfl
theorem q936 : Cond.code yX10_puts cX10_puts 3 (some .int) ∈ AW := aw_in 936 (by decide +kernel) rfl
theorem q937 : Cond.methodLink RX10 135 yX10_sums ∈ AW := aw_in 937 (by decide +kernel) rfl
theorem q939 : Cond.instanceMethod yX10_sums ∈ AW := aw_in 939 (by decide +kernel) rfl
theorem q940 : Cond.code yX10_sums cX10_sums 3 (some .int) ∈ AW := aw_in 940 (by decide +kernel) rfl
theorem q941 : Cond.methodLink RX10 127 yX10_raises ∈ AW := aw_in 941 (by decide +kernel) rfl
theorem q943 : Cond.instanceMethod yX10_raises ∈ AW := aw_in 943 (by decide +kernel) rfl
theorem q944 : Cond.code yX10_raises cX10_raises 3 none ∈ AW := aw_in 944 (by decide +kernel) rfl
theorem q945 : Cond.methodLink RX10 139 yX10_tests ∈ AW := aw_in 945 (by decide +kernel) rfl
theorem q947 : Cond.instanceMethod yX10_tests ∈ AW := aw_in 947 (by decide +kernel) rfl
theorem q948 : Cond.code yX10_tests cX10_tests 2 (some .int) ∈ AW := aw_in 948 (by decide +kernel) rfl
theorem q949 : Cond.methodLink RX10 131 yX10_floor ∈ AW := aw_in 949 (by decide +kernel) rfl
theorem q950 : Cond.static yX10_floor ∈ AW := aw_in 950 (by decide +kernel) rfl
theorem q951 : Cond.code yX10_floor cX10_floor 2 (some .int) ∈ AW := aw_in 951 (by decide +kernel) rfl
theorem q952 : Cond.methodLink RL 106 yX10_addRun ∈ AW := aw_in 952 (by decide +kernel) rfl
theorem q953 : Cond.instanceMethod yX10_addRun ∈ AW := aw_in 953 (by decide +kernel) rfl
theorem q954 : Cond.selects RX10 yX10_addRun yX10_addRun ∈ AW := aw_in 954 (by decide +kernel) rfl
theorem q955 : Cond.code yX10_addRun cX10_addRun 7 (some .int) ∈ AW := aw_in 955 (by decide +kernel) rfl
theorem q956 : Cond.methodLink RL 110 yX10_size ∈ AW := aw_in 956 (by decide +kernel) rfl
theorem q957 : Cond.instanceMethod yX10_size ∈ AW := aw_in 957 (by decide +kernel) rfl
theorem q958 : Cond.selects RX10 yX10_size yX10_size ∈ AW := aw_in 958 (by decide +kernel) rfl
theorem q959 : Cond.code yX10_size cX10_size 1 (some .int) ∈ AW := aw_in 959 (by decide +kernel) rfl
theorem q960 : Cond.methodLink RX10 148 yX10_tells ∈ AW := aw_in 960 (by decide +kernel) rfl
theorem q962 : Cond.instanceMethod yX10_tells ∈ AW := aw_in 962 (by decide +kernel) rfl
theorem q963 : Cond.code yX10_tells cX10_tells 2 (some .int) ∈ AW := aw_in 963 (by decide +kernel) rfl
theorem q964 : Cond.methodLink RL 113 yX10_value ∈ AW := aw_in 964 (by decide +kernel) rfl
theorem q965 : Cond.instanceMethod yX10_value ∈ AW := aw_in 965 (by decide +kernel) rfl
theorem q966 : Cond.selects RX10 yX10_value yX10_value ∈ AW := aw_in 966 (by decide +kernel) rfl
theorem q967 : Cond.code yX10_value cX10_value 2 (some .int) ∈ AW := aw_in 967 (by decide +kernel) rfl
theorem q968 : Cond.methodLink RL 117 yX10_highSum ∈ AW := aw_in 968 (by decide +kernel) rfl
theorem q969 : Cond.instanceMethod yX10_highSum ∈ AW := aw_in 969 (by decide +kernel) rfl
theorem q970 : Cond.selects RX10 yX10_highSum yX10_highSum ∈ AW := aw_in 970 (by decide +kernel) rfl
theorem q971 : Cond.code yX10_highSum cX10_highSum 1 (some .int) ∈ AW := aw_in 971 (by decide +kernel) rfl
theorem q972 : Cond.methodLink RL 121 yX10_lowSum ∈ AW := aw_in 972 (by decide +kernel) rfl
theorem q973 : Cond.instanceMethod yX10_lowSum ∈ AW := aw_in 973 (by decide +kernel) rfl
theorem q974 : Cond.selects RX10 yX10_lowSum yX10_lowSum ∈ AW := aw_in 974 (by decide +kernel) rfl
theorem q975 : Cond.code yX10_lowSum cX10_lowSum 1 (some .int) ∈ AW := aw_in 975 (by decide +kernel) rfl
theorem q976 : Cond.methodLink RL 125 yX10_testSum ∈ AW := aw_in 976 (by decide +kernel) rfl
theorem q977 : Cond.instanceMethod yX10_testSum ∈ AW := aw_in 977 (by decide +kernel) rfl
theorem q978 : Cond.selects RX10 yX10_testSum yX10_testSum ∈ AW := aw_in 978 (by decide +kernel) rfl
theorem q979 : Cond.code yX10_testSum cX10_testSum 1 (some .int) ∈ AW := aw_in 979 (by decide +kernel) rfl
theorem q980 : Cond.methodLink RL 129 yX10_alarms ∈ AW := aw_in 980 (by decide +kernel) rfl
theorem q981 : Cond.instanceMethod yX10_alarms ∈ AW := aw_in 981 (by decide +kernel) rfl
theorem q982 : Cond.selects RX10 yX10_alarms yX10_alarms ∈ AW := aw_in 982 (by decide +kernel) rfl
theorem q983 : Cond.code yX10_alarms cX10_alarms 1 (some .int) ∈ AW := aw_in 983 (by decide +kernel) rfl
theorem q984 : Cond.methodLink RL 132 yX10_alarmKind ∈ AW := aw_in 984 (by decide +kernel) rfl
theorem q985 : Cond.instanceMethod yX10_alarmKind ∈ AW := aw_in 985 (by decide +kernel) rfl
theorem q986 : Cond.selects RX10 yX10_alarmKind yX10_alarmKind ∈ AW := aw_in 986 (by decide +kernel) rfl
theorem q987 : Cond.code yX10_alarmKind cX10_alarmKind 2 (some .int) ∈ AW := aw_in 987 (by decide +kernel) rfl
theorem q988 : Cond.methodLink RX10 151 yX10_ofAlarm ∈ AW := aw_in 988 (by decide +kernel) rfl
theorem q990 : Cond.instanceMethod yX10_ofAlarm ∈ AW := aw_in 990 (by decide +kernel) rfl
theorem q991 : Cond.code yX10_ofAlarm cX10_ofAlarm 3 (some .int) ∈ AW := aw_in 991 (by decide +kernel) rfl
theorem q992 : Cond.methodLink RL 135 yX10_alarmNumber ∈ AW := aw_in 992 (by decide +kernel) rfl
theorem q993 : Cond.instanceMethod yX10_alarmNumber ∈ AW := aw_in 993 (by decide +kernel) rfl
theorem q994 : Cond.selects RX10 yX10_alarmNumber yX10_alarmNumber ∈ AW := aw_in 994 (by decide +kernel) rfl
theorem q995 : Cond.code yX10_alarmNumber cX10_alarmNumber 2 (some .int) ∈ AW := aw_in 995 (by decide +kernel) rfl
theorem q996 : Cond.methodLink RL 138 yX10_alarmStart ∈ AW := aw_in 996 (by decide +kernel) rfl
theorem q997 : Cond.instanceMethod yX10_alarmStart ∈ AW := aw_in 997 (by decide +kernel) rfl
theorem q998 : Cond.selects RX10 yX10_alarmStart yX10_alarmStart ∈ AW := aw_in 998 (by decide +kernel) rfl
theorem q999 : Cond.code yX10_alarmStart cX10_alarmStart 2 (some .int) ∈ AW := aw_in 999 (by decide +kernel) rfl
theorem q1000 : Cond.methodLink RL 142 yX10_cost ∈ AW := aw_in 1000 (by decide +kernel) rfl
theorem q1001 : Cond.instanceMethod yX10_cost ∈ AW := aw_in 1001 (by decide +kernel) rfl
theorem q1002 : Cond.selects RX10 yX10_cost yX10_cost ∈ AW := aw_in 1002 (by decide +kernel) rfl
theorem q1003 : Cond.code yX10_cost cX10_cost 3 (some .int) ∈ AW := aw_in 1003 (by decide +kernel) rfl
theorem q1004 : Cond.methodLink RX10 158 yX10_isSegment ∈ AW := aw_in 1004 (by decide +kernel) rfl
theorem q1006 : Cond.instanceMethod yX10_isSegment ∈ AW := aw_in 1006 (by decide +kernel) rfl
theorem q1007 : Cond.code yX10_isSegment cX10_isSegment 3 (some .boolean) ∈ AW := aw_in 1007 (by decide +kernel) rfl
theorem q1008 : Cond.methodLink RX10 162 yX10_weighs ∈ AW := aw_in 1008 (by decide +kernel) rfl
theorem q1010 : Cond.instanceMethod yX10_weighs ∈ AW := aw_in 1010 (by decide +kernel) rfl
theorem q1011 : Cond.code yX10_weighs cX10_weighs 7 none ∈ AW := aw_in 1011 (by decide +kernel) rfl
theorem q1012 : Cond.methodLink RX10 155 yX10_sorts ∈ AW := aw_in 1012 (by decide +kernel) rfl
theorem q1014 : Cond.instanceMethod yX10_sorts ∈ AW := aw_in 1014 (by decide +kernel) rfl
theorem q1015 : Cond.code yX10_sorts cX10_sorts 4 none ∈ AW := aw_in 1015 (by decide +kernel) rfl
theorem q1016 : Cond.methodLink RX10 165 yX10_of ∈ AW := aw_in 1016 (by decide +kernel) rfl
theorem q1018 : Cond.instanceMethod yX10_of ∈ AW := aw_in 1018 (by decide +kernel) rfl
theorem q1019 : Cond.code yX10_of cX10_of 3 (some .int) ∈ AW := aw_in 1019 (by decide +kernel) rfl
theorem q1020 : Cond.methodLink RL 145 yX10_middle ∈ AW := aw_in 1020 (by decide +kernel) rfl
theorem q1021 : Cond.instanceMethod yX10_middle ∈ AW := aw_in 1021 (by decide +kernel) rfl
theorem q1022 : Cond.selects RX10 yX10_middle yX10_middle ∈ AW := aw_in 1022 (by decide +kernel) rfl
theorem q1023 : Cond.code yX10_middle cX10_middle 4 (some .int) ∈ AW := aw_in 1023 (by decide +kernel) rfl
theorem q1024 : Cond.methodLink RL 149 yX10_changes ∈ AW := aw_in 1024 (by decide +kernel) rfl
theorem q1025 : Cond.instanceMethod yX10_changes ∈ AW := aw_in 1025 (by decide +kernel) rfl
theorem q1026 : Cond.selects RX10 yX10_changes yX10_changes ∈ AW := aw_in 1026 (by decide +kernel) rfl
theorem q1027 : Cond.code yX10_changes cX10_changes 1 (some .int) ∈ AW := aw_in 1027 (by decide +kernel) rfl
theorem q1028 : Cond.methodLink RX10 168 yX10_cuts ∈ AW := aw_in 1028 (by decide +kernel) rfl
theorem q1030 : Cond.instanceMethod yX10_cuts ∈ AW := aw_in 1030 (by decide +kernel) rfl
theorem q1031 : Cond.code yX10_cuts cX10_cuts 5 none ∈ AW := aw_in 1031 (by decide +kernel) rfl
theorem q1032 : Cond.methodLink RL 152 yX10_change ∈ AW := aw_in 1032 (by decide +kernel) rfl
theorem q1033 : Cond.instanceMethod yX10_change ∈ AW := aw_in 1033 (by decide +kernel) rfl
theorem q1034 : Cond.selects RX10 yX10_change yX10_change ∈ AW := aw_in 1034 (by decide +kernel) rfl
theorem q1035 : Cond.code yX10_change cX10_change 4 (some .int) ∈ AW := aw_in 1035 (by decide +kernel) rfl
theorem q1036 : Cond.methodLink RX10 171 yX10_next ∈ AW := aw_in 1036 (by decide +kernel) rfl
theorem q1038 : Cond.instanceMethod yX10_next ∈ AW := aw_in 1038 (by decide +kernel) rfl
theorem q1039 : Cond.code yX10_next cX10_next 5 (some .int) ∈ AW := aw_in 1039 (by decide +kernel) rfl
theorem q1040 : Cond.methodLink RL 156 yX10_bestCost ∈ AW := aw_in 1040 (by decide +kernel) rfl
theorem q1041 : Cond.instanceMethod yX10_bestCost ∈ AW := aw_in 1041 (by decide +kernel) rfl
theorem q1042 : Cond.selects RX10 yX10_bestCost yX10_bestCost ∈ AW := aw_in 1042 (by decide +kernel) rfl
theorem q1043 : Cond.code yX10_bestCost cX10_bestCost 1 (some .int) ∈ AW := aw_in 1043 (by decide +kernel) rfl
theorem q1044 : Cond.methodLink RL 159 yX10_leastCost ∈ AW := aw_in 1044 (by decide +kernel) rfl
theorem q1045 : Cond.instanceMethod yX10_leastCost ∈ AW := aw_in 1045 (by decide +kernel) rfl
theorem q1046 : Cond.selects RX10 yX10_leastCost yX10_leastCost ∈ AW := aw_in 1046 (by decide +kernel) rfl
theorem q1047 : Cond.code yX10_leastCost cX10_leastCost 6 (some .int) ∈ AW := aw_in 1047 (by decide +kernel) rfl
theorem q1048 : Cond.methodLink RL 163 yX10_greedyChanges ∈ AW := aw_in 1048 (by decide +kernel) rfl
theorem q1049 : Cond.instanceMethod yX10_greedyChanges ∈ AW := aw_in 1049 (by decide +kernel) rfl
theorem q1050 : Cond.selects RX10 yX10_greedyChanges yX10_greedyChanges ∈ AW := aw_in 1050 (by decide +kernel) rfl
theorem q1051 : Cond.code yX10_greedyChanges cX10_greedyChanges 1 (some .int) ∈ AW := aw_in 1051 (by decide +kernel) rfl
theorem q1052 : Cond.methodLink RX10 174 yX10_cutsGreedily ∈ AW := aw_in 1052 (by decide +kernel) rfl
theorem q1054 : Cond.instanceMethod yX10_cutsGreedily ∈ AW := aw_in 1054 (by decide +kernel) rfl
theorem q1055 : Cond.code yX10_cutsGreedily cX10_cutsGreedily 9 (some .int) ∈ AW := aw_in 1055 (by decide +kernel) rfl
theorem q1056 : Cond.methodLink RX10 178 yX10_cut ∈ AW := aw_in 1056 (by decide +kernel) rfl
theorem q1058 : Cond.instanceMethod yX10_cut ∈ AW := aw_in 1058 (by decide +kernel) rfl
theorem q1059 : Cond.code yX10_cut cX10_cut 4 (some .int) ∈ AW := aw_in 1059 (by decide +kernel) rfl
theorem q1060 : Cond.methodLink RL 166 yX10_greedyChange ∈ AW := aw_in 1060 (by decide +kernel) rfl
theorem q1061 : Cond.instanceMethod yX10_greedyChange ∈ AW := aw_in 1061 (by decide +kernel) rfl
theorem q1062 : Cond.selects RX10 yX10_greedyChange yX10_greedyChange ∈ AW := aw_in 1062 (by decide +kernel) rfl
theorem q1063 : Cond.code yX10_greedyChange cX10_greedyChange 3 (some .int) ∈ AW := aw_in 1063 (by decide +kernel) rfl
theorem q1064 : Cond.methodLink RL 170 yX10_greedyCost ∈ AW := aw_in 1064 (by decide +kernel) rfl
theorem q1065 : Cond.instanceMethod yX10_greedyCost ∈ AW := aw_in 1065 (by decide +kernel) rfl
theorem q1066 : Cond.selects RX10 yX10_greedyCost yX10_greedyCost ∈ AW := aw_in 1066 (by decide +kernel) rfl
theorem q1067 : Cond.code yX10_greedyCost cX10_greedyCost 1 (some .int) ∈ AW := aw_in 1067 (by decide +kernel) rfl
theorem q1068 : Cond.methodLink RL 173 yX10_toggleTruth ∈ AW := aw_in 1068 (by decide +kernel) rfl
theorem q1069 : Cond.instanceMethod yX10_toggleTruth ∈ AW := aw_in 1069 (by decide +kernel) rfl
theorem q1070 : Cond.selects RX10 yX10_toggleTruth yX10_toggleTruth ∈ AW := aw_in 1070 (by decide +kernel) rfl
theorem q1071 : Cond.code yX10_toggleTruth cX10_toggleTruth 2 (some .boolean) ∈ AW := aw_in 1071 (by decide +kernel) rfl
theorem q1072 : Cond.methodLink RL 176 yX10_matched ∈ AW := aw_in 1072 (by decide +kernel) rfl
theorem q1073 : Cond.instanceMethod yX10_matched ∈ AW := aw_in 1073 (by decide +kernel) rfl
theorem q1074 : Cond.selects RX10 yX10_matched yX10_matched ∈ AW := aw_in 1074 (by decide +kernel) rfl
theorem q1075 : Cond.code yX10_matched cX10_matched 3 (some .int) ∈ AW := aw_in 1075 (by decide +kernel) rfl
theorem q1076 : Cond.methodLink RX10 184 yX10_isNoWindow ∈ AW := aw_in 1076 (by decide +kernel) rfl
theorem q1078 : Cond.instanceMethod yX10_isNoWindow ∈ AW := aw_in 1078 (by decide +kernel) rfl
theorem q1079 : Cond.code yX10_isNoWindow cX10_isNoWindow 3 (some .boolean) ∈ AW := aw_in 1079 (by decide +kernel) rfl
theorem q1080 : Cond.methodLink RX10 187 yX10_matches ∈ AW := aw_in 1080 (by decide +kernel) rfl
theorem q1082 : Cond.instanceMethod yX10_matches ∈ AW := aw_in 1082 (by decide +kernel) rfl
theorem q1083 : Cond.code yX10_matches cX10_matches 7 (some .int) ∈ AW := aw_in 1083 (by decide +kernel) rfl
theorem q1084 : Cond.methodLink RL 179 yX10_falseAlarms ∈ AW := aw_in 1084 (by decide +kernel) rfl
theorem q1085 : Cond.instanceMethod yX10_falseAlarms ∈ AW := aw_in 1085 (by decide +kernel) rfl
theorem q1086 : Cond.selects RX10 yX10_falseAlarms yX10_falseAlarms ∈ AW := aw_in 1086 (by decide +kernel) rfl
theorem q1087 : Cond.code yX10_falseAlarms cX10_falseAlarms 5 (some .int) ∈ AW := aw_in 1087 (by decide +kernel) rfl
theorem q1088 : Cond.methodLink RL 183 yX10_averageDelay ∈ AW := aw_in 1088 (by decide +kernel) rfl
theorem q1089 : Cond.instanceMethod yX10_averageDelay ∈ AW := aw_in 1089 (by decide +kernel) rfl
theorem q1090 : Cond.selects RX10 yX10_averageDelay yX10_averageDelay ∈ AW := aw_in 1090 (by decide +kernel) rfl
theorem q1091 : Cond.code yX10_averageDelay cX10_averageDelay 4 (some .float) ∈ AW := aw_in 1091 (by decide +kernel) rfl
theorem q1092 : Cond.arrayClass .long ∈ AW := aw_in 1092 (by decide +kernel) rfl
theorem q1093 : Cond.arrayClass .double ∈ AW := aw_in 1093 (by decide +kernel) rfl
theorem iwX0 : ∀ w ∈ u_ws RX0 TX0 4, w ∈ AW := by
  intro w hw
  obtain ⟨k, hk, rfl⟩ := List.mem_map.mp hw
  have hk := List.mem_range.mp hk
  match k, hk with
  | 0, _ => exact q83
  | 1, _ => exact q85
  | 2, _ => exact q87
  | 3, _ => exact q89
  | k + 4, h => exact absurd h (by omega)
theorem iwX1 : ∀ w ∈ u_ws RX1 TX1 3, w ∈ AW := by
  intro w hw
  obtain ⟨k, hk, rfl⟩ := List.mem_map.mp hw
  have hk := List.mem_range.mp hk
  match k, hk with
  | 0, _ => exact q214
  | 1, _ => exact q216
  | 2, _ => exact q218
  | k + 3, h => exact absurd h (by omega)
theorem iwX10 : ∀ w ∈ u_ws RX10 TX10 34, w ∈ AW := by
  intro w hw
  obtain ⟨k, hk, rfl⟩ := List.mem_map.mp hw
  have hk := List.mem_range.mp hk
  match k, hk with
  | 0, _ => exact q821
  | 1, _ => exact q823
  | 2, _ => exact q825
  | 3, _ => exact q827
  | 4, _ => exact q829
  | 5, _ => exact q831
  | 6, _ => exact q833
  | 7, _ => exact q835
  | 8, _ => exact q837
  | 9, _ => exact q839
  | 10, _ => exact q841
  | 11, _ => exact q843
  | 12, _ => exact q845
  | 13, _ => exact q847
  | 14, _ => exact q849
  | 15, _ => exact q851
  | 16, _ => exact q853
  | 17, _ => exact q855
  | 18, _ => exact q857
  | 19, _ => exact q859
  | 20, _ => exact q861
  | 21, _ => exact q863
  | 22, _ => exact q865
  | 23, _ => exact q867
  | 24, _ => exact q869
  | 25, _ => exact q871
  | 26, _ => exact q873
  | 27, _ => exact q875
  | 28, _ => exact q877
  | 29, _ => exact q879
  | 30, _ => exact q881
  | 31, _ => exact q883
  | 32, _ => exact q885
  | 33, _ => exact q887
  | k + 34, h => exact absurd h (by omega)
theorem iwX2 : ∀ w ∈ u_ws RX2 TX2 7, w ∈ AW := by
  intro w hw
  obtain ⟨k, hk, rfl⟩ := List.mem_map.mp hw
  have hk := List.mem_range.mp hk
  match k, hk with
  | 0, _ => exact q116
  | 1, _ => exact q118
  | 2, _ => exact q120
  | 3, _ => exact q122
  | 4, _ => exact q124
  | 5, _ => exact q126
  | 6, _ => exact q128
  | k + 7, h => exact absurd h (by omega)
theorem iwX3 : ∀ w ∈ u_ws RX3 TX3 4, w ∈ AW := by
  intro w hw
  obtain ⟨k, hk, rfl⟩ := List.mem_map.mp hw
  have hk := List.mem_range.mp hk
  match k, hk with
  | 0, _ => exact q234
  | 1, _ => exact q236
  | 2, _ => exact q238
  | 3, _ => exact q240
  | k + 4, h => exact absurd h (by omega)
theorem iwX5 : ∀ w ∈ u_ws RX5 TX5 2, w ∈ AW := by
  intro w hw
  obtain ⟨k, hk, rfl⟩ := List.mem_map.mp hw
  have hk := List.mem_range.mp hk
  match k, hk with
  | 0, _ => exact q200
  | 1, _ => exact q202
  | k + 2, h => exact absurd h (by omega)
theorem iwX6 : ∀ w ∈ u_ws RX6 TX6 8, w ∈ AW := by
  intro w hw
  obtain ⟨k, hk, rfl⟩ := List.mem_map.mp hw
  have hk := List.mem_range.mp hk
  match k, hk with
  | 0, _ => exact q155
  | 1, _ => exact q157
  | 2, _ => exact q159
  | 3, _ => exact q161
  | 4, _ => exact q163
  | 5, _ => exact q165
  | 6, _ => exact q167
  | 7, _ => exact q169
  | k + 8, h => exact absurd h (by omega)
theorem iwX7 : ∀ w ∈ u_ws RX7 TX7 3, w ∈ AW := by
  intro w hw
  obtain ⟨k, hk, rfl⟩ := List.mem_map.mp hw
  have hk := List.mem_range.mp hk
  match k, hk with
  | 0, _ => exact q184
  | 1, _ => exact q186
  | 2, _ => exact q188
  | k + 3, h => exact absurd h (by omega)
theorem iwX8 : ∀ w ∈ u_ws RX8 TX8 5, w ∈ AW := by
  intro w hw
  obtain ⟨k, hk, rfl⟩ := List.mem_map.mp hw
  have hk := List.mem_range.mp hk
  match k, hk with
  | 0, _ => exact q259
  | 1, _ => exact q261
  | 2, _ => exact q263
  | 3, _ => exact q265
  | 4, _ => exact q267
  | k + 5, h => exact absurd h (by omega)
theorem iwX9 : ∀ w ∈ u_ws RX9 TX9 12, w ∈ AW := by
  intro w hw
  obtain ⟨k, hk, rfl⟩ := List.mem_map.mp hw
  have hk := List.mem_range.mp hk
  match k, hk with
  | 0, _ => exact q282
  | 1, _ => exact q284
  | 2, _ => exact q286
  | 3, _ => exact q288
  | 4, _ => exact q290
  | 5, _ => exact q292
  | 6, _ => exact q294
  | 7, _ => exact q296
  | 8, _ => exact q298
  | 9, _ => exact q300
  | 10, _ => exact q302
  | 11, _ => exact q304
  | k + 12, h => exact absurd h (by omega)
theorem hd_J9_floorDiv_7cf53 : yJ9_floorDiv_7cf53.cls = RJ9 ∧ yJ9_floorDiv_7cf53.cls ≠ "java/lang/invoke/MethodHandle" ∧ yJ9_floorDiv_7cf53.cls ≠ "java/lang/invoke/VarHandle" ∧ (parseMethodDescriptor yJ9_floorDiv_7cf53.desc).map (fun d => d.parameters.length) = some 2 := by decide +kernel
theorem hd_J9_max_7cf53 : yJ9_max_7cf53.cls = RJ9 ∧ yJ9_max_7cf53.cls ≠ "java/lang/invoke/MethodHandle" ∧ yJ9_max_7cf53.cls ≠ "java/lang/invoke/VarHandle" ∧ (parseMethodDescriptor yJ9_max_7cf53.desc).map (fun d => d.parameters.length) = some 2 := by decide +kernel
theorem hd_J9_min_7cf53 : yJ9_min_7cf53.cls = RJ9 ∧ yJ9_min_7cf53.cls ≠ "java/lang/invoke/MethodHandle" ∧ yJ9_min_7cf53.cls ≠ "java/lang/invoke/VarHandle" ∧ (parseMethodDescriptor yJ9_min_7cf53.desc).map (fun d => d.parameters.length) = some 2 := by decide +kernel
theorem hd_X0_has : yX0_has.cls = RX0 ∧ yX0_has.cls ≠ "java/lang/invoke/MethodHandle" ∧ yX0_has.cls ≠ "java/lang/invoke/VarHandle" ∧ (parseMethodDescriptor yX0_has.desc).map (fun d => d.parameters.length) = some 1 := by decide +kernel
theorem hd_X0_init : yX0_init.cls = RX0 ∧ yX0_init.cls ≠ "java/lang/invoke/MethodHandle" ∧ yX0_init.cls ≠ "java/lang/invoke/VarHandle" ∧ (parseMethodDescriptor yX0_init.desc).map (fun d => d.parameters.length) = some 0 := by decide +kernel
theorem hd_X0_raise : yX0_raise.cls = RX0 ∧ yX0_raise.cls ≠ "java/lang/invoke/MethodHandle" ∧ yX0_raise.cls ≠ "java/lang/invoke/VarHandle" ∧ (parseMethodDescriptor yX0_raise.desc).map (fun d => d.parameters.length) = some 3 := by decide +kernel
theorem hd_X0_removeAll : yX0_removeAll.cls = RX0 ∧ yX0_removeAll.cls ≠ "java/lang/invoke/MethodHandle" ∧ yX0_removeAll.cls ≠ "java/lang/invoke/VarHandle" ∧ (parseMethodDescriptor yX0_removeAll.desc).map (fun d => d.parameters.length) = some 0 := by decide +kernel
theorem hd_X10_add : yX10_add.cls = RX10 ∧ yX10_add.cls ≠ "java/lang/invoke/MethodHandle" ∧ yX10_add.cls ≠ "java/lang/invoke/VarHandle" ∧ (parseMethodDescriptor yX10_add.desc).map (fun d => d.parameters.length) = some 1 := by decide +kernel
theorem hd_X10_addRun : yX10_addRun.cls = RX10 ∧ yX10_addRun.cls ≠ "java/lang/invoke/MethodHandle" ∧ yX10_addRun.cls ≠ "java/lang/invoke/VarHandle" ∧ (parseMethodDescriptor yX10_addRun.desc).map (fun d => d.parameters.length) = some 3 := by decide +kernel
theorem hd_X10_alarmKind : yX10_alarmKind.cls = RX10 ∧ yX10_alarmKind.cls ≠ "java/lang/invoke/MethodHandle" ∧ yX10_alarmKind.cls ≠ "java/lang/invoke/VarHandle" ∧ (parseMethodDescriptor yX10_alarmKind.desc).map (fun d => d.parameters.length) = some 1 := by decide +kernel
theorem hd_X10_alarmNumber : yX10_alarmNumber.cls = RX10 ∧ yX10_alarmNumber.cls ≠ "java/lang/invoke/MethodHandle" ∧ yX10_alarmNumber.cls ≠ "java/lang/invoke/VarHandle" ∧ (parseMethodDescriptor yX10_alarmNumber.desc).map (fun d => d.parameters.length) = some 1 := by decide +kernel
theorem hd_X10_alarmStart : yX10_alarmStart.cls = RX10 ∧ yX10_alarmStart.cls ≠ "java/lang/invoke/MethodHandle" ∧ yX10_alarmStart.cls ≠ "java/lang/invoke/VarHandle" ∧ (parseMethodDescriptor yX10_alarmStart.desc).map (fun d => d.parameters.length) = some 1 := by decide +kernel
theorem hd_X10_alarms : yX10_alarms.cls = RX10 ∧ yX10_alarms.cls ≠ "java/lang/invoke/MethodHandle" ∧ yX10_alarms.cls ≠ "java/lang/invoke/VarHandle" ∧ (parseMethodDescriptor yX10_alarms.desc).map (fun d => d.parameters.length) = some 0 := by decide +kernel
theorem hd_X10_averageDelay : yX10_averageDelay.cls = RX10 ∧ yX10_averageDelay.cls ≠ "java/lang/invoke/MethodHandle" ∧ yX10_averageDelay.cls ≠ "java/lang/invoke/VarHandle" ∧ (parseMethodDescriptor yX10_averageDelay.desc).map (fun d => d.parameters.length) = some 2 := by decide +kernel
theorem hd_X10_bestCost : yX10_bestCost.cls = RX10 ∧ yX10_bestCost.cls ≠ "java/lang/invoke/MethodHandle" ∧ yX10_bestCost.cls ≠ "java/lang/invoke/VarHandle" ∧ (parseMethodDescriptor yX10_bestCost.desc).map (fun d => d.parameters.length) = some 0 := by decide +kernel
theorem hd_X10_change : yX10_change.cls = RX10 ∧ yX10_change.cls ≠ "java/lang/invoke/MethodHandle" ∧ yX10_change.cls ≠ "java/lang/invoke/VarHandle" ∧ (parseMethodDescriptor yX10_change.desc).map (fun d => d.parameters.length) = some 1 := by decide +kernel
theorem hd_X10_changes : yX10_changes.cls = RX10 ∧ yX10_changes.cls ≠ "java/lang/invoke/MethodHandle" ∧ yX10_changes.cls ≠ "java/lang/invoke/VarHandle" ∧ (parseMethodDescriptor yX10_changes.desc).map (fun d => d.parameters.length) = some 0 := by decide +kernel
theorem hd_X10_clear : yX10_clear.cls = RX10 ∧ yX10_clear.cls ≠ "java/lang/invoke/MethodHandle" ∧ yX10_clear.cls ≠ "java/lang/invoke/VarHandle" ∧ (parseMethodDescriptor yX10_clear.desc).map (fun d => d.parameters.length) = some 0 := by decide +kernel
theorem hd_X10_cost : yX10_cost.cls = RX10 ∧ yX10_cost.cls ≠ "java/lang/invoke/MethodHandle" ∧ yX10_cost.cls ≠ "java/lang/invoke/VarHandle" ∧ (parseMethodDescriptor yX10_cost.desc).map (fun d => d.parameters.length) = some 2 := by decide +kernel
theorem hd_X10_cut : yX10_cut.cls = RX10 ∧ yX10_cut.cls ≠ "java/lang/invoke/MethodHandle" ∧ yX10_cut.cls ≠ "java/lang/invoke/VarHandle" ∧ (parseMethodDescriptor yX10_cut.desc).map (fun d => d.parameters.length) = some 1 := by decide +kernel
theorem hd_X10_cuts : yX10_cuts.cls = RX10 ∧ yX10_cuts.cls ≠ "java/lang/invoke/MethodHandle" ∧ yX10_cuts.cls ≠ "java/lang/invoke/VarHandle" ∧ (parseMethodDescriptor yX10_cuts.desc).map (fun d => d.parameters.length) = some 0 := by decide +kernel
theorem hd_X10_cutsGreedily : yX10_cutsGreedily.cls = RX10 ∧ yX10_cutsGreedily.cls ≠ "java/lang/invoke/MethodHandle" ∧ yX10_cutsGreedily.cls ≠ "java/lang/invoke/VarHandle" ∧ (parseMethodDescriptor yX10_cutsGreedily.desc).map (fun d => d.parameters.length) = some 0 := by decide +kernel
theorem hd_X10_fails : yX10_fails.cls = RX10 ∧ yX10_fails.cls ≠ "java/lang/invoke/MethodHandle" ∧ yX10_fails.cls ≠ "java/lang/invoke/VarHandle" ∧ (parseMethodDescriptor yX10_fails.desc).map (fun d => d.parameters.length) = some 1 := by decide +kernel
theorem hd_X10_falseAlarms : yX10_falseAlarms.cls = RX10 ∧ yX10_falseAlarms.cls ≠ "java/lang/invoke/MethodHandle" ∧ yX10_falseAlarms.cls ≠ "java/lang/invoke/VarHandle" ∧ (parseMethodDescriptor yX10_falseAlarms.desc).map (fun d => d.parameters.length) = some 2 := by decide +kernel
theorem hd_X10_floor : yX10_floor.cls = RX10 ∧ yX10_floor.cls ≠ "java/lang/invoke/MethodHandle" ∧ yX10_floor.cls ≠ "java/lang/invoke/VarHandle" ∧ (parseMethodDescriptor yX10_floor.desc).map (fun d => d.parameters.length) = some 2 := by decide +kernel
theorem hd_X10_greedyChange : yX10_greedyChange.cls = RX10 ∧ yX10_greedyChange.cls ≠ "java/lang/invoke/MethodHandle" ∧ yX10_greedyChange.cls ≠ "java/lang/invoke/VarHandle" ∧ (parseMethodDescriptor yX10_greedyChange.desc).map (fun d => d.parameters.length) = some 1 := by decide +kernel
theorem hd_X10_greedyChanges : yX10_greedyChanges.cls = RX10 ∧ yX10_greedyChanges.cls ≠ "java/lang/invoke/MethodHandle" ∧ yX10_greedyChanges.cls ≠ "java/lang/invoke/VarHandle" ∧ (parseMethodDescriptor yX10_greedyChanges.desc).map (fun d => d.parameters.length) = some 0 := by decide +kernel
theorem hd_X10_greedyCost : yX10_greedyCost.cls = RX10 ∧ yX10_greedyCost.cls ≠ "java/lang/invoke/MethodHandle" ∧ yX10_greedyCost.cls ≠ "java/lang/invoke/VarHandle" ∧ (parseMethodDescriptor yX10_greedyCost.desc).map (fun d => d.parameters.length) = some 0 := by decide +kernel
theorem hd_X10_highSum : yX10_highSum.cls = RX10 ∧ yX10_highSum.cls ≠ "java/lang/invoke/MethodHandle" ∧ yX10_highSum.cls ≠ "java/lang/invoke/VarHandle" ∧ (parseMethodDescriptor yX10_highSum.desc).map (fun d => d.parameters.length) = some 0 := by decide +kernel
theorem hd_X10_init : yX10_init.cls = RX10 ∧ yX10_init.cls ≠ "java/lang/invoke/MethodHandle" ∧ yX10_init.cls ≠ "java/lang/invoke/VarHandle" ∧ (parseMethodDescriptor yX10_init.desc).map (fun d => d.parameters.length) = some 0 := by decide +kernel
theorem hd_X10_isIn : yX10_isIn.cls = RX10 ∧ yX10_isIn.cls ≠ "java/lang/invoke/MethodHandle" ∧ yX10_isIn.cls ≠ "java/lang/invoke/VarHandle" ∧ (parseMethodDescriptor yX10_isIn.desc).map (fun d => d.parameters.length) = some 3 := by decide +kernel
theorem hd_X10_isNoWindow : yX10_isNoWindow.cls = RX10 ∧ yX10_isNoWindow.cls ≠ "java/lang/invoke/MethodHandle" ∧ yX10_isNoWindow.cls ≠ "java/lang/invoke/VarHandle" ∧ (parseMethodDescriptor yX10_isNoWindow.desc).map (fun d => d.parameters.length) = some 2 := by decide +kernel
theorem hd_X10_isSegment : yX10_isSegment.cls = RX10 ∧ yX10_isSegment.cls ≠ "java/lang/invoke/MethodHandle" ∧ yX10_isSegment.cls ≠ "java/lang/invoke/VarHandle" ∧ (parseMethodDescriptor yX10_isSegment.desc).map (fun d => d.parameters.length) = some 2 := by decide +kernel
theorem hd_X10_isValue : yX10_isValue.cls = RX10 ∧ yX10_isValue.cls ≠ "java/lang/invoke/MethodHandle" ∧ yX10_isValue.cls ≠ "java/lang/invoke/VarHandle" ∧ (parseMethodDescriptor yX10_isValue.desc).map (fun d => d.parameters.length) = some 1 := by decide +kernel
theorem hd_X10_leastCost : yX10_leastCost.cls = RX10 ∧ yX10_leastCost.cls ≠ "java/lang/invoke/MethodHandle" ∧ yX10_leastCost.cls ≠ "java/lang/invoke/VarHandle" ∧ (parseMethodDescriptor yX10_leastCost.desc).map (fun d => d.parameters.length) = some 1 := by decide +kernel
theorem hd_X10_lowSum : yX10_lowSum.cls = RX10 ∧ yX10_lowSum.cls ≠ "java/lang/invoke/MethodHandle" ∧ yX10_lowSum.cls ≠ "java/lang/invoke/VarHandle" ∧ (parseMethodDescriptor yX10_lowSum.desc).map (fun d => d.parameters.length) = some 0 := by decide +kernel
theorem hd_X10_matched : yX10_matched.cls = RX10 ∧ yX10_matched.cls ≠ "java/lang/invoke/MethodHandle" ∧ yX10_matched.cls ≠ "java/lang/invoke/VarHandle" ∧ (parseMethodDescriptor yX10_matched.desc).map (fun d => d.parameters.length) = some 2 := by decide +kernel
theorem hd_X10_matches : yX10_matches.cls = RX10 ∧ yX10_matches.cls ≠ "java/lang/invoke/MethodHandle" ∧ yX10_matches.cls ≠ "java/lang/invoke/VarHandle" ∧ (parseMethodDescriptor yX10_matches.desc).map (fun d => d.parameters.length) = some 2 := by decide +kernel
theorem hd_X10_middle : yX10_middle.cls = RX10 ∧ yX10_middle.cls ≠ "java/lang/invoke/MethodHandle" ∧ yX10_middle.cls ≠ "java/lang/invoke/VarHandle" ∧ (parseMethodDescriptor yX10_middle.desc).map (fun d => d.parameters.length) = some 2 := by decide +kernel
theorem hd_X10_next : yX10_next.cls = RX10 ∧ yX10_next.cls ≠ "java/lang/invoke/MethodHandle" ∧ yX10_next.cls ≠ "java/lang/invoke/VarHandle" ∧ (parseMethodDescriptor yX10_next.desc).map (fun d => d.parameters.length) = some 1 := by decide +kernel
theorem hd_X10_of : yX10_of.cls = RX10 ∧ yX10_of.cls ≠ "java/lang/invoke/MethodHandle" ∧ yX10_of.cls ≠ "java/lang/invoke/VarHandle" ∧ (parseMethodDescriptor yX10_of.desc).map (fun d => d.parameters.length) = some 2 := by decide +kernel
theorem hd_X10_ofAlarm : yX10_ofAlarm.cls = RX10 ∧ yX10_ofAlarm.cls ≠ "java/lang/invoke/MethodHandle" ∧ yX10_ofAlarm.cls ≠ "java/lang/invoke/VarHandle" ∧ (parseMethodDescriptor yX10_ofAlarm.desc).map (fun d => d.parameters.length) = some 2 := by decide +kernel
theorem hd_X10_puts : yX10_puts.cls = RX10 ∧ yX10_puts.cls ≠ "java/lang/invoke/MethodHandle" ∧ yX10_puts.cls ≠ "java/lang/invoke/VarHandle" ∧ (parseMethodDescriptor yX10_puts.desc).map (fun d => d.parameters.length) = some 1 := by decide +kernel
theorem hd_X10_raises : yX10_raises.cls = RX10 ∧ yX10_raises.cls ≠ "java/lang/invoke/MethodHandle" ∧ yX10_raises.cls ≠ "java/lang/invoke/VarHandle" ∧ (parseMethodDescriptor yX10_raises.desc).map (fun d => d.parameters.length) = some 2 := by decide +kernel
theorem hd_X10_restsSums : yX10_restsSums.cls = RX10 ∧ yX10_restsSums.cls ≠ "java/lang/invoke/MethodHandle" ∧ yX10_restsSums.cls ≠ "java/lang/invoke/VarHandle" ∧ (parseMethodDescriptor yX10_restsSums.desc).map (fun d => d.parameters.length) = some 0 := by decide +kernel
theorem hd_X10_restsTest : yX10_restsTest.cls = RX10 ∧ yX10_restsTest.cls ≠ "java/lang/invoke/MethodHandle" ∧ yX10_restsTest.cls ≠ "java/lang/invoke/VarHandle" ∧ (parseMethodDescriptor yX10_restsTest.desc).map (fun d => d.parameters.length) = some 0 := by decide +kernel
theorem hd_X10_setPenalty : yX10_setPenalty.cls = RX10 ∧ yX10_setPenalty.cls ≠ "java/lang/invoke/MethodHandle" ∧ yX10_setPenalty.cls ≠ "java/lang/invoke/VarHandle" ∧ (parseMethodDescriptor yX10_setPenalty.desc).map (fun d => d.parameters.length) = some 1 := by decide +kernel
theorem hd_X10_setSums : yX10_setSums.cls = RX10 ∧ yX10_setSums.cls ≠ "java/lang/invoke/MethodHandle" ∧ yX10_setSums.cls ≠ "java/lang/invoke/VarHandle" ∧ (parseMethodDescriptor yX10_setSums.desc).map (fun d => d.parameters.length) = some 3 := by decide +kernel
theorem hd_X10_setTest : yX10_setTest.cls = RX10 ∧ yX10_setTest.cls ≠ "java/lang/invoke/MethodHandle" ∧ yX10_setTest.cls ≠ "java/lang/invoke/VarHandle" ∧ (parseMethodDescriptor yX10_setTest.desc).map (fun d => d.parameters.length) = some 3 := by decide +kernel
theorem hd_X10_size : yX10_size.cls = RX10 ∧ yX10_size.cls ≠ "java/lang/invoke/MethodHandle" ∧ yX10_size.cls ≠ "java/lang/invoke/VarHandle" ∧ (parseMethodDescriptor yX10_size.desc).map (fun d => d.parameters.length) = some 0 := by decide +kernel
theorem hd_X10_sorts : yX10_sorts.cls = RX10 ∧ yX10_sorts.cls ≠ "java/lang/invoke/MethodHandle" ∧ yX10_sorts.cls ≠ "java/lang/invoke/VarHandle" ∧ (parseMethodDescriptor yX10_sorts.desc).map (fun d => d.parameters.length) = some 2 := by decide +kernel
theorem hd_X10_sums : yX10_sums.cls = RX10 ∧ yX10_sums.cls ≠ "java/lang/invoke/MethodHandle" ∧ yX10_sums.cls ≠ "java/lang/invoke/VarHandle" ∧ (parseMethodDescriptor yX10_sums.desc).map (fun d => d.parameters.length) = some 1 := by decide +kernel
theorem hd_X10_tells : yX10_tells.cls = RX10 ∧ yX10_tells.cls ≠ "java/lang/invoke/MethodHandle" ∧ yX10_tells.cls ≠ "java/lang/invoke/VarHandle" ∧ (parseMethodDescriptor yX10_tells.desc).map (fun d => d.parameters.length) = some 1 := by decide +kernel
theorem hd_X10_testSum : yX10_testSum.cls = RX10 ∧ yX10_testSum.cls ≠ "java/lang/invoke/MethodHandle" ∧ yX10_testSum.cls ≠ "java/lang/invoke/VarHandle" ∧ (parseMethodDescriptor yX10_testSum.desc).map (fun d => d.parameters.length) = some 0 := by decide +kernel
theorem hd_X10_tests : yX10_tests.cls = RX10 ∧ yX10_tests.cls ≠ "java/lang/invoke/MethodHandle" ∧ yX10_tests.cls ≠ "java/lang/invoke/VarHandle" ∧ (parseMethodDescriptor yX10_tests.desc).map (fun d => d.parameters.length) = some 1 := by decide +kernel
theorem hd_X10_thrown : yX10_thrown.cls = RX10 ∧ yX10_thrown.cls ≠ "java/lang/invoke/MethodHandle" ∧ yX10_thrown.cls ≠ "java/lang/invoke/VarHandle" ∧ (parseMethodDescriptor yX10_thrown.desc).map (fun d => d.parameters.length) = some 0 := by decide +kernel
theorem hd_X10_toggleTruth : yX10_toggleTruth.cls = RX10 ∧ yX10_toggleTruth.cls ≠ "java/lang/invoke/MethodHandle" ∧ yX10_toggleTruth.cls ≠ "java/lang/invoke/VarHandle" ∧ (parseMethodDescriptor yX10_toggleTruth.desc).map (fun d => d.parameters.length) = some 1 := by decide +kernel
theorem hd_X10_value : yX10_value.cls = RX10 ∧ yX10_value.cls ≠ "java/lang/invoke/MethodHandle" ∧ yX10_value.cls ≠ "java/lang/invoke/VarHandle" ∧ (parseMethodDescriptor yX10_value.desc).map (fun d => d.parameters.length) = some 1 := by decide +kernel
theorem hd_X10_weighs : yX10_weighs.cls = RX10 ∧ yX10_weighs.cls ≠ "java/lang/invoke/MethodHandle" ∧ yX10_weighs.cls ≠ "java/lang/invoke/VarHandle" ∧ (parseMethodDescriptor yX10_weighs.desc).map (fun d => d.parameters.length) = some 0 := by decide +kernel
theorem hd_X1_find : yX1_find.cls = RX1 ∧ yX1_find.cls ≠ "java/lang/invoke/MethodHandle" ∧ yX1_find.cls ≠ "java/lang/invoke/VarHandle" ∧ (parseMethodDescriptor yX1_find.desc).map (fun d => d.parameters.length) = some 4 := by decide +kernel
theorem hd_X1_findFrom : yX1_findFrom.cls = RX1 ∧ yX1_findFrom.cls ≠ "java/lang/invoke/MethodHandle" ∧ yX1_findFrom.cls ≠ "java/lang/invoke/VarHandle" ∧ (parseMethodDescriptor yX1_findFrom.desc).map (fun d => d.parameters.length) = some 4 := by decide +kernel
theorem hd_X1_init : yX1_init.cls = RX1 ∧ yX1_init.cls ≠ "java/lang/invoke/MethodHandle" ∧ yX1_init.cls ≠ "java/lang/invoke/VarHandle" ∧ (parseMethodDescriptor yX1_init.desc).map (fun d => d.parameters.length) = some 0 := by decide +kernel
theorem hd_X2_beginAnew : yX2_beginAnew.cls = RX2 ∧ yX2_beginAnew.cls ≠ "java/lang/invoke/MethodHandle" ∧ yX2_beginAnew.cls ≠ "java/lang/invoke/VarHandle" ∧ (parseMethodDescriptor yX2_beginAnew.desc).map (fun d => d.parameters.length) = some 0 := by decide +kernel
theorem hd_X2_init : yX2_init.cls = RX2 ∧ yX2_init.cls ≠ "java/lang/invoke/MethodHandle" ∧ yX2_init.cls ≠ "java/lang/invoke/VarHandle" ∧ (parseMethodDescriptor yX2_init.desc).map (fun d => d.parameters.length) = some 0 := by decide +kernel
theorem hd_X2_moveSums : yX2_moveSums.cls = RX2 ∧ yX2_moveSums.cls ≠ "java/lang/invoke/MethodHandle" ∧ yX2_moveSums.cls ≠ "java/lang/invoke/VarHandle" ∧ (parseMethodDescriptor yX2_moveSums.desc).map (fun d => d.parameters.length) = some 2 := by decide +kernel
theorem hd_X2_setUp : yX2_setUp.cls = RX2 ∧ yX2_setUp.cls ≠ "java/lang/invoke/MethodHandle" ∧ yX2_setUp.cls ≠ "java/lang/invoke/VarHandle" ∧ (parseMethodDescriptor yX2_setUp.desc).map (fun d => d.parameters.length) = some 3 := by decide +kernel
theorem hd_X2_watch : yX2_watch.cls = RX2 ∧ yX2_watch.cls ≠ "java/lang/invoke/MethodHandle" ∧ yX2_watch.cls ≠ "java/lang/invoke/VarHandle" ∧ (parseMethodDescriptor yX2_watch.desc).map (fun d => d.parameters.length) = some 3 := by decide +kernel
theorem hd_X3_cut : yX3_cut.cls = RX3 ∧ yX3_cut.cls ≠ "java/lang/invoke/MethodHandle" ∧ yX3_cut.cls ≠ "java/lang/invoke/VarHandle" ∧ (parseMethodDescriptor yX3_cut.desc).map (fun d => d.parameters.length) = some 1 := by decide +kernel
theorem hd_X3_endOfSegment : yX3_endOfSegment.cls = RX3 ∧ yX3_endOfSegment.cls ≠ "java/lang/invoke/MethodHandle" ∧ yX3_endOfSegment.cls ≠ "java/lang/invoke/VarHandle" ∧ (parseMethodDescriptor yX3_endOfSegment.desc).map (fun d => d.parameters.length) = some 2 := by decide +kernel
theorem hd_X3_has : yX3_has.cls = RX3 ∧ yX3_has.cls ≠ "java/lang/invoke/MethodHandle" ∧ yX3_has.cls ≠ "java/lang/invoke/VarHandle" ∧ (parseMethodDescriptor yX3_has.desc).map (fun d => d.parameters.length) = some 1 := by decide +kernel
theorem hd_X3_init : yX3_init.cls = RX3 ∧ yX3_init.cls ≠ "java/lang/invoke/MethodHandle" ∧ yX3_init.cls ≠ "java/lang/invoke/VarHandle" ∧ (parseMethodDescriptor yX3_init.desc).map (fun d => d.parameters.length) = some 0 := by decide +kernel
theorem hd_X3_join : yX3_join.cls = RX3 ∧ yX3_join.cls ≠ "java/lang/invoke/MethodHandle" ∧ yX3_join.cls ≠ "java/lang/invoke/VarHandle" ∧ (parseMethodDescriptor yX3_join.desc).map (fun d => d.parameters.length) = some 0 := by decide +kernel
theorem hd_X3_numberAt : yX3_numberAt.cls = RX3 ∧ yX3_numberAt.cls ≠ "java/lang/invoke/MethodHandle" ∧ yX3_numberAt.cls ≠ "java/lang/invoke/VarHandle" ∧ (parseMethodDescriptor yX3_numberAt.desc).map (fun d => d.parameters.length) = some 1 := by decide +kernel
theorem hd_X3_settle : yX3_settle.cls = RX3 ∧ yX3_settle.cls ≠ "java/lang/invoke/MethodHandle" ∧ yX3_settle.cls ≠ "java/lang/invoke/VarHandle" ∧ (parseMethodDescriptor yX3_settle.desc).map (fun d => d.parameters.length) = some 3 := by decide +kernel
theorem hd_X4_find : yX4_find.cls = RX4 ∧ yX4_find.cls ≠ "java/lang/invoke/MethodHandle" ∧ yX4_find.cls ≠ "java/lang/invoke/VarHandle" ∧ (parseMethodDescriptor yX4_find.desc).map (fun d => d.parameters.length) = some 4 := by decide +kernel
theorem hd_X4_numberOfGreatestGain : yX4_numberOfGreatestGain.cls = RX4 ∧ yX4_numberOfGreatestGain.cls ≠ "java/lang/invoke/MethodHandle" ∧ yX4_numberOfGreatestGain.cls ≠ "java/lang/invoke/VarHandle" ∧ (parseMethodDescriptor yX4_numberOfGreatestGain.desc).map (fun d => d.parameters.length) = some 4 := by decide +kernel
theorem hd_X5_forget : yX5_forget.cls = RX5 ∧ yX5_forget.cls ≠ "java/lang/invoke/MethodHandle" ∧ yX5_forget.cls ≠ "java/lang/invoke/VarHandle" ∧ (parseMethodDescriptor yX5_forget.desc).map (fun d => d.parameters.length) = some 0 := by decide +kernel
theorem hd_X5_init : yX5_init.cls = RX5 ∧ yX5_init.cls ≠ "java/lang/invoke/MethodHandle" ∧ yX5_init.cls ≠ "java/lang/invoke/VarHandle" ∧ (parseMethodDescriptor yX5_init.desc).map (fun d => d.parameters.length) = some 0 := by decide +kernel
theorem hd_X5_learn : yX5_learn.cls = RX5 ∧ yX5_learn.cls ≠ "java/lang/invoke/MethodHandle" ∧ yX5_learn.cls ≠ "java/lang/invoke/VarHandle" ∧ (parseMethodDescriptor yX5_learn.desc).map (fun d => d.parameters.length) = some 2 := by decide +kernel
theorem hd_X5_learnCuttingsTo : yX5_learnCuttingsTo.cls = RX5 ∧ yX5_learnCuttingsTo.cls ≠ "java/lang/invoke/MethodHandle" ∧ yX5_learnCuttingsTo.cls ≠ "java/lang/invoke/VarHandle" ∧ (parseMethodDescriptor yX5_learnCuttingsTo.desc).map (fun d => d.parameters.length) = some 2 := by decide +kernel
theorem hd_X5_leastWithLastSegment : yX5_leastWithLastSegment.cls = RX5 ∧ yX5_leastWithLastSegment.cls ≠ "java/lang/invoke/MethodHandle" ∧ yX5_leastWithLastSegment.cls ≠ "java/lang/invoke/VarHandle" ∧ (parseMethodDescriptor yX5_leastWithLastSegment.desc).map (fun d => d.parameters.length) = some 3 := by decide +kernel
theorem hd_X5_of : yX5_of.cls = RX5 ∧ yX5_of.cls ≠ "java/lang/invoke/MethodHandle" ∧ yX5_of.cls ≠ "java/lang/invoke/VarHandle" ∧ (parseMethodDescriptor yX5_of.desc).map (fun d => d.parameters.length) = some 2 := by decide +kernel
theorem hd_X6_beginAnew : yX6_beginAnew.cls = RX6 ∧ yX6_beginAnew.cls ≠ "java/lang/invoke/MethodHandle" ∧ yX6_beginAnew.cls ≠ "java/lang/invoke/VarHandle" ∧ (parseMethodDescriptor yX6_beginAnew.desc).map (fun d => d.parameters.length) = some 0 := by decide +kernel
theorem hd_X6_init : yX6_init.cls = RX6 ∧ yX6_init.cls ≠ "java/lang/invoke/MethodHandle" ∧ yX6_init.cls ≠ "java/lang/invoke/VarHandle" ∧ (parseMethodDescriptor yX6_init.desc).map (fun d => d.parameters.length) = some 0 := by decide +kernel
theorem hd_X6_moveSum : yX6_moveSum.cls = RX6 ∧ yX6_moveSum.cls ≠ "java/lang/invoke/MethodHandle" ∧ yX6_moveSum.cls ≠ "java/lang/invoke/VarHandle" ∧ (parseMethodDescriptor yX6_moveSum.desc).map (fun d => d.parameters.length) = some 2 := by decide +kernel
theorem hd_X6_setUp : yX6_setUp.cls = RX6 ∧ yX6_setUp.cls ≠ "java/lang/invoke/MethodHandle" ∧ yX6_setUp.cls ≠ "java/lang/invoke/VarHandle" ∧ (parseMethodDescriptor yX6_setUp.desc).map (fun d => d.parameters.length) = some 3 := by decide +kernel
theorem hd_X6_startOfGrowth : yX6_startOfGrowth.cls = RX6 ∧ yX6_startOfGrowth.cls ≠ "java/lang/invoke/MethodHandle" ∧ yX6_startOfGrowth.cls ≠ "java/lang/invoke/VarHandle" ∧ (parseMethodDescriptor yX6_startOfGrowth.desc).map (fun d => d.parameters.length) = some 1 := by decide +kernel
theorem hd_X6_watch : yX6_watch.cls = RX6 ∧ yX6_watch.cls ≠ "java/lang/invoke/MethodHandle" ∧ yX6_watch.cls ≠ "java/lang/invoke/VarHandle" ∧ (parseMethodDescriptor yX6_watch.desc).map (fun d => d.parameters.length) = some 3 := by decide +kernel
theorem hd_X7_distanceFromMiddles : yX7_distanceFromMiddles.cls = RX7 ∧ yX7_distanceFromMiddles.cls ≠ "java/lang/invoke/MethodHandle" ∧ yX7_distanceFromMiddles.cls ≠ "java/lang/invoke/VarHandle" ∧ (parseMethodDescriptor yX7_distanceFromMiddles.desc).map (fun d => d.parameters.length) = some 2 := by decide +kernel
theorem hd_X7_forget : yX7_forget.cls = RX7 ∧ yX7_forget.cls ≠ "java/lang/invoke/MethodHandle" ∧ yX7_forget.cls ≠ "java/lang/invoke/VarHandle" ∧ (parseMethodDescriptor yX7_forget.desc).map (fun d => d.parameters.length) = some 0 := by decide +kernel
theorem hd_X7_init : yX7_init.cls = RX7 ∧ yX7_init.cls ≠ "java/lang/invoke/MethodHandle" ∧ yX7_init.cls ≠ "java/lang/invoke/VarHandle" ∧ (parseMethodDescriptor yX7_init.desc).map (fun d => d.parameters.length) = some 0 := by decide +kernel
theorem hd_X7_learn : yX7_learn.cls = RX7 ∧ yX7_learn.cls ≠ "java/lang/invoke/MethodHandle" ∧ yX7_learn.cls ≠ "java/lang/invoke/VarHandle" ∧ (parseMethodDescriptor yX7_learn.desc).map (fun d => d.parameters.length) = some 2 := by decide +kernel
theorem hd_X7_learnSegmentsTo : yX7_learnSegmentsTo.cls = RX7 ∧ yX7_learnSegmentsTo.cls ≠ "java/lang/invoke/MethodHandle" ∧ yX7_learnSegmentsTo.cls ≠ "java/lang/invoke/VarHandle" ∧ (parseMethodDescriptor yX7_learnSegmentsTo.desc).map (fun d => d.parameters.length) = some 2 := by decide +kernel
theorem hd_X7_middleOf : yX7_middleOf.cls = RX7 ∧ yX7_middleOf.cls ≠ "java/lang/invoke/MethodHandle" ∧ yX7_middleOf.cls ≠ "java/lang/invoke/VarHandle" ∧ (parseMethodDescriptor yX7_middleOf.desc).map (fun d => d.parameters.length) = some 3 := by decide +kernel
theorem hd_X7_of : yX7_of.cls = RX7 ∧ yX7_of.cls ≠ "java/lang/invoke/MethodHandle" ∧ yX7_of.cls ≠ "java/lang/invoke/VarHandle" ∧ (parseMethodDescriptor yX7_of.desc).map (fun d => d.parameters.length) = some 2 := by decide +kernel
theorem hd_X7_sortIn : yX7_sortIn.cls = RX7 ∧ yX7_sortIn.cls ≠ "java/lang/invoke/MethodHandle" ∧ yX7_sortIn.cls ≠ "java/lang/invoke/VarHandle" ∧ (parseMethodDescriptor yX7_sortIn.desc).map (fun d => d.parameters.length) = some 2 := by decide +kernel
theorem hd_X7_triangle : yX7_triangle.cls = RX7 ∧ yX7_triangle.cls ≠ "java/lang/invoke/MethodHandle" ∧ yX7_triangle.cls ≠ "java/lang/invoke/VarHandle" ∧ (parseMethodDescriptor yX7_triangle.desc).map (fun d => d.parameters.length) = some 1 := by decide +kernel
theorem hd_X8_beginMatching : yX8_beginMatching.cls = RX8 ∧ yX8_beginMatching.cls ≠ "java/lang/invoke/MethodHandle" ∧ yX8_beginMatching.cls ≠ "java/lang/invoke/VarHandle" ∧ (parseMethodDescriptor yX8_beginMatching.desc).map (fun d => d.parameters.length) = some 0 := by decide +kernel
theorem hd_X8_init : yX8_init.cls = RX8 ∧ yX8_init.cls ≠ "java/lang/invoke/MethodHandle" ∧ yX8_init.cls ≠ "java/lang/invoke/VarHandle" ∧ (parseMethodDescriptor yX8_init.desc).map (fun d => d.parameters.length) = some 0 := by decide +kernel
theorem hd_X8_match : yX8_match.cls = RX8 ∧ yX8_match.cls ≠ "java/lang/invoke/MethodHandle" ∧ yX8_match.cls ≠ "java/lang/invoke/VarHandle" ∧ (parseMethodDescriptor yX8_match.desc).map (fun d => d.parameters.length) = some 3 := by decide +kernel
theorem hd_X8_matchAlarm : yX8_matchAlarm.cls = RX8 ∧ yX8_matchAlarm.cls ≠ "java/lang/invoke/MethodHandle" ∧ yX8_matchAlarm.cls ≠ "java/lang/invoke/VarHandle" ∧ (parseMethodDescriptor yX8_matchAlarm.desc).map (fun d => d.parameters.length) = some 2 := by decide +kernel
theorem hd_X8_removeMarks : yX8_removeMarks.cls = RX8 ∧ yX8_removeMarks.cls ≠ "java/lang/invoke/MethodHandle" ∧ yX8_removeMarks.cls ≠ "java/lang/invoke/VarHandle" ∧ (parseMethodDescriptor yX8_removeMarks.desc).map (fun d => d.parameters.length) = some 0 := by decide +kernel
theorem hd_X9_add : yX9_add.cls = RX9 ∧ yX9_add.cls ≠ "java/lang/invoke/MethodHandle" ∧ yX9_add.cls ≠ "java/lang/invoke/VarHandle" ∧ (parseMethodDescriptor yX9_add.desc).map (fun d => d.parameters.length) = some 1 := by decide +kernel
theorem hd_X9_addRun : yX9_addRun.cls = RX9 ∧ yX9_addRun.cls ≠ "java/lang/invoke/MethodHandle" ∧ yX9_addRun.cls ≠ "java/lang/invoke/VarHandle" ∧ (parseMethodDescriptor yX9_addRun.desc).map (fun d => d.parameters.length) = some 3 := by decide +kernel
theorem hd_X9_alarmKind : yX9_alarmKind.cls = RX9 ∧ yX9_alarmKind.cls ≠ "java/lang/invoke/MethodHandle" ∧ yX9_alarmKind.cls ≠ "java/lang/invoke/VarHandle" ∧ (parseMethodDescriptor yX9_alarmKind.desc).map (fun d => d.parameters.length) = some 1 := by decide +kernel
theorem hd_X9_alarmNumber : yX9_alarmNumber.cls = RX9 ∧ yX9_alarmNumber.cls ≠ "java/lang/invoke/MethodHandle" ∧ yX9_alarmNumber.cls ≠ "java/lang/invoke/VarHandle" ∧ (parseMethodDescriptor yX9_alarmNumber.desc).map (fun d => d.parameters.length) = some 1 := by decide +kernel
theorem hd_X9_alarmStart : yX9_alarmStart.cls = RX9 ∧ yX9_alarmStart.cls ≠ "java/lang/invoke/MethodHandle" ∧ yX9_alarmStart.cls ≠ "java/lang/invoke/VarHandle" ∧ (parseMethodDescriptor yX9_alarmStart.desc).map (fun d => d.parameters.length) = some 1 := by decide +kernel
theorem hd_X9_alarms : yX9_alarms.cls = RX9 ∧ yX9_alarms.cls ≠ "java/lang/invoke/MethodHandle" ∧ yX9_alarms.cls ≠ "java/lang/invoke/VarHandle" ∧ (parseMethodDescriptor yX9_alarms.desc).map (fun d => d.parameters.length) = some 0 := by decide +kernel
theorem hd_X9_averageDelay : yX9_averageDelay.cls = RX9 ∧ yX9_averageDelay.cls ≠ "java/lang/invoke/MethodHandle" ∧ yX9_averageDelay.cls ≠ "java/lang/invoke/VarHandle" ∧ (parseMethodDescriptor yX9_averageDelay.desc).map (fun d => d.parameters.length) = some 2 := by decide +kernel
theorem hd_X9_bestCost : yX9_bestCost.cls = RX9 ∧ yX9_bestCost.cls ≠ "java/lang/invoke/MethodHandle" ∧ yX9_bestCost.cls ≠ "java/lang/invoke/VarHandle" ∧ (parseMethodDescriptor yX9_bestCost.desc).map (fun d => d.parameters.length) = some 0 := by decide +kernel
theorem hd_X9_bestCutting : yX9_bestCutting.cls = RX9 ∧ yX9_bestCutting.cls ≠ "java/lang/invoke/MethodHandle" ∧ yX9_bestCutting.cls ≠ "java/lang/invoke/VarHandle" ∧ (parseMethodDescriptor yX9_bestCutting.desc).map (fun d => d.parameters.length) = some 0 := by decide +kernel
theorem hd_X9_change : yX9_change.cls = RX9 ∧ yX9_change.cls ≠ "java/lang/invoke/MethodHandle" ∧ yX9_change.cls ≠ "java/lang/invoke/VarHandle" ∧ (parseMethodDescriptor yX9_change.desc).map (fun d => d.parameters.length) = some 1 := by decide +kernel
theorem hd_X9_changes : yX9_changes.cls = RX9 ∧ yX9_changes.cls ≠ "java/lang/invoke/MethodHandle" ∧ yX9_changes.cls ≠ "java/lang/invoke/VarHandle" ∧ (parseMethodDescriptor yX9_changes.desc).map (fun d => d.parameters.length) = some 0 := by decide +kernel
theorem hd_X9_clear : yX9_clear.cls = RX9 ∧ yX9_clear.cls ≠ "java/lang/invoke/MethodHandle" ∧ yX9_clear.cls ≠ "java/lang/invoke/VarHandle" ∧ (parseMethodDescriptor yX9_clear.desc).map (fun d => d.parameters.length) = some 0 := by decide +kernel
theorem hd_X9_cost : yX9_cost.cls = RX9 ∧ yX9_cost.cls ≠ "java/lang/invoke/MethodHandle" ∧ yX9_cost.cls ≠ "java/lang/invoke/VarHandle" ∧ (parseMethodDescriptor yX9_cost.desc).map (fun d => d.parameters.length) = some 2 := by decide +kernel
theorem hd_X9_falseAlarms : yX9_falseAlarms.cls = RX9 ∧ yX9_falseAlarms.cls ≠ "java/lang/invoke/MethodHandle" ∧ yX9_falseAlarms.cls ≠ "java/lang/invoke/VarHandle" ∧ (parseMethodDescriptor yX9_falseAlarms.desc).map (fun d => d.parameters.length) = some 2 := by decide +kernel
theorem hd_X9_forgetCuttings : yX9_forgetCuttings.cls = RX9 ∧ yX9_forgetCuttings.cls ≠ "java/lang/invoke/MethodHandle" ∧ yX9_forgetCuttings.cls ≠ "java/lang/invoke/VarHandle" ∧ (parseMethodDescriptor yX9_forgetCuttings.desc).map (fun d => d.parameters.length) = some 0 := by decide +kernel
theorem hd_X9_greedyChange : yX9_greedyChange.cls = RX9 ∧ yX9_greedyChange.cls ≠ "java/lang/invoke/MethodHandle" ∧ yX9_greedyChange.cls ≠ "java/lang/invoke/VarHandle" ∧ (parseMethodDescriptor yX9_greedyChange.desc).map (fun d => d.parameters.length) = some 1 := by decide +kernel
theorem hd_X9_greedyChanges : yX9_greedyChanges.cls = RX9 ∧ yX9_greedyChanges.cls ≠ "java/lang/invoke/MethodHandle" ∧ yX9_greedyChanges.cls ≠ "java/lang/invoke/VarHandle" ∧ (parseMethodDescriptor yX9_greedyChanges.desc).map (fun d => d.parameters.length) = some 0 := by decide +kernel
theorem hd_X9_greedyCost : yX9_greedyCost.cls = RX9 ∧ yX9_greedyCost.cls ≠ "java/lang/invoke/MethodHandle" ∧ yX9_greedyCost.cls ≠ "java/lang/invoke/VarHandle" ∧ (parseMethodDescriptor yX9_greedyCost.desc).map (fun d => d.parameters.length) = some 0 := by decide +kernel
theorem hd_X9_greedyCutting : yX9_greedyCutting.cls = RX9 ∧ yX9_greedyCutting.cls ≠ "java/lang/invoke/MethodHandle" ∧ yX9_greedyCutting.cls ≠ "java/lang/invoke/VarHandle" ∧ (parseMethodDescriptor yX9_greedyCutting.desc).map (fun d => d.parameters.length) = some 0 := by decide +kernel
theorem hd_X9_highSum : yX9_highSum.cls = RX9 ∧ yX9_highSum.cls ≠ "java/lang/invoke/MethodHandle" ∧ yX9_highSum.cls ≠ "java/lang/invoke/VarHandle" ∧ (parseMethodDescriptor yX9_highSum.desc).map (fun d => d.parameters.length) = some 0 := by decide +kernel
theorem hd_X9_init : yX9_init.cls = RX9 ∧ yX9_init.cls ≠ "java/lang/invoke/MethodHandle" ∧ yX9_init.cls ≠ "java/lang/invoke/VarHandle" ∧ (parseMethodDescriptor yX9_init.desc).map (fun d => d.parameters.length) = some 0 := by decide +kernel
theorem hd_X9_isAmountFromZero : yX9_isAmountFromZero.cls = RX9 ∧ yX9_isAmountFromZero.cls ≠ "java/lang/invoke/MethodHandle" ∧ yX9_isAmountFromZero.cls ≠ "java/lang/invoke/VarHandle" ∧ (parseMethodDescriptor yX9_isAmountFromZero.desc).map (fun d => d.parameters.length) = some 1 := by decide +kernel
theorem hd_X9_isBetween : yX9_isBetween.cls = RX9 ∧ yX9_isBetween.cls ≠ "java/lang/invoke/MethodHandle" ∧ yX9_isBetween.cls ≠ "java/lang/invoke/VarHandle" ∧ (parseMethodDescriptor yX9_isBetween.desc).map (fun d => d.parameters.length) = some 3 := by decide +kernel
theorem hd_X9_isSegment : yX9_isSegment.cls = RX9 ∧ yX9_isSegment.cls ≠ "java/lang/invoke/MethodHandle" ∧ yX9_isSegment.cls ≠ "java/lang/invoke/VarHandle" ∧ (parseMethodDescriptor yX9_isSegment.desc).map (fun d => d.parameters.length) = some 2 := by decide +kernel
theorem hd_X9_isValueNumber : yX9_isValueNumber.cls = RX9 ∧ yX9_isValueNumber.cls ≠ "java/lang/invoke/MethodHandle" ∧ yX9_isValueNumber.cls ≠ "java/lang/invoke/VarHandle" ∧ (parseMethodDescriptor yX9_isValueNumber.desc).map (fun d => d.parameters.length) = some 1 := by decide +kernel
theorem hd_X9_learntCosts : yX9_learntCosts.cls = RX9 ∧ yX9_learntCosts.cls ≠ "java/lang/invoke/MethodHandle" ∧ yX9_learntCosts.cls ≠ "java/lang/invoke/VarHandle" ∧ (parseMethodDescriptor yX9_learntCosts.desc).map (fun d => d.parameters.length) = some 0 := by decide +kernel
theorem hd_X9_leastCost : yX9_leastCost.cls = RX9 ∧ yX9_leastCost.cls ≠ "java/lang/invoke/MethodHandle" ∧ yX9_leastCost.cls ≠ "java/lang/invoke/VarHandle" ∧ (parseMethodDescriptor yX9_leastCost.desc).map (fun d => d.parameters.length) = some 1 := by decide +kernel
theorem hd_X9_lowSum : yX9_lowSum.cls = RX9 ∧ yX9_lowSum.cls ≠ "java/lang/invoke/MethodHandle" ∧ yX9_lowSum.cls ≠ "java/lang/invoke/VarHandle" ∧ (parseMethodDescriptor yX9_lowSum.desc).map (fun d => d.parameters.length) = some 0 := by decide +kernel
theorem hd_X9_matchAlarms : yX9_matchAlarms.cls = RX9 ∧ yX9_matchAlarms.cls ≠ "java/lang/invoke/MethodHandle" ∧ yX9_matchAlarms.cls ≠ "java/lang/invoke/VarHandle" ∧ (parseMethodDescriptor yX9_matchAlarms.desc).map (fun d => d.parameters.length) = some 2 := by decide +kernel
theorem hd_X9_matched : yX9_matched.cls = RX9 ∧ yX9_matched.cls ≠ "java/lang/invoke/MethodHandle" ∧ yX9_matched.cls ≠ "java/lang/invoke/VarHandle" ∧ (parseMethodDescriptor yX9_matched.desc).map (fun d => d.parameters.length) = some 2 := by decide +kernel
theorem hd_X9_middle : yX9_middle.cls = RX9 ∧ yX9_middle.cls ≠ "java/lang/invoke/MethodHandle" ∧ yX9_middle.cls ≠ "java/lang/invoke/VarHandle" ∧ (parseMethodDescriptor yX9_middle.desc).map (fun d => d.parameters.length) = some 2 := by decide +kernel
theorem hd_X9_requireArgument : yX9_requireArgument.cls = RX9 ∧ yX9_requireArgument.cls ≠ "java/lang/invoke/MethodHandle" ∧ yX9_requireArgument.cls ≠ "java/lang/invoke/VarHandle" ∧ (parseMethodDescriptor yX9_requireArgument.desc).map (fun d => d.parameters.length) = some 1 := by decide +kernel
theorem hd_X9_requireIndex : yX9_requireIndex.cls = RX9 ∧ yX9_requireIndex.cls ≠ "java/lang/invoke/MethodHandle" ∧ yX9_requireIndex.cls ≠ "java/lang/invoke/VarHandle" ∧ (parseMethodDescriptor yX9_requireIndex.desc).map (fun d => d.parameters.length) = some 1 := by decide +kernel
theorem hd_X9_requireState : yX9_requireState.cls = RX9 ∧ yX9_requireState.cls ≠ "java/lang/invoke/MethodHandle" ∧ yX9_requireState.cls ≠ "java/lang/invoke/VarHandle" ∧ (parseMethodDescriptor yX9_requireState.desc).map (fun d => d.parameters.length) = some 1 := by decide +kernel
theorem hd_X9_setPenalty : yX9_setPenalty.cls = RX9 ∧ yX9_setPenalty.cls ≠ "java/lang/invoke/MethodHandle" ∧ yX9_setPenalty.cls ≠ "java/lang/invoke/VarHandle" ∧ (parseMethodDescriptor yX9_setPenalty.desc).map (fun d => d.parameters.length) = some 1 := by decide +kernel
theorem hd_X9_setSums : yX9_setSums.cls = RX9 ∧ yX9_setSums.cls ≠ "java/lang/invoke/MethodHandle" ∧ yX9_setSums.cls ≠ "java/lang/invoke/VarHandle" ∧ (parseMethodDescriptor yX9_setSums.desc).map (fun d => d.parameters.length) = some 3 := by decide +kernel
theorem hd_X9_setTest : yX9_setTest.cls = RX9 ∧ yX9_setTest.cls ≠ "java/lang/invoke/MethodHandle" ∧ yX9_setTest.cls ≠ "java/lang/invoke/VarHandle" ∧ (parseMethodDescriptor yX9_setTest.desc).map (fun d => d.parameters.length) = some 3 := by decide +kernel
theorem hd_X9_size : yX9_size.cls = RX9 ∧ yX9_size.cls ≠ "java/lang/invoke/MethodHandle" ∧ yX9_size.cls ≠ "java/lang/invoke/VarHandle" ∧ (parseMethodDescriptor yX9_size.desc).map (fun d => d.parameters.length) = some 0 := by decide +kernel
theorem hd_X9_take : yX9_take.cls = RX9 ∧ yX9_take.cls ≠ "java/lang/invoke/MethodHandle" ∧ yX9_take.cls ≠ "java/lang/invoke/VarHandle" ∧ (parseMethodDescriptor yX9_take.desc).map (fun d => d.parameters.length) = some 1 := by decide +kernel
theorem hd_X9_testSum : yX9_testSum.cls = RX9 ∧ yX9_testSum.cls ≠ "java/lang/invoke/MethodHandle" ∧ yX9_testSum.cls ≠ "java/lang/invoke/VarHandle" ∧ (parseMethodDescriptor yX9_testSum.desc).map (fun d => d.parameters.length) = some 0 := by decide +kernel
theorem hd_X9_toggleTruth : yX9_toggleTruth.cls = RX9 ∧ yX9_toggleTruth.cls ≠ "java/lang/invoke/MethodHandle" ∧ yX9_toggleTruth.cls ≠ "java/lang/invoke/VarHandle" ∧ (parseMethodDescriptor yX9_toggleTruth.desc).map (fun d => d.parameters.length) = some 1 := by decide +kernel
theorem hd_X9_value : yX9_value.cls = RX9 ∧ yX9_value.cls ≠ "java/lang/invoke/MethodHandle" ∧ yX9_value.cls ≠ "java/lang/invoke/VarHandle" ∧ (parseMethodDescriptor yX9_value.desc).map (fun d => d.parameters.length) = some 1 := by decide +kernel
end
section
/-! standard forms of contracts: the world before, the world behind, the answer, all told exactly -/
abbrev ty2 (cI cZ : ClassId) : List (ClassId × FieldType) := [(cI, .int), (cZ, .boolean)]
def va_ups : va_W → List Nat → va_W → va_W
  | ws, i :: is, c :: cs => va_ups (ws.set i c) is cs
  | ws, _, _ => ws
theorem va_ups_get (is : List Nat) : ∀ (ws w1 : va_W), w1.length = is.length → va_nd is = true → ∀ (k : Nat) (q : Nat × va_E), (va_ups ws is w1)[k]? = some q → (∃ j : Nat, is[j]? = some k ∧ w1[j]? = some q) ∨ (k ∉ is ∧ ws[k]? = some q) := by
  induction is with
  | nil =>
    intro ws w1 hl hn k q h
    cases w1 with
    | nil => exact Or.inr ⟨List.not_mem_nil, h⟩
    | cons c cs => cases hl
  | cons i is ih =>
    intro ws w1 hl hn k q h
    cases w1 with
    | nil => cases hl
    | cons c cs =>
      simp only [va_nd, Bool.and_eq_true, decide_eq_true_eq] at hn
      rcases ih (ws.set i c) cs (by simpa using hl) hn.2 k q h with ⟨j, h1, h2⟩ | ⟨h1, h2⟩
      · exact Or.inl ⟨j + 1, by simpa using h1, by simpa using h2⟩
      · by_cases hk : k = i
        · subst hk
          refine Or.inl ⟨0, rfl, ?_⟩
          rw [List.getElem?_set] at h2
          split at h2
          · split at h2
            · rw [← h2]; rfl
            · cases h2
          · next hne => exact absurd rfl hne
        · rw [List.getElem?_set_ne (Ne.symm hk)] at h2
          exact Or.inr ⟨by simp [hk, h1], h2⟩
theorem va_ups_at (is : List Nat) : ∀ (ws w1 : va_W), w1.length = is.length → va_nd is = true → ∀ j : Nat, (∀ i ∈ is, i < ws.length) → ∀ (i : Nat) (q : Nat × va_E), is[j]? = some i → w1[j]? = some q → (va_ups ws is w1)[i]? = some q := by
  have keep : ∀ (is : List Nat) (ws w1 : va_W) (k : Nat), k ∉ is → (va_ups ws is w1)[k]? = ws[k]? := by
    intro is
    induction is with
    | nil => intro ws w1 k h; cases w1 <;> rfl
    | cons i is ih =>
      intro ws w1 k h
      cases w1 with
      | nil => rfl
      | cons c cs =>
        show (va_ups (ws.set i c) is cs)[k]? = _
        rw [ih _ _ _ (fun z => h (List.mem_cons_of_mem _ z)), List.getElem?_set_ne (fun z : i = k => h (by rw [z]; exact List.mem_cons_self))]
  induction is with
  | nil => intro ws w1 hl hn j hb i q h; simp at h
  | cons a is ih =>
    intro ws w1 hl hn j hb i q h h1
    cases w1 with
    | nil => cases hl
    | cons c cs =>
      simp only [va_nd, Bool.and_eq_true, decide_eq_true_eq] at hn
      cases j with
      | zero =>
        simp only [List.getElem?_cons_zero, Option.some.injEq] at h h1
        subst h; subst h1
        show (va_ups (ws.set a c) is cs)[a]? = _
        rw [keep is _ _ _ hn.1, List.getElem?_set_self (hb a List.mem_cons_self)]
      | succ j =>
        simp only [List.getElem?_cons_succ] at h h1
        exact ih (ws.set a c) cs (by simpa using hl) hn.2 j (fun i hi => by rw [List.length_set]; exact hb i (List.mem_cons_of_mem _ hi)) i q h h1
theorem va_D.addr {A : Nat → Prop} {ws ws' : va_W} (h : va_D A ws) (e : ws'.map (·.1) = ws.map (·.1)) : va_D A ws' := by
  have key : ∀ (k : Nat) (q : Nat × va_E), ws'[k]? = some q → ∃ q0, ws[k]? = some q0 ∧ q0.1 = q.1 := by
    intro k q hk
    have h1 : (ws'.map (·.1))[k]? = some q.1 := by rw [List.getElem?_map, hk]; rfl
    rw [e, List.getElem?_map] at h1
    cases h2 : ws[k]? with
    | none => rw [h2] at h1; cases h1
    | some q0 => rw [h2] at h1; exact ⟨q0, rfl, Option.some.inj h1⟩
  refine ⟨fun i j x y hi hj hxy => ?_, fun k q hk => ?_⟩
  · obtain ⟨x0, h1, h2⟩ := key i x hi
    obtain ⟨y0, h3, h4⟩ := key j y hj
    exact h.1 i j x0 y0 h1 h3 (h2.trans (hxy.trans h4.symm))
  · obtain ⟨q0, h1, h2⟩ := key k q hk
    rw [← h2]
    exact h.2 k q0 h1
/-- behind a call: the world with the callee's cells put in their places -/
theorem va_back {A0 : Nat → Prop} {D : va_G} {cl : List vw_C} {ws w0 w1 ws' : va_W} {H H1 : Heap} (hP : va_P D cl ws H) (hD : va_D A0 ws) (is : List Nat) (hC : is.map (fun i => ws[i]?) = w0.map some) (hn : va_nd is = true) (hl : w1.map (·.1) = w0.map (·.1))
    (hk : ∀ q : Nat, q < H.size → ¬ va_A w0 H.size q → H1[q]? = H[q]?) (hP1 : va_P D cl w1 H1) (he : va_ups ws is w1 = ws') : va_P D cl ws' H1 := by
  have l0 : w0.length = is.length := by have := congrArg List.length hC; simpa using this.symm
  have l1 : w1.length = is.length := by have := congrArg List.length hl; simp only [List.length_map] at this; omega
  intro k q h
  rw [← he] at h
  rcases va_ups_get is ws w1 l1 hn k q h with ⟨j, -, h2⟩ | ⟨h1, h2⟩
  · exact hP1 j q h2
  · have hlt := (hP k q h2).lt
    refine (hP k q h2).kept (hk q.1 hlt ?_)
    rintro (⟨k2, e, h3⟩ | h3)
    · have h4 : (is.map (fun i => ws[i]?))[k2]? = some (some (q.1, e)) := by rw [hC, List.getElem?_map, h3]; rfl
      rw [List.getElem?_map] at h4
      cases hi : is[k2]? with
      | none => rw [hi] at h4; cases h4
      | some i =>
        rw [hi] at h4
        have h5 : ws[i]? = some (q.1, e) := Option.some.inj h4
        have h6 := hD.1 k i q (q.1, e) h2 h5 rfl
        subst h6
        exact h1 (List.mem_of_getElem? hi)
    · omega
def cp (D : va_G) (cI cZ : ClassId) (sz : Nat) (av : List Value) (ws : va_W) : Array Value → State → Prop := va_Pc av (fun U => U.heap.size = sz ∧ va_P D vwCl ws U.heap ∧ va_K D vwCl (ty2 cI cZ) U ∧ va_D (fun _ => True) ws ∧ nwAll U)
def cb (D : va_G) (w1 : va_W) : Unit → State → Prop := fun _ t => va_P D vwCl w1 t.heap
theorem cp_blind {D : va_G} {cI cZ : ClassId} {sz : Nat} {av : List Value} {ws : va_W} : FrameBlind (cp D cI cZ sz av ws) := fun a U g mk q => by
  obtain ⟨q0, q1, qP, qK, qD, qN⟩ := q
  exact ⟨q0, q1, qP, va_K.moved (u := U) (U := U.calling g mk a) (Vm.Alike.refl U.vm) qK, qD, nwAll.same (u := U) (U := U.calling g mk a) rfl qN⟩
/-- answers r, and the world w0 is w1 behind it -/
def Ci (l : Launch) (y : MethodName) (ws : List Cond) (rm : Room) (D : va_G) (cI cZ : ClassId) (av : List Value) (w0 w1 : va_W) (r : Int32) : Prop := ∀ sz, Met l y ws rm (cp D cI cZ sz av w0) (va_Qi (fun rr (_ : Unit) => rr = r) (cb D w1) (va_A w0 sz)) 0 0 (va_A w0 sz)
def Cv (l : Launch) (y : MethodName) (ws : List Cond) (rm : Room) (D : va_G) (cI cZ : ClassId) (av : List Value) (w0 w1 : va_W) : Prop := ∀ sz, Met l y ws rm (cp D cI cZ sz av w0) (va_Qv (fun (_ : Unit) => True) (cb D w1) (va_A w0 sz)) 0 0 (va_A w0 sz)
def Cr (l : Launch) (y : MethodName) (ws : List Cond) (rm : Room) (D : va_G) (cI cZ : ClassId) (av : List Value) (w0 w1 : va_W) (r : Nat) : Prop := ∀ sz, Met l y ws rm (cp D cI cZ sz av w0) (va_Qr (fun (_ : Unit) => True) (fun _ a t => a = r ∧ cb D w1 () t) (va_A w0 sz)) 0 0 (va_A w0 sz)
section BASE
variable {p : Program} {l : Launch} {e : Env} {R : Room} {s : State} {m : MethodId} {args : Array Value} {below : List Frame} {meth : Method} {c : Code} {H : Heap} {locs : List Loc} {cells slots : Nat} {Q : State → Prop}
variable {cc : ByteArray} {pc : Nat} {ls : Array Slot} {rest : List Value} {D : va_G} {cI cZ : ClassId} {A : Nat → Prop} {ws : va_W}
theorem Met.ofWF {y : MethodName} {ws ws' : List Cond} {rm : Room} {Pc : Array Value → State → Prop} {Qc : Array Value → State → Outcome → State → Prop} {mc ms : Nat} {free : Addr → Prop} {cc : ByteArray} {maxL : Nat} {ret : Option FieldType}
    (hy : plainFor y = true) (hw : ws = Cond.code y cc maxL ret :: ws')
    (body : ∀ p e s m args below meth c s₁, BodyLoose p l y (headSpec ws rm) cc maxL ret e s m args below meth c s₁ → c.maxLocals = maxL → Pc args s →
      W p l e (headSpec ws rm).room s m args below meth c s.heap [] 0 0 (MQ below Qc args s mc ms free) (entryFrame m args maxL)) : Met l y ws rm Pc Qc mc ms free := by
  refine MetFree.of_bodySF (code := cc) (maxLocals := maxL) (ret := ret) hy ?_ ?_
  · intro args s m h hn
    obtain ⟨meth, c, h1, h2, h3, h4, h5, h6, -, -⟩ := Cond.code_spec hn (atoms_spec (ws := ws) h _ (by rw [hw]; exact List.mem_cons_self))
    exact ⟨meth, c, h1, h2, h3, h4, h5, h6⟩
  · intro p e s m args below meth c s₁ B hml hP _
    have hh0 : s₁.heap = s.heap := by rw [B.state]; rfl
    obtain ⟨t, a1, o, b1, b2, b3⟩ := body p e s m args below meth c s₁ B hml hP s₁ hh0 (Stand.of_body B)
    exact ⟨t, o, a1, b1, b2, ⟨b3.1, b3.2⟩⟩
theorem mk_any {y : MethodName} {rm : Room} {av : List Value} {w0 : va_W} {maxL : Nat} {ret : Option FieldType} {Qc : (Nat → Prop) → Array Value → State → Outcome → State → Prop} (hy : plainFor y = true) (hn : (lg_sl av).length ≤ maxL)
    (body : ∀ (p : Program) (e : Env) (s : State) (m : MethodId) (args : Array Value) (below : List Frame) (meth : Method) (c : Code) (A : Nat → Prop) (Q : State → Prop) (R : Room), R = rm → Q = MQ below (Qc A) args s 0 0 A → p.tables.exec = Jvm.exec → c.code = cc → meth.sig.returnType = ret → c.maxLocals = maxL → (∀ w ∈ AW, w.before args s = true) → s.vm.findClass y.cls = some m.cls → meth.locks = false → nwAll s → (∀ q, s.heap.size ≤ q → A q) → va_P D vwCl w0 s.heap → va_K D vwCl (ty2 cI cZ) s → va_D A w0 → va_S A s.heap s.heap [] → ∀ ls, lv_has ls maxL (lv_args 0 av) →
      W p l e R s m args below meth c s.heap [] 0 0 Q (F0 m 0 ls [])) :
    ∀ sz, Met l y (aw y cc maxL ret) rm (cp D cI cZ sz av w0) (Qc (va_A w0 sz)) 0 0 (va_A w0 sz) := by
  intro sz
  refine Met.ofWF (cc := cc) (maxL := maxL) (ret := ret) hy rfl ?_
  intro p e s m args below meth c s₁ B hml hv
  obtain ⟨rfl, hsz, hP, hK, hD0, hN⟩ := hv
  subst hsz
  rw [lg_entry_eq]
  exact body p e s m _ below meth c _ _ _ rfl rfl B.exec B.bytes B.returns hml (fun w h => atoms_spec (ws := aw y cc maxL ret) B.pre w (List.mem_cons_of_mem _ h)) (findClass_of_methodNamed B.named) B.notSynchronized hN (fun q h => Or.inr h) hP hK hD0.self va_S.rf _ (lv_entry av hn)
theorem cwVA {own C : String} {index maxL : Nat} {y : MethodName} {bytes : ByteArray} {ret : Option FieldType} {rm : Room} (n : Nat) (ht : ∀ w ∈ AW, w.before args s = true) (h1 : Cond.methodLink own index y ∈ AW) (h2 : Cond.instanceMethod y ∈ AW) (h3 : Cond.selects C y y ∈ AW) (h4 : Cond.initialized C ∈ AW) (h5 : Cond.code y bytes maxL ret ∈ AW) (hd : y.cls = C ∧ y.cls ≠ "java/lang/invoke/MethodHandle" ∧ y.cls ≠ "java/lang/invoke/VarHandle" ∧ (parseMethodDescriptor y.desc).map (fun d => d.parameters.length) = some n) (hR1 : rm.frames + 1 ≤ R.frames) (hR2 : 8 + (maxL + 11) + rm.locals ≤ R.locals) (hc : rm.cells = 0) (hs : rm.slots = 0) :
    CallW R s args own C index y bytes maxL ret (aw y bytes maxL ret) rm 0 0 n :=
  cwV (Ts := AW) n ht (fun w hw => by
    rcases List.mem_append.mp hw with h | h
    · simp only [List.mem_cons, List.not_mem_nil, or_false] at h
      rcases h with rfl | rfl | rfl | rfl
      · exact ⟨h1, good_of_word (aw_good h1)⟩
      · exact ⟨h2, good_of_word (aw_good h2)⟩
      · exact ⟨h3, good_of_word (aw_good h3)⟩
      · exact ⟨h4, good_of_word (aw_good h4)⟩
    · rcases List.mem_cons.mp h with rfl | h
      · exact ⟨h5, good_of_word (aw_good h5)⟩
      · exact ⟨h, good_of_word (aw_good h)⟩) rfl hc hs hd ⟨hR1, hR2⟩
theorem cwSA {own : String} {index maxL : Nat} {y : MethodName} {bytes : ByteArray} {ret : Option FieldType} {rm : Room} (n : Nat) (ht : ∀ w ∈ AW, w.before args s = true) (h1 : Cond.methodLink own index y ∈ AW) (h2 : Cond.static y ∈ AW) (h4 : Cond.initialized y.cls ∈ AW) (h5 : Cond.code y bytes maxL ret ∈ AW) {C : String} (hd : y.cls = C ∧ y.cls ≠ "java/lang/invoke/MethodHandle" ∧ y.cls ≠ "java/lang/invoke/VarHandle" ∧ (parseMethodDescriptor y.desc).map (fun d => d.parameters.length) = some n) (hR1 : rm.frames + 1 ≤ R.frames) (hR2 : 8 + (maxL + 11) + rm.locals ≤ R.locals) (hc : rm.cells = 0) (hs : rm.slots = 0) :
    CallB R s args own index y bytes maxL ret (aw y bytes maxL ret) rm 0 0 n ∧ (Cond.static y).before args s = true :=
  va_cwS (Ts := AW) n ht (fun w hw => by
    rcases List.mem_append.mp hw with h | h
    · simp only [List.mem_cons, List.not_mem_nil, or_false] at h
      rcases h with rfl | rfl | rfl
      · exact ⟨h1, good_of_word (aw_good h1)⟩
      · exact ⟨h2, good_of_word (aw_good h2)⟩
      · exact ⟨h4, good_of_word (aw_good h4)⟩
    · rcases List.mem_cons.mp h with rfl | h
      · exact ⟨h5, good_of_word (aw_good h5)⟩
      · exact ⟨h, good_of_word (aw_good h)⟩) rfl hc hs hd.2 ⟨hR1, hR2⟩
theorem fin_i {ty : FieldType} {v r : Int32} {w1 w2 : va_W} (hx : p.tables.exec = Jvm.exec) (hb : c.code = cc) (hr : meth.sig.returnType = some ty) (hlk : meth.locks = false) (hP : va_P D vwCl w2 H) (hS : va_S A s.heap H locs) (hn : narrow ty (.int v) = .int v) (hv : v = r) (hw : w2 = w1) (hQ : Q = MQ below (va_Qi (fun rr (_ : Unit) => rr = r) (cb D w1) A) args s 0 0 A) (hdg : decode cc pc = .ok (.ireturn, 1)) :
    W p l e R s m args below meth c H locs 0 0 Q (F0 m pc ls [.int v]) := by
  subst hw; subst hQ
  exact W.zret hx hb hr hn (fun t ht hW => ⟨⟨v, (), rfl, hv, by rw [← ht] at hP; exact hP⟩, hS.F ht⟩) hS.2.2 hdg hlk
theorem fin_v {w1 w2 : va_W} (hx : p.tables.exec = Jvm.exec) (hb : c.code = cc) (hr : meth.sig.returnType = none) (hlk : meth.locks = false) (hP : va_P D vwCl w2 H) (hS : va_S A s.heap H locs) (hw : w2 = w1) (hQ : Q = MQ below (va_Qv (fun (_ : Unit) => True) (cb D w1) A) args s 0 0 A) (hdg : decode cc pc = .ok (.return_, 1)) :
    W p l e R s m args below meth c H locs 0 0 Q (F0 m pc ls []) := by
  subst hw; subst hQ
  exact W.vret hx hb hr (fun t ht hW => ⟨⟨(), rfl, trivial, by rw [← ht] at hP; exact hP⟩, hS.F ht⟩) hS.2.2 hdg hlk
theorem fin_r {n : String} {v r : Nat} {w1 w2 : va_W} (hx : p.tables.exec = Jvm.exec) (hb : c.code = cc) (hr : meth.sig.returnType = some (.object n)) (hlk : meth.locks = false) (hP : va_P D vwCl w2 H) (hS : va_S A s.heap H locs) (hv : v = r) (hw : w2 = w1) (hQ : Q = MQ below (va_Qr (fun (_ : Unit) => True) (fun _ a t => a = r ∧ cb D w1 () t) A) args s 0 0 A) (hdg : decode cc pc = .ok (.areturn, 1)) :
    W p l e R s m args below meth c H locs 0 0 Q (F0 m pc ls [.ref v]) := by
  subst hw; subst hQ
  exact W.aret hx hb hr (Or.inl ⟨n, rfl⟩) (Or.inr ⟨v, rfl⟩) (fun t ht hW => ⟨⟨(), v, rfl, trivial, hv, by rw [← ht] at hP; exact hP⟩, hS.F ht⟩) hS.2.2 hdg hlk
variable {nL n : Nat} {Ts wl : List Cond} {own C : String} {y : MethodName} {bytes : ByteArray} {maxL index : Nat} {ret : Option FieldType} {rm : Room} {As st0 : List Value} {b : Nat} {w0 w1 ws' : va_W} {r : Int32}
theorem call_pre {sz : Nat} {av : List Value} (hN : nwAll s) (hK : va_K D vwCl (ty2 cI cZ) s) (hP : va_P D vwCl ws H) (hD : va_D A ws) (is : List Nat) (hC : is.map (fun i => ws[i]?) = w0.map some) (hn : va_nd is = true) (hz : H.size = sz) : ∀ U : State, U.heap = H → s.WarmedH U.vm → cp D cI cZ sz av w0 av.toArray U := by
  intro U hU hW
  refine ⟨rfl, by rw [hU]; exact hz, ?_, va_K.moved hW.alike hK, (hD.sub is hn hC).weaken (fun _ _ _ _ => trivial), hN.warm hW⟩
  rw [hU]
  intro k q hk
  have h1 : (is.map (fun i => ws[i]?))[k]? = some (some q) := by rw [hC, List.getElem?_map, hk]; rfl
  rw [List.getElem?_map] at h1
  cases hi : is[k]? with
  | none => rw [hi] at h1; cases h1
  | some i => rw [hi] at h1; exact hP i q (Option.some.inj h1)
theorem call_Vi (hx : p.tables.exec = Jvm.exec) (hb : c.code = cc) (hml : c.maxLocals = nL) (hown : s.vm.findClass own = some m.cls) (hts : ∀ w ∈ Ts, w.before args s = true) (hN : nwAll s) (hM : Ci l y wl rm D cI cZ (.ref b :: As) w0 w1 r) (cw : CallW R s args own C index y bytes maxL ret wl rm 0 0 n)
    (hK : va_K D vwCl (ty2 cI cZ) s) (hP : va_P D vwCl ws H) (hD : va_D A ws) (hS : va_S A s.heap H locs) (hA : ∀ q, s.heap.size ≤ q → A q) (is : List Nat) (hC : is.map (fun i => ws[i]?) = w0.map some) (hl : w1.map (·.1) = w0.map (·.1)) (he : va_ups ws is w1 = ws') (hl2 : ws'.map (·.1) = ws.map (·.1)) (hn : va_nd is = true)
    {ci q0 : Nat} {fs : List Value} {q : vw_C} (hc : vwCl[ci]? = some q) (hq : ws[q0]? = some (b, .inr (ci, fs))) (hqC : q.1 = C) (hnn : As.length = n) (hsz : ls.size = nL) (hst : st0 = As.reverse ++ .ref b :: rest) (hroom : 2 * (F0 m pc ls rest).monitorRoom + (rest.map fun v => v.category).sum ≤ 8) (hdg : decode cc pc = .ok (.invokevirtual index, 3)) (hz1 : cells ≤ R.cells) (hz2 : slots ≤ R.slots)
    (kk : ∀ (H1 : Heap) (locs1 : List Loc), va_P D vwCl ws' H1 → va_D A ws' → va_S A s.heap H1 locs1 → W p l e R s m args below meth c H1 locs1 cells slots Q (F0 m (pc + 3) ls (.int r :: rest))) : W p l e R s m args below meth c H locs cells slots Q (F0 m pc ls st0) := by
  subst hst
  have hF := va_free hD hS hA is hC
  refine va_calli (va_runV (As := As) (rest := rest) ⟨hx, hb, hml, hown, hts⟩ (hM H.size) cw ⟨cp_blind, hqC ▸ va_recv hK hP hc hq, fun U hU hW => call_pre (av := .ref b :: As) hN hK hP hD is hC hn rfl U hU hW⟩ rfl hnn hsz rfl hroom hdg ⟨hz1, hz2⟩) hS (fun q _ h => hF q h) hF (fun x u t H1 locs1 ht hvm hw hB hz1 hk1 hS1 => ?_)
  subst hw; subst ht
  exact kk _ _ (va_back hP hD is hC hn hl hk1 hB he) (hD.addr hl2) hS1
theorem call_Vv (hx : p.tables.exec = Jvm.exec) (hb : c.code = cc) (hml : c.maxLocals = nL) (hown : s.vm.findClass own = some m.cls) (hts : ∀ w ∈ Ts, w.before args s = true) (hN : nwAll s) (hM : Cv l y wl rm D cI cZ (.ref b :: As) w0 w1) (cw : CallW R s args own C index y bytes maxL ret wl rm 0 0 n)
    (hK : va_K D vwCl (ty2 cI cZ) s) (hP : va_P D vwCl ws H) (hD : va_D A ws) (hS : va_S A s.heap H locs) (hA : ∀ q, s.heap.size ≤ q → A q) (is : List Nat) (hC : is.map (fun i => ws[i]?) = w0.map some) (hl : w1.map (·.1) = w0.map (·.1)) (he : va_ups ws is w1 = ws') (hl2 : ws'.map (·.1) = ws.map (·.1)) (hn : va_nd is = true)
    {ci q0 : Nat} {fs : List Value} {q : vw_C} (hc : vwCl[ci]? = some q) (hq : ws[q0]? = some (b, .inr (ci, fs))) (hqC : q.1 = C) (hnn : As.length = n) (hsz : ls.size = nL) (hst : st0 = As.reverse ++ .ref b :: rest) (hroom : 2 * (F0 m pc ls rest).monitorRoom + (rest.map fun v => v.category).sum ≤ 8) (hdg : decode cc pc = .ok (.invokevirtual index, 3)) (hz1 : cells ≤ R.cells) (hz2 : slots ≤ R.slots)
    (kk : ∀ (H1 : Heap) (locs1 : List Loc), va_P D vwCl ws' H1 → va_D A ws' → va_S A s.heap H1 locs1 → W p l e R s m args below meth c H1 locs1 cells slots Q (F0 m (pc + 3) ls rest)) : W p l e R s m args below meth c H locs cells slots Q (F0 m pc ls st0) := by
  subst hst
  have hF := va_free hD hS hA is hC
  refine va_callv (va_runV (As := As) (rest := rest) ⟨hx, hb, hml, hown, hts⟩ (hM H.size) cw ⟨cp_blind, hqC ▸ va_recv hK hP hc hq, fun U hU hW => call_pre (av := .ref b :: As) hN hK hP hD is hC hn rfl U hU hW⟩ rfl hnn hsz rfl hroom hdg ⟨hz1, hz2⟩) hS (fun q _ h => hF q h) hF (fun u t H1 locs1 ht hvm hw hB hz1 hk1 hS1 => ?_)
  subst ht
  exact kk _ _ (va_back hP hD is hC hn hl hk1 hB he) (hD.addr hl2) hS1
theorem call_Vr {ra : Nat} (hx : p.tables.exec = Jvm.exec) (hb : c.code = cc) (hml : c.maxLocals = nL) (hown : s.vm.findClass own = some m.cls) (hts : ∀ w ∈ Ts, w.before args s = true) (hN : nwAll s) (hM : Cr l y wl rm D cI cZ (.ref b :: As) w0 w1 ra) (cw : CallW R s args own C index y bytes maxL ret wl rm 0 0 n)
    (hK : va_K D vwCl (ty2 cI cZ) s) (hP : va_P D vwCl ws H) (hD : va_D A ws) (hS : va_S A s.heap H locs) (hA : ∀ q, s.heap.size ≤ q → A q) (is : List Nat) (hC : is.map (fun i => ws[i]?) = w0.map some) (hl : w1.map (·.1) = w0.map (·.1)) (he : va_ups ws is w1 = ws') (hl2 : ws'.map (·.1) = ws.map (·.1)) (hn : va_nd is = true)
    {ci q0 : Nat} {fs : List Value} {q : vw_C} (hc : vwCl[ci]? = some q) (hq : ws[q0]? = some (b, .inr (ci, fs))) (hqC : q.1 = C) (hnn : As.length = n) (hsz : ls.size = nL) (hst : st0 = As.reverse ++ .ref b :: rest) (hroom : 2 * (F0 m pc ls rest).monitorRoom + (rest.map fun v => v.category).sum ≤ 8) (hdg : decode cc pc = .ok (.invokevirtual index, 3)) (hz1 : cells ≤ R.cells) (hz2 : slots ≤ R.slots)
    (kk : ∀ (H1 : Heap) (locs1 : List Loc), va_P D vwCl ws' H1 → va_D A ws' → va_S A s.heap H1 locs1 → W p l e R s m args below meth c H1 locs1 cells slots Q (F0 m (pc + 3) ls (.ref ra :: rest))) : W p l e R s m args below meth c H locs cells slots Q (F0 m pc ls st0) := by
  subst hst
  have hF := va_free hD hS hA is hC
  refine va_callr (va_runV (As := As) (rest := rest) ⟨hx, hb, hml, hown, hts⟩ (hM H.size) cw ⟨cp_blind, hqC ▸ va_recv hK hP hc hq, fun U hU hW => call_pre (av := .ref b :: As) hN hK hP hD is hC hn rfl U hU hW⟩ rfl hnn hsz rfl hroom hdg ⟨hz1, hz2⟩) hS (fun q _ h => hF q h) hF (fun u ra' t H1 locs1 ht hvm hw hB hz1 hk1 hS1 => ?_)
  subst ht
  obtain ⟨rfl, hB⟩ := hB
  exact kk _ _ (va_back hP hD is hC hn hl hk1 hB he) (hD.addr hl2) hS1
theorem call_Si (hx : p.tables.exec = Jvm.exec) (hb : c.code = cc) (hml : c.maxLocals = nL) (hown : s.vm.findClass own = some m.cls) (hts : ∀ w ∈ Ts, w.before args s = true) (hN : nwAll s) (hM : Ci l y wl rm D cI cZ As w0 w1 r) (cw : CallB R s args own index y bytes maxL ret wl rm 0 0 n ∧ (Cond.static y).before args s = true)
    (hK : va_K D vwCl (ty2 cI cZ) s) (hP : va_P D vwCl ws H) (hD : va_D A ws) (hS : va_S A s.heap H locs) (hA : ∀ q, s.heap.size ≤ q → A q) (is : List Nat) (hC : is.map (fun i => ws[i]?) = w0.map some) (hl : w1.map (·.1) = w0.map (·.1)) (he : va_ups ws is w1 = ws') (hl2 : ws'.map (·.1) = ws.map (·.1)) (hn : va_nd is = true)
    (hnn : As.length = n) (hsz : ls.size = nL) (hst : st0 = As.reverse ++ rest) (hroom : 2 * (F0 m pc ls rest).monitorRoom + (rest.map fun v => v.category).sum ≤ 8) (hdg : decode cc pc = .ok (.invokestatic index, 3)) (hz1 : cells ≤ R.cells) (hz2 : slots ≤ R.slots)
    (kk : ∀ (H1 : Heap) (locs1 : List Loc), va_P D vwCl ws' H1 → va_D A ws' → va_S A s.heap H1 locs1 → W p l e R s m args below meth c H1 locs1 cells slots Q (F0 m (pc + 3) ls (.int r :: rest))) : W p l e R s m args below meth c H locs cells slots Q (F0 m pc ls st0) := by
  subst hst
  have hF := va_free hD hS hA is hC
  refine va_calli (va_runS (As := As) (rest := rest) ⟨hx, hb, hml, hown, hts⟩ (hM H.size) cw ⟨cp_blind, fun U hU hW => call_pre (av := As) hN hK hP hD is hC hn rfl U hU hW⟩ rfl hnn hsz rfl hroom hdg ⟨hz1, hz2⟩) hS (fun q _ h => hF q h) hF (fun x u t H1 locs1 ht hvm hw hB hz1 hk1 hS1 => ?_)
  subst hw; subst ht
  exact kk _ _ (va_back hP hD is hC hn hl hk1 hB he) (hD.addr hl2) hS1
theorem call_Sv (hx : p.tables.exec = Jvm.exec) (hb : c.code = cc) (hml : c.maxLocals = nL) (hown : s.vm.findClass own = some m.cls) (hts : ∀ w ∈ Ts, w.before args s = true) (hN : nwAll s) (hM : Cv l y wl rm D cI cZ As w0 w1) (cw : CallB R s args own index y bytes maxL ret wl rm 0 0 n ∧ (Cond.static y).before args s = true)
    (hK : va_K D vwCl (ty2 cI cZ) s) (hP : va_P D vwCl ws H) (hD : va_D A ws) (hS : va_S A s.heap H locs) (hA : ∀ q, s.heap.size ≤ q → A q) (is : List Nat) (hC : is.map (fun i => ws[i]?) = w0.map some) (hl : w1.map (·.1) = w0.map (·.1)) (he : va_ups ws is w1 = ws') (hl2 : ws'.map (·.1) = ws.map (·.1)) (hn : va_nd is = true)
    (hnn : As.length = n) (hsz : ls.size = nL) (hst : st0 = As.reverse ++ rest) (hroom : 2 * (F0 m pc ls rest).monitorRoom + (rest.map fun v => v.category).sum ≤ 8) (hdg : decode cc pc = .ok (.invokestatic index, 3)) (hz1 : cells ≤ R.cells) (hz2 : slots ≤ R.slots)
    (kk : ∀ (H1 : Heap) (locs1 : List Loc), va_P D vwCl ws' H1 → va_D A ws' → va_S A s.heap H1 locs1 → W p l e R s m args below meth c H1 locs1 cells slots Q (F0 m (pc + 3) ls rest)) : W p l e R s m args below meth c H locs cells slots Q (F0 m pc ls st0) := by
  subst hst
  have hF := va_free hD hS hA is hC
  refine va_callv (va_runS (As := As) (rest := rest) ⟨hx, hb, hml, hown, hts⟩ (hM H.size) cw ⟨cp_blind, fun U hU hW => call_pre (av := As) hN hK hP hD is hC hn rfl U hU hW⟩ rfl hnn hsz rfl hroom hdg ⟨hz1, hz2⟩) hS (fun q _ h => hF q h) hF (fun u t H1 locs1 ht hvm hw hB hz1 hk1 hS1 => ?_)
  subst ht
  exact kk _ _ (va_back hP hD is hC hn hl hk1 hB he) (hD.addr hl2) hS1
end BASE
/-! truth values -/
def zb (b : Bool) : Int32 := if b then 1 else 0
theorem zb_0 (b : Bool) : zb b = 0 ↔ b = false := by cases b <;> decide
theorem zb_nar (b : Bool) : vp_nar .boolean (zb b) = zb b := by cases b <;> decide
theorem zb_narrow (b : Bool) : narrow .boolean (.int (zb b)) = .int (zb b) := by cases b <;> rfl
theorem zb_fits (b : Bool) : fits .boolean (.int (zb b)) = true := by cases b <;> rfl
def zbf (f : Nat → Bool) : Nat → Int32 := fun j => zb (f j)
def updB (f : Nat → Bool) (k : Nat) (x : Bool) : Nat → Bool := fun j => if j = k then x else f j
theorem zbf_upd (f : Nat → Bool) (k : Nat) (x : Bool) : upd (zbf f) k (zb x) = zbf (updB f k x) := by
  funext j
  simp only [upd, zbf, updB]
  split <;> rfl
def nIf (f : Nat → Nat) : Nat → Int32 := fun j => nI (f j)
def updN (f : Nat → Nat) (k : Nat) (x : Nat) : Nat → Nat := fun j => if j = k then x else f j
theorem nIf_upd (f : Nat → Nat) (k : Nat) (x : Nat) : upd (nIf f) k (nI x) = nIf (updN f k x) := by
  funext j
  simp only [upd, nIf, updN]
  split <;> rfl
theorem nI_sub1 {a b : Nat} (h : b ≤ a + 1) : nI a - nI b + 1 = nI (a + 1 - b) := by
  rw [← pk_sub h, ← nI_1, Int32.sub_eq_add_neg, Int32.sub_eq_add_neg, Int32.add_assoc, Int32.add_assoc, Int32.add_comm (-nI b) 1]
theorem nI_inc (a k : Nat) : nI a + Int32.ofInt (k : Int) = nI (a + k) := by
  rw [show Int32.ofInt (k : Int) = nI k from rfl, nI_add]
theorem nI_dec {a : Nat} (h : 0 < a) : nI a + Int32.ofInt (-1) = nI (a - 1) := by
  obtain ⟨b, rfl⟩ : ∃ b, a = b + 1 := ⟨a - 1, by omega⟩
  rw [Nat.add_sub_cancel]
  exact pk_m1 b
/-! rows over small naturals -/
section ROWN
variable {p : Program} {l : Launch} {e : Env} {R : Room} {s : State} {m : MethodId} {args : Array Value} {below : List Frame} {meth : Method} {c : Code} {H : Heap} {locs : List Loc} {cells slots : Nat} {Q : State → Prop}
variable {cc : ByteArray} {pc : Nat} {ls : Array Slot} {rest : List Value} {D : va_G} {cl : List vw_C} {A : Nat → Prop} {a : Nat} {tys : List (ClassId × FieldType)} {ws : va_W} {H0 : Heap}
theorem n_iadd (hx : p.tables.exec = Jvm.exec) (hb : c.code = cc) {x y : Nat} (hdg : decode cc pc = .ok (.iadd, 1)) (k : W p l e R s m args below meth c H locs cells slots Q (F0 m (pc + 1) ls (.int (nI (x + y)) :: rest))) : W p l e R s m args below meth c H locs cells slots Q (F0 m pc ls (.int (nI y) :: .int (nI x) :: rest)) :=
  lv_iadd hx hb hdg (by rw [nI_add]; exact k)
theorem n_isub (hx : p.tables.exec = Jvm.exec) (hb : c.code = cc) {x y : Nat} (h : y ≤ x) (hdg : decode cc pc = .ok (.isub, 1)) (k : W p l e R s m args below meth c H locs cells slots Q (F0 m (pc + 1) ls (.int (nI (x - y)) :: rest))) : W p l e R s m args below meth c H locs cells slots Q (F0 m pc ls (.int (nI y) :: .int (nI x) :: rest)) :=
  lv_isub hx hb hdg (by rw [pk_sub h]; exact k)
theorem n_imul (hx : p.tables.exec = Jvm.exec) (hb : c.code = cc) {x y : Nat} (hdg : decode cc pc = .ok (.imul, 1)) (k : W p l e R s m args below meth c H locs cells slots Q (F0 m (pc + 1) ls (.int (nI (x * y)) :: rest))) : W p l e R s m args below meth c H locs cells slots Q (F0 m pc ls (.int (nI y) :: .int (nI x) :: rest)) :=
  lv_imul hx hb hdg (by rw [pk_mul]; exact k)
theorem n_idiv (hx : p.tables.exec = Jvm.exec) (hb : c.code = cc) {x y : Nat} (h1 : x < 2 ^ 31) (h2 : 0 < y) (h3 : y < 2 ^ 31) (hdg : decode cc pc = .ok (.idiv, 1)) (k : W p l e R s m args below meth c H locs cells slots Q (F0 m (pc + 1) ls (.int (nI (x / y)) :: rest))) : W p l e R s m args below meth c H locs cells slots Q (F0 m pc ls (.int (nI y) :: .int (nI x) :: rest)) :=
  lv_idiv hx hb hdg (nI_ne0 h2 h3) (by rw [pk_div h1 h2 h3]; exact k)
theorem n_icmp_lt (hx : p.tables.exec = Jvm.exec) (hb : c.code = cc) {x y : Nat} {off : Int} {tgt : Nat} (h1 : x < 2 ^ 31) (h2 : y < 2 ^ 31) (hdg : decode cc pc = .ok (.if_icmp .lt off, 3)) (ht : (pc : Int) + off = (tgt : Int))
    (kt : x < y → W p l e R s m args below meth c H locs cells slots Q (F0 m tgt ls rest)) (kf : y ≤ x → W p l e R s m args below meth c H locs cells slots Q (F0 m (pc + 3) ls rest)) : W p l e R s m args below meth c H locs cells slots Q (F0 m pc ls (.int (nI y) :: .int (nI x) :: rest)) :=
  lv_icmp_lt hx hb hdg ht (fun h => kt ((nI_ltI h1 h2).mp h)) (fun h => kf (Nat.not_lt.mp fun z => h ((nI_ltI h1 h2).mpr z)))
theorem n_icmp_ge (hx : p.tables.exec = Jvm.exec) (hb : c.code = cc) {x y : Nat} {off : Int} {tgt : Nat} (h1 : x < 2 ^ 31) (h2 : y < 2 ^ 31) (hdg : decode cc pc = .ok (.if_icmp .ge off, 3)) (ht : (pc : Int) + off = (tgt : Int))
    (kt : y ≤ x → W p l e R s m args below meth c H locs cells slots Q (F0 m tgt ls rest)) (kf : x < y → W p l e R s m args below meth c H locs cells slots Q (F0 m (pc + 3) ls rest)) : W p l e R s m args below meth c H locs cells slots Q (F0 m pc ls (.int (nI y) :: .int (nI x) :: rest)) :=
  lv_icmp_ge hx hb hdg ht (fun h => kt ((nI_leI h2 h1).mp h)) (fun h => kf (Nat.not_le.mp fun z => h ((nI_leI h2 h1).mpr z)))
theorem n_icmp_gt (hx : p.tables.exec = Jvm.exec) (hb : c.code = cc) {x y : Nat} {off : Int} {tgt : Nat} (h1 : x < 2 ^ 31) (h2 : y < 2 ^ 31) (hdg : decode cc pc = .ok (.if_icmp .gt off, 3)) (ht : (pc : Int) + off = (tgt : Int))
    (kt : y < x → W p l e R s m args below meth c H locs cells slots Q (F0 m tgt ls rest)) (kf : x ≤ y → W p l e R s m args below meth c H locs cells slots Q (F0 m (pc + 3) ls rest)) : W p l e R s m args below meth c H locs cells slots Q (F0 m pc ls (.int (nI y) :: .int (nI x) :: rest)) :=
  lv_icmp_gt hx hb hdg ht (fun h => kt ((nI_ltI h2 h1).mp h)) (fun h => kf (Nat.not_lt.mp fun z => h ((nI_ltI h2 h1).mpr z)))
theorem n_icmp_le (hx : p.tables.exec = Jvm.exec) (hb : c.code = cc) {x y : Nat} {off : Int} {tgt : Nat} (h1 : x < 2 ^ 31) (h2 : y < 2 ^ 31) (hdg : decode cc pc = .ok (.if_icmp .le off, 3)) (ht : (pc : Int) + off = (tgt : Int))
    (kt : x ≤ y → W p l e R s m args below meth c H locs cells slots Q (F0 m tgt ls rest)) (kf : y < x → W p l e R s m args below meth c H locs cells slots Q (F0 m (pc + 3) ls rest)) : W p l e R s m args below meth c H locs cells slots Q (F0 m pc ls (.int (nI y) :: .int (nI x) :: rest)) :=
  lv_icmp_le hx hb hdg ht (fun h => kt ((nI_leI h1 h2).mp h)) (fun h => kf (Nat.not_le.mp fun z => h ((nI_leI h1 h2).mpr z)))
theorem n_icmp_eq (hx : p.tables.exec = Jvm.exec) (hb : c.code = cc) {x y : Nat} {off : Int} {tgt : Nat} (h1 : x < 2 ^ 31) (h2 : y < 2 ^ 31) (hdg : decode cc pc = .ok (.if_icmp .eq off, 3)) (ht : (pc : Int) + off = (tgt : Int))
    (kt : x = y → W p l e R s m args below meth c H locs cells slots Q (F0 m tgt ls rest)) (kf : ¬ x = y → W p l e R s m args below meth c H locs cells slots Q (F0 m (pc + 3) ls rest)) : W p l e R s m args below meth c H locs cells slots Q (F0 m pc ls (.int (nI y) :: .int (nI x) :: rest)) :=
  lv_icmp_eq hx hb hdg ht (fun h => kt ((nI_eq h1 h2).mp h)) (fun h => kf (fun z => h ((nI_eq h1 h2).mpr z)))
theorem n_icmp_ne (hx : p.tables.exec = Jvm.exec) (hb : c.code = cc) {x y : Nat} {off : Int} {tgt : Nat} (h1 : x < 2 ^ 31) (h2 : y < 2 ^ 31) (hdg : decode cc pc = .ok (.if_icmp .ne off, 3)) (ht : (pc : Int) + off = (tgt : Int))
    (kt : ¬ x = y → W p l e R s m args below meth c H locs cells slots Q (F0 m tgt ls rest)) (kf : x = y → W p l e R s m args below meth c H locs cells slots Q (F0 m (pc + 3) ls rest)) : W p l e R s m args below meth c H locs cells slots Q (F0 m pc ls (.int (nI y) :: .int (nI x) :: rest)) :=
  lv_icmp_ne hx hb hdg ht (fun h => kt (fun z => h ((nI_eq h1 h2).mpr z))) (fun h => kf ((nI_eq h1 h2).mp h))
theorem n_if_le (hx : p.tables.exec = Jvm.exec) (hb : c.code = cc) {x : Nat} {off : Int} {tgt : Nat} (h1 : x < 2 ^ 31) (hdg : decode cc pc = .ok (.ifCond .le off, 3)) (ht : (pc : Int) + off = (tgt : Int))
    (kt : x = 0 → W p l e R s m args below meth c H locs cells slots Q (F0 m tgt ls rest)) (kf : 0 < x → W p l e R s m args below meth c H locs cells slots Q (F0 m (pc + 3) ls rest)) : W p l e R s m args below meth c H locs cells slots Q (F0 m pc ls (.int (nI x) :: rest)) :=
  lv_if_le hx hb hdg ht (fun h => kt (by rcases Nat.eq_zero_or_pos x with z | z; exact z; exact absurd h (nI_nle z h1))) (fun h => kf (by rcases Nat.eq_zero_or_pos x with z | z; (subst z; exact absurd (by decide) h); exact z))
theorem n_if_gt (hx : p.tables.exec = Jvm.exec) (hb : c.code = cc) {x : Nat} {off : Int} {tgt : Nat} (h1 : x < 2 ^ 31) (hdg : decode cc pc = .ok (.ifCond .gt off, 3)) (ht : (pc : Int) + off = (tgt : Int))
    (kt : 0 < x → W p l e R s m args below meth c H locs cells slots Q (F0 m tgt ls rest)) (kf : x = 0 → W p l e R s m args below meth c H locs cells slots Q (F0 m (pc + 3) ls rest)) : W p l e R s m args below meth c H locs cells slots Q (F0 m pc ls (.int (nI x) :: rest)) :=
  lv_if_gt hx hb hdg ht (fun h => kt (by rcases Nat.eq_zero_or_pos x with z | z; (subst z; exact absurd h (by decide)); exact z)) (fun h => kf (by rcases Nat.eq_zero_or_pos x with z | z; exact z; exact absurd ((nI_ltI (by decide) h1).mpr z) h))
theorem n_if_eq (hx : p.tables.exec = Jvm.exec) (hb : c.code = cc) {x : Nat} {off : Int} {tgt : Nat} (h1 : x < 2 ^ 31) (hdg : decode cc pc = .ok (.ifCond .eq off, 3)) (ht : (pc : Int) + off = (tgt : Int))
    (kt : x = 0 → W p l e R s m args below meth c H locs cells slots Q (F0 m tgt ls rest)) (kf : 0 < x → W p l e R s m args below meth c H locs cells slots Q (F0 m (pc + 3) ls rest)) : W p l e R s m args below meth c H locs cells slots Q (F0 m pc ls (.int (nI x) :: rest)) :=
  lv_if_eq hx hb hdg ht (fun h => kt (by rcases Nat.eq_zero_or_pos x with z | z; exact z; exact absurd h (nI_ne0 z h1))) (fun h => kf (by rcases Nat.eq_zero_or_pos x with z | z; (subst z; exact absurd rfl h); exact z))
theorem n_if_ne (hx : p.tables.exec = Jvm.exec) (hb : c.code = cc) {x : Nat} {off : Int} {tgt : Nat} (h1 : x < 2 ^ 31) (hdg : decode cc pc = .ok (.ifCond .ne off, 3)) (ht : (pc : Int) + off = (tgt : Int))
    (kt : 0 < x → W p l e R s m args below meth c H locs cells slots Q (F0 m tgt ls rest)) (kf : x = 0 → W p l e R s m args below meth c H locs cells slots Q (F0 m (pc + 3) ls rest)) : W p l e R s m args below meth c H locs cells slots Q (F0 m pc ls (.int (nI x) :: rest)) :=
  lv_if_ne hx hb hdg ht (fun h => kt (by rcases Nat.eq_zero_or_pos x with z | z; (subst z; exact absurd rfl h); exact z)) (fun h => kf (by rcases Nat.eq_zero_or_pos x with z | z; exact z; exact absurd h (nI_ne0 z h1)))
theorem n_if_lt (hx : p.tables.exec = Jvm.exec) (hb : c.code = cc) {x : Nat} {off : Int} {tgt : Nat} (h1 : x < 2 ^ 31) (hdg : decode cc pc = .ok (.ifCond .lt off, 3)) (ht : (pc : Int) + off = (tgt : Int))
    (kf : W p l e R s m args below meth c H locs cells slots Q (F0 m (pc + 3) ls rest)) : W p l e R s m args below meth c H locs cells slots Q (F0 m pc ls (.int (nI x) :: rest)) :=
  lv_if_lt hx hb hdg ht (fun h => absurd h (nI_pos h1)) (fun _ => kf)
theorem n_if_ge (hx : p.tables.exec = Jvm.exec) (hb : c.code = cc) {x : Nat} {off : Int} {tgt : Nat} (h1 : x < 2 ^ 31) (hdg : decode cc pc = .ok (.ifCond .ge off, 3)) (ht : (pc : Int) + off = (tgt : Int))
    (kt : W p l e R s m args below meth c H locs cells slots Q (F0 m tgt ls rest)) : W p l e R s m args below meth c H locs cells slots Q (F0 m pc ls (.int (nI x) :: rest)) :=
  lv_if_ge hx hb hdg ht (fun _ => kt) (fun h => absurd (nI_pos' h1) h)
theorem n_iald (hx : p.tables.exec = Jvm.exec) (hb : c.code = cc) (hK : va_K D cl tys s) (hP : va_P D cl ws H) (q0 t0 : Nat) {cA : ClassId} {n : Nat} {f : Nat → Int32} (ha : ws[q0]? = some (a, .inl (cA, n, .inl f))) (ht : tys[t0]? = some (cA, .int)) {i : Nat} (h : i < n) (hn : n < 2 ^ 31) (hdg : decode cc pc = .ok (.iaload, 1))
    (kk : W p l e R s m args below meth c H locs cells slots Q (F0 m (pc + 1) ls (.int (f i) :: rest))) : W p l e R s m args below meth c H locs cells slots Q (F0 m pc ls (.int (nI i) :: .ref a :: rest)) :=
  va_iald hx hb hK hP q0 t0 ha ht (vp_in_nI h hn) hdg (by rw [nI_clamp (Nat.lt_trans h hn)]; exact kk)
theorem n_zald (hx : p.tables.exec = Jvm.exec) (hb : c.code = cc) (hK : va_K D cl tys s) (hP : va_P D cl ws H) (q0 t0 : Nat) {cA : ClassId} {n : Nat} {f : Nat → Int32} (ha : ws[q0]? = some (a, .inl (cA, n, .inl f))) (ht : tys[t0]? = some (cA, .boolean)) {i : Nat} (h : i < n) (hn : n < 2 ^ 31) (hdg : decode cc pc = .ok (.baload, 1))
    (kk : W p l e R s m args below meth c H locs cells slots Q (F0 m (pc + 1) ls (.int (f i) :: rest))) : W p l e R s m args below meth c H locs cells slots Q (F0 m pc ls (.int (nI i) :: .ref a :: rest)) :=
  va_zald hx hb hK hP q0 t0 ha ht (vp_in_nI h hn) hdg (by rw [nI_clamp (Nat.lt_trans h hn)]; exact kk)
theorem n_iast (hx : p.tables.exec = Jvm.exec) (hb : c.code = cc) (hK : va_K D cl tys s) (hP : va_P D cl ws H) (hD : va_D A ws) (hS : va_S A H0 H locs) (q0 t0 : Nat) {cA : ClassId} {n : Nat} {f : Nat → Int32} (ha : ws[q0]? = some (a, .inl (cA, n, .inl f))) (ht : tys[t0]? = some (cA, .int)) {i : Nat} {x : Int32} (h : i < n) (hn : n < 2 ^ 31) (hdg : decode cc pc = .ok (.iastore, 1))
    (kk : ∀ (H1 : Heap) (locs1 : List Loc), va_P D cl (ws.set q0 (a, .inl (cA, n, .inl (upd f i x)))) H1 → va_D A (ws.set q0 (a, .inl (cA, n, .inl (upd f i x)))) → va_S A H0 H1 locs1 → W p l e R s m args below meth c H1 locs1 cells slots Q (F0 m (pc + 1) ls rest)) : W p l e R s m args below meth c H locs cells slots Q (F0 m pc ls (.int x :: .int (nI i) :: .ref a :: rest)) :=
  va_iast hx hb hK hP hD hS q0 t0 ha ht (vp_in_nI h hn) hdg (by rw [nI_clamp (Nat.lt_trans h hn)]; exact kk)
theorem n_zast (hx : p.tables.exec = Jvm.exec) (hb : c.code = cc) (hK : va_K D cl tys s) (hP : va_P D cl ws H) (hD : va_D A ws) (hS : va_S A H0 H locs) (q0 t0 : Nat) {cA : ClassId} {n : Nat} {f : Nat → Int32} (ha : ws[q0]? = some (a, .inl (cA, n, .inl f))) (ht : tys[t0]? = some (cA, .boolean)) {i : Nat} {x : Int32} (h : i < n) (hn : n < 2 ^ 31) (hv : vp_nar .boolean x = x) (hdg : decode cc pc = .ok (.bastore, 1))
    (kk : ∀ (H1 : Heap) (locs1 : List Loc), va_P D cl (ws.set q0 (a, .inl (cA, n, .inl (upd f i x)))) H1 → va_D A (ws.set q0 (a, .inl (cA, n, .inl (upd f i x)))) → va_S A H0 H1 locs1 → W p l e R s m args below meth c H1 locs1 cells slots Q (F0 m (pc + 1) ls rest)) : W p l e R s m args below meth c H locs cells slots Q (F0 m pc ls (.int x :: .int (nI i) :: .ref a :: rest)) :=
  va_zast hx hb hK hP hD hS q0 t0 ha ht (vp_in_nI h hn) hdg (by rw [nI_clamp (Nat.lt_trans h hn), hv]; exact kk)
theorem z_load (hx : p.tables.exec = Jvm.exec) (hb : c.code = cc) (hK : va_K D cl tys s) (hP : va_P D cl ws H) (q0 t0 : Nat) {cA : ClassId} {n : Nat} {f : Nat → Bool} (ha : ws[q0]? = some (a, .inl (cA, n, .inl (zbf f)))) (ht : tys[t0]? = some (cA, .boolean)) {i : Nat} (h : i < n) (hn : n < 2 ^ 31) (hdg : decode cc pc = .ok (.baload, 1))
    (kk : W p l e R s m args below meth c H locs cells slots Q (F0 m (pc + 1) ls (.int (zb (f i)) :: rest))) : W p l e R s m args below meth c H locs cells slots Q (F0 m pc ls (.int (nI i) :: .ref a :: rest)) :=
  n_zald hx hb hK hP q0 t0 ha ht h hn hdg kk
theorem z_store (hx : p.tables.exec = Jvm.exec) (hb : c.code = cc) (hK : va_K D cl tys s) (hP : va_P D cl ws H) (hD : va_D A ws) (hS : va_S A H0 H locs) (q0 t0 : Nat) {cA : ClassId} {n : Nat} {f : Nat → Bool} (ha : ws[q0]? = some (a, .inl (cA, n, .inl (zbf f)))) (ht : tys[t0]? = some (cA, .boolean)) {i : Nat} {x : Bool} (h : i < n) (hn : n < 2 ^ 31) (hdg : decode cc pc = .ok (.bastore, 1))
    (kk : ∀ (H1 : Heap) (locs1 : List Loc), va_P D cl (ws.set q0 (a, .inl (cA, n, .inl (zbf (updB f i x))))) H1 → va_D A (ws.set q0 (a, .inl (cA, n, .inl (zbf (updB f i x))))) → va_S A H0 H1 locs1 → W p l e R s m args below meth c H1 locs1 cells slots Q (F0 m (pc + 1) ls rest)) : W p l e R s m args below meth c H locs cells slots Q (F0 m pc ls (.int (zb x) :: .int (nI i) :: .ref a :: rest)) :=
  n_zast hx hb hK hP hD hS q0 t0 ha ht h hn (zb_nar x) hdg (by rw [zbf_upd]; exact kk)
theorem z_if_eq (hx : p.tables.exec = Jvm.exec) (hb : c.code = cc) {x : Bool} {off : Int} {tgt : Nat} (hdg : decode cc pc = .ok (.ifCond .eq off, 3)) (ht : (pc : Int) + off = (tgt : Int))
    (kt : x = false → W p l e R s m args below meth c H locs cells slots Q (F0 m tgt ls rest)) (kf : x = true → W p l e R s m args below meth c H locs cells slots Q (F0 m (pc + 3) ls rest)) : W p l e R s m args below meth c H locs cells slots Q (F0 m pc ls (.int (zb x) :: rest)) :=
  lv_if_eq hx hb hdg ht (fun h => kt ((zb_0 x).mp h)) (fun h => kf (by cases x; exact absurd rfl h; rfl))
theorem z_if_ne (hx : p.tables.exec = Jvm.exec) (hb : c.code = cc) {x : Bool} {off : Int} {tgt : Nat} (hdg : decode cc pc = .ok (.ifCond .ne off, 3)) (ht : (pc : Int) + off = (tgt : Int))
    (kt : x = true → W p l e R s m args below meth c H locs cells slots Q (F0 m tgt ls rest)) (kf : x = false → W p l e R s m args below meth c H locs cells slots Q (F0 m (pc + 3) ls rest)) : W p l e R s m args below meth c H locs cells slots Q (F0 m pc ls (.int (zb x) :: rest)) :=
  lv_if_ne hx hb hdg ht (fun h => kt (by cases x; exact absurd rfl h; rfl)) (fun h => kf ((zb_0 x).mp h))
theorem m_load (hx : p.tables.exec = Jvm.exec) (hb : c.code = cc) (hK : va_K D cl tys s) (hP : va_P D cl ws H) (q0 t0 : Nat) {cA : ClassId} {n : Nat} {f : Nat → Nat} (ha : ws[q0]? = some (a, .inl (cA, n, .inl (nIf f)))) (ht : tys[t0]? = some (cA, .int)) {i : Nat} (h : i < n) (hn : n < 2 ^ 31) (hdg : decode cc pc = .ok (.iaload, 1))
    (kk : W p l e R s m args below meth c H locs cells slots Q (F0 m (pc + 1) ls (.int (nI (f i)) :: rest))) : W p l e R s m args below meth c H locs cells slots Q (F0 m pc ls (.int (nI i) :: .ref a :: rest)) :=
  n_iald hx hb hK hP q0 t0 ha ht h hn hdg kk
theorem m_store (hx : p.tables.exec = Jvm.exec) (hb : c.code = cc) (hK : va_K D cl tys s) (hP : va_P D cl ws H) (hD : va_D A ws) (hS : va_S A H0 H locs) (q0 t0 : Nat) {cA : ClassId} {n : Nat} {f : Nat → Nat} (ha : ws[q0]? = some (a, .inl (cA, n, .inl (nIf f)))) (ht : tys[t0]? = some (cA, .int)) {i : Nat} {x : Nat} (h : i < n) (hn : n < 2 ^ 31) (hdg : decode cc pc = .ok (.iastore, 1))
    (kk : ∀ (H1 : Heap) (locs1 : List Loc), va_P D cl (ws.set q0 (a, .inl (cA, n, .inl (nIf (updN f i x))))) H1 → va_D A (ws.set q0 (a, .inl (cA, n, .inl (nIf (updN f i x))))) → va_S A H0 H1 locs1 → W p l e R s m args below meth c H1 locs1 cells slots Q (F0 m (pc + 1) ls rest)) : W p l e R s m args below meth c H locs cells slots Q (F0 m pc ls (.int (nI x) :: .int (nI i) :: .ref a :: rest)) :=
  n_iast hx hb hK hP hD hS q0 t0 ha ht h hn hdg (by rw [nIf_upd]; exact kk)
end ROWN
end
section
/-! contracts whose new world is told by what holds of it -/
def Cei {S : Type} (l : Launch) (y : MethodName) (ws : List Cond) (rm : Room) (D : va_G) (cI cZ : ClassId) (av : List Value) (w0 : va_W) (w1 : S → va_W) (post : Int32 → S → Prop) : Prop := ∀ sz, Met l y ws rm (cp D cI cZ sz av w0) (va_Qi post (fun u t => va_P D vwCl (w1 u) t.heap) (va_A w0 sz)) 0 0 (va_A w0 sz)
def Cev {S : Type} (l : Launch) (y : MethodName) (ws : List Cond) (rm : Room) (D : va_G) (cI cZ : ClassId) (av : List Value) (w0 : va_W) (w1 : S → va_W) (post : S → Prop) : Prop := ∀ sz, Met l y ws rm (cp D cI cZ sz av w0) (va_Qv post (fun u t => va_P D vwCl (w1 u) t.heap) (va_A w0 sz)) 0 0 (va_A w0 sz)
def Cer {S : Type} (l : Launch) (y : MethodName) (ws : List Cond) (rm : Room) (D : va_G) (cI cZ : ClassId) (av : List Value) (w0 : va_W) (w1 : S → va_W) (post : S → Prop) (r : Nat) : Prop := ∀ sz, Met l y ws rm (cp D cI cZ sz av w0) (va_Qr post (fun u a t => a = r ∧ va_P D vwCl (w1 u) t.heap) (va_A w0 sz)) 0 0 (va_A w0 sz)
section BASEX
variable {S : Type} {p : Program} {l : Launch} {e : Env} {R : Room} {s : State} {m : MethodId} {args : Array Value} {below : List Frame} {meth : Method} {c : Code} {H : Heap} {locs : List Loc} {cells slots : Nat} {Q : State → Prop}
variable {cc : ByteArray} {pc : Nat} {ls : Array Slot} {rest : List Value} {D : va_G} {cI cZ : ClassId} {A : Nat → Prop} {ws : va_W}
theorem fin_ei {ty : FieldType} {v : Int32} {w2 : va_W} {w1 : S → va_W} {post : Int32 → S → Prop} (u : S) (hx : p.tables.exec = Jvm.exec) (hb : c.code = cc) (hr : meth.sig.returnType = some ty) (hlk : meth.locks = false) (hP : va_P D vwCl w2 H) (hS : va_S A s.heap H locs) (hn : narrow ty (.int v) = .int v) (hv : post v u) (hw : w2 = w1 u) (hQ : Q = MQ below (va_Qi post (fun u t => va_P D vwCl (w1 u) t.heap) A) args s 0 0 A) (hdg : decode cc pc = .ok (.ireturn, 1)) :
    W p l e R s m args below meth c H locs 0 0 Q (F0 m pc ls [.int v]) := by
  subst hw; subst hQ
  exact W.zret hx hb hr hn (fun t ht hW => ⟨⟨v, u, rfl, hv, by rw [← ht] at hP; exact hP⟩, hS.F ht⟩) hS.2.2 hdg hlk
theorem fin_ev {w2 : va_W} {w1 : S → va_W} {post : S → Prop} (u : S) (hx : p.tables.exec = Jvm.exec) (hb : c.code = cc) (hr : meth.sig.returnType = none) (hlk : meth.locks = false) (hP : va_P D vwCl w2 H) (hS : va_S A s.heap H locs) (hv : post u) (hw : w2 = w1 u) (hQ : Q = MQ below (va_Qv post (fun u t => va_P D vwCl (w1 u) t.heap) A) args s 0 0 A) (hdg : decode cc pc = .ok (.return_, 1)) :
    W p l e R s m args below meth c H locs 0 0 Q (F0 m pc ls []) := by
  subst hw; subst hQ
  exact W.vret hx hb hr (fun t ht hW => ⟨⟨u, rfl, hv, by rw [← ht] at hP; exact hP⟩, hS.F ht⟩) hS.2.2 hdg hlk
theorem fin_er {n : String} {v r : Nat} {w2 : va_W} {w1 : S → va_W} {post : S → Prop} (u : S) (hx : p.tables.exec = Jvm.exec) (hb : c.code = cc) (hr : meth.sig.returnType = some (.object n)) (hlk : meth.locks = false) (hP : va_P D vwCl w2 H) (hS : va_S A s.heap H locs) (hv : post u) (hvr : v = r) (hw : w2 = w1 u) (hQ : Q = MQ below (va_Qr post (fun u a t => a = r ∧ va_P D vwCl (w1 u) t.heap) A) args s 0 0 A) (hdg : decode cc pc = .ok (.areturn, 1)) :
    W p l e R s m args below meth c H locs 0 0 Q (F0 m pc ls [.ref v]) := by
  subst hw; subst hQ
  exact W.aret hx hb hr (Or.inl ⟨n, rfl⟩) (Or.inr ⟨v, rfl⟩) (fun t ht hW => ⟨⟨u, v, rfl, hv, hvr, by rw [← ht] at hP; exact hP⟩, hS.F ht⟩) hS.2.2 hdg hlk
variable {nL n : Nat} {Ts wl : List Cond} {own C : String} {y : MethodName} {bytes : ByteArray} {maxL index : Nat} {ret : Option FieldType} {rm : Room} {As st0 : List Value} {b : Nat} {w0 : va_W} {w1 ws' : S → va_W}
theorem call_Vei {post : Int32 → S → Prop} (hx : p.tables.exec = Jvm.exec) (hb : c.code = cc) (hml : c.maxLocals = nL) (hown : s.vm.findClass own = some m.cls) (hts : ∀ w ∈ Ts, w.before args s = true) (hN : nwAll s) (hM : Cei l y wl rm D cI cZ (.ref b :: As) w0 w1 post) (cw : CallW R s args own C index y bytes maxL ret wl rm 0 0 n)
    (hK : va_K D vwCl (ty2 cI cZ) s) (hP : va_P D vwCl ws H) (hD : va_D A ws) (hS : va_S A s.heap H locs) (hA : ∀ q, s.heap.size ≤ q → A q) (is : List Nat) (hC : is.map (fun i => ws[i]?) = w0.map some) (hl : ∀ u, (w1 u).map (·.1) = w0.map (·.1)) (he : ∀ u, va_ups ws is (w1 u) = ws' u) (hl2 : ∀ u, (ws' u).map (·.1) = ws.map (·.1)) (hn : va_nd is = true)
    {ci q0 : Nat} {fs : List Value} {q : vw_C} (hc : vwCl[ci]? = some q) (hq : ws[q0]? = some (b, .inr (ci, fs))) (hqC : q.1 = C) (hnn : As.length = n) (hsz : ls.size = nL) (hst : st0 = As.reverse ++ .ref b :: rest) (hroom : 2 * (F0 m pc ls rest).monitorRoom + (rest.map fun v => v.category).sum ≤ 8) (hdg : decode cc pc = .ok (.invokevirtual index, 3)) (hz1 : cells ≤ R.cells) (hz2 : slots ≤ R.slots)
    (kk : ∀ (x : Int32) (u : S), post x u → ∀ (H1 : Heap) (locs1 : List Loc), va_P D vwCl (ws' u) H1 → va_D A (ws' u) → va_S A s.heap H1 locs1 → W p l e R s m args below meth c H1 locs1 cells slots Q (F0 m (pc + 3) ls (.int x :: rest))) : W p l e R s m args below meth c H locs cells slots Q (F0 m pc ls st0) := by
  subst hst
  have hF := va_free hD hS hA is hC
  refine va_calli (va_runV (As := As) (rest := rest) ⟨hx, hb, hml, hown, hts⟩ (hM H.size) cw ⟨cp_blind, hqC ▸ va_recv hK hP hc hq, fun U hU hW => call_pre (av := .ref b :: As) hN hK hP hD is hC hn rfl U hU hW⟩ rfl hnn hsz rfl hroom hdg ⟨hz1, hz2⟩) hS (fun q _ h => hF q h) hF (fun x u t H1 locs1 ht hvm hw hB hz1 hk1 hS1 => ?_)
  subst ht
  exact kk x u hw _ _ (va_back hP hD is hC hn (hl u) hk1 hB (he u)) (hD.addr (hl2 u)) hS1
theorem call_Vev {post : S → Prop} (hx : p.tables.exec = Jvm.exec) (hb : c.code = cc) (hml : c.maxLocals = nL) (hown : s.vm.findClass own = some m.cls) (hts : ∀ w ∈ Ts, w.before args s = true) (hN : nwAll s) (hM : Cev l y wl rm D cI cZ (.ref b :: As) w0 w1 post) (cw : CallW R s args own C index y bytes maxL ret wl rm 0 0 n)
    (hK : va_K D vwCl (ty2 cI cZ) s) (hP : va_P D vwCl ws H) (hD : va_D A ws) (hS : va_S A s.heap H locs) (hA : ∀ q, s.heap.size ≤ q → A q) (is : List Nat) (hC : is.map (fun i => ws[i]?) = w0.map some) (hl : ∀ u, (w1 u).map (·.1) = w0.map (·.1)) (he : ∀ u, va_ups ws is (w1 u) = ws' u) (hl2 : ∀ u, (ws' u).map (·.1) = ws.map (·.1)) (hn : va_nd is = true)
    {ci q0 : Nat} {fs : List Value} {q : vw_C} (hc : vwCl[ci]? = some q) (hq : ws[q0]? = some (b, .inr (ci, fs))) (hqC : q.1 = C) (hnn : As.length = n) (hsz : ls.size = nL) (hst : st0 = As.reverse ++ .ref b :: rest) (hroom : 2 * (F0 m pc ls rest).monitorRoom + (rest.map fun v => v.category).sum ≤ 8) (hdg : decode cc pc = .ok (.invokevirtual index, 3)) (hz1 : cells ≤ R.cells) (hz2 : slots ≤ R.slots)
    (kk : ∀ (u : S), post u → ∀ (H1 : Heap) (locs1 : List Loc), va_P D vwCl (ws' u) H1 → va_D A (ws' u) → va_S A s.heap H1 locs1 → W p l e R s m args below meth c H1 locs1 cells slots Q (F0 m (pc + 3) ls rest)) : W p l e R s m args below meth c H locs cells slots Q (F0 m pc ls st0) := by
  subst hst
  have hF := va_free hD hS hA is hC
  refine va_callv (va_runV (As := As) (rest := rest) ⟨hx, hb, hml, hown, hts⟩ (hM H.size) cw ⟨cp_blind, hqC ▸ va_recv hK hP hc hq, fun U hU hW => call_pre (av := .ref b :: As) hN hK hP hD is hC hn rfl U hU hW⟩ rfl hnn hsz rfl hroom hdg ⟨hz1, hz2⟩) hS (fun q _ h => hF q h) hF (fun u t H1 locs1 ht hvm hw hB hz1 hk1 hS1 => ?_)
  subst ht
  exact kk u hw _ _ (va_back hP hD is hC hn (hl u) hk1 hB (he u)) (hD.addr (hl2 u)) hS1
theorem call_Ver {post : S → Prop} {ra : Nat} (hx : p.tables.exec = Jvm.exec) (hb : c.code = cc) (hml : c.maxLocals = nL) (hown : s.vm.findClass own = some m.cls) (hts : ∀ w ∈ Ts, w.before args s = true) (hN : nwAll s) (hM : Cer l y wl rm D cI cZ (.ref b :: As) w0 w1 post ra) (cw : CallW R s args own C index y bytes maxL ret wl rm 0 0 n)
    (hK : va_K D vwCl (ty2 cI cZ) s) (hP : va_P D vwCl ws H) (hD : va_D A ws) (hS : va_S A s.heap H locs) (hA : ∀ q, s.heap.size ≤ q → A q) (is : List Nat) (hC : is.map (fun i => ws[i]?) = w0.map some) (hl : ∀ u, (w1 u).map (·.1) = w0.map (·.1)) (he : ∀ u, va_ups ws is (w1 u) = ws' u) (hl2 : ∀ u, (ws' u).map (·.1) = ws.map (·.1)) (hn : va_nd is = true)
    {ci q0 : Nat} {fs : List Value} {q : vw_C} (hc : vwCl[ci]? = some q) (hq : ws[q0]? = some (b, .inr (ci, fs))) (hqC : q.1 = C) (hnn : As.length = n) (hsz : ls.size = nL) (hst : st0 = As.reverse ++ .ref b :: rest) (hroom : 2 * (F0 m pc ls rest).monitorRoom + (rest.map fun v => v.category).sum ≤ 8) (hdg : decode cc pc = .ok (.invokevirtual index, 3)) (hz1 : cells ≤ R.cells) (hz2 : slots ≤ R.slots)
    (kk : ∀ (u : S), post u → ∀ (H1 : Heap) (locs1 : List Loc), va_P D vwCl (ws' u) H1 → va_D A (ws' u) → va_S A s.heap H1 locs1 → W p l e R s m args below meth c H1 locs1 cells slots Q (F0 m (pc + 3) ls (.ref ra :: rest))) : W p l e R s m args below meth c H locs cells slots Q (F0 m pc ls st0) := by
  subst hst
  have hF := va_free hD hS hA is hC
  refine va_callr (va_runV (As := As) (rest := rest) ⟨hx, hb, hml, hown, hts⟩ (hM H.size) cw ⟨cp_blind, hqC ▸ va_recv hK hP hc hq, fun U hU hW => call_pre (av := .ref b :: As) hN hK hP hD is hC hn rfl U hU hW⟩ rfl hnn hsz rfl hroom hdg ⟨hz1, hz2⟩) hS (fun q _ h => hF q h) hF (fun u ra' t H1 locs1 ht hvm hw hB hz1 hk1 hS1 => ?_)
  subst ht
  obtain ⟨rfl, hB⟩ := hB
  exact kk u hw _ _ (va_back hP hD is hC hn (hl u) hk1 hB (he u)) (hD.addr (hl2 u)) hS1
theorem call_Sev {post : S → Prop} (hx : p.tables.exec = Jvm.exec) (hb : c.code = cc) (hml : c.maxLocals = nL) (hown : s.vm.findClass own = some m.cls) (hts : ∀ w ∈ Ts, w.before args s = true) (hN : nwAll s) (hM : Cev l y wl rm D cI cZ As w0 w1 post) (cw : CallB R s args own index y bytes maxL ret wl rm 0 0 n ∧ (Cond.static y).before args s = true)
    (hK : va_K D vwCl (ty2 cI cZ) s) (hP : va_P D vwCl ws H) (hD : va_D A ws) (hS : va_S A s.heap H locs) (hA : ∀ q, s.heap.size ≤ q → A q) (is : List Nat) (hC : is.map (fun i => ws[i]?) = w0.map some) (hl : ∀ u, (w1 u).map (·.1) = w0.map (·.1)) (he : ∀ u, va_ups ws is (w1 u) = ws' u) (hl2 : ∀ u, (ws' u).map (·.1) = ws.map (·.1)) (hn : va_nd is = true)
    (hnn : As.length = n) (hsz : ls.size = nL) (hst : st0 = As.reverse ++ rest) (hroom : 2 * (F0 m pc ls rest).monitorRoom + (rest.map fun v => v.category).sum ≤ 8) (hdg : decode cc pc = .ok (.invokestatic index, 3)) (hz1 : cells ≤ R.cells) (hz2 : slots ≤ R.slots)
    (kk : ∀ (u : S), post u → ∀ (H1 : Heap) (locs1 : List Loc), va_P D vwCl (ws' u) H1 → va_D A (ws' u) → va_S A s.heap H1 locs1 → W p l e R s m args below meth c H1 locs1 cells slots Q (F0 m (pc + 3) ls rest)) : W p l e R s m args below meth c H locs cells slots Q (F0 m pc ls st0) := by
  subst hst
  have hF := va_free hD hS hA is hC
  refine va_callv (va_runS (As := As) (rest := rest) ⟨hx, hb, hml, hown, hts⟩ (hM H.size) cw ⟨cp_blind, fun U hU hW => call_pre (av := As) hN hK hP hD is hC hn rfl U hU hW⟩ rfl hnn hsz rfl hroom hdg ⟨hz1, hz2⟩) hS (fun q _ h => hF q h) hF (fun u t H1 locs1 ht hvm hw hB hz1 hk1 hS1 => ?_)
  subst ht
  exact kk u hw _ _ (va_back hP hD is hC hn (hl u) hk1 hB (he u)) (hD.addr (hl2 u)) hS1
end BASEX
end
section
/-! the states of the parts, as tuples -/
abbrev AlS : Type := (Nat → Nat) × (Nat → Nat) × (Nat → Nat) × Nat
abbrev al_raise (a : AlS) (k n f : Nat) : AlS := (updN a.1 a.2.2.2 k, updN a.2.1 a.2.2.2 n, updN a.2.2.1 a.2.2.2 f, a.2.2.2 + 1)
abbrev CsS : Type := Int32 × Int32 × Int32 × Int32 × Int32 × Nat × Nat
abbrev cs_anew (c : CsS) : CsS := (c.1, c.2.1, c.2.2.1, 0, 0, c.2.2.2.2.2.1, c.2.2.2.2.2.2)
abbrev cs_set (c : CsS) (x y z : Int32) : CsS := (x, y, z, 0, 0, c.2.2.2.2.2.1, c.2.2.2.2.2.2)
/-- a value comes: the sums move -/
def cs_mv (c : CsS) (x : Int32) (n : Nat) : CsS := (c.1, c.2.1, c.2.2.1, (if 0 < c.2.2.2.1 + x - c.1 - c.2.1 then c.2.2.2.1 + x - c.1 - c.2.1 else 0), (if 0 < c.2.2.2.2.1 + c.1 - c.2.1 - x then c.2.2.2.2.1 + c.1 - c.2.1 - x else 0), (if c.2.2.2.1 = 0 then n else c.2.2.2.2.2.1), (if c.2.2.2.2.1 = 0 then n else c.2.2.2.2.2.2))
def cs_bits (c : CsS) : Int32 := if c.2.2.2.1 ≤ c.2.2.1 then (if c.2.2.2.2.1 ≤ c.2.2.1 then 0 else 2) else (if c.2.2.2.2.1 ≤ c.2.2.1 then 1 else 3)
def cs_al (c : CsS) (a : AlS) (n : Nat) : AlS := if c.2.2.2.1 ≤ c.2.2.1 then (if c.2.2.2.2.1 ≤ c.2.2.1 then a else al_raise a 1 n c.2.2.2.2.2.2) else (if c.2.2.2.2.1 ≤ c.2.2.1 then al_raise a 0 n c.2.2.2.2.2.1 else al_raise (al_raise a 0 n c.2.2.2.2.2.1) 1 n c.2.2.2.2.2.2)
def cs_end (c : CsS) : CsS := if c.2.2.2.1 ≤ c.2.2.1 then (if c.2.2.2.2.1 ≤ c.2.2.1 then c else cs_anew c) else cs_anew c
def jfd (x y : Int32) : Int32 := if 0 ≤ x ^^^ y then x / y else if x / y * y = x then x / y else x / y - 1
abbrev PhS : Type := Int32 × Int32 × Int32 × Nat × Int32 × Int32 × Int32 × Nat
abbrev ph_anew (c : PhS) : PhS := (c.1, c.2.1, c.2.2.1, 0, 0, 0, 0, 0)
abbrev ph_set (_c : PhS) (x y z : Int32) : PhS := (x, y, z, 0, 0, 0, 0, 0)
def ph_sum (c : PhS) (x : Int32) : Int32 := c.2.2.2.2.2.1 * c.2.1 / 1000 + x - jfd (c.2.2.2.2.1 + x) (nI (c.2.2.2.1 + 1)) - c.1
def ph_mv (c : PhS) (x : Int32) (n : Nat) : PhS := (c.1, c.2.1, c.2.2.1, c.2.2.2.1 + 1, c.2.2.2.2.1 + x, ph_sum c x, (if c.2.2.2.2.2.2.1 ≤ ph_sum c x then c.2.2.2.2.2.2.1 else ph_sum c x), (if c.2.2.2.2.2.2.1 ≤ ph_sum c x then c.2.2.2.2.2.2.2 else n))
def ph_start (c : PhS) (n : Nat) : Nat := if c.2.2.2.2.2.2.1 < 0 then c.2.2.2.2.2.2.2 + 1 else n + 1 - c.2.2.2.1
def ph_bits (c : PhS) : Int32 := if c.2.2.1 < c.2.2.2.2.2.1 - c.2.2.2.2.2.2.1 then 4 else 0
def ph_al (c : PhS) (a : AlS) (n : Nat) : AlS := if c.2.2.1 < c.2.2.2.2.2.1 - c.2.2.2.2.2.2.1 then al_raise a 2 n (ph_start c n) else a
def ph_end (c : PhS) : PhS := if c.2.2.1 < c.2.2.2.2.2.1 - c.2.2.2.2.2.2.1 then ph_anew c else c
theorem zb_t {P : Prop} [Decidable P] (h : P) : (1 : Int32) = zb (decide P) := by rw [decide_eq_true h]; rfl
theorem zb_f {P : Prop} [Decidable P] (h : ¬ P) : (0 : Int32) = zb (decide P) := by rw [decide_eq_false h]; rfl
set_option maxHeartbeats 4000000 in
set_option maxRecDepth 100000 in
theorem c_X0_raise (l : Launch) (D : va_G) (cI cZ : ClassId) (qa qk qn qs : Nat) (al : AlS) (k nu fr : Nat) (h360 : al.2.2.2 < 360) : Cv l yX0_raise (aw yX0_raise cX0_raise 4 none) ({ frames := 0, cells := 0, slots := 0, locals := 0 }) D cI cZ [.ref qa, .int (nI k), .int (nI nu), .int (nI fr)] [(qa, .inr (0, [.ref qk, .ref qn, .ref qs, .int (nI al.2.2.2)])), (qk, .inl (cI, 360, .inl (nIf al.1))), (qn, .inl (cI, 360, .inl (nIf al.2.1))), (qs, .inl (cI, 360, .inl (nIf al.2.2.1)))] [(qa, .inr (0, [.ref qk, .ref qn, .ref qs, .int (nI ((al_raise al k nu fr).2.2.2))])), (qk, .inl (cI, 360, .inl (nIf ((al_raise al k nu fr).1)))), (qn, .inl (cI, 360, .inl (nIf ((al_raise al k nu fr).2.1)))), (qs, .inl (cI, 360, .inl (nIf ((al_raise al k nu fr).2.2.1))))] := by
  refine mk_any (cc := cX0_raise) (maxL := 4) (ret := none) (Qc := fun A => va_Qv (fun (_ : Unit) => True) (cb D [(qa, .inr (0, [.ref qk, .ref qn, .ref qs, .int (nI ((al_raise al k nu fr).2.2.2))])), (qk, .inl (cI, 360, .inl (nIf ((al_raise al k nu fr).1)))), (qn, .inl (cI, 360, .inl (nIf ((al_raise al k nu fr).2.1)))), (qs, .inl (cI, 360, .inl (nIf ((al_raise al k nu fr).2.2.1))))]) A) (plainFor_of_name (by decide)) (Nat.le_of_ble_eq_true rfl) ?_
  intro p e s m args below meth c A Q R hR hQ hx hb hr hml hAW hown hlk hN hA hP hK hD hS ls hl
  have hl : lv_has ls 4 [(0, .ref qa), (1, .int (nI k)), (2, .int (nI nu)), (3, .int (nI fr))] := hl
  refine lv_aload_n hx hb dX0_raise_0 rfl (lv_at hl 0 rfl) ?_
  refine va_get (D := D) (ci := 0) (v := .int (nI al.2.2.2)) (C := RX0) (T := TX0) (N := 4) hx hb hAW iwX0 hown hK hP 0 rfl rfl 3 (by decide) (hAW _ q80) (fun _ h9 => h9) rfl dX0_raise_1 ?_
  refine lv_sipush (v := 360) hx hb dX0_raise_4 (by decide) ?_
  refine n_icmp_ge (x := al.2.2.2) (y := 360) (tgt := 50) hx hb (by omega) (by omega) dX0_raise_7 (by decide) (fun c7 => absurd c7 (by omega)) (fun c7 => ?_)
  refine lv_aload_n hx hb dX0_raise_10 rfl (lv_at hl 0 rfl) ?_
  refine va_get (D := D) (ci := 0) (v := .ref qk) (C := RX0) (T := TX0) (N := 4) hx hb hAW iwX0 hown hK hP 0 rfl rfl 0 (by decide) (hAW _ q72) (fun _ h9 => h9) rfl dX0_raise_11 ?_
  refine lv_aload_n hx hb dX0_raise_14 rfl (lv_at hl 0 rfl) ?_
  refine va_get (D := D) (ci := 0) (v := .int (nI al.2.2.2)) (C := RX0) (T := TX0) (N := 4) hx hb hAW iwX0 hown hK hP 0 rfl rfl 3 (by decide) (hAW _ q80) (fun _ h9 => h9) rfl dX0_raise_15 ?_
  refine lv_iload_n hx hb dX0_raise_18 rfl (lv_at hl 1 rfl) ?_
  refine m_store (D := D) (f := al.1) (i := al.2.2.2) (x := k) hx hb hK hP hD hS 1 0 rfl rfl (by omega) (by decide) dX0_raise_19 (fun H locs hP hD hS => ?_)
  have hP : va_P D vwCl [(qa, .inr (0, [.ref qk, .ref qn, .ref qs, .int (nI al.2.2.2)])), (qk, .inl (cI, 360, .inl (nIf (updN al.1 al.2.2.2 k)))), (qn, .inl (cI, 360, .inl (nIf al.2.1))), (qs, .inl (cI, 360, .inl (nIf al.2.2.1)))] H := hP
  have hD : va_D A [(qa, .inr (0, [.ref qk, .ref qn, .ref qs, .int (nI al.2.2.2)])), (qk, .inl (cI, 360, .inl (nIf (updN al.1 al.2.2.2 k)))), (qn, .inl (cI, 360, .inl (nIf al.2.1))), (qs, .inl (cI, 360, .inl (nIf al.2.2.1)))] := hD
  refine lv_aload_n hx hb dX0_raise_20 rfl (lv_at hl 0 rfl) ?_
  refine va_get (D := D) (ci := 0) (v := .ref qn) (C := RX0) (T := TX0) (N := 4) hx hb hAW iwX0 hown hK hP 0 rfl rfl 1 (by decide) (hAW _ q75) (fun _ h9 => h9) rfl dX0_raise_21 ?_
  refine lv_aload_n hx hb dX0_raise_24 rfl (lv_at hl 0 rfl) ?_
  refine va_get (D := D) (ci := 0) (v := .int (nI al.2.2.2)) (C := RX0) (T := TX0) (N := 4) hx hb hAW iwX0 hown hK hP 0 rfl rfl 3 (by decide) (hAW _ q80) (fun _ h9 => h9) rfl dX0_raise_25 ?_
  refine lv_iload_n hx hb dX0_raise_28 rfl (lv_at hl 2 rfl) ?_
  refine m_store (D := D) (f := al.2.1) (i := al.2.2.2) (x := nu) hx hb hK hP hD hS 2 0 rfl rfl (by omega) (by decide) dX0_raise_29 (fun H locs hP hD hS => ?_)
  have hP : va_P D vwCl [(qa, .inr (0, [.ref qk, .ref qn, .ref qs, .int (nI al.2.2.2)])), (qk, .inl (cI, 360, .inl (nIf (updN al.1 al.2.2.2 k)))), (qn, .inl (cI, 360, .inl (nIf (updN al.2.1 al.2.2.2 nu)))), (qs, .inl (cI, 360, .inl (nIf al.2.2.1)))] H := hP
  have hD : va_D A [(qa, .inr (0, [.ref qk, .ref qn, .ref qs, .int (nI al.2.2.2)])), (qk, .inl (cI, 360, .inl (nIf (updN al.1 al.2.2.2 k)))), (qn, .inl (cI, 360, .inl (nIf (updN al.2.1 al.2.2.2 nu)))), (qs, .inl (cI, 360, .inl (nIf al.2.2.1)))] := hD
  refine lv_aload_n hx hb dX0_raise_30 rfl (lv_at hl 0 rfl) ?_
  refine va_get (D := D) (ci := 0) (v := .ref qs) (C := RX0) (T := TX0) (N := 4) hx hb hAW iwX0 hown hK hP 0 rfl rfl 2 (by decide) (hAW _ q78) (fun _ h9 => h9) rfl dX0_raise_31 ?_
  refine lv_aload_n hx hb dX0_raise_34 rfl (lv_at hl 0 rfl) ?_
  refine va_get (D := D) (ci := 0) (v := .int (nI al.2.2.2)) (C := RX0) (T := TX0) (N := 4) hx hb hAW iwX0 hown hK hP 0 rfl rfl 3 (by decide) (hAW _ q80) (fun _ h9 => h9) rfl dX0_raise_35 ?_
  refine lv_iload_n hx hb dX0_raise_38 rfl (lv_at hl 3 rfl) ?_
  refine m_store (D := D) (f := al.2.2.1) (i := al.2.2.2) (x := fr) hx hb hK hP hD hS 3 0 rfl rfl (by omega) (by decide) dX0_raise_39 (fun H locs hP hD hS => ?_)
  have hP : va_P D vwCl [(qa, .inr (0, [.ref qk, .ref qn, .ref qs, .int (nI al.2.2.2)])), (qk, .inl (cI, 360, .inl (nIf (updN al.1 al.2.2.2 k)))), (qn, .inl (cI, 360, .inl (nIf (updN al.2.1 al.2.2.2 nu)))), (qs, .inl (cI, 360, .inl (nIf (updN al.2.2.1 al.2.2.2 fr))))] H := hP
  have hD : va_D A [(qa, .inr (0, [.ref qk, .ref qn, .ref qs, .int (nI al.2.2.2)])), (qk, .inl (cI, 360, .inl (nIf (updN al.1 al.2.2.2 k)))), (qn, .inl (cI, 360, .inl (nIf (updN al.2.1 al.2.2.2 nu)))), (qs, .inl (cI, 360, .inl (nIf (updN al.2.2.1 al.2.2.2 fr))))] := hD
  refine lv_aload_n hx hb dX0_raise_40 rfl (lv_at hl 0 rfl) ?_
  refine lv_dup hx hb dX0_raise_41 rfl ?_
  refine va_get (D := D) (ci := 0) (v := .int (nI al.2.2.2)) (C := RX0) (T := TX0) (N := 4) hx hb hAW iwX0 hown hK hP 0 rfl rfl 3 (by decide) (hAW _ q80) (fun _ h9 => h9) rfl dX0_raise_42 ?_
  refine lv_iconst (v := 1) hx hb dX0_raise_45 (by decide) ?_
  refine n_iadd (x := al.2.2.2) (y := 1) hx hb dX0_raise_46 ?_
  refine va_put (D := D) (ci := 0) (v := .int (nI (al.2.2.2 + 1))) (ty := .int) (C := RX0) (T := TX0) (N := 4) hx hb hAW iwX0 tyX0 tyX0_ok nmX0 hown hK hP hD hS 0 rfl rfl 3 (by decide) (hAW _ q80) (fun _ h9 => h9) rfl (tyX0_ok 3 (by decide)) rfl rfl (Nat.le_of_ble_eq_true rfl) dX0_raise_47 (fun H locs hP hD hS => ?_)
  have hP : va_P D vwCl [(qa, .inr (0, [.ref qk, .ref qn, .ref qs, .int (nI (al.2.2.2 + 1))])), (qk, .inl (cI, 360, .inl (nIf (updN al.1 al.2.2.2 k)))), (qn, .inl (cI, 360, .inl (nIf (updN al.2.1 al.2.2.2 nu)))), (qs, .inl (cI, 360, .inl (nIf (updN al.2.2.1 al.2.2.2 fr))))] H := hP
  have hD : va_D A [(qa, .inr (0, [.ref qk, .ref qn, .ref qs, .int (nI (al.2.2.2 + 1))])), (qk, .inl (cI, 360, .inl (nIf (updN al.1 al.2.2.2 k)))), (qn, .inl (cI, 360, .inl (nIf (updN al.2.1 al.2.2.2 nu)))), (qs, .inl (cI, 360, .inl (nIf (updN al.2.2.1 al.2.2.2 fr))))] := hD
  exact fin_v hx hb hr hlk hP hS rfl hQ dX0_raise_50

set_option maxHeartbeats 4000000 in
set_option maxRecDepth 100000 in
theorem c_X0_has (l : Launch) (D : va_G) (cI cZ : ClassId) (qa qk qn qs n : Nat) (x : Int32) (hn : n < 2 ^ 31) : Ci l yX0_has (aw yX0_has cX0_has 2 (some .boolean)) ({ frames := 0, cells := 0, slots := 0, locals := 0 }) D cI cZ [.ref qa, .int x] [(qa, .inr (0, [.ref qk, .ref qn, .ref qs, .int (nI n)]))] [(qa, .inr (0, [.ref qk, .ref qn, .ref qs, .int (nI n)]))] (zb (decide (0 ≤ x ∧ x < nI n))) := by
  refine mk_any (cc := cX0_has) (maxL := 2) (ret := (some .boolean)) (Qc := fun A => va_Qi (fun rr9 (_ : Unit) => rr9 = (zb (decide (0 ≤ x ∧ x < nI n)))) (cb D [(qa, .inr (0, [.ref qk, .ref qn, .ref qs, .int (nI n)]))]) A) (plainFor_of_name (by decide)) (Nat.le_of_ble_eq_true rfl) ?_
  intro p e s m args below meth c A Q R hR hQ hx hb hr hml hAW hown hlk hN hA hP hK hD hS ls hl
  have hl : lv_has ls 2 [(0, .ref qa), (1, .int x)] := hl
  refine lv_iload_n hx hb dX0_has_0 rfl (lv_at hl 1 rfl) ?_
  refine lv_if_lt (tgt := 16) hx hb dX0_has_1 (by decide) (fun c1 => ?_) (fun c1 => ?_)
  · skip
    refine lv_iconst (v := 0) hx hb dX0_has_16 (by decide) ?_
    exact fin_i (v := 0) hx hb hr hlk hP hS rfl (zb_f (fun h => absurd h.1 (Int32.not_le.mpr c1))) rfl hQ dX0_has_17
  · skip
    refine lv_iload_n hx hb dX0_has_4 rfl (lv_at hl 1 rfl) ?_
    refine lv_aload_n hx hb dX0_has_5 rfl (lv_at hl 0 rfl) ?_
    refine va_get (D := D) (ci := 0) (v := .int (nI n)) (C := RX0) (T := TX0) (N := 4) hx hb hAW iwX0 hown hK hP 0 rfl rfl 3 (by decide) (hAW _ q80) (fun _ h9 => h9) rfl dX0_has_6 ?_
    refine lv_icmp_ge (tgt := 16) hx hb dX0_has_9 (by decide) (fun c9 => ?_) (fun c9 => ?_)
    · skip
      refine lv_iconst (v := 0) hx hb dX0_has_16 (by decide) ?_
      exact fin_i (v := 0) hx hb hr hlk hP hS rfl (zb_f (fun h => absurd h.2 (Int32.not_lt.mpr c9))) rfl hQ dX0_has_17
    · skip
      refine lv_iconst (v := 1) hx hb dX0_has_12 (by decide) ?_
      refine lv_goto (tgt := 17) hx hb dX0_has_13 (by decide) ?_
      exact fin_i (v := 1) hx hb hr hlk hP hS rfl (zb_t ⟨Int32.not_lt.mp c1, Int32.not_le.mp c9⟩) rfl hQ dX0_has_17

set_option maxHeartbeats 4000000 in
set_option maxRecDepth 100000 in
theorem c_X0_removeAll (l : Launch) (D : va_G) (cI cZ : ClassId) (qa qk qn qs n : Nat) : Cv l yX0_removeAll (aw yX0_removeAll cX0_removeAll 1 none) ({ frames := 0, cells := 0, slots := 0, locals := 0 }) D cI cZ [.ref qa] [(qa, .inr (0, [.ref qk, .ref qn, .ref qs, .int (nI n)]))] [(qa, .inr (0, [.ref qk, .ref qn, .ref qs, .int (nI 0)]))] := by
  refine mk_any (cc := cX0_removeAll) (maxL := 1) (ret := none) (Qc := fun A => va_Qv (fun (_ : Unit) => True) (cb D [(qa, .inr (0, [.ref qk, .ref qn, .ref qs, .int (nI 0)]))]) A) (plainFor_of_name (by decide)) (Nat.le_of_ble_eq_true rfl) ?_
  intro p e s m args below meth c A Q R hR hQ hx hb hr hml hAW hown hlk hN hA hP hK hD hS ls hl
  have hl : lv_has ls 1 [(0, .ref qa)] := hl
  refine lv_aload_n hx hb dX0_removeAll_0 rfl (lv_at hl 0 rfl) ?_
  refine lv_iconst (v := 0) hx hb dX0_removeAll_1 (by decide) ?_
  refine va_put (D := D) (ci := 0) (v := .int 0) (ty := .int) (C := RX0) (T := TX0) (N := 4) hx hb hAW iwX0 tyX0 tyX0_ok nmX0 hown hK hP hD hS 0 rfl rfl 3 (by decide) (hAW _ q80) (fun _ h9 => h9) rfl (tyX0_ok 3 (by decide)) rfl rfl (Nat.le_of_ble_eq_true rfl) dX0_removeAll_2 (fun H locs hP hD hS => ?_)
  have hP : va_P D vwCl [(qa, .inr (0, [.ref qk, .ref qn, .ref qs, .int 0]))] H := hP
  have hD : va_D A [(qa, .inr (0, [.ref qk, .ref qn, .ref qs, .int 0]))] := hD
  exact fin_v hx hb hr hlk hP hS rfl hQ dX0_removeAll_5

set_option maxHeartbeats 4000000 in
set_option maxRecDepth 100000 in
theorem c_X2_beginAnew (l : Launch) (D : va_G) (cI cZ : ClassId) (qc : Nat) (cs : CsS) : Cv l yX2_beginAnew (aw yX2_beginAnew cX2_beginAnew 1 none) ({ frames := 0, cells := 0, slots := 0, locals := 0 }) D cI cZ [.ref qc] [(qc, .inr (2, [.int cs.1, .int cs.2.1, .int cs.2.2.1, .int cs.2.2.2.1, .int cs.2.2.2.2.1, .int (nI cs.2.2.2.2.2.1), .int (nI cs.2.2.2.2.2.2)]))] [(qc, .inr (2, [.int ((cs_anew cs).1), .int ((cs_anew cs).2.1), .int ((cs_anew cs).2.2.1), .int ((cs_anew cs).2.2.2.1), .int ((cs_anew cs).2.2.2.2.1), .int (nI ((cs_anew cs).2.2.2.2.2.1)), .int (nI ((cs_anew cs).2.2.2.2.2.2))]))] := by
  refine mk_any (cc := cX2_beginAnew) (maxL := 1) (ret := none) (Qc := fun A => va_Qv (fun (_ : Unit) => True) (cb D [(qc, .inr (2, [.int ((cs_anew cs).1), .int ((cs_anew cs).2.1), .int ((cs_anew cs).2.2.1), .int ((cs_anew cs).2.2.2.1), .int ((cs_anew cs).2.2.2.2.1), .int (nI ((cs_anew cs).2.2.2.2.2.1)), .int (nI ((cs_anew cs).2.2.2.2.2.2))]))]) A) (plainFor_of_name (by decide)) (Nat.le_of_ble_eq_true rfl) ?_
  intro p e s m args below meth c A Q R hR hQ hx hb hr hml hAW hown hlk hN hA hP hK hD hS ls hl
  have hl : lv_has ls 1 [(0, .ref qc)] := hl
  refine lv_aload_n hx hb dX2_beginAnew_0 rfl (lv_at hl 0 rfl) ?_
  refine lv_iconst (v := 0) hx hb dX2_beginAnew_1 (by decide) ?_
  refine va_put (D := D) (ci := 2) (v := .int 0) (ty := .int) (C := RX2) (T := TX2) (N := 7) hx hb hAW iwX2 tyX2 tyX2_ok nmX2 hown hK hP hD hS 0 rfl rfl 3 (by decide) (hAW _ q110) (fun _ h9 => h9) rfl (tyX2_ok 3 (by decide)) rfl rfl (Nat.le_of_ble_eq_true rfl) dX2_beginAnew_2 (fun H locs hP hD hS => ?_)
  have hP : va_P D vwCl [(qc, .inr (2, [.int cs.1, .int cs.2.1, .int cs.2.2.1, .int 0, .int cs.2.2.2.2.1, .int (nI cs.2.2.2.2.2.1), .int (nI cs.2.2.2.2.2.2)]))] H := hP
  have hD : va_D A [(qc, .inr (2, [.int cs.1, .int cs.2.1, .int cs.2.2.1, .int 0, .int cs.2.2.2.2.1, .int (nI cs.2.2.2.2.2.1), .int (nI cs.2.2.2.2.2.2)]))] := hD
  refine lv_aload_n hx hb dX2_beginAnew_5 rfl (lv_at hl 0 rfl) ?_
  refine lv_iconst (v := 0) hx hb dX2_beginAnew_6 (by decide) ?_
  refine va_put (D := D) (ci := 2) (v := .int 0) (ty := .int) (C := RX2) (T := TX2) (N := 7) hx hb hAW iwX2 tyX2 tyX2_ok nmX2 hown hK hP hD hS 0 rfl rfl 4 (by decide) (hAW _ q112) (fun _ h9 => h9) rfl (tyX2_ok 4 (by decide)) rfl rfl (Nat.le_of_ble_eq_true rfl) dX2_beginAnew_7 (fun H locs hP hD hS => ?_)
  have hP : va_P D vwCl [(qc, .inr (2, [.int cs.1, .int cs.2.1, .int cs.2.2.1, .int 0, .int 0, .int (nI cs.2.2.2.2.2.1), .int (nI cs.2.2.2.2.2.2)]))] H := hP
  have hD : va_D A [(qc, .inr (2, [.int cs.1, .int cs.2.1, .int cs.2.2.1, .int 0, .int 0, .int (nI cs.2.2.2.2.2.1), .int (nI cs.2.2.2.2.2.2)]))] := hD
  exact fin_v hx hb hr hlk hP hS rfl hQ dX2_beginAnew_10

set_option maxHeartbeats 4000000 in
set_option maxRecDepth 100000 in
theorem c_X2_setUp (l : Launch) (D : va_G) (cI cZ : ClassId) (qc : Nat) (cs : CsS) (x y z : Int32) : Cv l yX2_setUp (aw yX2_setUp cX2_setUp 4 none) ({ frames := 1, cells := 0, slots := 0, locals := 20 }) D cI cZ [.ref qc, .int x, .int y, .int z] [(qc, .inr (2, [.int cs.1, .int cs.2.1, .int cs.2.2.1, .int cs.2.2.2.1, .int cs.2.2.2.2.1, .int (nI cs.2.2.2.2.2.1), .int (nI cs.2.2.2.2.2.2)]))] [(qc, .inr (2, [.int ((cs_set cs x y z).1), .int ((cs_set cs x y z).2.1), .int ((cs_set cs x y z).2.2.1), .int ((cs_set cs x y z).2.2.2.1), .int ((cs_set cs x y z).2.2.2.2.1), .int (nI ((cs_set cs x y z).2.2.2.2.2.1)), .int (nI ((cs_set cs x y z).2.2.2.2.2.2))]))] := by
  refine mk_any (cc := cX2_setUp) (maxL := 4) (ret := none) (Qc := fun A => va_Qv (fun (_ : Unit) => True) (cb D [(qc, .inr (2, [.int ((cs_set cs x y z).1), .int ((cs_set cs x y z).2.1), .int ((cs_set cs x y z).2.2.1), .int ((cs_set cs x y z).2.2.2.1), .int ((cs_set cs x y z).2.2.2.2.1), .int (nI ((cs_set cs x y z).2.2.2.2.2.1)), .int (nI ((cs_set cs x y z).2.2.2.2.2.2))]))]) A) (plainFor_of_name (by decide)) (Nat.le_of_ble_eq_true rfl) ?_
  intro p e s m args below meth c A Q R hR hQ hx hb hr hml hAW hown hlk hN hA hP hK hD hS ls hl
  have hl : lv_has ls 4 [(0, .ref qc), (1, .int x), (2, .int y), (3, .int z)] := hl
  refine lv_aload_n hx hb dX2_setUp_0 rfl (lv_at hl 0 rfl) ?_
  refine lv_iload_n hx hb dX2_setUp_1 rfl (lv_at hl 1 rfl) ?_
  refine va_put (D := D) (ci := 2) (v := .int x) (ty := .int) (C := RX2) (T := TX2) (N := 7) hx hb hAW iwX2 tyX2 tyX2_ok nmX2 hown hK hP hD hS 0 rfl rfl 0 (by decide) (hAW _ q107) (fun _ h9 => h9) rfl (tyX2_ok 0 (by decide)) rfl rfl (Nat.le_of_ble_eq_true rfl) dX2_setUp_2 (fun H locs hP hD hS => ?_)
  have hP : va_P D vwCl [(qc, .inr (2, [.int x, .int cs.2.1, .int cs.2.2.1, .int cs.2.2.2.1, .int cs.2.2.2.2.1, .int (nI cs.2.2.2.2.2.1), .int (nI cs.2.2.2.2.2.2)]))] H := hP
  have hD : va_D A [(qc, .inr (2, [.int x, .int cs.2.1, .int cs.2.2.1, .int cs.2.2.2.1, .int cs.2.2.2.2.1, .int (nI cs.2.2.2.2.2.1), .int (nI cs.2.2.2.2.2.2)]))] := hD
  refine lv_aload_n hx hb dX2_setUp_5 rfl (lv_at hl 0 rfl) ?_
  refine lv_iload_n hx hb dX2_setUp_6 rfl (lv_at hl 2 rfl) ?_
  refine va_put (D := D) (ci := 2) (v := .int y) (ty := .int) (C := RX2) (T := TX2) (N := 7) hx hb hAW iwX2 tyX2 tyX2_ok nmX2 hown hK hP hD hS 0 rfl rfl 1 (by decide) (hAW _ q108) (fun _ h9 => h9) rfl (tyX2_ok 1 (by decide)) rfl rfl (Nat.le_of_ble_eq_true rfl) dX2_setUp_7 (fun H locs hP hD hS => ?_)
  have hP : va_P D vwCl [(qc, .inr (2, [.int x, .int y, .int cs.2.2.1, .int cs.2.2.2.1, .int cs.2.2.2.2.1, .int (nI cs.2.2.2.2.2.1), .int (nI cs.2.2.2.2.2.2)]))] H := hP
  have hD : va_D A [(qc, .inr (2, [.int x, .int y, .int cs.2.2.1, .int cs.2.2.2.1, .int cs.2.2.2.2.1, .int (nI cs.2.2.2.2.2.1), .int (nI cs.2.2.2.2.2.2)]))] := hD
  refine lv_aload_n hx hb dX2_setUp_10 rfl (lv_at hl 0 rfl) ?_
  refine lv_iload_n hx hb dX2_setUp_11 rfl (lv_at hl 3 rfl) ?_
  refine va_put (D := D) (ci := 2) (v := .int z) (ty := .int) (C := RX2) (T := TX2) (N := 7) hx hb hAW iwX2 tyX2 tyX2_ok nmX2 hown hK hP hD hS 0 rfl rfl 2 (by decide) (hAW _ q109) (fun _ h9 => h9) rfl (tyX2_ok 2 (by decide)) rfl rfl (Nat.le_of_ble_eq_true rfl) dX2_setUp_12 (fun H locs hP hD hS => ?_)
  have hP : va_P D vwCl [(qc, .inr (2, [.int x, .int y, .int z, .int cs.2.2.2.1, .int cs.2.2.2.2.1, .int (nI cs.2.2.2.2.2.1), .int (nI cs.2.2.2.2.2.2)]))] H := hP
  have hD : va_D A [(qc, .inr (2, [.int x, .int y, .int z, .int cs.2.2.2.1, .int cs.2.2.2.2.1, .int (nI cs.2.2.2.2.2.1), .int (nI cs.2.2.2.2.2.2)]))] := hD
  refine lv_aload_n hx hb dX2_setUp_15 rfl (lv_at hl 0 rfl) ?_
  refine call_Vv (D := D) (rest := []) (ws' := [(qc, .inr (2, [.int ((cs_anew ((x, y, z, cs.2.2.2.1, cs.2.2.2.2.1, cs.2.2.2.2.2.1, cs.2.2.2.2.2.2) : CsS)).1), .int ((cs_anew ((x, y, z, cs.2.2.2.1, cs.2.2.2.2.1, cs.2.2.2.2.2.1, cs.2.2.2.2.2.2) : CsS)).2.1), .int ((cs_anew ((x, y, z, cs.2.2.2.1, cs.2.2.2.2.1, cs.2.2.2.2.2.1, cs.2.2.2.2.2.2) : CsS)).2.2.1), .int ((cs_anew ((x, y, z, cs.2.2.2.1, cs.2.2.2.2.1, cs.2.2.2.2.2.1, cs.2.2.2.2.2.2) : CsS)).2.2.2.1), .int ((cs_anew ((x, y, z, cs.2.2.2.1, cs.2.2.2.2.1, cs.2.2.2.2.2.1, cs.2.2.2.2.2.2) : CsS)).2.2.2.2.1), .int (nI ((cs_anew ((x, y, z, cs.2.2.2.1, cs.2.2.2.2.1, cs.2.2.2.2.2.1, cs.2.2.2.2.2.2) : CsS)).2.2.2.2.2.1)), .int (nI ((cs_anew ((x, y, z, cs.2.2.2.1, cs.2.2.2.2.1, cs.2.2.2.2.2.1, cs.2.2.2.2.2.2) : CsS)).2.2.2.2.2.2))]))]) hx hb hml hown hAW hN (c_X2_beginAnew l D cI cZ qc ((x, y, z, cs.2.2.2.1, cs.2.2.2.2.1, cs.2.2.2.2.2.1, cs.2.2.2.2.2.2) : CsS) ) (cwVA 0 hAW q103 q104 q105 q42 q106 hd_X2_beginAnew (by rw [hR]; exact Nat.le_of_ble_eq_true rfl) (by rw [hR]; exact Nat.le_of_ble_eq_true rfl) rfl rfl) hK hP hD hS hA [0] rfl rfl rfl rfl rfl (ci := 2) (q0 := 0) rfl rfl rfl rfl hl.1 rfl (lv_room (Nat.le_of_ble_eq_true rfl)) dX2_setUp_16 (Nat.zero_le _) (Nat.zero_le _) (fun H locs hP hD hS => ?_)
  exact fin_v hx hb hr hlk hP hS rfl hQ dX2_setUp_19

set_option maxHeartbeats 4000000 in
set_option maxRecDepth 100000 in
theorem c_X2_moveSums (l : Launch) (D : va_G) (cI cZ : ClassId) (qc : Nat) (cs : CsS) (x : Int32) (nu : Nat) : Cv l yX2_moveSums (aw yX2_moveSums cX2_moveSums 3 none) ({ frames := 1, cells := 0, slots := 0, locals := 14 }) D cI cZ [.ref qc, .int x, .int (nI nu)] [(qc, .inr (2, [.int cs.1, .int cs.2.1, .int cs.2.2.1, .int cs.2.2.2.1, .int cs.2.2.2.2.1, .int (nI cs.2.2.2.2.2.1), .int (nI cs.2.2.2.2.2.2)]))] [(qc, .inr (2, [.int ((cs_mv cs x nu).1), .int ((cs_mv cs x nu).2.1), .int ((cs_mv cs x nu).2.2.1), .int ((cs_mv cs x nu).2.2.2.1), .int ((cs_mv cs x nu).2.2.2.2.1), .int (nI ((cs_mv cs x nu).2.2.2.2.2.1)), .int (nI ((cs_mv cs x nu).2.2.2.2.2.2))]))] := by
  refine mk_any (cc := cX2_moveSums) (maxL := 3) (ret := none) (Qc := fun A => va_Qv (fun (_ : Unit) => True) (cb D [(qc, .inr (2, [.int ((cs_mv cs x nu).1), .int ((cs_mv cs x nu).2.1), .int ((cs_mv cs x nu).2.2.1), .int ((cs_mv cs x nu).2.2.2.1), .int ((cs_mv cs x nu).2.2.2.2.1), .int (nI ((cs_mv cs x nu).2.2.2.2.2.1)), .int (nI ((cs_mv cs x nu).2.2.2.2.2.2))]))]) A) (plainFor_of_name (by decide)) (Nat.le_of_ble_eq_true rfl) ?_
  intro p e s m args below meth c A Q R hR hQ hx hb hr hml hAW hown hlk hN hA hP hK hD hS ls hl
  have hl : lv_has ls 3 [(0, .ref qc), (1, .int x), (2, .int (nI nu))] := hl
  refine lv_aload_n hx hb dX2_moveSums_0 rfl (lv_at hl 0 rfl) ?_
  refine va_get (D := D) (ci := 2) (v := .int cs.2.2.2.1) (C := RX2) (T := TX2) (N := 7) hx hb hAW iwX2 hown hK hP 0 rfl rfl 3 (by decide) (hAW _ q110) (fun _ h9 => h9) rfl dX2_moveSums_1 ?_
  refine lv_if_ne (tgt := 12) hx hb dX2_moveSums_4 (by decide) (fun c4 => ?_) (fun c4 => ?_)
  · skip
    refine lv_aload_n hx hb dX2_moveSums_12 rfl (lv_at hl 0 rfl) ?_
    refine va_get (D := D) (ci := 2) (v := .int cs.2.2.2.2.1) (C := RX2) (T := TX2) (N := 7) hx hb hAW iwX2 hown hK hP 0 rfl rfl 4 (by decide) (hAW _ q112) (fun _ h9 => h9) rfl dX2_moveSums_13 ?_
    refine lv_if_ne (tgt := 24) hx hb dX2_moveSums_16 (by decide) (fun c16 => ?_) (fun c16 => ?_)
    · skip
      refine lv_aload_n hx hb dX2_moveSums_24 rfl (lv_at hl 0 rfl) ?_
      refine lv_iconst (v := 0) hx hb dX2_moveSums_25 (by decide) ?_
      refine lv_aload_n hx hb dX2_moveSums_26 rfl (lv_at hl 0 rfl) ?_
      refine va_get (D := D) (ci := 2) (v := .int cs.2.2.2.1) (C := RX2) (T := TX2) (N := 7) hx hb hAW iwX2 hown hK hP 0 rfl rfl 3 (by decide) (hAW _ q110) (fun _ h9 => h9) rfl dX2_moveSums_27 ?_
      refine lv_iload_n hx hb dX2_moveSums_30 rfl (lv_at hl 1 rfl) ?_
      refine lv_iadd hx hb dX2_moveSums_31 ?_
      refine lv_aload_n hx hb dX2_moveSums_32 rfl (lv_at hl 0 rfl) ?_
      refine va_get (D := D) (ci := 2) (v := .int cs.1) (C := RX2) (T := TX2) (N := 7) hx hb hAW iwX2 hown hK hP 0 rfl rfl 0 (by decide) (hAW _ q107) (fun _ h9 => h9) rfl dX2_moveSums_33 ?_
      refine lv_isub hx hb dX2_moveSums_36 ?_
      refine lv_aload_n hx hb dX2_moveSums_37 rfl (lv_at hl 0 rfl) ?_
      refine va_get (D := D) (ci := 2) (v := .int cs.2.1) (C := RX2) (T := TX2) (N := 7) hx hb hAW iwX2 hown hK hP 0 rfl rfl 1 (by decide) (hAW _ q108) (fun _ h9 => h9) rfl dX2_moveSums_38 ?_
      refine lv_isub hx hb dX2_moveSums_41 ?_
      refine va_mmax (x := 0) (y := (((cs.2.2.2.1 + x) - cs.1) - cs.2.1)) hx hb (hml.trans hl.1.symm) hown (hAW _ q576) (hAW _ q577) (hAW _ q55) (hAW _ q578) (by rw [hR]; exact Nat.le_of_ble_eq_true rfl) (by rw [hR]; exact Nat.le_of_ble_eq_true rfl) (Nat.zero_le _) (Nat.zero_le _) dX2_moveSums_42 ?_
      refine va_put (D := D) (ci := 2) (v := .int (if 0 < (((cs.2.2.2.1 + x) - cs.1) - cs.2.1) then (((cs.2.2.2.1 + x) - cs.1) - cs.2.1) else 0)) (ty := .int) (C := RX2) (T := TX2) (N := 7) hx hb hAW iwX2 tyX2 tyX2_ok nmX2 hown hK hP hD hS 0 rfl rfl 3 (by decide) (hAW _ q110) (fun _ h9 => h9) rfl (tyX2_ok 3 (by decide)) rfl rfl (Nat.le_of_ble_eq_true rfl) dX2_moveSums_45 (fun H locs hP hD hS => ?_)
      have hP : va_P D vwCl [(qc, .inr (2, [.int cs.1, .int cs.2.1, .int cs.2.2.1, .int (if 0 < (((cs.2.2.2.1 + x) - cs.1) - cs.2.1) then (((cs.2.2.2.1 + x) - cs.1) - cs.2.1) else 0), .int cs.2.2.2.2.1, .int (nI cs.2.2.2.2.2.1), .int (nI cs.2.2.2.2.2.2)]))] H := hP
      have hD : va_D A [(qc, .inr (2, [.int cs.1, .int cs.2.1, .int cs.2.2.1, .int (if 0 < (((cs.2.2.2.1 + x) - cs.1) - cs.2.1) then (((cs.2.2.2.1 + x) - cs.1) - cs.2.1) else 0), .int cs.2.2.2.2.1, .int (nI cs.2.2.2.2.2.1), .int (nI cs.2.2.2.2.2.2)]))] := hD
      refine lv_aload_n hx hb dX2_moveSums_48 rfl (lv_at hl 0 rfl) ?_
      refine lv_iconst (v := 0) hx hb dX2_moveSums_49 (by decide) ?_
      refine lv_aload_n hx hb dX2_moveSums_50 rfl (lv_at hl 0 rfl) ?_
      refine va_get (D := D) (ci := 2) (v := .int cs.2.2.2.2.1) (C := RX2) (T := TX2) (N := 7) hx hb hAW iwX2 hown hK hP 0 rfl rfl 4 (by decide) (hAW _ q112) (fun _ h9 => h9) rfl dX2_moveSums_51 ?_
      refine lv_aload_n hx hb dX2_moveSums_54 rfl (lv_at hl 0 rfl) ?_
      refine va_get (D := D) (ci := 2) (v := .int cs.1) (C := RX2) (T := TX2) (N := 7) hx hb hAW iwX2 hown hK hP 0 rfl rfl 0 (by decide) (hAW _ q107) (fun _ h9 => h9) rfl dX2_moveSums_55 ?_
      refine lv_iadd hx hb dX2_moveSums_58 ?_
      refine lv_aload_n hx hb dX2_moveSums_59 rfl (lv_at hl 0 rfl) ?_
      refine va_get (D := D) (ci := 2) (v := .int cs.2.1) (C := RX2) (T := TX2) (N := 7) hx hb hAW iwX2 hown hK hP 0 rfl rfl 1 (by decide) (hAW _ q108) (fun _ h9 => h9) rfl dX2_moveSums_60 ?_
      refine lv_isub hx hb dX2_moveSums_63 ?_
      refine lv_iload_n hx hb dX2_moveSums_64 rfl (lv_at hl 1 rfl) ?_
      refine lv_isub hx hb dX2_moveSums_65 ?_
      refine va_mmax (x := 0) (y := (((cs.2.2.2.2.1 + cs.1) - cs.2.1) - x)) hx hb (hml.trans hl.1.symm) hown (hAW _ q576) (hAW _ q577) (hAW _ q55) (hAW _ q578) (by rw [hR]; exact Nat.le_of_ble_eq_true rfl) (by rw [hR]; exact Nat.le_of_ble_eq_true rfl) (Nat.zero_le _) (Nat.zero_le _) dX2_moveSums_66 ?_
      refine va_put (D := D) (ci := 2) (v := .int (if 0 < (((cs.2.2.2.2.1 + cs.1) - cs.2.1) - x) then (((cs.2.2.2.2.1 + cs.1) - cs.2.1) - x) else 0)) (ty := .int) (C := RX2) (T := TX2) (N := 7) hx hb hAW iwX2 tyX2 tyX2_ok nmX2 hown hK hP hD hS 0 rfl rfl 4 (by decide) (hAW _ q112) (fun _ h9 => h9) rfl (tyX2_ok 4 (by decide)) rfl rfl (Nat.le_of_ble_eq_true rfl) dX2_moveSums_69 (fun H locs hP hD hS => ?_)
      have hP : va_P D vwCl [(qc, .inr (2, [.int cs.1, .int cs.2.1, .int cs.2.2.1, .int (if 0 < (((cs.2.2.2.1 + x) - cs.1) - cs.2.1) then (((cs.2.2.2.1 + x) - cs.1) - cs.2.1) else 0), .int (if 0 < (((cs.2.2.2.2.1 + cs.1) - cs.2.1) - x) then (((cs.2.2.2.2.1 + cs.1) - cs.2.1) - x) else 0), .int (nI cs.2.2.2.2.2.1), .int (nI cs.2.2.2.2.2.2)]))] H := hP
      have hD : va_D A [(qc, .inr (2, [.int cs.1, .int cs.2.1, .int cs.2.2.1, .int (if 0 < (((cs.2.2.2.1 + x) - cs.1) - cs.2.1) then (((cs.2.2.2.1 + x) - cs.1) - cs.2.1) else 0), .int (if 0 < (((cs.2.2.2.2.1 + cs.1) - cs.2.1) - x) then (((cs.2.2.2.2.1 + cs.1) - cs.2.1) - x) else 0), .int (nI cs.2.2.2.2.2.1), .int (nI cs.2.2.2.2.2.2)]))] := hD
      exact fin_v hx hb hr hlk hP hS (by simp only [cs_mv, c4, c16, ↓reduceIte]) hQ dX2_moveSums_72
    · skip
      refine lv_aload_n hx hb dX2_moveSums_19 rfl (lv_at hl 0 rfl) ?_
      refine lv_iload_n hx hb dX2_moveSums_20 rfl (lv_at hl 2 rfl) ?_
      refine va_put (D := D) (ci := 2) (v := .int (nI nu)) (ty := .int) (C := RX2) (T := TX2) (N := 7) hx hb hAW iwX2 tyX2 tyX2_ok nmX2 hown hK hP hD hS 0 rfl rfl 6 (by decide) (hAW _ q115) (fun _ h9 => h9) rfl (tyX2_ok 6 (by decide)) rfl rfl (Nat.le_of_ble_eq_true rfl) dX2_moveSums_21 (fun H locs hP hD hS => ?_)
      have hP : va_P D vwCl [(qc, .inr (2, [.int cs.1, .int cs.2.1, .int cs.2.2.1, .int cs.2.2.2.1, .int cs.2.2.2.2.1, .int (nI cs.2.2.2.2.2.1), .int (nI nu)]))] H := hP
      have hD : va_D A [(qc, .inr (2, [.int cs.1, .int cs.2.1, .int cs.2.2.1, .int cs.2.2.2.1, .int cs.2.2.2.2.1, .int (nI cs.2.2.2.2.2.1), .int (nI nu)]))] := hD
      refine lv_aload_n hx hb dX2_moveSums_24 rfl (lv_at hl 0 rfl) ?_
      refine lv_iconst (v := 0) hx hb dX2_moveSums_25 (by decide) ?_
      refine lv_aload_n hx hb dX2_moveSums_26 rfl (lv_at hl 0 rfl) ?_
      refine va_get (D := D) (ci := 2) (v := .int cs.2.2.2.1) (C := RX2) (T := TX2) (N := 7) hx hb hAW iwX2 hown hK hP 0 rfl rfl 3 (by decide) (hAW _ q110) (fun _ h9 => h9) rfl dX2_moveSums_27 ?_
      refine lv_iload_n hx hb dX2_moveSums_30 rfl (lv_at hl 1 rfl) ?_
      refine lv_iadd hx hb dX2_moveSums_31 ?_
      refine lv_aload_n hx hb dX2_moveSums_32 rfl (lv_at hl 0 rfl) ?_
      refine va_get (D := D) (ci := 2) (v := .int cs.1) (C := RX2) (T := TX2) (N := 7) hx hb hAW iwX2 hown hK hP 0 rfl rfl 0 (by decide) (hAW _ q107) (fun _ h9 => h9) rfl dX2_moveSums_33 ?_
      refine lv_isub hx hb dX2_moveSums_36 ?_
      refine lv_aload_n hx hb dX2_moveSums_37 rfl (lv_at hl 0 rfl) ?_
      refine va_get (D := D) (ci := 2) (v := .int cs.2.1) (C := RX2) (T := TX2) (N := 7) hx hb hAW iwX2 hown hK hP 0 rfl rfl 1 (by decide) (hAW _ q108) (fun _ h9 => h9) rfl dX2_moveSums_38 ?_
      refine lv_isub hx hb dX2_moveSums_41 ?_
      refine va_mmax (x := 0) (y := (((cs.2.2.2.1 + x) - cs.1) - cs.2.1)) hx hb (hml.trans hl.1.symm) hown (hAW _ q576) (hAW _ q577) (hAW _ q55) (hAW _ q578) (by rw [hR]; exact Nat.le_of_ble_eq_true rfl) (by rw [hR]; exact Nat.le_of_ble_eq_true rfl) (Nat.zero_le _) (Nat.zero_le _) dX2_moveSums_42 ?_
      refine va_put (D := D) (ci := 2) (v := .int (if 0 < (((cs.2.2.2.1 + x) - cs.1) - cs.2.1) then (((cs.2.2.2.1 + x) - cs.1) - cs.2.1) else 0)) (ty := .int) (C := RX2) (T := TX2) (N := 7) hx hb hAW iwX2 tyX2 tyX2_ok nmX2 hown hK hP hD hS 0 rfl rfl 3 (by decide) (hAW _ q110) (fun _ h9 => h9) rfl (tyX2_ok 3 (by decide)) rfl rfl (Nat.le_of_ble_eq_true rfl) dX2_moveSums_45 (fun H locs hP hD hS => ?_)
      have hP : va_P D vwCl [(qc, .inr (2, [.int cs.1, .int cs.2.1, .int cs.2.2.1, .int (if 0 < (((cs.2.2.2.1 + x) - cs.1) - cs.2.1) then (((cs.2.2.2.1 + x) - cs.1) - cs.2.1) else 0), .int cs.2.2.2.2.1, .int (nI cs.2.2.2.2.2.1), .int (nI nu)]))] H := hP
      have hD : va_D A [(qc, .inr (2, [.int cs.1, .int cs.2.1, .int cs.2.2.1, .int (if 0 < (((cs.2.2.2.1 + x) - cs.1) - cs.2.1) then (((cs.2.2.2.1 + x) - cs.1) - cs.2.1) else 0), .int cs.2.2.2.2.1, .int (nI cs.2.2.2.2.2.1), .int (nI nu)]))] := hD
      refine lv_aload_n hx hb dX2_moveSums_48 rfl (lv_at hl 0 rfl) ?_
      refine lv_iconst (v := 0) hx hb dX2_moveSums_49 (by decide) ?_
      refine lv_aload_n hx hb dX2_moveSums_50 rfl (lv_at hl 0 rfl) ?_
      refine va_get (D := D) (ci := 2) (v := .int cs.2.2.2.2.1) (C := RX2) (T := TX2) (N := 7) hx hb hAW iwX2 hown hK hP 0 rfl rfl 4 (by decide) (hAW _ q112) (fun _ h9 => h9) rfl dX2_moveSums_51 ?_
      refine lv_aload_n hx hb dX2_moveSums_54 rfl (lv_at hl 0 rfl) ?_
      refine va_get (D := D) (ci := 2) (v := .int cs.1) (C := RX2) (T := TX2) (N := 7) hx hb hAW iwX2 hown hK hP 0 rfl rfl 0 (by decide) (hAW _ q107) (fun _ h9 => h9) rfl dX2_moveSums_55 ?_
      refine lv_iadd hx hb dX2_moveSums_58 ?_
      refine lv_aload_n hx hb dX2_moveSums_59 rfl (lv_at hl 0 rfl) ?_
      refine va_get (D := D) (ci := 2) (v := .int cs.2.1) (C := RX2) (T := TX2) (N := 7) hx hb hAW iwX2 hown hK hP 0 rfl rfl 1 (by decide) (hAW _ q108) (fun _ h9 => h9) rfl dX2_moveSums_60 ?_
      refine lv_isub hx hb dX2_moveSums_63 ?_
      refine lv_iload_n hx hb dX2_moveSums_64 rfl (lv_at hl 1 rfl) ?_
      refine lv_isub hx hb dX2_moveSums_65 ?_
      refine va_mmax (x := 0) (y := (((cs.2.2.2.2.1 + cs.1) - cs.2.1) - x)) hx hb (hml.trans hl.1.symm) hown (hAW _ q576) (hAW _ q577) (hAW _ q55) (hAW _ q578) (by rw [hR]; exact Nat.le_of_ble_eq_true rfl) (by rw [hR]; exact Nat.le_of_ble_eq_true rfl) (Nat.zero_le _) (Nat.zero_le _) dX2_moveSums_66 ?_
      refine va_put (D := D) (ci := 2) (v := .int (if 0 < (((cs.2.2.2.2.1 + cs.1) - cs.2.1) - x) then (((cs.2.2.2.2.1 + cs.1) - cs.2.1) - x) else 0)) (ty := .int) (C := RX2) (T := TX2) (N := 7) hx hb hAW iwX2 tyX2 tyX2_ok nmX2 hown hK hP hD hS 0 rfl rfl 4 (by decide) (hAW _ q112) (fun _ h9 => h9) rfl (tyX2_ok 4 (by decide)) rfl rfl (Nat.le_of_ble_eq_true rfl) dX2_moveSums_69 (fun H locs hP hD hS => ?_)
      have hP : va_P D vwCl [(qc, .inr (2, [.int cs.1, .int cs.2.1, .int cs.2.2.1, .int (if 0 < (((cs.2.2.2.1 + x) - cs.1) - cs.2.1) then (((cs.2.2.2.1 + x) - cs.1) - cs.2.1) else 0), .int (if 0 < (((cs.2.2.2.2.1 + cs.1) - cs.2.1) - x) then (((cs.2.2.2.2.1 + cs.1) - cs.2.1) - x) else 0), .int (nI cs.2.2.2.2.2.1), .int (nI nu)]))] H := hP
      have hD : va_D A [(qc, .inr (2, [.int cs.1, .int cs.2.1, .int cs.2.2.1, .int (if 0 < (((cs.2.2.2.1 + x) - cs.1) - cs.2.1) then (((cs.2.2.2.1 + x) - cs.1) - cs.2.1) else 0), .int (if 0 < (((cs.2.2.2.2.1 + cs.1) - cs.2.1) - x) then (((cs.2.2.2.2.1 + cs.1) - cs.2.1) - x) else 0), .int (nI cs.2.2.2.2.2.1), .int (nI nu)]))] := hD
      exact fin_v hx hb hr hlk hP hS (by simp only [cs_mv, c4, c16, ↓reduceIte]) hQ dX2_moveSums_72
  · skip
    refine lv_aload_n hx hb dX2_moveSums_7 rfl (lv_at hl 0 rfl) ?_
    refine lv_iload_n hx hb dX2_moveSums_8 rfl (lv_at hl 2 rfl) ?_
    refine va_put (D := D) (ci := 2) (v := .int (nI nu)) (ty := .int) (C := RX2) (T := TX2) (N := 7) hx hb hAW iwX2 tyX2 tyX2_ok nmX2 hown hK hP hD hS 0 rfl rfl 5 (by decide) (hAW _ q114) (fun _ h9 => h9) rfl (tyX2_ok 5 (by decide)) rfl rfl (Nat.le_of_ble_eq_true rfl) dX2_moveSums_9 (fun H locs hP hD hS => ?_)
    have hP : va_P D vwCl [(qc, .inr (2, [.int cs.1, .int cs.2.1, .int cs.2.2.1, .int cs.2.2.2.1, .int cs.2.2.2.2.1, .int (nI nu), .int (nI cs.2.2.2.2.2.2)]))] H := hP
    have hD : va_D A [(qc, .inr (2, [.int cs.1, .int cs.2.1, .int cs.2.2.1, .int cs.2.2.2.1, .int cs.2.2.2.2.1, .int (nI nu), .int (nI cs.2.2.2.2.2.2)]))] := hD
    refine lv_aload_n hx hb dX2_moveSums_12 rfl (lv_at hl 0 rfl) ?_
    refine va_get (D := D) (ci := 2) (v := .int cs.2.2.2.2.1) (C := RX2) (T := TX2) (N := 7) hx hb hAW iwX2 hown hK hP 0 rfl rfl 4 (by decide) (hAW _ q112) (fun _ h9 => h9) rfl dX2_moveSums_13 ?_
    refine lv_if_ne (tgt := 24) hx hb dX2_moveSums_16 (by decide) (fun c16 => ?_) (fun c16 => ?_)
    · skip
      refine lv_aload_n hx hb dX2_moveSums_24 rfl (lv_at hl 0 rfl) ?_
      refine lv_iconst (v := 0) hx hb dX2_moveSums_25 (by decide) ?_
      refine lv_aload_n hx hb dX2_moveSums_26 rfl (lv_at hl 0 rfl) ?_
      refine va_get (D := D) (ci := 2) (v := .int cs.2.2.2.1) (C := RX2) (T := TX2) (N := 7) hx hb hAW iwX2 hown hK hP 0 rfl rfl 3 (by decide) (hAW _ q110) (fun _ h9 => h9) rfl dX2_moveSums_27 ?_
      refine lv_iload_n hx hb dX2_moveSums_30 rfl (lv_at hl 1 rfl) ?_
      refine lv_iadd hx hb dX2_moveSums_31 ?_
      refine lv_aload_n hx hb dX2_moveSums_32 rfl (lv_at hl 0 rfl) ?_
      refine va_get (D := D) (ci := 2) (v := .int cs.1) (C := RX2) (T := TX2) (N := 7) hx hb hAW iwX2 hown hK hP 0 rfl rfl 0 (by decide) (hAW _ q107) (fun _ h9 => h9) rfl dX2_moveSums_33 ?_
      refine lv_isub hx hb dX2_moveSums_36 ?_
      refine lv_aload_n hx hb dX2_moveSums_37 rfl (lv_at hl 0 rfl) ?_
      refine va_get (D := D) (ci := 2) (v := .int cs.2.1) (C := RX2) (T := TX2) (N := 7) hx hb hAW iwX2 hown hK hP 0 rfl rfl 1 (by decide) (hAW _ q108) (fun _ h9 => h9) rfl dX2_moveSums_38 ?_
      refine lv_isub hx hb dX2_moveSums_41 ?_
      refine va_mmax (x := 0) (y := (((cs.2.2.2.1 + x) - cs.1) - cs.2.1)) hx hb (hml.trans hl.1.symm) hown (hAW _ q576) (hAW _ q577) (hAW _ q55) (hAW _ q578) (by rw [hR]; exact Nat.le_of_ble_eq_true rfl) (by rw [hR]; exact Nat.le_of_ble_eq_true rfl) (Nat.zero_le _) (Nat.zero_le _) dX2_moveSums_42 ?_
      refine va_put (D := D) (ci := 2) (v := .int (if 0 < (((cs.2.2.2.1 + x) - cs.1) - cs.2.1) then (((cs.2.2.2.1 + x) - cs.1) - cs.2.1) else 0)) (ty := .int) (C := RX2) (T := TX2) (N := 7) hx hb hAW iwX2 tyX2 tyX2_ok nmX2 hown hK hP hD hS 0 rfl rfl 3 (by decide) (hAW _ q110) (fun _ h9 => h9) rfl (tyX2_ok 3 (by decide)) rfl rfl (Nat.le_of_ble_eq_true rfl) dX2_moveSums_45 (fun H locs hP hD hS => ?_)
      have hP : va_P D vwCl [(qc, .inr (2, [.int cs.1, .int cs.2.1, .int cs.2.2.1, .int (if 0 < (((cs.2.2.2.1 + x) - cs.1) - cs.2.1) then (((cs.2.2.2.1 + x) - cs.1) - cs.2.1) else 0), .int cs.2.2.2.2.1, .int (nI nu), .int (nI cs.2.2.2.2.2.2)]))] H := hP
      have hD : va_D A [(qc, .inr (2, [.int cs.1, .int cs.2.1, .int cs.2.2.1, .int (if 0 < (((cs.2.2.2.1 + x) - cs.1) - cs.2.1) then (((cs.2.2.2.1 + x) - cs.1) - cs.2.1) else 0), .int cs.2.2.2.2.1, .int (nI nu), .int (nI cs.2.2.2.2.2.2)]))] := hD
      refine lv_aload_n hx hb dX2_moveSums_48 rfl (lv_at hl 0 rfl) ?_
      refine lv_iconst (v := 0) hx hb dX2_moveSums_49 (by decide) ?_
      refine lv_aload_n hx hb dX2_moveSums_50 rfl (lv_at hl 0 rfl) ?_
      refine va_get (D := D) (ci := 2) (v := .int cs.2.2.2.2.1) (C := RX2) (T := TX2) (N := 7) hx hb hAW iwX2 hown hK hP 0 rfl rfl 4 (by decide) (hAW _ q112) (fun _ h9 => h9) rfl dX2_moveSums_51 ?_
      refine lv_aload_n hx hb dX2_moveSums_54 rfl (lv_at hl 0 rfl) ?_
      refine va_get (D := D) (ci := 2) (v := .int cs.1) (C := RX2) (T := TX2) (N := 7) hx hb hAW iwX2 hown hK hP 0 rfl rfl 0 (by decide) (hAW _ q107) (fun _ h9 => h9) rfl dX2_moveSums_55 ?_
      refine lv_iadd hx hb dX2_moveSums_58 ?_
      refine lv_aload_n hx hb dX2_moveSums_59 rfl (lv_at hl 0 rfl) ?_
      refine va_get (D := D) (ci := 2) (v := .int cs.2.1) (C := RX2) (T := TX2) (N := 7) hx hb hAW iwX2 hown hK hP 0 rfl rfl 1 (by decide) (hAW _ q108) (fun _ h9 => h9) rfl dX2_moveSums_60 ?_
      refine lv_isub hx hb dX2_moveSums_63 ?_
      refine lv_iload_n hx hb dX2_moveSums_64 rfl (lv_at hl 1 rfl) ?_
      refine lv_isub hx hb dX2_moveSums_65 ?_
      refine va_mmax (x := 0) (y := (((cs.2.2.2.2.1 + cs.1) - cs.2.1) - x)) hx hb (hml.trans hl.1.symm) hown (hAW _ q576) (hAW _ q577) (hAW _ q55) (hAW _ q578) (by rw [hR]; exact Nat.le_of_ble_eq_true rfl) (by rw [hR]; exact Nat.le_of_ble_eq_true rfl) (Nat.zero_le _) (Nat.zero_le _) dX2_moveSums_66 ?_
      refine va_put (D := D) (ci := 2) (v := .int (if 0 < (((cs.2.2.2.2.1 + cs.1) - cs.2.1) - x) then (((cs.2.2.2.2.1 + cs.1) - cs.2.1) - x) else 0)) (ty := .int) (C := RX2) (T := TX2) (N := 7) hx hb hAW iwX2 tyX2 tyX2_ok nmX2 hown hK hP hD hS 0 rfl rfl 4 (by decide) (hAW _ q112) (fun _ h9 => h9) rfl (tyX2_ok 4 (by decide)) rfl rfl (Nat.le_of_ble_eq_true rfl) dX2_moveSums_69 (fun H locs hP hD hS => ?_)
      have hP : va_P D vwCl [(qc, .inr (2, [.int cs.1, .int cs.2.1, .int cs.2.2.1, .int (if 0 < (((cs.2.2.2.1 + x) - cs.1) - cs.2.1) then (((cs.2.2.2.1 + x) - cs.1) - cs.2.1) else 0), .int (if 0 < (((cs.2.2.2.2.1 + cs.1) - cs.2.1) - x) then (((cs.2.2.2.2.1 + cs.1) - cs.2.1) - x) else 0), .int (nI nu), .int (nI cs.2.2.2.2.2.2)]))] H := hP
      have hD : va_D A [(qc, .inr (2, [.int cs.1, .int cs.2.1, .int cs.2.2.1, .int (if 0 < (((cs.2.2.2.1 + x) - cs.1) - cs.2.1) then (((cs.2.2.2.1 + x) - cs.1) - cs.2.1) else 0), .int (if 0 < (((cs.2.2.2.2.1 + cs.1) - cs.2.1) - x) then (((cs.2.2.2.2.1 + cs.1) - cs.2.1) - x) else 0), .int (nI nu), .int (nI cs.2.2.2.2.2.2)]))] := hD
      exact fin_v hx hb hr hlk hP hS (by simp only [cs_mv, c4, c16, ↓reduceIte]) hQ dX2_moveSums_72
    · skip
      refine lv_aload_n hx hb dX2_moveSums_19 rfl (lv_at hl 0 rfl) ?_
      refine lv_iload_n hx hb dX2_moveSums_20 rfl (lv_at hl 2 rfl) ?_
      refine va_put (D := D) (ci := 2) (v := .int (nI nu)) (ty := .int) (C := RX2) (T := TX2) (N := 7) hx hb hAW iwX2 tyX2 tyX2_ok nmX2 hown hK hP hD hS 0 rfl rfl 6 (by decide) (hAW _ q115) (fun _ h9 => h9) rfl (tyX2_ok 6 (by decide)) rfl rfl (Nat.le_of_ble_eq_true rfl) dX2_moveSums_21 (fun H locs hP hD hS => ?_)
      have hP : va_P D vwCl [(qc, .inr (2, [.int cs.1, .int cs.2.1, .int cs.2.2.1, .int cs.2.2.2.1, .int cs.2.2.2.2.1, .int (nI nu), .int (nI nu)]))] H := hP
      have hD : va_D A [(qc, .inr (2, [.int cs.1, .int cs.2.1, .int cs.2.2.1, .int cs.2.2.2.1, .int cs.2.2.2.2.1, .int (nI nu), .int (nI nu)]))] := hD
      refine lv_aload_n hx hb dX2_moveSums_24 rfl (lv_at hl 0 rfl) ?_
      refine lv_iconst (v := 0) hx hb dX2_moveSums_25 (by decide) ?_
      refine lv_aload_n hx hb dX2_moveSums_26 rfl (lv_at hl 0 rfl) ?_
      refine va_get (D := D) (ci := 2) (v := .int cs.2.2.2.1) (C := RX2) (T := TX2) (N := 7) hx hb hAW iwX2 hown hK hP 0 rfl rfl 3 (by decide) (hAW _ q110) (fun _ h9 => h9) rfl dX2_moveSums_27 ?_
      refine lv_iload_n hx hb dX2_moveSums_30 rfl (lv_at hl 1 rfl) ?_
      refine lv_iadd hx hb dX2_moveSums_31 ?_
      refine lv_aload_n hx hb dX2_moveSums_32 rfl (lv_at hl 0 rfl) ?_
      refine va_get (D := D) (ci := 2) (v := .int cs.1) (C := RX2) (T := TX2) (N := 7) hx hb hAW iwX2 hown hK hP 0 rfl rfl 0 (by decide) (hAW _ q107) (fun _ h9 => h9) rfl dX2_moveSums_33 ?_
      refine lv_isub hx hb dX2_moveSums_36 ?_
      refine lv_aload_n hx hb dX2_moveSums_37 rfl (lv_at hl 0 rfl) ?_
      refine va_get (D := D) (ci := 2) (v := .int cs.2.1) (C := RX2) (T := TX2) (N := 7) hx hb hAW iwX2 hown hK hP 0 rfl rfl 1 (by decide) (hAW _ q108) (fun _ h9 => h9) rfl dX2_moveSums_38 ?_
      refine lv_isub hx hb dX2_moveSums_41 ?_
      refine va_mmax (x := 0) (y := (((cs.2.2.2.1 + x) - cs.1) - cs.2.1)) hx hb (hml.trans hl.1.symm) hown (hAW _ q576) (hAW _ q577) (hAW _ q55) (hAW _ q578) (by rw [hR]; exact Nat.le_of_ble_eq_true rfl) (by rw [hR]; exact Nat.le_of_ble_eq_true rfl) (Nat.zero_le _) (Nat.zero_le _) dX2_moveSums_42 ?_
      refine va_put (D := D) (ci := 2) (v := .int (if 0 < (((cs.2.2.2.1 + x) - cs.1) - cs.2.1) then (((cs.2.2.2.1 + x) - cs.1) - cs.2.1) else 0)) (ty := .int) (C := RX2) (T := TX2) (N := 7) hx hb hAW iwX2 tyX2 tyX2_ok nmX2 hown hK hP hD hS 0 rfl rfl 3 (by decide) (hAW _ q110) (fun _ h9 => h9) rfl (tyX2_ok 3 (by decide)) rfl rfl (Nat.le_of_ble_eq_true rfl) dX2_moveSums_45 (fun H locs hP hD hS => ?_)
      have hP : va_P D vwCl [(qc, .inr (2, [.int cs.1, .int cs.2.1, .int cs.2.2.1, .int (if 0 < (((cs.2.2.2.1 + x) - cs.1) - cs.2.1) then (((cs.2.2.2.1 + x) - cs.1) - cs.2.1) else 0), .int cs.2.2.2.2.1, .int (nI nu), .int (nI nu)]))] H := hP
      have hD : va_D A [(qc, .inr (2, [.int cs.1, .int cs.2.1, .int cs.2.2.1, .int (if 0 < (((cs.2.2.2.1 + x) - cs.1) - cs.2.1) then (((cs.2.2.2.1 + x) - cs.1) - cs.2.1) else 0), .int cs.2.2.2.2.1, .int (nI nu), .int (nI nu)]))] := hD
      refine lv_aload_n hx hb dX2_moveSums_48 rfl (lv_at hl 0 rfl) ?_
      refine lv_iconst (v := 0) hx hb dX2_moveSums_49 (by decide) ?_
      refine lv_aload_n hx hb dX2_moveSums_50 rfl (lv_at hl 0 rfl) ?_
      refine va_get (D := D) (ci := 2) (v := .int cs.2.2.2.2.1) (C := RX2) (T := TX2) (N := 7) hx hb hAW iwX2 hown hK hP 0 rfl rfl 4 (by decide) (hAW _ q112) (fun _ h9 => h9) rfl dX2_moveSums_51 ?_
      refine lv_aload_n hx hb dX2_moveSums_54 rfl (lv_at hl 0 rfl) ?_
      refine va_get (D := D) (ci := 2) (v := .int cs.1) (C := RX2) (T := TX2) (N := 7) hx hb hAW iwX2 hown hK hP 0 rfl rfl 0 (by decide) (hAW _ q107) (fun _ h9 => h9) rfl dX2_moveSums_55 ?_
      refine lv_iadd hx hb dX2_moveSums_58 ?_
      refine lv_aload_n hx hb dX2_moveSums_59 rfl (lv_at hl 0 rfl) ?_
      refine va_get (D := D) (ci := 2) (v := .int cs.2.1) (C := RX2) (T := TX2) (N := 7) hx hb hAW iwX2 hown hK hP 0 rfl rfl 1 (by decide) (hAW _ q108) (fun _ h9 => h9) rfl dX2_moveSums_60 ?_
      refine lv_isub hx hb dX2_moveSums_63 ?_
      refine lv_iload_n hx hb dX2_moveSums_64 rfl (lv_at hl 1 rfl) ?_
      refine lv_isub hx hb dX2_moveSums_65 ?_
      refine va_mmax (x := 0) (y := (((cs.2.2.2.2.1 + cs.1) - cs.2.1) - x)) hx hb (hml.trans hl.1.symm) hown (hAW _ q576) (hAW _ q577) (hAW _ q55) (hAW _ q578) (by rw [hR]; exact Nat.le_of_ble_eq_true rfl) (by rw [hR]; exact Nat.le_of_ble_eq_true rfl) (Nat.zero_le _) (Nat.zero_le _) dX2_moveSums_66 ?_
      refine va_put (D := D) (ci := 2) (v := .int (if 0 < (((cs.2.2.2.2.1 + cs.1) - cs.2.1) - x) then (((cs.2.2.2.2.1 + cs.1) - cs.2.1) - x) else 0)) (ty := .int) (C := RX2) (T := TX2) (N := 7) hx hb hAW iwX2 tyX2 tyX2_ok nmX2 hown hK hP hD hS 0 rfl rfl 4 (by decide) (hAW _ q112) (fun _ h9 => h9) rfl (tyX2_ok 4 (by decide)) rfl rfl (Nat.le_of_ble_eq_true rfl) dX2_moveSums_69 (fun H locs hP hD hS => ?_)
      have hP : va_P D vwCl [(qc, .inr (2, [.int cs.1, .int cs.2.1, .int cs.2.2.1, .int (if 0 < (((cs.2.2.2.1 + x) - cs.1) - cs.2.1) then (((cs.2.2.2.1 + x) - cs.1) - cs.2.1) else 0), .int (if 0 < (((cs.2.2.2.2.1 + cs.1) - cs.2.1) - x) then (((cs.2.2.2.2.1 + cs.1) - cs.2.1) - x) else 0), .int (nI nu), .int (nI nu)]))] H := hP
      have hD : va_D A [(qc, .inr (2, [.int cs.1, .int cs.2.1, .int cs.2.2.1, .int (if 0 < (((cs.2.2.2.1 + x) - cs.1) - cs.2.1) then (((cs.2.2.2.1 + x) - cs.1) - cs.2.1) else 0), .int (if 0 < (((cs.2.2.2.2.1 + cs.1) - cs.2.1) - x) then (((cs.2.2.2.2.1 + cs.1) - cs.2.1) - x) else 0), .int (nI nu), .int (nI nu)]))] := hD
      exact fin_v hx hb hr hlk hP hS (by simp only [cs_mv, c4, c16, ↓reduceIte]) hQ dX2_moveSums_72

set_option maxHeartbeats 4000000 in
set_option maxRecDepth 100000 in
theorem c_X2_watch (l : Launch) (D : va_G) (cI cZ : ClassId) (qc : Nat) (cs : CsS) (qa qk qn qs : Nat) (al : AlS) (x : Int32) (nu : Nat) (h360 : al.2.2.2 + 1 < 360) : Ci l yX2_watch (aw yX2_watch cX2_watch 5 (some .int)) ({ frames := 2, cells := 0, slots := 0, locals := 36 }) D cI cZ [.ref qc, .int x, .int (nI nu), .ref qa] [(qc, .inr (2, [.int cs.1, .int cs.2.1, .int cs.2.2.1, .int cs.2.2.2.1, .int cs.2.2.2.2.1, .int (nI cs.2.2.2.2.2.1), .int (nI cs.2.2.2.2.2.2)])), (qa, .inr (0, [.ref qk, .ref qn, .ref qs, .int (nI al.2.2.2)])), (qk, .inl (cI, 360, .inl (nIf al.1))), (qn, .inl (cI, 360, .inl (nIf al.2.1))), (qs, .inl (cI, 360, .inl (nIf al.2.2.1)))] [(qc, .inr (2, [.int ((cs_end (cs_mv cs x nu)).1), .int ((cs_end (cs_mv cs x nu)).2.1), .int ((cs_end (cs_mv cs x nu)).2.2.1), .int ((cs_end (cs_mv cs x nu)).2.2.2.1), .int ((cs_end (cs_mv cs x nu)).2.2.2.2.1), .int (nI ((cs_end (cs_mv cs x nu)).2.2.2.2.2.1)), .int (nI ((cs_end (cs_mv cs x nu)).2.2.2.2.2.2))])), (qa, .inr (0, [.ref qk, .ref qn, .ref qs, .int (nI ((cs_al (cs_mv cs x nu) al nu).2.2.2))])), (qk, .inl (cI, 360, .inl (nIf ((cs_al (cs_mv cs x nu) al nu).1)))), (qn, .inl (cI, 360, .inl (nIf ((cs_al (cs_mv cs x nu) al nu).2.1)))), (qs, .inl (cI, 360, .inl (nIf ((cs_al (cs_mv cs x nu) al nu).2.2.1))))] (cs_bits (cs_mv cs x nu)) := by
  refine mk_any (cc := cX2_watch) (maxL := 5) (ret := (some .int)) (Qc := fun A => va_Qi (fun rr9 (_ : Unit) => rr9 = cs_bits (cs_mv cs x nu)) (cb D [(qc, .inr (2, [.int ((cs_end (cs_mv cs x nu)).1), .int ((cs_end (cs_mv cs x nu)).2.1), .int ((cs_end (cs_mv cs x nu)).2.2.1), .int ((cs_end (cs_mv cs x nu)).2.2.2.1), .int ((cs_end (cs_mv cs x nu)).2.2.2.2.1), .int (nI ((cs_end (cs_mv cs x nu)).2.2.2.2.2.1)), .int (nI ((cs_end (cs_mv cs x nu)).2.2.2.2.2.2))])), (qa, .inr (0, [.ref qk, .ref qn, .ref qs, .int (nI ((cs_al (cs_mv cs x nu) al nu).2.2.2))])), (qk, .inl (cI, 360, .inl (nIf ((cs_al (cs_mv cs x nu) al nu).1)))), (qn, .inl (cI, 360, .inl (nIf ((cs_al (cs_mv cs x nu) al nu).2.1)))), (qs, .inl (cI, 360, .inl (nIf ((cs_al (cs_mv cs x nu) al nu).2.2.1))))]) A) (plainFor_of_name (by decide)) (Nat.le_of_ble_eq_true rfl) ?_
  intro p e s m args below meth c A Q R hR hQ hx hb hr hml hAW hown hlk hN hA hP hK hD hS ls hl
  have hl : lv_has ls 5 [(0, .ref qc), (1, .int x), (2, .int (nI nu)), (3, .ref qa)] := hl
  refine lv_aload_n hx hb dX2_watch_0 rfl (lv_at hl 0 rfl) ?_
  refine lv_iload_n hx hb dX2_watch_1 rfl (lv_at hl 1 rfl) ?_
  refine lv_iload_n hx hb dX2_watch_2 rfl (lv_at hl 2 rfl) ?_
  refine call_Vv (D := D) (rest := []) (ws' := [(qc, .inr (2, [.int ((cs_mv cs x nu).1), .int ((cs_mv cs x nu).2.1), .int ((cs_mv cs x nu).2.2.1), .int ((cs_mv cs x nu).2.2.2.1), .int ((cs_mv cs x nu).2.2.2.2.1), .int (nI ((cs_mv cs x nu).2.2.2.2.2.1)), .int (nI ((cs_mv cs x nu).2.2.2.2.2.2))])), (qa, .inr (0, [.ref qk, .ref qn, .ref qs, .int (nI al.2.2.2)])), (qk, .inl (cI, 360, .inl (nIf al.1))), (qn, .inl (cI, 360, .inl (nIf al.2.1))), (qs, .inl (cI, 360, .inl (nIf al.2.2.1)))]) hx hb hml hown hAW hN (c_X2_moveSums l D cI cZ qc cs x nu) (cwVA 2 hAW q572 q574 q10 q42 q575 hd_X2_moveSums (by rw [hR]; exact Nat.le_of_ble_eq_true rfl) (by rw [hR]; exact Nat.le_of_ble_eq_true rfl) rfl rfl) hK hP hD hS hA [0] rfl rfl rfl rfl rfl (ci := 2) (q0 := 0) rfl rfl rfl rfl hl.1 rfl (lv_room (Nat.le_of_ble_eq_true rfl)) dX2_watch_3 (Nat.zero_le _) (Nat.zero_le _) (fun H locs hP hD hS => ?_)
  refine lv_iconst (v := 0) hx hb dX2_watch_6 (by decide) ?_
  refine lv_istore (lv' := [(4, .int 0), (0, .ref qc), (1, .int x), (2, .int (nI nu)), (3, .ref qa)]) hx hb dX2_watch_7 hl (by decide) rfl (fun ls hl => ?_)
  refine lv_aload_n hx hb dX2_watch_9 rfl (lv_at hl 1 rfl) ?_
  refine va_get (D := D) (ci := 2) (v := .int ((cs_mv cs x nu).2.2.2.1)) (C := RX2) (T := TX2) (N := 7) hx hb hAW iwX2 hown hK hP 0 rfl rfl 3 (by decide) (hAW _ q110) (fun _ h9 => h9) rfl dX2_watch_10 ?_
  refine lv_aload_n hx hb dX2_watch_13 rfl (lv_at hl 1 rfl) ?_
  refine va_get (D := D) (ci := 2) (v := .int ((cs_mv cs x nu).2.2.1)) (C := RX2) (T := TX2) (N := 7) hx hb hAW iwX2 hown hK hP 0 rfl rfl 2 (by decide) (hAW _ q109) (fun _ h9 => h9) rfl dX2_watch_14 ?_
  refine lv_icmp_le (tgt := 36) hx hb dX2_watch_17 (by decide) (fun c17 => ?_) (fun c17 => ?_)
  · skip
    refine lv_aload_n hx hb dX2_watch_36 rfl (lv_at hl 1 rfl) ?_
    refine va_get (D := D) (ci := 2) (v := .int ((cs_mv cs x nu).2.2.2.2.1)) (C := RX2) (T := TX2) (N := 7) hx hb hAW iwX2 hown hK hP 0 rfl rfl 4 (by decide) (hAW _ q112) (fun _ h9 => h9) rfl dX2_watch_37 ?_
    refine lv_aload_n hx hb dX2_watch_40 rfl (lv_at hl 1 rfl) ?_
    refine va_get (D := D) (ci := 2) (v := .int ((cs_mv cs x nu).2.2.1)) (C := RX2) (T := TX2) (N := 7) hx hb hAW iwX2 hown hK hP 0 rfl rfl 2 (by decide) (hAW _ q109) (fun _ h9 => h9) rfl dX2_watch_41 ?_
    refine lv_icmp_le (tgt := 63) hx hb dX2_watch_44 (by decide) (fun c44 => ?_) (fun c44 => ?_)
    · skip
      refine lv_iload hx hb dX2_watch_63 (lv_at hl 0 rfl) ?_
      refine lv_if_eq (tgt := 72) hx hb dX2_watch_65 (by decide) (fun c65 => ?_) (fun c65 => absurd c65 (by decide))
      refine lv_iload hx hb dX2_watch_72 (lv_at hl 0 rfl) ?_
      exact fin_i (v := 0) hx hb hr hlk hP hS rfl (by simp only [cs_bits, c17, c44, ↓reduceIte]) (by simp only [cs_end, cs_al, c17, c44, ↓reduceIte, and_self, and_true, and_false, true_and, false_and]) hQ dX2_watch_74
    · skip
      refine lv_aload_n hx hb dX2_watch_47 rfl (lv_at hl 4 rfl) ?_
      refine lv_iconst (v := 1) hx hb dX2_watch_48 (by decide) ?_
      refine lv_iload_n hx hb dX2_watch_49 rfl (lv_at hl 3 rfl) ?_
      refine lv_aload_n hx hb dX2_watch_50 rfl (lv_at hl 1 rfl) ?_
      refine va_get (D := D) (ci := 2) (v := .int (nI ((cs_mv cs x nu).2.2.2.2.2.2))) (C := RX2) (T := TX2) (N := 7) hx hb hAW iwX2 hown hK hP 0 rfl rfl 6 (by decide) (hAW _ q115) (fun _ h9 => h9) rfl dX2_watch_51 ?_
      refine call_Vv (D := D) (rest := []) (ws' := [(qc, .inr (2, [.int ((cs_mv cs x nu).1), .int ((cs_mv cs x nu).2.1), .int ((cs_mv cs x nu).2.2.1), .int ((cs_mv cs x nu).2.2.2.1), .int ((cs_mv cs x nu).2.2.2.2.1), .int (nI ((cs_mv cs x nu).2.2.2.2.2.1)), .int (nI ((cs_mv cs x nu).2.2.2.2.2.2))])), (qa, .inr (0, [.ref qk, .ref qn, .ref qs, .int (nI ((al_raise al 1 nu ((cs_mv cs x nu).2.2.2.2.2.2)).2.2.2))])), (qk, .inl (cI, 360, .inl (nIf ((al_raise al 1 nu ((cs_mv cs x nu).2.2.2.2.2.2)).1)))), (qn, .inl (cI, 360, .inl (nIf ((al_raise al 1 nu ((cs_mv cs x nu).2.2.2.2.2.2)).2.1)))), (qs, .inl (cI, 360, .inl (nIf ((al_raise al 1 nu ((cs_mv cs x nu).2.2.2.2.2.2)).2.2.1))))]) hx hb hml hown hAW hN (c_X0_raise l D cI cZ qa qk qn qs al 1 nu ((cs_mv cs x nu).2.2.2.2.2.2) (by omega)) (cwVA 3 hAW q579 q580 q581 q41 q582 hd_X0_raise (by rw [hR]; exact Nat.le_of_ble_eq_true rfl) (by rw [hR]; exact Nat.le_of_ble_eq_true rfl) rfl rfl) hK hP hD hS hA [1, 2, 3, 4] rfl rfl rfl rfl rfl (ci := 0) (q0 := 1) rfl rfl rfl rfl hl.1 rfl (lv_room (Nat.le_of_ble_eq_true rfl)) dX2_watch_54 (Nat.zero_le _) (Nat.zero_le _) (fun H locs hP hD hS => ?_)
      refine lv_iload hx hb dX2_watch_57 (lv_at hl 0 rfl) ?_
      refine lv_iconst (v := 2) hx hb dX2_watch_59 (by decide) ?_
      refine lv_ior hx hb dX2_watch_60 ?_
      refine lv_topi (fun y9 ey9 => ?_)
      have ey9 : y9 = 2 := ey9.trans (by decide)
      subst ey9
      refine lv_istore (lv' := [(4, .int 2), (0, .ref qc), (1, .int x), (2, .int (nI nu)), (3, .ref qa)]) hx hb dX2_watch_61 hl (by decide) rfl (fun ls hl => ?_)
      refine lv_iload hx hb dX2_watch_63 (lv_at hl 0 rfl) ?_
      refine lv_if_eq (tgt := 72) hx hb dX2_watch_65 (by decide) (fun c65 => absurd c65 (by decide)) (fun c65 => ?_)
      refine lv_aload_n hx hb dX2_watch_68 rfl (lv_at hl 1 rfl) ?_
      refine call_Vv (D := D) (rest := []) (ws' := [(qc, .inr (2, [.int ((cs_anew (cs_mv cs x nu)).1), .int ((cs_anew (cs_mv cs x nu)).2.1), .int ((cs_anew (cs_mv cs x nu)).2.2.1), .int ((cs_anew (cs_mv cs x nu)).2.2.2.1), .int ((cs_anew (cs_mv cs x nu)).2.2.2.2.1), .int (nI ((cs_anew (cs_mv cs x nu)).2.2.2.2.2.1)), .int (nI ((cs_anew (cs_mv cs x nu)).2.2.2.2.2.2))])), (qa, .inr (0, [.ref qk, .ref qn, .ref qs, .int (nI ((al_raise al 1 nu ((cs_mv cs x nu).2.2.2.2.2.2)).2.2.2))])), (qk, .inl (cI, 360, .inl (nIf ((al_raise al 1 nu ((cs_mv cs x nu).2.2.2.2.2.2)).1)))), (qn, .inl (cI, 360, .inl (nIf ((al_raise al 1 nu ((cs_mv cs x nu).2.2.2.2.2.2)).2.1)))), (qs, .inl (cI, 360, .inl (nIf ((al_raise al 1 nu ((cs_mv cs x nu).2.2.2.2.2.2)).2.2.1))))]) hx hb hml hown hAW hN (c_X2_beginAnew l D cI cZ qc (cs_mv cs x nu) ) (cwVA 0 hAW q103 q104 q105 q42 q106 hd_X2_beginAnew (by rw [hR]; exact Nat.le_of_ble_eq_true rfl) (by rw [hR]; exact Nat.le_of_ble_eq_true rfl) rfl rfl) hK hP hD hS hA [0] rfl rfl rfl rfl rfl (ci := 2) (q0 := 0) rfl rfl rfl rfl hl.1 rfl (lv_room (Nat.le_of_ble_eq_true rfl)) dX2_watch_69 (Nat.zero_le _) (Nat.zero_le _) (fun H locs hP hD hS => ?_)
      refine lv_iload hx hb dX2_watch_72 (lv_at hl 0 rfl) ?_
      exact fin_i (v := 2) hx hb hr hlk hP hS rfl (by simp only [cs_bits, c17, c44, ↓reduceIte]) (by simp only [cs_end, cs_al, c17, c44, ↓reduceIte, and_self, and_true, and_false, true_and, false_and]) hQ dX2_watch_74
  · skip
    refine lv_aload_n hx hb dX2_watch_20 rfl (lv_at hl 4 rfl) ?_
    refine lv_iconst (v := 0) hx hb dX2_watch_21 (by decide) ?_
    refine lv_iload_n hx hb dX2_watch_22 rfl (lv_at hl 3 rfl) ?_
    refine lv_aload_n hx hb dX2_watch_23 rfl (lv_at hl 1 rfl) ?_
    refine va_get (D := D) (ci := 2) (v := .int (nI ((cs_mv cs x nu).2.2.2.2.2.1))) (C := RX2) (T := TX2) (N := 7) hx hb hAW iwX2 hown hK hP 0 rfl rfl 5 (by decide) (hAW _ q114) (fun _ h9 => h9) rfl dX2_watch_24 ?_
    refine call_Vv (D := D) (rest := []) (ws' := [(qc, .inr (2, [.int ((cs_mv cs x nu).1), .int ((cs_mv cs x nu).2.1), .int ((cs_mv cs x nu).2.2.1), .int ((cs_mv cs x nu).2.2.2.1), .int ((cs_mv cs x nu).2.2.2.2.1), .int (nI ((cs_mv cs x nu).2.2.2.2.2.1)), .int (nI ((cs_mv cs x nu).2.2.2.2.2.2))])), (qa, .inr (0, [.ref qk, .ref qn, .ref qs, .int (nI ((al_raise al 0 nu ((cs_mv cs x nu).2.2.2.2.2.1)).2.2.2))])), (qk, .inl (cI, 360, .inl (nIf ((al_raise al 0 nu ((cs_mv cs x nu).2.2.2.2.2.1)).1)))), (qn, .inl (cI, 360, .inl (nIf ((al_raise al 0 nu ((cs_mv cs x nu).2.2.2.2.2.1)).2.1)))), (qs, .inl (cI, 360, .inl (nIf ((al_raise al 0 nu ((cs_mv cs x nu).2.2.2.2.2.1)).2.2.1))))]) hx hb hml hown hAW hN (c_X0_raise l D cI cZ qa qk qn qs al 0 nu ((cs_mv cs x nu).2.2.2.2.2.1) (by omega)) (cwVA 3 hAW q579 q580 q581 q41 q582 hd_X0_raise (by rw [hR]; exact Nat.le_of_ble_eq_true rfl) (by rw [hR]; exact Nat.le_of_ble_eq_true rfl) rfl rfl) hK hP hD hS hA [1, 2, 3, 4] rfl rfl rfl rfl rfl (ci := 0) (q0 := 1) rfl rfl rfl rfl hl.1 rfl (lv_room (Nat.le_of_ble_eq_true rfl)) dX2_watch_27 (Nat.zero_le _) (Nat.zero_le _) (fun H locs hP hD hS => ?_)
    refine lv_iload hx hb dX2_watch_30 (lv_at hl 0 rfl) ?_
    refine lv_iconst (v := 1) hx hb dX2_watch_32 (by decide) ?_
    refine lv_ior hx hb dX2_watch_33 ?_
    refine lv_topi (fun y9 ey9 => ?_)
    have ey9 : y9 = 1 := ey9.trans (by decide)
    subst ey9
    refine lv_istore (lv' := [(4, .int 1), (0, .ref qc), (1, .int x), (2, .int (nI nu)), (3, .ref qa)]) hx hb dX2_watch_34 hl (by decide) rfl (fun ls hl => ?_)
    refine lv_aload_n hx hb dX2_watch_36 rfl (lv_at hl 1 rfl) ?_
    refine va_get (D := D) (ci := 2) (v := .int ((cs_mv cs x nu).2.2.2.2.1)) (C := RX2) (T := TX2) (N := 7) hx hb hAW iwX2 hown hK hP 0 rfl rfl 4 (by decide) (hAW _ q112) (fun _ h9 => h9) rfl dX2_watch_37 ?_
    refine lv_aload_n hx hb dX2_watch_40 rfl (lv_at hl 1 rfl) ?_
    refine va_get (D := D) (ci := 2) (v := .int ((cs_mv cs x nu).2.2.1)) (C := RX2) (T := TX2) (N := 7) hx hb hAW iwX2 hown hK hP 0 rfl rfl 2 (by decide) (hAW _ q109) (fun _ h9 => h9) rfl dX2_watch_41 ?_
    refine lv_icmp_le (tgt := 63) hx hb dX2_watch_44 (by decide) (fun c44 => ?_) (fun c44 => ?_)
    · skip
      refine lv_iload hx hb dX2_watch_63 (lv_at hl 0 rfl) ?_
      refine lv_if_eq (tgt := 72) hx hb dX2_watch_65 (by decide) (fun c65 => absurd c65 (by decide)) (fun c65 => ?_)
      refine lv_aload_n hx hb dX2_watch_68 rfl (lv_at hl 1 rfl) ?_
      refine call_Vv (D := D) (rest := []) (ws' := [(qc, .inr (2, [.int ((cs_anew (cs_mv cs x nu)).1), .int ((cs_anew (cs_mv cs x nu)).2.1), .int ((cs_anew (cs_mv cs x nu)).2.2.1), .int ((cs_anew (cs_mv cs x nu)).2.2.2.1), .int ((cs_anew (cs_mv cs x nu)).2.2.2.2.1), .int (nI ((cs_anew (cs_mv cs x nu)).2.2.2.2.2.1)), .int (nI ((cs_anew (cs_mv cs x nu)).2.2.2.2.2.2))])), (qa, .inr (0, [.ref qk, .ref qn, .ref qs, .int (nI ((al_raise al 0 nu ((cs_mv cs x nu).2.2.2.2.2.1)).2.2.2))])), (qk, .inl (cI, 360, .inl (nIf ((al_raise al 0 nu ((cs_mv cs x nu).2.2.2.2.2.1)).1)))), (qn, .inl (cI, 360, .inl (nIf ((al_raise al 0 nu ((cs_mv cs x nu).2.2.2.2.2.1)).2.1)))), (qs, .inl (cI, 360, .inl (nIf ((al_raise al 0 nu ((cs_mv cs x nu).2.2.2.2.2.1)).2.2.1))))]) hx hb hml hown hAW hN (c_X2_beginAnew l D cI cZ qc (cs_mv cs x nu) ) (cwVA 0 hAW q103 q104 q105 q42 q106 hd_X2_beginAnew (by rw [hR]; exact Nat.le_of_ble_eq_true rfl) (by rw [hR]; exact Nat.le_of_ble_eq_true rfl) rfl rfl) hK hP hD hS hA [0] rfl rfl rfl rfl rfl (ci := 2) (q0 := 0) rfl rfl rfl rfl hl.1 rfl (lv_room (Nat.le_of_ble_eq_true rfl)) dX2_watch_69 (Nat.zero_le _) (Nat.zero_le _) (fun H locs hP hD hS => ?_)
      refine lv_iload hx hb dX2_watch_72 (lv_at hl 0 rfl) ?_
      exact fin_i (v := 1) hx hb hr hlk hP hS rfl (by simp only [cs_bits, c17, c44, ↓reduceIte]) (by simp only [cs_end, cs_al, c17, c44, ↓reduceIte, and_self, and_true, and_false, true_and, false_and]) hQ dX2_watch_74
    · skip
      refine lv_aload_n hx hb dX2_watch_47 rfl (lv_at hl 4 rfl) ?_
      refine lv_iconst (v := 1) hx hb dX2_watch_48 (by decide) ?_
      refine lv_iload_n hx hb dX2_watch_49 rfl (lv_at hl 3 rfl) ?_
      refine lv_aload_n hx hb dX2_watch_50 rfl (lv_at hl 1 rfl) ?_
      refine va_get (D := D) (ci := 2) (v := .int (nI ((cs_mv cs x nu).2.2.2.2.2.2))) (C := RX2) (T := TX2) (N := 7) hx hb hAW iwX2 hown hK hP 0 rfl rfl 6 (by decide) (hAW _ q115) (fun _ h9 => h9) rfl dX2_watch_51 ?_
      refine call_Vv (D := D) (rest := []) (ws' := [(qc, .inr (2, [.int ((cs_mv cs x nu).1), .int ((cs_mv cs x nu).2.1), .int ((cs_mv cs x nu).2.2.1), .int ((cs_mv cs x nu).2.2.2.1), .int ((cs_mv cs x nu).2.2.2.2.1), .int (nI ((cs_mv cs x nu).2.2.2.2.2.1)), .int (nI ((cs_mv cs x nu).2.2.2.2.2.2))])), (qa, .inr (0, [.ref qk, .ref qn, .ref qs, .int (nI ((al_raise (al_raise al 0 nu ((cs_mv cs x nu).2.2.2.2.2.1)) 1 nu ((cs_mv cs x nu).2.2.2.2.2.2)).2.2.2))])), (qk, .inl (cI, 360, .inl (nIf ((al_raise (al_raise al 0 nu ((cs_mv cs x nu).2.2.2.2.2.1)) 1 nu ((cs_mv cs x nu).2.2.2.2.2.2)).1)))), (qn, .inl (cI, 360, .inl (nIf ((al_raise (al_raise al 0 nu ((cs_mv cs x nu).2.2.2.2.2.1)) 1 nu ((cs_mv cs x nu).2.2.2.2.2.2)).2.1)))), (qs, .inl (cI, 360, .inl (nIf ((al_raise (al_raise al 0 nu ((cs_mv cs x nu).2.2.2.2.2.1)) 1 nu ((cs_mv cs x nu).2.2.2.2.2.2)).2.2.1))))]) hx hb hml hown hAW hN (c_X0_raise l D cI cZ qa qk qn qs (al_raise al 0 nu ((cs_mv cs x nu).2.2.2.2.2.1)) 1 nu ((cs_mv cs x nu).2.2.2.2.2.2) (by omega)) (cwVA 3 hAW q579 q580 q581 q41 q582 hd_X0_raise (by rw [hR]; exact Nat.le_of_ble_eq_true rfl) (by rw [hR]; exact Nat.le_of_ble_eq_true rfl) rfl rfl) hK hP hD hS hA [1, 2, 3, 4] rfl rfl rfl rfl rfl (ci := 0) (q0 := 1) rfl rfl rfl rfl hl.1 rfl (lv_room (Nat.le_of_ble_eq_true rfl)) dX2_watch_54 (Nat.zero_le _) (Nat.zero_le _) (fun H locs hP hD hS => ?_)
      refine lv_iload hx hb dX2_watch_57 (lv_at hl 0 rfl) ?_
      refine lv_iconst (v := 2) hx hb dX2_watch_59 (by decide) ?_
      refine lv_ior hx hb dX2_watch_60 ?_
      refine lv_topi (fun y9 ey9 => ?_)
      have ey9 : y9 = 3 := ey9.trans (by decide)
      subst ey9
      refine lv_istore (lv' := [(4, .int 3), (0, .ref qc), (1, .int x), (2, .int (nI nu)), (3, .ref qa)]) hx hb dX2_watch_61 hl (by decide) rfl (fun ls hl => ?_)
      refine lv_iload hx hb dX2_watch_63 (lv_at hl 0 rfl) ?_
      refine lv_if_eq (tgt := 72) hx hb dX2_watch_65 (by decide) (fun c65 => absurd c65 (by decide)) (fun c65 => ?_)
      refine lv_aload_n hx hb dX2_watch_68 rfl (lv_at hl 1 rfl) ?_
      refine call_Vv (D := D) (rest := []) (ws' := [(qc, .inr (2, [.int ((cs_anew (cs_mv cs x nu)).1), .int ((cs_anew (cs_mv cs x nu)).2.1), .int ((cs_anew (cs_mv cs x nu)).2.2.1), .int ((cs_anew (cs_mv cs x nu)).2.2.2.1), .int ((cs_anew (cs_mv cs x nu)).2.2.2.2.1), .int (nI ((cs_anew (cs_mv cs x nu)).2.2.2.2.2.1)), .int (nI ((cs_anew (cs_mv cs x nu)).2.2.2.2.2.2))])), (qa, .inr (0, [.ref qk, .ref qn, .ref qs, .int (nI ((al_raise (al_raise al 0 nu ((cs_mv cs x nu).2.2.2.2.2.1)) 1 nu ((cs_mv cs x nu).2.2.2.2.2.2)).2.2.2))])), (qk, .inl (cI, 360, .inl (nIf ((al_raise (al_raise al 0 nu ((cs_mv cs x nu).2.2.2.2.2.1)) 1 nu ((cs_mv cs x nu).2.2.2.2.2.2)).1)))), (qn, .inl (cI, 360, .inl (nIf ((al_raise (al_raise al 0 nu ((cs_mv cs x nu).2.2.2.2.2.1)) 1 nu ((cs_mv cs x nu).2.2.2.2.2.2)).2.1)))), (qs, .inl (cI, 360, .inl (nIf ((al_raise (al_raise al 0 nu ((cs_mv cs x nu).2.2.2.2.2.1)) 1 nu ((cs_mv cs x nu).2.2.2.2.2.2)).2.2.1))))]) hx hb hml hown hAW hN (c_X2_beginAnew l D cI cZ qc (cs_mv cs x nu) ) (cwVA 0 hAW q103 q104 q105 q42 q106 hd_X2_beginAnew (by rw [hR]; exact Nat.le_of_ble_eq_true rfl) (by rw [hR]; exact Nat.le_of_ble_eq_true rfl) rfl rfl) hK hP hD hS hA [0] rfl rfl rfl rfl rfl (ci := 2) (q0 := 0) rfl rfl rfl rfl hl.1 rfl (lv_room (Nat.le_of_ble_eq_true rfl)) dX2_watch_69 (Nat.zero_le _) (Nat.zero_le _) (fun H locs hP hD hS => ?_)
      refine lv_iload hx hb dX2_watch_72 (lv_at hl 0 rfl) ?_
      exact fin_i (v := 3) hx hb hr hlk hP hS rfl (by simp only [cs_bits, c17, c44, ↓reduceIte]) (by simp only [cs_end, cs_al, c17, c44, ↓reduceIte, and_self, and_true, and_false, true_and, false_and]) hQ dX2_watch_74

set_option maxHeartbeats 4000000 in
set_option maxRecDepth 100000 in
theorem c_J9_floorDiv_7cf53 (l : Launch) (D : va_G) (cI cZ : ClassId) (x y : Int32) (hy : ¬ y = 0) : Ci l yJ9_floorDiv_7cf53 (aw yJ9_floorDiv_7cf53 cJ9_floorDiv_7cf53 3 (some .int)) ({ frames := 0, cells := 0, slots := 0, locals := 0 }) D cI cZ [.int x, .int y] [] [] (jfd x y) := by
  refine mk_any (cc := cJ9_floorDiv_7cf53) (maxL := 3) (ret := (some .int)) (Qc := fun A => va_Qi (fun rr9 (_ : Unit) => rr9 = jfd x y) (cb D []) A) (by decide +kernel) (Nat.le_of_ble_eq_true rfl) ?_
  intro p e s m args below meth c A Q R hR hQ hx hb hr hml hAW hown hlk hN hA hP hK hD hS ls hl
  have hl : lv_has ls 3 [(0, .int x), (1, .int y)] := hl
  refine lv_iload_n hx hb dJ9_floorDiv_7cf53_0 rfl (lv_at hl 0 rfl) ?_
  refine lv_iload_n hx hb dJ9_floorDiv_7cf53_1 rfl (lv_at hl 1 rfl) ?_
  refine lv_idiv hx hb dJ9_floorDiv_7cf53_2 hy ?_
  refine lv_istore_n (lv' := [(2, .int (x / y)), (0, .int x), (1, .int y)]) hx hb dJ9_floorDiv_7cf53_3 rfl hl (by decide) rfl (fun ls hl => ?_)
  refine lv_iload_n hx hb dJ9_floorDiv_7cf53_4 rfl (lv_at hl 1 rfl) ?_
  refine lv_iload_n hx hb dJ9_floorDiv_7cf53_5 rfl (lv_at hl 2 rfl) ?_
  refine lv_ixor hx hb dJ9_floorDiv_7cf53_6 ?_
  refine lv_if_ge (tgt := 21) hx hb dJ9_floorDiv_7cf53_7 (by decide) (fun c7 => ?_) (fun c7 => ?_)
  · skip
    refine lv_iload_n hx hb dJ9_floorDiv_7cf53_21 rfl (lv_at hl 0 rfl) ?_
    exact fin_i (v := (x / y)) hx hb hr hlk hP hS rfl (by simp only [jfd, c7, ↓reduceIte]) rfl hQ dJ9_floorDiv_7cf53_22
  · skip
    refine lv_iload_n hx hb dJ9_floorDiv_7cf53_10 rfl (lv_at hl 0 rfl) ?_
    refine lv_iload_n hx hb dJ9_floorDiv_7cf53_11 rfl (lv_at hl 2 rfl) ?_
    refine lv_imul hx hb dJ9_floorDiv_7cf53_12 ?_
    refine lv_iload_n hx hb dJ9_floorDiv_7cf53_13 rfl (lv_at hl 1 rfl) ?_
    refine lv_icmp_eq (tgt := 21) hx hb dJ9_floorDiv_7cf53_14 (by decide) (fun c14 => ?_) (fun c14 => ?_)
    · skip
      refine lv_iload_n hx hb dJ9_floorDiv_7cf53_21 rfl (lv_at hl 0 rfl) ?_
      exact fin_i (v := (x / y)) hx hb hr hlk hP hS rfl (by simp only [jfd, c7, c14, ↓reduceIte]) rfl hQ dJ9_floorDiv_7cf53_22
    · skip
      refine lv_iload_n hx hb dJ9_floorDiv_7cf53_17 rfl (lv_at hl 0 rfl) ?_
      refine lv_iconst (v := 1) hx hb dJ9_floorDiv_7cf53_18 (by decide) ?_
      refine lv_isub hx hb dJ9_floorDiv_7cf53_19 ?_
      exact fin_i (v := ((x / y) - 1)) hx hb hr hlk hP hS rfl (by simp only [jfd, c7, c14, ↓reduceIte]) rfl hQ dJ9_floorDiv_7cf53_20

set_option maxHeartbeats 4000000 in
set_option maxRecDepth 100000 in
theorem c_X6_beginAnew (l : Launch) (D : va_G) (cI cZ : ClassId) (qh : Nat) (ph : PhS) : Cv l yX6_beginAnew (aw yX6_beginAnew cX6_beginAnew 1 none) ({ frames := 0, cells := 0, slots := 0, locals := 0 }) D cI cZ [.ref qh] [(qh, .inr (5, [.int ph.1, .int ph.2.1, .int ph.2.2.1, .int (nI ph.2.2.2.1), .int ph.2.2.2.2.1, .int ph.2.2.2.2.2.1, .int ph.2.2.2.2.2.2.1, .int (nI ph.2.2.2.2.2.2.2)]))] [(qh, .inr (5, [.int ((ph_anew ph).1), .int ((ph_anew ph).2.1), .int ((ph_anew ph).2.2.1), .int (nI ((ph_anew ph).2.2.2.1)), .int ((ph_anew ph).2.2.2.2.1), .int ((ph_anew ph).2.2.2.2.2.1), .int ((ph_anew ph).2.2.2.2.2.2.1), .int (nI ((ph_anew ph).2.2.2.2.2.2.2))]))] := by
  refine mk_any (cc := cX6_beginAnew) (maxL := 1) (ret := none) (Qc := fun A => va_Qv (fun (_ : Unit) => True) (cb D [(qh, .inr (5, [.int ((ph_anew ph).1), .int ((ph_anew ph).2.1), .int ((ph_anew ph).2.2.1), .int (nI ((ph_anew ph).2.2.2.1)), .int ((ph_anew ph).2.2.2.2.1), .int ((ph_anew ph).2.2.2.2.2.1), .int ((ph_anew ph).2.2.2.2.2.2.1), .int (nI ((ph_anew ph).2.2.2.2.2.2.2))]))]) A) (plainFor_of_name (by decide)) (Nat.le_of_ble_eq_true rfl) ?_
  intro p e s m args below meth c A Q R hR hQ hx hb hr hml hAW hown hlk hN hA hP hK hD hS ls hl
  have hl : lv_has ls 1 [(0, .ref qh)] := hl
  refine lv_aload_n hx hb dX6_beginAnew_0 rfl (lv_at hl 0 rfl) ?_
  refine lv_iconst (v := 0) hx hb dX6_beginAnew_1 (by decide) ?_
  refine va_put (D := D) (ci := 5) (v := .int 0) (ty := .int) (C := RX6) (T := TX6) (N := 8) hx hb hAW iwX6 tyX6 tyX6_ok nmX6 hown hK hP hD hS 0 rfl rfl 3 (by decide) (hAW _ q148) (fun _ h9 => h9) rfl (tyX6_ok 3 (by decide)) rfl rfl (Nat.le_of_ble_eq_true rfl) dX6_beginAnew_2 (fun H locs hP hD hS => ?_)
  have hP : va_P D vwCl [(qh, .inr (5, [.int ph.1, .int ph.2.1, .int ph.2.2.1, .int 0, .int ph.2.2.2.2.1, .int ph.2.2.2.2.2.1, .int ph.2.2.2.2.2.2.1, .int (nI ph.2.2.2.2.2.2.2)]))] H := hP
  have hD : va_D A [(qh, .inr (5, [.int ph.1, .int ph.2.1, .int ph.2.2.1, .int 0, .int ph.2.2.2.2.1, .int ph.2.2.2.2.2.1, .int ph.2.2.2.2.2.2.1, .int (nI ph.2.2.2.2.2.2.2)]))] := hD
  refine lv_aload_n hx hb dX6_beginAnew_5 rfl (lv_at hl 0 rfl) ?_
  refine lv_iconst (v := 0) hx hb dX6_beginAnew_6 (by decide) ?_
  refine va_put (D := D) (ci := 5) (v := .int 0) (ty := .int) (C := RX6) (T := TX6) (N := 8) hx hb hAW iwX6 tyX6 tyX6_ok nmX6 hown hK hP hD hS 0 rfl rfl 4 (by decide) (hAW _ q149) (fun _ h9 => h9) rfl (tyX6_ok 4 (by decide)) rfl rfl (Nat.le_of_ble_eq_true rfl) dX6_beginAnew_7 (fun H locs hP hD hS => ?_)
  have hP : va_P D vwCl [(qh, .inr (5, [.int ph.1, .int ph.2.1, .int ph.2.2.1, .int 0, .int 0, .int ph.2.2.2.2.2.1, .int ph.2.2.2.2.2.2.1, .int (nI ph.2.2.2.2.2.2.2)]))] H := hP
  have hD : va_D A [(qh, .inr (5, [.int ph.1, .int ph.2.1, .int ph.2.2.1, .int 0, .int 0, .int ph.2.2.2.2.2.1, .int ph.2.2.2.2.2.2.1, .int (nI ph.2.2.2.2.2.2.2)]))] := hD
  refine lv_aload_n hx hb dX6_beginAnew_10 rfl (lv_at hl 0 rfl) ?_
  refine lv_iconst (v := 0) hx hb dX6_beginAnew_11 (by decide) ?_
  refine va_put (D := D) (ci := 5) (v := .int 0) (ty := .int) (C := RX6) (T := TX6) (N := 8) hx hb hAW iwX6 tyX6 tyX6_ok nmX6 hown hK hP hD hS 0 rfl rfl 5 (by decide) (hAW _ q150) (fun _ h9 => h9) rfl (tyX6_ok 5 (by decide)) rfl rfl (Nat.le_of_ble_eq_true rfl) dX6_beginAnew_12 (fun H locs hP hD hS => ?_)
  have hP : va_P D vwCl [(qh, .inr (5, [.int ph.1, .int ph.2.1, .int ph.2.2.1, .int 0, .int 0, .int 0, .int ph.2.2.2.2.2.2.1, .int (nI ph.2.2.2.2.2.2.2)]))] H := hP
  have hD : va_D A [(qh, .inr (5, [.int ph.1, .int ph.2.1, .int ph.2.2.1, .int 0, .int 0, .int 0, .int ph.2.2.2.2.2.2.1, .int (nI ph.2.2.2.2.2.2.2)]))] := hD
  refine lv_aload_n hx hb dX6_beginAnew_15 rfl (lv_at hl 0 rfl) ?_
  refine lv_iconst (v := 0) hx hb dX6_beginAnew_16 (by decide) ?_
  refine va_put (D := D) (ci := 5) (v := .int 0) (ty := .int) (C := RX6) (T := TX6) (N := 8) hx hb hAW iwX6 tyX6 tyX6_ok nmX6 hown hK hP hD hS 0 rfl rfl 6 (by decide) (hAW _ q152) (fun _ h9 => h9) rfl (tyX6_ok 6 (by decide)) rfl rfl (Nat.le_of_ble_eq_true rfl) dX6_beginAnew_17 (fun H locs hP hD hS => ?_)
  have hP : va_P D vwCl [(qh, .inr (5, [.int ph.1, .int ph.2.1, .int ph.2.2.1, .int 0, .int 0, .int 0, .int 0, .int (nI ph.2.2.2.2.2.2.2)]))] H := hP
  have hD : va_D A [(qh, .inr (5, [.int ph.1, .int ph.2.1, .int ph.2.2.1, .int 0, .int 0, .int 0, .int 0, .int (nI ph.2.2.2.2.2.2.2)]))] := hD
  refine lv_aload_n hx hb dX6_beginAnew_20 rfl (lv_at hl 0 rfl) ?_
  refine lv_iconst (v := 0) hx hb dX6_beginAnew_21 (by decide) ?_
  refine va_put (D := D) (ci := 5) (v := .int 0) (ty := .int) (C := RX6) (T := TX6) (N := 8) hx hb hAW iwX6 tyX6 tyX6_ok nmX6 hown hK hP hD hS 0 rfl rfl 7 (by decide) (hAW _ q154) (fun _ h9 => h9) rfl (tyX6_ok 7 (by decide)) rfl rfl (Nat.le_of_ble_eq_true rfl) dX6_beginAnew_22 (fun H locs hP hD hS => ?_)
  have hP : va_P D vwCl [(qh, .inr (5, [.int ph.1, .int ph.2.1, .int ph.2.2.1, .int 0, .int 0, .int 0, .int 0, .int 0]))] H := hP
  have hD : va_D A [(qh, .inr (5, [.int ph.1, .int ph.2.1, .int ph.2.2.1, .int 0, .int 0, .int 0, .int 0, .int 0]))] := hD
  exact fin_v hx hb hr hlk hP hS rfl hQ dX6_beginAnew_25

set_option maxHeartbeats 4000000 in
set_option maxRecDepth 100000 in
theorem c_X6_setUp (l : Launch) (D : va_G) (cI cZ : ClassId) (qh : Nat) (ph : PhS) (x y z : Int32) : Cv l yX6_setUp (aw yX6_setUp cX6_setUp 4 none) ({ frames := 1, cells := 0, slots := 0, locals := 20 }) D cI cZ [.ref qh, .int x, .int y, .int z] [(qh, .inr (5, [.int ph.1, .int ph.2.1, .int ph.2.2.1, .int (nI ph.2.2.2.1), .int ph.2.2.2.2.1, .int ph.2.2.2.2.2.1, .int ph.2.2.2.2.2.2.1, .int (nI ph.2.2.2.2.2.2.2)]))] [(qh, .inr (5, [.int ((ph_set ph x y z).1), .int ((ph_set ph x y z).2.1), .int ((ph_set ph x y z).2.2.1), .int (nI ((ph_set ph x y z).2.2.2.1)), .int ((ph_set ph x y z).2.2.2.2.1), .int ((ph_set ph x y z).2.2.2.2.2.1), .int ((ph_set ph x y z).2.2.2.2.2.2.1), .int (nI ((ph_set ph x y z).2.2.2.2.2.2.2))]))] := by
  refine mk_any (cc := cX6_setUp) (maxL := 4) (ret := none) (Qc := fun A => va_Qv (fun (_ : Unit) => True) (cb D [(qh, .inr (5, [.int ((ph_set ph x y z).1), .int ((ph_set ph x y z).2.1), .int ((ph_set ph x y z).2.2.1), .int (nI ((ph_set ph x y z).2.2.2.1)), .int ((ph_set ph x y z).2.2.2.2.1), .int ((ph_set ph x y z).2.2.2.2.2.1), .int ((ph_set ph x y z).2.2.2.2.2.2.1), .int (nI ((ph_set ph x y z).2.2.2.2.2.2.2))]))]) A) (plainFor_of_name (by decide)) (Nat.le_of_ble_eq_true rfl) ?_
  intro p e s m args below meth c A Q R hR hQ hx hb hr hml hAW hown hlk hN hA hP hK hD hS ls hl
  have hl : lv_has ls 4 [(0, .ref qh), (1, .int x), (2, .int y), (3, .int z)] := hl
  refine lv_aload_n hx hb dX6_setUp_0 rfl (lv_at hl 0 rfl) ?_
  refine lv_iload_n hx hb dX6_setUp_1 rfl (lv_at hl 1 rfl) ?_
  refine va_put (D := D) (ci := 5) (v := .int x) (ty := .int) (C := RX6) (T := TX6) (N := 8) hx hb hAW iwX6 tyX6 tyX6_ok nmX6 hown hK hP hD hS 0 rfl rfl 0 (by decide) (hAW _ q145) (fun _ h9 => h9) rfl (tyX6_ok 0 (by decide)) rfl rfl (Nat.le_of_ble_eq_true rfl) dX6_setUp_2 (fun H locs hP hD hS => ?_)
  have hP : va_P D vwCl [(qh, .inr (5, [.int x, .int ph.2.1, .int ph.2.2.1, .int (nI ph.2.2.2.1), .int ph.2.2.2.2.1, .int ph.2.2.2.2.2.1, .int ph.2.2.2.2.2.2.1, .int (nI ph.2.2.2.2.2.2.2)]))] H := hP
  have hD : va_D A [(qh, .inr (5, [.int x, .int ph.2.1, .int ph.2.2.1, .int (nI ph.2.2.2.1), .int ph.2.2.2.2.1, .int ph.2.2.2.2.2.1, .int ph.2.2.2.2.2.2.1, .int (nI ph.2.2.2.2.2.2.2)]))] := hD
  refine lv_aload_n hx hb dX6_setUp_5 rfl (lv_at hl 0 rfl) ?_
  refine lv_iload_n hx hb dX6_setUp_6 rfl (lv_at hl 2 rfl) ?_
  refine va_put (D := D) (ci := 5) (v := .int y) (ty := .int) (C := RX6) (T := TX6) (N := 8) hx hb hAW iwX6 tyX6 tyX6_ok nmX6 hown hK hP hD hS 0 rfl rfl 1 (by decide) (hAW _ q146) (fun _ h9 => h9) rfl (tyX6_ok 1 (by decide)) rfl rfl (Nat.le_of_ble_eq_true rfl) dX6_setUp_7 (fun H locs hP hD hS => ?_)
  have hP : va_P D vwCl [(qh, .inr (5, [.int x, .int y, .int ph.2.2.1, .int (nI ph.2.2.2.1), .int ph.2.2.2.2.1, .int ph.2.2.2.2.2.1, .int ph.2.2.2.2.2.2.1, .int (nI ph.2.2.2.2.2.2.2)]))] H := hP
  have hD : va_D A [(qh, .inr (5, [.int x, .int y, .int ph.2.2.1, .int (nI ph.2.2.2.1), .int ph.2.2.2.2.1, .int ph.2.2.2.2.2.1, .int ph.2.2.2.2.2.2.1, .int (nI ph.2.2.2.2.2.2.2)]))] := hD
  refine lv_aload_n hx hb dX6_setUp_10 rfl (lv_at hl 0 rfl) ?_
  refine lv_iload_n hx hb dX6_setUp_11 rfl (lv_at hl 3 rfl) ?_
  refine va_put (D := D) (ci := 5) (v := .int z) (ty := .int) (C := RX6) (T := TX6) (N := 8) hx hb hAW iwX6 tyX6 tyX6_ok nmX6 hown hK hP hD hS 0 rfl rfl 2 (by decide) (hAW _ q147) (fun _ h9 => h9) rfl (tyX6_ok 2 (by decide)) rfl rfl (Nat.le_of_ble_eq_true rfl) dX6_setUp_12 (fun H locs hP hD hS => ?_)
  have hP : va_P D vwCl [(qh, .inr (5, [.int x, .int y, .int z, .int (nI ph.2.2.2.1), .int ph.2.2.2.2.1, .int ph.2.2.2.2.2.1, .int ph.2.2.2.2.2.2.1, .int (nI ph.2.2.2.2.2.2.2)]))] H := hP
  have hD : va_D A [(qh, .inr (5, [.int x, .int y, .int z, .int (nI ph.2.2.2.1), .int ph.2.2.2.2.1, .int ph.2.2.2.2.2.1, .int ph.2.2.2.2.2.2.1, .int (nI ph.2.2.2.2.2.2.2)]))] := hD
  refine lv_aload_n hx hb dX6_setUp_15 rfl (lv_at hl 0 rfl) ?_
  refine call_Vv (D := D) (rest := []) (ws' := [(qh, .inr (5, [.int ((ph_anew ((x, y, z, ph.2.2.2.1, ph.2.2.2.2.1, ph.2.2.2.2.2.1, ph.2.2.2.2.2.2.1, ph.2.2.2.2.2.2.2) : PhS)).1), .int ((ph_anew ((x, y, z, ph.2.2.2.1, ph.2.2.2.2.1, ph.2.2.2.2.2.1, ph.2.2.2.2.2.2.1, ph.2.2.2.2.2.2.2) : PhS)).2.1), .int ((ph_anew ((x, y, z, ph.2.2.2.1, ph.2.2.2.2.1, ph.2.2.2.2.2.1, ph.2.2.2.2.2.2.1, ph.2.2.2.2.2.2.2) : PhS)).2.2.1), .int (nI ((ph_anew ((x, y, z, ph.2.2.2.1, ph.2.2.2.2.1, ph.2.2.2.2.2.1, ph.2.2.2.2.2.2.1, ph.2.2.2.2.2.2.2) : PhS)).2.2.2.1)), .int ((ph_anew ((x, y, z, ph.2.2.2.1, ph.2.2.2.2.1, ph.2.2.2.2.2.1, ph.2.2.2.2.2.2.1, ph.2.2.2.2.2.2.2) : PhS)).2.2.2.2.1), .int ((ph_anew ((x, y, z, ph.2.2.2.1, ph.2.2.2.2.1, ph.2.2.2.2.2.1, ph.2.2.2.2.2.2.1, ph.2.2.2.2.2.2.2) : PhS)).2.2.2.2.2.1), .int ((ph_anew ((x, y, z, ph.2.2.2.1, ph.2.2.2.2.1, ph.2.2.2.2.2.1, ph.2.2.2.2.2.2.1, ph.2.2.2.2.2.2.2) : PhS)).2.2.2.2.2.2.1), .int (nI ((ph_anew ((x, y, z, ph.2.2.2.1, ph.2.2.2.2.1, ph.2.2.2.2.2.1, ph.2.2.2.2.2.2.1, ph.2.2.2.2.2.2.2) : PhS)).2.2.2.2.2.2.2))]))]) hx hb hml hown hAW hN (c_X6_beginAnew l D cI cZ qh ((x, y, z, ph.2.2.2.1, ph.2.2.2.2.1, ph.2.2.2.2.2.1, ph.2.2.2.2.2.2.1, ph.2.2.2.2.2.2.2) : PhS) ) (cwVA 0 hAW q141 q142 q143 q43 q144 hd_X6_beginAnew (by rw [hR]; exact Nat.le_of_ble_eq_true rfl) (by rw [hR]; exact Nat.le_of_ble_eq_true rfl) rfl rfl) hK hP hD hS hA [0] rfl rfl rfl rfl rfl (ci := 5) (q0 := 0) rfl rfl rfl rfl hl.1 rfl (lv_room (Nat.le_of_ble_eq_true rfl)) dX6_setUp_16 (Nat.zero_le _) (Nat.zero_le _) (fun H locs hP hD hS => ?_)
  exact fin_v hx hb hr hlk hP hS rfl hQ dX6_setUp_19

set_option maxHeartbeats 4000000 in
set_option maxRecDepth 100000 in
theorem c_X6_moveSum (l : Launch) (D : va_G) (cI cZ : ClassId) (qh : Nat) (ph : PhS) (x : Int32) (nu : Nat) (hc : ph.2.2.2.1 < 1000) : Cv l yX6_moveSum (aw yX6_moveSum cX6_moveSum 4 none) ({ frames := 1, cells := 0, slots := 0, locals := 22 }) D cI cZ [.ref qh, .int x, .int (nI nu)] [(qh, .inr (5, [.int ph.1, .int ph.2.1, .int ph.2.2.1, .int (nI ph.2.2.2.1), .int ph.2.2.2.2.1, .int ph.2.2.2.2.2.1, .int ph.2.2.2.2.2.2.1, .int (nI ph.2.2.2.2.2.2.2)]))] [(qh, .inr (5, [.int ((ph_mv ph x nu).1), .int ((ph_mv ph x nu).2.1), .int ((ph_mv ph x nu).2.2.1), .int (nI ((ph_mv ph x nu).2.2.2.1)), .int ((ph_mv ph x nu).2.2.2.2.1), .int ((ph_mv ph x nu).2.2.2.2.2.1), .int ((ph_mv ph x nu).2.2.2.2.2.2.1), .int (nI ((ph_mv ph x nu).2.2.2.2.2.2.2))]))] := by
  refine mk_any (cc := cX6_moveSum) (maxL := 4) (ret := none) (Qc := fun A => va_Qv (fun (_ : Unit) => True) (cb D [(qh, .inr (5, [.int ((ph_mv ph x nu).1), .int ((ph_mv ph x nu).2.1), .int ((ph_mv ph x nu).2.2.1), .int (nI ((ph_mv ph x nu).2.2.2.1)), .int ((ph_mv ph x nu).2.2.2.2.1), .int ((ph_mv ph x nu).2.2.2.2.2.1), .int ((ph_mv ph x nu).2.2.2.2.2.2.1), .int (nI ((ph_mv ph x nu).2.2.2.2.2.2.2))]))]) A) (plainFor_of_name (by decide)) (Nat.le_of_ble_eq_true rfl) ?_
  intro p e s m args below meth c A Q R hR hQ hx hb hr hml hAW hown hlk hN hA hP hK hD hS ls hl
  have hl : lv_has ls 4 [(0, .ref qh), (1, .int x), (2, .int (nI nu))] := hl
  refine lv_aload_n hx hb dX6_moveSum_0 rfl (lv_at hl 0 rfl) ?_
  refine lv_dup hx hb dX6_moveSum_1 rfl ?_
  refine va_get (D := D) (ci := 5) (v := .int (nI ph.2.2.2.1)) (C := RX6) (T := TX6) (N := 8) hx hb hAW iwX6 hown hK hP 0 rfl rfl 3 (by decide) (hAW _ q148) (fun _ h9 => h9) rfl dX6_moveSum_2 ?_
  refine lv_iconst (v := 1) hx hb dX6_moveSum_5 (by decide) ?_
  refine n_iadd (x := ph.2.2.2.1) (y := 1) hx hb dX6_moveSum_6 ?_
  refine va_put (D := D) (ci := 5) (v := .int (nI (ph.2.2.2.1 + 1))) (ty := .int) (C := RX6) (T := TX6) (N := 8) hx hb hAW iwX6 tyX6 tyX6_ok nmX6 hown hK hP hD hS 0 rfl rfl 3 (by decide) (hAW _ q148) (fun _ h9 => h9) rfl (tyX6_ok 3 (by decide)) rfl rfl (Nat.le_of_ble_eq_true rfl) dX6_moveSum_7 (fun H locs hP hD hS => ?_)
  have hP : va_P D vwCl [(qh, .inr (5, [.int ph.1, .int ph.2.1, .int ph.2.2.1, .int (nI (ph.2.2.2.1 + 1)), .int ph.2.2.2.2.1, .int ph.2.2.2.2.2.1, .int ph.2.2.2.2.2.2.1, .int (nI ph.2.2.2.2.2.2.2)]))] H := hP
  have hD : va_D A [(qh, .inr (5, [.int ph.1, .int ph.2.1, .int ph.2.2.1, .int (nI (ph.2.2.2.1 + 1)), .int ph.2.2.2.2.1, .int ph.2.2.2.2.2.1, .int ph.2.2.2.2.2.2.1, .int (nI ph.2.2.2.2.2.2.2)]))] := hD
  refine lv_aload_n hx hb dX6_moveSum_10 rfl (lv_at hl 0 rfl) ?_
  refine lv_dup hx hb dX6_moveSum_11 rfl ?_
  refine va_get (D := D) (ci := 5) (v := .int ph.2.2.2.2.1) (C := RX6) (T := TX6) (N := 8) hx hb hAW iwX6 hown hK hP 0 rfl rfl 4 (by decide) (hAW _ q149) (fun _ h9 => h9) rfl dX6_moveSum_12 ?_
  refine lv_iload_n hx hb dX6_moveSum_15 rfl (lv_at hl 1 rfl) ?_
  refine lv_iadd hx hb dX6_moveSum_16 ?_
  refine va_put (D := D) (ci := 5) (v := .int (ph.2.2.2.2.1 + x)) (ty := .int) (C := RX6) (T := TX6) (N := 8) hx hb hAW iwX6 tyX6 tyX6_ok nmX6 hown hK hP hD hS 0 rfl rfl 4 (by decide) (hAW _ q149) (fun _ h9 => h9) rfl (tyX6_ok 4 (by decide)) rfl rfl (Nat.le_of_ble_eq_true rfl) dX6_moveSum_17 (fun H locs hP hD hS => ?_)
  have hP : va_P D vwCl [(qh, .inr (5, [.int ph.1, .int ph.2.1, .int ph.2.2.1, .int (nI (ph.2.2.2.1 + 1)), .int (ph.2.2.2.2.1 + x), .int ph.2.2.2.2.2.1, .int ph.2.2.2.2.2.2.1, .int (nI ph.2.2.2.2.2.2.2)]))] H := hP
  have hD : va_D A [(qh, .inr (5, [.int ph.1, .int ph.2.1, .int ph.2.2.1, .int (nI (ph.2.2.2.1 + 1)), .int (ph.2.2.2.2.1 + x), .int ph.2.2.2.2.2.1, .int ph.2.2.2.2.2.2.1, .int (nI ph.2.2.2.2.2.2.2)]))] := hD
  refine lv_aload_n hx hb dX6_moveSum_20 rfl (lv_at hl 0 rfl) ?_
  refine va_get (D := D) (ci := 5) (v := .int (ph.2.2.2.2.1 + x)) (C := RX6) (T := TX6) (N := 8) hx hb hAW iwX6 hown hK hP 0 rfl rfl 4 (by decide) (hAW _ q149) (fun _ h9 => h9) rfl dX6_moveSum_21 ?_
  refine lv_aload_n hx hb dX6_moveSum_24 rfl (lv_at hl 0 rfl) ?_
  refine va_get (D := D) (ci := 5) (v := .int (nI (ph.2.2.2.1 + 1))) (C := RX6) (T := TX6) (N := 8) hx hb hAW iwX6 hown hK hP 0 rfl rfl 3 (by decide) (hAW _ q148) (fun _ h9 => h9) rfl dX6_moveSum_25 ?_
  refine call_Si (D := D) (rest := []) (ws' := [(qh, .inr (5, [.int ph.1, .int ph.2.1, .int ph.2.2.1, .int (nI (ph.2.2.2.1 + 1)), .int (ph.2.2.2.2.1 + x), .int ph.2.2.2.2.2.1, .int ph.2.2.2.2.2.2.1, .int (nI ph.2.2.2.2.2.2.2)]))]) hx hb hml hown hAW hN (c_J9_floorDiv_7cf53 l D cI cZ (ph.2.2.2.2.1 + x) (nI (ph.2.2.2.1 + 1)) (nI_ne0 (by omega) (by omega))) (cwSA 2 hAW q591 q592 q55 q593 hd_J9_floorDiv_7cf53 (by rw [hR]; exact Nat.le_of_ble_eq_true rfl) (by rw [hR]; exact Nat.le_of_ble_eq_true rfl) rfl rfl) hK hP hD hS hA [] rfl rfl rfl rfl rfl rfl hl.1 rfl (lv_room (Nat.le_of_ble_eq_true rfl)) dX6_moveSum_28 (Nat.zero_le _) (Nat.zero_le _) (fun H locs hP hD hS => ?_)
  refine lv_istore_n (lv' := [(3, .int (jfd (ph.2.2.2.2.1 + x) (nI (ph.2.2.2.1 + 1)))), (0, .ref qh), (1, .int x), (2, .int (nI nu))]) hx hb dX6_moveSum_31 rfl hl (by decide) rfl (fun ls hl => ?_)
  refine lv_aload_n hx hb dX6_moveSum_32 rfl (lv_at hl 1 rfl) ?_
  refine lv_aload_n hx hb dX6_moveSum_33 rfl (lv_at hl 1 rfl) ?_
  refine va_get (D := D) (ci := 5) (v := .int ph.2.2.2.2.2.1) (C := RX6) (T := TX6) (N := 8) hx hb hAW iwX6 hown hK hP 0 rfl rfl 5 (by decide) (hAW _ q150) (fun _ h9 => h9) rfl dX6_moveSum_34 ?_
  refine lv_aload_n hx hb dX6_moveSum_37 rfl (lv_at hl 1 rfl) ?_
  refine va_get (D := D) (ci := 5) (v := .int ph.2.1) (C := RX6) (T := TX6) (N := 8) hx hb hAW iwX6 hown hK hP 0 rfl rfl 1 (by decide) (hAW _ q146) (fun _ h9 => h9) rfl dX6_moveSum_38 ?_
  refine lv_imul hx hb dX6_moveSum_41 ?_
  refine lv_sipush (v := 1000) hx hb dX6_moveSum_42 (by decide) ?_
  refine lv_idiv hx hb dX6_moveSum_45 (by decide) ?_
  refine lv_iload_n hx hb dX6_moveSum_46 rfl (lv_at hl 2 rfl) ?_
  refine lv_iadd hx hb dX6_moveSum_47 ?_
  refine lv_iload_n hx hb dX6_moveSum_48 rfl (lv_at hl 0 rfl) ?_
  refine lv_isub hx hb dX6_moveSum_49 ?_
  refine lv_aload_n hx hb dX6_moveSum_50 rfl (lv_at hl 1 rfl) ?_
  refine va_get (D := D) (ci := 5) (v := .int ph.1) (C := RX6) (T := TX6) (N := 8) hx hb hAW iwX6 hown hK hP 0 rfl rfl 0 (by decide) (hAW _ q145) (fun _ h9 => h9) rfl dX6_moveSum_51 ?_
  refine lv_isub hx hb dX6_moveSum_54 ?_
  refine va_put (D := D) (ci := 5) (v := .int (((((ph.2.2.2.2.2.1 * ph.2.1) / 1000) + x) - (jfd (ph.2.2.2.2.1 + x) (nI (ph.2.2.2.1 + 1)))) - ph.1)) (ty := .int) (C := RX6) (T := TX6) (N := 8) hx hb hAW iwX6 tyX6 tyX6_ok nmX6 hown hK hP hD hS 0 rfl rfl 5 (by decide) (hAW _ q150) (fun _ h9 => h9) rfl (tyX6_ok 5 (by decide)) rfl rfl (Nat.le_of_ble_eq_true rfl) dX6_moveSum_55 (fun H locs hP hD hS => ?_)
  have hP : va_P D vwCl [(qh, .inr (5, [.int ph.1, .int ph.2.1, .int ph.2.2.1, .int (nI (ph.2.2.2.1 + 1)), .int (ph.2.2.2.2.1 + x), .int (((((ph.2.2.2.2.2.1 * ph.2.1) / 1000) + x) - (jfd (ph.2.2.2.2.1 + x) (nI (ph.2.2.2.1 + 1)))) - ph.1), .int ph.2.2.2.2.2.2.1, .int (nI ph.2.2.2.2.2.2.2)]))] H := hP
  have hD : va_D A [(qh, .inr (5, [.int ph.1, .int ph.2.1, .int ph.2.2.1, .int (nI (ph.2.2.2.1 + 1)), .int (ph.2.2.2.2.1 + x), .int (((((ph.2.2.2.2.2.1 * ph.2.1) / 1000) + x) - (jfd (ph.2.2.2.2.1 + x) (nI (ph.2.2.2.1 + 1)))) - ph.1), .int ph.2.2.2.2.2.2.1, .int (nI ph.2.2.2.2.2.2.2)]))] := hD
  refine lv_aload_n hx hb dX6_moveSum_58 rfl (lv_at hl 1 rfl) ?_
  refine va_get (D := D) (ci := 5) (v := .int (((((ph.2.2.2.2.2.1 * ph.2.1) / 1000) + x) - (jfd (ph.2.2.2.2.1 + x) (nI (ph.2.2.2.1 + 1)))) - ph.1)) (C := RX6) (T := TX6) (N := 8) hx hb hAW iwX6 hown hK hP 0 rfl rfl 5 (by decide) (hAW _ q150) (fun _ h9 => h9) rfl dX6_moveSum_59 ?_
  refine lv_aload_n hx hb dX6_moveSum_62 rfl (lv_at hl 1 rfl) ?_
  refine va_get (D := D) (ci := 5) (v := .int ph.2.2.2.2.2.2.1) (C := RX6) (T := TX6) (N := 8) hx hb hAW iwX6 hown hK hP 0 rfl rfl 6 (by decide) (hAW _ q152) (fun _ h9 => h9) rfl dX6_moveSum_63 ?_
  refine lv_icmp_ge (tgt := 82) hx hb dX6_moveSum_66 (by decide) (fun c66 => ?_) (fun c66 => ?_)
  · skip
    exact fin_v hx hb hr hlk hP hS (by simp only [ph_mv, ph_sum, c66, ↓reduceIte]) hQ dX6_moveSum_82
  · skip
    refine lv_aload_n hx hb dX6_moveSum_69 rfl (lv_at hl 1 rfl) ?_
    refine lv_aload_n hx hb dX6_moveSum_70 rfl (lv_at hl 1 rfl) ?_
    refine va_get (D := D) (ci := 5) (v := .int (((((ph.2.2.2.2.2.1 * ph.2.1) / 1000) + x) - (jfd (ph.2.2.2.2.1 + x) (nI (ph.2.2.2.1 + 1)))) - ph.1)) (C := RX6) (T := TX6) (N := 8) hx hb hAW iwX6 hown hK hP 0 rfl rfl 5 (by decide) (hAW _ q150) (fun _ h9 => h9) rfl dX6_moveSum_71 ?_
    refine va_put (D := D) (ci := 5) (v := .int (((((ph.2.2.2.2.2.1 * ph.2.1) / 1000) + x) - (jfd (ph.2.2.2.2.1 + x) (nI (ph.2.2.2.1 + 1)))) - ph.1)) (ty := .int) (C := RX6) (T := TX6) (N := 8) hx hb hAW iwX6 tyX6 tyX6_ok nmX6 hown hK hP hD hS 0 rfl rfl 6 (by decide) (hAW _ q152) (fun _ h9 => h9) rfl (tyX6_ok 6 (by decide)) rfl rfl (Nat.le_of_ble_eq_true rfl) dX6_moveSum_74 (fun H locs hP hD hS => ?_)
    have hP : va_P D vwCl [(qh, .inr (5, [.int ph.1, .int ph.2.1, .int ph.2.2.1, .int (nI (ph.2.2.2.1 + 1)), .int (ph.2.2.2.2.1 + x), .int (((((ph.2.2.2.2.2.1 * ph.2.1) / 1000) + x) - (jfd (ph.2.2.2.2.1 + x) (nI (ph.2.2.2.1 + 1)))) - ph.1), .int (((((ph.2.2.2.2.2.1 * ph.2.1) / 1000) + x) - (jfd (ph.2.2.2.2.1 + x) (nI (ph.2.2.2.1 + 1)))) - ph.1), .int (nI ph.2.2.2.2.2.2.2)]))] H := hP
    have hD : va_D A [(qh, .inr (5, [.int ph.1, .int ph.2.1, .int ph.2.2.1, .int (nI (ph.2.2.2.1 + 1)), .int (ph.2.2.2.2.1 + x), .int (((((ph.2.2.2.2.2.1 * ph.2.1) / 1000) + x) - (jfd (ph.2.2.2.2.1 + x) (nI (ph.2.2.2.1 + 1)))) - ph.1), .int (((((ph.2.2.2.2.2.1 * ph.2.1) / 1000) + x) - (jfd (ph.2.2.2.2.1 + x) (nI (ph.2.2.2.1 + 1)))) - ph.1), .int (nI ph.2.2.2.2.2.2.2)]))] := hD
    refine lv_aload_n hx hb dX6_moveSum_77 rfl (lv_at hl 1 rfl) ?_
    refine lv_iload_n hx hb dX6_moveSum_78 rfl (lv_at hl 3 rfl) ?_
    refine va_put (D := D) (ci := 5) (v := .int (nI nu)) (ty := .int) (C := RX6) (T := TX6) (N := 8) hx hb hAW iwX6 tyX6 tyX6_ok nmX6 hown hK hP hD hS 0 rfl rfl 7 (by decide) (hAW _ q154) (fun _ h9 => h9) rfl (tyX6_ok 7 (by decide)) rfl rfl (Nat.le_of_ble_eq_true rfl) dX6_moveSum_79 (fun H locs hP hD hS => ?_)
    have hP : va_P D vwCl [(qh, .inr (5, [.int ph.1, .int ph.2.1, .int ph.2.2.1, .int (nI (ph.2.2.2.1 + 1)), .int (ph.2.2.2.2.1 + x), .int (((((ph.2.2.2.2.2.1 * ph.2.1) / 1000) + x) - (jfd (ph.2.2.2.2.1 + x) (nI (ph.2.2.2.1 + 1)))) - ph.1), .int (((((ph.2.2.2.2.2.1 * ph.2.1) / 1000) + x) - (jfd (ph.2.2.2.2.1 + x) (nI (ph.2.2.2.1 + 1)))) - ph.1), .int (nI nu)]))] H := hP
    have hD : va_D A [(qh, .inr (5, [.int ph.1, .int ph.2.1, .int ph.2.2.1, .int (nI (ph.2.2.2.1 + 1)), .int (ph.2.2.2.2.1 + x), .int (((((ph.2.2.2.2.2.1 * ph.2.1) / 1000) + x) - (jfd (ph.2.2.2.2.1 + x) (nI (ph.2.2.2.1 + 1)))) - ph.1), .int (((((ph.2.2.2.2.2.1 * ph.2.1) / 1000) + x) - (jfd (ph.2.2.2.2.1 + x) (nI (ph.2.2.2.1 + 1)))) - ph.1), .int (nI nu)]))] := hD
    exact fin_v hx hb hr hlk hP hS (by simp only [ph_mv, ph_sum, c66, ↓reduceIte]) hQ dX6_moveSum_82

set_option maxHeartbeats 4000000 in
set_option maxRecDepth 100000 in
theorem c_X6_startOfGrowth (l : Launch) (D : va_G) (cI cZ : ClassId) (qh : Nat) (ph : PhS) (nu : Nat) (hc : ph.2.2.2.1 ≤ nu + 1) : Ci l yX6_startOfGrowth (aw yX6_startOfGrowth cX6_startOfGrowth 2 (some .int)) ({ frames := 0, cells := 0, slots := 0, locals := 0 }) D cI cZ [.ref qh, .int (nI nu)] [(qh, .inr (5, [.int ph.1, .int ph.2.1, .int ph.2.2.1, .int (nI ph.2.2.2.1), .int ph.2.2.2.2.1, .int ph.2.2.2.2.2.1, .int ph.2.2.2.2.2.2.1, .int (nI ph.2.2.2.2.2.2.2)]))] [(qh, .inr (5, [.int ph.1, .int ph.2.1, .int ph.2.2.1, .int (nI ph.2.2.2.1), .int ph.2.2.2.2.1, .int ph.2.2.2.2.2.1, .int ph.2.2.2.2.2.2.1, .int (nI ph.2.2.2.2.2.2.2)]))] (nI (ph_start ph nu)) := by
  refine mk_any (cc := cX6_startOfGrowth) (maxL := 2) (ret := (some .int)) (Qc := fun A => va_Qi (fun rr9 (_ : Unit) => rr9 = (nI (ph_start ph nu))) (cb D [(qh, .inr (5, [.int ph.1, .int ph.2.1, .int ph.2.2.1, .int (nI ph.2.2.2.1), .int ph.2.2.2.2.1, .int ph.2.2.2.2.2.1, .int ph.2.2.2.2.2.2.1, .int (nI ph.2.2.2.2.2.2.2)]))]) A) (plainFor_of_name (by decide)) (Nat.le_of_ble_eq_true rfl) ?_
  intro p e s m args below meth c A Q R hR hQ hx hb hr hml hAW hown hlk hN hA hP hK hD hS ls hl
  have hl : lv_has ls 2 [(0, .ref qh), (1, .int (nI nu))] := hl
  refine lv_aload_n hx hb dX6_startOfGrowth_0 rfl (lv_at hl 0 rfl) ?_
  refine va_get (D := D) (ci := 5) (v := .int ph.2.2.2.2.2.2.1) (C := RX6) (T := TX6) (N := 8) hx hb hAW iwX6 hown hK hP 0 rfl rfl 6 (by decide) (hAW _ q152) (fun _ h9 => h9) rfl dX6_startOfGrowth_1 ?_
  refine lv_if_ge (tgt := 16) hx hb dX6_startOfGrowth_4 (by decide) (fun c4 => ?_) (fun c4 => ?_)
  · skip
    refine lv_iload_n hx hb dX6_startOfGrowth_16 rfl (lv_at hl 1 rfl) ?_
    refine lv_aload_n hx hb dX6_startOfGrowth_17 rfl (lv_at hl 0 rfl) ?_
    refine va_get (D := D) (ci := 5) (v := .int (nI ph.2.2.2.1)) (C := RX6) (T := TX6) (N := 8) hx hb hAW iwX6 hown hK hP 0 rfl rfl 3 (by decide) (hAW _ q148) (fun _ h9 => h9) rfl dX6_startOfGrowth_18 ?_
    refine lv_isub hx hb dX6_startOfGrowth_21 ?_
    refine lv_iconst (v := 1) hx hb dX6_startOfGrowth_22 (by decide) ?_
    refine lv_iadd hx hb dX6_startOfGrowth_23 ?_
    refine lv_topi (fun y9 ey9 => ?_)
    have ey9 : y9 = (nI (nu + 1 - ph.2.2.2.1)) := ey9.trans (nI_sub1 hc)
    subst ey9
    exact fin_i (v := (nI (nu + 1 - ph.2.2.2.1))) hx hb hr hlk hP hS rfl (by simp only [ph_start, Int32.not_lt.mpr c4, ↓reduceIte]) rfl hQ dX6_startOfGrowth_24
  · skip
    refine lv_aload_n hx hb dX6_startOfGrowth_7 rfl (lv_at hl 0 rfl) ?_
    refine va_get (D := D) (ci := 5) (v := .int (nI ph.2.2.2.2.2.2.2)) (C := RX6) (T := TX6) (N := 8) hx hb hAW iwX6 hown hK hP 0 rfl rfl 7 (by decide) (hAW _ q154) (fun _ h9 => h9) rfl dX6_startOfGrowth_8 ?_
    refine lv_iconst (v := 1) hx hb dX6_startOfGrowth_11 (by decide) ?_
    refine n_iadd (x := ph.2.2.2.2.2.2.2) (y := 1) hx hb dX6_startOfGrowth_12 ?_
    refine lv_goto (tgt := 24) hx hb dX6_startOfGrowth_13 (by decide) ?_
    exact fin_i (v := (nI (ph.2.2.2.2.2.2.2 + 1))) hx hb hr hlk hP hS rfl (by simp only [ph_start, Int32.not_le.mp c4, ↓reduceIte]) rfl hQ dX6_startOfGrowth_24

set_option maxHeartbeats 4000000 in
set_option maxRecDepth 100000 in
theorem c_X6_watch (l : Launch) (D : va_G) (cI cZ : ClassId) (qh : Nat) (ph : PhS) (qa qk qn qs : Nat) (al : AlS) (x : Int32) (nu : Nat) (h360 : al.2.2.2 < 360) (hc : ph.2.2.2.1 ≤ nu) (hn : nu < 900) : Ci l yX6_watch (aw yX6_watch cX6_watch 4 (some .int)) ({ frames := 2, cells := 0, slots := 0, locals := 45 }) D cI cZ [.ref qh, .int x, .int (nI nu), .ref qa] [(qh, .inr (5, [.int ph.1, .int ph.2.1, .int ph.2.2.1, .int (nI ph.2.2.2.1), .int ph.2.2.2.2.1, .int ph.2.2.2.2.2.1, .int ph.2.2.2.2.2.2.1, .int (nI ph.2.2.2.2.2.2.2)])), (qa, .inr (0, [.ref qk, .ref qn, .ref qs, .int (nI al.2.2.2)])), (qk, .inl (cI, 360, .inl (nIf al.1))), (qn, .inl (cI, 360, .inl (nIf al.2.1))), (qs, .inl (cI, 360, .inl (nIf al.2.2.1)))] [(qh, .inr (5, [.int ((ph_end (ph_mv ph x nu)).1), .int ((ph_end (ph_mv ph x nu)).2.1), .int ((ph_end (ph_mv ph x nu)).2.2.1), .int (nI ((ph_end (ph_mv ph x nu)).2.2.2.1)), .int ((ph_end (ph_mv ph x nu)).2.2.2.2.1), .int ((ph_end (ph_mv ph x nu)).2.2.2.2.2.1), .int ((ph_end (ph_mv ph x nu)).2.2.2.2.2.2.1), .int (nI ((ph_end (ph_mv ph x nu)).2.2.2.2.2.2.2))])), (qa, .inr (0, [.ref qk, .ref qn, .ref qs, .int (nI ((ph_al (ph_mv ph x nu) al nu).2.2.2))])), (qk, .inl (cI, 360, .inl (nIf ((ph_al (ph_mv ph x nu) al nu).1)))), (qn, .inl (cI, 360, .inl (nIf ((ph_al (ph_mv ph x nu) al nu).2.1)))), (qs, .inl (cI, 360, .inl (nIf ((ph_al (ph_mv ph x nu) al nu).2.2.1))))] (ph_bits (ph_mv ph x nu)) := by
  refine mk_any (cc := cX6_watch) (maxL := 4) (ret := (some .int)) (Qc := fun A => va_Qi (fun rr9 (_ : Unit) => rr9 = ph_bits (ph_mv ph x nu)) (cb D [(qh, .inr (5, [.int ((ph_end (ph_mv ph x nu)).1), .int ((ph_end (ph_mv ph x nu)).2.1), .int ((ph_end (ph_mv ph x nu)).2.2.1), .int (nI ((ph_end (ph_mv ph x nu)).2.2.2.1)), .int ((ph_end (ph_mv ph x nu)).2.2.2.2.1), .int ((ph_end (ph_mv ph x nu)).2.2.2.2.2.1), .int ((ph_end (ph_mv ph x nu)).2.2.2.2.2.2.1), .int (nI ((ph_end (ph_mv ph x nu)).2.2.2.2.2.2.2))])), (qa, .inr (0, [.ref qk, .ref qn, .ref qs, .int (nI ((ph_al (ph_mv ph x nu) al nu).2.2.2))])), (qk, .inl (cI, 360, .inl (nIf ((ph_al (ph_mv ph x nu) al nu).1)))), (qn, .inl (cI, 360, .inl (nIf ((ph_al (ph_mv ph x nu) al nu).2.1)))), (qs, .inl (cI, 360, .inl (nIf ((ph_al (ph_mv ph x nu) al nu).2.2.1))))]) A) (plainFor_of_name (by decide)) (Nat.le_of_ble_eq_true rfl) ?_
  intro p e s m args below meth c A Q R hR hQ hx hb hr hml hAW hown hlk hN hA hP hK hD hS ls hl
  have hl : lv_has ls 4 [(0, .ref qh), (1, .int x), (2, .int (nI nu)), (3, .ref qa)] := hl
  refine lv_aload_n hx hb dX6_watch_0 rfl (lv_at hl 0 rfl) ?_
  refine lv_iload_n hx hb dX6_watch_1 rfl (lv_at hl 1 rfl) ?_
  refine lv_iload_n hx hb dX6_watch_2 rfl (lv_at hl 2 rfl) ?_
  refine call_Vv (D := D) (rest := []) (ws' := [(qh, .inr (5, [.int ((ph_mv ph x nu).1), .int ((ph_mv ph x nu).2.1), .int ((ph_mv ph x nu).2.2.1), .int (nI ((ph_mv ph x nu).2.2.2.1)), .int ((ph_mv ph x nu).2.2.2.2.1), .int ((ph_mv ph x nu).2.2.2.2.2.1), .int ((ph_mv ph x nu).2.2.2.2.2.2.1), .int (nI ((ph_mv ph x nu).2.2.2.2.2.2.2))])), (qa, .inr (0, [.ref qk, .ref qn, .ref qs, .int (nI al.2.2.2)])), (qk, .inl (cI, 360, .inl (nIf al.1))), (qn, .inl (cI, 360, .inl (nIf al.2.1))), (qs, .inl (cI, 360, .inl (nIf al.2.2.1)))]) hx hb hml hown hAW hN (c_X6_moveSum l D cI cZ qh ph x nu (by omega)) (cwVA 2 hAW q587 q589 q11 q43 q590 hd_X6_moveSum (by rw [hR]; exact Nat.le_of_ble_eq_true rfl) (by rw [hR]; exact Nat.le_of_ble_eq_true rfl) rfl rfl) hK hP hD hS hA [0] rfl rfl rfl rfl rfl (ci := 5) (q0 := 0) rfl rfl rfl rfl hl.1 rfl (lv_room (Nat.le_of_ble_eq_true rfl)) dX6_watch_3 (Nat.zero_le _) (Nat.zero_le _) (fun H locs hP hD hS => ?_)
  refine lv_aload_n hx hb dX6_watch_6 rfl (lv_at hl 0 rfl) ?_
  refine va_get (D := D) (ci := 5) (v := .int ((ph_mv ph x nu).2.2.2.2.2.1)) (C := RX6) (T := TX6) (N := 8) hx hb hAW iwX6 hown hK hP 0 rfl rfl 5 (by decide) (hAW _ q150) (fun _ h9 => h9) rfl dX6_watch_7 ?_
  refine lv_aload_n hx hb dX6_watch_10 rfl (lv_at hl 0 rfl) ?_
  refine va_get (D := D) (ci := 5) (v := .int ((ph_mv ph x nu).2.2.2.2.2.2.1)) (C := RX6) (T := TX6) (N := 8) hx hb hAW iwX6 hown hK hP 0 rfl rfl 6 (by decide) (hAW _ q152) (fun _ h9 => h9) rfl dX6_watch_11 ?_
  refine lv_isub hx hb dX6_watch_14 ?_
  refine lv_aload_n hx hb dX6_watch_15 rfl (lv_at hl 0 rfl) ?_
  refine va_get (D := D) (ci := 5) (v := .int ((ph_mv ph x nu).2.2.1)) (C := RX6) (T := TX6) (N := 8) hx hb hAW iwX6 hown hK hP 0 rfl rfl 2 (by decide) (hAW _ q147) (fun _ h9 => h9) rfl dX6_watch_16 ?_
  refine lv_icmp_gt (tgt := 24) hx hb dX6_watch_19 (by decide) (fun c19 => ?_) (fun c19 => ?_)
  · skip
    refine lv_aload_n hx hb dX6_watch_24 rfl (lv_at hl 3 rfl) ?_
    refine lv_iconst (v := 2) hx hb dX6_watch_25 (by decide) ?_
    refine lv_iload_n hx hb dX6_watch_26 rfl (lv_at hl 2 rfl) ?_
    refine lv_aload_n hx hb dX6_watch_27 rfl (lv_at hl 0 rfl) ?_
    refine lv_iload_n hx hb dX6_watch_28 rfl (lv_at hl 2 rfl) ?_
    refine call_Vi (D := D) (rest := [.int (nI nu), .int 2, .ref qa]) (ws' := [(qh, .inr (5, [.int ((ph_mv ph x nu).1), .int ((ph_mv ph x nu).2.1), .int ((ph_mv ph x nu).2.2.1), .int (nI ((ph_mv ph x nu).2.2.2.1)), .int ((ph_mv ph x nu).2.2.2.2.1), .int ((ph_mv ph x nu).2.2.2.2.2.1), .int ((ph_mv ph x nu).2.2.2.2.2.2.1), .int (nI ((ph_mv ph x nu).2.2.2.2.2.2.2))])), (qa, .inr (0, [.ref qk, .ref qn, .ref qs, .int (nI al.2.2.2)])), (qk, .inl (cI, 360, .inl (nIf al.1))), (qn, .inl (cI, 360, .inl (nIf al.2.1))), (qs, .inl (cI, 360, .inl (nIf al.2.2.1)))]) hx hb hml hown hAW hN (c_X6_startOfGrowth l D cI cZ qh (ph_mv ph x nu) nu (Nat.succ_le_succ hc)) (cwVA 1 hAW q594 q596 q12 q43 q597 hd_X6_startOfGrowth (by rw [hR]; exact Nat.le_of_ble_eq_true rfl) (by rw [hR]; exact Nat.le_of_ble_eq_true rfl) rfl rfl) hK hP hD hS hA [0] rfl rfl rfl rfl rfl (ci := 5) (q0 := 0) rfl rfl rfl rfl hl.1 rfl (lv_room (Nat.le_of_ble_eq_true rfl)) dX6_watch_29 (Nat.zero_le _) (Nat.zero_le _) (fun H locs hP hD hS => ?_)
    refine call_Vv (D := D) (rest := []) (ws' := [(qh, .inr (5, [.int ((ph_mv ph x nu).1), .int ((ph_mv ph x nu).2.1), .int ((ph_mv ph x nu).2.2.1), .int (nI ((ph_mv ph x nu).2.2.2.1)), .int ((ph_mv ph x nu).2.2.2.2.1), .int ((ph_mv ph x nu).2.2.2.2.2.1), .int ((ph_mv ph x nu).2.2.2.2.2.2.1), .int (nI ((ph_mv ph x nu).2.2.2.2.2.2.2))])), (qa, .inr (0, [.ref qk, .ref qn, .ref qs, .int (nI ((al_raise al 2 nu (ph_start (ph_mv ph x nu) nu)).2.2.2))])), (qk, .inl (cI, 360, .inl (nIf ((al_raise al 2 nu (ph_start (ph_mv ph x nu) nu)).1)))), (qn, .inl (cI, 360, .inl (nIf ((al_raise al 2 nu (ph_start (ph_mv ph x nu) nu)).2.1)))), (qs, .inl (cI, 360, .inl (nIf ((al_raise al 2 nu (ph_start (ph_mv ph x nu) nu)).2.2.1))))]) hx hb hml hown hAW hN (c_X0_raise l D cI cZ qa qk qn qs al 2 nu (ph_start (ph_mv ph x nu) nu) (by omega)) (cwVA 3 hAW q598 q580 q581 q41 q582 hd_X0_raise (by rw [hR]; exact Nat.le_of_ble_eq_true rfl) (by rw [hR]; exact Nat.le_of_ble_eq_true rfl) rfl rfl) hK hP hD hS hA [1, 2, 3, 4] rfl rfl rfl rfl rfl (ci := 0) (q0 := 1) rfl rfl rfl rfl hl.1 rfl (lv_room (Nat.le_of_ble_eq_true rfl)) dX6_watch_32 (Nat.zero_le _) (Nat.zero_le _) (fun H locs hP hD hS => ?_)
    refine lv_aload_n hx hb dX6_watch_35 rfl (lv_at hl 0 rfl) ?_
    refine call_Vv (D := D) (rest := []) (ws' := [(qh, .inr (5, [.int ((ph_anew (ph_mv ph x nu)).1), .int ((ph_anew (ph_mv ph x nu)).2.1), .int ((ph_anew (ph_mv ph x nu)).2.2.1), .int (nI ((ph_anew (ph_mv ph x nu)).2.2.2.1)), .int ((ph_anew (ph_mv ph x nu)).2.2.2.2.1), .int ((ph_anew (ph_mv ph x nu)).2.2.2.2.2.1), .int ((ph_anew (ph_mv ph x nu)).2.2.2.2.2.2.1), .int (nI ((ph_anew (ph_mv ph x nu)).2.2.2.2.2.2.2))])), (qa, .inr (0, [.ref qk, .ref qn, .ref qs, .int (nI ((al_raise al 2 nu (ph_start (ph_mv ph x nu) nu)).2.2.2))])), (qk, .inl (cI, 360, .inl (nIf ((al_raise al 2 nu (ph_start (ph_mv ph x nu) nu)).1)))), (qn, .inl (cI, 360, .inl (nIf ((al_raise al 2 nu (ph_start (ph_mv ph x nu) nu)).2.1)))), (qs, .inl (cI, 360, .inl (nIf ((al_raise al 2 nu (ph_start (ph_mv ph x nu) nu)).2.2.1))))]) hx hb hml hown hAW hN (c_X6_beginAnew l D cI cZ qh (ph_mv ph x nu) ) (cwVA 0 hAW q141 q142 q143 q43 q144 hd_X6_beginAnew (by rw [hR]; exact Nat.le_of_ble_eq_true rfl) (by rw [hR]; exact Nat.le_of_ble_eq_true rfl) rfl rfl) hK hP hD hS hA [0] rfl rfl rfl rfl rfl (ci := 5) (q0 := 0) rfl rfl rfl rfl hl.1 rfl (lv_room (Nat.le_of_ble_eq_true rfl)) dX6_watch_36 (Nat.zero_le _) (Nat.zero_le _) (fun H locs hP hD hS => ?_)
    refine lv_iconst (v := 4) hx hb dX6_watch_39 (by decide) ?_
    exact fin_i (v := 4) hx hb hr hlk hP hS rfl (by simp only [ph_bits, c19, ↓reduceIte]) (by simp only [ph_end, ph_al, c19, ↓reduceIte]) hQ dX6_watch_40
  · skip
    refine lv_iconst (v := 0) hx hb dX6_watch_22 (by decide) ?_
    exact fin_i (v := 0) hx hb hr hlk hP hS rfl (by simp only [ph_bits, c19, ↓reduceIte]) (by simp only [ph_end, ph_al, c19, ↓reduceIte]) hQ dX6_watch_23
end
section
/-! the segments' costs -/
def tri (n : Nat) : Nat := n * (n + 1) / 2
theorem tri_succ (n : Nat) : tri (n + 1) = tri n + (n + 1) := by
  unfold tri
  have e : (n + 1) * (n + 1 + 1) = n * (n + 1) + 2 * (n + 1) := by
    calc (n + 1) * (n + 1 + 1) = (n + 1) * n + (n + 1) * 2 := Nat.mul_add (n + 1) n 2
      _ = n * (n + 1) + 2 * (n + 1) := by rw [Nat.mul_comm n, Nat.mul_comm 2]
  rw [e, Nat.add_mul_div_left _ _ (by decide)]
theorem tri_mono {a b : Nat} (h : a ≤ b) : tri a ≤ tri b := by
  induction b with
  | zero => obtain rfl : a = 0 := by omega
            exact Nat.le_refl _
  | succ b ih =>
    by_cases h2 : a = b + 1
    · rw [h2]; exact Nat.le_refl _
    · have := ih (by omega)
      rw [tri_succ]
      omega
theorem tri_lt {a b : Nat} (h : a < b) (h2 : b ≤ 120) : tri (b - 1) + a < 7260 := by
  obtain ⟨c, rfl⟩ : ∃ c, b = c + 1 := ⟨b - 1, by omega⟩
  have h3 := tri_succ c
  have h4 := tri_mono h2
  have h5 : tri 120 = 7260 := by decide
  rw [Nat.add_sub_cancel]
  omega
theorem km1_neg {k : Nat} (h : k < 2 ^ 30) : nI k - 1 < 0 ↔ k = 0 := by
  rw [Int32.lt_iff_toInt_lt, show (1 : Int32) = nI 1 from rfl, pk_sub_toInt h (by decide)]
  show (k : Int) - (1 : Nat) < 0 ↔ _
  omega
theorem nI_m1 (k : Nat) : nI k + Int32.ofInt (-1) = nI k - 1 := by
  rw [Int32.sub_eq_add_neg]
  rfl
theorem nI_inc_m1 {k : Nat} : nI (k + 1) + Int32.ofInt (-1) = nI k := pk_m1 k
def sortL (x : Int32) : Nat → (Nat → Int32) → (Nat → Int32)
  | 0, S => upd S 0 x
  | p + 1, S => if S p ≤ x then upd S (p + 1) x else sortL x p (upd S (p + 1) (S p))
def dm (S : Nat → Int32) (n : Nat) (x : Int32) : Int32 := if n = 0 then 0 else if x < S ((n - 1) / 2) then S ((n - 1) / 2) - x else if x ≤ S (n / 2) then 0 else x - S (n / 2)
def midL (v : Nat → Int32) (fr : Nat) : Nat → Nat → (Nat → Int32) → (Nat → Int32)
  | 0, _, S => S
  | d + 1, i, S => midL v fr d (i + 1) (sortL (v i) (i - fr) S)
def segL (v : Nat → Int32) (tt : Nat) : Nat → Int32 → (Nat → Int32) → (Nat → Int32) → (Nat → Int32) × (Nat → Int32)
  | 0, _, K, S => (K, S)
  | k + 1, co, K, S => segL v tt k (co + dm S (tt - 1 - k) (v k)) (upd K (tri (tt - 1) + k) (co + dm S (tt - 1 - k) (v k))) (sortL (v k) (tt - 1 - k) S)
def learL (v : Nat → Int32) : Nat → Nat → (Nat → Int32) → (Nat → Int32) → (Nat → Int32) × (Nat → Int32)
  | 0, _, K, S => (K, S)
  | d + 1, g, K, S => learL v d (g + 1) (segL v (g + 1) (g + 1) 0 K S).1 (segL v (g + 1) (g + 1) 0 K S).2
set_option maxHeartbeats 4000000 in
set_option maxRecDepth 100000 in
theorem c_X7_triangle (l : Launch) (D : va_G) (cI cZ : ClassId) (en : Nat) (he : en ≤ 120) : Ci l yX7_triangle (aw yX7_triangle cX7_triangle 1 (some .int)) ({ frames := 0, cells := 0, slots := 0, locals := 0 }) D cI cZ [.int (nI en)] [] [] (nI (tri en)) := by
  refine mk_any (cc := cX7_triangle) (maxL := 1) (ret := (some .int)) (Qc := fun A => va_Qi (fun rr9 (_ : Unit) => rr9 = (nI (tri en))) (cb D []) A) (plainFor_of_name (by decide)) (Nat.le_of_ble_eq_true rfl) ?_
  intro p e s m args below meth c A Q R hR hQ hx hb hr hml hAW hown hlk hN hA hP hK hD hS ls hl
  have hl : lv_has ls 1 [(0, .int (nI en))] := hl
  refine lv_iload_n hx hb dX7_triangle_0 rfl (lv_at hl 0 rfl) ?_
  refine lv_iload_n hx hb dX7_triangle_1 rfl (lv_at hl 0 rfl) ?_
  refine lv_iconst (v := 1) hx hb dX7_triangle_2 (by decide) ?_
  refine n_iadd (x := en) (y := 1) hx hb dX7_triangle_3 ?_
  refine n_imul (x := en) (y := (en + 1)) hx hb dX7_triangle_4 ?_
  refine lv_iconst (v := 2) hx hb dX7_triangle_5 (by decide) ?_
  refine n_idiv (x := (en * (en + 1))) (y := 2) hx hb (Nat.lt_of_le_of_lt (Nat.mul_le_mul he (Nat.succ_le_succ he)) (by decide)) (by omega) (by omega) dX7_triangle_6 ?_
  exact fin_i (v := (nI ((en * (en + 1)) / 2))) hx hb hr hlk hP hS rfl rfl rfl hQ dX7_triangle_7

set_option maxHeartbeats 4000000 in
set_option maxRecDepth 100000 in
theorem c_X7_forget (l : Launch) (D : va_G) (cI cZ : ClassId) (qd qe qf lr : Nat) : Cv l yX7_forget (aw yX7_forget cX7_forget 1 none) ({ frames := 0, cells := 0, slots := 0, locals := 0 }) D cI cZ [.ref qd] [(qd, .inr (6, [.ref qe, .ref qf, .int (nI lr)]))] [(qd, .inr (6, [.ref qe, .ref qf, .int (nI 0)]))] := by
  refine mk_any (cc := cX7_forget) (maxL := 1) (ret := none) (Qc := fun A => va_Qv (fun (_ : Unit) => True) (cb D [(qd, .inr (6, [.ref qe, .ref qf, .int (nI 0)]))]) A) (plainFor_of_name (by decide)) (Nat.le_of_ble_eq_true rfl) ?_
  intro p e s m args below meth c A Q R hR hQ hx hb hr hml hAW hown hlk hN hA hP hK hD hS ls hl
  have hl : lv_has ls 1 [(0, .ref qd)] := hl
  refine lv_aload_n hx hb dX7_forget_0 rfl (lv_at hl 0 rfl) ?_
  refine lv_iconst (v := 0) hx hb dX7_forget_1 (by decide) ?_
  refine va_put (D := D) (ci := 6) (v := .int 0) (ty := .int) (C := RX7) (T := TX7) (N := 3) hx hb hAW iwX7 tyX7 tyX7_ok nmX7 hown hK hP hD hS 0 rfl rfl 2 (by decide) (hAW _ q183) (fun _ h9 => h9) rfl (tyX7_ok 2 (by decide)) rfl rfl (Nat.le_of_ble_eq_true rfl) dX7_forget_2 (fun H locs hP hD hS => ?_)
  have hP : va_P D vwCl [(qd, .inr (6, [.ref qe, .ref qf, .int 0]))] H := hP
  have hD : va_D A [(qd, .inr (6, [.ref qe, .ref qf, .int 0]))] := hD
  exact fin_v hx hb hr hlk hP hS rfl hQ dX7_forget_5

set_option maxHeartbeats 4000000 in
set_option maxRecDepth 100000 in
theorem c_X7_of (l : Launch) (D : va_G) (cI cZ : ClassId) (qd qe qf lr : Nat) (K : Nat → Int32) (fr tt : Nat) (h1 : fr < tt) (h2 : tt ≤ 120) : Ci l yX7_of (aw yX7_of cX7_of 3 (some .int)) ({ frames := 1, cells := 0, slots := 0, locals := 20 }) D cI cZ [.ref qd, .int (nI fr), .int (nI tt)] [(qd, .inr (6, [.ref qe, .ref qf, .int (nI lr)])), (qe, .inl (cI, 7260, .inl K))] [(qd, .inr (6, [.ref qe, .ref qf, .int (nI lr)])), (qe, .inl (cI, 7260, .inl K))] (K (tri (tt - 1) + fr)) := by
  refine mk_any (cc := cX7_of) (maxL := 3) (ret := (some .int)) (Qc := fun A => va_Qi (fun rr9 (_ : Unit) => rr9 = (K (tri (tt - 1) + fr))) (cb D [(qd, .inr (6, [.ref qe, .ref qf, .int (nI lr)])), (qe, .inl (cI, 7260, .inl K))]) A) (plainFor_of_name (by decide)) (Nat.le_of_ble_eq_true rfl) ?_
  intro p e s m args below meth c A Q R hR hQ hx hb hr hml hAW hown hlk hN hA hP hK hD hS ls hl
  have hl : lv_has ls 3 [(0, .ref qd), (1, .int (nI fr)), (2, .int (nI tt))] := hl
  refine lv_aload_n hx hb dX7_of_0 rfl (lv_at hl 0 rfl) ?_
  refine va_get (D := D) (ci := 6) (v := .ref qe) (C := RX7) (T := TX7) (N := 3) hx hb hAW iwX7 hown hK hP 0 rfl rfl 0 (by decide) (hAW _ q181) (fun _ h9 => h9) rfl dX7_of_1 ?_
  refine lv_iload_n hx hb dX7_of_4 rfl (lv_at hl 2 rfl) ?_
  refine lv_iconst (v := 1) hx hb dX7_of_5 (by decide) ?_
  refine n_isub (x := tt) (y := 1) hx hb (by omega) dX7_of_6 ?_
  refine call_Si (D := D) (rest := [.ref qe]) (ws' := [(qd, .inr (6, [.ref qe, .ref qf, .int (nI lr)])), (qe, .inl (cI, 7260, .inl K))]) hx hb hml hown hAW hN (c_X7_triangle l D cI cZ (tt - 1) (by omega)) (cwSA 1 hAW q178 q179 q44 q180 hd_X7_triangle (by rw [hR]; exact Nat.le_of_ble_eq_true rfl) (by rw [hR]; exact Nat.le_of_ble_eq_true rfl) rfl rfl) hK hP hD hS hA [] rfl rfl rfl rfl rfl rfl hl.1 rfl (lv_room (Nat.le_of_ble_eq_true rfl)) dX7_of_7 (Nat.zero_le _) (Nat.zero_le _) (fun H locs hP hD hS => ?_)
  refine lv_iload_n hx hb dX7_of_10 rfl (lv_at hl 1 rfl) ?_
  refine n_iadd (x := (tri (tt - 1))) (y := fr) hx hb dX7_of_11 ?_
  refine n_iald (D := D) (f := K) (i := ((tri (tt - 1)) + fr)) hx hb hK hP 1 0 rfl rfl (tri_lt h1 h2) (by decide) dX7_of_12 ?_
  exact fin_i (v := (K ((tri (tt - 1)) + fr))) hx hb hr hlk hP hS rfl rfl rfl hQ dX7_of_13

set_option maxHeartbeats 4000000 in
set_option maxRecDepth 100000 in
theorem c_X7_sortIn (l : Launch) (D : va_G) (cI cZ : ClassId) (qd qe qf lr : Nat) (S : Nat → Int32) (x : Int32) (nn : Nat) (hn : nn < 120) : Cv l yX7_sortIn (aw yX7_sortIn cX7_sortIn 4 none) ({ frames := 0, cells := 0, slots := 0, locals := 0 }) D cI cZ [.ref qd, .int x, .int (nI nn)] [(qd, .inr (6, [.ref qe, .ref qf, .int (nI lr)])), (qf, .inl (cI, 120, .inl S))] [(qd, .inr (6, [.ref qe, .ref qf, .int (nI lr)])), (qf, .inl (cI, 120, .inl (sortL x nn S)))] := by
  refine mk_any (cc := cX7_sortIn) (maxL := 4) (ret := none) (Qc := fun A => va_Qv (fun (_ : Unit) => True) (cb D [(qd, .inr (6, [.ref qe, .ref qf, .int (nI lr)])), (qf, .inl (cI, 120, .inl (sortL x nn S)))]) A) (plainFor_of_name (by decide)) (Nat.le_of_ble_eq_true rfl) ?_
  intro p e s m args below meth c A Q R hR hQ hx hb hr hml hAW hown hlk hN hA hP hK hD hS ls hl
  have hl : lv_has ls 4 [(0, .ref qd), (1, .int x), (2, .int (nI nn))] := hl
  refine lv_iload_n hx hb dX7_sortIn_0 rfl (lv_at hl 2 rfl) ?_
  refine lv_istore_n (lv' := [(3, .int (nI nn)), (0, .ref qd), (1, .int x), (2, .int (nI nn))]) hx hb dX7_sortIn_1 rfl hl (by decide) rfl (fun ls hl => ?_)
  have L2 : ∀ (n : Nat) (k : Nat) (G : Nat → Int32), k ≤ nn → sortL x k G = sortL x nn S → k < n → ∀ (H : Heap) (locs : List Loc), va_P D vwCl [(qd, .inr (6, [.ref qe, .ref qf, .int (nI lr)])), (qf, .inl (cI, 120, .inl G))] H → va_D A [(qd, .inr (6, [.ref qe, .ref qf, .int (nI lr)])), (qf, .inl (cI, 120, .inl G))] → va_S A s.heap H locs → ∀ (ls : Array Slot), lv_has ls 4 [(0, .ref qd), (1, .int x), (2, .int (nI nn)), (3, .int (nI k))] → W p l e R s m args below meth c H locs 0 0 Q (F0 m 2 ls []) := by
    intro n
    induction n with
    | zero => intro k G hk hq hmu; exact absurd (by assumption) (Nat.not_lt_zero _)
    | succ n ih =>
      intro k G hk hq hmu H locs hP hD hS ls hl
      refine lv_iload_n hx hb dX7_sortIn_2 rfl (lv_at hl 3 rfl) ?_
      refine n_if_le (x := k) (tgt := 38) hx hb (by omega) dX7_sortIn_3 (by decide) (fun c3 => ?_) (fun c3 => ?_)
      · skip
        have hq : upd G k x = sortL x nn S := by rw [c3, sortL] at hq; rw [c3]; exact hq
        refine lv_aload_n hx hb dX7_sortIn_38 rfl (lv_at hl 0 rfl) ?_
        refine va_get (D := D) (ci := 6) (v := .ref qf) (C := RX7) (T := TX7) (N := 3) hx hb hAW iwX7 hown hK hP 0 rfl rfl 1 (by decide) (hAW _ q182) (fun _ h9 => h9) rfl dX7_sortIn_39 ?_
        refine lv_iload_n hx hb dX7_sortIn_42 rfl (lv_at hl 3 rfl) ?_
        refine lv_iload_n hx hb dX7_sortIn_43 rfl (lv_at hl 1 rfl) ?_
        refine n_iast (D := D) (f := G) (i := k) (x := x) hx hb hK hP hD hS 1 0 rfl rfl (by omega) (by decide) dX7_sortIn_44 (fun H locs hP hD hS => ?_)
        have hP : va_P D vwCl [(qd, .inr (6, [.ref qe, .ref qf, .int (nI lr)])), (qf, .inl (cI, 120, .inl (upd G k x)))] H := hP
        have hD : va_D A [(qd, .inr (6, [.ref qe, .ref qf, .int (nI lr)])), (qf, .inl (cI, 120, .inl (upd G k x)))] := hD
        exact fin_v hx hb hr hlk hP hS (by rw [← hq]) hQ dX7_sortIn_45
      · skip
        obtain ⟨k, rfl⟩ : ∃ j, k = j + 1 := ⟨k - 1, by omega⟩
        refine lv_aload_n hx hb dX7_sortIn_6 rfl (lv_at hl 0 rfl) ?_
        refine va_get (D := D) (ci := 6) (v := .ref qf) (C := RX7) (T := TX7) (N := 3) hx hb hAW iwX7 hown hK hP 0 rfl rfl 1 (by decide) (hAW _ q182) (fun _ h9 => h9) rfl dX7_sortIn_7 ?_
        refine lv_iload_n hx hb dX7_sortIn_10 rfl (lv_at hl 3 rfl) ?_
        refine lv_iconst (v := 1) hx hb dX7_sortIn_11 (by decide) ?_
        refine n_isub (x := (k + 1)) (y := 1) hx hb (by omega) dX7_sortIn_12 ?_
        refine lv_topi (fun y9 ey9 => ?_)
        have ey9 : y9 = (nI k) := ey9.trans (by rw [Nat.add_sub_cancel])
        subst ey9
        refine n_iald (D := D) (f := G) (i := k) hx hb hK hP 1 0 rfl rfl (by omega) (by decide) dX7_sortIn_13 ?_
        refine lv_iload_n hx hb dX7_sortIn_14 rfl (lv_at hl 1 rfl) ?_
        refine lv_icmp_le (tgt := 38) hx hb dX7_sortIn_15 (by decide) (fun c15 => ?_) (fun c15 => ?_)
        · skip
          rw [sortL, if_pos (show G k ≤ x from c15)] at hq
          refine lv_aload_n hx hb dX7_sortIn_38 rfl (lv_at hl 0 rfl) ?_
          refine va_get (D := D) (ci := 6) (v := .ref qf) (C := RX7) (T := TX7) (N := 3) hx hb hAW iwX7 hown hK hP 0 rfl rfl 1 (by decide) (hAW _ q182) (fun _ h9 => h9) rfl dX7_sortIn_39 ?_
          refine lv_iload_n hx hb dX7_sortIn_42 rfl (lv_at hl 3 rfl) ?_
          refine lv_iload_n hx hb dX7_sortIn_43 rfl (lv_at hl 1 rfl) ?_
          refine n_iast (D := D) (f := G) (i := (k + 1)) (x := x) hx hb hK hP hD hS 1 0 rfl rfl (by omega) (by decide) dX7_sortIn_44 (fun H locs hP hD hS => ?_)
          have hP : va_P D vwCl [(qd, .inr (6, [.ref qe, .ref qf, .int (nI lr)])), (qf, .inl (cI, 120, .inl (upd G (k + 1) x)))] H := hP
          have hD : va_D A [(qd, .inr (6, [.ref qe, .ref qf, .int (nI lr)])), (qf, .inl (cI, 120, .inl (upd G (k + 1) x)))] := hD
          exact fin_v hx hb hr hlk hP hS (by rw [← hq]) hQ dX7_sortIn_45
        · skip
          rw [sortL, if_neg (show ¬ G k ≤ x from c15)] at hq
          refine lv_aload_n hx hb dX7_sortIn_18 rfl (lv_at hl 0 rfl) ?_
          refine va_get (D := D) (ci := 6) (v := .ref qf) (C := RX7) (T := TX7) (N := 3) hx hb hAW iwX7 hown hK hP 0 rfl rfl 1 (by decide) (hAW _ q182) (fun _ h9 => h9) rfl dX7_sortIn_19 ?_
          refine lv_iload_n hx hb dX7_sortIn_22 rfl (lv_at hl 3 rfl) ?_
          refine lv_aload_n hx hb dX7_sortIn_23 rfl (lv_at hl 0 rfl) ?_
          refine va_get (D := D) (ci := 6) (v := .ref qf) (C := RX7) (T := TX7) (N := 3) hx hb hAW iwX7 hown hK hP 0 rfl rfl 1 (by decide) (hAW _ q182) (fun _ h9 => h9) rfl dX7_sortIn_24 ?_
          refine lv_iload_n hx hb dX7_sortIn_27 rfl (lv_at hl 3 rfl) ?_
          refine lv_iconst (v := 1) hx hb dX7_sortIn_28 (by decide) ?_
          refine n_isub (x := (k + 1)) (y := 1) hx hb (by omega) dX7_sortIn_29 ?_
          refine lv_topi (fun y9 ey9 => ?_)
          have ey9 : y9 = (nI k) := ey9.trans (by rw [Nat.add_sub_cancel])
          subst ey9
          refine n_iald (D := D) (f := G) (i := k) hx hb hK hP 1 0 rfl rfl (by omega) (by decide) dX7_sortIn_30 ?_
          refine n_iast (D := D) (f := G) (i := (k + 1)) (x := (G k)) hx hb hK hP hD hS 1 0 rfl rfl (by omega) (by decide) dX7_sortIn_31 (fun H locs hP hD hS => ?_)
          have hP : va_P D vwCl [(qd, .inr (6, [.ref qe, .ref qf, .int (nI lr)])), (qf, .inl (cI, 120, .inl (upd G (k + 1) (G k))))] H := hP
          have hD : va_D A [(qd, .inr (6, [.ref qe, .ref qf, .int (nI lr)])), (qf, .inl (cI, 120, .inl (upd G (k + 1) (G k))))] := hD
          refine lv_iinc (v := (nI k)) (lv' := [(3, .int (nI k)), (0, .ref qd), (1, .int x), (2, .int (nI nn))]) hx hb dX7_sortIn_32 hl (k := 3) rfl (by rw [nI_inc_m1]) (by decide) rfl (fun ls hl => ?_)
          refine lv_goto (tgt := 2) hx hb dX7_sortIn_35 (by decide) ?_
          exact ih k (upd G (k + 1) (G k)) (by first | assumption | omega | rfl) hq (by omega) _ _ hP hD hS ls (lv_sub hl [1, 2, 3, 0] rfl)
  exact L2 (nn + 1) nn S (by first | assumption | omega | rfl) rfl (Nat.lt_succ_self _) _ _ hP hD hS ls (lv_sub hl [1, 2, 3, 0] rfl)

set_option maxHeartbeats 4000000 in
set_option maxRecDepth 100000 in
theorem c_X7_distanceFromMiddles (l : Launch) (D : va_G) (cI cZ : ClassId) (qd qe qf lr : Nat) (S : Nat → Int32) (x : Int32) (nn : Nat) (hn : nn < 120) : Ci l yX7_distanceFromMiddles (aw yX7_distanceFromMiddles cX7_distanceFromMiddles 5 (some .int)) ({ frames := 0, cells := 0, slots := 0, locals := 0 }) D cI cZ [.ref qd, .int x, .int (nI nn)] [(qd, .inr (6, [.ref qe, .ref qf, .int (nI lr)])), (qf, .inl (cI, 120, .inl S))] [(qd, .inr (6, [.ref qe, .ref qf, .int (nI lr)])), (qf, .inl (cI, 120, .inl S))] (dm S nn x) := by
  refine mk_any (cc := cX7_distanceFromMiddles) (maxL := 5) (ret := (some .int)) (Qc := fun A => va_Qi (fun rr9 (_ : Unit) => rr9 = dm S nn x) (cb D [(qd, .inr (6, [.ref qe, .ref qf, .int (nI lr)])), (qf, .inl (cI, 120, .inl S))]) A) (plainFor_of_name (by decide)) (Nat.le_of_ble_eq_true rfl) ?_
  intro p e s m args below meth c A Q R hR hQ hx hb hr hml hAW hown hlk hN hA hP hK hD hS ls hl
  have hl : lv_has ls 5 [(0, .ref qd), (1, .int x), (2, .int (nI nn))] := hl
  refine lv_iload_n hx hb dX7_distanceFromMiddles_0 rfl (lv_at hl 2 rfl) ?_
  refine n_if_ne (x := nn) (tgt := 6) hx hb (by omega) dX7_distanceFromMiddles_1 (by decide) (fun c1 => ?_) (fun c1 => ?_)
  · skip
    refine lv_aload_n hx hb dX7_distanceFromMiddles_6 rfl (lv_at hl 0 rfl) ?_
    refine va_get (D := D) (ci := 6) (v := .ref qf) (C := RX7) (T := TX7) (N := 3) hx hb hAW iwX7 hown hK hP 0 rfl rfl 1 (by decide) (hAW _ q182) (fun _ h9 => h9) rfl dX7_distanceFromMiddles_7 ?_
    refine lv_iload_n hx hb dX7_distanceFromMiddles_10 rfl (lv_at hl 2 rfl) ?_
    refine lv_iconst (v := 1) hx hb dX7_distanceFromMiddles_11 (by decide) ?_
    refine n_isub (x := nn) (y := 1) hx hb (by omega) dX7_distanceFromMiddles_12 ?_
    refine lv_iconst (v := 2) hx hb dX7_distanceFromMiddles_13 (by decide) ?_
    refine n_idiv (x := (nn - 1)) (y := 2) hx hb (by omega) (by omega) (by omega) dX7_distanceFromMiddles_14 ?_
    refine n_iald (D := D) (f := S) (i := ((nn - 1) / 2)) hx hb hK hP 1 0 rfl rfl (by omega) (by decide) dX7_distanceFromMiddles_15 ?_
    refine lv_istore_n (lv' := [(3, .int (S ((nn - 1) / 2))), (0, .ref qd), (1, .int x), (2, .int (nI nn))]) hx hb dX7_distanceFromMiddles_16 rfl hl (by decide) rfl (fun ls hl => ?_)
    refine lv_aload_n hx hb dX7_distanceFromMiddles_17 rfl (lv_at hl 1 rfl) ?_
    refine va_get (D := D) (ci := 6) (v := .ref qf) (C := RX7) (T := TX7) (N := 3) hx hb hAW iwX7 hown hK hP 0 rfl rfl 1 (by decide) (hAW _ q182) (fun _ h9 => h9) rfl dX7_distanceFromMiddles_18 ?_
    refine lv_iload_n hx hb dX7_distanceFromMiddles_21 rfl (lv_at hl 3 rfl) ?_
    refine lv_iconst (v := 2) hx hb dX7_distanceFromMiddles_22 (by decide) ?_
    refine n_idiv (x := nn) (y := 2) hx hb (by omega) (by omega) (by omega) dX7_distanceFromMiddles_23 ?_
    refine n_iald (D := D) (f := S) (i := (nn / 2)) hx hb hK hP 1 0 rfl rfl (by omega) (by decide) dX7_distanceFromMiddles_24 ?_
    refine lv_istore (lv' := [(4, .int (S (nn / 2))), (3, .int (S ((nn - 1) / 2))), (0, .ref qd), (1, .int x), (2, .int (nI nn))]) hx hb dX7_distanceFromMiddles_25 hl (by decide) rfl (fun ls hl => ?_)
    refine lv_iload_n hx hb dX7_distanceFromMiddles_27 rfl (lv_at hl 3 rfl) ?_
    refine lv_iload_n hx hb dX7_distanceFromMiddles_28 rfl (lv_at hl 1 rfl) ?_
    refine lv_icmp_ge (tgt := 36) hx hb dX7_distanceFromMiddles_29 (by decide) (fun c29 => ?_) (fun c29 => ?_)
    · skip
      refine lv_iload_n hx hb dX7_distanceFromMiddles_36 rfl (lv_at hl 3 rfl) ?_
      refine lv_iload hx hb dX7_distanceFromMiddles_37 (lv_at hl 0 rfl) ?_
      refine lv_icmp_le (tgt := 49) hx hb dX7_distanceFromMiddles_39 (by decide) (fun c39 => ?_) (fun c39 => ?_)
      · skip
        refine lv_iconst (v := 0) hx hb dX7_distanceFromMiddles_49 (by decide) ?_
        exact fin_i (v := 0) hx hb hr hlk hP hS rfl (by simp only [dm, Nat.pos_iff_ne_zero.mp c1, Int32.not_lt.mpr c29, c39, ↓reduceIte]) rfl hQ dX7_distanceFromMiddles_50
      · skip
        refine lv_iload_n hx hb dX7_distanceFromMiddles_42 rfl (lv_at hl 3 rfl) ?_
        refine lv_iload hx hb dX7_distanceFromMiddles_43 (lv_at hl 0 rfl) ?_
        refine lv_isub hx hb dX7_distanceFromMiddles_45 ?_
        refine lv_goto (tgt := 50) hx hb dX7_distanceFromMiddles_46 (by decide) ?_
        exact fin_i (v := (x - (S (nn / 2)))) hx hb hr hlk hP hS rfl (by simp only [dm, Nat.pos_iff_ne_zero.mp c1, Int32.not_lt.mpr c29, c39, ↓reduceIte]) rfl hQ dX7_distanceFromMiddles_50
    · skip
      refine lv_iload_n hx hb dX7_distanceFromMiddles_32 rfl (lv_at hl 1 rfl) ?_
      refine lv_iload_n hx hb dX7_distanceFromMiddles_33 rfl (lv_at hl 3 rfl) ?_
      refine lv_isub hx hb dX7_distanceFromMiddles_34 ?_
      exact fin_i (v := ((S ((nn - 1) / 2)) - x)) hx hb hr hlk hP hS rfl (by simp only [dm, Nat.pos_iff_ne_zero.mp c1, Int32.not_le.mp c29, ↓reduceIte]) rfl hQ dX7_distanceFromMiddles_35
  · skip
    refine lv_iconst (v := 0) hx hb dX7_distanceFromMiddles_4 (by decide) ?_
    exact fin_i (v := 0) hx hb hr hlk hP hS rfl (by simp only [dm, c1, ↓reduceIte]) rfl hQ dX7_distanceFromMiddles_5

set_option maxHeartbeats 4000000 in
set_option maxRecDepth 100000 in
theorem c_X7_middleOf (l : Launch) (D : va_G) (cI cZ : ClassId) (qb : Nat) (v : Nat → Int32) (qd qe qf lr : Nat) (S : Nat → Int32) (fr tt : Nat) (h1 : fr < tt) (h2 : tt ≤ 120) : Ci l yX7_middleOf (aw yX7_middleOf cX7_middleOf 5 (some .int)) ({ frames := 1, cells := 0, slots := 0, locals := 23 }) D cI cZ [.ref qd, .ref qb, .int (nI fr), .int (nI tt)] [(qb, .inl (cI, 120, .inl v)), (qd, .inr (6, [.ref qe, .ref qf, .int (nI lr)])), (qf, .inl (cI, 120, .inl S))] [(qb, .inl (cI, 120, .inl v)), (qd, .inr (6, [.ref qe, .ref qf, .int (nI lr)])), (qf, .inl (cI, 120, .inl (midL v fr (tt - fr) fr S)))] (midL v fr (tt - fr) fr S ((tt - fr - 1) / 2)) := by
  refine mk_any (cc := cX7_middleOf) (maxL := 5) (ret := (some .int)) (Qc := fun A => va_Qi (fun rr9 (_ : Unit) => rr9 = (midL v fr (tt - fr) fr S ((tt - fr - 1) / 2))) (cb D [(qb, .inl (cI, 120, .inl v)), (qd, .inr (6, [.ref qe, .ref qf, .int (nI lr)])), (qf, .inl (cI, 120, .inl (midL v fr (tt - fr) fr S)))]) A) (plainFor_of_name (by decide)) (Nat.le_of_ble_eq_true rfl) ?_
  intro p e s m args below meth c A Q R hR hQ hx hb hr hml hAW hown hlk hN hA hP hK hD hS ls hl
  have hl : lv_has ls 5 [(0, .ref qd), (1, .ref qb), (2, .int (nI fr)), (3, .int (nI tt))] := hl
  refine lv_iload_n hx hb dX7_middleOf_0 rfl (lv_at hl 2 rfl) ?_
  refine lv_istore (lv' := [(4, .int (nI fr)), (0, .ref qd), (1, .ref qb), (2, .int (nI fr)), (3, .int (nI tt))]) hx hb dX7_middleOf_1 hl (by decide) rfl (fun ls hl => ?_)
  have L3 : ∀ (n : Nat) (d i : Nat) (G : Nat → Int32), i + d = tt → fr ≤ i → midL v fr d i G = midL v fr (tt - fr) fr S → d < n → ∀ (H : Heap) (locs : List Loc), va_P D vwCl [(qb, .inl (cI, 120, .inl v)), (qd, .inr (6, [.ref qe, .ref qf, .int (nI lr)])), (qf, .inl (cI, 120, .inl G))] H → va_D A [(qb, .inl (cI, 120, .inl v)), (qd, .inr (6, [.ref qe, .ref qf, .int (nI lr)])), (qf, .inl (cI, 120, .inl G))] → va_S A s.heap H locs → ∀ (ls : Array Slot), lv_has ls 5 [(0, .ref qd), (1, .ref qb), (2, .int (nI fr)), (3, .int (nI tt)), (4, .int (nI i))] → W p l e R s m args below meth c H locs 0 0 Q (F0 m 3 ls []) := by
    intro n
    induction n with
    | zero => intro d i G hi hf hq hmu; exact absurd (by assumption) (Nat.not_lt_zero _)
    | succ n ih =>
      intro d i G hi hf hq hmu H locs hP hD hS ls hl
      refine lv_iload hx hb dX7_middleOf_3 (lv_at hl 4 rfl) ?_
      refine lv_iload_n hx hb dX7_middleOf_5 rfl (lv_at hl 3 rfl) ?_
      refine n_icmp_ge (x := i) (y := tt) (tgt := 27) hx hb (by omega) (by omega) dX7_middleOf_6 (by decide) (fun c6 => ?_) (fun c6 => ?_)
      · skip
        obtain rfl : d = 0 := by omega
        rw [midL] at hq
        refine lv_aload_n hx hb dX7_middleOf_27 rfl (lv_at hl 0 rfl) ?_
        refine va_get (D := D) (ci := 6) (v := .ref qf) (C := RX7) (T := TX7) (N := 3) hx hb hAW iwX7 hown hK hP 1 rfl rfl 1 (by decide) (hAW _ q182) (fun _ h9 => h9) rfl dX7_middleOf_28 ?_
        refine lv_iload_n hx hb dX7_middleOf_31 rfl (lv_at hl 3 rfl) ?_
        refine lv_iload_n hx hb dX7_middleOf_32 rfl (lv_at hl 2 rfl) ?_
        refine n_isub (x := tt) (y := fr) hx hb (by omega) dX7_middleOf_33 ?_
        refine lv_iconst (v := 1) hx hb dX7_middleOf_34 (by decide) ?_
        refine n_isub (x := (tt - fr)) (y := 1) hx hb (by omega) dX7_middleOf_35 ?_
        refine lv_iconst (v := 2) hx hb dX7_middleOf_36 (by decide) ?_
        refine n_idiv (x := ((tt - fr) - 1)) (y := 2) hx hb (by omega) (by omega) (by omega) dX7_middleOf_37 ?_
        refine n_iald (D := D) (f := G) (i := (((tt - fr) - 1) / 2)) hx hb hK hP 2 0 rfl rfl (by omega) (by decide) dX7_middleOf_38 ?_
        exact fin_i (v := (G (((tt - fr) - 1) / 2))) hx hb hr hlk hP hS rfl (by rw [← hq]) (by rw [← hq]) hQ dX7_middleOf_39
      · skip
        obtain ⟨d, rfl⟩ : ∃ j, d = j + 1 := ⟨d - 1, by omega⟩
        rw [midL] at hq
        refine lv_aload_n hx hb dX7_middleOf_9 rfl (lv_at hl 0 rfl) ?_
        refine lv_aload_n hx hb dX7_middleOf_10 rfl (lv_at hl 1 rfl) ?_
        refine lv_iload hx hb dX7_middleOf_11 (lv_at hl 4 rfl) ?_
        refine n_iald (D := D) (f := v) (i := i) hx hb hK hP 0 0 rfl rfl (by omega) (by decide) dX7_middleOf_13 ?_
        refine lv_iload hx hb dX7_middleOf_14 (lv_at hl 4 rfl) ?_
        refine lv_iload_n hx hb dX7_middleOf_16 rfl (lv_at hl 2 rfl) ?_
        refine n_isub (x := i) (y := fr) hx hb (by omega) dX7_middleOf_17 ?_
        refine call_Vv (D := D) (rest := []) (ws' := [(qb, .inl (cI, 120, .inl v)), (qd, .inr (6, [.ref qe, .ref qf, .int (nI lr)])), (qf, .inl (cI, 120, .inl (sortL (v i) (i - fr) G)))]) hx hb hml hown hAW hN (c_X7_sortIn l D cI cZ qd qe qf lr G (v i) (i - fr) (by omega)) (cwVA 2 hAW q377 q379 q5 q44 q380 hd_X7_sortIn (by rw [hR]; exact Nat.le_of_ble_eq_true rfl) (by rw [hR]; exact Nat.le_of_ble_eq_true rfl) rfl rfl) hK hP hD hS hA [1, 2] rfl rfl rfl rfl rfl (ci := 6) (q0 := 1) rfl rfl rfl rfl hl.1 rfl (lv_room (Nat.le_of_ble_eq_true rfl)) dX7_middleOf_18 (Nat.zero_le _) (Nat.zero_le _) (fun H locs hP hD hS => ?_)
        refine lv_iinc (v := (nI (i + 1))) (lv' := [(4, .int (nI (i + 1))), (0, .ref qd), (1, .ref qb), (2, .int (nI fr)), (3, .int (nI tt))]) hx hb dX7_middleOf_21 hl (k := 4) rfl (nI_inc i 1) (by decide) rfl (fun ls hl => ?_)
        refine lv_goto (tgt := 3) hx hb dX7_middleOf_24 (by decide) ?_
        exact ih d (i + 1) (sortL (v i) (i - fr) G) (by first | assumption | omega | rfl) (by first | assumption | omega | rfl) hq (by omega) _ _ hP hD hS ls (lv_sub hl [1, 2, 3, 4, 0] rfl)
  exact L3 ((tt - fr) + 1) (tt - fr) fr S (by first | assumption | omega | rfl) (by first | assumption | omega | rfl) rfl (Nat.lt_succ_self _) _ _ hP hD hS ls (lv_sub hl [1, 2, 3, 4, 0] rfl)

set_option maxHeartbeats 4000000 in
set_option maxRecDepth 100000 in
theorem c_X7_learnSegmentsTo (l : Launch) (D : va_G) (cI cZ : ClassId) (qb : Nat) (v : Nat → Int32) (qd qe qf lr : Nat) (K S : Nat → Int32) (tt : Nat) (h1 : 0 < tt) (h2 : tt ≤ 120) : Cv l yX7_learnSegmentsTo (aw yX7_learnSegmentsTo cX7_learnSegmentsTo 7 none) ({ frames := 1, cells := 0, slots := 0, locals := 24 }) D cI cZ [.ref qd, .ref qb, .int (nI tt)] [(qb, .inl (cI, 120, .inl v)), (qd, .inr (6, [.ref qe, .ref qf, .int (nI lr)])), (qe, .inl (cI, 7260, .inl K)), (qf, .inl (cI, 120, .inl S))] [(qb, .inl (cI, 120, .inl v)), (qd, .inr (6, [.ref qe, .ref qf, .int (nI lr)])), (qe, .inl (cI, 7260, .inl ((segL v tt tt 0 K S).1))), (qf, .inl (cI, 120, .inl ((segL v tt tt 0 K S).2)))] := by
  refine mk_any (cc := cX7_learnSegmentsTo) (maxL := 7) (ret := none) (Qc := fun A => va_Qv (fun (_ : Unit) => True) (cb D [(qb, .inl (cI, 120, .inl v)), (qd, .inr (6, [.ref qe, .ref qf, .int (nI lr)])), (qe, .inl (cI, 7260, .inl ((segL v tt tt 0 K S).1))), (qf, .inl (cI, 120, .inl ((segL v tt tt 0 K S).2)))]) A) (plainFor_of_name (by decide)) (Nat.le_of_ble_eq_true rfl) ?_
  intro p e s m args below meth c A Q R hR hQ hx hb hr hml hAW hown hlk hN hA hP hK hD hS ls hl
  have hl : lv_has ls 7 [(0, .ref qd), (1, .ref qb), (2, .int (nI tt))] := hl
  refine lv_iload_n hx hb dX7_learnSegmentsTo_0 rfl (lv_at hl 2 rfl) ?_
  refine lv_iconst (v := 1) hx hb dX7_learnSegmentsTo_1 (by decide) ?_
  refine n_isub (x := tt) (y := 1) hx hb (by omega) dX7_learnSegmentsTo_2 ?_
  refine call_Si (D := D) (rest := []) (ws' := [(qb, .inl (cI, 120, .inl v)), (qd, .inr (6, [.ref qe, .ref qf, .int (nI lr)])), (qe, .inl (cI, 7260, .inl K)), (qf, .inl (cI, 120, .inl S))]) hx hb hml hown hAW hN (c_X7_triangle l D cI cZ (tt - 1) (by omega)) (cwSA 1 hAW q178 q179 q44 q180 hd_X7_triangle (by rw [hR]; exact Nat.le_of_ble_eq_true rfl) (by rw [hR]; exact Nat.le_of_ble_eq_true rfl) rfl rfl) hK hP hD hS hA [] rfl rfl rfl rfl rfl rfl hl.1 rfl (lv_room (Nat.le_of_ble_eq_true rfl)) dX7_learnSegmentsTo_3 (Nat.zero_le _) (Nat.zero_le _) (fun H locs hP hD hS => ?_)
  refine lv_istore_n (lv' := [(3, .int (nI (tri (tt - 1)))), (0, .ref qd), (1, .ref qb), (2, .int (nI tt))]) hx hb dX7_learnSegmentsTo_6 rfl hl (by decide) rfl (fun ls hl => ?_)
  refine lv_iconst (v := 0) hx hb dX7_learnSegmentsTo_7 (by decide) ?_
  refine lv_istore (lv' := [(4, .int 0), (3, .int (nI (tri (tt - 1)))), (0, .ref qd), (1, .ref qb), (2, .int (nI tt))]) hx hb dX7_learnSegmentsTo_8 hl (by decide) rfl (fun ls hl => ?_)
  refine lv_iload_n hx hb dX7_learnSegmentsTo_10 rfl (lv_at hl 4 rfl) ?_
  refine lv_iconst (v := 1) hx hb dX7_learnSegmentsTo_11 (by decide) ?_
  refine lv_isub hx hb dX7_learnSegmentsTo_12 ?_
  refine lv_istore (lv' := [(5, .int ((nI tt) - 1)), (4, .int 0), (3, .int (nI (tri (tt - 1)))), (0, .ref qd), (1, .ref qb), (2, .int (nI tt))]) hx hb dX7_learnSegmentsTo_13 hl (by decide) rfl (fun ls hl => ?_)
  have L15 : ∀ (n : Nat) (k : Nat) (co : Int32) (KK SS : Nat → Int32), k ≤ tt → segL v tt k co KK SS = segL v tt tt 0 K S → k < n → ∀ (H : Heap) (locs : List Loc), va_P D vwCl [(qb, .inl (cI, 120, .inl v)), (qd, .inr (6, [.ref qe, .ref qf, .int (nI lr)])), (qe, .inl (cI, 7260, .inl KK)), (qf, .inl (cI, 120, .inl SS))] H → va_D A [(qb, .inl (cI, 120, .inl v)), (qd, .inr (6, [.ref qe, .ref qf, .int (nI lr)])), (qe, .inl (cI, 7260, .inl KK)), (qf, .inl (cI, 120, .inl SS))] → va_S A s.heap H locs → ∀ (ls : Array Slot), lv_has ls 7 [(0, .ref qd), (1, .ref qb), (2, .int (nI tt)), (3, .int (nI (tri (tt - 1)))), (4, .int co), (5, .int (nI k - 1))] → W p l e R s m args below meth c H locs 0 0 Q (F0 m 15 ls []) := by
    intro n
    induction n with
    | zero => intro k co KK SS hk hq hmu; exact absurd (by assumption) (Nat.not_lt_zero _)
    | succ n ih =>
      intro k co KK SS hk hq hmu H locs hP hD hS ls hl
      refine lv_iload hx hb dX7_learnSegmentsTo_15 (lv_at hl 5 rfl) ?_
      refine lv_if_lt (tgt := 70) hx hb dX7_learnSegmentsTo_17 (by decide) (fun c17 => ?_) (fun c17 => ?_)
      · skip
        obtain rfl : k = 0 := (km1_neg (by omega)).mp c17
        rw [segL] at hq
        exact fin_v hx hb hr hlk hP hS (by rw [← hq]) hQ dX7_learnSegmentsTo_70
      · skip
        obtain ⟨k, rfl⟩ : ∃ j, k = j + 1 := ⟨k - 1, by have := mt (km1_neg (k := k) (by omega)).mpr c17; omega⟩
        rw [segL] at hq
        rw [nI_pred] at hl
        refine lv_iload_n hx hb dX7_learnSegmentsTo_20 rfl (lv_at hl 2 rfl) ?_
        refine lv_iconst (v := 1) hx hb dX7_learnSegmentsTo_21 (by decide) ?_
        refine n_isub (x := tt) (y := 1) hx hb (by omega) dX7_learnSegmentsTo_22 ?_
        refine lv_iload hx hb dX7_learnSegmentsTo_23 (lv_at hl 5 rfl) ?_
        refine n_isub (x := (tt - 1)) (y := k) hx hb (by omega) dX7_learnSegmentsTo_25 ?_
        refine lv_istore (lv' := [(6, .int (nI ((tt - 1) - k))), (0, .ref qd), (1, .ref qb), (2, .int (nI tt)), (3, .int (nI (tri (tt - 1)))), (4, .int co), (5, .int (nI k))]) hx hb dX7_learnSegmentsTo_26 hl (by decide) rfl (fun ls hl => ?_)
        refine lv_iload hx hb dX7_learnSegmentsTo_28 (lv_at hl 5 rfl) ?_
        refine lv_aload_n hx hb dX7_learnSegmentsTo_30 rfl (lv_at hl 1 rfl) ?_
        refine lv_aload_n hx hb dX7_learnSegmentsTo_31 rfl (lv_at hl 2 rfl) ?_
        refine lv_iload hx hb dX7_learnSegmentsTo_32 (lv_at hl 6 rfl) ?_
        refine n_iald (D := D) (f := v) (i := k) hx hb hK hP 0 0 rfl rfl (by omega) (by decide) dX7_learnSegmentsTo_34 ?_
        refine lv_iload hx hb dX7_learnSegmentsTo_35 (lv_at hl 0 rfl) ?_
        refine call_Vi (D := D) (rest := [.int co]) (ws' := [(qb, .inl (cI, 120, .inl v)), (qd, .inr (6, [.ref qe, .ref qf, .int (nI lr)])), (qe, .inl (cI, 7260, .inl KK)), (qf, .inl (cI, 120, .inl SS))]) hx hb hml hown hAW hN (c_X7_distanceFromMiddles l D cI cZ qd qe qf lr SS (v k) ((tt - 1) - k) (by omega)) (cwVA 2 hAW q373 q375 q4 q44 q376 hd_X7_distanceFromMiddles (by rw [hR]; exact Nat.le_of_ble_eq_true rfl) (by rw [hR]; exact Nat.le_of_ble_eq_true rfl) rfl rfl) hK hP hD hS hA [1, 3] rfl rfl rfl rfl rfl (ci := 6) (q0 := 1) rfl rfl rfl rfl hl.1 rfl (lv_room (Nat.le_of_ble_eq_true rfl)) dX7_learnSegmentsTo_37 (Nat.zero_le _) (Nat.zero_le _) (fun H locs hP hD hS => ?_)
        refine lv_iadd hx hb dX7_learnSegmentsTo_40 ?_
        refine lv_istore (lv' := [(4, .int (co + (dm SS ((tt - 1) - k) (v k)))), (6, .int (nI ((tt - 1) - k))), (0, .ref qd), (1, .ref qb), (2, .int (nI tt)), (3, .int (nI (tri (tt - 1)))), (5, .int (nI k))]) hx hb dX7_learnSegmentsTo_41 hl (by decide) rfl (fun ls hl => ?_)
        refine lv_aload_n hx hb dX7_learnSegmentsTo_43 rfl (lv_at hl 2 rfl) ?_
        refine va_get (D := D) (ci := 6) (v := .ref qe) (C := RX7) (T := TX7) (N := 3) hx hb hAW iwX7 hown hK hP 1 rfl rfl 0 (by decide) (hAW _ q181) (fun _ h9 => h9) rfl dX7_learnSegmentsTo_44 ?_
        refine lv_iload_n hx hb dX7_learnSegmentsTo_47 rfl (lv_at hl 5 rfl) ?_
        refine lv_iload hx hb dX7_learnSegmentsTo_48 (lv_at hl 6 rfl) ?_
        refine n_iadd (x := (tri (tt - 1))) (y := k) hx hb dX7_learnSegmentsTo_50 ?_
        refine lv_iload hx hb dX7_learnSegmentsTo_51 (lv_at hl 0 rfl) ?_
        refine n_iast (D := D) (f := KK) (i := ((tri (tt - 1)) + k)) (x := (co + (dm SS ((tt - 1) - k) (v k)))) hx hb hK hP hD hS 2 0 rfl rfl (tri_lt (by omega) h2) (by decide) dX7_learnSegmentsTo_53 (fun H locs hP hD hS => ?_)
        have hP : va_P D vwCl [(qb, .inl (cI, 120, .inl v)), (qd, .inr (6, [.ref qe, .ref qf, .int (nI lr)])), (qe, .inl (cI, 7260, .inl (upd KK ((tri (tt - 1)) + k) (co + (dm SS ((tt - 1) - k) (v k)))))), (qf, .inl (cI, 120, .inl SS))] H := hP
        have hD : va_D A [(qb, .inl (cI, 120, .inl v)), (qd, .inr (6, [.ref qe, .ref qf, .int (nI lr)])), (qe, .inl (cI, 7260, .inl (upd KK ((tri (tt - 1)) + k) (co + (dm SS ((tt - 1) - k) (v k)))))), (qf, .inl (cI, 120, .inl SS))] := hD
        refine lv_aload_n hx hb dX7_learnSegmentsTo_54 rfl (lv_at hl 2 rfl) ?_
        refine lv_aload_n hx hb dX7_learnSegmentsTo_55 rfl (lv_at hl 3 rfl) ?_
        refine lv_iload hx hb dX7_learnSegmentsTo_56 (lv_at hl 6 rfl) ?_
        refine n_iald (D := D) (f := v) (i := k) hx hb hK hP 0 0 rfl rfl (by omega) (by decide) dX7_learnSegmentsTo_58 ?_
        refine lv_iload hx hb dX7_learnSegmentsTo_59 (lv_at hl 1 rfl) ?_
        refine call_Vv (D := D) (rest := []) (ws' := [(qb, .inl (cI, 120, .inl v)), (qd, .inr (6, [.ref qe, .ref qf, .int (nI lr)])), (qe, .inl (cI, 7260, .inl (upd KK ((tri (tt - 1)) + k) (co + (dm SS ((tt - 1) - k) (v k)))))), (qf, .inl (cI, 120, .inl (sortL (v k) ((tt - 1) - k) SS)))]) hx hb hml hown hAW hN (c_X7_sortIn l D cI cZ qd qe qf lr SS (v k) ((tt - 1) - k) (by omega)) (cwVA 2 hAW q377 q379 q5 q44 q380 hd_X7_sortIn (by rw [hR]; exact Nat.le_of_ble_eq_true rfl) (by rw [hR]; exact Nat.le_of_ble_eq_true rfl) rfl rfl) hK hP hD hS hA [1, 3] rfl rfl rfl rfl rfl (ci := 6) (q0 := 1) rfl rfl rfl rfl hl.1 rfl (lv_room (Nat.le_of_ble_eq_true rfl)) dX7_learnSegmentsTo_61 (Nat.zero_le _) (Nat.zero_le _) (fun H locs hP hD hS => ?_)
        refine lv_iinc (v := (nI k - 1)) (lv' := [(5, .int (nI k - 1)), (4, .int (co + (dm SS ((tt - 1) - k) (v k)))), (6, .int (nI ((tt - 1) - k))), (0, .ref qd), (1, .ref qb), (2, .int (nI tt)), (3, .int (nI (tri (tt - 1))))]) hx hb dX7_learnSegmentsTo_64 hl (k := 6) rfl (nI_m1 k) (by decide) rfl (fun ls hl => ?_)
        refine lv_goto (tgt := 15) hx hb dX7_learnSegmentsTo_67 (by decide) ?_
        exact ih k (co + (dm SS ((tt - 1) - k) (v k))) (upd KK ((tri (tt - 1)) + k) (co + (dm SS ((tt - 1) - k) (v k)))) (sortL (v k) ((tt - 1) - k) SS) (by first | assumption | omega | rfl) hq (by omega) _ _ hP hD hS ls (lv_sub hl [3, 4, 5, 6, 1, 0] rfl)
  exact L15 (tt + 1) tt 0 K S (by first | assumption | omega | rfl) rfl (Nat.lt_succ_self _) _ _ hP hD hS ls (lv_sub hl [3, 4, 5, 2, 1, 0] rfl)

set_option maxHeartbeats 4000000 in
set_option maxRecDepth 100000 in
theorem c_X7_learn (l : Launch) (D : va_G) (cI cZ : ClassId) (qb : Nat) (v : Nat → Int32) (qd qe qf lr : Nat) (K S : Nat → Int32) (en : Nat) (h1 : lr ≤ en) (h2 : en ≤ 120) : Cv l yX7_learn (aw yX7_learn cX7_learn 4 none) ({ frames := 2, cells := 0, slots := 0, locals := 50 }) D cI cZ [.ref qd, .ref qb, .int (nI en)] [(qb, .inl (cI, 120, .inl v)), (qd, .inr (6, [.ref qe, .ref qf, .int (nI lr)])), (qe, .inl (cI, 7260, .inl K)), (qf, .inl (cI, 120, .inl S))] [(qb, .inl (cI, 120, .inl v)), (qd, .inr (6, [.ref qe, .ref qf, .int (nI en)])), (qe, .inl (cI, 7260, .inl ((learL v (en - lr) lr K S).1))), (qf, .inl (cI, 120, .inl ((learL v (en - lr) lr K S).2)))] := by
  refine mk_any (cc := cX7_learn) (maxL := 4) (ret := none) (Qc := fun A => va_Qv (fun (_ : Unit) => True) (cb D [(qb, .inl (cI, 120, .inl v)), (qd, .inr (6, [.ref qe, .ref qf, .int (nI en)])), (qe, .inl (cI, 7260, .inl ((learL v (en - lr) lr K S).1))), (qf, .inl (cI, 120, .inl ((learL v (en - lr) lr K S).2)))]) A) (plainFor_of_name (by decide)) (Nat.le_of_ble_eq_true rfl) ?_
  intro p e s m args below meth c A Q R hR hQ hx hb hr hml hAW hown hlk hN hA hP hK hD hS ls hl
  have hl : lv_has ls 4 [(0, .ref qd), (1, .ref qb), (2, .int (nI en))] := hl
  refine lv_aload_n hx hb dX7_learn_0 rfl (lv_at hl 0 rfl) ?_
  refine va_get (D := D) (ci := 6) (v := .int (nI lr)) (C := RX7) (T := TX7) (N := 3) hx hb hAW iwX7 hown hK hP 1 rfl rfl 2 (by decide) (hAW _ q183) (fun _ h9 => h9) rfl dX7_learn_1 ?_
  refine lv_iconst (v := 1) hx hb dX7_learn_4 (by decide) ?_
  refine n_iadd (x := lr) (y := 1) hx hb dX7_learn_5 ?_
  refine lv_istore_n (lv' := [(3, .int (nI (lr + 1))), (0, .ref qd), (1, .ref qb), (2, .int (nI en))]) hx hb dX7_learn_6 rfl hl (by decide) rfl (fun ls hl => ?_)
  have L7 : ∀ (n : Nat) (d g : Nat) (KK SS : Nat → Int32), g + d = en → learL v d g KK SS = learL v (en - lr) lr K S → d < n → ∀ (H : Heap) (locs : List Loc), va_P D vwCl [(qb, .inl (cI, 120, .inl v)), (qd, .inr (6, [.ref qe, .ref qf, .int (nI g)])), (qe, .inl (cI, 7260, .inl KK)), (qf, .inl (cI, 120, .inl SS))] H → va_D A [(qb, .inl (cI, 120, .inl v)), (qd, .inr (6, [.ref qe, .ref qf, .int (nI g)])), (qe, .inl (cI, 7260, .inl KK)), (qf, .inl (cI, 120, .inl SS))] → va_S A s.heap H locs → ∀ (ls : Array Slot), lv_has ls 4 [(0, .ref qd), (1, .ref qb), (2, .int (nI en)), (3, .int (nI (g + 1)))] → W p l e R s m args below meth c H locs 0 0 Q (F0 m 7 ls []) := by
    intro n
    induction n with
    | zero => intro d g KK SS hg hq hmu; exact absurd (by assumption) (Nat.not_lt_zero _)
    | succ n ih =>
      intro d g KK SS hg hq hmu H locs hP hD hS ls hl
      refine lv_iload_n hx hb dX7_learn_7 rfl (lv_at hl 3 rfl) ?_
      refine lv_iload_n hx hb dX7_learn_8 rfl (lv_at hl 2 rfl) ?_
      refine n_icmp_gt (x := (g + 1)) (y := en) (tgt := 29) hx hb (by omega) (by omega) dX7_learn_9 (by decide) (fun c9 => ?_) (fun c9 => ?_)
      · skip
        obtain rfl : d = 0 := by omega
        rw [learL] at hq
        exact fin_v hx hb hr hlk hP hS (by have hge : g = en := (by omega); subst hge; rw [← hq]) hQ dX7_learn_29
      · skip
        obtain ⟨d, rfl⟩ : ∃ j, d = j + 1 := ⟨d - 1, by omega⟩
        rw [learL] at hq
        refine lv_aload_n hx hb dX7_learn_12 rfl (lv_at hl 0 rfl) ?_
        refine lv_aload_n hx hb dX7_learn_13 rfl (lv_at hl 1 rfl) ?_
        refine lv_iload_n hx hb dX7_learn_14 rfl (lv_at hl 3 rfl) ?_
        refine call_Vv (D := D) (rest := []) (ws' := [(qb, .inl (cI, 120, .inl v)), (qd, .inr (6, [.ref qe, .ref qf, .int (nI g)])), (qe, .inl (cI, 7260, .inl ((segL v (g + 1) (g + 1) 0 KK SS).1))), (qf, .inl (cI, 120, .inl ((segL v (g + 1) (g + 1) 0 KK SS).2)))]) hx hb hml hown hAW hN (c_X7_learnSegmentsTo l D cI cZ qb v qd qe qf g KK SS (g + 1) (by omega) (by omega)) (cwVA 2 hAW q369 q371 q3 q44 q372 hd_X7_learnSegmentsTo (by rw [hR]; exact Nat.le_of_ble_eq_true rfl) (by rw [hR]; exact Nat.le_of_ble_eq_true rfl) rfl rfl) hK hP hD hS hA [0, 1, 2, 3] rfl rfl rfl rfl rfl (ci := 6) (q0 := 1) rfl rfl rfl rfl hl.1 rfl (lv_room (Nat.le_of_ble_eq_true rfl)) dX7_learn_15 (Nat.zero_le _) (Nat.zero_le _) (fun H locs hP hD hS => ?_)
        refine lv_aload_n hx hb dX7_learn_18 rfl (lv_at hl 0 rfl) ?_
        refine lv_iload_n hx hb dX7_learn_19 rfl (lv_at hl 3 rfl) ?_
        refine va_put (D := D) (ci := 6) (v := .int (nI (g + 1))) (ty := .int) (C := RX7) (T := TX7) (N := 3) hx hb hAW iwX7 tyX7 tyX7_ok nmX7 hown hK hP hD hS 1 rfl rfl 2 (by decide) (hAW _ q183) (fun _ h9 => h9) rfl (tyX7_ok 2 (by decide)) rfl rfl (Nat.le_of_ble_eq_true rfl) dX7_learn_20 (fun H locs hP hD hS => ?_)
        have hP : va_P D vwCl [(qb, .inl (cI, 120, .inl v)), (qd, .inr (6, [.ref qe, .ref qf, .int (nI (g + 1))])), (qe, .inl (cI, 7260, .inl ((segL v (g + 1) (g + 1) 0 KK SS).1))), (qf, .inl (cI, 120, .inl ((segL v (g + 1) (g + 1) 0 KK SS).2)))] H := hP
        have hD : va_D A [(qb, .inl (cI, 120, .inl v)), (qd, .inr (6, [.ref qe, .ref qf, .int (nI (g + 1))])), (qe, .inl (cI, 7260, .inl ((segL v (g + 1) (g + 1) 0 KK SS).1))), (qf, .inl (cI, 120, .inl ((segL v (g + 1) (g + 1) 0 KK SS).2)))] := hD
        refine lv_iinc (v := (nI (g + 1 + 1))) (lv' := [(3, .int (nI (g + 1 + 1))), (0, .ref qd), (1, .ref qb), (2, .int (nI en))]) hx hb dX7_learn_23 hl (k := 3) rfl (nI_inc (g + 1) 1) (by decide) rfl (fun ls hl => ?_)
        refine lv_goto (tgt := 7) hx hb dX7_learn_26 (by decide) ?_
        exact ih d (g + 1) ((segL v (g + 1) (g + 1) 0 KK SS).1) ((segL v (g + 1) (g + 1) 0 KK SS).2) (by first | assumption | omega | rfl) hq (by omega) _ _ hP hD hS ls (lv_sub hl [1, 2, 3, 0] rfl)
  exact L7 ((en - lr) + 1) (en - lr) lr K S (by first | assumption | omega | rfl) rfl (Nat.lt_succ_self _) _ _ hP hD hS ls (lv_sub hl [1, 2, 3, 0] rfl)
end
