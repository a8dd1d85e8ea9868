/-! the good words of the tables, all in one list, and which words are among them -/
def AW : List Cond := lw_tbl.filter goodWord
theorem aw_good {w : Cond} (h : w ∈ AW) : goodWord w = true := (List.mem_filter.mp h).2
theorem aw_tbl {w : Cond} (h : w ∈ AW) : w ∈ lw_tbl := (List.mem_filter.mp h).1
theorem aw_in {w : Cond} (i : Nat) (h : lw_tbl[i]? = some w) (g : goodWord w = true) : w ∈ AW := List.mem_filter.mpr ⟨List.mem_of_getElem? h, g⟩
abbrev aw (y : MethodName) (c : ByteArray) (n : Nat) (r : Option FieldType) : List Cond := Cond.code y c n r :: AW
theorem gAW {c0 : Cond} {ws : List Cond} (h : ∀ w ∈ ws, w ∈ AW) : GoodIn (c0 :: AW) ws := fun w hw => ⟨List.mem_cons_of_mem _ (h w hw), good_of_word (aw_good (h w hw))⟩
/-- the links of fields across the nest: they travel beside the words -/
abbrev NL : List (String × Nat × String × String × String × String) := [(RX8, 36, "Breakpoint$AlarmList", "kinds", "[I", "Breakpoint"), (RX9, 145, "Breakpoint$AlarmList", "kinds", "[I", "Breakpoint"), (RX8, 40, "Breakpoint$AlarmList", "numbers", "[I", "Breakpoint"), (RX9, 148, "Breakpoint$AlarmList", "numbers", "[I", "Breakpoint"), (RX9, 151, "Breakpoint$AlarmList", "starts", "[I", "Breakpoint"), (RX8, 31, "Breakpoint$AlarmList", "alarmCount", "I", "Breakpoint"), (RX9, 121, "Breakpoint$AlarmList", "alarmCount", "I", "Breakpoint"), (RX9, 130, "Breakpoint$CumulativeSums", "high", "I", "Breakpoint"), (RX9, 133, "Breakpoint$CumulativeSums", "low", "I", "Breakpoint"), (RX9, 136, "Breakpoint$PageHinkley", "sum", "I", "Breakpoint"), (RX9, 139, "Breakpoint$PageHinkley", "leastSum", "I", "Breakpoint"), (RX9, 174, "Breakpoint$Cutting", "cuts", "I", "Breakpoint"), (RX9, 181, "Breakpoint$Cutting", "price", "I", "Breakpoint"), (RX9, 214, "Breakpoint$Cutting", "stands", "Z", "Breakpoint"), (RX9, 192, "Breakpoint$Truth", "marked", "[Z", "Breakpoint"), (RX9, 200, "Breakpoint$Truth", "hits", "I", "Breakpoint"), (RX9, 203, "Breakpoint$Truth", "misses", "I", "Breakpoint"), (RX9, 206, "Breakpoint$Truth", "delays", "I", "Breakpoint")]
def nlw (z : String × Nat × String × String × String × String) : Cond := .fieldLinkNest z.1 z.2.1 z.2.2.1 z.2.2.2.1 z.2.2.2.2.1 z.2.2.2.2.2
def nwAll (U : State) : Prop := ∀ z ∈ NL, va_Nw (nlw z) U
theorem nwAll.same {u U : State} (h : u.vm = U.vm) (hN : nwAll u) : nwAll U := fun z hz => va_Nw.same rfl h (hN z hz)
theorem nwAll.warm {s U : State} (hW : s.WarmedH U.vm) (hN : nwAll s) : nwAll U := fun z hz => va_Nw.warmF hW (hN z hz)
theorem nw_use {args : Array Value} {s : State} (hN : nwAll s) {z : String × Nat × String × String × String × String} (hz : z ∈ NL) : (nlw z).before args s = true := va_Nw.use rfl (hN z hz)
theorem nq54 : (RX8, 36, "Breakpoint$AlarmList", "kinds", "[I", "Breakpoint") ∈ NL := List.mem_of_getElem? (i := 0) rfl
theorem nq55 : (RX9, 145, "Breakpoint$AlarmList", "kinds", "[I", "Breakpoint") ∈ NL := List.mem_of_getElem? (i := 1) rfl
theorem nq57 : (RX8, 40, "Breakpoint$AlarmList", "numbers", "[I", "Breakpoint") ∈ NL := List.mem_of_getElem? (i := 2) rfl
theorem nq58 : (RX9, 148, "Breakpoint$AlarmList", "numbers", "[I", "Breakpoint") ∈ NL := List.mem_of_getElem? (i := 3) rfl
theorem nq60 : (RX9, 151, "Breakpoint$AlarmList", "starts", "[I", "Breakpoint") ∈ NL := List.mem_of_getElem? (i := 4) rfl
theorem nq62 : (RX8, 31, "Breakpoint$AlarmList", "alarmCount", "I", "Breakpoint") ∈ NL := List.mem_of_getElem? (i := 5) rfl
theorem nq63 : (RX9, 121, "Breakpoint$AlarmList", "alarmCount", "I", "Breakpoint") ∈ NL := List.mem_of_getElem? (i := 6) rfl
theorem nq92 : (RX9, 130, "Breakpoint$CumulativeSums", "high", "I", "Breakpoint") ∈ NL := List.mem_of_getElem? (i := 7) rfl
theorem nq94 : (RX9, 133, "Breakpoint$CumulativeSums", "low", "I", "Breakpoint") ∈ NL := List.mem_of_getElem? (i := 8) rfl
theorem nq132 : (RX9, 136, "Breakpoint$PageHinkley", "sum", "I", "Breakpoint") ∈ NL := List.mem_of_getElem? (i := 9) rfl
theorem nq134 : (RX9, 139, "Breakpoint$PageHinkley", "leastSum", "I", "Breakpoint") ∈ NL := List.mem_of_getElem? (i := 10) rfl
theorem nq210 : (RX9, 174, "Breakpoint$Cutting", "cuts", "I", "Breakpoint") ∈ NL := List.mem_of_getElem? (i := 11) rfl
theorem nq212 : (RX9, 181, "Breakpoint$Cutting", "price", "I", "Breakpoint") ∈ NL := List.mem_of_getElem? (i := 12) rfl
theorem nq214 : (RX9, 214, "Breakpoint$Cutting", "stands", "Z", "Breakpoint") ∈ NL := List.mem_of_getElem? (i := 13) rfl
theorem nq232 : (RX9, 192, "Breakpoint$Truth", "marked", "[Z", "Breakpoint") ∈ NL := List.mem_of_getElem? (i := 14) rfl
theorem nq235 : (RX9, 200, "Breakpoint$Truth", "hits", "I", "Breakpoint") ∈ NL := List.mem_of_getElem? (i := 15) rfl
theorem nq237 : (RX9, 203, "Breakpoint$Truth", "misses", "I", "Breakpoint") ∈ NL := List.mem_of_getElem? (i := 16) rfl
theorem nq239 : (RX9, 206, "Breakpoint$Truth", "delays", "I", "Breakpoint") ∈ NL := List.mem_of_getElem? (i := 17) rfl
theorem nl_in : ∀ z ∈ NL, nlw z ∈ lw_tbl := by
  intro z hz
  simp only [NL, List.mem_cons, List.not_mem_nil, or_false] at hz
  rcases hz with rfl | rfl | rfl | rfl | rfl | rfl | rfl | rfl | rfl | rfl | rfl | rfl | rfl | rfl | rfl | rfl | rfl | rfl
  · exact List.mem_of_getElem? (i := 54) (by decide +kernel)
  · exact List.mem_of_getElem? (i := 55) (by decide +kernel)
  · exact List.mem_of_getElem? (i := 57) (by decide +kernel)
  · exact List.mem_of_getElem? (i := 58) (by decide +kernel)
  · exact List.mem_of_getElem? (i := 60) (by decide +kernel)
  · exact List.mem_of_getElem? (i := 62) (by decide +kernel)
  · exact List.mem_of_getElem? (i := 63) (by decide +kernel)
  · exact List.mem_of_getElem? (i := 92) (by decide +kernel)
  · exact List.mem_of_getElem? (i := 94) (by decide +kernel)
  · exact List.mem_of_getElem? (i := 132) (by decide +kernel)
  · exact List.mem_of_getElem? (i := 134) (by decide +kernel)
  · exact List.mem_of_getElem? (i := 210) (by decide +kernel)
  · exact List.mem_of_getElem? (i := 212) (by decide +kernel)
  · exact List.mem_of_getElem? (i := 214) (by decide +kernel)
  · exact List.mem_of_getElem? (i := 232) (by decide +kernel)
  · exact List.mem_of_getElem? (i := 235) (by decide +kernel)
  · exact List.mem_of_getElem? (i := 237) (by decide +kernel)
  · exact List.mem_of_getElem? (i := 239) (by decide +kernel)
theorem nw_of {args : Array Value} {s : State} (hts : ∀ w ∈ lw_tbl, w.before args s = true) : nwAll s := by
  intro z hz
  refine va_Nw.of rfl (hts (nlw z) ?_)
  exact nl_in z hz
theorem q1 : Cond.selects RX9 yX9_forgetCuttings yX9_forgetCuttings ∈ AW := aw_in 1 (by decide +kernel) rfl
theorem q2 : Cond.selects RX9 yX9_take yX9_take ∈ AW := aw_in 2 (by decide +kernel) rfl
theorem q3 : Cond.selects RX2 yX2_moveSums yX2_moveSums ∈ AW := aw_in 3 (by decide +kernel) rfl
theorem q4 : Cond.selects RX6 yX6_moveSum yX6_moveSum ∈ AW := aw_in 4 (by decide +kernel) rfl
theorem q5 : Cond.selects RX6 yX6_mean yX6_mean ∈ AW := aw_in 5 (by decide +kernel) rfl
theorem q6 : Cond.selects RX6 yX6_startOfGrowth yX6_startOfGrowth ∈ AW := aw_in 6 (by decide +kernel) rfl
theorem q7 : Cond.selects RX9 yX9_isValueNumber yX9_isValueNumber ∈ AW := aw_in 7 (by decide +kernel) rfl
theorem q8 : Cond.selects RX9 yX9_isSegment yX9_isSegment ∈ AW := aw_in 8 (by decide +kernel) rfl
theorem q9 : Cond.selects RX9 yX9_learntCosts yX9_learntCosts ∈ AW := aw_in 9 (by decide +kernel) rfl
theorem q10 : Cond.selects RX7 yX7_learnSegmentsTo yX7_learnSegmentsTo ∈ AW := aw_in 10 (by decide +kernel) rfl
theorem q11 : Cond.selects RX7 yX7_distanceFromMiddles yX7_distanceFromMiddles ∈ AW := aw_in 11 (by decide +kernel) rfl
theorem q12 : Cond.selects RX7 yX7_sortIn yX7_sortIn ∈ AW := aw_in 12 (by decide +kernel) rfl
theorem q13 : Cond.selects RX9 yX9_bestCutting yX9_bestCutting ∈ AW := aw_in 13 (by decide +kernel) rfl
theorem q14 : Cond.selects RX1 yX1_findFrom yX1_findFrom ∈ AW := aw_in 14 (by decide +kernel) rfl
theorem q15 : Cond.selects RX9 yX9_greedyCutting yX9_greedyCutting ∈ AW := aw_in 15 (by decide +kernel) rfl
theorem q16 : Cond.selects RX5 yX5_learnCuttingsTo yX5_learnCuttingsTo ∈ AW := aw_in 16 (by decide +kernel) rfl
theorem q17 : Cond.selects RX5 yX5_leastWithLastSegment yX5_leastWithLastSegment ∈ AW := aw_in 17 (by decide +kernel) rfl
theorem q18 : Cond.selects RX9 yX9_matchAlarms yX9_matchAlarms ∈ AW := aw_in 18 (by decide +kernel) rfl
theorem q19 : Cond.selects RX8 yX8_beginMatching yX8_beginMatching ∈ AW := aw_in 19 (by decide +kernel) rfl
theorem q20 : Cond.selects RX8 yX8_matchAlarm yX8_matchAlarm ∈ AW := aw_in 20 (by decide +kernel) rfl
theorem q21 : Cond.initialized RL ∈ AW := aw_in 21 (by decide +kernel) rfl
theorem q22 : Cond.initialized RX9 ∈ AW := aw_in 22 (by decide +kernel) rfl
theorem q23 : Cond.initialized RX0 ∈ AW := aw_in 23 (by decide +kernel) rfl
theorem q24 : Cond.initialized RX2 ∈ AW := aw_in 24 (by decide +kernel) rfl
theorem q25 : Cond.initialized RX6 ∈ AW := aw_in 25 (by decide +kernel) rfl
theorem q26 : Cond.initialized RX7 ∈ AW := aw_in 26 (by decide +kernel) rfl
theorem q27 : Cond.initialized RX5 ∈ AW := aw_in 27 (by decide +kernel) rfl
theorem q28 : Cond.initialized RX1 ∈ AW := aw_in 28 (by decide +kernel) rfl
theorem q29 : Cond.initialized RX3 ∈ AW := aw_in 29 (by decide +kernel) rfl
theorem q30 : Cond.initialized RX8 ∈ AW := aw_in 30 (by decide +kernel) rfl
theorem q31 : Cond.initialized "java/lang/Throwable" ∈ AW := aw_in 31 (by decide +kernel) rfl
theorem q32 : Cond.initialized "java/lang/Exception" ∈ AW := aw_in 32 (by decide +kernel) rfl
theorem q33 : Cond.initialized "java/lang/RuntimeException" ∈ AW := aw_in 33 (by decide +kernel) rfl
theorem q34 : Cond.initialized "java/lang/IndexOutOfBoundsException" ∈ AW := aw_in 34 (by decide +kernel) rfl
theorem q35 : Cond.initialized RX4 ∈ AW := aw_in 35 (by decide +kernel) rfl
theorem q36 : Cond.initialized "java/lang/IllegalArgumentException" ∈ AW := aw_in 36 (by decide +kernel) rfl
theorem q37 : Cond.initialized RJ9 ∈ AW := aw_in 37 (by decide +kernel) rfl
theorem q38 : Cond.initialized "java/lang/IllegalStateException" ∈ AW := aw_in 38 (by decide +kernel) rfl
theorem q39 : Cond.classLink RL 9 RX9 ∈ AW := aw_in 39 (by decide +kernel) rfl
theorem q40 : Cond.instantiable RX9 12 ∈ AW := aw_in 40 (by decide +kernel) rfl
theorem q41 : Cond.methodLink RL 159 yX9_init ∈ AW := aw_in 41 (by decide +kernel) rfl
theorem q42 : Cond.instanceMethod yX9_init ∈ AW := aw_in 42 (by decide +kernel) rfl
theorem q43 : Cond.code yX9_init cX9_init 1 none ∈ AW := aw_in 43 (by decide +kernel) rfl
theorem q44 : Cond.methodLink RX9 1 objectInit ∈ AW := aw_in 44 (by decide +kernel) rfl
theorem q45 : Cond.instanceMethod objectInit ∈ AW := aw_in 45 (by decide +kernel) rfl
theorem q46 : Cond.code objectInit ⟨#[0xb1]⟩ 1 none ∈ AW := aw_in 46 (by decide +kernel) rfl
theorem q47 : Cond.classLink RX9 13 RX0 ∈ AW := aw_in 47 (by decide +kernel) rfl
theorem q48 : Cond.instantiable RX0 4 ∈ AW := aw_in 48 (by decide +kernel) rfl
theorem q49 : Cond.methodLink RX9 15 yX0_init ∈ AW := aw_in 49 (by decide +kernel) rfl
theorem q50 : Cond.instanceMethod yX0_init ∈ AW := aw_in 50 (by decide +kernel) rfl
theorem q51 : Cond.code yX0_init cX0_init 1 none ∈ AW := aw_in 51 (by decide +kernel) rfl
theorem q52 : Cond.methodLink RX0 3 objectInit ∈ AW := aw_in 52 (by decide +kernel) rfl
theorem q53 : Cond.fieldLink RX0 11 "Breakpoint$AlarmList" "kinds" "[I" ∈ AW := aw_in 53 (by decide +kernel) rfl
theorem q56 : Cond.fieldLink RX0 15 "Breakpoint$AlarmList" "numbers" "[I" ∈ AW := aw_in 56 (by decide +kernel) rfl
theorem q59 : Cond.fieldLink RX0 18 "Breakpoint$AlarmList" "starts" "[I" ∈ AW := aw_in 59 (by decide +kernel) rfl
theorem q61 : Cond.fieldLink RX0 21 "Breakpoint$AlarmList" "alarmCount" "I" ∈ AW := aw_in 61 (by decide +kernel) rfl
theorem q64 : Cond.laysFinal "Breakpoint$AlarmList" "Breakpoint$AlarmList" "kinds" "[I" ∈ AW := aw_in 64 (by decide +kernel) rfl
theorem q66 : Cond.laysFinal "Breakpoint$AlarmList" "Breakpoint$AlarmList" "numbers" "[I" ∈ AW := aw_in 66 (by decide +kernel) rfl
theorem q68 : Cond.laysFinal "Breakpoint$AlarmList" "Breakpoint$AlarmList" "starts" "[I" ∈ AW := aw_in 68 (by decide +kernel) rfl
theorem q70 : Cond.lays "Breakpoint$AlarmList" "Breakpoint$AlarmList" "alarmCount" "I" ∈ AW := aw_in 70 (by decide +kernel) rfl
theorem q73 : Cond.arrayClass .int ∈ AW := aw_in 73 (by decide +kernel) rfl
theorem q74 : Cond.classLink RX9 20 RX2 ∈ AW := aw_in 74 (by decide +kernel) rfl
theorem q75 : Cond.instantiable RX2 7 ∈ AW := aw_in 75 (by decide +kernel) rfl
theorem q76 : Cond.methodLink RX9 22 yX2_init ∈ AW := aw_in 76 (by decide +kernel) rfl
theorem q77 : Cond.instanceMethod yX2_init ∈ AW := aw_in 77 (by decide +kernel) rfl
theorem q78 : Cond.code yX2_init cX2_init 1 none ∈ AW := aw_in 78 (by decide +kernel) rfl
theorem q79 : Cond.methodLink RX2 3 objectInit ∈ AW := aw_in 79 (by decide +kernel) rfl
theorem q80 : Cond.methodLink RX2 9 yX2_setUp ∈ AW := aw_in 80 (by decide +kernel) rfl
theorem q81 : Cond.instanceMethod yX2_setUp ∈ AW := aw_in 81 (by decide +kernel) rfl
theorem q82 : Cond.selects RX2 yX2_setUp yX2_setUp ∈ AW := aw_in 82 (by decide +kernel) rfl
theorem q83 : Cond.code yX2_setUp cX2_setUp 4 none ∈ AW := aw_in 83 (by decide +kernel) rfl
theorem q84 : Cond.methodLink RX2 25 yX2_beginAnew ∈ AW := aw_in 84 (by decide +kernel) rfl
theorem q85 : Cond.instanceMethod yX2_beginAnew ∈ AW := aw_in 85 (by decide +kernel) rfl
theorem q86 : Cond.selects RX2 yX2_beginAnew yX2_beginAnew ∈ AW := aw_in 86 (by decide +kernel) rfl
theorem q87 : Cond.code yX2_beginAnew cX2_beginAnew 1 none ∈ AW := aw_in 87 (by decide +kernel) rfl
theorem q88 : Cond.fieldLink RX2 15 "Breakpoint$CumulativeSums" "target" "I" ∈ AW := aw_in 88 (by decide +kernel) rfl
theorem q89 : Cond.fieldLink RX2 19 "Breakpoint$CumulativeSums" "slack" "I" ∈ AW := aw_in 89 (by decide +kernel) rfl
theorem q90 : Cond.fieldLink RX2 22 "Breakpoint$CumulativeSums" "threshold" "I" ∈ AW := aw_in 90 (by decide +kernel) rfl
theorem q91 : Cond.fieldLink RX2 28 "Breakpoint$CumulativeSums" "high" "I" ∈ AW := aw_in 91 (by decide +kernel) rfl
theorem q93 : Cond.fieldLink RX2 31 "Breakpoint$CumulativeSums" "low" "I" ∈ AW := aw_in 93 (by decide +kernel) rfl
theorem q95 : Cond.fieldLink RX2 38 "Breakpoint$CumulativeSums" "highStart" "I" ∈ AW := aw_in 95 (by decide +kernel) rfl
theorem q96 : Cond.fieldLink RX2 46 "Breakpoint$CumulativeSums" "lowStart" "I" ∈ AW := aw_in 96 (by decide +kernel) rfl
theorem q97 : Cond.lays "Breakpoint$CumulativeSums" "Breakpoint$CumulativeSums" "target" "I" ∈ AW := aw_in 97 (by decide +kernel) rfl
theorem q99 : Cond.lays "Breakpoint$CumulativeSums" "Breakpoint$CumulativeSums" "slack" "I" ∈ AW := aw_in 99 (by decide +kernel) rfl
theorem q101 : Cond.lays "Breakpoint$CumulativeSums" "Breakpoint$CumulativeSums" "threshold" "I" ∈ AW := aw_in 101 (by decide +kernel) rfl
theorem q103 : Cond.lays "Breakpoint$CumulativeSums" "Breakpoint$CumulativeSums" "high" "I" ∈ AW := aw_in 103 (by decide +kernel) rfl
theorem q105 : Cond.lays "Breakpoint$CumulativeSums" "Breakpoint$CumulativeSums" "low" "I" ∈ AW := aw_in 105 (by decide +kernel) rfl
theorem q107 : Cond.lays "Breakpoint$CumulativeSums" "Breakpoint$CumulativeSums" "highStart" "I" ∈ AW := aw_in 107 (by decide +kernel) rfl
theorem q109 : Cond.lays "Breakpoint$CumulativeSums" "Breakpoint$CumulativeSums" "lowStart" "I" ∈ AW := aw_in 109 (by decide +kernel) rfl
theorem q112 : Cond.classLink RX9 27 RX6 ∈ AW := aw_in 112 (by decide +kernel) rfl
theorem q113 : Cond.instantiable RX6 8 ∈ AW := aw_in 113 (by decide +kernel) rfl
theorem q114 : Cond.methodLink RX9 29 yX6_init ∈ AW := aw_in 114 (by decide +kernel) rfl
theorem q115 : Cond.instanceMethod yX6_init ∈ AW := aw_in 115 (by decide +kernel) rfl
theorem q116 : Cond.code yX6_init cX6_init 1 none ∈ AW := aw_in 116 (by decide +kernel) rfl
theorem q117 : Cond.methodLink RX6 3 objectInit ∈ AW := aw_in 117 (by decide +kernel) rfl
theorem q118 : Cond.methodLink RX6 11 yX6_setUp ∈ AW := aw_in 118 (by decide +kernel) rfl
theorem q119 : Cond.instanceMethod yX6_setUp ∈ AW := aw_in 119 (by decide +kernel) rfl
theorem q120 : Cond.selects RX6 yX6_setUp yX6_setUp ∈ AW := aw_in 120 (by decide +kernel) rfl
theorem q121 : Cond.code yX6_setUp cX6_setUp 4 none ∈ AW := aw_in 121 (by decide +kernel) rfl
theorem q122 : Cond.methodLink RX6 25 yX6_beginAnew ∈ AW := aw_in 122 (by decide +kernel) rfl
theorem q123 : Cond.instanceMethod yX6_beginAnew ∈ AW := aw_in 123 (by decide +kernel) rfl
theorem q124 : Cond.selects RX6 yX6_beginAnew yX6_beginAnew ∈ AW := aw_in 124 (by decide +kernel) rfl
theorem q125 : Cond.code yX6_beginAnew cX6_beginAnew 1 none ∈ AW := aw_in 125 (by decide +kernel) rfl
theorem q126 : Cond.fieldLink RX6 15 "Breakpoint$PageHinkley" "allowance" "I" ∈ AW := aw_in 126 (by decide +kernel) rfl
theorem q127 : Cond.fieldLink RX6 19 "Breakpoint$PageHinkley" "forgetting" "I" ∈ AW := aw_in 127 (by decide +kernel) rfl
theorem q128 : Cond.fieldLink RX6 22 "Breakpoint$PageHinkley" "limit" "I" ∈ AW := aw_in 128 (by decide +kernel) rfl
theorem q129 : Cond.fieldLink RX6 28 "Breakpoint$PageHinkley" "counted" "I" ∈ AW := aw_in 129 (by decide +kernel) rfl
theorem q130 : Cond.fieldLink RX6 31 "Breakpoint$PageHinkley" "total" "I" ∈ AW := aw_in 130 (by decide +kernel) rfl
theorem q131 : Cond.fieldLink RX6 34 "Breakpoint$PageHinkley" "sum" "I" ∈ AW := aw_in 131 (by decide +kernel) rfl
theorem q133 : Cond.fieldLink RX6 37 "Breakpoint$PageHinkley" "leastSum" "I" ∈ AW := aw_in 133 (by decide +kernel) rfl
theorem q135 : Cond.fieldLink RX6 40 "Breakpoint$PageHinkley" "leastNumber" "I" ∈ AW := aw_in 135 (by decide +kernel) rfl
theorem q136 : Cond.lays "Breakpoint$PageHinkley" "Breakpoint$PageHinkley" "allowance" "I" ∈ AW := aw_in 136 (by decide +kernel) rfl
theorem q138 : Cond.lays "Breakpoint$PageHinkley" "Breakpoint$PageHinkley" "forgetting" "I" ∈ AW := aw_in 138 (by decide +kernel) rfl
theorem q140 : Cond.lays "Breakpoint$PageHinkley" "Breakpoint$PageHinkley" "limit" "I" ∈ AW := aw_in 140 (by decide +kernel) rfl
theorem q142 : Cond.lays "Breakpoint$PageHinkley" "Breakpoint$PageHinkley" "counted" "I" ∈ AW := aw_in 142 (by decide +kernel) rfl
theorem q144 : Cond.lays "Breakpoint$PageHinkley" "Breakpoint$PageHinkley" "total" "I" ∈ AW := aw_in 144 (by decide +kernel) rfl
theorem q146 : Cond.lays "Breakpoint$PageHinkley" "Breakpoint$PageHinkley" "sum" "I" ∈ AW := aw_in 146 (by decide +kernel) rfl
theorem q148 : Cond.lays "Breakpoint$PageHinkley" "Breakpoint$PageHinkley" "leastSum" "I" ∈ AW := aw_in 148 (by decide +kernel) rfl
theorem q150 : Cond.lays "Breakpoint$PageHinkley" "Breakpoint$PageHinkley" "leastNumber" "I" ∈ AW := aw_in 150 (by decide +kernel) rfl
theorem q153 : Cond.classLink RX9 34 RX7 ∈ AW := aw_in 153 (by decide +kernel) rfl
theorem q154 : Cond.instantiable RX7 3 ∈ AW := aw_in 154 (by decide +kernel) rfl
theorem q155 : Cond.methodLink RX9 36 yX7_init ∈ AW := aw_in 155 (by decide +kernel) rfl
theorem q156 : Cond.instanceMethod yX7_init ∈ AW := aw_in 156 (by decide +kernel) rfl
theorem q157 : Cond.code yX7_init cX7_init 1 none ∈ AW := aw_in 157 (by decide +kernel) rfl
theorem q158 : Cond.methodLink RX7 3 objectInit ∈ AW := aw_in 158 (by decide +kernel) rfl
theorem q159 : Cond.methodLink RX7 9 yX7_triangle ∈ AW := aw_in 159 (by decide +kernel) rfl
theorem q160 : Cond.static yX7_triangle ∈ AW := aw_in 160 (by decide +kernel) rfl
theorem q161 : Cond.code yX7_triangle cX7_triangle 1 (some .int) ∈ AW := aw_in 161 (by decide +kernel) rfl
theorem q162 : Cond.fieldLink RX7 15 "Breakpoint$SegmentCosts" "costs" "[I" ∈ AW := aw_in 162 (by decide +kernel) rfl
theorem q163 : Cond.fieldLink RX7 19 "Breakpoint$SegmentCosts" "sorted" "[I" ∈ AW := aw_in 163 (by decide +kernel) rfl
theorem q164 : Cond.fieldLink RX7 22 "Breakpoint$SegmentCosts" "learnt" "I" ∈ AW := aw_in 164 (by decide +kernel) rfl
theorem q165 : Cond.laysFinal "Breakpoint$SegmentCosts" "Breakpoint$SegmentCosts" "costs" "[I" ∈ AW := aw_in 165 (by decide +kernel) rfl
theorem q167 : Cond.laysFinal "Breakpoint$SegmentCosts" "Breakpoint$SegmentCosts" "sorted" "[I" ∈ AW := aw_in 167 (by decide +kernel) rfl
theorem q169 : Cond.lays "Breakpoint$SegmentCosts" "Breakpoint$SegmentCosts" "learnt" "I" ∈ AW := aw_in 169 (by decide +kernel) rfl
theorem q172 : Cond.classLink RX9 41 RX5 ∈ AW := aw_in 172 (by decide +kernel) rfl
theorem q173 : Cond.instantiable RX5 2 ∈ AW := aw_in 173 (by decide +kernel) rfl
theorem q174 : Cond.methodLink RX9 43 yX5_init ∈ AW := aw_in 174 (by decide +kernel) rfl
theorem q175 : Cond.instanceMethod yX5_init ∈ AW := aw_in 175 (by decide +kernel) rfl
theorem q176 : Cond.code yX5_init cX5_init 1 none ∈ AW := aw_in 176 (by decide +kernel) rfl
theorem q177 : Cond.methodLink RX5 3 objectInit ∈ AW := aw_in 177 (by decide +kernel) rfl
theorem q178 : Cond.methodLink RX5 9 yX7_triangle ∈ AW := aw_in 178 (by decide +kernel) rfl
theorem q179 : Cond.fieldLink RX5 15 "Breakpoint$LeastCosts" "least" "[I" ∈ AW := aw_in 179 (by decide +kernel) rfl
theorem q180 : Cond.fieldLink RX5 21 "Breakpoint$LeastCosts" "learnt" "I" ∈ AW := aw_in 180 (by decide +kernel) rfl
theorem q181 : Cond.laysFinal "Breakpoint$LeastCosts" "Breakpoint$LeastCosts" "least" "[I" ∈ AW := aw_in 181 (by decide +kernel) rfl
theorem q183 : Cond.lays "Breakpoint$LeastCosts" "Breakpoint$LeastCosts" "learnt" "I" ∈ AW := aw_in 183 (by decide +kernel) rfl
theorem q186 : Cond.classLink RX9 48 RX1 ∈ AW := aw_in 186 (by decide +kernel) rfl
theorem q187 : Cond.instantiable RX1 3 ∈ AW := aw_in 187 (by decide +kernel) rfl
theorem q188 : Cond.methodLink RX9 50 yX1_init ∈ AW := aw_in 188 (by decide +kernel) rfl
theorem q189 : Cond.instanceMethod yX1_init ∈ AW := aw_in 189 (by decide +kernel) rfl
theorem q190 : Cond.code yX1_init cX1_init 1 none ∈ AW := aw_in 190 (by decide +kernel) rfl
theorem q191 : Cond.methodLink RX1 3 objectInit ∈ AW := aw_in 191 (by decide +kernel) rfl
theorem q192 : Cond.fieldLink RX1 9 "Breakpoint$BestSearch" "priceFrom" "[I" ∈ AW := aw_in 192 (by decide +kernel) rfl
theorem q193 : Cond.fieldLink RX1 15 "Breakpoint$BestSearch" "cutsFrom" "[I" ∈ AW := aw_in 193 (by decide +kernel) rfl
theorem q194 : Cond.fieldLink RX1 18 "Breakpoint$BestSearch" "nextCut" "[I" ∈ AW := aw_in 194 (by decide +kernel) rfl
theorem q195 : Cond.laysFinal "Breakpoint$BestSearch" "Breakpoint$BestSearch" "priceFrom" "[I" ∈ AW := aw_in 195 (by decide +kernel) rfl
theorem q197 : Cond.laysFinal "Breakpoint$BestSearch" "Breakpoint$BestSearch" "cutsFrom" "[I" ∈ AW := aw_in 197 (by decide +kernel) rfl
theorem q199 : Cond.laysFinal "Breakpoint$BestSearch" "Breakpoint$BestSearch" "nextCut" "[I" ∈ AW := aw_in 199 (by decide +kernel) rfl
theorem q202 : Cond.classLink RX9 55 RX3 ∈ AW := aw_in 202 (by decide +kernel) rfl
theorem q203 : Cond.instantiable RX3 4 ∈ AW := aw_in 203 (by decide +kernel) rfl
theorem q204 : Cond.methodLink RX9 57 yX3_init ∈ AW := aw_in 204 (by decide +kernel) rfl
theorem q205 : Cond.instanceMethod yX3_init ∈ AW := aw_in 205 (by decide +kernel) rfl
theorem q206 : Cond.code yX3_init cX3_init 1 none ∈ AW := aw_in 206 (by decide +kernel) rfl
theorem q207 : Cond.methodLink RX3 3 objectInit ∈ AW := aw_in 207 (by decide +kernel) rfl
theorem q208 : Cond.fieldLink RX3 9 "Breakpoint$Cutting" "cutAt" "[Z" ∈ AW := aw_in 208 (by decide +kernel) rfl
theorem q209 : Cond.fieldLink RX3 15 "Breakpoint$Cutting" "cuts" "I" ∈ AW := aw_in 209 (by decide +kernel) rfl
theorem q211 : Cond.fieldLink RX3 19 "Breakpoint$Cutting" "price" "I" ∈ AW := aw_in 211 (by decide +kernel) rfl
theorem q213 : Cond.fieldLink RX3 22 "Breakpoint$Cutting" "stands" "Z" ∈ AW := aw_in 213 (by decide +kernel) rfl
theorem q215 : Cond.laysFinal "Breakpoint$Cutting" "Breakpoint$Cutting" "cutAt" "[Z" ∈ AW := aw_in 215 (by decide +kernel) rfl
theorem q217 : Cond.lays "Breakpoint$Cutting" "Breakpoint$Cutting" "cuts" "I" ∈ AW := aw_in 217 (by decide +kernel) rfl
theorem q219 : Cond.lays "Breakpoint$Cutting" "Breakpoint$Cutting" "price" "I" ∈ AW := aw_in 219 (by decide +kernel) rfl
theorem q221 : Cond.lays "Breakpoint$Cutting" "Breakpoint$Cutting" "stands" "Z" ∈ AW := aw_in 221 (by decide +kernel) rfl
theorem q224 : Cond.arrayClass .boolean ∈ AW := aw_in 224 (by decide +kernel) rfl
theorem q225 : Cond.classLink RX9 65 RX8 ∈ AW := aw_in 225 (by decide +kernel) rfl
theorem q226 : Cond.instantiable RX8 5 ∈ AW := aw_in 226 (by decide +kernel) rfl
theorem q227 : Cond.methodLink RX9 67 yX8_init ∈ AW := aw_in 227 (by decide +kernel) rfl
theorem q228 : Cond.instanceMethod yX8_init ∈ AW := aw_in 228 (by decide +kernel) rfl
theorem q229 : Cond.code yX8_init cX8_init 1 none ∈ AW := aw_in 229 (by decide +kernel) rfl
theorem q230 : Cond.methodLink RX8 3 objectInit ∈ AW := aw_in 230 (by decide +kernel) rfl
theorem q231 : Cond.fieldLink RX8 9 "Breakpoint$Truth" "marked" "[Z" ∈ AW := aw_in 231 (by decide +kernel) rfl
theorem q233 : Cond.fieldLink RX8 15 "Breakpoint$Truth" "taken" "[Z" ∈ AW := aw_in 233 (by decide +kernel) rfl
theorem q234 : Cond.fieldLink RX8 18 "Breakpoint$Truth" "hits" "I" ∈ AW := aw_in 234 (by decide +kernel) rfl
theorem q236 : Cond.fieldLink RX8 22 "Breakpoint$Truth" "misses" "I" ∈ AW := aw_in 236 (by decide +kernel) rfl
theorem q238 : Cond.fieldLink RX8 25 "Breakpoint$Truth" "delays" "I" ∈ AW := aw_in 238 (by decide +kernel) rfl
theorem q240 : Cond.laysFinal "Breakpoint$Truth" "Breakpoint$Truth" "marked" "[Z" ∈ AW := aw_in 240 (by decide +kernel) rfl
theorem q242 : Cond.laysFinal "Breakpoint$Truth" "Breakpoint$Truth" "taken" "[Z" ∈ AW := aw_in 242 (by decide +kernel) rfl
theorem q244 : Cond.lays "Breakpoint$Truth" "Breakpoint$Truth" "hits" "I" ∈ AW := aw_in 244 (by decide +kernel) rfl
theorem q246 : Cond.lays "Breakpoint$Truth" "Breakpoint$Truth" "misses" "I" ∈ AW := aw_in 246 (by decide +kernel) rfl
theorem q248 : Cond.lays "Breakpoint$Truth" "Breakpoint$Truth" "delays" "I" ∈ AW := aw_in 248 (by decide +kernel) rfl
theorem q251 : Cond.fieldLink RX9 9 "Breakpoint" "values" "[I" ∈ AW := aw_in 251 (by decide +kernel) rfl
theorem q252 : Cond.fieldLink RX9 16 "Breakpoint" "alarmList" "LBreakpoint$AlarmList;" ∈ AW := aw_in 252 (by decide +kernel) rfl
theorem q253 : Cond.fieldLink RX9 23 "Breakpoint" "sums" "LBreakpoint$CumulativeSums;" ∈ AW := aw_in 253 (by decide +kernel) rfl
theorem q254 : Cond.fieldLink RX9 30 "Breakpoint" "test" "LBreakpoint$PageHinkley;" ∈ AW := aw_in 254 (by decide +kernel) rfl
theorem q255 : Cond.fieldLink RX9 37 "Breakpoint" "segmentCosts" "LBreakpoint$SegmentCosts;" ∈ AW := aw_in 255 (by decide +kernel) rfl
theorem q256 : Cond.fieldLink RX9 44 "Breakpoint" "leastCosts" "LBreakpoint$LeastCosts;" ∈ AW := aw_in 256 (by decide +kernel) rfl
theorem q257 : Cond.fieldLink RX9 51 "Breakpoint" "bestSearch" "LBreakpoint$BestSearch;" ∈ AW := aw_in 257 (by decide +kernel) rfl
theorem q258 : Cond.fieldLink RX9 58 "Breakpoint" "best" "LBreakpoint$Cutting;" ∈ AW := aw_in 258 (by decide +kernel) rfl
theorem q259 : Cond.fieldLink RX9 62 "Breakpoint" "greedy" "LBreakpoint$Cutting;" ∈ AW := aw_in 259 (by decide +kernel) rfl
theorem q260 : Cond.fieldLink RX9 68 "Breakpoint" "truth" "LBreakpoint$Truth;" ∈ AW := aw_in 260 (by decide +kernel) rfl
theorem q261 : Cond.fieldLink RX9 72 "Breakpoint" "valueCount" "I" ∈ AW := aw_in 261 (by decide +kernel) rfl
theorem q262 : Cond.fieldLink RX9 76 "Breakpoint" "penalty" "I" ∈ AW := aw_in 262 (by decide +kernel) rfl
theorem q263 : Cond.laysFinal "Breakpoint" "Breakpoint" "values" "[I" ∈ AW := aw_in 263 (by decide +kernel) rfl
theorem q265 : Cond.laysFinal "Breakpoint" "Breakpoint" "alarmList" "LBreakpoint$AlarmList;" ∈ AW := aw_in 265 (by decide +kernel) rfl
theorem q267 : Cond.laysFinal "Breakpoint" "Breakpoint" "sums" "LBreakpoint$CumulativeSums;" ∈ AW := aw_in 267 (by decide +kernel) rfl
theorem q269 : Cond.laysFinal "Breakpoint" "Breakpoint" "test" "LBreakpoint$PageHinkley;" ∈ AW := aw_in 269 (by decide +kernel) rfl
theorem q271 : Cond.laysFinal "Breakpoint" "Breakpoint" "segmentCosts" "LBreakpoint$SegmentCosts;" ∈ AW := aw_in 271 (by decide +kernel) rfl
theorem q273 : Cond.laysFinal "Breakpoint" "Breakpoint" "leastCosts" "LBreakpoint$LeastCosts;" ∈ AW := aw_in 273 (by decide +kernel) rfl
theorem q275 : Cond.laysFinal "Breakpoint" "Breakpoint" "bestSearch" "LBreakpoint$BestSearch;" ∈ AW := aw_in 275 (by decide +kernel) rfl
theorem q277 : Cond.laysFinal "Breakpoint" "Breakpoint" "best" "LBreakpoint$Cutting;" ∈ AW := aw_in 277 (by decide +kernel) rfl
theorem q279 : Cond.laysFinal "Breakpoint" "Breakpoint" "greedy" "LBreakpoint$Cutting;" ∈ AW := aw_in 279 (by decide +kernel) rfl
theorem q281 : Cond.laysFinal "Breakpoint" "Breakpoint" "truth" "LBreakpoint$Truth;" ∈ AW := aw_in 281 (by decide +kernel) rfl
theorem q283 : Cond.lays "Breakpoint" "Breakpoint" "valueCount" "I" ∈ AW := aw_in 283 (by decide +kernel) rfl
theorem q285 : Cond.lays "Breakpoint" "Breakpoint" "penalty" "I" ∈ AW := aw_in 285 (by decide +kernel) rfl
theorem q288 : Cond.methodLink RL 143 yL_sets ∈ AW := aw_in 288 (by decide +kernel) rfl
theorem q289 : Cond.static yL_sets ∈ AW := aw_in 289 (by decide +kernel) rfl
theorem q291 : Cond.classLink RL 27 "java/lang/IllegalArgumentException" ∈ AW := aw_in 291 (by decide +kernel) rfl
theorem q292 : Cond.methodLink RL 17 yL_set ∈ AW := aw_in 292 (by decide +kernel) rfl
theorem q293 : Cond.static yL_set ∈ AW := aw_in 293 (by decide +kernel) rfl
theorem q294 : Cond.code yL_set cL_set 5 (some .int) ∈ AW := aw_in 294 (by decide +kernel) rfl
theorem q295 : Cond.methodLink RL 8 yX9_setSums ∈ AW := aw_in 295 (by decide +kernel) rfl
theorem q296 : Cond.instanceMethod yX9_setSums ∈ AW := aw_in 296 (by decide +kernel) rfl
theorem q297 : Cond.selects RX9 yX9_setSums yX9_setSums ∈ AW := aw_in 297 (by decide +kernel) rfl
theorem q298 : Cond.code yX9_setSums cX9_setSums 4 none ∈ AW := aw_in 298 (by decide +kernel) rfl
theorem q299 : Cond.methodLink RX9 96 yX9_isAmountFromZero ∈ AW := aw_in 299 (by decide +kernel) rfl
theorem q300 : Cond.static yX9_isAmountFromZero ∈ AW := aw_in 300 (by decide +kernel) rfl
theorem q301 : Cond.code yX9_isAmountFromZero cX9_isAmountFromZero 1 (some .boolean) ∈ AW := aw_in 301 (by decide +kernel) rfl
theorem q302 : Cond.methodLink RX9 104 yX9_isBetween ∈ AW := aw_in 302 (by decide +kernel) rfl
theorem q303 : Cond.static yX9_isBetween ∈ AW := aw_in 303 (by decide +kernel) rfl
theorem q304 : Cond.code yX9_isBetween cX9_isBetween 3 (some .boolean) ∈ AW := aw_in 304 (by decide +kernel) rfl
theorem q305 : Cond.methodLink RX9 100 yX9_requireArgument ∈ AW := aw_in 305 (by decide +kernel) rfl
theorem q306 : Cond.static yX9_requireArgument ∈ AW := aw_in 306 (by decide +kernel) rfl
theorem q307 : Cond.code yX9_requireArgument cX9_requireArgument 1 none ∈ AW := aw_in 307 (by decide +kernel) rfl
theorem q308 : Cond.classLink RX9 236 "java/lang/IllegalArgumentException" ∈ AW := aw_in 308 (by decide +kernel) rfl
theorem q309 : Cond.instantiable "java/lang/IllegalArgumentException" 6 ∈ AW := aw_in 309 (by decide +kernel) rfl
theorem q319 : Cond.lays "java/lang/IllegalArgumentException" "java/lang/Throwable" "cause" "Ljava/lang/Throwable;" ∈ AW := aw_in 319 (by decide +kernel) rfl
theorem q320 : Cond.lays "java/lang/Throwable" "java/lang/Throwable" "cause" "Ljava/lang/Throwable;" ∈ AW := aw_in 320 (by decide +kernel) rfl
theorem q321 : Cond.lays "java/lang/IllegalArgumentException" "java/lang/Throwable" "stackTrace" "[Ljava/lang/StackTraceElement;" ∈ AW := aw_in 321 (by decide +kernel) rfl
theorem q322 : Cond.lays "java/lang/Throwable" "java/lang/Throwable" "stackTrace" "[Ljava/lang/StackTraceElement;" ∈ AW := aw_in 322 (by decide +kernel) rfl
theorem q323 : Cond.lays "java/lang/IllegalArgumentException" "java/lang/Throwable" "suppressedExceptions" "Ljava/util/List;" ∈ AW := aw_in 323 (by decide +kernel) rfl
theorem q324 : Cond.lays "java/lang/Throwable" "java/lang/Throwable" "suppressedExceptions" "Ljava/util/List;" ∈ AW := aw_in 324 (by decide +kernel) rfl
theorem q325 : Cond.lays "java/lang/IllegalArgumentException" "java/lang/Throwable" "detailMessage" "Ljava/lang/String;" ∈ AW := aw_in 325 (by decide +kernel) rfl
theorem q326 : Cond.lays "java/lang/Throwable" "java/lang/Throwable" "detailMessage" "Ljava/lang/String;" ∈ AW := aw_in 326 (by decide +kernel) rfl
theorem q327 : Cond.lays "java/lang/IllegalArgumentException" "java/lang/Throwable" "backtrace" "Ljava/lang/Object;" ∈ AW := aw_in 327 (by decide +kernel) rfl
theorem q328 : Cond.lays "java/lang/Throwable" "java/lang/Throwable" "backtrace" "Ljava/lang/Object;" ∈ AW := aw_in 328 (by decide +kernel) rfl
theorem q347 : Cond.instantiable "java/lang/Throwable" 6 ∈ AW := aw_in 347 (by decide +kernel) rfl
theorem q371 : Cond.lays "java/lang/IllegalArgumentException" "java/lang/Throwable" "depth" "I" ∈ AW := aw_in 371 (by decide +kernel) rfl
theorem q375 : Cond.arrayClass .byte ∈ AW := aw_in 375 (by decide +kernel) rfl
theorem q376 : Cond.constant RX9 108 100000 ∈ AW := aw_in 376 (by decide +kernel) rfl
theorem q377 : Cond.methodLink RX9 109 yX2_setUp ∈ AW := aw_in 377 (by decide +kernel) rfl
theorem q378 : Cond.methodLink RL 14 yX9_setTest ∈ AW := aw_in 378 (by decide +kernel) rfl
theorem q379 : Cond.instanceMethod yX9_setTest ∈ AW := aw_in 379 (by decide +kernel) rfl
theorem q380 : Cond.selects RX9 yX9_setTest yX9_setTest ∈ AW := aw_in 380 (by decide +kernel) rfl
theorem q381 : Cond.code yX9_setTest cX9_setTest 4 none ∈ AW := aw_in 381 (by decide +kernel) rfl
theorem q382 : Cond.methodLink RX9 113 yX6_setUp ∈ AW := aw_in 382 (by decide +kernel) rfl
theorem q383 : Cond.methodLink RL 23 yX9_setPenalty ∈ AW := aw_in 383 (by decide +kernel) rfl
theorem q384 : Cond.instanceMethod yX9_setPenalty ∈ AW := aw_in 384 (by decide +kernel) rfl
theorem q385 : Cond.selects RX9 yX9_setPenalty yX9_setPenalty ∈ AW := aw_in 385 (by decide +kernel) rfl
theorem q386 : Cond.code yX9_setPenalty cX9_setPenalty 3 (some .int) ∈ AW := aw_in 386 (by decide +kernel) rfl
theorem q387 : Cond.methodLink RX9 93 yX9_forgetCuttings ∈ AW := aw_in 387 (by decide +kernel) rfl
theorem q389 : Cond.instanceMethod yX9_forgetCuttings ∈ AW := aw_in 389 (by decide +kernel) rfl
theorem q390 : Cond.code yX9_forgetCuttings cX9_forgetCuttings 1 none ∈ AW := aw_in 390 (by decide +kernel) rfl
theorem q391 : Cond.methodLink RL 128 yL_adds ∈ AW := aw_in 391 (by decide +kernel) rfl
theorem q392 : Cond.static yL_adds ∈ AW := aw_in 392 (by decide +kernel) rfl
theorem q394 : Cond.classLink RL 36 "java/lang/IllegalStateException" ∈ AW := aw_in 394 (by decide +kernel) rfl
theorem q395 : Cond.methodLink RL 29 yX9_addRun ∈ AW := aw_in 395 (by decide +kernel) rfl
theorem q396 : Cond.instanceMethod yX9_addRun ∈ AW := aw_in 396 (by decide +kernel) rfl
theorem q397 : Cond.selects RX9 yX9_addRun yX9_addRun ∈ AW := aw_in 397 (by decide +kernel) rfl
theorem q398 : Cond.code yX9_addRun cX9_addRun 6 (some .int) ∈ AW := aw_in 398 (by decide +kernel) rfl
theorem q399 : Cond.methodLink RX9 114 yX9_requireState ∈ AW := aw_in 399 (by decide +kernel) rfl
theorem q400 : Cond.static yX9_requireState ∈ AW := aw_in 400 (by decide +kernel) rfl
theorem q401 : Cond.code yX9_requireState cX9_requireState 1 none ∈ AW := aw_in 401 (by decide +kernel) rfl
theorem q402 : Cond.classLink RX9 248 "java/lang/IllegalStateException" ∈ AW := aw_in 402 (by decide +kernel) rfl
theorem q403 : Cond.instantiable "java/lang/IllegalStateException" 6 ∈ AW := aw_in 403 (by decide +kernel) rfl
theorem q406 : Cond.lays "java/lang/IllegalStateException" "java/lang/Throwable" "cause" "Ljava/lang/Throwable;" ∈ AW := aw_in 406 (by decide +kernel) rfl
theorem q407 : Cond.lays "java/lang/IllegalStateException" "java/lang/Throwable" "stackTrace" "[Ljava/lang/StackTraceElement;" ∈ AW := aw_in 407 (by decide +kernel) rfl
theorem q408 : Cond.lays "java/lang/IllegalStateException" "java/lang/Throwable" "suppressedExceptions" "Ljava/util/List;" ∈ AW := aw_in 408 (by decide +kernel) rfl
theorem q409 : Cond.lays "java/lang/IllegalStateException" "java/lang/Throwable" "detailMessage" "Ljava/lang/String;" ∈ AW := aw_in 409 (by decide +kernel) rfl
theorem q410 : Cond.lays "java/lang/IllegalStateException" "java/lang/Throwable" "backtrace" "Ljava/lang/Object;" ∈ AW := aw_in 410 (by decide +kernel) rfl
theorem q416 : Cond.lays "java/lang/IllegalStateException" "java/lang/Throwable" "depth" "I" ∈ AW := aw_in 416 (by decide +kernel) rfl
theorem q418 : Cond.methodLink RX9 117 yX9_take ∈ AW := aw_in 418 (by decide +kernel) rfl
theorem q420 : Cond.instanceMethod yX9_take ∈ AW := aw_in 420 (by decide +kernel) rfl
theorem q421 : Cond.code yX9_take cX9_take 5 (some .int) ∈ AW := aw_in 421 (by decide +kernel) rfl
theorem q422 : Cond.methodLink RX9 209 yX2_watch ∈ AW := aw_in 422 (by decide +kernel) rfl
theorem q423 : Cond.instanceMethod yX2_watch ∈ AW := aw_in 423 (by decide +kernel) rfl
theorem q424 : Cond.selects RX2 yX2_watch yX2_watch ∈ AW := aw_in 424 (by decide +kernel) rfl
theorem q425 : Cond.code yX2_watch cX2_watch 5 (some .int) ∈ AW := aw_in 425 (by decide +kernel) rfl
theorem q426 : Cond.methodLink RX2 34 yX2_moveSums ∈ AW := aw_in 426 (by decide +kernel) rfl
theorem q428 : Cond.instanceMethod yX2_moveSums ∈ AW := aw_in 428 (by decide +kernel) rfl
theorem q429 : Cond.code yX2_moveSums cX2_moveSums 3 none ∈ AW := aw_in 429 (by decide +kernel) rfl
theorem q430 : Cond.methodLink RX2 49 yJ9_max_7cf53 ∈ AW := aw_in 430 (by decide +kernel) rfl
theorem q431 : Cond.static yJ9_max_7cf53 ∈ AW := aw_in 431 (by decide +kernel) rfl
theorem q432 : Cond.code yJ9_max_7cf53 cJ9_max_7cf53 2 (some .int) ∈ AW := aw_in 432 (by decide +kernel) rfl
theorem q433 : Cond.methodLink RX2 41 yX0_raise ∈ AW := aw_in 433 (by decide +kernel) rfl
theorem q434 : Cond.instanceMethod yX0_raise ∈ AW := aw_in 434 (by decide +kernel) rfl
theorem q435 : Cond.selects RX0 yX0_raise yX0_raise ∈ AW := aw_in 435 (by decide +kernel) rfl
theorem q436 : Cond.code yX0_raise cX0_raise 4 none ∈ AW := aw_in 436 (by decide +kernel) rfl
theorem q437 : Cond.methodLink RX9 213 yX6_watch ∈ AW := aw_in 437 (by decide +kernel) rfl
theorem q438 : Cond.instanceMethod yX6_watch ∈ AW := aw_in 438 (by decide +kernel) rfl
theorem q439 : Cond.selects RX6 yX6_watch yX6_watch ∈ AW := aw_in 439 (by decide +kernel) rfl
theorem q440 : Cond.code yX6_watch cX6_watch 4 (some .int) ∈ AW := aw_in 440 (by decide +kernel) rfl
theorem q441 : Cond.methodLink RX6 43 yX6_moveSum ∈ AW := aw_in 441 (by decide +kernel) rfl
theorem q443 : Cond.instanceMethod yX6_moveSum ∈ AW := aw_in 443 (by decide +kernel) rfl
theorem q444 : Cond.code yX6_moveSum cX6_moveSum 3 none ∈ AW := aw_in 444 (by decide +kernel) rfl
theorem q445 : Cond.methodLink RX6 56 yX6_mean ∈ AW := aw_in 445 (by decide +kernel) rfl
theorem q447 : Cond.instanceMethod yX6_mean ∈ AW := aw_in 447 (by decide +kernel) rfl
theorem q448 : Cond.code yX6_mean cX6_mean 1 (some .int) ∈ AW := aw_in 448 (by decide +kernel) rfl
theorem q449 : Cond.methodLink RX6 60 yJ9_floorDiv_7cf53 ∈ AW := aw_in 449 (by decide +kernel) rfl
theorem q450 : Cond.static yJ9_floorDiv_7cf53 ∈ AW := aw_in 450 (by decide +kernel) rfl
theorem q451 : Cond.code yJ9_floorDiv_7cf53 cJ9_floorDiv_7cf53 3 (some .int) ∈ AW := aw_in 451 (by decide +kernel) rfl
theorem q452 : Cond.methodLink RX6 47 yX6_startOfGrowth ∈ AW := aw_in 452 (by decide +kernel) rfl
theorem q454 : Cond.instanceMethod yX6_startOfGrowth ∈ AW := aw_in 454 (by decide +kernel) rfl
theorem q455 : Cond.code yX6_startOfGrowth cX6_startOfGrowth 2 (some .int) ∈ AW := aw_in 455 (by decide +kernel) rfl
theorem q456 : Cond.methodLink RX6 51 yX0_raise ∈ AW := aw_in 456 (by decide +kernel) rfl
theorem q457 : Cond.methodLink RL 33 yX9_add ∈ AW := aw_in 457 (by decide +kernel) rfl
theorem q458 : Cond.instanceMethod yX9_add ∈ AW := aw_in 458 (by decide +kernel) rfl
theorem q459 : Cond.selects RX9 yX9_add yX9_add ∈ AW := aw_in 459 (by decide +kernel) rfl
theorem q460 : Cond.code yX9_add cX9_add 2 (some .int) ∈ AW := aw_in 460 (by decide +kernel) rfl
theorem q461 : Cond.methodLink RL 88 yL_asks ∈ AW := aw_in 461 (by decide +kernel) rfl
theorem q462 : Cond.static yL_asks ∈ AW := aw_in 462 (by decide +kernel) rfl
theorem q464 : Cond.classLink RL 67 "java/lang/IndexOutOfBoundsException" ∈ AW := aw_in 464 (by decide +kernel) rfl
theorem q465 : Cond.methodLink RL 38 yX9_value ∈ AW := aw_in 465 (by decide +kernel) rfl
theorem q466 : Cond.instanceMethod yX9_value ∈ AW := aw_in 466 (by decide +kernel) rfl
theorem q467 : Cond.selects RX9 yX9_value yX9_value ∈ AW := aw_in 467 (by decide +kernel) rfl
theorem q468 : Cond.code yX9_value cX9_value 2 (some .int) ∈ AW := aw_in 468 (by decide +kernel) rfl
theorem q469 : Cond.methodLink RX9 124 yX9_isValueNumber ∈ AW := aw_in 469 (by decide +kernel) rfl
theorem q471 : Cond.instanceMethod yX9_isValueNumber ∈ AW := aw_in 471 (by decide +kernel) rfl
theorem q472 : Cond.code yX9_isValueNumber cX9_isValueNumber 2 (some .boolean) ∈ AW := aw_in 472 (by decide +kernel) rfl
theorem q473 : Cond.methodLink RX9 127 yX9_requireIndex ∈ AW := aw_in 473 (by decide +kernel) rfl
theorem q474 : Cond.static yX9_requireIndex ∈ AW := aw_in 474 (by decide +kernel) rfl
theorem q475 : Cond.code yX9_requireIndex cX9_requireIndex 1 none ∈ AW := aw_in 475 (by decide +kernel) rfl
theorem q476 : Cond.classLink RX9 243 "java/lang/IndexOutOfBoundsException" ∈ AW := aw_in 476 (by decide +kernel) rfl
theorem q477 : Cond.instantiable "java/lang/IndexOutOfBoundsException" 6 ∈ AW := aw_in 477 (by decide +kernel) rfl
theorem q480 : Cond.lays "java/lang/IndexOutOfBoundsException" "java/lang/Throwable" "cause" "Ljava/lang/Throwable;" ∈ AW := aw_in 480 (by decide +kernel) rfl
theorem q481 : Cond.lays "java/lang/IndexOutOfBoundsException" "java/lang/Throwable" "stackTrace" "[Ljava/lang/StackTraceElement;" ∈ AW := aw_in 481 (by decide +kernel) rfl
theorem q482 : Cond.lays "java/lang/IndexOutOfBoundsException" "java/lang/Throwable" "suppressedExceptions" "Ljava/util/List;" ∈ AW := aw_in 482 (by decide +kernel) rfl
theorem q483 : Cond.lays "java/lang/IndexOutOfBoundsException" "java/lang/Throwable" "detailMessage" "Ljava/lang/String;" ∈ AW := aw_in 483 (by decide +kernel) rfl
theorem q484 : Cond.lays "java/lang/IndexOutOfBoundsException" "java/lang/Throwable" "backtrace" "Ljava/lang/Object;" ∈ AW := aw_in 484 (by decide +kernel) rfl
theorem q490 : Cond.lays "java/lang/IndexOutOfBoundsException" "java/lang/Throwable" "depth" "I" ∈ AW := aw_in 490 (by decide +kernel) rfl
theorem q492 : Cond.methodLink RL 41 yX9_alarmKind ∈ AW := aw_in 492 (by decide +kernel) rfl
theorem q493 : Cond.instanceMethod yX9_alarmKind ∈ AW := aw_in 493 (by decide +kernel) rfl
theorem q494 : Cond.selects RX9 yX9_alarmKind yX9_alarmKind ∈ AW := aw_in 494 (by decide +kernel) rfl
theorem q495 : Cond.code yX9_alarmKind cX9_alarmKind 2 (some .int) ∈ AW := aw_in 495 (by decide +kernel) rfl
theorem q496 : Cond.methodLink RX9 142 yX0_has ∈ AW := aw_in 496 (by decide +kernel) rfl
theorem q497 : Cond.instanceMethod yX0_has ∈ AW := aw_in 497 (by decide +kernel) rfl
theorem q498 : Cond.selects RX0 yX0_has yX0_has ∈ AW := aw_in 498 (by decide +kernel) rfl
theorem q499 : Cond.code yX0_has cX0_has 2 (some .boolean) ∈ AW := aw_in 499 (by decide +kernel) rfl
theorem q500 : Cond.methodLink RL 44 yX9_alarmNumber ∈ AW := aw_in 500 (by decide +kernel) rfl
theorem q501 : Cond.instanceMethod yX9_alarmNumber ∈ AW := aw_in 501 (by decide +kernel) rfl
theorem q502 : Cond.selects RX9 yX9_alarmNumber yX9_alarmNumber ∈ AW := aw_in 502 (by decide +kernel) rfl
theorem q503 : Cond.code yX9_alarmNumber cX9_alarmNumber 2 (some .int) ∈ AW := aw_in 503 (by decide +kernel) rfl
theorem q504 : Cond.methodLink RL 47 yX9_alarmStart ∈ AW := aw_in 504 (by decide +kernel) rfl
theorem q505 : Cond.instanceMethod yX9_alarmStart ∈ AW := aw_in 505 (by decide +kernel) rfl
theorem q506 : Cond.selects RX9 yX9_alarmStart yX9_alarmStart ∈ AW := aw_in 506 (by decide +kernel) rfl
theorem q507 : Cond.code yX9_alarmStart cX9_alarmStart 2 (some .int) ∈ AW := aw_in 507 (by decide +kernel) rfl
theorem q508 : Cond.methodLink RL 50 yX9_cost ∈ AW := aw_in 508 (by decide +kernel) rfl
theorem q509 : Cond.instanceMethod yX9_cost ∈ AW := aw_in 509 (by decide +kernel) rfl
theorem q510 : Cond.selects RX9 yX9_cost yX9_cost ∈ AW := aw_in 510 (by decide +kernel) rfl
theorem q511 : Cond.code yX9_cost cX9_cost 3 (some .int) ∈ AW := aw_in 511 (by decide +kernel) rfl
theorem q512 : Cond.methodLink RX9 154 yX9_isSegment ∈ AW := aw_in 512 (by decide +kernel) rfl
theorem q514 : Cond.instanceMethod yX9_isSegment ∈ AW := aw_in 514 (by decide +kernel) rfl
theorem q515 : Cond.code yX9_isSegment cX9_isSegment 3 (some .boolean) ∈ AW := aw_in 515 (by decide +kernel) rfl
theorem q516 : Cond.methodLink RX9 158 yX9_learntCosts ∈ AW := aw_in 516 (by decide +kernel) rfl
theorem q518 : Cond.instanceMethod yX9_learntCosts ∈ AW := aw_in 518 (by decide +kernel) rfl
theorem q519 : Cond.code yX9_learntCosts cX9_learntCosts 1 (some (( .object "Breakpoint$SegmentCosts" ))) ∈ AW := aw_in 519 (by decide +kernel) rfl
theorem q520 : Cond.methodLink RX9 218 yX7_learn ∈ AW := aw_in 520 (by decide +kernel) rfl
theorem q521 : Cond.instanceMethod yX7_learn ∈ AW := aw_in 521 (by decide +kernel) rfl
theorem q522 : Cond.selects RX7 yX7_learn yX7_learn ∈ AW := aw_in 522 (by decide +kernel) rfl
theorem q523 : Cond.code yX7_learn cX7_learn 4 none ∈ AW := aw_in 523 (by decide +kernel) rfl
theorem q524 : Cond.methodLink RX7 26 yX7_learnSegmentsTo ∈ AW := aw_in 524 (by decide +kernel) rfl
theorem q526 : Cond.instanceMethod yX7_learnSegmentsTo ∈ AW := aw_in 526 (by decide +kernel) rfl
theorem q527 : Cond.code yX7_learnSegmentsTo cX7_learnSegmentsTo 7 none ∈ AW := aw_in 527 (by decide +kernel) rfl
theorem q528 : Cond.methodLink RX7 34 yX7_distanceFromMiddles ∈ AW := aw_in 528 (by decide +kernel) rfl
theorem q530 : Cond.instanceMethod yX7_distanceFromMiddles ∈ AW := aw_in 530 (by decide +kernel) rfl
theorem q531 : Cond.code yX7_distanceFromMiddles cX7_distanceFromMiddles 5 (some .int) ∈ AW := aw_in 531 (by decide +kernel) rfl
theorem q532 : Cond.methodLink RX7 30 yX7_sortIn ∈ AW := aw_in 532 (by decide +kernel) rfl
theorem q534 : Cond.instanceMethod yX7_sortIn ∈ AW := aw_in 534 (by decide +kernel) rfl
theorem q535 : Cond.code yX7_sortIn cX7_sortIn 4 none ∈ AW := aw_in 535 (by decide +kernel) rfl
theorem q536 : Cond.methodLink RX9 162 yX7_of ∈ AW := aw_in 536 (by decide +kernel) rfl
theorem q537 : Cond.instanceMethod yX7_of ∈ AW := aw_in 537 (by decide +kernel) rfl
theorem q538 : Cond.selects RX7 yX7_of yX7_of ∈ AW := aw_in 538 (by decide +kernel) rfl
theorem q539 : Cond.code yX7_of cX7_of 3 (some .int) ∈ AW := aw_in 539 (by decide +kernel) rfl
theorem q540 : Cond.methodLink RL 54 yX9_middle ∈ AW := aw_in 540 (by decide +kernel) rfl
theorem q541 : Cond.instanceMethod yX9_middle ∈ AW := aw_in 541 (by decide +kernel) rfl
theorem q542 : Cond.selects RX9 yX9_middle yX9_middle ∈ AW := aw_in 542 (by decide +kernel) rfl
theorem q543 : Cond.code yX9_middle cX9_middle 3 (some .int) ∈ AW := aw_in 543 (by decide +kernel) rfl
theorem q544 : Cond.methodLink RX9 166 yX7_middleOf ∈ AW := aw_in 544 (by decide +kernel) rfl
theorem q545 : Cond.instanceMethod yX7_middleOf ∈ AW := aw_in 545 (by decide +kernel) rfl
theorem q546 : Cond.selects RX7 yX7_middleOf yX7_middleOf ∈ AW := aw_in 546 (by decide +kernel) rfl
theorem q547 : Cond.code yX7_middleOf cX7_middleOf 5 (some .int) ∈ AW := aw_in 547 (by decide +kernel) rfl
theorem q548 : Cond.methodLink RL 57 yX9_change ∈ AW := aw_in 548 (by decide +kernel) rfl
theorem q549 : Cond.instanceMethod yX9_change ∈ AW := aw_in 549 (by decide +kernel) rfl
theorem q550 : Cond.selects RX9 yX9_change yX9_change ∈ AW := aw_in 550 (by decide +kernel) rfl
theorem q551 : Cond.code yX9_change cX9_change 3 (some .int) ∈ AW := aw_in 551 (by decide +kernel) rfl
theorem q552 : Cond.methodLink RX9 170 yX9_bestCutting ∈ AW := aw_in 552 (by decide +kernel) rfl
theorem q554 : Cond.instanceMethod yX9_bestCutting ∈ AW := aw_in 554 (by decide +kernel) rfl
theorem q555 : Cond.code yX9_bestCutting cX9_bestCutting 2 (some (( .object "Breakpoint$Cutting" ))) ∈ AW := aw_in 555 (by decide +kernel) rfl
theorem q556 : Cond.methodLink RX9 221 yX1_find ∈ AW := aw_in 556 (by decide +kernel) rfl
theorem q557 : Cond.instanceMethod yX1_find ∈ AW := aw_in 557 (by decide +kernel) rfl
theorem q558 : Cond.selects RX1 yX1_find yX1_find ∈ AW := aw_in 558 (by decide +kernel) rfl
theorem q559 : Cond.code yX1_find cX1_find 7 none ∈ AW := aw_in 559 (by decide +kernel) rfl
theorem q560 : Cond.methodLink RX1 21 yX1_findFrom ∈ AW := aw_in 560 (by decide +kernel) rfl
theorem q562 : Cond.instanceMethod yX1_findFrom ∈ AW := aw_in 562 (by decide +kernel) rfl
theorem q563 : Cond.code yX1_findFrom cX1_findFrom 11 none ∈ AW := aw_in 563 (by decide +kernel) rfl
theorem q564 : Cond.methodLink RX1 34 yX7_of ∈ AW := aw_in 564 (by decide +kernel) rfl
theorem q565 : Cond.methodLink RX1 25 yX3_join ∈ AW := aw_in 565 (by decide +kernel) rfl
theorem q566 : Cond.instanceMethod yX3_join ∈ AW := aw_in 566 (by decide +kernel) rfl
theorem q567 : Cond.selects RX3 yX3_join yX3_join ∈ AW := aw_in 567 (by decide +kernel) rfl
theorem q568 : Cond.code yX3_join cX3_join 2 none ∈ AW := aw_in 568 (by decide +kernel) rfl
theorem q569 : Cond.methodLink RX1 30 yX3_cut ∈ AW := aw_in 569 (by decide +kernel) rfl
theorem q570 : Cond.instanceMethod yX3_cut ∈ AW := aw_in 570 (by decide +kernel) rfl
theorem q571 : Cond.selects RX3 yX3_cut yX3_cut ∈ AW := aw_in 571 (by decide +kernel) rfl
theorem q572 : Cond.code yX3_cut cX3_cut 2 none ∈ AW := aw_in 572 (by decide +kernel) rfl
theorem q573 : Cond.methodLink RX9 225 yX3_settle ∈ AW := aw_in 573 (by decide +kernel) rfl
theorem q574 : Cond.instanceMethod yX3_settle ∈ AW := aw_in 574 (by decide +kernel) rfl
theorem q575 : Cond.selects RX3 yX3_settle yX3_settle ∈ AW := aw_in 575 (by decide +kernel) rfl
theorem q576 : Cond.code yX3_settle cX3_settle 6 none ∈ AW := aw_in 576 (by decide +kernel) rfl
theorem q577 : Cond.methodLink RX3 26 yX7_of ∈ AW := aw_in 577 (by decide +kernel) rfl
theorem q578 : Cond.methodLink RX9 177 yX3_has ∈ AW := aw_in 578 (by decide +kernel) rfl
theorem q579 : Cond.instanceMethod yX3_has ∈ AW := aw_in 579 (by decide +kernel) rfl
theorem q580 : Cond.selects RX3 yX3_has yX3_has ∈ AW := aw_in 580 (by decide +kernel) rfl
theorem q581 : Cond.code yX3_has cX3_has 2 (some .boolean) ∈ AW := aw_in 581 (by decide +kernel) rfl
theorem q582 : Cond.methodLink RX9 178 yX3_numberAt ∈ AW := aw_in 582 (by decide +kernel) rfl
theorem q583 : Cond.instanceMethod yX3_numberAt ∈ AW := aw_in 583 (by decide +kernel) rfl
theorem q584 : Cond.selects RX3 yX3_numberAt yX3_numberAt ∈ AW := aw_in 584 (by decide +kernel) rfl
theorem q585 : Cond.code yX3_numberAt cX3_numberAt 4 (some .int) ∈ AW := aw_in 585 (by decide +kernel) rfl
theorem q586 : Cond.methodLink RL 60 yX9_greedyChange ∈ AW := aw_in 586 (by decide +kernel) rfl
theorem q587 : Cond.instanceMethod yX9_greedyChange ∈ AW := aw_in 587 (by decide +kernel) rfl
theorem q588 : Cond.selects RX9 yX9_greedyChange yX9_greedyChange ∈ AW := aw_in 588 (by decide +kernel) rfl
theorem q589 : Cond.code yX9_greedyChange cX9_greedyChange 3 (some .int) ∈ AW := aw_in 589 (by decide +kernel) rfl
theorem q590 : Cond.methodLink RX9 189 yX9_greedyCutting ∈ AW := aw_in 590 (by decide +kernel) rfl
theorem q592 : Cond.instanceMethod yX9_greedyCutting ∈ AW := aw_in 592 (by decide +kernel) rfl
theorem q593 : Cond.code yX9_greedyCutting cX9_greedyCutting 2 (some (( .object "Breakpoint$Cutting" ))) ∈ AW := aw_in 593 (by decide +kernel) rfl
theorem q594 : Cond.methodLink RX9 229 yX4_find ∈ AW := aw_in 594 (by decide +kernel) rfl
theorem q595 : Cond.static yX4_find ∈ AW := aw_in 595 (by decide +kernel) rfl
theorem q596 : Cond.code yX4_find cX4_find 6 none ∈ AW := aw_in 596 (by decide +kernel) rfl
theorem q597 : Cond.methodLink RX4 7 yX3_join ∈ AW := aw_in 597 (by decide +kernel) rfl
theorem q598 : Cond.methodLink RX4 12 yX4_numberOfGreatestGain ∈ AW := aw_in 598 (by decide +kernel) rfl
theorem q599 : Cond.static yX4_numberOfGreatestGain ∈ AW := aw_in 599 (by decide +kernel) rfl
theorem q600 : Cond.code yX4_numberOfGreatestGain cX4_numberOfGreatestGain 10 (some .int) ∈ AW := aw_in 600 (by decide +kernel) rfl
theorem q601 : Cond.methodLink RX4 22 yX3_endOfSegment ∈ AW := aw_in 601 (by decide +kernel) rfl
theorem q602 : Cond.instanceMethod yX3_endOfSegment ∈ AW := aw_in 602 (by decide +kernel) rfl
theorem q603 : Cond.selects RX3 yX3_endOfSegment yX3_endOfSegment ∈ AW := aw_in 603 (by decide +kernel) rfl
theorem q604 : Cond.code yX3_endOfSegment cX3_endOfSegment 4 (some .int) ∈ AW := aw_in 604 (by decide +kernel) rfl
theorem q605 : Cond.methodLink RX4 26 yX7_of ∈ AW := aw_in 605 (by decide +kernel) rfl
theorem q606 : Cond.methodLink RX4 18 yX3_cut ∈ AW := aw_in 606 (by decide +kernel) rfl
theorem q607 : Cond.methodLink RL 63 yX9_toggleTruth ∈ AW := aw_in 607 (by decide +kernel) rfl
theorem q608 : Cond.instanceMethod yX9_toggleTruth ∈ AW := aw_in 608 (by decide +kernel) rfl
theorem q609 : Cond.selects RX9 yX9_toggleTruth yX9_toggleTruth ∈ AW := aw_in 609 (by decide +kernel) rfl
theorem q610 : Cond.code yX9_toggleTruth cX9_toggleTruth 2 (some .boolean) ∈ AW := aw_in 610 (by decide +kernel) rfl
theorem q611 : Cond.methodLink RL 125 yL_leastCost ∈ AW := aw_in 611 (by decide +kernel) rfl
theorem q612 : Cond.static yL_leastCost ∈ AW := aw_in 612 (by decide +kernel) rfl
theorem q614 : Cond.methodLink RL 69 yX9_leastCost ∈ AW := aw_in 614 (by decide +kernel) rfl
theorem q615 : Cond.instanceMethod yX9_leastCost ∈ AW := aw_in 615 (by decide +kernel) rfl
theorem q616 : Cond.selects RX9 yX9_leastCost yX9_leastCost ∈ AW := aw_in 616 (by decide +kernel) rfl
theorem q617 : Cond.code yX9_leastCost cX9_leastCost 2 (some .int) ∈ AW := aw_in 617 (by decide +kernel) rfl
theorem q618 : Cond.methodLink RX9 184 yX5_learn ∈ AW := aw_in 618 (by decide +kernel) rfl
theorem q619 : Cond.instanceMethod yX5_learn ∈ AW := aw_in 619 (by decide +kernel) rfl
theorem q620 : Cond.selects RX5 yX5_learn yX5_learn ∈ AW := aw_in 620 (by decide +kernel) rfl
theorem q621 : Cond.code yX5_learn cX5_learn 4 none ∈ AW := aw_in 621 (by decide +kernel) rfl
theorem q622 : Cond.methodLink RX5 25 yX5_learnCuttingsTo ∈ AW := aw_in 622 (by decide +kernel) rfl
theorem q624 : Cond.instanceMethod yX5_learnCuttingsTo ∈ AW := aw_in 624 (by decide +kernel) rfl
theorem q625 : Cond.code yX5_learnCuttingsTo cX5_learnCuttingsTo 5 none ∈ AW := aw_in 625 (by decide +kernel) rfl
theorem q626 : Cond.methodLink RX5 29 yX7_of ∈ AW := aw_in 626 (by decide +kernel) rfl
theorem q627 : Cond.methodLink RX5 33 yX5_leastWithLastSegment ∈ AW := aw_in 627 (by decide +kernel) rfl
theorem q629 : Cond.instanceMethod yX5_leastWithLastSegment ∈ AW := aw_in 629 (by decide +kernel) rfl
theorem q630 : Cond.code yX5_leastWithLastSegment cX5_leastWithLastSegment 6 (some .int) ∈ AW := aw_in 630 (by decide +kernel) rfl
theorem q631 : Cond.constant RX5 39 2147483647 ∈ AW := aw_in 631 (by decide +kernel) rfl
theorem q632 : Cond.methodLink RX5 40 yX5_of ∈ AW := aw_in 632 (by decide +kernel) rfl
theorem q633 : Cond.instanceMethod yX5_of ∈ AW := aw_in 633 (by decide +kernel) rfl
theorem q634 : Cond.selects RX5 yX5_of yX5_of ∈ AW := aw_in 634 (by decide +kernel) rfl
theorem q635 : Cond.code yX5_of cX5_of 3 (some .int) ∈ AW := aw_in 635 (by decide +kernel) rfl
theorem q636 : Cond.methodLink RX5 41 yJ9_min_7cf53 ∈ AW := aw_in 636 (by decide +kernel) rfl
theorem q637 : Cond.static yJ9_min_7cf53 ∈ AW := aw_in 637 (by decide +kernel) rfl
theorem q638 : Cond.code yJ9_min_7cf53 cJ9_min_7cf53 2 (some .int) ∈ AW := aw_in 638 (by decide +kernel) rfl
theorem q639 : Cond.methodLink RX9 188 yX5_of ∈ AW := aw_in 639 (by decide +kernel) rfl
theorem q640 : Cond.methodLink RL 160 yL_areAlarms ∈ AW := aw_in 640 (by decide +kernel) rfl
theorem q641 : Cond.static yL_areAlarms ∈ AW := aw_in 641 (by decide +kernel) rfl
theorem q642 : Cond.code yL_areAlarms cL_areAlarms 10 (some .boolean) ∈ AW := aw_in 642 (by decide +kernel) rfl
theorem q643 : Cond.methodLink RL 84 yX9_alarms ∈ AW := aw_in 643 (by decide +kernel) rfl
theorem q644 : Cond.instanceMethod yX9_alarms ∈ AW := aw_in 644 (by decide +kernel) rfl
theorem q645 : Cond.selects RX9 yX9_alarms yX9_alarms ∈ AW := aw_in 645 (by decide +kernel) rfl
theorem q646 : Cond.code yX9_alarms cX9_alarms 1 (some .int) ∈ AW := aw_in 646 (by decide +kernel) rfl
theorem q647 : Cond.methodLink RL 92 yL_matched ∈ AW := aw_in 647 (by decide +kernel) rfl
theorem q648 : Cond.static yL_matched ∈ AW := aw_in 648 (by decide +kernel) rfl
theorem q650 : Cond.methodLink RL 72 yX9_falseAlarms ∈ AW := aw_in 650 (by decide +kernel) rfl
theorem q651 : Cond.instanceMethod yX9_falseAlarms ∈ AW := aw_in 651 (by decide +kernel) rfl
theorem q652 : Cond.selects RX9 yX9_falseAlarms yX9_falseAlarms ∈ AW := aw_in 652 (by decide +kernel) rfl
theorem q653 : Cond.code yX9_falseAlarms cX9_falseAlarms 3 (some .int) ∈ AW := aw_in 653 (by decide +kernel) rfl
theorem q654 : Cond.methodLink RX9 196 yX9_matchAlarms ∈ AW := aw_in 654 (by decide +kernel) rfl
theorem q656 : Cond.instanceMethod yX9_matchAlarms ∈ AW := aw_in 656 (by decide +kernel) rfl
theorem q657 : Cond.code yX9_matchAlarms cX9_matchAlarms 3 none ∈ AW := aw_in 657 (by decide +kernel) rfl
theorem q658 : Cond.methodLink RX9 232 yX8_match ∈ AW := aw_in 658 (by decide +kernel) rfl
theorem q659 : Cond.instanceMethod yX8_match ∈ AW := aw_in 659 (by decide +kernel) rfl
theorem q660 : Cond.selects RX8 yX8_match yX8_match ∈ AW := aw_in 660 (by decide +kernel) rfl
theorem q661 : Cond.code yX8_match cX8_match 5 none ∈ AW := aw_in 661 (by decide +kernel) rfl
theorem q662 : Cond.methodLink RX8 28 yX8_beginMatching ∈ AW := aw_in 662 (by decide +kernel) rfl
theorem q664 : Cond.instanceMethod yX8_beginMatching ∈ AW := aw_in 664 (by decide +kernel) rfl
theorem q665 : Cond.code yX8_beginMatching cX8_beginMatching 2 none ∈ AW := aw_in 665 (by decide +kernel) rfl
theorem q666 : Cond.methodLink RX8 43 yX8_matchAlarm ∈ AW := aw_in 666 (by decide +kernel) rfl
theorem q668 : Cond.instanceMethod yX8_matchAlarm ∈ AW := aw_in 668 (by decide +kernel) rfl
theorem q669 : Cond.code yX8_matchAlarm cX8_matchAlarm 5 none ∈ AW := aw_in 669 (by decide +kernel) rfl
theorem q670 : Cond.methodLink RX8 47 yJ9_max_7cf53 ∈ AW := aw_in 670 (by decide +kernel) rfl
theorem q671 : Cond.methodLink RL 75 yX9_matched ∈ AW := aw_in 671 (by decide +kernel) rfl
theorem q672 : Cond.instanceMethod yX9_matched ∈ AW := aw_in 672 (by decide +kernel) rfl
theorem q673 : Cond.selects RX9 yX9_matched yX9_matched ∈ AW := aw_in 673 (by decide +kernel) rfl
theorem q674 : Cond.code yX9_matched cX9_matched 3 (some .int) ∈ AW := aw_in 674 (by decide +kernel) rfl
theorem q675 : Cond.methodLink RL 95 yL_delay ∈ AW := aw_in 675 (by decide +kernel) rfl
theorem q676 : Cond.static yL_delay ∈ AW := aw_in 676 (by decide +kernel) rfl
theorem q678 : Cond.methodLink RL 78 yX9_averageDelay ∈ AW := aw_in 678 (by decide +kernel) rfl
theorem q679 : Cond.instanceMethod yX9_averageDelay ∈ AW := aw_in 679 (by decide +kernel) rfl
theorem q680 : Cond.selects RX9 yX9_averageDelay yX9_averageDelay ∈ AW := aw_in 680 (by decide +kernel) rfl
theorem q681 : Cond.code yX9_averageDelay cX9_averageDelay 3 (some .float) ∈ AW := aw_in 681 (by decide +kernel) rfl
theorem q685 : Cond.methodLink RL 100 yX9_highSum ∈ AW := aw_in 685 (by decide +kernel) rfl
theorem q686 : Cond.instanceMethod yX9_highSum ∈ AW := aw_in 686 (by decide +kernel) rfl
theorem q687 : Cond.selects RX9 yX9_highSum yX9_highSum ∈ AW := aw_in 687 (by decide +kernel) rfl
theorem q688 : Cond.code yX9_highSum cX9_highSum 1 (some .int) ∈ AW := aw_in 688 (by decide +kernel) rfl
theorem q689 : Cond.methodLink RL 103 yX9_lowSum ∈ AW := aw_in 689 (by decide +kernel) rfl
theorem q690 : Cond.instanceMethod yX9_lowSum ∈ AW := aw_in 690 (by decide +kernel) rfl
theorem q691 : Cond.selects RX9 yX9_lowSum yX9_lowSum ∈ AW := aw_in 691 (by decide +kernel) rfl
theorem q692 : Cond.code yX9_lowSum cX9_lowSum 1 (some .int) ∈ AW := aw_in 692 (by decide +kernel) rfl
theorem q693 : Cond.methodLink RL 106 yX9_testSum ∈ AW := aw_in 693 (by decide +kernel) rfl
theorem q694 : Cond.instanceMethod yX9_testSum ∈ AW := aw_in 694 (by decide +kernel) rfl
theorem q695 : Cond.selects RX9 yX9_testSum yX9_testSum ∈ AW := aw_in 695 (by decide +kernel) rfl
theorem q696 : Cond.code yX9_testSum cX9_testSum 1 (some .int) ∈ AW := aw_in 696 (by decide +kernel) rfl
theorem q697 : Cond.methodLink RL 163 yL_areCuttings ∈ AW := aw_in 697 (by decide +kernel) rfl
theorem q698 : Cond.static yL_areCuttings ∈ AW := aw_in 698 (by decide +kernel) rfl
theorem q699 : Cond.code yL_areCuttings cL_areCuttings 8 (some .boolean) ∈ AW := aw_in 699 (by decide +kernel) rfl
theorem q700 : Cond.methodLink RL 115 yX9_bestCost ∈ AW := aw_in 700 (by decide +kernel) rfl
theorem q701 : Cond.instanceMethod yX9_bestCost ∈ AW := aw_in 701 (by decide +kernel) rfl
theorem q702 : Cond.selects RX9 yX9_bestCost yX9_bestCost ∈ AW := aw_in 702 (by decide +kernel) rfl
theorem q703 : Cond.code yX9_bestCost cX9_bestCost 1 (some .int) ∈ AW := aw_in 703 (by decide +kernel) rfl
theorem q704 : Cond.methodLink RL 118 yX9_greedyCost ∈ AW := aw_in 704 (by decide +kernel) rfl
theorem q705 : Cond.instanceMethod yX9_greedyCost ∈ AW := aw_in 705 (by decide +kernel) rfl
theorem q706 : Cond.selects RX9 yX9_greedyCost yX9_greedyCost ∈ AW := aw_in 706 (by decide +kernel) rfl
theorem q707 : Cond.code yX9_greedyCost cX9_greedyCost 1 (some .int) ∈ AW := aw_in 707 (by decide +kernel) rfl
theorem q708 : Cond.methodLink RL 121 yL_told ∈ AW := aw_in 708 (by decide +kernel) rfl
theorem q709 : Cond.static yL_told ∈ AW := aw_in 709 (by decide +kernel) rfl
theorem q710 : Cond.code yL_told cL_told 8 (some .int) ∈ AW := aw_in 710 (by decide +kernel) rfl
theorem q711 : Cond.methodLink RL 109 yX9_greedyChanges ∈ AW := aw_in 711 (by decide +kernel) rfl
theorem q712 : Cond.instanceMethod yX9_greedyChanges ∈ AW := aw_in 712 (by decide +kernel) rfl
theorem q713 : Cond.selects RX9 yX9_greedyChanges yX9_greedyChanges ∈ AW := aw_in 713 (by decide +kernel) rfl
theorem q714 : Cond.code yX9_greedyChanges cX9_greedyChanges 1 (some .int) ∈ AW := aw_in 714 (by decide +kernel) rfl
theorem q715 : Cond.methodLink RL 112 yX9_changes ∈ AW := aw_in 715 (by decide +kernel) rfl
theorem q716 : Cond.instanceMethod yX9_changes ∈ AW := aw_in 716 (by decide +kernel) rfl
theorem q717 : Cond.selects RX9 yX9_changes yX9_changes ∈ AW := aw_in 717 (by decide +kernel) rfl
theorem q718 : Cond.code yX9_changes cX9_changes 1 (some .int) ∈ AW := aw_in 718 (by decide +kernel) rfl
theorem q719 : Cond.methodLink RL 166 yL_isDone ∈ AW := aw_in 719 (by decide +kernel) rfl
theorem q720 : Cond.static yL_isDone ∈ AW := aw_in 720 (by decide +kernel) rfl
theorem q721 : Cond.code yL_isDone cL_isDone 10 (some .boolean) ∈ AW := aw_in 721 (by decide +kernel) rfl
theorem q722 : Cond.methodLink RL 135 yL_part ∈ AW := aw_in 722 (by decide +kernel) rfl
theorem q723 : Cond.static yL_part ∈ AW := aw_in 723 (by decide +kernel) rfl
theorem q724 : Cond.code yL_part cL_part 4 (some .int) ∈ AW := aw_in 724 (by decide +kernel) rfl
theorem q725 : Cond.constant RL 7 2147483647 ∈ AW := aw_in 725 (by decide +kernel) rfl
theorem q726 : Cond.methodLink RL 139 yL_isAdded ∈ AW := aw_in 726 (by decide +kernel) rfl
theorem q727 : Cond.static yL_isAdded ∈ AW := aw_in 727 (by decide +kernel) rfl
theorem q728 : Cond.code yL_isAdded cL_isAdded 16 (some .boolean) ∈ AW := aw_in 728 (by decide +kernel) rfl
theorem q729 : Cond.methodLink RL 132 yX9_size ∈ AW := aw_in 729 (by decide +kernel) rfl
theorem q730 : Cond.instanceMethod yX9_size ∈ AW := aw_in 730 (by decide +kernel) rfl
theorem q731 : Cond.selects RX9 yX9_size yX9_size ∈ AW := aw_in 731 (by decide +kernel) rfl
theorem q732 : Cond.code yX9_size cX9_size 1 (some .int) ∈ AW := aw_in 732 (by decide +kernel) rfl
theorem q733 : Cond.constant RL 146 100001 ∈ AW := aw_in 733 (by decide +kernel) rfl
theorem q734 : Cond.constant RL 147 100000 ∈ AW := aw_in 734 (by decide +kernel) rfl
theorem q735 : Cond.methodLink RL 148 yX9_clear ∈ AW := aw_in 735 (by decide +kernel) rfl
theorem q736 : Cond.instanceMethod yX9_clear ∈ AW := aw_in 736 (by decide +kernel) rfl
theorem q737 : Cond.selects RX9 yX9_clear yX9_clear ∈ AW := aw_in 737 (by decide +kernel) rfl
theorem q738 : Cond.code yX9_clear cX9_clear 2 (some .int) ∈ AW := aw_in 738 (by decide +kernel) rfl
theorem q739 : Cond.methodLink RX9 79 yX0_removeAll ∈ AW := aw_in 739 (by decide +kernel) rfl
theorem q740 : Cond.instanceMethod yX0_removeAll ∈ AW := aw_in 740 (by decide +kernel) rfl
theorem q741 : Cond.selects RX0 yX0_removeAll yX0_removeAll ∈ AW := aw_in 741 (by decide +kernel) rfl
theorem q742 : Cond.code yX0_removeAll cX0_removeAll 1 none ∈ AW := aw_in 742 (by decide +kernel) rfl
theorem q743 : Cond.methodLink RX9 82 yX8_removeMarks ∈ AW := aw_in 743 (by decide +kernel) rfl
theorem q744 : Cond.instanceMethod yX8_removeMarks ∈ AW := aw_in 744 (by decide +kernel) rfl
theorem q745 : Cond.selects RX8 yX8_removeMarks yX8_removeMarks ∈ AW := aw_in 745 (by decide +kernel) rfl
theorem q746 : Cond.code yX8_removeMarks cX8_removeMarks 2 none ∈ AW := aw_in 746 (by decide +kernel) rfl
theorem q747 : Cond.methodLink RX9 85 yX2_beginAnew ∈ AW := aw_in 747 (by decide +kernel) rfl
theorem q748 : Cond.methodLink RX9 88 yX6_beginAnew ∈ AW := aw_in 748 (by decide +kernel) rfl
theorem q749 : Cond.methodLink RX9 89 yX7_forget ∈ AW := aw_in 749 (by decide +kernel) rfl
theorem q750 : Cond.instanceMethod yX7_forget ∈ AW := aw_in 750 (by decide +kernel) rfl
theorem q751 : Cond.selects RX7 yX7_forget yX7_forget ∈ AW := aw_in 751 (by decide +kernel) rfl
theorem q752 : Cond.code yX7_forget cX7_forget 1 none ∈ AW := aw_in 752 (by decide +kernel) rfl
theorem q753 : Cond.methodLink RX9 92 yX5_forget ∈ AW := aw_in 753 (by decide +kernel) rfl
theorem q754 : Cond.instanceMethod yX5_forget ∈ AW := aw_in 754 (by decide +kernel) rfl
theorem q755 : Cond.selects RX5 yX5_forget yX5_forget ∈ AW := aw_in 755 (by decide +kernel) rfl
theorem q756 : Cond.code yX5_forget cX5_forget 1 none ∈ AW := aw_in 756 (by decide +kernel) rfl
theorem q757 : Cond.methodLink RL 151 yL_isSegment ∈ AW := aw_in 757 (by decide +kernel) rfl
theorem q758 : Cond.static yL_isSegment ∈ AW := aw_in 758 (by decide +kernel) rfl
theorem q759 : Cond.code yL_isSegment cL_isSegment 13 (some .boolean) ∈ AW := aw_in 759 (by decide +kernel) rfl
theorem q760 : Cond.methodLink RL 155 yL_isGreedy ∈ AW := aw_in 760 (by decide +kernel) rfl
theorem q761 : Cond.static yL_isGreedy ∈ AW := aw_in 761 (by decide +kernel) rfl
theorem q762 : Cond.code yL_isGreedy cL_isGreedy 7 (some .boolean) ∈ AW := aw_in 762 (by decide +kernel) rfl
theorem iwX0 : ∀ w ∈ u_ws RX0 TX0 4, w ∈ AW := by
  intro w hw
  obtain ⟨k, hk, rfl⟩ := List.mem_map.mp hw
  have hk := List.mem_range.mp hk
  match k, hk with
  | 0, _ => exact q64
  | 1, _ => exact q66
  | 2, _ => exact q68
  | 3, _ => exact q70
  | k + 4, h => exact absurd h (by omega)
theorem iwX1 : ∀ w ∈ u_ws RX1 TX1 3, w ∈ AW := by
  intro w hw
  obtain ⟨k, hk, rfl⟩ := List.mem_map.mp hw
  have hk := List.mem_range.mp hk
  match k, hk with
  | 0, _ => exact q195
  | 1, _ => exact q197
  | 2, _ => exact q199
  | k + 3, h => exact absurd h (by omega)
theorem iwX2 : ∀ w ∈ u_ws RX2 TX2 7, w ∈ AW := by
  intro w hw
  obtain ⟨k, hk, rfl⟩ := List.mem_map.mp hw
  have hk := List.mem_range.mp hk
  match k, hk with
  | 0, _ => exact q97
  | 1, _ => exact q99
  | 2, _ => exact q101
  | 3, _ => exact q103
  | 4, _ => exact q105
  | 5, _ => exact q107
  | 6, _ => exact q109
  | k + 7, h => exact absurd h (by omega)
theorem iwX3 : ∀ w ∈ u_ws RX3 TX3 4, w ∈ AW := by
  intro w hw
  obtain ⟨k, hk, rfl⟩ := List.mem_map.mp hw
  have hk := List.mem_range.mp hk
  match k, hk with
  | 0, _ => exact q215
  | 1, _ => exact q217
  | 2, _ => exact q219
  | 3, _ => exact q221
  | k + 4, h => exact absurd h (by omega)
theorem iwX5 : ∀ w ∈ u_ws RX5 TX5 2, w ∈ AW := by
  intro w hw
  obtain ⟨k, hk, rfl⟩ := List.mem_map.mp hw
  have hk := List.mem_range.mp hk
  match k, hk with
  | 0, _ => exact q181
  | 1, _ => exact q183
  | k + 2, h => exact absurd h (by omega)
theorem iwX6 : ∀ w ∈ u_ws RX6 TX6 8, w ∈ AW := by
  intro w hw
  obtain ⟨k, hk, rfl⟩ := List.mem_map.mp hw
  have hk := List.mem_range.mp hk
  match k, hk with
  | 0, _ => exact q136
  | 1, _ => exact q138
  | 2, _ => exact q140
  | 3, _ => exact q142
  | 4, _ => exact q144
  | 5, _ => exact q146
  | 6, _ => exact q148
  | 7, _ => exact q150
  | k + 8, h => exact absurd h (by omega)
theorem iwX7 : ∀ w ∈ u_ws RX7 TX7 3, w ∈ AW := by
  intro w hw
  obtain ⟨k, hk, rfl⟩ := List.mem_map.mp hw
  have hk := List.mem_range.mp hk
  match k, hk with
  | 0, _ => exact q165
  | 1, _ => exact q167
  | 2, _ => exact q169
  | k + 3, h => exact absurd h (by omega)
theorem iwX8 : ∀ w ∈ u_ws RX8 TX8 5, w ∈ AW := by
  intro w hw
  obtain ⟨k, hk, rfl⟩ := List.mem_map.mp hw
  have hk := List.mem_range.mp hk
  match k, hk with
  | 0, _ => exact q240
  | 1, _ => exact q242
  | 2, _ => exact q244
  | 3, _ => exact q246
  | 4, _ => exact q248
  | k + 5, h => exact absurd h (by omega)
theorem iwX9 : ∀ w ∈ u_ws RX9 TX9 12, w ∈ AW := by
  intro w hw
  obtain ⟨k, hk, rfl⟩ := List.mem_map.mp hw
  have hk := List.mem_range.mp hk
  match k, hk with
  | 0, _ => exact q263
  | 1, _ => exact q265
  | 2, _ => exact q267
  | 3, _ => exact q269
  | 4, _ => exact q271
  | 5, _ => exact q273
  | 6, _ => exact q275
  | 7, _ => exact q277
  | 8, _ => exact q279
  | 9, _ => exact q281
  | 10, _ => exact q283
  | 11, _ => exact q285
  | k + 12, h => exact absurd h (by omega)
theorem hd_J9_floorDiv_7cf53 : yJ9_floorDiv_7cf53.cls = RJ9 ∧ yJ9_floorDiv_7cf53.cls ≠ "java/lang/invoke/MethodHandle" ∧ yJ9_floorDiv_7cf53.cls ≠ "java/lang/invoke/VarHandle" ∧ (parseMethodDescriptor yJ9_floorDiv_7cf53.desc).map (fun d => d.parameters.length) = some 2 := by decide +kernel
theorem hd_J9_max_7cf53 : yJ9_max_7cf53.cls = RJ9 ∧ yJ9_max_7cf53.cls ≠ "java/lang/invoke/MethodHandle" ∧ yJ9_max_7cf53.cls ≠ "java/lang/invoke/VarHandle" ∧ (parseMethodDescriptor yJ9_max_7cf53.desc).map (fun d => d.parameters.length) = some 2 := by decide +kernel
theorem hd_J9_min_7cf53 : yJ9_min_7cf53.cls = RJ9 ∧ yJ9_min_7cf53.cls ≠ "java/lang/invoke/MethodHandle" ∧ yJ9_min_7cf53.cls ≠ "java/lang/invoke/VarHandle" ∧ (parseMethodDescriptor yJ9_min_7cf53.desc).map (fun d => d.parameters.length) = some 2 := by decide +kernel
theorem hd_L_areAlarms : yL_areAlarms.cls = RL ∧ yL_areAlarms.cls ≠ "java/lang/invoke/MethodHandle" ∧ yL_areAlarms.cls ≠ "java/lang/invoke/VarHandle" ∧ (parseMethodDescriptor yL_areAlarms.desc).map (fun d => d.parameters.length) = some 2 := by decide +kernel
theorem hd_L_areCuttings : yL_areCuttings.cls = RL ∧ yL_areCuttings.cls ≠ "java/lang/invoke/MethodHandle" ∧ yL_areCuttings.cls ≠ "java/lang/invoke/VarHandle" ∧ (parseMethodDescriptor yL_areCuttings.desc).map (fun d => d.parameters.length) = some 2 := by decide +kernel
theorem hd_L_isAdded : yL_isAdded.cls = RL ∧ yL_isAdded.cls ≠ "java/lang/invoke/MethodHandle" ∧ yL_isAdded.cls ≠ "java/lang/invoke/VarHandle" ∧ (parseMethodDescriptor yL_isAdded.desc).map (fun d => d.parameters.length) = some 5 := by decide +kernel
theorem hd_L_isDone : yL_isDone.cls = RL ∧ yL_isDone.cls ≠ "java/lang/invoke/MethodHandle" ∧ yL_isDone.cls ≠ "java/lang/invoke/VarHandle" ∧ (parseMethodDescriptor yL_isDone.desc).map (fun d => d.parameters.length) = some 4 := by decide +kernel
theorem hd_L_isGreedy : yL_isGreedy.cls = RL ∧ yL_isGreedy.cls ≠ "java/lang/invoke/MethodHandle" ∧ yL_isGreedy.cls ≠ "java/lang/invoke/VarHandle" ∧ (parseMethodDescriptor yL_isGreedy.desc).map (fun d => d.parameters.length) = some 2 := by decide +kernel
theorem hd_L_isSegment : yL_isSegment.cls = RL ∧ yL_isSegment.cls ≠ "java/lang/invoke/MethodHandle" ∧ yL_isSegment.cls ≠ "java/lang/invoke/VarHandle" ∧ (parseMethodDescriptor yL_isSegment.desc).map (fun d => d.parameters.length) = some 4 := by decide +kernel
theorem hd_L_part : yL_part.cls = RL ∧ yL_part.cls ≠ "java/lang/invoke/MethodHandle" ∧ yL_part.cls ≠ "java/lang/invoke/VarHandle" ∧ (parseMethodDescriptor yL_part.desc).map (fun d => d.parameters.length) = some 3 := by decide +kernel
theorem hd_L_set : yL_set.cls = RL ∧ yL_set.cls ≠ "java/lang/invoke/MethodHandle" ∧ yL_set.cls ≠ "java/lang/invoke/VarHandle" ∧ (parseMethodDescriptor yL_set.desc).map (fun d => d.parameters.length) = some 5 := by decide +kernel
theorem hd_L_told : yL_told.cls = RL ∧ yL_told.cls ≠ "java/lang/invoke/MethodHandle" ∧ yL_told.cls ≠ "java/lang/invoke/VarHandle" ∧ (parseMethodDescriptor yL_told.desc).map (fun d => d.parameters.length) = some 3 := by decide +kernel
theorem hd_X0_has : yX0_has.cls = RX0 ∧ yX0_has.cls ≠ "java/lang/invoke/MethodHandle" ∧ yX0_has.cls ≠ "java/lang/invoke/VarHandle" ∧ (parseMethodDescriptor yX0_has.desc).map (fun d => d.parameters.length) = some 1 := by decide +kernel
theorem hd_X0_init : yX0_init.cls = RX0 ∧ yX0_init.cls ≠ "java/lang/invoke/MethodHandle" ∧ yX0_init.cls ≠ "java/lang/invoke/VarHandle" ∧ (parseMethodDescriptor yX0_init.desc).map (fun d => d.parameters.length) = some 0 := by decide +kernel
theorem hd_X0_raise : yX0_raise.cls = RX0 ∧ yX0_raise.cls ≠ "java/lang/invoke/MethodHandle" ∧ yX0_raise.cls ≠ "java/lang/invoke/VarHandle" ∧ (parseMethodDescriptor yX0_raise.desc).map (fun d => d.parameters.length) = some 3 := by decide +kernel
theorem hd_X0_removeAll : yX0_removeAll.cls = RX0 ∧ yX0_removeAll.cls ≠ "java/lang/invoke/MethodHandle" ∧ yX0_removeAll.cls ≠ "java/lang/invoke/VarHandle" ∧ (parseMethodDescriptor yX0_removeAll.desc).map (fun d => d.parameters.length) = some 0 := by decide +kernel
theorem hd_X1_find : yX1_find.cls = RX1 ∧ yX1_find.cls ≠ "java/lang/invoke/MethodHandle" ∧ yX1_find.cls ≠ "java/lang/invoke/VarHandle" ∧ (parseMethodDescriptor yX1_find.desc).map (fun d => d.parameters.length) = some 4 := by decide +kernel
theorem hd_X1_findFrom : yX1_findFrom.cls = RX1 ∧ yX1_findFrom.cls ≠ "java/lang/invoke/MethodHandle" ∧ yX1_findFrom.cls ≠ "java/lang/invoke/VarHandle" ∧ (parseMethodDescriptor yX1_findFrom.desc).map (fun d => d.parameters.length) = some 4 := by decide +kernel
theorem hd_X1_init : yX1_init.cls = RX1 ∧ yX1_init.cls ≠ "java/lang/invoke/MethodHandle" ∧ yX1_init.cls ≠ "java/lang/invoke/VarHandle" ∧ (parseMethodDescriptor yX1_init.desc).map (fun d => d.parameters.length) = some 0 := by decide +kernel
theorem hd_X2_beginAnew : yX2_beginAnew.cls = RX2 ∧ yX2_beginAnew.cls ≠ "java/lang/invoke/MethodHandle" ∧ yX2_beginAnew.cls ≠ "java/lang/invoke/VarHandle" ∧ (parseMethodDescriptor yX2_beginAnew.desc).map (fun d => d.parameters.length) = some 0 := by decide +kernel
theorem hd_X2_init : yX2_init.cls = RX2 ∧ yX2_init.cls ≠ "java/lang/invoke/MethodHandle" ∧ yX2_init.cls ≠ "java/lang/invoke/VarHandle" ∧ (parseMethodDescriptor yX2_init.desc).map (fun d => d.parameters.length) = some 0 := by decide +kernel
theorem hd_X2_moveSums : yX2_moveSums.cls = RX2 ∧ yX2_moveSums.cls ≠ "java/lang/invoke/MethodHandle" ∧ yX2_moveSums.cls ≠ "java/lang/invoke/VarHandle" ∧ (parseMethodDescriptor yX2_moveSums.desc).map (fun d => d.parameters.length) = some 2 := by decide +kernel
theorem hd_X2_setUp : yX2_setUp.cls = RX2 ∧ yX2_setUp.cls ≠ "java/lang/invoke/MethodHandle" ∧ yX2_setUp.cls ≠ "java/lang/invoke/VarHandle" ∧ (parseMethodDescriptor yX2_setUp.desc).map (fun d => d.parameters.length) = some 3 := by decide +kernel
theorem hd_X2_watch : yX2_watch.cls = RX2 ∧ yX2_watch.cls ≠ "java/lang/invoke/MethodHandle" ∧ yX2_watch.cls ≠ "java/lang/invoke/VarHandle" ∧ (parseMethodDescriptor yX2_watch.desc).map (fun d => d.parameters.length) = some 3 := by decide +kernel
theorem hd_X3_cut : yX3_cut.cls = RX3 ∧ yX3_cut.cls ≠ "java/lang/invoke/MethodHandle" ∧ yX3_cut.cls ≠ "java/lang/invoke/VarHandle" ∧ (parseMethodDescriptor yX3_cut.desc).map (fun d => d.parameters.length) = some 1 := by decide +kernel
theorem hd_X3_endOfSegment : yX3_endOfSegment.cls = RX3 ∧ yX3_endOfSegment.cls ≠ "java/lang/invoke/MethodHandle" ∧ yX3_endOfSegment.cls ≠ "java/lang/invoke/VarHandle" ∧ (parseMethodDescriptor yX3_endOfSegment.desc).map (fun d => d.parameters.length) = some 2 := by decide +kernel
theorem hd_X3_has : yX3_has.cls = RX3 ∧ yX3_has.cls ≠ "java/lang/invoke/MethodHandle" ∧ yX3_has.cls ≠ "java/lang/invoke/VarHandle" ∧ (parseMethodDescriptor yX3_has.desc).map (fun d => d.parameters.length) = some 1 := by decide +kernel
theorem hd_X3_init : yX3_init.cls = RX3 ∧ yX3_init.cls ≠ "java/lang/invoke/MethodHandle" ∧ yX3_init.cls ≠ "java/lang/invoke/VarHandle" ∧ (parseMethodDescriptor yX3_init.desc).map (fun d => d.parameters.length) = some 0 := by decide +kernel
theorem hd_X3_join : yX3_join.cls = RX3 ∧ yX3_join.cls ≠ "java/lang/invoke/MethodHandle" ∧ yX3_join.cls ≠ "java/lang/invoke/VarHandle" ∧ (parseMethodDescriptor yX3_join.desc).map (fun d => d.parameters.length) = some 0 := by decide +kernel
theorem hd_X3_numberAt : yX3_numberAt.cls = RX3 ∧ yX3_numberAt.cls ≠ "java/lang/invoke/MethodHandle" ∧ yX3_numberAt.cls ≠ "java/lang/invoke/VarHandle" ∧ (parseMethodDescriptor yX3_numberAt.desc).map (fun d => d.parameters.length) = some 1 := by decide +kernel
theorem hd_X3_settle : yX3_settle.cls = RX3 ∧ yX3_settle.cls ≠ "java/lang/invoke/MethodHandle" ∧ yX3_settle.cls ≠ "java/lang/invoke/VarHandle" ∧ (parseMethodDescriptor yX3_settle.desc).map (fun d => d.parameters.length) = some 3 := by decide +kernel
theorem hd_X4_find : yX4_find.cls = RX4 ∧ yX4_find.cls ≠ "java/lang/invoke/MethodHandle" ∧ yX4_find.cls ≠ "java/lang/invoke/VarHandle" ∧ (parseMethodDescriptor yX4_find.desc).map (fun d => d.parameters.length) = some 4 := by decide +kernel
theorem hd_X4_numberOfGreatestGain : yX4_numberOfGreatestGain.cls = RX4 ∧ yX4_numberOfGreatestGain.cls ≠ "java/lang/invoke/MethodHandle" ∧ yX4_numberOfGreatestGain.cls ≠ "java/lang/invoke/VarHandle" ∧ (parseMethodDescriptor yX4_numberOfGreatestGain.desc).map (fun d => d.parameters.length) = some 4 := by decide +kernel
theorem hd_X5_forget : yX5_forget.cls = RX5 ∧ yX5_forget.cls ≠ "java/lang/invoke/MethodHandle" ∧ yX5_forget.cls ≠ "java/lang/invoke/VarHandle" ∧ (parseMethodDescriptor yX5_forget.desc).map (fun d => d.parameters.length) = some 0 := by decide +kernel
theorem hd_X5_init : yX5_init.cls = RX5 ∧ yX5_init.cls ≠ "java/lang/invoke/MethodHandle" ∧ yX5_init.cls ≠ "java/lang/invoke/VarHandle" ∧ (parseMethodDescriptor yX5_init.desc).map (fun d => d.parameters.length) = some 0 := by decide +kernel
theorem hd_X5_learn : yX5_learn.cls = RX5 ∧ yX5_learn.cls ≠ "java/lang/invoke/MethodHandle" ∧ yX5_learn.cls ≠ "java/lang/invoke/VarHandle" ∧ (parseMethodDescriptor yX5_learn.desc).map (fun d => d.parameters.length) = some 2 := by decide +kernel
theorem hd_X5_learnCuttingsTo : yX5_learnCuttingsTo.cls = RX5 ∧ yX5_learnCuttingsTo.cls ≠ "java/lang/invoke/MethodHandle" ∧ yX5_learnCuttingsTo.cls ≠ "java/lang/invoke/VarHandle" ∧ (parseMethodDescriptor yX5_learnCuttingsTo.desc).map (fun d => d.parameters.length) = some 2 := by decide +kernel
theorem hd_X5_leastWithLastSegment : yX5_leastWithLastSegment.cls = RX5 ∧ yX5_leastWithLastSegment.cls ≠ "java/lang/invoke/MethodHandle" ∧ yX5_leastWithLastSegment.cls ≠ "java/lang/invoke/VarHandle" ∧ (parseMethodDescriptor yX5_leastWithLastSegment.desc).map (fun d => d.parameters.length) = some 3 := by decide +kernel
theorem hd_X5_of : yX5_of.cls = RX5 ∧ yX5_of.cls ≠ "java/lang/invoke/MethodHandle" ∧ yX5_of.cls ≠ "java/lang/invoke/VarHandle" ∧ (parseMethodDescriptor yX5_of.desc).map (fun d => d.parameters.length) = some 2 := by decide +kernel
theorem hd_X6_beginAnew : yX6_beginAnew.cls = RX6 ∧ yX6_beginAnew.cls ≠ "java/lang/invoke/MethodHandle" ∧ yX6_beginAnew.cls ≠ "java/lang/invoke/VarHandle" ∧ (parseMethodDescriptor yX6_beginAnew.desc).map (fun d => d.parameters.length) = some 0 := by decide +kernel
theorem hd_X6_init : yX6_init.cls = RX6 ∧ yX6_init.cls ≠ "java/lang/invoke/MethodHandle" ∧ yX6_init.cls ≠ "java/lang/invoke/VarHandle" ∧ (parseMethodDescriptor yX6_init.desc).map (fun d => d.parameters.length) = some 0 := by decide +kernel
theorem hd_X6_mean : yX6_mean.cls = RX6 ∧ yX6_mean.cls ≠ "java/lang/invoke/MethodHandle" ∧ yX6_mean.cls ≠ "java/lang/invoke/VarHandle" ∧ (parseMethodDescriptor yX6_mean.desc).map (fun d => d.parameters.length) = some 0 := by decide +kernel
theorem hd_X6_moveSum : yX6_moveSum.cls = RX6 ∧ yX6_moveSum.cls ≠ "java/lang/invoke/MethodHandle" ∧ yX6_moveSum.cls ≠ "java/lang/invoke/VarHandle" ∧ (parseMethodDescriptor yX6_moveSum.desc).map (fun d => d.parameters.length) = some 2 := by decide +kernel
theorem hd_X6_setUp : yX6_setUp.cls = RX6 ∧ yX6_setUp.cls ≠ "java/lang/invoke/MethodHandle" ∧ yX6_setUp.cls ≠ "java/lang/invoke/VarHandle" ∧ (parseMethodDescriptor yX6_setUp.desc).map (fun d => d.parameters.length) = some 3 := by decide +kernel
theorem hd_X6_startOfGrowth : yX6_startOfGrowth.cls = RX6 ∧ yX6_startOfGrowth.cls ≠ "java/lang/invoke/MethodHandle" ∧ yX6_startOfGrowth.cls ≠ "java/lang/invoke/VarHandle" ∧ (parseMethodDescriptor yX6_startOfGrowth.desc).map (fun d => d.parameters.length) = some 1 := by decide +kernel
theorem hd_X6_watch : yX6_watch.cls = RX6 ∧ yX6_watch.cls ≠ "java/lang/invoke/MethodHandle" ∧ yX6_watch.cls ≠ "java/lang/invoke/VarHandle" ∧ (parseMethodDescriptor yX6_watch.desc).map (fun d => d.parameters.length) = some 3 := by decide +kernel
theorem hd_X7_distanceFromMiddles : yX7_distanceFromMiddles.cls = RX7 ∧ yX7_distanceFromMiddles.cls ≠ "java/lang/invoke/MethodHandle" ∧ yX7_distanceFromMiddles.cls ≠ "java/lang/invoke/VarHandle" ∧ (parseMethodDescriptor yX7_distanceFromMiddles.desc).map (fun d => d.parameters.length) = some 2 := by decide +kernel
theorem hd_X7_forget : yX7_forget.cls = RX7 ∧ yX7_forget.cls ≠ "java/lang/invoke/MethodHandle" ∧ yX7_forget.cls ≠ "java/lang/invoke/VarHandle" ∧ (parseMethodDescriptor yX7_forget.desc).map (fun d => d.parameters.length) = some 0 := by decide +kernel
theorem hd_X7_init : yX7_init.cls = RX7 ∧ yX7_init.cls ≠ "java/lang/invoke/MethodHandle" ∧ yX7_init.cls ≠ "java/lang/invoke/VarHandle" ∧ (parseMethodDescriptor yX7_init.desc).map (fun d => d.parameters.length) = some 0 := by decide +kernel
theorem hd_X7_learn : yX7_learn.cls = RX7 ∧ yX7_learn.cls ≠ "java/lang/invoke/MethodHandle" ∧ yX7_learn.cls ≠ "java/lang/invoke/VarHandle" ∧ (parseMethodDescriptor yX7_learn.desc).map (fun d => d.parameters.length) = some 2 := by decide +kernel
theorem hd_X7_learnSegmentsTo : yX7_learnSegmentsTo.cls = RX7 ∧ yX7_learnSegmentsTo.cls ≠ "java/lang/invoke/MethodHandle" ∧ yX7_learnSegmentsTo.cls ≠ "java/lang/invoke/VarHandle" ∧ (parseMethodDescriptor yX7_learnSegmentsTo.desc).map (fun d => d.parameters.length) = some 2 := by decide +kernel
theorem hd_X7_middleOf : yX7_middleOf.cls = RX7 ∧ yX7_middleOf.cls ≠ "java/lang/invoke/MethodHandle" ∧ yX7_middleOf.cls ≠ "java/lang/invoke/VarHandle" ∧ (parseMethodDescriptor yX7_middleOf.desc).map (fun d => d.parameters.length) = some 3 := by decide +kernel
theorem hd_X7_of : yX7_of.cls = RX7 ∧ yX7_of.cls ≠ "java/lang/invoke/MethodHandle" ∧ yX7_of.cls ≠ "java/lang/invoke/VarHandle" ∧ (parseMethodDescriptor yX7_of.desc).map (fun d => d.parameters.length) = some 2 := by decide +kernel
theorem hd_X7_sortIn : yX7_sortIn.cls = RX7 ∧ yX7_sortIn.cls ≠ "java/lang/invoke/MethodHandle" ∧ yX7_sortIn.cls ≠ "java/lang/invoke/VarHandle" ∧ (parseMethodDescriptor yX7_sortIn.desc).map (fun d => d.parameters.length) = some 2 := by decide +kernel
theorem hd_X7_triangle : yX7_triangle.cls = RX7 ∧ yX7_triangle.cls ≠ "java/lang/invoke/MethodHandle" ∧ yX7_triangle.cls ≠ "java/lang/invoke/VarHandle" ∧ (parseMethodDescriptor yX7_triangle.desc).map (fun d => d.parameters.length) = some 1 := by decide +kernel
theorem hd_X8_beginMatching : yX8_beginMatching.cls = RX8 ∧ yX8_beginMatching.cls ≠ "java/lang/invoke/MethodHandle" ∧ yX8_beginMatching.cls ≠ "java/lang/invoke/VarHandle" ∧ (parseMethodDescriptor yX8_beginMatching.desc).map (fun d => d.parameters.length) = some 0 := by decide +kernel
theorem hd_X8_init : yX8_init.cls = RX8 ∧ yX8_init.cls ≠ "java/lang/invoke/MethodHandle" ∧ yX8_init.cls ≠ "java/lang/invoke/VarHandle" ∧ (parseMethodDescriptor yX8_init.desc).map (fun d => d.parameters.length) = some 0 := by decide +kernel
theorem hd_X8_match : yX8_match.cls = RX8 ∧ yX8_match.cls ≠ "java/lang/invoke/MethodHandle" ∧ yX8_match.cls ≠ "java/lang/invoke/VarHandle" ∧ (parseMethodDescriptor yX8_match.desc).map (fun d => d.parameters.length) = some 3 := by decide +kernel
theorem hd_X8_matchAlarm : yX8_matchAlarm.cls = RX8 ∧ yX8_matchAlarm.cls ≠ "java/lang/invoke/MethodHandle" ∧ yX8_matchAlarm.cls ≠ "java/lang/invoke/VarHandle" ∧ (parseMethodDescriptor yX8_matchAlarm.desc).map (fun d => d.parameters.length) = some 2 := by decide +kernel
theorem hd_X8_removeMarks : yX8_removeMarks.cls = RX8 ∧ yX8_removeMarks.cls ≠ "java/lang/invoke/MethodHandle" ∧ yX8_removeMarks.cls ≠ "java/lang/invoke/VarHandle" ∧ (parseMethodDescriptor yX8_removeMarks.desc).map (fun d => d.parameters.length) = some 0 := by decide +kernel
theorem hd_X9_add : yX9_add.cls = RX9 ∧ yX9_add.cls ≠ "java/lang/invoke/MethodHandle" ∧ yX9_add.cls ≠ "java/lang/invoke/VarHandle" ∧ (parseMethodDescriptor yX9_add.desc).map (fun d => d.parameters.length) = some 1 := by decide +kernel
theorem hd_X9_addRun : yX9_addRun.cls = RX9 ∧ yX9_addRun.cls ≠ "java/lang/invoke/MethodHandle" ∧ yX9_addRun.cls ≠ "java/lang/invoke/VarHandle" ∧ (parseMethodDescriptor yX9_addRun.desc).map (fun d => d.parameters.length) = some 3 := by decide +kernel
theorem hd_X9_alarmKind : yX9_alarmKind.cls = RX9 ∧ yX9_alarmKind.cls ≠ "java/lang/invoke/MethodHandle" ∧ yX9_alarmKind.cls ≠ "java/lang/invoke/VarHandle" ∧ (parseMethodDescriptor yX9_alarmKind.desc).map (fun d => d.parameters.length) = some 1 := by decide +kernel
theorem hd_X9_alarmNumber : yX9_alarmNumber.cls = RX9 ∧ yX9_alarmNumber.cls ≠ "java/lang/invoke/MethodHandle" ∧ yX9_alarmNumber.cls ≠ "java/lang/invoke/VarHandle" ∧ (parseMethodDescriptor yX9_alarmNumber.desc).map (fun d => d.parameters.length) = some 1 := by decide +kernel
theorem hd_X9_alarmStart : yX9_alarmStart.cls = RX9 ∧ yX9_alarmStart.cls ≠ "java/lang/invoke/MethodHandle" ∧ yX9_alarmStart.cls ≠ "java/lang/invoke/VarHandle" ∧ (parseMethodDescriptor yX9_alarmStart.desc).map (fun d => d.parameters.length) = some 1 := by decide +kernel
theorem hd_X9_alarms : yX9_alarms.cls = RX9 ∧ yX9_alarms.cls ≠ "java/lang/invoke/MethodHandle" ∧ yX9_alarms.cls ≠ "java/lang/invoke/VarHandle" ∧ (parseMethodDescriptor yX9_alarms.desc).map (fun d => d.parameters.length) = some 0 := by decide +kernel
theorem hd_X9_averageDelay : yX9_averageDelay.cls = RX9 ∧ yX9_averageDelay.cls ≠ "java/lang/invoke/MethodHandle" ∧ yX9_averageDelay.cls ≠ "java/lang/invoke/VarHandle" ∧ (parseMethodDescriptor yX9_averageDelay.desc).map (fun d => d.parameters.length) = some 2 := by decide +kernel
theorem hd_X9_bestCost : yX9_bestCost.cls = RX9 ∧ yX9_bestCost.cls ≠ "java/lang/invoke/MethodHandle" ∧ yX9_bestCost.cls ≠ "java/lang/invoke/VarHandle" ∧ (parseMethodDescriptor yX9_bestCost.desc).map (fun d => d.parameters.length) = some 0 := by decide +kernel
theorem hd_X9_bestCutting : yX9_bestCutting.cls = RX9 ∧ yX9_bestCutting.cls ≠ "java/lang/invoke/MethodHandle" ∧ yX9_bestCutting.cls ≠ "java/lang/invoke/VarHandle" ∧ (parseMethodDescriptor yX9_bestCutting.desc).map (fun d => d.parameters.length) = some 0 := by decide +kernel
theorem hd_X9_change : yX9_change.cls = RX9 ∧ yX9_change.cls ≠ "java/lang/invoke/MethodHandle" ∧ yX9_change.cls ≠ "java/lang/invoke/VarHandle" ∧ (parseMethodDescriptor yX9_change.desc).map (fun d => d.parameters.length) = some 1 := by decide +kernel
theorem hd_X9_changes : yX9_changes.cls = RX9 ∧ yX9_changes.cls ≠ "java/lang/invoke/MethodHandle" ∧ yX9_changes.cls ≠ "java/lang/invoke/VarHandle" ∧ (parseMethodDescriptor yX9_changes.desc).map (fun d => d.parameters.length) = some 0 := by decide +kernel
theorem hd_X9_clear : yX9_clear.cls = RX9 ∧ yX9_clear.cls ≠ "java/lang/invoke/MethodHandle" ∧ yX9_clear.cls ≠ "java/lang/invoke/VarHandle" ∧ (parseMethodDescriptor yX9_clear.desc).map (fun d => d.parameters.length) = some 0 := by decide +kernel
theorem hd_X9_cost : yX9_cost.cls = RX9 ∧ yX9_cost.cls ≠ "java/lang/invoke/MethodHandle" ∧ yX9_cost.cls ≠ "java/lang/invoke/VarHandle" ∧ (parseMethodDescriptor yX9_cost.desc).map (fun d => d.parameters.length) = some 2 := by decide +kernel
theorem hd_X9_falseAlarms : yX9_falseAlarms.cls = RX9 ∧ yX9_falseAlarms.cls ≠ "java/lang/invoke/MethodHandle" ∧ yX9_falseAlarms.cls ≠ "java/lang/invoke/VarHandle" ∧ (parseMethodDescriptor yX9_falseAlarms.desc).map (fun d => d.parameters.length) = some 2 := by decide +kernel
theorem hd_X9_forgetCuttings : yX9_forgetCuttings.cls = RX9 ∧ yX9_forgetCuttings.cls ≠ "java/lang/invoke/MethodHandle" ∧ yX9_forgetCuttings.cls ≠ "java/lang/invoke/VarHandle" ∧ (parseMethodDescriptor yX9_forgetCuttings.desc).map (fun d => d.parameters.length) = some 0 := by decide +kernel
theorem hd_X9_greedyChange : yX9_greedyChange.cls = RX9 ∧ yX9_greedyChange.cls ≠ "java/lang/invoke/MethodHandle" ∧ yX9_greedyChange.cls ≠ "java/lang/invoke/VarHandle" ∧ (parseMethodDescriptor yX9_greedyChange.desc).map (fun d => d.parameters.length) = some 1 := by decide +kernel
theorem hd_X9_greedyChanges : yX9_greedyChanges.cls = RX9 ∧ yX9_greedyChanges.cls ≠ "java/lang/invoke/MethodHandle" ∧ yX9_greedyChanges.cls ≠ "java/lang/invoke/VarHandle" ∧ (parseMethodDescriptor yX9_greedyChanges.desc).map (fun d => d.parameters.length) = some 0 := by decide +kernel
theorem hd_X9_greedyCost : yX9_greedyCost.cls = RX9 ∧ yX9_greedyCost.cls ≠ "java/lang/invoke/MethodHandle" ∧ yX9_greedyCost.cls ≠ "java/lang/invoke/VarHandle" ∧ (parseMethodDescriptor yX9_greedyCost.desc).map (fun d => d.parameters.length) = some 0 := by decide +kernel
theorem hd_X9_greedyCutting : yX9_greedyCutting.cls = RX9 ∧ yX9_greedyCutting.cls ≠ "java/lang/invoke/MethodHandle" ∧ yX9_greedyCutting.cls ≠ "java/lang/invoke/VarHandle" ∧ (parseMethodDescriptor yX9_greedyCutting.desc).map (fun d => d.parameters.length) = some 0 := by decide +kernel
theorem hd_X9_highSum : yX9_highSum.cls = RX9 ∧ yX9_highSum.cls ≠ "java/lang/invoke/MethodHandle" ∧ yX9_highSum.cls ≠ "java/lang/invoke/VarHandle" ∧ (parseMethodDescriptor yX9_highSum.desc).map (fun d => d.parameters.length) = some 0 := by decide +kernel
theorem hd_X9_init : yX9_init.cls = RX9 ∧ yX9_init.cls ≠ "java/lang/invoke/MethodHandle" ∧ yX9_init.cls ≠ "java/lang/invoke/VarHandle" ∧ (parseMethodDescriptor yX9_init.desc).map (fun d => d.parameters.length) = some 0 := by decide +kernel
theorem hd_X9_isAmountFromZero : yX9_isAmountFromZero.cls = RX9 ∧ yX9_isAmountFromZero.cls ≠ "java/lang/invoke/MethodHandle" ∧ yX9_isAmountFromZero.cls ≠ "java/lang/invoke/VarHandle" ∧ (parseMethodDescriptor yX9_isAmountFromZero.desc).map (fun d => d.parameters.length) = some 1 := by decide +kernel
theorem hd_X9_isBetween : yX9_isBetween.cls = RX9 ∧ yX9_isBetween.cls ≠ "java/lang/invoke/MethodHandle" ∧ yX9_isBetween.cls ≠ "java/lang/invoke/VarHandle" ∧ (parseMethodDescriptor yX9_isBetween.desc).map (fun d => d.parameters.length) = some 3 := by decide +kernel
theorem hd_X9_isSegment : yX9_isSegment.cls = RX9 ∧ yX9_isSegment.cls ≠ "java/lang/invoke/MethodHandle" ∧ yX9_isSegment.cls ≠ "java/lang/invoke/VarHandle" ∧ (parseMethodDescriptor yX9_isSegment.desc).map (fun d => d.parameters.length) = some 2 := by decide +kernel
theorem hd_X9_isValueNumber : yX9_isValueNumber.cls = RX9 ∧ yX9_isValueNumber.cls ≠ "java/lang/invoke/MethodHandle" ∧ yX9_isValueNumber.cls ≠ "java/lang/invoke/VarHandle" ∧ (parseMethodDescriptor yX9_isValueNumber.desc).map (fun d => d.parameters.length) = some 1 := by decide +kernel
theorem hd_X9_learntCosts : yX9_learntCosts.cls = RX9 ∧ yX9_learntCosts.cls ≠ "java/lang/invoke/MethodHandle" ∧ yX9_learntCosts.cls ≠ "java/lang/invoke/VarHandle" ∧ (parseMethodDescriptor yX9_learntCosts.desc).map (fun d => d.parameters.length) = some 0 := by decide +kernel
theorem hd_X9_leastCost : yX9_leastCost.cls = RX9 ∧ yX9_leastCost.cls ≠ "java/lang/invoke/MethodHandle" ∧ yX9_leastCost.cls ≠ "java/lang/invoke/VarHandle" ∧ (parseMethodDescriptor yX9_leastCost.desc).map (fun d => d.parameters.length) = some 1 := by decide +kernel
theorem hd_X9_lowSum : yX9_lowSum.cls = RX9 ∧ yX9_lowSum.cls ≠ "java/lang/invoke/MethodHandle" ∧ yX9_lowSum.cls ≠ "java/lang/invoke/VarHandle" ∧ (parseMethodDescriptor yX9_lowSum.desc).map (fun d => d.parameters.length) = some 0 := by decide +kernel
theorem hd_X9_matchAlarms : yX9_matchAlarms.cls = RX9 ∧ yX9_matchAlarms.cls ≠ "java/lang/invoke/MethodHandle" ∧ yX9_matchAlarms.cls ≠ "java/lang/invoke/VarHandle" ∧ (parseMethodDescriptor yX9_matchAlarms.desc).map (fun d => d.parameters.length) = some 2 := by decide +kernel
theorem hd_X9_matched : yX9_matched.cls = RX9 ∧ yX9_matched.cls ≠ "java/lang/invoke/MethodHandle" ∧ yX9_matched.cls ≠ "java/lang/invoke/VarHandle" ∧ (parseMethodDescriptor yX9_matched.desc).map (fun d => d.parameters.length) = some 2 := by decide +kernel
theorem hd_X9_middle : yX9_middle.cls = RX9 ∧ yX9_middle.cls ≠ "java/lang/invoke/MethodHandle" ∧ yX9_middle.cls ≠ "java/lang/invoke/VarHandle" ∧ (parseMethodDescriptor yX9_middle.desc).map (fun d => d.parameters.length) = some 2 := by decide +kernel
theorem hd_X9_requireArgument : yX9_requireArgument.cls = RX9 ∧ yX9_requireArgument.cls ≠ "java/lang/invoke/MethodHandle" ∧ yX9_requireArgument.cls ≠ "java/lang/invoke/VarHandle" ∧ (parseMethodDescriptor yX9_requireArgument.desc).map (fun d => d.parameters.length) = some 1 := by decide +kernel
theorem hd_X9_requireIndex : yX9_requireIndex.cls = RX9 ∧ yX9_requireIndex.cls ≠ "java/lang/invoke/MethodHandle" ∧ yX9_requireIndex.cls ≠ "java/lang/invoke/VarHandle" ∧ (parseMethodDescriptor yX9_requireIndex.desc).map (fun d => d.parameters.length) = some 1 := by decide +kernel
theorem hd_X9_requireState : yX9_requireState.cls = RX9 ∧ yX9_requireState.cls ≠ "java/lang/invoke/MethodHandle" ∧ yX9_requireState.cls ≠ "java/lang/invoke/VarHandle" ∧ (parseMethodDescriptor yX9_requireState.desc).map (fun d => d.parameters.length) = some 1 := by decide +kernel
theorem hd_X9_setPenalty : yX9_setPenalty.cls = RX9 ∧ yX9_setPenalty.cls ≠ "java/lang/invoke/MethodHandle" ∧ yX9_setPenalty.cls ≠ "java/lang/invoke/VarHandle" ∧ (parseMethodDescriptor yX9_setPenalty.desc).map (fun d => d.parameters.length) = some 1 := by decide +kernel
theorem hd_X9_setSums : yX9_setSums.cls = RX9 ∧ yX9_setSums.cls ≠ "java/lang/invoke/MethodHandle" ∧ yX9_setSums.cls ≠ "java/lang/invoke/VarHandle" ∧ (parseMethodDescriptor yX9_setSums.desc).map (fun d => d.parameters.length) = some 3 := by decide +kernel
theorem hd_X9_setTest : yX9_setTest.cls = RX9 ∧ yX9_setTest.cls ≠ "java/lang/invoke/MethodHandle" ∧ yX9_setTest.cls ≠ "java/lang/invoke/VarHandle" ∧ (parseMethodDescriptor yX9_setTest.desc).map (fun d => d.parameters.length) = some 3 := by decide +kernel
theorem hd_X9_size : yX9_size.cls = RX9 ∧ yX9_size.cls ≠ "java/lang/invoke/MethodHandle" ∧ yX9_size.cls ≠ "java/lang/invoke/VarHandle" ∧ (parseMethodDescriptor yX9_size.desc).map (fun d => d.parameters.length) = some 0 := by decide +kernel
theorem hd_X9_take : yX9_take.cls = RX9 ∧ yX9_take.cls ≠ "java/lang/invoke/MethodHandle" ∧ yX9_take.cls ≠ "java/lang/invoke/VarHandle" ∧ (parseMethodDescriptor yX9_take.desc).map (fun d => d.parameters.length) = some 1 := by decide +kernel
theorem hd_X9_testSum : yX9_testSum.cls = RX9 ∧ yX9_testSum.cls ≠ "java/lang/invoke/MethodHandle" ∧ yX9_testSum.cls ≠ "java/lang/invoke/VarHandle" ∧ (parseMethodDescriptor yX9_testSum.desc).map (fun d => d.parameters.length) = some 0 := by decide +kernel
theorem hd_X9_toggleTruth : yX9_toggleTruth.cls = RX9 ∧ yX9_toggleTruth.cls ≠ "java/lang/invoke/MethodHandle" ∧ yX9_toggleTruth.cls ≠ "java/lang/invoke/VarHandle" ∧ (parseMethodDescriptor yX9_toggleTruth.desc).map (fun d => d.parameters.length) = some 1 := by decide +kernel
theorem hd_X9_value : yX9_value.cls = RX9 ∧ yX9_value.cls ≠ "java/lang/invoke/MethodHandle" ∧ yX9_value.cls ≠ "java/lang/invoke/VarHandle" ∧ (parseMethodDescriptor yX9_value.desc).map (fun d => d.parameters.length) = some 1 := by decide +kernel
