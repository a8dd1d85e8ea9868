/-! the good words of the tables, all in one list, and which words are among them -/
def AW : List Cond := lw_tbl.filter goodWord
theorem aw_good {w : Cond} (h : w ∈ AW) : goodWord w = true := (List.mem_filter.mp h).2
theorem aw_tbl {w : Cond} (h : w ∈ AW) : w ∈ lw_tbl := (List.mem_filter.mp h).1
theorem aw_in {w : Cond} (i : Nat) (h : lw_tbl[i]? = some w) (g : goodWord w = true) : w ∈ AW := List.mem_filter.mpr ⟨List.mem_of_getElem? h, g⟩
abbrev aw (y : MethodName) (c : ByteArray) (n : Nat) (r : Option FieldType) : List Cond := Cond.code y c n r :: AW
theorem gAW {c0 : Cond} {ws : List Cond} (h : ∀ w ∈ ws, w ∈ AW) : GoodIn (c0 :: AW) ws := fun w hw => ⟨List.mem_cons_of_mem _ (h w hw), good_of_word (aw_good (h w hw))⟩
/-- the links of fields across the nest: they travel beside the words -/
abbrev NL : List (String × Nat × String × String × String × String) := [(RX8, 36, "Breakpoint$AlarmList", "kinds", "[I", "Breakpoint"), (RX9, 145, "Breakpoint$AlarmList", "kinds", "[I", "Breakpoint"), (RX8, 40, "Breakpoint$AlarmList", "numbers", "[I", "Breakpoint"), (RX9, 148, "Breakpoint$AlarmList", "numbers", "[I", "Breakpoint"), (RX9, 151, "Breakpoint$AlarmList", "starts", "[I", "Breakpoint"), (RX8, 31, "Breakpoint$AlarmList", "alarmCount", "I", "Breakpoint"), (RX9, 121, "Breakpoint$AlarmList", "alarmCount", "I", "Breakpoint"), (RX9, 130, "Breakpoint$CumulativeSums", "high", "I", "Breakpoint"), (RX9, 133, "Breakpoint$CumulativeSums", "low", "I", "Breakpoint"), (RX9, 136, "Breakpoint$PageHinkley", "sum", "I", "Breakpoint"), (RX9, 139, "Breakpoint$PageHinkley", "leastSum", "I", "Breakpoint"), (RX9, 174, "Breakpoint$Cutting", "cuts", "I", "Breakpoint"), (RX9, 181, "Breakpoint$Cutting", "price", "I", "Breakpoint"), (RX9, 214, "Breakpoint$Cutting", "stands", "Z", "Breakpoint"), (RX9, 192, "Breakpoint$Truth", "marked", "[Z", "Breakpoint"), (RX9, 200, "Breakpoint$Truth", "hits", "I", "Breakpoint"), (RX9, 203, "Breakpoint$Truth", "misses", "I", "Breakpoint"), (RX9, 206, "Breakpoint$Truth", "delays", "I", "Breakpoint")]
def nlw (z : String × Nat × String × String × String × String) : Cond := .fieldLinkNest z.1 z.2.1 z.2.2.1 z.2.2.2.1 z.2.2.2.2.1 z.2.2.2.2.2
def nwAll (U : State) : Prop := ∀ z ∈ NL, va_Nw (nlw z) U
theorem nwAll.same {u U : State} (h : u.vm = U.vm) (hN : nwAll u) : nwAll U := fun z hz => va_Nw.same rfl h (hN z hz)
theorem nwAll.warm {s U : State} (hW : s.WarmedH U.vm) (hN : nwAll s) : nwAll U := fun z hz => va_Nw.warmF hW (hN z hz)
theorem nw_use {args : Array Value} {s : State} (hN : nwAll s) {z : String × Nat × String × String × String × String} (hz : z ∈ NL) : (nlw z).before args s = true := va_Nw.use rfl (hN z hz)
theorem nq74 : (RX8, 36, "Breakpoint$AlarmList", "kinds", "[I", "Breakpoint") ∈ NL := List.mem_of_getElem? (i := 0) rfl
theorem nq75 : (RX9, 145, "Breakpoint$AlarmList", "kinds", "[I", "Breakpoint") ∈ NL := List.mem_of_getElem? (i := 1) rfl
theorem nq77 : (RX8, 40, "Breakpoint$AlarmList", "numbers", "[I", "Breakpoint") ∈ NL := List.mem_of_getElem? (i := 2) rfl
theorem nq78 : (RX9, 148, "Breakpoint$AlarmList", "numbers", "[I", "Breakpoint") ∈ NL := List.mem_of_getElem? (i := 3) rfl
theorem nq80 : (RX9, 151, "Breakpoint$AlarmList", "starts", "[I", "Breakpoint") ∈ NL := List.mem_of_getElem? (i := 4) rfl
theorem nq82 : (RX8, 31, "Breakpoint$AlarmList", "alarmCount", "I", "Breakpoint") ∈ NL := List.mem_of_getElem? (i := 5) rfl
theorem nq83 : (RX9, 121, "Breakpoint$AlarmList", "alarmCount", "I", "Breakpoint") ∈ NL := List.mem_of_getElem? (i := 6) rfl
theorem nq112 : (RX9, 130, "Breakpoint$CumulativeSums", "high", "I", "Breakpoint") ∈ NL := List.mem_of_getElem? (i := 7) rfl
theorem nq114 : (RX9, 133, "Breakpoint$CumulativeSums", "low", "I", "Breakpoint") ∈ NL := List.mem_of_getElem? (i := 8) rfl
theorem nq152 : (RX9, 136, "Breakpoint$PageHinkley", "sum", "I", "Breakpoint") ∈ NL := List.mem_of_getElem? (i := 9) rfl
theorem nq154 : (RX9, 139, "Breakpoint$PageHinkley", "leastSum", "I", "Breakpoint") ∈ NL := List.mem_of_getElem? (i := 10) rfl
theorem nq230 : (RX9, 174, "Breakpoint$Cutting", "cuts", "I", "Breakpoint") ∈ NL := List.mem_of_getElem? (i := 11) rfl
theorem nq232 : (RX9, 181, "Breakpoint$Cutting", "price", "I", "Breakpoint") ∈ NL := List.mem_of_getElem? (i := 12) rfl
theorem nq234 : (RX9, 214, "Breakpoint$Cutting", "stands", "Z", "Breakpoint") ∈ NL := List.mem_of_getElem? (i := 13) rfl
theorem nq252 : (RX9, 192, "Breakpoint$Truth", "marked", "[Z", "Breakpoint") ∈ NL := List.mem_of_getElem? (i := 14) rfl
theorem nq255 : (RX9, 200, "Breakpoint$Truth", "hits", "I", "Breakpoint") ∈ NL := List.mem_of_getElem? (i := 15) rfl
theorem nq257 : (RX9, 203, "Breakpoint$Truth", "misses", "I", "Breakpoint") ∈ NL := List.mem_of_getElem? (i := 16) rfl
theorem nq259 : (RX9, 206, "Breakpoint$Truth", "delays", "I", "Breakpoint") ∈ NL := List.mem_of_getElem? (i := 17) rfl
theorem nl_in : ∀ z ∈ NL, nlw z ∈ lw_tbl := by
  intro z hz
  simp only [NL, List.mem_cons, List.not_mem_nil, or_false] at hz
  rcases hz with rfl | rfl | rfl | rfl | rfl | rfl | rfl | rfl | rfl | rfl | rfl | rfl | rfl | rfl | rfl | rfl | rfl | rfl
  · exact List.mem_of_getElem? (i := 74) (by decide +kernel)
  · exact List.mem_of_getElem? (i := 75) (by decide +kernel)
  · exact List.mem_of_getElem? (i := 77) (by decide +kernel)
  · exact List.mem_of_getElem? (i := 78) (by decide +kernel)
  · exact List.mem_of_getElem? (i := 80) (by decide +kernel)
  · exact List.mem_of_getElem? (i := 82) (by decide +kernel)
  · exact List.mem_of_getElem? (i := 83) (by decide +kernel)
  · exact List.mem_of_getElem? (i := 112) (by decide +kernel)
  · exact List.mem_of_getElem? (i := 114) (by decide +kernel)
  · exact List.mem_of_getElem? (i := 152) (by decide +kernel)
  · exact List.mem_of_getElem? (i := 154) (by decide +kernel)
  · exact List.mem_of_getElem? (i := 230) (by decide +kernel)
  · exact List.mem_of_getElem? (i := 232) (by decide +kernel)
  · exact List.mem_of_getElem? (i := 234) (by decide +kernel)
  · exact List.mem_of_getElem? (i := 252) (by decide +kernel)
  · exact List.mem_of_getElem? (i := 255) (by decide +kernel)
  · exact List.mem_of_getElem? (i := 257) (by decide +kernel)
  · exact List.mem_of_getElem? (i := 259) (by decide +kernel)
theorem nw_of {args : Array Value} {s : State} (hts : ∀ w ∈ lw_tbl, w.before args s = true) : nwAll s := by
  intro z hz
  refine va_Nw.of rfl (hts (nlw z) ?_)
  exact nl_in z hz
theorem q0 : Cond.selects RX9 yX9_forgetCuttings yX9_forgetCuttings ∈ AW := aw_in 0 (by decide +kernel) rfl
theorem q1 : Cond.selects RX9 yX9_bestCutting yX9_bestCutting ∈ AW := aw_in 1 (by decide +kernel) rfl
theorem q2 : Cond.selects RX9 yX9_learntCosts yX9_learntCosts ∈ AW := aw_in 2 (by decide +kernel) rfl
theorem q3 : Cond.selects RX7 yX7_learnSegmentsTo yX7_learnSegmentsTo ∈ AW := aw_in 3 (by decide +kernel) rfl
theorem q4 : Cond.selects RX7 yX7_distanceFromMiddles yX7_distanceFromMiddles ∈ AW := aw_in 4 (by decide +kernel) rfl
theorem q5 : Cond.selects RX7 yX7_sortIn yX7_sortIn ∈ AW := aw_in 5 (by decide +kernel) rfl
theorem q6 : Cond.selects RX1 yX1_findFrom yX1_findFrom ∈ AW := aw_in 6 (by decide +kernel) rfl
theorem q7 : Cond.selects RX9 yX9_greedyCutting yX9_greedyCutting ∈ AW := aw_in 7 (by decide +kernel) rfl
theorem q9 : Cond.selects RX9 yX9_take yX9_take ∈ AW := aw_in 9 (by decide +kernel) rfl
theorem q10 : Cond.selects RX2 yX2_moveSums yX2_moveSums ∈ AW := aw_in 10 (by decide +kernel) rfl
theorem q11 : Cond.selects RX6 yX6_moveSum yX6_moveSum ∈ AW := aw_in 11 (by decide +kernel) rfl
theorem q12 : Cond.selects RX6 yX6_mean yX6_mean ∈ AW := aw_in 12 (by decide +kernel) rfl
theorem q13 : Cond.selects RX6 yX6_startOfGrowth yX6_startOfGrowth ∈ AW := aw_in 13 (by decide +kernel) rfl
theorem q14 : Cond.selects RX9 yX9_isValueNumber yX9_isValueNumber ∈ AW := aw_in 14 (by decide +kernel) rfl
theorem q15 : Cond.selects RX9 yX9_isSegment yX9_isSegment ∈ AW := aw_in 15 (by decide +kernel) rfl
theorem q16 : Cond.selects RX5 yX5_learnCuttingsTo yX5_learnCuttingsTo ∈ AW := aw_in 16 (by decide +kernel) rfl
theorem q17 : Cond.selects RX5 yX5_leastWithLastSegment yX5_leastWithLastSegment ∈ AW := aw_in 17 (by decide +kernel) rfl
theorem q18 : Cond.selects RX9 yX9_matchAlarms yX9_matchAlarms ∈ AW := aw_in 18 (by decide +kernel) rfl
theorem q19 : Cond.selects RX8 yX8_beginMatching yX8_beginMatching ∈ AW := aw_in 19 (by decide +kernel) rfl
theorem q20 : Cond.selects RX8 yX8_matchAlarm yX8_matchAlarm ∈ AW := aw_in 20 (by decide +kernel) rfl
theorem q21 : Cond.selects RX10 yX10_restsSums yX10_restsSums ∈ AW := aw_in 21 (by decide +kernel) rfl
theorem q22 : Cond.selects RX10 yX10_restsTest yX10_restsTest ∈ AW := aw_in 22 (by decide +kernel) rfl
theorem q23 : Cond.selects RX10 yX10_fails yX10_fails ∈ AW := aw_in 23 (by decide +kernel) rfl
theorem q24 : Cond.selects RX10 yX10_puts yX10_puts ∈ AW := aw_in 24 (by decide +kernel) rfl
theorem q25 : Cond.selects RX10 yX10_sums yX10_sums ∈ AW := aw_in 25 (by decide +kernel) rfl
theorem q26 : Cond.selects RX10 yX10_raises yX10_raises ∈ AW := aw_in 26 (by decide +kernel) rfl
theorem q27 : Cond.selects RX10 yX10_tests yX10_tests ∈ AW := aw_in 27 (by decide +kernel) rfl
theorem q28 : Cond.selects RX10 yX10_tells yX10_tells ∈ AW := aw_in 28 (by decide +kernel) rfl
theorem q29 : Cond.selects RX10 yX10_ofAlarm yX10_ofAlarm ∈ AW := aw_in 29 (by decide +kernel) rfl
theorem q30 : Cond.selects RX10 yX10_isSegment yX10_isSegment ∈ AW := aw_in 30 (by decide +kernel) rfl
theorem q31 : Cond.selects RX10 yX10_weighs yX10_weighs ∈ AW := aw_in 31 (by decide +kernel) rfl
theorem q32 : Cond.selects RX10 yX10_sorts yX10_sorts ∈ AW := aw_in 32 (by decide +kernel) rfl
theorem q33 : Cond.selects RX10 yX10_of yX10_of ∈ AW := aw_in 33 (by decide +kernel) rfl
theorem q34 : Cond.selects RX10 yX10_cuts yX10_cuts ∈ AW := aw_in 34 (by decide +kernel) rfl
theorem q35 : Cond.selects RX10 yX10_next yX10_next ∈ AW := aw_in 35 (by decide +kernel) rfl
theorem q36 : Cond.selects RX10 yX10_cutsGreedily yX10_cutsGreedily ∈ AW := aw_in 36 (by decide +kernel) rfl
theorem q37 : Cond.selects RX10 yX10_cut yX10_cut ∈ AW := aw_in 37 (by decide +kernel) rfl
theorem q38 : Cond.selects RX10 yX10_isNoWindow yX10_isNoWindow ∈ AW := aw_in 38 (by decide +kernel) rfl
theorem q39 : Cond.selects RX10 yX10_matches yX10_matches ∈ AW := aw_in 39 (by decide +kernel) rfl
theorem q40 : Cond.initialized RL ∈ AW := aw_in 40 (by decide +kernel) rfl
theorem q41 : Cond.initialized RX9 ∈ AW := aw_in 41 (by decide +kernel) rfl
theorem q42 : Cond.initialized RX0 ∈ AW := aw_in 42 (by decide +kernel) rfl
theorem q43 : Cond.initialized RX2 ∈ AW := aw_in 43 (by decide +kernel) rfl
theorem q44 : Cond.initialized RX6 ∈ AW := aw_in 44 (by decide +kernel) rfl
theorem q45 : Cond.initialized RX7 ∈ AW := aw_in 45 (by decide +kernel) rfl
theorem q46 : Cond.initialized RX5 ∈ AW := aw_in 46 (by decide +kernel) rfl
theorem q47 : Cond.initialized RX1 ∈ AW := aw_in 47 (by decide +kernel) rfl
theorem q48 : Cond.initialized RX3 ∈ AW := aw_in 48 (by decide +kernel) rfl
theorem q49 : Cond.initialized RX8 ∈ AW := aw_in 49 (by decide +kernel) rfl
theorem q50 : Cond.initialized RX10 ∈ AW := aw_in 50 (by decide +kernel) rfl
theorem q51 : Cond.initialized "java/lang/Throwable" ∈ AW := aw_in 51 (by decide +kernel) rfl
theorem q52 : Cond.initialized "java/lang/Exception" ∈ AW := aw_in 52 (by decide +kernel) rfl
theorem q53 : Cond.initialized "java/lang/RuntimeException" ∈ AW := aw_in 53 (by decide +kernel) rfl
theorem q54 : Cond.initialized "java/lang/IllegalArgumentException" ∈ AW := aw_in 54 (by decide +kernel) rfl
theorem q55 : Cond.initialized "java/lang/IllegalStateException" ∈ AW := aw_in 55 (by decide +kernel) rfl
theorem q56 : Cond.initialized RJ9 ∈ AW := aw_in 56 (by decide +kernel) rfl
theorem q57 : Cond.initialized "java/lang/IndexOutOfBoundsException" ∈ AW := aw_in 57 (by decide +kernel) rfl
theorem q58 : Cond.initialized RX4 ∈ AW := aw_in 58 (by decide +kernel) rfl
theorem q59 : Cond.classLink RL 8 RX9 ∈ AW := aw_in 59 (by decide +kernel) rfl
theorem q60 : Cond.instantiable RX9 12 ∈ AW := aw_in 60 (by decide +kernel) rfl
theorem q61 : Cond.methodLink RL 75 yX9_init ∈ AW := aw_in 61 (by decide +kernel) rfl
theorem q62 : Cond.instanceMethod yX9_init ∈ AW := aw_in 62 (by decide +kernel) rfl
theorem q63 : Cond.code yX9_init cX9_init 1 none ∈ AW := aw_in 63 (by decide +kernel) rfl
theorem q64 : Cond.methodLink RX9 1 objectInit ∈ AW := aw_in 64 (by decide +kernel) rfl
theorem q65 : Cond.instanceMethod objectInit ∈ AW := aw_in 65 (by decide +kernel) rfl
theorem q66 : Cond.code objectInit ⟨#[0xb1]⟩ 1 none ∈ AW := aw_in 66 (by decide +kernel) rfl
theorem q67 : Cond.classLink RX9 13 RX0 ∈ AW := aw_in 67 (by decide +kernel) rfl
theorem q68 : Cond.instantiable RX0 4 ∈ AW := aw_in 68 (by decide +kernel) rfl
theorem q69 : Cond.methodLink RX9 15 yX0_init ∈ AW := aw_in 69 (by decide +kernel) rfl
theorem q70 : Cond.instanceMethod yX0_init ∈ AW := aw_in 70 (by decide +kernel) rfl
theorem q71 : Cond.code yX0_init cX0_init 1 none ∈ AW := aw_in 71 (by decide +kernel) rfl
theorem q72 : Cond.methodLink RX0 3 objectInit ∈ AW := aw_in 72 (by decide +kernel) rfl
theorem q73 : Cond.fieldLink RX0 11 "Breakpoint$AlarmList" "kinds" "[I" ∈ AW := aw_in 73 (by decide +kernel) rfl
theorem q76 : Cond.fieldLink RX0 15 "Breakpoint$AlarmList" "numbers" "[I" ∈ AW := aw_in 76 (by decide +kernel) rfl
theorem q79 : Cond.fieldLink RX0 18 "Breakpoint$AlarmList" "starts" "[I" ∈ AW := aw_in 79 (by decide +kernel) rfl
theorem q81 : Cond.fieldLink RX0 21 "Breakpoint$AlarmList" "alarmCount" "I" ∈ AW := aw_in 81 (by decide +kernel) rfl
theorem q84 : Cond.laysFinal "Breakpoint$AlarmList" "Breakpoint$AlarmList" "kinds" "[I" ∈ AW := aw_in 84 (by decide +kernel) rfl
theorem q86 : Cond.laysFinal "Breakpoint$AlarmList" "Breakpoint$AlarmList" "numbers" "[I" ∈ AW := aw_in 86 (by decide +kernel) rfl
theorem q88 : Cond.laysFinal "Breakpoint$AlarmList" "Breakpoint$AlarmList" "starts" "[I" ∈ AW := aw_in 88 (by decide +kernel) rfl
theorem q90 : Cond.lays "Breakpoint$AlarmList" "Breakpoint$AlarmList" "alarmCount" "I" ∈ AW := aw_in 90 (by decide +kernel) rfl
theorem q93 : Cond.arrayClass .int ∈ AW := aw_in 93 (by decide +kernel) rfl
theorem q94 : Cond.classLink RX9 20 RX2 ∈ AW := aw_in 94 (by decide +kernel) rfl
theorem q95 : Cond.instantiable RX2 7 ∈ AW := aw_in 95 (by decide +kernel) rfl
theorem q96 : Cond.methodLink RX9 22 yX2_init ∈ AW := aw_in 96 (by decide +kernel) rfl
theorem q97 : Cond.instanceMethod yX2_init ∈ AW := aw_in 97 (by decide +kernel) rfl
theorem q98 : Cond.code yX2_init cX2_init 1 none ∈ AW := aw_in 98 (by decide +kernel) rfl
theorem q99 : Cond.methodLink RX2 3 objectInit ∈ AW := aw_in 99 (by decide +kernel) rfl
theorem q100 : Cond.methodLink RX2 9 yX2_setUp ∈ AW := aw_in 100 (by decide +kernel) rfl
theorem q101 : Cond.instanceMethod yX2_setUp ∈ AW := aw_in 101 (by decide +kernel) rfl
theorem q102 : Cond.selects RX2 yX2_setUp yX2_setUp ∈ AW := aw_in 102 (by decide +kernel) rfl
theorem q103 : Cond.code yX2_setUp cX2_setUp 4 none ∈ AW := aw_in 103 (by decide +kernel) rfl
theorem q104 : Cond.methodLink RX2 25 yX2_beginAnew ∈ AW := aw_in 104 (by decide +kernel) rfl
theorem q105 : Cond.instanceMethod yX2_beginAnew ∈ AW := aw_in 105 (by decide +kernel) rfl
theorem q106 : Cond.selects RX2 yX2_beginAnew yX2_beginAnew ∈ AW := aw_in 106 (by decide +kernel) rfl
theorem q107 : Cond.code yX2_beginAnew cX2_beginAnew 1 none ∈ AW := aw_in 107 (by decide +kernel) rfl
theorem q108 : Cond.fieldLink RX2 15 "Breakpoint$CumulativeSums" "target" "I" ∈ AW := aw_in 108 (by decide +kernel) rfl
theorem q109 : Cond.fieldLink RX2 19 "Breakpoint$CumulativeSums" "slack" "I" ∈ AW := aw_in 109 (by decide +kernel) rfl
theorem q110 : Cond.fieldLink RX2 22 "Breakpoint$CumulativeSums" "threshold" "I" ∈ AW := aw_in 110 (by decide +kernel) rfl
theorem q111 : Cond.fieldLink RX2 28 "Breakpoint$CumulativeSums" "high" "I" ∈ AW := aw_in 111 (by decide +kernel) rfl
theorem q113 : Cond.fieldLink RX2 31 "Breakpoint$CumulativeSums" "low" "I" ∈ AW := aw_in 113 (by decide +kernel) rfl
theorem q115 : Cond.fieldLink RX2 38 "Breakpoint$CumulativeSums" "highStart" "I" ∈ AW := aw_in 115 (by decide +kernel) rfl
theorem q116 : Cond.fieldLink RX2 46 "Breakpoint$CumulativeSums" "lowStart" "I" ∈ AW := aw_in 116 (by decide +kernel) rfl
theorem q117 : Cond.lays "Breakpoint$CumulativeSums" "Breakpoint$CumulativeSums" "target" "I" ∈ AW := aw_in 117 (by decide +kernel) rfl
theorem q119 : Cond.lays "Breakpoint$CumulativeSums" "Breakpoint$CumulativeSums" "slack" "I" ∈ AW := aw_in 119 (by decide +kernel) rfl
theorem q121 : Cond.lays "Breakpoint$CumulativeSums" "Breakpoint$CumulativeSums" "threshold" "I" ∈ AW := aw_in 121 (by decide +kernel) rfl
theorem q123 : Cond.lays "Breakpoint$CumulativeSums" "Breakpoint$CumulativeSums" "high" "I" ∈ AW := aw_in 123 (by decide +kernel) rfl
theorem q125 : Cond.lays "Breakpoint$CumulativeSums" "Breakpoint$CumulativeSums" "low" "I" ∈ AW := aw_in 125 (by decide +kernel) rfl
theorem q127 : Cond.lays "Breakpoint$CumulativeSums" "Breakpoint$CumulativeSums" "highStart" "I" ∈ AW := aw_in 127 (by decide +kernel) rfl
theorem q129 : Cond.lays "Breakpoint$CumulativeSums" "Breakpoint$CumulativeSums" "lowStart" "I" ∈ AW := aw_in 129 (by decide +kernel) rfl
theorem q132 : Cond.classLink RX9 27 RX6 ∈ AW := aw_in 132 (by decide +kernel) rfl
theorem q133 : Cond.instantiable RX6 8 ∈ AW := aw_in 133 (by decide +kernel) rfl
theorem q134 : Cond.methodLink RX9 29 yX6_init ∈ AW := aw_in 134 (by decide +kernel) rfl
theorem q135 : Cond.instanceMethod yX6_init ∈ AW := aw_in 135 (by decide +kernel) rfl
theorem q136 : Cond.code yX6_init cX6_init 1 none ∈ AW := aw_in 136 (by decide +kernel) rfl
theorem q137 : Cond.methodLink RX6 3 objectInit ∈ AW := aw_in 137 (by decide +kernel) rfl
theorem q138 : Cond.methodLink RX6 11 yX6_setUp ∈ AW := aw_in 138 (by decide +kernel) rfl
theorem q139 : Cond.instanceMethod yX6_setUp ∈ AW := aw_in 139 (by decide +kernel) rfl
theorem q140 : Cond.selects RX6 yX6_setUp yX6_setUp ∈ AW := aw_in 140 (by decide +kernel) rfl
theorem q141 : Cond.code yX6_setUp cX6_setUp 4 none ∈ AW := aw_in 141 (by decide +kernel) rfl
theorem q142 : Cond.methodLink RX6 25 yX6_beginAnew ∈ AW := aw_in 142 (by decide +kernel) rfl
theorem q143 : Cond.instanceMethod yX6_beginAnew ∈ AW := aw_in 143 (by decide +kernel) rfl
theorem q144 : Cond.selects RX6 yX6_beginAnew yX6_beginAnew ∈ AW := aw_in 144 (by decide +kernel) rfl
theorem q145 : Cond.code yX6_beginAnew cX6_beginAnew 1 none ∈ AW := aw_in 145 (by decide +kernel) rfl
theorem q146 : Cond.fieldLink RX6 15 "Breakpoint$PageHinkley" "allowance" "I" ∈ AW := aw_in 146 (by decide +kernel) rfl
theorem q147 : Cond.fieldLink RX6 19 "Breakpoint$PageHinkley" "forgetting" "I" ∈ AW := aw_in 147 (by decide +kernel) rfl
theorem q148 : Cond.fieldLink RX6 22 "Breakpoint$PageHinkley" "limit" "I" ∈ AW := aw_in 148 (by decide +kernel) rfl
theorem q149 : Cond.fieldLink RX6 28 "Breakpoint$PageHinkley" "counted" "I" ∈ AW := aw_in 149 (by decide +kernel) rfl
theorem q150 : Cond.fieldLink RX6 31 "Breakpoint$PageHinkley" "total" "I" ∈ AW := aw_in 150 (by decide +kernel) rfl
theorem q151 : Cond.fieldLink RX6 34 "Breakpoint$PageHinkley" "sum" "I" ∈ AW := aw_in 151 (by decide +kernel) rfl
theorem q153 : Cond.fieldLink RX6 37 "Breakpoint$PageHinkley" "leastSum" "I" ∈ AW := aw_in 153 (by decide +kernel) rfl
theorem q155 : Cond.fieldLink RX6 40 "Breakpoint$PageHinkley" "leastNumber" "I" ∈ AW := aw_in 155 (by decide +kernel) rfl
theorem q156 : Cond.lays "Breakpoint$PageHinkley" "Breakpoint$PageHinkley" "allowance" "I" ∈ AW := aw_in 156 (by decide +kernel) rfl
theorem q158 : Cond.lays "Breakpoint$PageHinkley" "Breakpoint$PageHinkley" "forgetting" "I" ∈ AW := aw_in 158 (by decide +kernel) rfl
theorem q160 : Cond.lays "Breakpoint$PageHinkley" "Breakpoint$PageHinkley" "limit" "I" ∈ AW := aw_in 160 (by decide +kernel) rfl
theorem q162 : Cond.lays "Breakpoint$PageHinkley" "Breakpoint$PageHinkley" "counted" "I" ∈ AW := aw_in 162 (by decide +kernel) rfl
theorem q164 : Cond.lays "Breakpoint$PageHinkley" "Breakpoint$PageHinkley" "total" "I" ∈ AW := aw_in 164 (by decide +kernel) rfl
theorem q166 : Cond.lays "Breakpoint$PageHinkley" "Breakpoint$PageHinkley" "sum" "I" ∈ AW := aw_in 166 (by decide +kernel) rfl
theorem q168 : Cond.lays "Breakpoint$PageHinkley" "Breakpoint$PageHinkley" "leastSum" "I" ∈ AW := aw_in 168 (by decide +kernel) rfl
theorem q170 : Cond.lays "Breakpoint$PageHinkley" "Breakpoint$PageHinkley" "leastNumber" "I" ∈ AW := aw_in 170 (by decide +kernel) rfl
theorem q173 : Cond.classLink RX9 34 RX7 ∈ AW := aw_in 173 (by decide +kernel) rfl
theorem q174 : Cond.instantiable RX7 3 ∈ AW := aw_in 174 (by decide +kernel) rfl
theorem q175 : Cond.methodLink RX9 36 yX7_init ∈ AW := aw_in 175 (by decide +kernel) rfl
theorem q176 : Cond.instanceMethod yX7_init ∈ AW := aw_in 176 (by decide +kernel) rfl
theorem q177 : Cond.code yX7_init cX7_init 1 none ∈ AW := aw_in 177 (by decide +kernel) rfl
theorem q178 : Cond.methodLink RX7 3 objectInit ∈ AW := aw_in 178 (by decide +kernel) rfl
theorem q179 : Cond.methodLink RX7 9 yX7_triangle ∈ AW := aw_in 179 (by decide +kernel) rfl
theorem q180 : Cond.static yX7_triangle ∈ AW := aw_in 180 (by decide +kernel) rfl
theorem q181 : Cond.code yX7_triangle cX7_triangle 1 (some .int) ∈ AW := aw_in 181 (by decide +kernel) rfl
theorem q182 : Cond.fieldLink RX7 15 "Breakpoint$SegmentCosts" "costs" "[I" ∈ AW := aw_in 182 (by decide +kernel) rfl
theorem q183 : Cond.fieldLink RX7 19 "Breakpoint$SegmentCosts" "sorted" "[I" ∈ AW := aw_in 183 (by decide +kernel) rfl
theorem q184 : Cond.fieldLink RX7 22 "Breakpoint$SegmentCosts" "learnt" "I" ∈ AW := aw_in 184 (by decide +kernel) rfl
theorem q185 : Cond.laysFinal "Breakpoint$SegmentCosts" "Breakpoint$SegmentCosts" "costs" "[I" ∈ AW := aw_in 185 (by decide +kernel) rfl
theorem q187 : Cond.laysFinal "Breakpoint$SegmentCosts" "Breakpoint$SegmentCosts" "sorted" "[I" ∈ AW := aw_in 187 (by decide +kernel) rfl
theorem q189 : Cond.lays "Breakpoint$SegmentCosts" "Breakpoint$SegmentCosts" "learnt" "I" ∈ AW := aw_in 189 (by decide +kernel) rfl
theorem q192 : Cond.classLink RX9 41 RX5 ∈ AW := aw_in 192 (by decide +kernel) rfl
theorem q193 : Cond.instantiable RX5 2 ∈ AW := aw_in 193 (by decide +kernel) rfl
theorem q194 : Cond.methodLink RX9 43 yX5_init ∈ AW := aw_in 194 (by decide +kernel) rfl
theorem q195 : Cond.instanceMethod yX5_init ∈ AW := aw_in 195 (by decide +kernel) rfl
theorem q196 : Cond.code yX5_init cX5_init 1 none ∈ AW := aw_in 196 (by decide +kernel) rfl
theorem q197 : Cond.methodLink RX5 3 objectInit ∈ AW := aw_in 197 (by decide +kernel) rfl
theorem q198 : Cond.methodLink RX5 9 yX7_triangle ∈ AW := aw_in 198 (by decide +kernel) rfl
theorem q199 : Cond.fieldLink RX5 15 "Breakpoint$LeastCosts" "least" "[I" ∈ AW := aw_in 199 (by decide +kernel) rfl
theorem q200 : Cond.fieldLink RX5 21 "Breakpoint$LeastCosts" "learnt" "I" ∈ AW := aw_in 200 (by decide +kernel) rfl
theorem q201 : Cond.laysFinal "Breakpoint$LeastCosts" "Breakpoint$LeastCosts" "least" "[I" ∈ AW := aw_in 201 (by decide +kernel) rfl
theorem q203 : Cond.lays "Breakpoint$LeastCosts" "Breakpoint$LeastCosts" "learnt" "I" ∈ AW := aw_in 203 (by decide +kernel) rfl
theorem q206 : Cond.classLink RX9 48 RX1 ∈ AW := aw_in 206 (by decide +kernel) rfl
theorem q207 : Cond.instantiable RX1 3 ∈ AW := aw_in 207 (by decide +kernel) rfl
theorem q208 : Cond.methodLink RX9 50 yX1_init ∈ AW := aw_in 208 (by decide +kernel) rfl
theorem q209 : Cond.instanceMethod yX1_init ∈ AW := aw_in 209 (by decide +kernel) rfl
theorem q210 : Cond.code yX1_init cX1_init 1 none ∈ AW := aw_in 210 (by decide +kernel) rfl
theorem q211 : Cond.methodLink RX1 3 objectInit ∈ AW := aw_in 211 (by decide +kernel) rfl
theorem q212 : Cond.fieldLink RX1 9 "Breakpoint$BestSearch" "priceFrom" "[I" ∈ AW := aw_in 212 (by decide +kernel) rfl
theorem q213 : Cond.fieldLink RX1 15 "Breakpoint$BestSearch" "cutsFrom" "[I" ∈ AW := aw_in 213 (by decide +kernel) rfl
theorem q214 : Cond.fieldLink RX1 18 "Breakpoint$BestSearch" "nextCut" "[I" ∈ AW := aw_in 214 (by decide +kernel) rfl
theorem q215 : Cond.laysFinal "Breakpoint$BestSearch" "Breakpoint$BestSearch" "priceFrom" "[I" ∈ AW := aw_in 215 (by decide +kernel) rfl
theorem q217 : Cond.laysFinal "Breakpoint$BestSearch" "Breakpoint$BestSearch" "cutsFrom" "[I" ∈ AW := aw_in 217 (by decide +kernel) rfl
theorem q219 : Cond.laysFinal "Breakpoint$BestSearch" "Breakpoint$BestSearch" "nextCut" "[I" ∈ AW := aw_in 219 (by decide +kernel) rfl
theorem q222 : Cond.classLink RX9 55 RX3 ∈ AW := aw_in 222 (by decide +kernel) rfl
theorem q223 : Cond.instantiable RX3 4 ∈ AW := aw_in 223 (by decide +kernel) rfl
theorem q224 : Cond.methodLink RX9 57 yX3_init ∈ AW := aw_in 224 (by decide +kernel) rfl
theorem q225 : Cond.instanceMethod yX3_init ∈ AW := aw_in 225 (by decide +kernel) rfl
theorem q226 : Cond.code yX3_init cX3_init 1 none ∈ AW := aw_in 226 (by decide +kernel) rfl
theorem q227 : Cond.methodLink RX3 3 objectInit ∈ AW := aw_in 227 (by decide +kernel) rfl
theorem q228 : Cond.fieldLink RX3 9 "Breakpoint$Cutting" "cutAt" "[Z" ∈ AW := aw_in 228 (by decide +kernel) rfl
theorem q229 : Cond.fieldLink RX3 15 "Breakpoint$Cutting" "cuts" "I" ∈ AW := aw_in 229 (by decide +kernel) rfl
theorem q231 : Cond.fieldLink RX3 19 "Breakpoint$Cutting" "price" "I" ∈ AW := aw_in 231 (by decide +kernel) rfl
theorem q233 : Cond.fieldLink RX3 22 "Breakpoint$Cutting" "stands" "Z" ∈ AW := aw_in 233 (by decide +kernel) rfl
theorem q235 : Cond.laysFinal "Breakpoint$Cutting" "Breakpoint$Cutting" "cutAt" "[Z" ∈ AW := aw_in 235 (by decide +kernel) rfl
theorem q237 : Cond.lays "Breakpoint$Cutting" "Breakpoint$Cutting" "cuts" "I" ∈ AW := aw_in 237 (by decide +kernel) rfl
theorem q239 : Cond.lays "Breakpoint$Cutting" "Breakpoint$Cutting" "price" "I" ∈ AW := aw_in 239 (by decide +kernel) rfl
theorem q241 : Cond.lays "Breakpoint$Cutting" "Breakpoint$Cutting" "stands" "Z" ∈ AW := aw_in 241 (by decide +kernel) rfl
theorem q244 : Cond.arrayClass .boolean ∈ AW := aw_in 244 (by decide +kernel) rfl
theorem q245 : Cond.classLink RX9 65 RX8 ∈ AW := aw_in 245 (by decide +kernel) rfl
theorem q246 : Cond.instantiable RX8 5 ∈ AW := aw_in 246 (by decide +kernel) rfl
theorem q247 : Cond.methodLink RX9 67 yX8_init ∈ AW := aw_in 247 (by decide +kernel) rfl
theorem q248 : Cond.instanceMethod yX8_init ∈ AW := aw_in 248 (by decide +kernel) rfl
theorem q249 : Cond.code yX8_init cX8_init 1 none ∈ AW := aw_in 249 (by decide +kernel) rfl
theorem q250 : Cond.methodLink RX8 3 objectInit ∈ AW := aw_in 250 (by decide +kernel) rfl
theorem q251 : Cond.fieldLink RX8 9 "Breakpoint$Truth" "marked" "[Z" ∈ AW := aw_in 251 (by decide +kernel) rfl
theorem q253 : Cond.fieldLink RX8 15 "Breakpoint$Truth" "taken" "[Z" ∈ AW := aw_in 253 (by decide +kernel) rfl
theorem q254 : Cond.fieldLink RX8 18 "Breakpoint$Truth" "hits" "I" ∈ AW := aw_in 254 (by decide +kernel) rfl
theorem q256 : Cond.fieldLink RX8 22 "Breakpoint$Truth" "misses" "I" ∈ AW := aw_in 256 (by decide +kernel) rfl
theorem q258 : Cond.fieldLink RX8 25 "Breakpoint$Truth" "delays" "I" ∈ AW := aw_in 258 (by decide +kernel) rfl
theorem q260 : Cond.laysFinal "Breakpoint$Truth" "Breakpoint$Truth" "marked" "[Z" ∈ AW := aw_in 260 (by decide +kernel) rfl
theorem q262 : Cond.laysFinal "Breakpoint$Truth" "Breakpoint$Truth" "taken" "[Z" ∈ AW := aw_in 262 (by decide +kernel) rfl
theorem q264 : Cond.lays "Breakpoint$Truth" "Breakpoint$Truth" "hits" "I" ∈ AW := aw_in 264 (by decide +kernel) rfl
theorem q266 : Cond.lays "Breakpoint$Truth" "Breakpoint$Truth" "misses" "I" ∈ AW := aw_in 266 (by decide +kernel) rfl
theorem q268 : Cond.lays "Breakpoint$Truth" "Breakpoint$Truth" "delays" "I" ∈ AW := aw_in 268 (by decide +kernel) rfl
theorem q271 : Cond.fieldLink RX9 9 "Breakpoint" "values" "[I" ∈ AW := aw_in 271 (by decide +kernel) rfl
theorem q272 : Cond.fieldLink RX9 16 "Breakpoint" "alarmList" "LBreakpoint$AlarmList;" ∈ AW := aw_in 272 (by decide +kernel) rfl
theorem q273 : Cond.fieldLink RX9 23 "Breakpoint" "sums" "LBreakpoint$CumulativeSums;" ∈ AW := aw_in 273 (by decide +kernel) rfl
theorem q274 : Cond.fieldLink RX9 30 "Breakpoint" "test" "LBreakpoint$PageHinkley;" ∈ AW := aw_in 274 (by decide +kernel) rfl
theorem q275 : Cond.fieldLink RX9 37 "Breakpoint" "segmentCosts" "LBreakpoint$SegmentCosts;" ∈ AW := aw_in 275 (by decide +kernel) rfl
theorem q276 : Cond.fieldLink RX9 44 "Breakpoint" "leastCosts" "LBreakpoint$LeastCosts;" ∈ AW := aw_in 276 (by decide +kernel) rfl
theorem q277 : Cond.fieldLink RX9 51 "Breakpoint" "bestSearch" "LBreakpoint$BestSearch;" ∈ AW := aw_in 277 (by decide +kernel) rfl
theorem q278 : Cond.fieldLink RX9 58 "Breakpoint" "best" "LBreakpoint$Cutting;" ∈ AW := aw_in 278 (by decide +kernel) rfl
theorem q279 : Cond.fieldLink RX9 62 "Breakpoint" "greedy" "LBreakpoint$Cutting;" ∈ AW := aw_in 279 (by decide +kernel) rfl
theorem q280 : Cond.fieldLink RX9 68 "Breakpoint" "truth" "LBreakpoint$Truth;" ∈ AW := aw_in 280 (by decide +kernel) rfl
theorem q281 : Cond.fieldLink RX9 72 "Breakpoint" "valueCount" "I" ∈ AW := aw_in 281 (by decide +kernel) rfl
theorem q282 : Cond.fieldLink RX9 76 "Breakpoint" "penalty" "I" ∈ AW := aw_in 282 (by decide +kernel) rfl
theorem q283 : Cond.laysFinal "Breakpoint" "Breakpoint" "values" "[I" ∈ AW := aw_in 283 (by decide +kernel) rfl
theorem q285 : Cond.laysFinal "Breakpoint" "Breakpoint" "alarmList" "LBreakpoint$AlarmList;" ∈ AW := aw_in 285 (by decide +kernel) rfl
theorem q287 : Cond.laysFinal "Breakpoint" "Breakpoint" "sums" "LBreakpoint$CumulativeSums;" ∈ AW := aw_in 287 (by decide +kernel) rfl
theorem q289 : Cond.laysFinal "Breakpoint" "Breakpoint" "test" "LBreakpoint$PageHinkley;" ∈ AW := aw_in 289 (by decide +kernel) rfl
theorem q291 : Cond.laysFinal "Breakpoint" "Breakpoint" "segmentCosts" "LBreakpoint$SegmentCosts;" ∈ AW := aw_in 291 (by decide +kernel) rfl
theorem q293 : Cond.laysFinal "Breakpoint" "Breakpoint" "leastCosts" "LBreakpoint$LeastCosts;" ∈ AW := aw_in 293 (by decide +kernel) rfl
theorem q295 : Cond.laysFinal "Breakpoint" "Breakpoint" "bestSearch" "LBreakpoint$BestSearch;" ∈ AW := aw_in 295 (by decide +kernel) rfl
theorem q297 : Cond.laysFinal "Breakpoint" "Breakpoint" "best" "LBreakpoint$Cutting;" ∈ AW := aw_in 297 (by decide +kernel) rfl
theorem q299 : Cond.laysFinal "Breakpoint" "Breakpoint" "greedy" "LBreakpoint$Cutting;" ∈ AW := aw_in 299 (by decide +kernel) rfl
theorem q301 : Cond.laysFinal "Breakpoint" "Breakpoint" "truth" "LBreakpoint$Truth;" ∈ AW := aw_in 301 (by decide +kernel) rfl
theorem q303 : Cond.lays "Breakpoint" "Breakpoint" "valueCount" "I" ∈ AW := aw_in 303 (by decide +kernel) rfl
theorem q305 : Cond.lays "Breakpoint" "Breakpoint" "penalty" "I" ∈ AW := aw_in 305 (by decide +kernel) rfl
theorem q308 : Cond.methodLink RL 79 yX9_clear ∈ AW := aw_in 308 (by decide +kernel) rfl
theorem q309 : Cond.instanceMethod yX9_clear ∈ AW := aw_in 309 (by decide +kernel) rfl
theorem q310 : Cond.selects RX9 yX9_clear yX9_clear ∈ AW := aw_in 310 (by decide +kernel) rfl
theorem q311 : Cond.code yX9_clear cX9_clear 2 (some .int) ∈ AW := aw_in 311 (by decide +kernel) rfl
theorem q312 : Cond.methodLink RX9 79 yX0_removeAll ∈ AW := aw_in 312 (by decide +kernel) rfl
theorem q313 : Cond.instanceMethod yX0_removeAll ∈ AW := aw_in 313 (by decide +kernel) rfl
theorem q314 : Cond.selects RX0 yX0_removeAll yX0_removeAll ∈ AW := aw_in 314 (by decide +kernel) rfl
theorem q315 : Cond.code yX0_removeAll cX0_removeAll 1 none ∈ AW := aw_in 315 (by decide +kernel) rfl
theorem q316 : Cond.methodLink RX9 82 yX8_removeMarks ∈ AW := aw_in 316 (by decide +kernel) rfl
theorem q317 : Cond.instanceMethod yX8_removeMarks ∈ AW := aw_in 317 (by decide +kernel) rfl
theorem q318 : Cond.selects RX8 yX8_removeMarks yX8_removeMarks ∈ AW := aw_in 318 (by decide +kernel) rfl
theorem q319 : Cond.code yX8_removeMarks cX8_removeMarks 2 none ∈ AW := aw_in 319 (by decide +kernel) rfl
theorem q320 : Cond.methodLink RX9 85 yX2_beginAnew ∈ AW := aw_in 320 (by decide +kernel) rfl
theorem q321 : Cond.methodLink RX9 88 yX6_beginAnew ∈ AW := aw_in 321 (by decide +kernel) rfl
theorem q322 : Cond.methodLink RX9 89 yX7_forget ∈ AW := aw_in 322 (by decide +kernel) rfl
theorem q323 : Cond.instanceMethod yX7_forget ∈ AW := aw_in 323 (by decide +kernel) rfl
theorem q324 : Cond.selects RX7 yX7_forget yX7_forget ∈ AW := aw_in 324 (by decide +kernel) rfl
theorem q325 : Cond.code yX7_forget cX7_forget 1 none ∈ AW := aw_in 325 (by decide +kernel) rfl
theorem q326 : Cond.methodLink RX9 92 yX5_forget ∈ AW := aw_in 326 (by decide +kernel) rfl
theorem q327 : Cond.instanceMethod yX5_forget ∈ AW := aw_in 327 (by decide +kernel) rfl
theorem q328 : Cond.selects RX5 yX5_forget yX5_forget ∈ AW := aw_in 328 (by decide +kernel) rfl
theorem q329 : Cond.code yX5_forget cX5_forget 1 none ∈ AW := aw_in 329 (by decide +kernel) rfl
theorem q330 : Cond.methodLink RX9 93 yX9_forgetCuttings ∈ AW := aw_in 330 (by decide +kernel) rfl
theorem q332 : Cond.instanceMethod yX9_forgetCuttings ∈ AW := aw_in 332 (by decide +kernel) rfl
theorem q333 : Cond.code yX9_forgetCuttings cX9_forgetCuttings 1 none ∈ AW := aw_in 333 (by decide +kernel) rfl
theorem q334 : Cond.methodLink RL 107 yX9_size ∈ AW := aw_in 334 (by decide +kernel) rfl
theorem q335 : Cond.instanceMethod yX9_size ∈ AW := aw_in 335 (by decide +kernel) rfl
theorem q336 : Cond.selects RX9 yX9_size yX9_size ∈ AW := aw_in 336 (by decide +kernel) rfl
theorem q337 : Cond.code yX9_size cX9_size 1 (some .int) ∈ AW := aw_in 337 (by decide +kernel) rfl
theorem q338 : Cond.methodLink RL 114 yX9_highSum ∈ AW := aw_in 338 (by decide +kernel) rfl
theorem q339 : Cond.instanceMethod yX9_highSum ∈ AW := aw_in 339 (by decide +kernel) rfl
theorem q340 : Cond.selects RX9 yX9_highSum yX9_highSum ∈ AW := aw_in 340 (by decide +kernel) rfl
theorem q341 : Cond.code yX9_highSum cX9_highSum 1 (some .int) ∈ AW := aw_in 341 (by decide +kernel) rfl
theorem q342 : Cond.methodLink RL 118 yX9_lowSum ∈ AW := aw_in 342 (by decide +kernel) rfl
theorem q343 : Cond.instanceMethod yX9_lowSum ∈ AW := aw_in 343 (by decide +kernel) rfl
theorem q344 : Cond.selects RX9 yX9_lowSum yX9_lowSum ∈ AW := aw_in 344 (by decide +kernel) rfl
theorem q345 : Cond.code yX9_lowSum cX9_lowSum 1 (some .int) ∈ AW := aw_in 345 (by decide +kernel) rfl
theorem q346 : Cond.methodLink RL 122 yX9_testSum ∈ AW := aw_in 346 (by decide +kernel) rfl
theorem q347 : Cond.instanceMethod yX9_testSum ∈ AW := aw_in 347 (by decide +kernel) rfl
theorem q348 : Cond.selects RX9 yX9_testSum yX9_testSum ∈ AW := aw_in 348 (by decide +kernel) rfl
theorem q349 : Cond.code yX9_testSum cX9_testSum 1 (some .int) ∈ AW := aw_in 349 (by decide +kernel) rfl
theorem q350 : Cond.methodLink RL 126 yX9_alarms ∈ AW := aw_in 350 (by decide +kernel) rfl
theorem q351 : Cond.instanceMethod yX9_alarms ∈ AW := aw_in 351 (by decide +kernel) rfl
theorem q352 : Cond.selects RX9 yX9_alarms yX9_alarms ∈ AW := aw_in 352 (by decide +kernel) rfl
theorem q353 : Cond.code yX9_alarms cX9_alarms 1 (some .int) ∈ AW := aw_in 353 (by decide +kernel) rfl
theorem q354 : Cond.methodLink RL 146 yX9_changes ∈ AW := aw_in 354 (by decide +kernel) rfl
theorem q355 : Cond.instanceMethod yX9_changes ∈ AW := aw_in 355 (by decide +kernel) rfl
theorem q356 : Cond.selects RX9 yX9_changes yX9_changes ∈ AW := aw_in 356 (by decide +kernel) rfl
theorem q357 : Cond.code yX9_changes cX9_changes 1 (some .int) ∈ AW := aw_in 357 (by decide +kernel) rfl
theorem q358 : Cond.methodLink RX9 170 yX9_bestCutting ∈ AW := aw_in 358 (by decide +kernel) rfl
theorem q360 : Cond.instanceMethod yX9_bestCutting ∈ AW := aw_in 360 (by decide +kernel) rfl
theorem q361 : Cond.code yX9_bestCutting cX9_bestCutting 2 (some (( .object "Breakpoint$Cutting" ))) ∈ AW := aw_in 361 (by decide +kernel) rfl
theorem q362 : Cond.methodLink RX9 158 yX9_learntCosts ∈ AW := aw_in 362 (by decide +kernel) rfl
theorem q364 : Cond.instanceMethod yX9_learntCosts ∈ AW := aw_in 364 (by decide +kernel) rfl
theorem q365 : Cond.code yX9_learntCosts cX9_learntCosts 1 (some (( .object "Breakpoint$SegmentCosts" ))) ∈ AW := aw_in 365 (by decide +kernel) rfl
theorem q366 : Cond.methodLink RX9 218 yX7_learn ∈ AW := aw_in 366 (by decide +kernel) rfl
theorem q367 : Cond.instanceMethod yX7_learn ∈ AW := aw_in 367 (by decide +kernel) rfl
theorem q368 : Cond.selects RX7 yX7_learn yX7_learn ∈ AW := aw_in 368 (by decide +kernel) rfl
theorem q369 : Cond.code yX7_learn cX7_learn 4 none ∈ AW := aw_in 369 (by decide +kernel) rfl
theorem q370 : Cond.methodLink RX7 26 yX7_learnSegmentsTo ∈ AW := aw_in 370 (by decide +kernel) rfl
theorem q372 : Cond.instanceMethod yX7_learnSegmentsTo ∈ AW := aw_in 372 (by decide +kernel) rfl
theorem q373 : Cond.code yX7_learnSegmentsTo cX7_learnSegmentsTo 7 none ∈ AW := aw_in 373 (by decide +kernel) rfl
theorem q374 : Cond.methodLink RX7 34 yX7_distanceFromMiddles ∈ AW := aw_in 374 (by decide +kernel) rfl
theorem q376 : Cond.instanceMethod yX7_distanceFromMiddles ∈ AW := aw_in 376 (by decide +kernel) rfl
theorem q377 : Cond.code yX7_distanceFromMiddles cX7_distanceFromMiddles 5 (some .int) ∈ AW := aw_in 377 (by decide +kernel) rfl
theorem q378 : Cond.methodLink RX7 30 yX7_sortIn ∈ AW := aw_in 378 (by decide +kernel) rfl
theorem q380 : Cond.instanceMethod yX7_sortIn ∈ AW := aw_in 380 (by decide +kernel) rfl
theorem q381 : Cond.code yX7_sortIn cX7_sortIn 4 none ∈ AW := aw_in 381 (by decide +kernel) rfl
theorem q382 : Cond.methodLink RX9 221 yX1_find ∈ AW := aw_in 382 (by decide +kernel) rfl
theorem q383 : Cond.instanceMethod yX1_find ∈ AW := aw_in 383 (by decide +kernel) rfl
theorem q384 : Cond.selects RX1 yX1_find yX1_find ∈ AW := aw_in 384 (by decide +kernel) rfl
theorem q385 : Cond.code yX1_find cX1_find 7 none ∈ AW := aw_in 385 (by decide +kernel) rfl
theorem q386 : Cond.methodLink RX1 21 yX1_findFrom ∈ AW := aw_in 386 (by decide +kernel) rfl
theorem q388 : Cond.instanceMethod yX1_findFrom ∈ AW := aw_in 388 (by decide +kernel) rfl
theorem q389 : Cond.code yX1_findFrom cX1_findFrom 11 none ∈ AW := aw_in 389 (by decide +kernel) rfl
theorem q390 : Cond.methodLink RX1 34 yX7_of ∈ AW := aw_in 390 (by decide +kernel) rfl
theorem q391 : Cond.instanceMethod yX7_of ∈ AW := aw_in 391 (by decide +kernel) rfl
theorem q392 : Cond.selects RX7 yX7_of yX7_of ∈ AW := aw_in 392 (by decide +kernel) rfl
theorem q393 : Cond.code yX7_of cX7_of 3 (some .int) ∈ AW := aw_in 393 (by decide +kernel) rfl
theorem q394 : Cond.methodLink RX1 25 yX3_join ∈ AW := aw_in 394 (by decide +kernel) rfl
theorem q395 : Cond.instanceMethod yX3_join ∈ AW := aw_in 395 (by decide +kernel) rfl
theorem q396 : Cond.selects RX3 yX3_join yX3_join ∈ AW := aw_in 396 (by decide +kernel) rfl
theorem q397 : Cond.code yX3_join cX3_join 2 none ∈ AW := aw_in 397 (by decide +kernel) rfl
theorem q398 : Cond.methodLink RX1 30 yX3_cut ∈ AW := aw_in 398 (by decide +kernel) rfl
theorem q399 : Cond.instanceMethod yX3_cut ∈ AW := aw_in 399 (by decide +kernel) rfl
theorem q400 : Cond.selects RX3 yX3_cut yX3_cut ∈ AW := aw_in 400 (by decide +kernel) rfl
theorem q401 : Cond.code yX3_cut cX3_cut 2 none ∈ AW := aw_in 401 (by decide +kernel) rfl
theorem q402 : Cond.methodLink RX9 225 yX3_settle ∈ AW := aw_in 402 (by decide +kernel) rfl
theorem q403 : Cond.instanceMethod yX3_settle ∈ AW := aw_in 403 (by decide +kernel) rfl
theorem q404 : Cond.selects RX3 yX3_settle yX3_settle ∈ AW := aw_in 404 (by decide +kernel) rfl
theorem q405 : Cond.code yX3_settle cX3_settle 6 none ∈ AW := aw_in 405 (by decide +kernel) rfl
theorem q406 : Cond.methodLink RX3 26 yX7_of ∈ AW := aw_in 406 (by decide +kernel) rfl
theorem q407 : Cond.methodLink RL 153 yX9_bestCost ∈ AW := aw_in 407 (by decide +kernel) rfl
theorem q408 : Cond.instanceMethod yX9_bestCost ∈ AW := aw_in 408 (by decide +kernel) rfl
theorem q409 : Cond.selects RX9 yX9_bestCost yX9_bestCost ∈ AW := aw_in 409 (by decide +kernel) rfl
theorem q410 : Cond.code yX9_bestCost cX9_bestCost 1 (some .int) ∈ AW := aw_in 410 (by decide +kernel) rfl
theorem q411 : Cond.methodLink RL 160 yX9_greedyChanges ∈ AW := aw_in 411 (by decide +kernel) rfl
theorem q412 : Cond.instanceMethod yX9_greedyChanges ∈ AW := aw_in 412 (by decide +kernel) rfl
theorem q413 : Cond.selects RX9 yX9_greedyChanges yX9_greedyChanges ∈ AW := aw_in 413 (by decide +kernel) rfl
theorem q414 : Cond.code yX9_greedyChanges cX9_greedyChanges 1 (some .int) ∈ AW := aw_in 414 (by decide +kernel) rfl
theorem q415 : Cond.methodLink RX9 189 yX9_greedyCutting ∈ AW := aw_in 415 (by decide +kernel) rfl
theorem q417 : Cond.instanceMethod yX9_greedyCutting ∈ AW := aw_in 417 (by decide +kernel) rfl
theorem q418 : Cond.code yX9_greedyCutting cX9_greedyCutting 2 (some (( .object "Breakpoint$Cutting" ))) ∈ AW := aw_in 418 (by decide +kernel) rfl
theorem q419 : Cond.methodLink RX9 229 yX4_find ∈ AW := aw_in 419 (by decide +kernel) rfl
theorem q420 : Cond.static yX4_find ∈ AW := aw_in 420 (by decide +kernel) rfl
theorem q421 : Cond.code yX4_find cX4_find 6 none ∈ AW := aw_in 421 (by decide +kernel) rfl
theorem q422 : Cond.methodLink RX4 7 yX3_join ∈ AW := aw_in 422 (by decide +kernel) rfl
theorem q423 : Cond.methodLink RX4 12 yX4_numberOfGreatestGain ∈ AW := aw_in 423 (by decide +kernel) rfl
theorem q424 : Cond.static yX4_numberOfGreatestGain ∈ AW := aw_in 424 (by decide +kernel) rfl
theorem q425 : Cond.code yX4_numberOfGreatestGain cX4_numberOfGreatestGain 10 (some .int) ∈ AW := aw_in 425 (by decide +kernel) rfl
theorem q426 : Cond.methodLink RX4 22 yX3_endOfSegment ∈ AW := aw_in 426 (by decide +kernel) rfl
theorem q427 : Cond.instanceMethod yX3_endOfSegment ∈ AW := aw_in 427 (by decide +kernel) rfl
theorem q428 : Cond.selects RX3 yX3_endOfSegment yX3_endOfSegment ∈ AW := aw_in 428 (by decide +kernel) rfl
theorem q429 : Cond.code yX3_endOfSegment cX3_endOfSegment 4 (some .int) ∈ AW := aw_in 429 (by decide +kernel) rfl
theorem q430 : Cond.methodLink RX4 26 yX7_of ∈ AW := aw_in 430 (by decide +kernel) rfl
theorem q431 : Cond.methodLink RX4 18 yX3_cut ∈ AW := aw_in 431 (by decide +kernel) rfl
theorem q432 : Cond.methodLink RL 167 yX9_greedyCost ∈ AW := aw_in 432 (by decide +kernel) rfl
theorem q433 : Cond.instanceMethod yX9_greedyCost ∈ AW := aw_in 433 (by decide +kernel) rfl
theorem q434 : Cond.selects RX9 yX9_greedyCost yX9_greedyCost ∈ AW := aw_in 434 (by decide +kernel) rfl
theorem q435 : Cond.code yX9_greedyCost cX9_greedyCost 1 (some .int) ∈ AW := aw_in 435 (by decide +kernel) rfl
theorem q436 : Cond.methodLink RL 84 yL_setSums ∈ AW := aw_in 436 (by decide +kernel) rfl
theorem q437 : Cond.static yL_setSums ∈ AW := aw_in 437 (by decide +kernel) rfl
theorem q439 : Cond.classLink RL 13 "java/lang/IllegalArgumentException" ∈ AW := aw_in 439 (by decide +kernel) rfl
theorem q440 : Cond.methodLink RL 7 yX9_setSums ∈ AW := aw_in 440 (by decide +kernel) rfl
theorem q441 : Cond.instanceMethod yX9_setSums ∈ AW := aw_in 441 (by decide +kernel) rfl
theorem q442 : Cond.selects RX9 yX9_setSums yX9_setSums ∈ AW := aw_in 442 (by decide +kernel) rfl
theorem q443 : Cond.code yX9_setSums cX9_setSums 4 none ∈ AW := aw_in 443 (by decide +kernel) rfl
theorem q444 : Cond.methodLink RX9 96 yX9_isAmountFromZero ∈ AW := aw_in 444 (by decide +kernel) rfl
theorem q445 : Cond.static yX9_isAmountFromZero ∈ AW := aw_in 445 (by decide +kernel) rfl
theorem q446 : Cond.code yX9_isAmountFromZero cX9_isAmountFromZero 1 (some .boolean) ∈ AW := aw_in 446 (by decide +kernel) rfl
theorem q447 : Cond.methodLink RX9 104 yX9_isBetween ∈ AW := aw_in 447 (by decide +kernel) rfl
theorem q448 : Cond.static yX9_isBetween ∈ AW := aw_in 448 (by decide +kernel) rfl
theorem q449 : Cond.code yX9_isBetween cX9_isBetween 3 (some .boolean) ∈ AW := aw_in 449 (by decide +kernel) rfl
theorem q450 : Cond.methodLink RX9 100 yX9_requireArgument ∈ AW := aw_in 450 (by decide +kernel) rfl
theorem q451 : Cond.static yX9_requireArgument ∈ AW := aw_in 451 (by decide +kernel) rfl
theorem q452 : Cond.code yX9_requireArgument cX9_requireArgument 1 none ∈ AW := aw_in 452 (by decide +kernel) rfl
theorem q453 : Cond.classLink RX9 236 "java/lang/IllegalArgumentException" ∈ AW := aw_in 453 (by decide +kernel) rfl
theorem q454 : Cond.instantiable "java/lang/IllegalArgumentException" 6 ∈ AW := aw_in 454 (by decide +kernel) rfl
theorem q464 : Cond.lays "java/lang/IllegalArgumentException" "java/lang/Throwable" "cause" "Ljava/lang/Throwable;" ∈ AW := aw_in 464 (by decide +kernel) rfl
theorem q465 : Cond.lays "java/lang/Throwable" "java/lang/Throwable" "cause" "Ljava/lang/Throwable;" ∈ AW := aw_in 465 (by decide +kernel) rfl
theorem q466 : Cond.lays "java/lang/IllegalArgumentException" "java/lang/Throwable" "stackTrace" "[Ljava/lang/StackTraceElement;" ∈ AW := aw_in 466 (by decide +kernel) rfl
theorem q467 : Cond.lays "java/lang/Throwable" "java/lang/Throwable" "stackTrace" "[Ljava/lang/StackTraceElement;" ∈ AW := aw_in 467 (by decide +kernel) rfl
theorem q468 : Cond.lays "java/lang/IllegalArgumentException" "java/lang/Throwable" "suppressedExceptions" "Ljava/util/List;" ∈ AW := aw_in 468 (by decide +kernel) rfl
theorem q469 : Cond.lays "java/lang/Throwable" "java/lang/Throwable" "suppressedExceptions" "Ljava/util/List;" ∈ AW := aw_in 469 (by decide +kernel) rfl
theorem q470 : Cond.lays "java/lang/IllegalArgumentException" "java/lang/Throwable" "detailMessage" "Ljava/lang/String;" ∈ AW := aw_in 470 (by decide +kernel) rfl
theorem q471 : Cond.lays "java/lang/Throwable" "java/lang/Throwable" "detailMessage" "Ljava/lang/String;" ∈ AW := aw_in 471 (by decide +kernel) rfl
theorem q472 : Cond.lays "java/lang/IllegalArgumentException" "java/lang/Throwable" "backtrace" "Ljava/lang/Object;" ∈ AW := aw_in 472 (by decide +kernel) rfl
theorem q473 : Cond.lays "java/lang/Throwable" "java/lang/Throwable" "backtrace" "Ljava/lang/Object;" ∈ AW := aw_in 473 (by decide +kernel) rfl
theorem q492 : Cond.instantiable "java/lang/Throwable" 6 ∈ AW := aw_in 492 (by decide +kernel) rfl
theorem q516 : Cond.lays "java/lang/IllegalArgumentException" "java/lang/Throwable" "depth" "I" ∈ AW := aw_in 516 (by decide +kernel) rfl
theorem q520 : Cond.arrayClass .byte ∈ AW := aw_in 520 (by decide +kernel) rfl
theorem q521 : Cond.constant RX9 108 100000 ∈ AW := aw_in 521 (by decide +kernel) rfl
theorem q522 : Cond.methodLink RX9 109 yX2_setUp ∈ AW := aw_in 522 (by decide +kernel) rfl
theorem q523 : Cond.methodLink RL 93 yL_setTest ∈ AW := aw_in 523 (by decide +kernel) rfl
theorem q524 : Cond.static yL_setTest ∈ AW := aw_in 524 (by decide +kernel) rfl
theorem q526 : Cond.methodLink RL 15 yX9_setTest ∈ AW := aw_in 526 (by decide +kernel) rfl
theorem q527 : Cond.instanceMethod yX9_setTest ∈ AW := aw_in 527 (by decide +kernel) rfl
theorem q528 : Cond.selects RX9 yX9_setTest yX9_setTest ∈ AW := aw_in 528 (by decide +kernel) rfl
theorem q529 : Cond.code yX9_setTest cX9_setTest 4 none ∈ AW := aw_in 529 (by decide +kernel) rfl
theorem q530 : Cond.methodLink RX9 113 yX6_setUp ∈ AW := aw_in 530 (by decide +kernel) rfl
theorem q531 : Cond.methodLink RL 96 yL_setPenalty ∈ AW := aw_in 531 (by decide +kernel) rfl
theorem q532 : Cond.static yL_setPenalty ∈ AW := aw_in 532 (by decide +kernel) rfl
theorem q534 : Cond.methodLink RL 18 yX9_setPenalty ∈ AW := aw_in 534 (by decide +kernel) rfl
theorem q535 : Cond.instanceMethod yX9_setPenalty ∈ AW := aw_in 535 (by decide +kernel) rfl
theorem q536 : Cond.selects RX9 yX9_setPenalty yX9_setPenalty ∈ AW := aw_in 536 (by decide +kernel) rfl
theorem q537 : Cond.code yX9_setPenalty cX9_setPenalty 3 (some .int) ∈ AW := aw_in 537 (by decide +kernel) rfl
theorem q538 : Cond.methodLink RL 100 yL_add ∈ AW := aw_in 538 (by decide +kernel) rfl
theorem q539 : Cond.static yL_add ∈ AW := aw_in 539 (by decide +kernel) rfl
theorem q541 : Cond.classLink RL 25 "java/lang/IllegalStateException" ∈ AW := aw_in 541 (by decide +kernel) rfl
theorem q542 : Cond.methodLink RL 22 yX9_add ∈ AW := aw_in 542 (by decide +kernel) rfl
theorem q543 : Cond.instanceMethod yX9_add ∈ AW := aw_in 543 (by decide +kernel) rfl
theorem q544 : Cond.selects RX9 yX9_add yX9_add ∈ AW := aw_in 544 (by decide +kernel) rfl
theorem q545 : Cond.code yX9_add cX9_add 2 (some .int) ∈ AW := aw_in 545 (by decide +kernel) rfl
theorem q546 : Cond.methodLink RX9 114 yX9_requireState ∈ AW := aw_in 546 (by decide +kernel) rfl
theorem q547 : Cond.static yX9_requireState ∈ AW := aw_in 547 (by decide +kernel) rfl
theorem q548 : Cond.code yX9_requireState cX9_requireState 1 none ∈ AW := aw_in 548 (by decide +kernel) rfl
theorem q549 : Cond.classLink RX9 248 "java/lang/IllegalStateException" ∈ AW := aw_in 549 (by decide +kernel) rfl
theorem q550 : Cond.instantiable "java/lang/IllegalStateException" 6 ∈ AW := aw_in 550 (by decide +kernel) rfl
theorem q553 : Cond.lays "java/lang/IllegalStateException" "java/lang/Throwable" "cause" "Ljava/lang/Throwable;" ∈ AW := aw_in 553 (by decide +kernel) rfl
theorem q554 : Cond.lays "java/lang/IllegalStateException" "java/lang/Throwable" "stackTrace" "[Ljava/lang/StackTraceElement;" ∈ AW := aw_in 554 (by decide +kernel) rfl
theorem q555 : Cond.lays "java/lang/IllegalStateException" "java/lang/Throwable" "suppressedExceptions" "Ljava/util/List;" ∈ AW := aw_in 555 (by decide +kernel) rfl
theorem q556 : Cond.lays "java/lang/IllegalStateException" "java/lang/Throwable" "detailMessage" "Ljava/lang/String;" ∈ AW := aw_in 556 (by decide +kernel) rfl
theorem q557 : Cond.lays "java/lang/IllegalStateException" "java/lang/Throwable" "backtrace" "Ljava/lang/Object;" ∈ AW := aw_in 557 (by decide +kernel) rfl
theorem q563 : Cond.lays "java/lang/IllegalStateException" "java/lang/Throwable" "depth" "I" ∈ AW := aw_in 563 (by decide +kernel) rfl
theorem q565 : Cond.methodLink RX9 117 yX9_take ∈ AW := aw_in 565 (by decide +kernel) rfl
theorem q567 : Cond.instanceMethod yX9_take ∈ AW := aw_in 567 (by decide +kernel) rfl
theorem q568 : Cond.code yX9_take cX9_take 5 (some .int) ∈ AW := aw_in 568 (by decide +kernel) rfl
theorem q569 : Cond.methodLink RX9 209 yX2_watch ∈ AW := aw_in 569 (by decide +kernel) rfl
theorem q570 : Cond.instanceMethod yX2_watch ∈ AW := aw_in 570 (by decide +kernel) rfl
theorem q571 : Cond.selects RX2 yX2_watch yX2_watch ∈ AW := aw_in 571 (by decide +kernel) rfl
theorem q572 : Cond.code yX2_watch cX2_watch 5 (some .int) ∈ AW := aw_in 572 (by decide +kernel) rfl
theorem q573 : Cond.methodLink RX2 34 yX2_moveSums ∈ AW := aw_in 573 (by decide +kernel) rfl
theorem q575 : Cond.instanceMethod yX2_moveSums ∈ AW := aw_in 575 (by decide +kernel) rfl
theorem q576 : Cond.code yX2_moveSums cX2_moveSums 3 none ∈ AW := aw_in 576 (by decide +kernel) rfl
theorem q577 : Cond.methodLink RX2 49 yJ9_max_7cf53 ∈ AW := aw_in 577 (by decide +kernel) rfl
theorem q578 : Cond.static yJ9_max_7cf53 ∈ AW := aw_in 578 (by decide +kernel) rfl
theorem q579 : Cond.code yJ9_max_7cf53 cJ9_max_7cf53 2 (some .int) ∈ AW := aw_in 579 (by decide +kernel) rfl
theorem q580 : Cond.methodLink RX2 41 yX0_raise ∈ AW := aw_in 580 (by decide +kernel) rfl
theorem q581 : Cond.instanceMethod yX0_raise ∈ AW := aw_in 581 (by decide +kernel) rfl
theorem q582 : Cond.selects RX0 yX0_raise yX0_raise ∈ AW := aw_in 582 (by decide +kernel) rfl
theorem q583 : Cond.code yX0_raise cX0_raise 4 none ∈ AW := aw_in 583 (by decide +kernel) rfl
theorem q584 : Cond.methodLink RX9 213 yX6_watch ∈ AW := aw_in 584 (by decide +kernel) rfl
theorem q585 : Cond.instanceMethod yX6_watch ∈ AW := aw_in 585 (by decide +kernel) rfl
theorem q586 : Cond.selects RX6 yX6_watch yX6_watch ∈ AW := aw_in 586 (by decide +kernel) rfl
theorem q587 : Cond.code yX6_watch cX6_watch 4 (some .int) ∈ AW := aw_in 587 (by decide +kernel) rfl
theorem q588 : Cond.methodLink RX6 43 yX6_moveSum ∈ AW := aw_in 588 (by decide +kernel) rfl
theorem q590 : Cond.instanceMethod yX6_moveSum ∈ AW := aw_in 590 (by decide +kernel) rfl
theorem q591 : Cond.code yX6_moveSum cX6_moveSum 3 none ∈ AW := aw_in 591 (by decide +kernel) rfl
theorem q592 : Cond.methodLink RX6 56 yX6_mean ∈ AW := aw_in 592 (by decide +kernel) rfl
theorem q594 : Cond.instanceMethod yX6_mean ∈ AW := aw_in 594 (by decide +kernel) rfl
theorem q595 : Cond.code yX6_mean cX6_mean 1 (some .int) ∈ AW := aw_in 595 (by decide +kernel) rfl
theorem q596 : Cond.methodLink RX6 60 yJ9_floorDiv_7cf53 ∈ AW := aw_in 596 (by decide +kernel) rfl
theorem q597 : Cond.static yJ9_floorDiv_7cf53 ∈ AW := aw_in 597 (by decide +kernel) rfl
theorem q598 : Cond.code yJ9_floorDiv_7cf53 cJ9_floorDiv_7cf53 3 (some .int) ∈ AW := aw_in 598 (by decide +kernel) rfl
theorem q599 : Cond.methodLink RX6 47 yX6_startOfGrowth ∈ AW := aw_in 599 (by decide +kernel) rfl
theorem q601 : Cond.instanceMethod yX6_startOfGrowth ∈ AW := aw_in 601 (by decide +kernel) rfl
theorem q602 : Cond.code yX6_startOfGrowth cX6_startOfGrowth 2 (some .int) ∈ AW := aw_in 602 (by decide +kernel) rfl
theorem q603 : Cond.methodLink RX6 51 yX0_raise ∈ AW := aw_in 603 (by decide +kernel) rfl
theorem q604 : Cond.methodLink RL 103 yL_addRun ∈ AW := aw_in 604 (by decide +kernel) rfl
theorem q605 : Cond.static yL_addRun ∈ AW := aw_in 605 (by decide +kernel) rfl
theorem q607 : Cond.methodLink RL 27 yX9_addRun ∈ AW := aw_in 607 (by decide +kernel) rfl
theorem q608 : Cond.instanceMethod yX9_addRun ∈ AW := aw_in 608 (by decide +kernel) rfl
theorem q609 : Cond.selects RX9 yX9_addRun yX9_addRun ∈ AW := aw_in 609 (by decide +kernel) rfl
theorem q610 : Cond.code yX9_addRun cX9_addRun 6 (some .int) ∈ AW := aw_in 610 (by decide +kernel) rfl
theorem q611 : Cond.methodLink RL 111 yL_value ∈ AW := aw_in 611 (by decide +kernel) rfl
theorem q612 : Cond.static yL_value ∈ AW := aw_in 612 (by decide +kernel) rfl
theorem q614 : Cond.classLink RL 34 "java/lang/IndexOutOfBoundsException" ∈ AW := aw_in 614 (by decide +kernel) rfl
theorem q615 : Cond.methodLink RL 31 yX9_value ∈ AW := aw_in 615 (by decide +kernel) rfl
theorem q616 : Cond.instanceMethod yX9_value ∈ AW := aw_in 616 (by decide +kernel) rfl
theorem q617 : Cond.selects RX9 yX9_value yX9_value ∈ AW := aw_in 617 (by decide +kernel) rfl
theorem q618 : Cond.code yX9_value cX9_value 2 (some .int) ∈ AW := aw_in 618 (by decide +kernel) rfl
theorem q619 : Cond.methodLink RX9 124 yX9_isValueNumber ∈ AW := aw_in 619 (by decide +kernel) rfl
theorem q621 : Cond.instanceMethod yX9_isValueNumber ∈ AW := aw_in 621 (by decide +kernel) rfl
theorem q622 : Cond.code yX9_isValueNumber cX9_isValueNumber 2 (some .boolean) ∈ AW := aw_in 622 (by decide +kernel) rfl
theorem q623 : Cond.methodLink RX9 127 yX9_requireIndex ∈ AW := aw_in 623 (by decide +kernel) rfl
theorem q624 : Cond.static yX9_requireIndex ∈ AW := aw_in 624 (by decide +kernel) rfl
theorem q625 : Cond.code yX9_requireIndex cX9_requireIndex 1 none ∈ AW := aw_in 625 (by decide +kernel) rfl
theorem q626 : Cond.classLink RX9 243 "java/lang/IndexOutOfBoundsException" ∈ AW := aw_in 626 (by decide +kernel) rfl
theorem q627 : Cond.instantiable "java/lang/IndexOutOfBoundsException" 6 ∈ AW := aw_in 627 (by decide +kernel) rfl
theorem q630 : Cond.lays "java/lang/IndexOutOfBoundsException" "java/lang/Throwable" "cause" "Ljava/lang/Throwable;" ∈ AW := aw_in 630 (by decide +kernel) rfl
theorem q631 : Cond.lays "java/lang/IndexOutOfBoundsException" "java/lang/Throwable" "stackTrace" "[Ljava/lang/StackTraceElement;" ∈ AW := aw_in 631 (by decide +kernel) rfl
theorem q632 : Cond.lays "java/lang/IndexOutOfBoundsException" "java/lang/Throwable" "suppressedExceptions" "Ljava/util/List;" ∈ AW := aw_in 632 (by decide +kernel) rfl
theorem q633 : Cond.lays "java/lang/IndexOutOfBoundsException" "java/lang/Throwable" "detailMessage" "Ljava/lang/String;" ∈ AW := aw_in 633 (by decide +kernel) rfl
theorem q634 : Cond.lays "java/lang/IndexOutOfBoundsException" "java/lang/Throwable" "backtrace" "Ljava/lang/Object;" ∈ AW := aw_in 634 (by decide +kernel) rfl
theorem q640 : Cond.lays "java/lang/IndexOutOfBoundsException" "java/lang/Throwable" "depth" "I" ∈ AW := aw_in 640 (by decide +kernel) rfl
theorem q642 : Cond.methodLink RL 130 yL_alarmKind ∈ AW := aw_in 642 (by decide +kernel) rfl
theorem q643 : Cond.static yL_alarmKind ∈ AW := aw_in 643 (by decide +kernel) rfl
theorem q645 : Cond.methodLink RL 36 yX9_alarmKind ∈ AW := aw_in 645 (by decide +kernel) rfl
theorem q646 : Cond.instanceMethod yX9_alarmKind ∈ AW := aw_in 646 (by decide +kernel) rfl
theorem q647 : Cond.selects RX9 yX9_alarmKind yX9_alarmKind ∈ AW := aw_in 647 (by decide +kernel) rfl
theorem q648 : Cond.code yX9_alarmKind cX9_alarmKind 2 (some .int) ∈ AW := aw_in 648 (by decide +kernel) rfl
theorem q649 : Cond.methodLink RX9 142 yX0_has ∈ AW := aw_in 649 (by decide +kernel) rfl
theorem q650 : Cond.instanceMethod yX0_has ∈ AW := aw_in 650 (by decide +kernel) rfl
theorem q651 : Cond.selects RX0 yX0_has yX0_has ∈ AW := aw_in 651 (by decide +kernel) rfl
theorem q652 : Cond.code yX0_has cX0_has 2 (some .boolean) ∈ AW := aw_in 652 (by decide +kernel) rfl
theorem q653 : Cond.methodLink RL 133 yL_alarmNumber ∈ AW := aw_in 653 (by decide +kernel) rfl
theorem q654 : Cond.static yL_alarmNumber ∈ AW := aw_in 654 (by decide +kernel) rfl
theorem q656 : Cond.methodLink RL 39 yX9_alarmNumber ∈ AW := aw_in 656 (by decide +kernel) rfl
theorem q657 : Cond.instanceMethod yX9_alarmNumber ∈ AW := aw_in 657 (by decide +kernel) rfl
theorem q658 : Cond.selects RX9 yX9_alarmNumber yX9_alarmNumber ∈ AW := aw_in 658 (by decide +kernel) rfl
theorem q659 : Cond.code yX9_alarmNumber cX9_alarmNumber 2 (some .int) ∈ AW := aw_in 659 (by decide +kernel) rfl
theorem q660 : Cond.methodLink RL 136 yL_alarmStart ∈ AW := aw_in 660 (by decide +kernel) rfl
theorem q661 : Cond.static yL_alarmStart ∈ AW := aw_in 661 (by decide +kernel) rfl
theorem q663 : Cond.methodLink RL 42 yX9_alarmStart ∈ AW := aw_in 663 (by decide +kernel) rfl
theorem q664 : Cond.instanceMethod yX9_alarmStart ∈ AW := aw_in 664 (by decide +kernel) rfl
theorem q665 : Cond.selects RX9 yX9_alarmStart yX9_alarmStart ∈ AW := aw_in 665 (by decide +kernel) rfl
theorem q666 : Cond.code yX9_alarmStart cX9_alarmStart 2 (some .int) ∈ AW := aw_in 666 (by decide +kernel) rfl
theorem q667 : Cond.methodLink RL 139 yL_cost ∈ AW := aw_in 667 (by decide +kernel) rfl
theorem q668 : Cond.static yL_cost ∈ AW := aw_in 668 (by decide +kernel) rfl
theorem q670 : Cond.methodLink RL 45 yX9_cost ∈ AW := aw_in 670 (by decide +kernel) rfl
theorem q671 : Cond.instanceMethod yX9_cost ∈ AW := aw_in 671 (by decide +kernel) rfl
theorem q672 : Cond.selects RX9 yX9_cost yX9_cost ∈ AW := aw_in 672 (by decide +kernel) rfl
theorem q673 : Cond.code yX9_cost cX9_cost 3 (some .int) ∈ AW := aw_in 673 (by decide +kernel) rfl
theorem q674 : Cond.methodLink RX9 154 yX9_isSegment ∈ AW := aw_in 674 (by decide +kernel) rfl
theorem q676 : Cond.instanceMethod yX9_isSegment ∈ AW := aw_in 676 (by decide +kernel) rfl
theorem q677 : Cond.code yX9_isSegment cX9_isSegment 3 (some .boolean) ∈ AW := aw_in 677 (by decide +kernel) rfl
theorem q678 : Cond.methodLink RX9 162 yX7_of ∈ AW := aw_in 678 (by decide +kernel) rfl
theorem q679 : Cond.methodLink RL 143 yL_middle ∈ AW := aw_in 679 (by decide +kernel) rfl
theorem q680 : Cond.static yL_middle ∈ AW := aw_in 680 (by decide +kernel) rfl
theorem q682 : Cond.methodLink RL 49 yX9_middle ∈ AW := aw_in 682 (by decide +kernel) rfl
theorem q683 : Cond.instanceMethod yX9_middle ∈ AW := aw_in 683 (by decide +kernel) rfl
theorem q684 : Cond.selects RX9 yX9_middle yX9_middle ∈ AW := aw_in 684 (by decide +kernel) rfl
theorem q685 : Cond.code yX9_middle cX9_middle 3 (some .int) ∈ AW := aw_in 685 (by decide +kernel) rfl
theorem q686 : Cond.methodLink RX9 166 yX7_middleOf ∈ AW := aw_in 686 (by decide +kernel) rfl
theorem q687 : Cond.instanceMethod yX7_middleOf ∈ AW := aw_in 687 (by decide +kernel) rfl
theorem q688 : Cond.selects RX7 yX7_middleOf yX7_middleOf ∈ AW := aw_in 688 (by decide +kernel) rfl
theorem q689 : Cond.code yX7_middleOf cX7_middleOf 5 (some .int) ∈ AW := aw_in 689 (by decide +kernel) rfl
theorem q690 : Cond.methodLink RL 150 yL_change ∈ AW := aw_in 690 (by decide +kernel) rfl
theorem q691 : Cond.static yL_change ∈ AW := aw_in 691 (by decide +kernel) rfl
theorem q693 : Cond.methodLink RL 52 yX9_change ∈ AW := aw_in 693 (by decide +kernel) rfl
theorem q694 : Cond.instanceMethod yX9_change ∈ AW := aw_in 694 (by decide +kernel) rfl
theorem q695 : Cond.selects RX9 yX9_change yX9_change ∈ AW := aw_in 695 (by decide +kernel) rfl
theorem q696 : Cond.code yX9_change cX9_change 3 (some .int) ∈ AW := aw_in 696 (by decide +kernel) rfl
theorem q697 : Cond.methodLink RX9 177 yX3_has ∈ AW := aw_in 697 (by decide +kernel) rfl
theorem q698 : Cond.instanceMethod yX3_has ∈ AW := aw_in 698 (by decide +kernel) rfl
theorem q699 : Cond.selects RX3 yX3_has yX3_has ∈ AW := aw_in 699 (by decide +kernel) rfl
theorem q700 : Cond.code yX3_has cX3_has 2 (some .boolean) ∈ AW := aw_in 700 (by decide +kernel) rfl
theorem q701 : Cond.methodLink RX9 178 yX3_numberAt ∈ AW := aw_in 701 (by decide +kernel) rfl
theorem q702 : Cond.instanceMethod yX3_numberAt ∈ AW := aw_in 702 (by decide +kernel) rfl
theorem q703 : Cond.selects RX3 yX3_numberAt yX3_numberAt ∈ AW := aw_in 703 (by decide +kernel) rfl
theorem q704 : Cond.code yX3_numberAt cX3_numberAt 4 (some .int) ∈ AW := aw_in 704 (by decide +kernel) rfl
theorem q705 : Cond.methodLink RL 157 yL_leastCost ∈ AW := aw_in 705 (by decide +kernel) rfl
theorem q706 : Cond.static yL_leastCost ∈ AW := aw_in 706 (by decide +kernel) rfl
theorem q708 : Cond.methodLink RL 55 yX9_leastCost ∈ AW := aw_in 708 (by decide +kernel) rfl
theorem q709 : Cond.instanceMethod yX9_leastCost ∈ AW := aw_in 709 (by decide +kernel) rfl
theorem q710 : Cond.selects RX9 yX9_leastCost yX9_leastCost ∈ AW := aw_in 710 (by decide +kernel) rfl
theorem q711 : Cond.code yX9_leastCost cX9_leastCost 2 (some .int) ∈ AW := aw_in 711 (by decide +kernel) rfl
theorem q712 : Cond.methodLink RX9 184 yX5_learn ∈ AW := aw_in 712 (by decide +kernel) rfl
theorem q713 : Cond.instanceMethod yX5_learn ∈ AW := aw_in 713 (by decide +kernel) rfl
theorem q714 : Cond.selects RX5 yX5_learn yX5_learn ∈ AW := aw_in 714 (by decide +kernel) rfl
theorem q715 : Cond.code yX5_learn cX5_learn 4 none ∈ AW := aw_in 715 (by decide +kernel) rfl
theorem q716 : Cond.methodLink RX5 25 yX5_learnCuttingsTo ∈ AW := aw_in 716 (by decide +kernel) rfl
theorem q718 : Cond.instanceMethod yX5_learnCuttingsTo ∈ AW := aw_in 718 (by decide +kernel) rfl
theorem q719 : Cond.code yX5_learnCuttingsTo cX5_learnCuttingsTo 5 none ∈ AW := aw_in 719 (by decide +kernel) rfl
theorem q720 : Cond.methodLink RX5 29 yX7_of ∈ AW := aw_in 720 (by decide +kernel) rfl
theorem q721 : Cond.methodLink RX5 33 yX5_leastWithLastSegment ∈ AW := aw_in 721 (by decide +kernel) rfl
theorem q723 : Cond.instanceMethod yX5_leastWithLastSegment ∈ AW := aw_in 723 (by decide +kernel) rfl
theorem q724 : Cond.code yX5_leastWithLastSegment cX5_leastWithLastSegment 6 (some .int) ∈ AW := aw_in 724 (by decide +kernel) rfl
theorem q725 : Cond.constant RX5 39 2147483647 ∈ AW := aw_in 725 (by decide +kernel) rfl
theorem q726 : Cond.methodLink RX5 40 yX5_of ∈ AW := aw_in 726 (by decide +kernel) rfl
theorem q727 : Cond.instanceMethod yX5_of ∈ AW := aw_in 727 (by decide +kernel) rfl
theorem q728 : Cond.selects RX5 yX5_of yX5_of ∈ AW := aw_in 728 (by decide +kernel) rfl
theorem q729 : Cond.code yX5_of cX5_of 3 (some .int) ∈ AW := aw_in 729 (by decide +kernel) rfl
theorem q730 : Cond.methodLink RX5 41 yJ9_min_7cf53 ∈ AW := aw_in 730 (by decide +kernel) rfl
theorem q731 : Cond.static yJ9_min_7cf53 ∈ AW := aw_in 731 (by decide +kernel) rfl
theorem q732 : Cond.code yJ9_min_7cf53 cJ9_min_7cf53 2 (some .int) ∈ AW := aw_in 732 (by decide +kernel) rfl
theorem q733 : Cond.methodLink RX9 188 yX5_of ∈ AW := aw_in 733 (by decide +kernel) rfl
theorem q734 : Cond.methodLink RL 164 yL_greedyChange ∈ AW := aw_in 734 (by decide +kernel) rfl
theorem q735 : Cond.static yL_greedyChange ∈ AW := aw_in 735 (by decide +kernel) rfl
theorem q737 : Cond.methodLink RL 58 yX9_greedyChange ∈ AW := aw_in 737 (by decide +kernel) rfl
theorem q738 : Cond.instanceMethod yX9_greedyChange ∈ AW := aw_in 738 (by decide +kernel) rfl
theorem q739 : Cond.selects RX9 yX9_greedyChange yX9_greedyChange ∈ AW := aw_in 739 (by decide +kernel) rfl
theorem q740 : Cond.code yX9_greedyChange cX9_greedyChange 3 (some .int) ∈ AW := aw_in 740 (by decide +kernel) rfl
theorem q741 : Cond.methodLink RL 171 yL_toggleTruth ∈ AW := aw_in 741 (by decide +kernel) rfl
theorem q742 : Cond.static yL_toggleTruth ∈ AW := aw_in 742 (by decide +kernel) rfl
theorem q744 : Cond.methodLink RL 61 yX9_toggleTruth ∈ AW := aw_in 744 (by decide +kernel) rfl
theorem q745 : Cond.instanceMethod yX9_toggleTruth ∈ AW := aw_in 745 (by decide +kernel) rfl
theorem q746 : Cond.selects RX9 yX9_toggleTruth yX9_toggleTruth ∈ AW := aw_in 746 (by decide +kernel) rfl
theorem q747 : Cond.code yX9_toggleTruth cX9_toggleTruth 2 (some .boolean) ∈ AW := aw_in 747 (by decide +kernel) rfl
theorem q748 : Cond.methodLink RL 174 yL_matched ∈ AW := aw_in 748 (by decide +kernel) rfl
theorem q749 : Cond.static yL_matched ∈ AW := aw_in 749 (by decide +kernel) rfl
theorem q751 : Cond.methodLink RL 65 yX9_matched ∈ AW := aw_in 751 (by decide +kernel) rfl
theorem q752 : Cond.instanceMethod yX9_matched ∈ AW := aw_in 752 (by decide +kernel) rfl
theorem q753 : Cond.selects RX9 yX9_matched yX9_matched ∈ AW := aw_in 753 (by decide +kernel) rfl
theorem q754 : Cond.code yX9_matched cX9_matched 3 (some .int) ∈ AW := aw_in 754 (by decide +kernel) rfl
theorem q755 : Cond.methodLink RX9 196 yX9_matchAlarms ∈ AW := aw_in 755 (by decide +kernel) rfl
theorem q757 : Cond.instanceMethod yX9_matchAlarms ∈ AW := aw_in 757 (by decide +kernel) rfl
theorem q758 : Cond.code yX9_matchAlarms cX9_matchAlarms 3 none ∈ AW := aw_in 758 (by decide +kernel) rfl
theorem q759 : Cond.methodLink RX9 232 yX8_match ∈ AW := aw_in 759 (by decide +kernel) rfl
theorem q760 : Cond.instanceMethod yX8_match ∈ AW := aw_in 760 (by decide +kernel) rfl
theorem q761 : Cond.selects RX8 yX8_match yX8_match ∈ AW := aw_in 761 (by decide +kernel) rfl
theorem q762 : Cond.code yX8_match cX8_match 5 none ∈ AW := aw_in 762 (by decide +kernel) rfl
theorem q763 : Cond.methodLink RX8 28 yX8_beginMatching ∈ AW := aw_in 763 (by decide +kernel) rfl
theorem q765 : Cond.instanceMethod yX8_beginMatching ∈ AW := aw_in 765 (by decide +kernel) rfl
theorem q766 : Cond.code yX8_beginMatching cX8_beginMatching 2 none ∈ AW := aw_in 766 (by decide +kernel) rfl
theorem q767 : Cond.methodLink RX8 43 yX8_matchAlarm ∈ AW := aw_in 767 (by decide +kernel) rfl
theorem q769 : Cond.instanceMethod yX8_matchAlarm ∈ AW := aw_in 769 (by decide +kernel) rfl
theorem q770 : Cond.code yX8_matchAlarm cX8_matchAlarm 5 none ∈ AW := aw_in 770 (by decide +kernel) rfl
theorem q771 : Cond.methodLink RX8 47 yJ9_max_7cf53 ∈ AW := aw_in 771 (by decide +kernel) rfl
theorem q772 : Cond.methodLink RL 177 yL_falseAlarms ∈ AW := aw_in 772 (by decide +kernel) rfl
theorem q773 : Cond.static yL_falseAlarms ∈ AW := aw_in 773 (by decide +kernel) rfl
theorem q775 : Cond.methodLink RL 68 yX9_falseAlarms ∈ AW := aw_in 775 (by decide +kernel) rfl
theorem q776 : Cond.instanceMethod yX9_falseAlarms ∈ AW := aw_in 776 (by decide +kernel) rfl
theorem q777 : Cond.selects RX9 yX9_falseAlarms yX9_falseAlarms ∈ AW := aw_in 777 (by decide +kernel) rfl
theorem q778 : Cond.code yX9_falseAlarms cX9_falseAlarms 3 (some .int) ∈ AW := aw_in 778 (by decide +kernel) rfl
theorem q779 : Cond.methodLink RL 180 yL_averageDelay ∈ AW := aw_in 779 (by decide +kernel) rfl
theorem q780 : Cond.static yL_averageDelay ∈ AW := aw_in 780 (by decide +kernel) rfl
theorem q782 : Cond.methodLink RL 71 yX9_averageDelay ∈ AW := aw_in 782 (by decide +kernel) rfl
theorem q783 : Cond.instanceMethod yX9_averageDelay ∈ AW := aw_in 783 (by decide +kernel) rfl
theorem q784 : Cond.selects RX9 yX9_averageDelay yX9_averageDelay ∈ AW := aw_in 784 (by decide +kernel) rfl
theorem q785 : Cond.code yX9_averageDelay cX9_averageDelay 3 (some .float) ∈ AW := aw_in 785 (by decide +kernel) rfl
theorem q786 : Cond.classLink RL 76 RX10 ∈ AW := aw_in 786 (by decide +kernel) rfl
theorem q787 : Cond.instantiable RX10 34 ∈ AW := aw_in 787 (by decide +kernel) rfl
theorem q788 : Cond.methodLink RL 78 yX10_init ∈ AW := aw_in 788 (by decide +kernel) rfl
theorem q789 : Cond.instanceMethod yX10_init ∈ AW := aw_in 789 (by decide +kernel) rfl
theorem q790 : Cond.code yX10_init cX10_init 1 none ∈ AW := aw_in 790 (by decide +kernel) rfl
theorem q791 : Cond.methodLink RX10 1 objectInit ∈ AW := aw_in 791 (by decide +kernel) rfl
theorem q792 : Cond.fieldLink RX10 118 "BreakpointModel" "target" "I" ∈ AW := aw_in 792 (by decide +kernel) rfl
theorem q793 : Cond.fieldLink RX10 7 "BreakpointModel" "slack" "I" ∈ AW := aw_in 793 (by decide +kernel) rfl
theorem q794 : Cond.fieldLink RX10 13 "BreakpointModel" "threshold" "I" ∈ AW := aw_in 794 (by decide +kernel) rfl
theorem q795 : Cond.fieldLink RX10 16 "BreakpointModel" "allowance" "I" ∈ AW := aw_in 795 (by decide +kernel) rfl
theorem q796 : Cond.fieldLink RX10 19 "BreakpointModel" "forgetting" "I" ∈ AW := aw_in 796 (by decide +kernel) rfl
theorem q797 : Cond.fieldLink RX10 22 "BreakpointModel" "limit" "I" ∈ AW := aw_in 797 (by decide +kernel) rfl
theorem q798 : Cond.fieldLink RX10 25 "BreakpointModel" "penalty" "I" ∈ AW := aw_in 798 (by decide +kernel) rfl
theorem q799 : Cond.fieldLink RX10 93 "BreakpointModel" "size" "I" ∈ AW := aw_in 799 (by decide +kernel) rfl
theorem q800 : Cond.fieldLink RX10 28 "BreakpointModel" "value" "[I" ∈ AW := aw_in 800 (by decide +kernel) rfl
theorem q801 : Cond.fieldLink RX10 32 "BreakpointModel" "isTrue" "[Z" ∈ AW := aw_in 801 (by decide +kernel) rfl
theorem q802 : Cond.fieldLink RX10 72 "BreakpointModel" "high" "I" ∈ AW := aw_in 802 (by decide +kernel) rfl
theorem q803 : Cond.fieldLink RX10 75 "BreakpointModel" "low" "I" ∈ AW := aw_in 803 (by decide +kernel) rfl
theorem q804 : Cond.fieldLink RX10 121 "BreakpointModel" "highStart" "I" ∈ AW := aw_in 804 (by decide +kernel) rfl
theorem q805 : Cond.fieldLink RX10 124 "BreakpointModel" "lowStart" "I" ∈ AW := aw_in 805 (by decide +kernel) rfl
theorem q806 : Cond.fieldLink RX10 78 "BreakpointModel" "count" "I" ∈ AW := aw_in 806 (by decide +kernel) rfl
theorem q807 : Cond.fieldLink RX10 81 "BreakpointModel" "total" "I" ∈ AW := aw_in 807 (by decide +kernel) rfl
theorem q808 : Cond.fieldLink RX10 84 "BreakpointModel" "sum" "I" ∈ AW := aw_in 808 (by decide +kernel) rfl
theorem q809 : Cond.fieldLink RX10 87 "BreakpointModel" "least" "I" ∈ AW := aw_in 809 (by decide +kernel) rfl
theorem q810 : Cond.fieldLink RX10 90 "BreakpointModel" "leastAt" "I" ∈ AW := aw_in 810 (by decide +kernel) rfl
theorem q811 : Cond.fieldLink RX10 96 "BreakpointModel" "alarms" "I" ∈ AW := aw_in 811 (by decide +kernel) rfl
theorem q812 : Cond.fieldLink RX10 36 "BreakpointModel" "kind" "[I" ∈ AW := aw_in 812 (by decide +kernel) rfl
theorem q813 : Cond.fieldLink RX10 39 "BreakpointModel" "number" "[I" ∈ AW := aw_in 813 (by decide +kernel) rfl
theorem q814 : Cond.fieldLink RX10 42 "BreakpointModel" "start" "[I" ∈ AW := aw_in 814 (by decide +kernel) rfl
theorem q815 : Cond.fieldLink RX10 69 "BreakpointModel" "thrown" "I" ∈ AW := aw_in 815 (by decide +kernel) rfl
theorem q816 : Cond.fieldLink RX10 99 "BreakpointModel" "isKnown" "Z" ∈ AW := aw_in 816 (by decide +kernel) rfl
theorem q817 : Cond.fieldLink RX10 45 "BreakpointModel" "costs" "[I" ∈ AW := aw_in 817 (by decide +kernel) rfl
theorem q818 : Cond.fieldLink RX10 48 "BreakpointModel" "sorted" "[I" ∈ AW := aw_in 818 (by decide +kernel) rfl
theorem q819 : Cond.fieldLink RX10 51 "BreakpointModel" "best" "[I" ∈ AW := aw_in 819 (by decide +kernel) rfl
theorem q820 : Cond.fieldLink RX10 54 "BreakpointModel" "few" "[I" ∈ AW := aw_in 820 (by decide +kernel) rfl
theorem q821 : Cond.fieldLink RX10 57 "BreakpointModel" "one" "[I" ∈ AW := aw_in 821 (by decide +kernel) rfl
theorem q822 : Cond.fieldLink RX10 60 "BreakpointModel" "other" "[I" ∈ AW := aw_in 822 (by decide +kernel) rfl
theorem q823 : Cond.fieldLink RX10 63 "BreakpointModel" "isCut" "[Z" ∈ AW := aw_in 823 (by decide +kernel) rfl
theorem q824 : Cond.fieldLink RX10 66 "BreakpointModel" "isMet" "[Z" ∈ AW := aw_in 824 (by decide +kernel) rfl
theorem q825 : Cond.fieldLink RX10 181 "BreakpointModel" "delays" "I" ∈ AW := aw_in 825 (by decide +kernel) rfl
theorem q826 : Cond.lays "BreakpointModel" "BreakpointModel" "target" "I" ∈ AW := aw_in 826 (by decide +kernel) rfl
theorem q828 : Cond.lays "BreakpointModel" "BreakpointModel" "slack" "I" ∈ AW := aw_in 828 (by decide +kernel) rfl
theorem q830 : Cond.lays "BreakpointModel" "BreakpointModel" "threshold" "I" ∈ AW := aw_in 830 (by decide +kernel) rfl
theorem q832 : Cond.lays "BreakpointModel" "BreakpointModel" "allowance" "I" ∈ AW := aw_in 832 (by decide +kernel) rfl
theorem q834 : Cond.lays "BreakpointModel" "BreakpointModel" "forgetting" "I" ∈ AW := aw_in 834 (by decide +kernel) rfl
theorem q836 : Cond.lays "BreakpointModel" "BreakpointModel" "limit" "I" ∈ AW := aw_in 836 (by decide +kernel) rfl
theorem q838 : Cond.lays "BreakpointModel" "BreakpointModel" "penalty" "I" ∈ AW := aw_in 838 (by decide +kernel) rfl
theorem q840 : Cond.lays "BreakpointModel" "BreakpointModel" "size" "I" ∈ AW := aw_in 840 (by decide +kernel) rfl
theorem q842 : Cond.laysFinal "BreakpointModel" "BreakpointModel" "value" "[I" ∈ AW := aw_in 842 (by decide +kernel) rfl
theorem q844 : Cond.laysFinal "BreakpointModel" "BreakpointModel" "isTrue" "[Z" ∈ AW := aw_in 844 (by decide +kernel) rfl
theorem q846 : Cond.lays "BreakpointModel" "BreakpointModel" "high" "I" ∈ AW := aw_in 846 (by decide +kernel) rfl
theorem q848 : Cond.lays "BreakpointModel" "BreakpointModel" "low" "I" ∈ AW := aw_in 848 (by decide +kernel) rfl
theorem q850 : Cond.lays "BreakpointModel" "BreakpointModel" "highStart" "I" ∈ AW := aw_in 850 (by decide +kernel) rfl
theorem q852 : Cond.lays "BreakpointModel" "BreakpointModel" "lowStart" "I" ∈ AW := aw_in 852 (by decide +kernel) rfl
theorem q854 : Cond.lays "BreakpointModel" "BreakpointModel" "count" "I" ∈ AW := aw_in 854 (by decide +kernel) rfl
theorem q856 : Cond.lays "BreakpointModel" "BreakpointModel" "total" "I" ∈ AW := aw_in 856 (by decide +kernel) rfl
theorem q858 : Cond.lays "BreakpointModel" "BreakpointModel" "sum" "I" ∈ AW := aw_in 858 (by decide +kernel) rfl
theorem q860 : Cond.lays "BreakpointModel" "BreakpointModel" "least" "I" ∈ AW := aw_in 860 (by decide +kernel) rfl
theorem q862 : Cond.lays "BreakpointModel" "BreakpointModel" "leastAt" "I" ∈ AW := aw_in 862 (by decide +kernel) rfl
theorem q864 : Cond.lays "BreakpointModel" "BreakpointModel" "alarms" "I" ∈ AW := aw_in 864 (by decide +kernel) rfl
theorem q866 : Cond.laysFinal "BreakpointModel" "BreakpointModel" "kind" "[I" ∈ AW := aw_in 866 (by decide +kernel) rfl
theorem q868 : Cond.laysFinal "BreakpointModel" "BreakpointModel" "number" "[I" ∈ AW := aw_in 868 (by decide +kernel) rfl
theorem q870 : Cond.laysFinal "BreakpointModel" "BreakpointModel" "start" "[I" ∈ AW := aw_in 870 (by decide +kernel) rfl
theorem q872 : Cond.lays "BreakpointModel" "BreakpointModel" "thrown" "I" ∈ AW := aw_in 872 (by decide +kernel) rfl
theorem q874 : Cond.lays "BreakpointModel" "BreakpointModel" "isKnown" "Z" ∈ AW := aw_in 874 (by decide +kernel) rfl
theorem q876 : Cond.laysFinal "BreakpointModel" "BreakpointModel" "costs" "[I" ∈ AW := aw_in 876 (by decide +kernel) rfl
theorem q878 : Cond.laysFinal "BreakpointModel" "BreakpointModel" "sorted" "[I" ∈ AW := aw_in 878 (by decide +kernel) rfl
theorem q880 : Cond.laysFinal "BreakpointModel" "BreakpointModel" "best" "[I" ∈ AW := aw_in 880 (by decide +kernel) rfl
theorem q882 : Cond.laysFinal "BreakpointModel" "BreakpointModel" "few" "[I" ∈ AW := aw_in 882 (by decide +kernel) rfl
theorem q884 : Cond.laysFinal "BreakpointModel" "BreakpointModel" "one" "[I" ∈ AW := aw_in 884 (by decide +kernel) rfl
theorem q886 : Cond.laysFinal "BreakpointModel" "BreakpointModel" "other" "[I" ∈ AW := aw_in 886 (by decide +kernel) rfl
theorem q888 : Cond.laysFinal "BreakpointModel" "BreakpointModel" "isCut" "[Z" ∈ AW := aw_in 888 (by decide +kernel) rfl
theorem q890 : Cond.laysFinal "BreakpointModel" "BreakpointModel" "isMet" "[Z" ∈ AW := aw_in 890 (by decide +kernel) rfl
theorem q892 : Cond.lays "BreakpointModel" "BreakpointModel" "delays" "I" ∈ AW := aw_in 892 (by decide +kernel) rfl
theorem q895 : Cond.methodLink RL 90 yX10_thrown ∈ AW := aw_in 895 (by decide +kernel) rfl
theorem q896 : Cond.instanceMethod yX10_thrown ∈ AW := aw_in 896 (by decide +kernel) rfl
theorem q897 : Cond.selects RX10 yX10_thrown yX10_thrown ∈ AW := aw_in 897 (by decide +kernel) rfl
theorem q898 : Cond.code yX10_thrown cX10_thrown 1 (some .int) ∈ AW := aw_in 898 (by decide +kernel) rfl
theorem q899 : Cond.methodLink RL 83 yX10_clear ∈ AW := aw_in 899 (by decide +kernel) rfl
theorem q900 : Cond.instanceMethod yX10_clear ∈ AW := aw_in 900 (by decide +kernel) rfl
theorem q901 : Cond.selects RX10 yX10_clear yX10_clear ∈ AW := aw_in 901 (by decide +kernel) rfl
theorem q902 : Cond.code yX10_clear cX10_clear 3 (some .int) ∈ AW := aw_in 902 (by decide +kernel) rfl
theorem q903 : Cond.methodLink RX10 103 yX10_restsSums ∈ AW := aw_in 903 (by decide +kernel) rfl
theorem q905 : Cond.instanceMethod yX10_restsSums ∈ AW := aw_in 905 (by decide +kernel) rfl
theorem q906 : Cond.code yX10_restsSums cX10_restsSums 1 none ∈ AW := aw_in 906 (by decide +kernel) rfl
theorem q907 : Cond.methodLink RX10 106 yX10_restsTest ∈ AW := aw_in 907 (by decide +kernel) rfl
theorem q909 : Cond.instanceMethod yX10_restsTest ∈ AW := aw_in 909 (by decide +kernel) rfl
theorem q910 : Cond.code yX10_restsTest cX10_restsTest 1 none ∈ AW := aw_in 910 (by decide +kernel) rfl
theorem q911 : Cond.methodLink RL 89 yX10_setSums ∈ AW := aw_in 911 (by decide +kernel) rfl
theorem q912 : Cond.instanceMethod yX10_setSums ∈ AW := aw_in 912 (by decide +kernel) rfl
theorem q913 : Cond.selects RX10 yX10_setSums yX10_setSums ∈ AW := aw_in 913 (by decide +kernel) rfl
theorem q914 : Cond.code yX10_setSums cX10_setSums 4 none ∈ AW := aw_in 914 (by decide +kernel) rfl
theorem q915 : Cond.methodLink RX10 109 yX10_isIn ∈ AW := aw_in 915 (by decide +kernel) rfl
theorem q916 : Cond.static yX10_isIn ∈ AW := aw_in 916 (by decide +kernel) rfl
theorem q917 : Cond.code yX10_isIn cX10_isIn 3 (some .boolean) ∈ AW := aw_in 917 (by decide +kernel) rfl
theorem q918 : Cond.constant RX10 113 100000 ∈ AW := aw_in 918 (by decide +kernel) rfl
theorem q919 : Cond.methodLink RX10 114 yX10_fails ∈ AW := aw_in 919 (by decide +kernel) rfl
theorem q921 : Cond.instanceMethod yX10_fails ∈ AW := aw_in 921 (by decide +kernel) rfl
theorem q922 : Cond.code yX10_fails cX10_fails 2 (some .boolean) ∈ AW := aw_in 922 (by decide +kernel) rfl
theorem q923 : Cond.methodLink RL 95 yX10_setTest ∈ AW := aw_in 923 (by decide +kernel) rfl
theorem q924 : Cond.instanceMethod yX10_setTest ∈ AW := aw_in 924 (by decide +kernel) rfl
theorem q925 : Cond.selects RX10 yX10_setTest yX10_setTest ∈ AW := aw_in 925 (by decide +kernel) rfl
theorem q926 : Cond.code yX10_setTest cX10_setTest 4 none ∈ AW := aw_in 926 (by decide +kernel) rfl
theorem q927 : Cond.methodLink RL 99 yX10_setPenalty ∈ AW := aw_in 927 (by decide +kernel) rfl
theorem q928 : Cond.instanceMethod yX10_setPenalty ∈ AW := aw_in 928 (by decide +kernel) rfl
theorem q929 : Cond.selects RX10 yX10_setPenalty yX10_setPenalty ∈ AW := aw_in 929 (by decide +kernel) rfl
theorem q930 : Cond.code yX10_setPenalty cX10_setPenalty 3 (some .int) ∈ AW := aw_in 930 (by decide +kernel) rfl
theorem q931 : Cond.methodLink RL 102 yX10_add ∈ AW := aw_in 931 (by decide +kernel) rfl
theorem q932 : Cond.instanceMethod yX10_add ∈ AW := aw_in 932 (by decide +kernel) rfl
theorem q933 : Cond.selects RX10 yX10_add yX10_add ∈ AW := aw_in 933 (by decide +kernel) rfl
theorem q934 : Cond.code yX10_add cX10_add 2 (some .int) ∈ AW := aw_in 934 (by decide +kernel) rfl
theorem q935 : Cond.methodLink RX10 142 yX10_isValue ∈ AW := aw_in 935 (by decide +kernel) rfl
theorem q936 : Cond.static yX10_isValue ∈ AW := aw_in 936 (by decide +kernel) rfl
theorem q937 : Cond.code yX10_isValue cX10_isValue 1 (some .boolean) ∈ AW := aw_in 937 (by decide +kernel) rfl
theorem q938 : Cond.methodLink RX10 145 yX10_puts ∈ AW := aw_in 938 (by decide +kernel) rfl
theorem q940 : Cond.instanceMethod yX10_puts ∈ AW := aw_in 940 (by decide +kernel) rfl
theorem q941 : Cond.code yX10_puts cX10_puts 3 (some .int) ∈ AW := aw_in 941 (by decide +kernel) rfl
theorem q942 : Cond.methodLink RX10 135 yX10_sums ∈ AW := aw_in 942 (by decide +kernel) rfl
theorem q944 : Cond.instanceMethod yX10_sums ∈ AW := aw_in 944 (by decide +kernel) rfl
theorem q945 : Cond.code yX10_sums cX10_sums 3 (some .int) ∈ AW := aw_in 945 (by decide +kernel) rfl
theorem q946 : Cond.methodLink RX10 127 yX10_raises ∈ AW := aw_in 946 (by decide +kernel) rfl
theorem q948 : Cond.instanceMethod yX10_raises ∈ AW := aw_in 948 (by decide +kernel) rfl
theorem q949 : Cond.code yX10_raises cX10_raises 3 none ∈ AW := aw_in 949 (by decide +kernel) rfl
theorem q950 : Cond.methodLink RX10 139 yX10_tests ∈ AW := aw_in 950 (by decide +kernel) rfl
theorem q952 : Cond.instanceMethod yX10_tests ∈ AW := aw_in 952 (by decide +kernel) rfl
theorem q953 : Cond.code yX10_tests cX10_tests 2 (some .int) ∈ AW := aw_in 953 (by decide +kernel) rfl
theorem q954 : Cond.methodLink RX10 131 yX10_floor ∈ AW := aw_in 954 (by decide +kernel) rfl
theorem q955 : Cond.static yX10_floor ∈ AW := aw_in 955 (by decide +kernel) rfl
theorem q956 : Cond.code yX10_floor cX10_floor 2 (some .int) ∈ AW := aw_in 956 (by decide +kernel) rfl
theorem q957 : Cond.methodLink RL 106 yX10_addRun ∈ AW := aw_in 957 (by decide +kernel) rfl
theorem q958 : Cond.instanceMethod yX10_addRun ∈ AW := aw_in 958 (by decide +kernel) rfl
theorem q959 : Cond.selects RX10 yX10_addRun yX10_addRun ∈ AW := aw_in 959 (by decide +kernel) rfl
theorem q960 : Cond.code yX10_addRun cX10_addRun 7 (some .int) ∈ AW := aw_in 960 (by decide +kernel) rfl
theorem q961 : Cond.methodLink RL 110 yX10_size ∈ AW := aw_in 961 (by decide +kernel) rfl
theorem q962 : Cond.instanceMethod yX10_size ∈ AW := aw_in 962 (by decide +kernel) rfl
theorem q963 : Cond.selects RX10 yX10_size yX10_size ∈ AW := aw_in 963 (by decide +kernel) rfl
theorem q964 : Cond.code yX10_size cX10_size 1 (some .int) ∈ AW := aw_in 964 (by decide +kernel) rfl
theorem q965 : Cond.methodLink RX10 148 yX10_tells ∈ AW := aw_in 965 (by decide +kernel) rfl
theorem q967 : Cond.instanceMethod yX10_tells ∈ AW := aw_in 967 (by decide +kernel) rfl
theorem q968 : Cond.code yX10_tells cX10_tells 2 (some .int) ∈ AW := aw_in 968 (by decide +kernel) rfl
theorem q969 : Cond.methodLink RL 113 yX10_value ∈ AW := aw_in 969 (by decide +kernel) rfl
theorem q970 : Cond.instanceMethod yX10_value ∈ AW := aw_in 970 (by decide +kernel) rfl
theorem q971 : Cond.selects RX10 yX10_value yX10_value ∈ AW := aw_in 971 (by decide +kernel) rfl
theorem q972 : Cond.code yX10_value cX10_value 2 (some .int) ∈ AW := aw_in 972 (by decide +kernel) rfl
theorem q973 : Cond.methodLink RL 117 yX10_highSum ∈ AW := aw_in 973 (by decide +kernel) rfl
theorem q974 : Cond.instanceMethod yX10_highSum ∈ AW := aw_in 974 (by decide +kernel) rfl
theorem q975 : Cond.selects RX10 yX10_highSum yX10_highSum ∈ AW := aw_in 975 (by decide +kernel) rfl
theorem q976 : Cond.code yX10_highSum cX10_highSum 1 (some .int) ∈ AW := aw_in 976 (by decide +kernel) rfl
theorem q977 : Cond.methodLink RL 121 yX10_lowSum ∈ AW := aw_in 977 (by decide +kernel) rfl
theorem q978 : Cond.instanceMethod yX10_lowSum ∈ AW := aw_in 978 (by decide +kernel) rfl
theorem q979 : Cond.selects RX10 yX10_lowSum yX10_lowSum ∈ AW := aw_in 979 (by decide +kernel) rfl
theorem q980 : Cond.code yX10_lowSum cX10_lowSum 1 (some .int) ∈ AW := aw_in 980 (by decide +kernel) rfl
theorem q981 : Cond.methodLink RL 125 yX10_testSum ∈ AW := aw_in 981 (by decide +kernel) rfl
theorem q982 : Cond.instanceMethod yX10_testSum ∈ AW := aw_in 982 (by decide +kernel) rfl
theorem q983 : Cond.selects RX10 yX10_testSum yX10_testSum ∈ AW := aw_in 983 (by decide +kernel) rfl
theorem q984 : Cond.code yX10_testSum cX10_testSum 1 (some .int) ∈ AW := aw_in 984 (by decide +kernel) rfl
theorem q985 : Cond.methodLink RL 129 yX10_alarms ∈ AW := aw_in 985 (by decide +kernel) rfl
theorem q986 : Cond.instanceMethod yX10_alarms ∈ AW := aw_in 986 (by decide +kernel) rfl
theorem q987 : Cond.selects RX10 yX10_alarms yX10_alarms ∈ AW := aw_in 987 (by decide +kernel) rfl
theorem q988 : Cond.code yX10_alarms cX10_alarms 1 (some .int) ∈ AW := aw_in 988 (by decide +kernel) rfl
theorem q989 : Cond.methodLink RL 132 yX10_alarmKind ∈ AW := aw_in 989 (by decide +kernel) rfl
theorem q990 : Cond.instanceMethod yX10_alarmKind ∈ AW := aw_in 990 (by decide +kernel) rfl
theorem q991 : Cond.selects RX10 yX10_alarmKind yX10_alarmKind ∈ AW := aw_in 991 (by decide +kernel) rfl
theorem q992 : Cond.code yX10_alarmKind cX10_alarmKind 2 (some .int) ∈ AW := aw_in 992 (by decide +kernel) rfl
theorem q993 : Cond.methodLink RX10 151 yX10_ofAlarm ∈ AW := aw_in 993 (by decide +kernel) rfl
theorem q995 : Cond.instanceMethod yX10_ofAlarm ∈ AW := aw_in 995 (by decide +kernel) rfl
theorem q996 : Cond.code yX10_ofAlarm cX10_ofAlarm 3 (some .int) ∈ AW := aw_in 996 (by decide +kernel) rfl
theorem q997 : Cond.methodLink RL 135 yX10_alarmNumber ∈ AW := aw_in 997 (by decide +kernel) rfl
theorem q998 : Cond.instanceMethod yX10_alarmNumber ∈ AW := aw_in 998 (by decide +kernel) rfl
theorem q999 : Cond.selects RX10 yX10_alarmNumber yX10_alarmNumber ∈ AW := aw_in 999 (by decide +kernel) rfl
theorem q1000 : Cond.code yX10_alarmNumber cX10_alarmNumber 2 (some .int) ∈ AW := aw_in 1000 (by decide +kernel) rfl
theorem q1001 : Cond.methodLink RL 138 yX10_alarmStart ∈ AW := aw_in 1001 (by decide +kernel) rfl
theorem q1002 : Cond.instanceMethod yX10_alarmStart ∈ AW := aw_in 1002 (by decide +kernel) rfl
theorem q1003 : Cond.selects RX10 yX10_alarmStart yX10_alarmStart ∈ AW := aw_in 1003 (by decide +kernel) rfl
theorem q1004 : Cond.code yX10_alarmStart cX10_alarmStart 2 (some .int) ∈ AW := aw_in 1004 (by decide +kernel) rfl
theorem q1005 : Cond.methodLink RL 142 yX10_cost ∈ AW := aw_in 1005 (by decide +kernel) rfl
theorem q1006 : Cond.instanceMethod yX10_cost ∈ AW := aw_in 1006 (by decide +kernel) rfl
theorem q1007 : Cond.selects RX10 yX10_cost yX10_cost ∈ AW := aw_in 1007 (by decide +kernel) rfl
theorem q1008 : Cond.code yX10_cost cX10_cost 3 (some .int) ∈ AW := aw_in 1008 (by decide +kernel) rfl
theorem q1009 : Cond.methodLink RX10 158 yX10_isSegment ∈ AW := aw_in 1009 (by decide +kernel) rfl
theorem q1011 : Cond.instanceMethod yX10_isSegment ∈ AW := aw_in 1011 (by decide +kernel) rfl
theorem q1012 : Cond.code yX10_isSegment cX10_isSegment 3 (some .boolean) ∈ AW := aw_in 1012 (by decide +kernel) rfl
theorem q1013 : Cond.methodLink RX10 162 yX10_weighs ∈ AW := aw_in 1013 (by decide +kernel) rfl
theorem q1015 : Cond.instanceMethod yX10_weighs ∈ AW := aw_in 1015 (by decide +kernel) rfl
theorem q1016 : Cond.code yX10_weighs cX10_weighs 7 none ∈ AW := aw_in 1016 (by decide +kernel) rfl
theorem q1017 : Cond.methodLink RX10 155 yX10_sorts ∈ AW := aw_in 1017 (by decide +kernel) rfl
theorem q1019 : Cond.instanceMethod yX10_sorts ∈ AW := aw_in 1019 (by decide +kernel) rfl
theorem q1020 : Cond.code yX10_sorts cX10_sorts 4 none ∈ AW := aw_in 1020 (by decide +kernel) rfl
theorem q1021 : Cond.methodLink RX10 165 yX10_of ∈ AW := aw_in 1021 (by decide +kernel) rfl
theorem q1023 : Cond.instanceMethod yX10_of ∈ AW := aw_in 1023 (by decide +kernel) rfl
theorem q1024 : Cond.code yX10_of cX10_of 3 (some .int) ∈ AW := aw_in 1024 (by decide +kernel) rfl
theorem q1025 : Cond.methodLink RL 145 yX10_middle ∈ AW := aw_in 1025 (by decide +kernel) rfl
theorem q1026 : Cond.instanceMethod yX10_middle ∈ AW := aw_in 1026 (by decide +kernel) rfl
theorem q1027 : Cond.selects RX10 yX10_middle yX10_middle ∈ AW := aw_in 1027 (by decide +kernel) rfl
theorem q1028 : Cond.code yX10_middle cX10_middle 4 (some .int) ∈ AW := aw_in 1028 (by decide +kernel) rfl
theorem q1029 : Cond.methodLink RL 149 yX10_changes ∈ AW := aw_in 1029 (by decide +kernel) rfl
theorem q1030 : Cond.instanceMethod yX10_changes ∈ AW := aw_in 1030 (by decide +kernel) rfl
theorem q1031 : Cond.selects RX10 yX10_changes yX10_changes ∈ AW := aw_in 1031 (by decide +kernel) rfl
theorem q1032 : Cond.code yX10_changes cX10_changes 1 (some .int) ∈ AW := aw_in 1032 (by decide +kernel) rfl
theorem q1033 : Cond.methodLink RX10 168 yX10_cuts ∈ AW := aw_in 1033 (by decide +kernel) rfl
theorem q1035 : Cond.instanceMethod yX10_cuts ∈ AW := aw_in 1035 (by decide +kernel) rfl
theorem q1036 : Cond.code yX10_cuts cX10_cuts 5 none ∈ AW := aw_in 1036 (by decide +kernel) rfl
theorem q1037 : Cond.methodLink RL 152 yX10_change ∈ AW := aw_in 1037 (by decide +kernel) rfl
theorem q1038 : Cond.instanceMethod yX10_change ∈ AW := aw_in 1038 (by decide +kernel) rfl
theorem q1039 : Cond.selects RX10 yX10_change yX10_change ∈ AW := aw_in 1039 (by decide +kernel) rfl
theorem q1040 : Cond.code yX10_change cX10_change 4 (some .int) ∈ AW := aw_in 1040 (by decide +kernel) rfl
theorem q1041 : Cond.methodLink RX10 171 yX10_next ∈ AW := aw_in 1041 (by decide +kernel) rfl
theorem q1043 : Cond.instanceMethod yX10_next ∈ AW := aw_in 1043 (by decide +kernel) rfl
theorem q1044 : Cond.code yX10_next cX10_next 5 (some .int) ∈ AW := aw_in 1044 (by decide +kernel) rfl
theorem q1045 : Cond.methodLink RL 156 yX10_bestCost ∈ AW := aw_in 1045 (by decide +kernel) rfl
theorem q1046 : Cond.instanceMethod yX10_bestCost ∈ AW := aw_in 1046 (by decide +kernel) rfl
theorem q1047 : Cond.selects RX10 yX10_bestCost yX10_bestCost ∈ AW := aw_in 1047 (by decide +kernel) rfl
theorem q1048 : Cond.code yX10_bestCost cX10_bestCost 1 (some .int) ∈ AW := aw_in 1048 (by decide +kernel) rfl
theorem q1049 : Cond.methodLink RL 159 yX10_leastCost ∈ AW := aw_in 1049 (by decide +kernel) rfl
theorem q1050 : Cond.instanceMethod yX10_leastCost ∈ AW := aw_in 1050 (by decide +kernel) rfl
theorem q1051 : Cond.selects RX10 yX10_leastCost yX10_leastCost ∈ AW := aw_in 1051 (by decide +kernel) rfl
theorem q1052 : Cond.code yX10_leastCost cX10_leastCost 6 (some .int) ∈ AW := aw_in 1052 (by decide +kernel) rfl
theorem q1053 : Cond.methodLink RL 163 yX10_greedyChanges ∈ AW := aw_in 1053 (by decide +kernel) rfl
theorem q1054 : Cond.instanceMethod yX10_greedyChanges ∈ AW := aw_in 1054 (by decide +kernel) rfl
theorem q1055 : Cond.selects RX10 yX10_greedyChanges yX10_greedyChanges ∈ AW := aw_in 1055 (by decide +kernel) rfl
theorem q1056 : Cond.code yX10_greedyChanges cX10_greedyChanges 1 (some .int) ∈ AW := aw_in 1056 (by decide +kernel) rfl
theorem q1057 : Cond.methodLink RX10 174 yX10_cutsGreedily ∈ AW := aw_in 1057 (by decide +kernel) rfl
theorem q1059 : Cond.instanceMethod yX10_cutsGreedily ∈ AW := aw_in 1059 (by decide +kernel) rfl
theorem q1060 : Cond.code yX10_cutsGreedily cX10_cutsGreedily 9 (some .int) ∈ AW := aw_in 1060 (by decide +kernel) rfl
theorem q1061 : Cond.methodLink RX10 178 yX10_cut ∈ AW := aw_in 1061 (by decide +kernel) rfl
theorem q1063 : Cond.instanceMethod yX10_cut ∈ AW := aw_in 1063 (by decide +kernel) rfl
theorem q1064 : Cond.code yX10_cut cX10_cut 4 (some .int) ∈ AW := aw_in 1064 (by decide +kernel) rfl
theorem q1065 : Cond.methodLink RL 166 yX10_greedyChange ∈ AW := aw_in 1065 (by decide +kernel) rfl
theorem q1066 : Cond.instanceMethod yX10_greedyChange ∈ AW := aw_in 1066 (by decide +kernel) rfl
theorem q1067 : Cond.selects RX10 yX10_greedyChange yX10_greedyChange ∈ AW := aw_in 1067 (by decide +kernel) rfl
theorem q1068 : Cond.code yX10_greedyChange cX10_greedyChange 3 (some .int) ∈ AW := aw_in 1068 (by decide +kernel) rfl
theorem q1069 : Cond.methodLink RL 170 yX10_greedyCost ∈ AW := aw_in 1069 (by decide +kernel) rfl
theorem q1070 : Cond.instanceMethod yX10_greedyCost ∈ AW := aw_in 1070 (by decide +kernel) rfl
theorem q1071 : Cond.selects RX10 yX10_greedyCost yX10_greedyCost ∈ AW := aw_in 1071 (by decide +kernel) rfl
theorem q1072 : Cond.code yX10_greedyCost cX10_greedyCost 1 (some .int) ∈ AW := aw_in 1072 (by decide +kernel) rfl
theorem q1073 : Cond.methodLink RL 173 yX10_toggleTruth ∈ AW := aw_in 1073 (by decide +kernel) rfl
theorem q1074 : Cond.instanceMethod yX10_toggleTruth ∈ AW := aw_in 1074 (by decide +kernel) rfl
theorem q1075 : Cond.selects RX10 yX10_toggleTruth yX10_toggleTruth ∈ AW := aw_in 1075 (by decide +kernel) rfl
theorem q1076 : Cond.code yX10_toggleTruth cX10_toggleTruth 2 (some .boolean) ∈ AW := aw_in 1076 (by decide +kernel) rfl
theorem q1077 : Cond.methodLink RL 176 yX10_matched ∈ AW := aw_in 1077 (by decide +kernel) rfl
theorem q1078 : Cond.instanceMethod yX10_matched ∈ AW := aw_in 1078 (by decide +kernel) rfl
theorem q1079 : Cond.selects RX10 yX10_matched yX10_matched ∈ AW := aw_in 1079 (by decide +kernel) rfl
theorem q1080 : Cond.code yX10_matched cX10_matched 3 (some .int) ∈ AW := aw_in 1080 (by decide +kernel) rfl
theorem q1081 : Cond.methodLink RX10 184 yX10_isNoWindow ∈ AW := aw_in 1081 (by decide +kernel) rfl
theorem q1083 : Cond.instanceMethod yX10_isNoWindow ∈ AW := aw_in 1083 (by decide +kernel) rfl
theorem q1084 : Cond.code yX10_isNoWindow cX10_isNoWindow 3 (some .boolean) ∈ AW := aw_in 1084 (by decide +kernel) rfl
theorem q1085 : Cond.methodLink RX10 187 yX10_matches ∈ AW := aw_in 1085 (by decide +kernel) rfl
theorem q1087 : Cond.instanceMethod yX10_matches ∈ AW := aw_in 1087 (by decide +kernel) rfl
theorem q1088 : Cond.code yX10_matches cX10_matches 7 (some .int) ∈ AW := aw_in 1088 (by decide +kernel) rfl
theorem q1089 : Cond.methodLink RL 179 yX10_falseAlarms ∈ AW := aw_in 1089 (by decide +kernel) rfl
theorem q1090 : Cond.instanceMethod yX10_falseAlarms ∈ AW := aw_in 1090 (by decide +kernel) rfl
theorem q1091 : Cond.selects RX10 yX10_falseAlarms yX10_falseAlarms ∈ AW := aw_in 1091 (by decide +kernel) rfl
theorem q1092 : Cond.code yX10_falseAlarms cX10_falseAlarms 5 (some .int) ∈ AW := aw_in 1092 (by decide +kernel) rfl
theorem q1093 : Cond.methodLink RL 183 yX10_averageDelay ∈ AW := aw_in 1093 (by decide +kernel) rfl
theorem q1094 : Cond.instanceMethod yX10_averageDelay ∈ AW := aw_in 1094 (by decide +kernel) rfl
theorem q1095 : Cond.selects RX10 yX10_averageDelay yX10_averageDelay ∈ AW := aw_in 1095 (by decide +kernel) rfl
theorem q1096 : Cond.code yX10_averageDelay cX10_averageDelay 4 (some .float) ∈ AW := aw_in 1096 (by decide +kernel) rfl
theorem q1097 : Cond.arrayClass .long ∈ AW := aw_in 1097 (by decide +kernel) rfl
theorem q1098 : Cond.arrayClass .double ∈ AW := aw_in 1098 (by decide +kernel) rfl
theorem iwX0 : ∀ w ∈ u_ws RX0 TX0 4, w ∈ AW := by
  intro w hw
  obtain ⟨k, hk, rfl⟩ := List.mem_map.mp hw
  have hk := List.mem_range.mp hk
  match k, hk with
  | 0, _ => exact q84
  | 1, _ => exact q86
  | 2, _ => exact q88
  | 3, _ => exact q90
  | k + 4, h => exact absurd h (by omega)
theorem iwX1 : ∀ w ∈ u_ws RX1 TX1 3, w ∈ AW := by
  intro w hw
  obtain ⟨k, hk, rfl⟩ := List.mem_map.mp hw
  have hk := List.mem_range.mp hk
  match k, hk with
  | 0, _ => exact q215
  | 1, _ => exact q217
  | 2, _ => exact q219
  | k + 3, h => exact absurd h (by omega)
theorem iwX10 : ∀ w ∈ u_ws RX10 TX10 34, w ∈ AW := by
  intro w hw
  obtain ⟨k, hk, rfl⟩ := List.mem_map.mp hw
  have hk := List.mem_range.mp hk
  match k, hk with
  | 0, _ => exact q826
  | 1, _ => exact q828
  | 2, _ => exact q830
  | 3, _ => exact q832
  | 4, _ => exact q834
  | 5, _ => exact q836
  | 6, _ => exact q838
  | 7, _ => exact q840
  | 8, _ => exact q842
  | 9, _ => exact q844
  | 10, _ => exact q846
  | 11, _ => exact q848
  | 12, _ => exact q850
  | 13, _ => exact q852
  | 14, _ => exact q854
  | 15, _ => exact q856
  | 16, _ => exact q858
  | 17, _ => exact q860
  | 18, _ => exact q862
  | 19, _ => exact q864
  | 20, _ => exact q866
  | 21, _ => exact q868
  | 22, _ => exact q870
  | 23, _ => exact q872
  | 24, _ => exact q874
  | 25, _ => exact q876
  | 26, _ => exact q878
  | 27, _ => exact q880
  | 28, _ => exact q882
  | 29, _ => exact q884
  | 30, _ => exact q886
  | 31, _ => exact q888
  | 32, _ => exact q890
  | 33, _ => exact q892
  | k + 34, h => exact absurd h (by omega)
theorem iwX2 : ∀ w ∈ u_ws RX2 TX2 7, w ∈ AW := by
  intro w hw
  obtain ⟨k, hk, rfl⟩ := List.mem_map.mp hw
  have hk := List.mem_range.mp hk
  match k, hk with
  | 0, _ => exact q117
  | 1, _ => exact q119
  | 2, _ => exact q121
  | 3, _ => exact q123
  | 4, _ => exact q125
  | 5, _ => exact q127
  | 6, _ => exact q129
  | k + 7, h => exact absurd h (by omega)
theorem iwX3 : ∀ w ∈ u_ws RX3 TX3 4, w ∈ AW := by
  intro w hw
  obtain ⟨k, hk, rfl⟩ := List.mem_map.mp hw
  have hk := List.mem_range.mp hk
  match k, hk with
  | 0, _ => exact q235
  | 1, _ => exact q237
  | 2, _ => exact q239
  | 3, _ => exact q241
  | k + 4, h => exact absurd h (by omega)
theorem iwX5 : ∀ w ∈ u_ws RX5 TX5 2, w ∈ AW := by
  intro w hw
  obtain ⟨k, hk, rfl⟩ := List.mem_map.mp hw
  have hk := List.mem_range.mp hk
  match k, hk with
  | 0, _ => exact q201
  | 1, _ => exact q203
  | k + 2, h => exact absurd h (by omega)
theorem iwX6 : ∀ w ∈ u_ws RX6 TX6 8, w ∈ AW := by
  intro w hw
  obtain ⟨k, hk, rfl⟩ := List.mem_map.mp hw
  have hk := List.mem_range.mp hk
  match k, hk with
  | 0, _ => exact q156
  | 1, _ => exact q158
  | 2, _ => exact q160
  | 3, _ => exact q162
  | 4, _ => exact q164
  | 5, _ => exact q166
  | 6, _ => exact q168
  | 7, _ => exact q170
  | k + 8, h => exact absurd h (by omega)
theorem iwX7 : ∀ w ∈ u_ws RX7 TX7 3, w ∈ AW := by
  intro w hw
  obtain ⟨k, hk, rfl⟩ := List.mem_map.mp hw
  have hk := List.mem_range.mp hk
  match k, hk with
  | 0, _ => exact q185
  | 1, _ => exact q187
  | 2, _ => exact q189
  | k + 3, h => exact absurd h (by omega)
theorem iwX8 : ∀ w ∈ u_ws RX8 TX8 5, w ∈ AW := by
  intro w hw
  obtain ⟨k, hk, rfl⟩ := List.mem_map.mp hw
  have hk := List.mem_range.mp hk
  match k, hk with
  | 0, _ => exact q260
  | 1, _ => exact q262
  | 2, _ => exact q264
  | 3, _ => exact q266
  | 4, _ => exact q268
  | k + 5, h => exact absurd h (by omega)
theorem iwX9 : ∀ w ∈ u_ws RX9 TX9 12, w ∈ AW := by
  intro w hw
  obtain ⟨k, hk, rfl⟩ := List.mem_map.mp hw
  have hk := List.mem_range.mp hk
  match k, hk with
  | 0, _ => exact q283
  | 1, _ => exact q285
  | 2, _ => exact q287
  | 3, _ => exact q289
  | 4, _ => exact q291
  | 5, _ => exact q293
  | 6, _ => exact q295
  | 7, _ => exact q297
  | 8, _ => exact q299
  | 9, _ => exact q301
  | 10, _ => exact q303
  | 11, _ => exact q305
  | k + 12, h => exact absurd h (by omega)
theorem hd_J9_floorDiv_7cf53 : yJ9_floorDiv_7cf53.cls = RJ9 ∧ yJ9_floorDiv_7cf53.cls ≠ "java/lang/invoke/MethodHandle" ∧ yJ9_floorDiv_7cf53.cls ≠ "java/lang/invoke/VarHandle" ∧ (parseMethodDescriptor yJ9_floorDiv_7cf53.desc).map (fun d => d.parameters.length) = some 2 := by decide +kernel
theorem hd_J9_max_7cf53 : yJ9_max_7cf53.cls = RJ9 ∧ yJ9_max_7cf53.cls ≠ "java/lang/invoke/MethodHandle" ∧ yJ9_max_7cf53.cls ≠ "java/lang/invoke/VarHandle" ∧ (parseMethodDescriptor yJ9_max_7cf53.desc).map (fun d => d.parameters.length) = some 2 := by decide +kernel
theorem hd_J9_min_7cf53 : yJ9_min_7cf53.cls = RJ9 ∧ yJ9_min_7cf53.cls ≠ "java/lang/invoke/MethodHandle" ∧ yJ9_min_7cf53.cls ≠ "java/lang/invoke/VarHandle" ∧ (parseMethodDescriptor yJ9_min_7cf53.desc).map (fun d => d.parameters.length) = some 2 := by decide +kernel
theorem hd_X0_has : yX0_has.cls = RX0 ∧ yX0_has.cls ≠ "java/lang/invoke/MethodHandle" ∧ yX0_has.cls ≠ "java/lang/invoke/VarHandle" ∧ (parseMethodDescriptor yX0_has.desc).map (fun d => d.parameters.length) = some 1 := by decide +kernel
theorem hd_X0_init : yX0_init.cls = RX0 ∧ yX0_init.cls ≠ "java/lang/invoke/MethodHandle" ∧ yX0_init.cls ≠ "java/lang/invoke/VarHandle" ∧ (parseMethodDescriptor yX0_init.desc).map (fun d => d.parameters.length) = some 0 := by decide +kernel
theorem hd_X0_raise : yX0_raise.cls = RX0 ∧ yX0_raise.cls ≠ "java/lang/invoke/MethodHandle" ∧ yX0_raise.cls ≠ "java/lang/invoke/VarHandle" ∧ (parseMethodDescriptor yX0_raise.desc).map (fun d => d.parameters.length) = some 3 := by decide +kernel
theorem hd_X0_removeAll : yX0_removeAll.cls = RX0 ∧ yX0_removeAll.cls ≠ "java/lang/invoke/MethodHandle" ∧ yX0_removeAll.cls ≠ "java/lang/invoke/VarHandle" ∧ (parseMethodDescriptor yX0_removeAll.desc).map (fun d => d.parameters.length) = some 0 := by decide +kernel
theorem hd_X10_add : yX10_add.cls = RX10 ∧ yX10_add.cls ≠ "java/lang/invoke/MethodHandle" ∧ yX10_add.cls ≠ "java/lang/invoke/VarHandle" ∧ (parseMethodDescriptor yX10_add.desc).map (fun d => d.parameters.length) = some 1 := by decide +kernel
theorem hd_X10_addRun : yX10_addRun.cls = RX10 ∧ yX10_addRun.cls ≠ "java/lang/invoke/MethodHandle" ∧ yX10_addRun.cls ≠ "java/lang/invoke/VarHandle" ∧ (parseMethodDescriptor yX10_addRun.desc).map (fun d => d.parameters.length) = some 3 := by decide +kernel
theorem hd_X10_alarmKind : yX10_alarmKind.cls = RX10 ∧ yX10_alarmKind.cls ≠ "java/lang/invoke/MethodHandle" ∧ yX10_alarmKind.cls ≠ "java/lang/invoke/VarHandle" ∧ (parseMethodDescriptor yX10_alarmKind.desc).map (fun d => d.parameters.length) = some 1 := by decide +kernel
theorem hd_X10_alarmNumber : yX10_alarmNumber.cls = RX10 ∧ yX10_alarmNumber.cls ≠ "java/lang/invoke/MethodHandle" ∧ yX10_alarmNumber.cls ≠ "java/lang/invoke/VarHandle" ∧ (parseMethodDescriptor yX10_alarmNumber.desc).map (fun d => d.parameters.length) = some 1 := by decide +kernel
theorem hd_X10_alarmStart : yX10_alarmStart.cls = RX10 ∧ yX10_alarmStart.cls ≠ "java/lang/invoke/MethodHandle" ∧ yX10_alarmStart.cls ≠ "java/lang/invoke/VarHandle" ∧ (parseMethodDescriptor yX10_alarmStart.desc).map (fun d => d.parameters.length) = some 1 := by decide +kernel
theorem hd_X10_alarms : yX10_alarms.cls = RX10 ∧ yX10_alarms.cls ≠ "java/lang/invoke/MethodHandle" ∧ yX10_alarms.cls ≠ "java/lang/invoke/VarHandle" ∧ (parseMethodDescriptor yX10_alarms.desc).map (fun d => d.parameters.length) = some 0 := by decide +kernel
theorem hd_X10_averageDelay : yX10_averageDelay.cls = RX10 ∧ yX10_averageDelay.cls ≠ "java/lang/invoke/MethodHandle" ∧ yX10_averageDelay.cls ≠ "java/lang/invoke/VarHandle" ∧ (parseMethodDescriptor yX10_averageDelay.desc).map (fun d => d.parameters.length) = some 2 := by decide +kernel
theorem hd_X10_bestCost : yX10_bestCost.cls = RX10 ∧ yX10_bestCost.cls ≠ "java/lang/invoke/MethodHandle" ∧ yX10_bestCost.cls ≠ "java/lang/invoke/VarHandle" ∧ (parseMethodDescriptor yX10_bestCost.desc).map (fun d => d.parameters.length) = some 0 := by decide +kernel
theorem hd_X10_change : yX10_change.cls = RX10 ∧ yX10_change.cls ≠ "java/lang/invoke/MethodHandle" ∧ yX10_change.cls ≠ "java/lang/invoke/VarHandle" ∧ (parseMethodDescriptor yX10_change.desc).map (fun d => d.parameters.length) = some 1 := by decide +kernel
theorem hd_X10_changes : yX10_changes.cls = RX10 ∧ yX10_changes.cls ≠ "java/lang/invoke/MethodHandle" ∧ yX10_changes.cls ≠ "java/lang/invoke/VarHandle" ∧ (parseMethodDescriptor yX10_changes.desc).map (fun d => d.parameters.length) = some 0 := by decide +kernel
theorem hd_X10_clear : yX10_clear.cls = RX10 ∧ yX10_clear.cls ≠ "java/lang/invoke/MethodHandle" ∧ yX10_clear.cls ≠ "java/lang/invoke/VarHandle" ∧ (parseMethodDescriptor yX10_clear.desc).map (fun d => d.parameters.length) = some 0 := by decide +kernel
theorem hd_X10_cost : yX10_cost.cls = RX10 ∧ yX10_cost.cls ≠ "java/lang/invoke/MethodHandle" ∧ yX10_cost.cls ≠ "java/lang/invoke/VarHandle" ∧ (parseMethodDescriptor yX10_cost.desc).map (fun d => d.parameters.length) = some 2 := by decide +kernel
theorem hd_X10_cut : yX10_cut.cls = RX10 ∧ yX10_cut.cls ≠ "java/lang/invoke/MethodHandle" ∧ yX10_cut.cls ≠ "java/lang/invoke/VarHandle" ∧ (parseMethodDescriptor yX10_cut.desc).map (fun d => d.parameters.length) = some 1 := by decide +kernel
theorem hd_X10_cuts : yX10_cuts.cls = RX10 ∧ yX10_cuts.cls ≠ "java/lang/invoke/MethodHandle" ∧ yX10_cuts.cls ≠ "java/lang/invoke/VarHandle" ∧ (parseMethodDescriptor yX10_cuts.desc).map (fun d => d.parameters.length) = some 0 := by decide +kernel
theorem hd_X10_cutsGreedily : yX10_cutsGreedily.cls = RX10 ∧ yX10_cutsGreedily.cls ≠ "java/lang/invoke/MethodHandle" ∧ yX10_cutsGreedily.cls ≠ "java/lang/invoke/VarHandle" ∧ (parseMethodDescriptor yX10_cutsGreedily.desc).map (fun d => d.parameters.length) = some 0 := by decide +kernel
theorem hd_X10_fails : yX10_fails.cls = RX10 ∧ yX10_fails.cls ≠ "java/lang/invoke/MethodHandle" ∧ yX10_fails.cls ≠ "java/lang/invoke/VarHandle" ∧ (parseMethodDescriptor yX10_fails.desc).map (fun d => d.parameters.length) = some 1 := by decide +kernel
theorem hd_X10_falseAlarms : yX10_falseAlarms.cls = RX10 ∧ yX10_falseAlarms.cls ≠ "java/lang/invoke/MethodHandle" ∧ yX10_falseAlarms.cls ≠ "java/lang/invoke/VarHandle" ∧ (parseMethodDescriptor yX10_falseAlarms.desc).map (fun d => d.parameters.length) = some 2 := by decide +kernel
theorem hd_X10_floor : yX10_floor.cls = RX10 ∧ yX10_floor.cls ≠ "java/lang/invoke/MethodHandle" ∧ yX10_floor.cls ≠ "java/lang/invoke/VarHandle" ∧ (parseMethodDescriptor yX10_floor.desc).map (fun d => d.parameters.length) = some 2 := by decide +kernel
theorem hd_X10_greedyChange : yX10_greedyChange.cls = RX10 ∧ yX10_greedyChange.cls ≠ "java/lang/invoke/MethodHandle" ∧ yX10_greedyChange.cls ≠ "java/lang/invoke/VarHandle" ∧ (parseMethodDescriptor yX10_greedyChange.desc).map (fun d => d.parameters.length) = some 1 := by decide +kernel
theorem hd_X10_greedyChanges : yX10_greedyChanges.cls = RX10 ∧ yX10_greedyChanges.cls ≠ "java/lang/invoke/MethodHandle" ∧ yX10_greedyChanges.cls ≠ "java/lang/invoke/VarHandle" ∧ (parseMethodDescriptor yX10_greedyChanges.desc).map (fun d => d.parameters.length) = some 0 := by decide +kernel
theorem hd_X10_greedyCost : yX10_greedyCost.cls = RX10 ∧ yX10_greedyCost.cls ≠ "java/lang/invoke/MethodHandle" ∧ yX10_greedyCost.cls ≠ "java/lang/invoke/VarHandle" ∧ (parseMethodDescriptor yX10_greedyCost.desc).map (fun d => d.parameters.length) = some 0 := by decide +kernel
theorem hd_X10_highSum : yX10_highSum.cls = RX10 ∧ yX10_highSum.cls ≠ "java/lang/invoke/MethodHandle" ∧ yX10_highSum.cls ≠ "java/lang/invoke/VarHandle" ∧ (parseMethodDescriptor yX10_highSum.desc).map (fun d => d.parameters.length) = some 0 := by decide +kernel
theorem hd_X10_init : yX10_init.cls = RX10 ∧ yX10_init.cls ≠ "java/lang/invoke/MethodHandle" ∧ yX10_init.cls ≠ "java/lang/invoke/VarHandle" ∧ (parseMethodDescriptor yX10_init.desc).map (fun d => d.parameters.length) = some 0 := by decide +kernel
theorem hd_X10_isIn : yX10_isIn.cls = RX10 ∧ yX10_isIn.cls ≠ "java/lang/invoke/MethodHandle" ∧ yX10_isIn.cls ≠ "java/lang/invoke/VarHandle" ∧ (parseMethodDescriptor yX10_isIn.desc).map (fun d => d.parameters.length) = some 3 := by decide +kernel
theorem hd_X10_isNoWindow : yX10_isNoWindow.cls = RX10 ∧ yX10_isNoWindow.cls ≠ "java/lang/invoke/MethodHandle" ∧ yX10_isNoWindow.cls ≠ "java/lang/invoke/VarHandle" ∧ (parseMethodDescriptor yX10_isNoWindow.desc).map (fun d => d.parameters.length) = some 2 := by decide +kernel
theorem hd_X10_isSegment : yX10_isSegment.cls = RX10 ∧ yX10_isSegment.cls ≠ "java/lang/invoke/MethodHandle" ∧ yX10_isSegment.cls ≠ "java/lang/invoke/VarHandle" ∧ (parseMethodDescriptor yX10_isSegment.desc).map (fun d => d.parameters.length) = some 2 := by decide +kernel
theorem hd_X10_isValue : yX10_isValue.cls = RX10 ∧ yX10_isValue.cls ≠ "java/lang/invoke/MethodHandle" ∧ yX10_isValue.cls ≠ "java/lang/invoke/VarHandle" ∧ (parseMethodDescriptor yX10_isValue.desc).map (fun d => d.parameters.length) = some 1 := by decide +kernel
theorem hd_X10_leastCost : yX10_leastCost.cls = RX10 ∧ yX10_leastCost.cls ≠ "java/lang/invoke/MethodHandle" ∧ yX10_leastCost.cls ≠ "java/lang/invoke/VarHandle" ∧ (parseMethodDescriptor yX10_leastCost.desc).map (fun d => d.parameters.length) = some 1 := by decide +kernel
theorem hd_X10_lowSum : yX10_lowSum.cls = RX10 ∧ yX10_lowSum.cls ≠ "java/lang/invoke/MethodHandle" ∧ yX10_lowSum.cls ≠ "java/lang/invoke/VarHandle" ∧ (parseMethodDescriptor yX10_lowSum.desc).map (fun d => d.parameters.length) = some 0 := by decide +kernel
theorem hd_X10_matched : yX10_matched.cls = RX10 ∧ yX10_matched.cls ≠ "java/lang/invoke/MethodHandle" ∧ yX10_matched.cls ≠ "java/lang/invoke/VarHandle" ∧ (parseMethodDescriptor yX10_matched.desc).map (fun d => d.parameters.length) = some 2 := by decide +kernel
theorem hd_X10_matches : yX10_matches.cls = RX10 ∧ yX10_matches.cls ≠ "java/lang/invoke/MethodHandle" ∧ yX10_matches.cls ≠ "java/lang/invoke/VarHandle" ∧ (parseMethodDescriptor yX10_matches.desc).map (fun d => d.parameters.length) = some 2 := by decide +kernel
theorem hd_X10_middle : yX10_middle.cls = RX10 ∧ yX10_middle.cls ≠ "java/lang/invoke/MethodHandle" ∧ yX10_middle.cls ≠ "java/lang/invoke/VarHandle" ∧ (parseMethodDescriptor yX10_middle.desc).map (fun d => d.parameters.length) = some 2 := by decide +kernel
theorem hd_X10_next : yX10_next.cls = RX10 ∧ yX10_next.cls ≠ "java/lang/invoke/MethodHandle" ∧ yX10_next.cls ≠ "java/lang/invoke/VarHandle" ∧ (parseMethodDescriptor yX10_next.desc).map (fun d => d.parameters.length) = some 1 := by decide +kernel
theorem hd_X10_of : yX10_of.cls = RX10 ∧ yX10_of.cls ≠ "java/lang/invoke/MethodHandle" ∧ yX10_of.cls ≠ "java/lang/invoke/VarHandle" ∧ (parseMethodDescriptor yX10_of.desc).map (fun d => d.parameters.length) = some 2 := by decide +kernel
theorem hd_X10_ofAlarm : yX10_ofAlarm.cls = RX10 ∧ yX10_ofAlarm.cls ≠ "java/lang/invoke/MethodHandle" ∧ yX10_ofAlarm.cls ≠ "java/lang/invoke/VarHandle" ∧ (parseMethodDescriptor yX10_ofAlarm.desc).map (fun d => d.parameters.length) = some 2 := by decide +kernel
theorem hd_X10_puts : yX10_puts.cls = RX10 ∧ yX10_puts.cls ≠ "java/lang/invoke/MethodHandle" ∧ yX10_puts.cls ≠ "java/lang/invoke/VarHandle" ∧ (parseMethodDescriptor yX10_puts.desc).map (fun d => d.parameters.length) = some 1 := by decide +kernel
theorem hd_X10_raises : yX10_raises.cls = RX10 ∧ yX10_raises.cls ≠ "java/lang/invoke/MethodHandle" ∧ yX10_raises.cls ≠ "java/lang/invoke/VarHandle" ∧ (parseMethodDescriptor yX10_raises.desc).map (fun d => d.parameters.length) = some 2 := by decide +kernel
theorem hd_X10_restsSums : yX10_restsSums.cls = RX10 ∧ yX10_restsSums.cls ≠ "java/lang/invoke/MethodHandle" ∧ yX10_restsSums.cls ≠ "java/lang/invoke/VarHandle" ∧ (parseMethodDescriptor yX10_restsSums.desc).map (fun d => d.parameters.length) = some 0 := by decide +kernel
theorem hd_X10_restsTest : yX10_restsTest.cls = RX10 ∧ yX10_restsTest.cls ≠ "java/lang/invoke/MethodHandle" ∧ yX10_restsTest.cls ≠ "java/lang/invoke/VarHandle" ∧ (parseMethodDescriptor yX10_restsTest.desc).map (fun d => d.parameters.length) = some 0 := by decide +kernel
theorem hd_X10_setPenalty : yX10_setPenalty.cls = RX10 ∧ yX10_setPenalty.cls ≠ "java/lang/invoke/MethodHandle" ∧ yX10_setPenalty.cls ≠ "java/lang/invoke/VarHandle" ∧ (parseMethodDescriptor yX10_setPenalty.desc).map (fun d => d.parameters.length) = some 1 := by decide +kernel
theorem hd_X10_setSums : yX10_setSums.cls = RX10 ∧ yX10_setSums.cls ≠ "java/lang/invoke/MethodHandle" ∧ yX10_setSums.cls ≠ "java/lang/invoke/VarHandle" ∧ (parseMethodDescriptor yX10_setSums.desc).map (fun d => d.parameters.length) = some 3 := by decide +kernel
theorem hd_X10_setTest : yX10_setTest.cls = RX10 ∧ yX10_setTest.cls ≠ "java/lang/invoke/MethodHandle" ∧ yX10_setTest.cls ≠ "java/lang/invoke/VarHandle" ∧ (parseMethodDescriptor yX10_setTest.desc).map (fun d => d.parameters.length) = some 3 := by decide +kernel
theorem hd_X10_size : yX10_size.cls = RX10 ∧ yX10_size.cls ≠ "java/lang/invoke/MethodHandle" ∧ yX10_size.cls ≠ "java/lang/invoke/VarHandle" ∧ (parseMethodDescriptor yX10_size.desc).map (fun d => d.parameters.length) = some 0 := by decide +kernel
theorem hd_X10_sorts : yX10_sorts.cls = RX10 ∧ yX10_sorts.cls ≠ "java/lang/invoke/MethodHandle" ∧ yX10_sorts.cls ≠ "java/lang/invoke/VarHandle" ∧ (parseMethodDescriptor yX10_sorts.desc).map (fun d => d.parameters.length) = some 2 := by decide +kernel
theorem hd_X10_sums : yX10_sums.cls = RX10 ∧ yX10_sums.cls ≠ "java/lang/invoke/MethodHandle" ∧ yX10_sums.cls ≠ "java/lang/invoke/VarHandle" ∧ (parseMethodDescriptor yX10_sums.desc).map (fun d => d.parameters.length) = some 1 := by decide +kernel
theorem hd_X10_tells : yX10_tells.cls = RX10 ∧ yX10_tells.cls ≠ "java/lang/invoke/MethodHandle" ∧ yX10_tells.cls ≠ "java/lang/invoke/VarHandle" ∧ (parseMethodDescriptor yX10_tells.desc).map (fun d => d.parameters.length) = some 1 := by decide +kernel
theorem hd_X10_testSum : yX10_testSum.cls = RX10 ∧ yX10_testSum.cls ≠ "java/lang/invoke/MethodHandle" ∧ yX10_testSum.cls ≠ "java/lang/invoke/VarHandle" ∧ (parseMethodDescriptor yX10_testSum.desc).map (fun d => d.parameters.length) = some 0 := by decide +kernel
theorem hd_X10_tests : yX10_tests.cls = RX10 ∧ yX10_tests.cls ≠ "java/lang/invoke/MethodHandle" ∧ yX10_tests.cls ≠ "java/lang/invoke/VarHandle" ∧ (parseMethodDescriptor yX10_tests.desc).map (fun d => d.parameters.length) = some 1 := by decide +kernel
theorem hd_X10_thrown : yX10_thrown.cls = RX10 ∧ yX10_thrown.cls ≠ "java/lang/invoke/MethodHandle" ∧ yX10_thrown.cls ≠ "java/lang/invoke/VarHandle" ∧ (parseMethodDescriptor yX10_thrown.desc).map (fun d => d.parameters.length) = some 0 := by decide +kernel
theorem hd_X10_toggleTruth : yX10_toggleTruth.cls = RX10 ∧ yX10_toggleTruth.cls ≠ "java/lang/invoke/MethodHandle" ∧ yX10_toggleTruth.cls ≠ "java/lang/invoke/VarHandle" ∧ (parseMethodDescriptor yX10_toggleTruth.desc).map (fun d => d.parameters.length) = some 1 := by decide +kernel
theorem hd_X10_value : yX10_value.cls = RX10 ∧ yX10_value.cls ≠ "java/lang/invoke/MethodHandle" ∧ yX10_value.cls ≠ "java/lang/invoke/VarHandle" ∧ (parseMethodDescriptor yX10_value.desc).map (fun d => d.parameters.length) = some 1 := by decide +kernel
theorem hd_X10_weighs : yX10_weighs.cls = RX10 ∧ yX10_weighs.cls ≠ "java/lang/invoke/MethodHandle" ∧ yX10_weighs.cls ≠ "java/lang/invoke/VarHandle" ∧ (parseMethodDescriptor yX10_weighs.desc).map (fun d => d.parameters.length) = some 0 := by decide +kernel
theorem hd_X1_find : yX1_find.cls = RX1 ∧ yX1_find.cls ≠ "java/lang/invoke/MethodHandle" ∧ yX1_find.cls ≠ "java/lang/invoke/VarHandle" ∧ (parseMethodDescriptor yX1_find.desc).map (fun d => d.parameters.length) = some 4 := by decide +kernel
theorem hd_X1_findFrom : yX1_findFrom.cls = RX1 ∧ yX1_findFrom.cls ≠ "java/lang/invoke/MethodHandle" ∧ yX1_findFrom.cls ≠ "java/lang/invoke/VarHandle" ∧ (parseMethodDescriptor yX1_findFrom.desc).map (fun d => d.parameters.length) = some 4 := by decide +kernel
theorem hd_X1_init : yX1_init.cls = RX1 ∧ yX1_init.cls ≠ "java/lang/invoke/MethodHandle" ∧ yX1_init.cls ≠ "java/lang/invoke/VarHandle" ∧ (parseMethodDescriptor yX1_init.desc).map (fun d => d.parameters.length) = some 0 := by decide +kernel
theorem hd_X2_beginAnew : yX2_beginAnew.cls = RX2 ∧ yX2_beginAnew.cls ≠ "java/lang/invoke/MethodHandle" ∧ yX2_beginAnew.cls ≠ "java/lang/invoke/VarHandle" ∧ (parseMethodDescriptor yX2_beginAnew.desc).map (fun d => d.parameters.length) = some 0 := by decide +kernel
theorem hd_X2_init : yX2_init.cls = RX2 ∧ yX2_init.cls ≠ "java/lang/invoke/MethodHandle" ∧ yX2_init.cls ≠ "java/lang/invoke/VarHandle" ∧ (parseMethodDescriptor yX2_init.desc).map (fun d => d.parameters.length) = some 0 := by decide +kernel
theorem hd_X2_moveSums : yX2_moveSums.cls = RX2 ∧ yX2_moveSums.cls ≠ "java/lang/invoke/MethodHandle" ∧ yX2_moveSums.cls ≠ "java/lang/invoke/VarHandle" ∧ (parseMethodDescriptor yX2_moveSums.desc).map (fun d => d.parameters.length) = some 2 := by decide +kernel
theorem hd_X2_setUp : yX2_setUp.cls = RX2 ∧ yX2_setUp.cls ≠ "java/lang/invoke/MethodHandle" ∧ yX2_setUp.cls ≠ "java/lang/invoke/VarHandle" ∧ (parseMethodDescriptor yX2_setUp.desc).map (fun d => d.parameters.length) = some 3 := by decide +kernel
theorem hd_X2_watch : yX2_watch.cls = RX2 ∧ yX2_watch.cls ≠ "java/lang/invoke/MethodHandle" ∧ yX2_watch.cls ≠ "java/lang/invoke/VarHandle" ∧ (parseMethodDescriptor yX2_watch.desc).map (fun d => d.parameters.length) = some 3 := by decide +kernel
theorem hd_X3_cut : yX3_cut.cls = RX3 ∧ yX3_cut.cls ≠ "java/lang/invoke/MethodHandle" ∧ yX3_cut.cls ≠ "java/lang/invoke/VarHandle" ∧ (parseMethodDescriptor yX3_cut.desc).map (fun d => d.parameters.length) = some 1 := by decide +kernel
theorem hd_X3_endOfSegment : yX3_endOfSegment.cls = RX3 ∧ yX3_endOfSegment.cls ≠ "java/lang/invoke/MethodHandle" ∧ yX3_endOfSegment.cls ≠ "java/lang/invoke/VarHandle" ∧ (parseMethodDescriptor yX3_endOfSegment.desc).map (fun d => d.parameters.length) = some 2 := by decide +kernel
theorem hd_X3_has : yX3_has.cls = RX3 ∧ yX3_has.cls ≠ "java/lang/invoke/MethodHandle" ∧ yX3_has.cls ≠ "java/lang/invoke/VarHandle" ∧ (parseMethodDescriptor yX3_has.desc).map (fun d => d.parameters.length) = some 1 := by decide +kernel
theorem hd_X3_init : yX3_init.cls = RX3 ∧ yX3_init.cls ≠ "java/lang/invoke/MethodHandle" ∧ yX3_init.cls ≠ "java/lang/invoke/VarHandle" ∧ (parseMethodDescriptor yX3_init.desc).map (fun d => d.parameters.length) = some 0 := by decide +kernel
theorem hd_X3_join : yX3_join.cls = RX3 ∧ yX3_join.cls ≠ "java/lang/invoke/MethodHandle" ∧ yX3_join.cls ≠ "java/lang/invoke/VarHandle" ∧ (parseMethodDescriptor yX3_join.desc).map (fun d => d.parameters.length) = some 0 := by decide +kernel
theorem hd_X3_numberAt : yX3_numberAt.cls = RX3 ∧ yX3_numberAt.cls ≠ "java/lang/invoke/MethodHandle" ∧ yX3_numberAt.cls ≠ "java/lang/invoke/VarHandle" ∧ (parseMethodDescriptor yX3_numberAt.desc).map (fun d => d.parameters.length) = some 1 := by decide +kernel
theorem hd_X3_settle : yX3_settle.cls = RX3 ∧ yX3_settle.cls ≠ "java/lang/invoke/MethodHandle" ∧ yX3_settle.cls ≠ "java/lang/invoke/VarHandle" ∧ (parseMethodDescriptor yX3_settle.desc).map (fun d => d.parameters.length) = some 3 := by decide +kernel
theorem hd_X4_find : yX4_find.cls = RX4 ∧ yX4_find.cls ≠ "java/lang/invoke/MethodHandle" ∧ yX4_find.cls ≠ "java/lang/invoke/VarHandle" ∧ (parseMethodDescriptor yX4_find.desc).map (fun d => d.parameters.length) = some 4 := by decide +kernel
theorem hd_X4_numberOfGreatestGain : yX4_numberOfGreatestGain.cls = RX4 ∧ yX4_numberOfGreatestGain.cls ≠ "java/lang/invoke/MethodHandle" ∧ yX4_numberOfGreatestGain.cls ≠ "java/lang/invoke/VarHandle" ∧ (parseMethodDescriptor yX4_numberOfGreatestGain.desc).map (fun d => d.parameters.length) = some 4 := by decide +kernel
theorem hd_X5_forget : yX5_forget.cls = RX5 ∧ yX5_forget.cls ≠ "java/lang/invoke/MethodHandle" ∧ yX5_forget.cls ≠ "java/lang/invoke/VarHandle" ∧ (parseMethodDescriptor yX5_forget.desc).map (fun d => d.parameters.length) = some 0 := by decide +kernel
theorem hd_X5_init : yX5_init.cls = RX5 ∧ yX5_init.cls ≠ "java/lang/invoke/MethodHandle" ∧ yX5_init.cls ≠ "java/lang/invoke/VarHandle" ∧ (parseMethodDescriptor yX5_init.desc).map (fun d => d.parameters.length) = some 0 := by decide +kernel
theorem hd_X5_learn : yX5_learn.cls = RX5 ∧ yX5_learn.cls ≠ "java/lang/invoke/MethodHandle" ∧ yX5_learn.cls ≠ "java/lang/invoke/VarHandle" ∧ (parseMethodDescriptor yX5_learn.desc).map (fun d => d.parameters.length) = some 2 := by decide +kernel
theorem hd_X5_learnCuttingsTo : yX5_learnCuttingsTo.cls = RX5 ∧ yX5_learnCuttingsTo.cls ≠ "java/lang/invoke/MethodHandle" ∧ yX5_learnCuttingsTo.cls ≠ "java/lang/invoke/VarHandle" ∧ (parseMethodDescriptor yX5_learnCuttingsTo.desc).map (fun d => d.parameters.length) = some 2 := by decide +kernel
theorem hd_X5_leastWithLastSegment : yX5_leastWithLastSegment.cls = RX5 ∧ yX5_leastWithLastSegment.cls ≠ "java/lang/invoke/MethodHandle" ∧ yX5_leastWithLastSegment.cls ≠ "java/lang/invoke/VarHandle" ∧ (parseMethodDescriptor yX5_leastWithLastSegment.desc).map (fun d => d.parameters.length) = some 3 := by decide +kernel
theorem hd_X5_of : yX5_of.cls = RX5 ∧ yX5_of.cls ≠ "java/lang/invoke/MethodHandle" ∧ yX5_of.cls ≠ "java/lang/invoke/VarHandle" ∧ (parseMethodDescriptor yX5_of.desc).map (fun d => d.parameters.length) = some 2 := by decide +kernel
theorem hd_X6_beginAnew : yX6_beginAnew.cls = RX6 ∧ yX6_beginAnew.cls ≠ "java/lang/invoke/MethodHandle" ∧ yX6_beginAnew.cls ≠ "java/lang/invoke/VarHandle" ∧ (parseMethodDescriptor yX6_beginAnew.desc).map (fun d => d.parameters.length) = some 0 := by decide +kernel
theorem hd_X6_init : yX6_init.cls = RX6 ∧ yX6_init.cls ≠ "java/lang/invoke/MethodHandle" ∧ yX6_init.cls ≠ "java/lang/invoke/VarHandle" ∧ (parseMethodDescriptor yX6_init.desc).map (fun d => d.parameters.length) = some 0 := by decide +kernel
theorem hd_X6_mean : yX6_mean.cls = RX6 ∧ yX6_mean.cls ≠ "java/lang/invoke/MethodHandle" ∧ yX6_mean.cls ≠ "java/lang/invoke/VarHandle" ∧ (parseMethodDescriptor yX6_mean.desc).map (fun d => d.parameters.length) = some 0 := by decide +kernel
theorem hd_X6_moveSum : yX6_moveSum.cls = RX6 ∧ yX6_moveSum.cls ≠ "java/lang/invoke/MethodHandle" ∧ yX6_moveSum.cls ≠ "java/lang/invoke/VarHandle" ∧ (parseMethodDescriptor yX6_moveSum.desc).map (fun d => d.parameters.length) = some 2 := by decide +kernel
theorem hd_X6_setUp : yX6_setUp.cls = RX6 ∧ yX6_setUp.cls ≠ "java/lang/invoke/MethodHandle" ∧ yX6_setUp.cls ≠ "java/lang/invoke/VarHandle" ∧ (parseMethodDescriptor yX6_setUp.desc).map (fun d => d.parameters.length) = some 3 := by decide +kernel
theorem hd_X6_startOfGrowth : yX6_startOfGrowth.cls = RX6 ∧ yX6_startOfGrowth.cls ≠ "java/lang/invoke/MethodHandle" ∧ yX6_startOfGrowth.cls ≠ "java/lang/invoke/VarHandle" ∧ (parseMethodDescriptor yX6_startOfGrowth.desc).map (fun d => d.parameters.length) = some 1 := by decide +kernel
theorem hd_X6_watch : yX6_watch.cls = RX6 ∧ yX6_watch.cls ≠ "java/lang/invoke/MethodHandle" ∧ yX6_watch.cls ≠ "java/lang/invoke/VarHandle" ∧ (parseMethodDescriptor yX6_watch.desc).map (fun d => d.parameters.length) = some 3 := by decide +kernel
theorem hd_X7_distanceFromMiddles : yX7_distanceFromMiddles.cls = RX7 ∧ yX7_distanceFromMiddles.cls ≠ "java/lang/invoke/MethodHandle" ∧ yX7_distanceFromMiddles.cls ≠ "java/lang/invoke/VarHandle" ∧ (parseMethodDescriptor yX7_distanceFromMiddles.desc).map (fun d => d.parameters.length) = some 2 := by decide +kernel
theorem hd_X7_forget : yX7_forget.cls = RX7 ∧ yX7_forget.cls ≠ "java/lang/invoke/MethodHandle" ∧ yX7_forget.cls ≠ "java/lang/invoke/VarHandle" ∧ (parseMethodDescriptor yX7_forget.desc).map (fun d => d.parameters.length) = some 0 := by decide +kernel
theorem hd_X7_init : yX7_init.cls = RX7 ∧ yX7_init.cls ≠ "java/lang/invoke/MethodHandle" ∧ yX7_init.cls ≠ "java/lang/invoke/VarHandle" ∧ (parseMethodDescriptor yX7_init.desc).map (fun d => d.parameters.length) = some 0 := by decide +kernel
theorem hd_X7_learn : yX7_learn.cls = RX7 ∧ yX7_learn.cls ≠ "java/lang/invoke/MethodHandle" ∧ yX7_learn.cls ≠ "java/lang/invoke/VarHandle" ∧ (parseMethodDescriptor yX7_learn.desc).map (fun d => d.parameters.length) = some 2 := by decide +kernel
theorem hd_X7_learnSegmentsTo : yX7_learnSegmentsTo.cls = RX7 ∧ yX7_learnSegmentsTo.cls ≠ "java/lang/invoke/MethodHandle" ∧ yX7_learnSegmentsTo.cls ≠ "java/lang/invoke/VarHandle" ∧ (parseMethodDescriptor yX7_learnSegmentsTo.desc).map (fun d => d.parameters.length) = some 2 := by decide +kernel
theorem hd_X7_middleOf : yX7_middleOf.cls = RX7 ∧ yX7_middleOf.cls ≠ "java/lang/invoke/MethodHandle" ∧ yX7_middleOf.cls ≠ "java/lang/invoke/VarHandle" ∧ (parseMethodDescriptor yX7_middleOf.desc).map (fun d => d.parameters.length) = some 3 := by decide +kernel
theorem hd_X7_of : yX7_of.cls = RX7 ∧ yX7_of.cls ≠ "java/lang/invoke/MethodHandle" ∧ yX7_of.cls ≠ "java/lang/invoke/VarHandle" ∧ (parseMethodDescriptor yX7_of.desc).map (fun d => d.parameters.length) = some 2 := by decide +kernel
theorem hd_X7_sortIn : yX7_sortIn.cls = RX7 ∧ yX7_sortIn.cls ≠ "java/lang/invoke/MethodHandle" ∧ yX7_sortIn.cls ≠ "java/lang/invoke/VarHandle" ∧ (parseMethodDescriptor yX7_sortIn.desc).map (fun d => d.parameters.length) = some 2 := by decide +kernel
theorem hd_X7_triangle : yX7_triangle.cls = RX7 ∧ yX7_triangle.cls ≠ "java/lang/invoke/MethodHandle" ∧ yX7_triangle.cls ≠ "java/lang/invoke/VarHandle" ∧ (parseMethodDescriptor yX7_triangle.desc).map (fun d => d.parameters.length) = some 1 := by decide +kernel
theorem hd_X8_beginMatching : yX8_beginMatching.cls = RX8 ∧ yX8_beginMatching.cls ≠ "java/lang/invoke/MethodHandle" ∧ yX8_beginMatching.cls ≠ "java/lang/invoke/VarHandle" ∧ (parseMethodDescriptor yX8_beginMatching.desc).map (fun d => d.parameters.length) = some 0 := by decide +kernel
theorem hd_X8_init : yX8_init.cls = RX8 ∧ yX8_init.cls ≠ "java/lang/invoke/MethodHandle" ∧ yX8_init.cls ≠ "java/lang/invoke/VarHandle" ∧ (parseMethodDescriptor yX8_init.desc).map (fun d => d.parameters.length) = some 0 := by decide +kernel
theorem hd_X8_match : yX8_match.cls = RX8 ∧ yX8_match.cls ≠ "java/lang/invoke/MethodHandle" ∧ yX8_match.cls ≠ "java/lang/invoke/VarHandle" ∧ (parseMethodDescriptor yX8_match.desc).map (fun d => d.parameters.length) = some 3 := by decide +kernel
theorem hd_X8_matchAlarm : yX8_matchAlarm.cls = RX8 ∧ yX8_matchAlarm.cls ≠ "java/lang/invoke/MethodHandle" ∧ yX8_matchAlarm.cls ≠ "java/lang/invoke/VarHandle" ∧ (parseMethodDescriptor yX8_matchAlarm.desc).map (fun d => d.parameters.length) = some 2 := by decide +kernel
theorem hd_X8_removeMarks : yX8_removeMarks.cls = RX8 ∧ yX8_removeMarks.cls ≠ "java/lang/invoke/MethodHandle" ∧ yX8_removeMarks.cls ≠ "java/lang/invoke/VarHandle" ∧ (parseMethodDescriptor yX8_removeMarks.desc).map (fun d => d.parameters.length) = some 0 := by decide +kernel
theorem hd_X9_add : yX9_add.cls = RX9 ∧ yX9_add.cls ≠ "java/lang/invoke/MethodHandle" ∧ yX9_add.cls ≠ "java/lang/invoke/VarHandle" ∧ (parseMethodDescriptor yX9_add.desc).map (fun d => d.parameters.length) = some 1 := by decide +kernel
theorem hd_X9_addRun : yX9_addRun.cls = RX9 ∧ yX9_addRun.cls ≠ "java/lang/invoke/MethodHandle" ∧ yX9_addRun.cls ≠ "java/lang/invoke/VarHandle" ∧ (parseMethodDescriptor yX9_addRun.desc).map (fun d => d.parameters.length) = some 3 := by decide +kernel
theorem hd_X9_alarmKind : yX9_alarmKind.cls = RX9 ∧ yX9_alarmKind.cls ≠ "java/lang/invoke/MethodHandle" ∧ yX9_alarmKind.cls ≠ "java/lang/invoke/VarHandle" ∧ (parseMethodDescriptor yX9_alarmKind.desc).map (fun d => d.parameters.length) = some 1 := by decide +kernel
theorem hd_X9_alarmNumber : yX9_alarmNumber.cls = RX9 ∧ yX9_alarmNumber.cls ≠ "java/lang/invoke/MethodHandle" ∧ yX9_alarmNumber.cls ≠ "java/lang/invoke/VarHandle" ∧ (parseMethodDescriptor yX9_alarmNumber.desc).map (fun d => d.parameters.length) = some 1 := by decide +kernel
theorem hd_X9_alarmStart : yX9_alarmStart.cls = RX9 ∧ yX9_alarmStart.cls ≠ "java/lang/invoke/MethodHandle" ∧ yX9_alarmStart.cls ≠ "java/lang/invoke/VarHandle" ∧ (parseMethodDescriptor yX9_alarmStart.desc).map (fun d => d.parameters.length) = some 1 := by decide +kernel
theorem hd_X9_alarms : yX9_alarms.cls = RX9 ∧ yX9_alarms.cls ≠ "java/lang/invoke/MethodHandle" ∧ yX9_alarms.cls ≠ "java/lang/invoke/VarHandle" ∧ (parseMethodDescriptor yX9_alarms.desc).map (fun d => d.parameters.length) = some 0 := by decide +kernel
theorem hd_X9_averageDelay : yX9_averageDelay.cls = RX9 ∧ yX9_averageDelay.cls ≠ "java/lang/invoke/MethodHandle" ∧ yX9_averageDelay.cls ≠ "java/lang/invoke/VarHandle" ∧ (parseMethodDescriptor yX9_averageDelay.desc).map (fun d => d.parameters.length) = some 2 := by decide +kernel
theorem hd_X9_bestCost : yX9_bestCost.cls = RX9 ∧ yX9_bestCost.cls ≠ "java/lang/invoke/MethodHandle" ∧ yX9_bestCost.cls ≠ "java/lang/invoke/VarHandle" ∧ (parseMethodDescriptor yX9_bestCost.desc).map (fun d => d.parameters.length) = some 0 := by decide +kernel
theorem hd_X9_bestCutting : yX9_bestCutting.cls = RX9 ∧ yX9_bestCutting.cls ≠ "java/lang/invoke/MethodHandle" ∧ yX9_bestCutting.cls ≠ "java/lang/invoke/VarHandle" ∧ (parseMethodDescriptor yX9_bestCutting.desc).map (fun d => d.parameters.length) = some 0 := by decide +kernel
theorem hd_X9_change : yX9_change.cls = RX9 ∧ yX9_change.cls ≠ "java/lang/invoke/MethodHandle" ∧ yX9_change.cls ≠ "java/lang/invoke/VarHandle" ∧ (parseMethodDescriptor yX9_change.desc).map (fun d => d.parameters.length) = some 1 := by decide +kernel
theorem hd_X9_changes : yX9_changes.cls = RX9 ∧ yX9_changes.cls ≠ "java/lang/invoke/MethodHandle" ∧ yX9_changes.cls ≠ "java/lang/invoke/VarHandle" ∧ (parseMethodDescriptor yX9_changes.desc).map (fun d => d.parameters.length) = some 0 := by decide +kernel
theorem hd_X9_clear : yX9_clear.cls = RX9 ∧ yX9_clear.cls ≠ "java/lang/invoke/MethodHandle" ∧ yX9_clear.cls ≠ "java/lang/invoke/VarHandle" ∧ (parseMethodDescriptor yX9_clear.desc).map (fun d => d.parameters.length) = some 0 := by decide +kernel
theorem hd_X9_cost : yX9_cost.cls = RX9 ∧ yX9_cost.cls ≠ "java/lang/invoke/MethodHandle" ∧ yX9_cost.cls ≠ "java/lang/invoke/VarHandle" ∧ (parseMethodDescriptor yX9_cost.desc).map (fun d => d.parameters.length) = some 2 := by decide +kernel
theorem hd_X9_falseAlarms : yX9_falseAlarms.cls = RX9 ∧ yX9_falseAlarms.cls ≠ "java/lang/invoke/MethodHandle" ∧ yX9_falseAlarms.cls ≠ "java/lang/invoke/VarHandle" ∧ (parseMethodDescriptor yX9_falseAlarms.desc).map (fun d => d.parameters.length) = some 2 := by decide +kernel
theorem hd_X9_forgetCuttings : yX9_forgetCuttings.cls = RX9 ∧ yX9_forgetCuttings.cls ≠ "java/lang/invoke/MethodHandle" ∧ yX9_forgetCuttings.cls ≠ "java/lang/invoke/VarHandle" ∧ (parseMethodDescriptor yX9_forgetCuttings.desc).map (fun d => d.parameters.length) = some 0 := by decide +kernel
theorem hd_X9_greedyChange : yX9_greedyChange.cls = RX9 ∧ yX9_greedyChange.cls ≠ "java/lang/invoke/MethodHandle" ∧ yX9_greedyChange.cls ≠ "java/lang/invoke/VarHandle" ∧ (parseMethodDescriptor yX9_greedyChange.desc).map (fun d => d.parameters.length) = some 1 := by decide +kernel
theorem hd_X9_greedyChanges : yX9_greedyChanges.cls = RX9 ∧ yX9_greedyChanges.cls ≠ "java/lang/invoke/MethodHandle" ∧ yX9_greedyChanges.cls ≠ "java/lang/invoke/VarHandle" ∧ (parseMethodDescriptor yX9_greedyChanges.desc).map (fun d => d.parameters.length) = some 0 := by decide +kernel
theorem hd_X9_greedyCost : yX9_greedyCost.cls = RX9 ∧ yX9_greedyCost.cls ≠ "java/lang/invoke/MethodHandle" ∧ yX9_greedyCost.cls ≠ "java/lang/invoke/VarHandle" ∧ (parseMethodDescriptor yX9_greedyCost.desc).map (fun d => d.parameters.length) = some 0 := by decide +kernel
theorem hd_X9_greedyCutting : yX9_greedyCutting.cls = RX9 ∧ yX9_greedyCutting.cls ≠ "java/lang/invoke/MethodHandle" ∧ yX9_greedyCutting.cls ≠ "java/lang/invoke/VarHandle" ∧ (parseMethodDescriptor yX9_greedyCutting.desc).map (fun d => d.parameters.length) = some 0 := by decide +kernel
theorem hd_X9_highSum : yX9_highSum.cls = RX9 ∧ yX9_highSum.cls ≠ "java/lang/invoke/MethodHandle" ∧ yX9_highSum.cls ≠ "java/lang/invoke/VarHandle" ∧ (parseMethodDescriptor yX9_highSum.desc).map (fun d => d.parameters.length) = some 0 := by decide +kernel
theorem hd_X9_init : yX9_init.cls = RX9 ∧ yX9_init.cls ≠ "java/lang/invoke/MethodHandle" ∧ yX9_init.cls ≠ "java/lang/invoke/VarHandle" ∧ (parseMethodDescriptor yX9_init.desc).map (fun d => d.parameters.length) = some 0 := by decide +kernel
theorem hd_X9_isAmountFromZero : yX9_isAmountFromZero.cls = RX9 ∧ yX9_isAmountFromZero.cls ≠ "java/lang/invoke/MethodHandle" ∧ yX9_isAmountFromZero.cls ≠ "java/lang/invoke/VarHandle" ∧ (parseMethodDescriptor yX9_isAmountFromZero.desc).map (fun d => d.parameters.length) = some 1 := by decide +kernel
theorem hd_X9_isBetween : yX9_isBetween.cls = RX9 ∧ yX9_isBetween.cls ≠ "java/lang/invoke/MethodHandle" ∧ yX9_isBetween.cls ≠ "java/lang/invoke/VarHandle" ∧ (parseMethodDescriptor yX9_isBetween.desc).map (fun d => d.parameters.length) = some 3 := by decide +kernel
theorem hd_X9_isSegment : yX9_isSegment.cls = RX9 ∧ yX9_isSegment.cls ≠ "java/lang/invoke/MethodHandle" ∧ yX9_isSegment.cls ≠ "java/lang/invoke/VarHandle" ∧ (parseMethodDescriptor yX9_isSegment.desc).map (fun d => d.parameters.length) = some 2 := by decide +kernel
theorem hd_X9_isValueNumber : yX9_isValueNumber.cls = RX9 ∧ yX9_isValueNumber.cls ≠ "java/lang/invoke/MethodHandle" ∧ yX9_isValueNumber.cls ≠ "java/lang/invoke/VarHandle" ∧ (parseMethodDescriptor yX9_isValueNumber.desc).map (fun d => d.parameters.length) = some 1 := by decide +kernel
theorem hd_X9_learntCosts : yX9_learntCosts.cls = RX9 ∧ yX9_learntCosts.cls ≠ "java/lang/invoke/MethodHandle" ∧ yX9_learntCosts.cls ≠ "java/lang/invoke/VarHandle" ∧ (parseMethodDescriptor yX9_learntCosts.desc).map (fun d => d.parameters.length) = some 0 := by decide +kernel
theorem hd_X9_leastCost : yX9_leastCost.cls = RX9 ∧ yX9_leastCost.cls ≠ "java/lang/invoke/MethodHandle" ∧ yX9_leastCost.cls ≠ "java/lang/invoke/VarHandle" ∧ (parseMethodDescriptor yX9_leastCost.desc).map (fun d => d.parameters.length) = some 1 := by decide +kernel
theorem hd_X9_lowSum : yX9_lowSum.cls = RX9 ∧ yX9_lowSum.cls ≠ "java/lang/invoke/MethodHandle" ∧ yX9_lowSum.cls ≠ "java/lang/invoke/VarHandle" ∧ (parseMethodDescriptor yX9_lowSum.desc).map (fun d => d.parameters.length) = some 0 := by decide +kernel
theorem hd_X9_matchAlarms : yX9_matchAlarms.cls = RX9 ∧ yX9_matchAlarms.cls ≠ "java/lang/invoke/MethodHandle" ∧ yX9_matchAlarms.cls ≠ "java/lang/invoke/VarHandle" ∧ (parseMethodDescriptor yX9_matchAlarms.desc).map (fun d => d.parameters.length) = some 2 := by decide +kernel
theorem hd_X9_matched : yX9_matched.cls = RX9 ∧ yX9_matched.cls ≠ "java/lang/invoke/MethodHandle" ∧ yX9_matched.cls ≠ "java/lang/invoke/VarHandle" ∧ (parseMethodDescriptor yX9_matched.desc).map (fun d => d.parameters.length) = some 2 := by decide +kernel
theorem hd_X9_middle : yX9_middle.cls = RX9 ∧ yX9_middle.cls ≠ "java/lang/invoke/MethodHandle" ∧ yX9_middle.cls ≠ "java/lang/invoke/VarHandle" ∧ (parseMethodDescriptor yX9_middle.desc).map (fun d => d.parameters.length) = some 2 := by decide +kernel
theorem hd_X9_requireArgument : yX9_requireArgument.cls = RX9 ∧ yX9_requireArgument.cls ≠ "java/lang/invoke/MethodHandle" ∧ yX9_requireArgument.cls ≠ "java/lang/invoke/VarHandle" ∧ (parseMethodDescriptor yX9_requireArgument.desc).map (fun d => d.parameters.length) = some 1 := by decide +kernel
theorem hd_X9_requireIndex : yX9_requireIndex.cls = RX9 ∧ yX9_requireIndex.cls ≠ "java/lang/invoke/MethodHandle" ∧ yX9_requireIndex.cls ≠ "java/lang/invoke/VarHandle" ∧ (parseMethodDescriptor yX9_requireIndex.desc).map (fun d => d.parameters.length) = some 1 := by decide +kernel
theorem hd_X9_requireState : yX9_requireState.cls = RX9 ∧ yX9_requireState.cls ≠ "java/lang/invoke/MethodHandle" ∧ yX9_requireState.cls ≠ "java/lang/invoke/VarHandle" ∧ (parseMethodDescriptor yX9_requireState.desc).map (fun d => d.parameters.length) = some 1 := by decide +kernel
theorem hd_X9_setPenalty : yX9_setPenalty.cls = RX9 ∧ yX9_setPenalty.cls ≠ "java/lang/invoke/MethodHandle" ∧ yX9_setPenalty.cls ≠ "java/lang/invoke/VarHandle" ∧ (parseMethodDescriptor yX9_setPenalty.desc).map (fun d => d.parameters.length) = some 1 := by decide +kernel
theorem hd_X9_setSums : yX9_setSums.cls = RX9 ∧ yX9_setSums.cls ≠ "java/lang/invoke/MethodHandle" ∧ yX9_setSums.cls ≠ "java/lang/invoke/VarHandle" ∧ (parseMethodDescriptor yX9_setSums.desc).map (fun d => d.parameters.length) = some 3 := by decide +kernel
theorem hd_X9_setTest : yX9_setTest.cls = RX9 ∧ yX9_setTest.cls ≠ "java/lang/invoke/MethodHandle" ∧ yX9_setTest.cls ≠ "java/lang/invoke/VarHandle" ∧ (parseMethodDescriptor yX9_setTest.desc).map (fun d => d.parameters.length) = some 3 := by decide +kernel
theorem hd_X9_size : yX9_size.cls = RX9 ∧ yX9_size.cls ≠ "java/lang/invoke/MethodHandle" ∧ yX9_size.cls ≠ "java/lang/invoke/VarHandle" ∧ (parseMethodDescriptor yX9_size.desc).map (fun d => d.parameters.length) = some 0 := by decide +kernel
theorem hd_X9_take : yX9_take.cls = RX9 ∧ yX9_take.cls ≠ "java/lang/invoke/MethodHandle" ∧ yX9_take.cls ≠ "java/lang/invoke/VarHandle" ∧ (parseMethodDescriptor yX9_take.desc).map (fun d => d.parameters.length) = some 1 := by decide +kernel
theorem hd_X9_testSum : yX9_testSum.cls = RX9 ∧ yX9_testSum.cls ≠ "java/lang/invoke/MethodHandle" ∧ yX9_testSum.cls ≠ "java/lang/invoke/VarHandle" ∧ (parseMethodDescriptor yX9_testSum.desc).map (fun d => d.parameters.length) = some 0 := by decide +kernel
theorem hd_X9_toggleTruth : yX9_toggleTruth.cls = RX9 ∧ yX9_toggleTruth.cls ≠ "java/lang/invoke/MethodHandle" ∧ yX9_toggleTruth.cls ≠ "java/lang/invoke/VarHandle" ∧ (parseMethodDescriptor yX9_toggleTruth.desc).map (fun d => d.parameters.length) = some 1 := by decide +kernel
theorem hd_X9_value : yX9_value.cls = RX9 ∧ yX9_value.cls ≠ "java/lang/invoke/MethodHandle" ∧ yX9_value.cls ≠ "java/lang/invoke/VarHandle" ∧ (parseMethodDescriptor yX9_value.desc).map (fun d => d.parameters.length) = some 1 := by decide +kernel
