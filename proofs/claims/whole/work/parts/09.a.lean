/-! THE CLAIM OUT OF ONE WALK OF THE LAW'S BODY. Your part is whole_start (and what it stands on); all else here is the same for every law, but numbers. -/
def R_law : String := "BreakpointLaw"
def lw_P (b : Addr) (xs : List Int32) (args : Array Value) (s : State) : Prop := args = #[.ref b] ∧ s.IntsAt b xs ∧ xs.length ≤ 2048 ∧ (Jvm.Cond.and given_1 narrow_1).before args s = true
/-- what a walk over the start with the record d0 says of its end, said of the start itself -/
theorem lw_closed {s t : State} {o : Outcome} {d0 : Drawn} {L : List Loc} {k n : Nat} (hd0 : s.drawn.sameBut d0 lw_cs) (hv : ∃ v, o = .returned v) (hW : (s.setDrawn d0).WarmedH t.vm) (hs : (s.setDrawn d0).sameButNew ({ t with vm := s.vm } : State) L k n) : State.butDraws s t lw_cs (fun t1 => Framed s o t1 L k n) := by
  have h2 : t.drawn = d0 := congrArg State.drawn hs.1
  refine ⟨⟨hv, hW, State.sameButNew.setDrawn hs s.drawn⟩, ?_, by decide⟩
  rw [h2]
  exact hd0
def lw_Q (_ : Array Value) (s : State) (o : Outcome) (t : State) : Prop := o = .returned (some (.int 1)) ∧ State.butDraws s t lw_cs (fun t1 => Framed s o t1 [] 601024 7293034)
def lw_Z (below : List Frame) (a : Array Value) (s : State) : State → Prop := fun t => ∃ o, t.status = .running ∧ Ended t below o ∧ lw_Q a s o t
/-- the law's own end, with 1 on the stack, nothing written that was there before, its room as the claim has it; d0: the record of draws at this point (at the entry s.drawn: begin with 'refine W.base ?_' and 'have hd0 := Drawn.sameBut.refl s.drawn lw_cs') -/
theorem lw_ret {p : Program} {l : Launch} {e : Env} {s : State} {m : MethodId} {below : List Frame} {meth : Method} {c : Code} {b : Nat} {d0 : Drawn} (hd0 : s.drawn.sameBut d0 lw_cs) (hx : p.tables.exec = Jvm.exec) (hb : c.code = code) (hr : meth.sig.returnType = ret) (hlocks : meth.locks = false) {pc : Nat} {H : Heap} {ls : Array Slot} (hdg : decode code pc = .ok (.ireturn, 1)) : W p l e room_1 (s.setDrawn d0) m #[Value.ref b] below meth c H [] 601024 7293034 (lw_Z below #[Value.ref b] s) (F0 m pc ls [.int 1]) := by
  intro T hT X
  obtain ⟨fs, hret, hrun, hended, hW, hframe⟩ := X.leave (v := some (.int 1)) (hlocks := hlocks) (fun h => by rw [hr] at h; cases h)
  have hmeth' : T.vm.method? m = some meth := X.method'
  refine ⟨T.setFrames fs, ?_, .returned (some (.int 1)), hrun, hended, rfl, lw_closed hd0 ⟨_, rfl⟩ hW hframe⟩
  jvm_step X.here [X.here.top, hx, hb, hdg, hmeth', hr, ret, narrow_b1]
  (try refine ⟨rfl, ?_⟩); (try refine ⟨rfl, ?_⟩)
  first | (intro acts; rw [hret _ acts rfl rfl rfl]) | rw [hret _ _ rfl rfl rfl]
  exact Steps.refl _
/-- what holds at the law's entry: the machine, the code, the tables' words (any of lw_tbl by 'hts w (by decide +kernel)'), the script of L ints xs at the cell b, what the Statement gives of the start (any of its parts by flat_of_before) -/
def lw_At (p : Program) (s : State) (m : MethodId) (meth : Method) (c : Code) (b L : Nat) (xs : Nat → Int32) : Prop :=
  p.tables.exec = Jvm.exec ∧ c.code = code ∧ meth.sig.returnType = ret ∧ c.maxLocals = 8 ∧ s.vm.findClass R_law = some m.cls ∧ (∀ w ∈ lw_tbl, w.before #[Value.ref b] s = true) ∧ va_X b L xs s s.heap ∧ b < s.heap.size ∧ meth.locks = false ∧ (Jvm.Cond.and given_1 narrow_1).before #[Value.ref b] s = true

/-! the ground of the law's walk -/
theorem str_known {a : Array Value} {s : State} {k : Nat} {tx : String} {cu : ClassId} (hc : s.vm.findClass RX9 = some cu) (h : (Cond.stringRef RX9 k tx).before a s = true) : ∃ q, vk_R RX9 k tx q s := by
  obtain ⟨k9, cf, i, q, -, -, -, -, -, h6⟩ := Cond.stringRef_spec hc (show (Cond.stringRef RX9 k tx).holds a s none s [] = true from h)
  exact ⟨q, vk_R.of h h6⟩
theorem thr_known {b : Nat} {s : State} {cu : ClassId} (hc : s.vm.findClass RX9 = some cu) (hts : ∀ w ∈ lw_tbl, w.before #[Value.ref b] s = true) (hgv : (Jvm.Cond.and given_1 narrow_1).before #[Value.ref b] s = true) : thr (fun q : Nat => s.heap.size ≤ q) s s.heap ∧ va_Nc "java/lang/IllegalStateException" "java/lang/IllegalArgumentException" s := by
  have hs := flat_of_before _ hgv
  have hA : ∀ a : Nat, a < s.heap.size → ¬ (fun q : Nat => s.heap.size ≤ q) a := fun a h => Nat.not_le.mpr h
  have hi : (Cond.initialized "java/lang/Throwable").before #[Value.ref b] s = true := hts _ (List.mem_of_getElem? (i := 51) (by decide +kernel))
  refine ⟨⟨?_, ?_, str_known hc (hts _ (List.mem_of_getElem? (i := 494) (by decide +kernel))), str_known hc (hts _ (List.mem_of_getElem? (i := 635) (by decide +kernel))), str_known hc (hts _ (List.mem_of_getElem? (i := 558) (by decide +kernel))), va_Nw.of rfl (hts _ (List.mem_of_getElem? (i := 457) (by decide +kernel))), va_Nw.of rfl (hts _ (List.mem_of_getElem? (i := 459) (by decide +kernel))), va_Nw.of rfl (hts _ (List.mem_of_getElem? (i := 461) (by decide +kernel))), va_Nw.of rfl (hts _ (List.mem_of_getElem? (i := 455) (by decide +kernel))), va_Nw.of rfl (hts _ (List.mem_of_getElem? (i := 628) (by decide +kernel))), va_Nw.of rfl (hts _ (List.mem_of_getElem? (i := 551) (by decide +kernel)))⟩, ?_⟩
  · exact vx_Zqof (hts (.laysStatic "java/lang/Throwable" "UNASSIGNED_STACK" "[Ljava/lang/StackTraceElement;") (List.mem_of_getElem? (i := 480) (by decide +kernel))) hi (hs (.isRef (.static "java/lang/Throwable" "UNASSIGNED_STACK" "[Ljava/lang/StackTraceElement;")) (by decide +kernel)) hA
  · exact vx_Zqof (hts (.laysStatic "java/lang/Throwable" "SUPPRESSED_SENTINEL" "Ljava/util/List;") (List.mem_of_getElem? (i := 482) (by decide +kernel))) hi (hs (.isRef (.static "java/lang/Throwable" "SUPPRESSED_SENTINEL" "Ljava/util/List;")) (by decide +kernel)) hA
  · exact va_Nc.of (hs (.not (.castable "java/lang/IllegalStateException" "java/lang/IllegalArgumentException")) (by decide +kernel))
theorem arr_known_i {a : Array Value} {s : State} (h : (Cond.arrayClass .int).before a s = true) : ∃ cA : ClassId, ArrOfT s cA .int ∧ va_RA s cA .int := by
  obtain ⟨cA, kA, comp, h1, h2, h3⟩ := Cond.arrayClass_spec (show (Cond.arrayClass .int).holds a s none s [] = true from h)
  exact ⟨cA, fun n z => ⟨fun k h => (by cases h), kA, h2, comp, h3⟩, h1⟩
theorem arr_known_z {a : Array Value} {s : State} (h : (Cond.arrayClass .boolean).before a s = true) : ∃ cA : ClassId, ArrOfT s cA .boolean ∧ va_RA s cA .boolean := by
  obtain ⟨cA, kA, comp, h1, h2, h3⟩ := Cond.arrayClass_spec (show (Cond.arrayClass .boolean).holds a s none s [] = true from h)
  exact ⟨cA, fun n z => ⟨fun k h => (by cases h), kA, h2, comp, h3⟩, h1⟩
theorem arr_known_j {a : Array Value} {s : State} (h : (Cond.arrayClass .long).before a s = true) : ∃ cA : ClassId, ArrOfT s cA .long ∧ va_RA s cA .long := by
  obtain ⟨cA, kA, comp, h1, h2, h3⟩ := Cond.arrayClass_spec (show (Cond.arrayClass .long).holds a s none s [] = true from h)
  exact ⟨cA, fun n z => ⟨fun k h => (by cases h), kA, h2, comp, h3⟩, h1⟩
theorem arr_known_d {a : Array Value} {s : State} (h : (Cond.arrayClass .double).before a s = true) : ∃ cA : ClassId, ArrOfT s cA .double ∧ va_RA s cA .double := by
  obtain ⟨cA, kA, comp, h1, h2, h3⟩ := Cond.arrayClass_spec (show (Cond.arrayClass .double).holds a s none s [] = true from h)
  exact ⟨cA, fun n z => ⟨fun k h => (by cases h), kA, h2, comp, h3⟩, h1⟩
theorem lg_self (x : Int64) : lg_cmp x x = 0 := by
  unfold lg_cmp
  rw [if_neg (show ¬ x > x from Int64.lt_irrefl), if_pos rfl]
def LwE (p : Program) (l : Launch) (s : State) (m : MethodId) (meth : Method) (c : Code) (b L : Nat) (xs : Nat → Int32) (D : va_G) (cI cZ cJ cD : ClassId) : Prop :=
  p.tables.exec = Jvm.exec ∧ c.code = code ∧ meth.sig.returnType = ret ∧ c.maxLocals = 8 ∧ s.vm.findClass RL = some m.cls ∧ (∀ w ∈ AW, w.before #[Value.ref b] s = true) ∧ nwAll s ∧ thr (fun q : Nat => s.heap.size ≤ q) s s.heap ∧ va_Nc "java/lang/IllegalStateException" "java/lang/IllegalArgumentException" s ∧ va_X b L xs s s.heap ∧ b < s.heap.size ∧ meth.locks = false ∧ va_K D vwCl (ty4 cI cZ cJ cD) s ∧ L ≤ 2048 ∧ l.stackTraces = false
abbrev oJ (cJ : ClassId) (qo : Nat) (f : Nat → Int64) : Nat × va_E := (qo, .inl (cJ, 1, .inr (.inl f)))
abbrev oD (cD : ClassId) (qd : Nat) (g : Nat → UInt64) : Nat × va_E := (qd, .inl (cD, 1, .inr (.inr (.inr (.inl g)))))
/-- the law between two calls -/
def LSt (s : State) (D : va_G) (cI cZ cJ cD : ClassId) (q u : Nat → Nat) (qo qd b i : Nat) (th : Int32) (f : Nat → Int64) (g : Nat → UInt64) (wb wm : va_W) (H : Heap) (locs : List Loc) (ls : Array Slot) : Prop :=
  RW cI cZ q u th wb wm ∧ va_P D vwCl ([oD cD qd g, oJ cJ qo f] ++ (wb ++ wm)) H ∧ va_D (fun q : Nat => s.heap.size ≤ q) ([oD cD qd g, oJ cJ qo f] ++ (wb ++ wm)) ∧ va_S (fun q : Nat => s.heap.size ≤ q) s.heap H locs ∧ lv_has ls 8 [(5, .int (nI i)), (0, .ref b), (1, .ref (q 0)), (2, .ref (u 0)), (3, .ref qo), (4, .ref qd)]
