/-! THE CLAIM OUT OF ONE WALK OF THE LAW'S BODY. Your part is whole_start (and what it stands on); all else here is the same for every law, but numbers. -/
def R_law : String := "BreakpointLaw"
def lw_P (b : Addr) (xs : List Int32) (args : Array Value) (s : State) : Prop := args = #[.ref b] ∧ s.IntsAt b xs ∧ xs.length ≤ 260 ∧ (Jvm.Cond.and given_1 narrow_1).before args s = true
/-- what a walk over the start with the record d0 says of its end, said of the start itself -/
theorem lw_closed {s t : State} {o : Outcome} {d0 : Drawn} {L : List Loc} {k n : Nat} (hd0 : s.drawn.sameBut d0 lw_cs) (hv : ∃ v, o = .returned v) (hW : (s.setDrawn d0).WarmedH t.vm) (hs : (s.setDrawn d0).sameButNew ({ t with vm := s.vm } : State) L k n) : State.butDraws s t lw_cs (fun t1 => Framed s o t1 L k n) := by
  have h2 : t.drawn = d0 := congrArg State.drawn hs.1
  refine ⟨⟨hv, hW, State.sameButNew.setDrawn hs s.drawn⟩, ?_, by decide⟩
  rw [h2]
  exact hd0
def lw_Q (_ : Array Value) (s : State) (o : Outcome) (t : State) : Prop := o = .returned (some (.int 1)) ∧ State.butDraws s t lw_cs (fun t1 => Framed s o t1 [] 1054890 5936797)
def lw_Z (below : List Frame) (a : Array Value) (s : State) : State → Prop := fun t => ∃ o, t.status = .running ∧ Ended t below o ∧ lw_Q a s o t
/-- the law's own end, with 1 on the stack, nothing written that was there before, its room as the claim has it; d0: the record of draws at this point (at the entry s.drawn: begin with 'refine W.base ?_' and 'have hd0 := Drawn.sameBut.refl s.drawn lw_cs') -/
theorem lw_ret {p : Program} {l : Launch} {e : Env} {s : State} {m : MethodId} {below : List Frame} {meth : Method} {c : Code} {b : Nat} {d0 : Drawn} (hd0 : s.drawn.sameBut d0 lw_cs) (hx : p.tables.exec = Jvm.exec) (hb : c.code = code) (hr : meth.sig.returnType = ret) (hlocks : meth.locks = false) {pc : Nat} {H : Heap} {ls : Array Slot} (hdg : decode code pc = .ok (.ireturn, 1)) : W p l e room_1 (s.setDrawn d0) m #[Value.ref b] below meth c H [] 1054890 5936797 (lw_Z below #[Value.ref b] s) (F0 m pc ls [.int 1]) := by
  intro T hT X
  obtain ⟨fs, hret, hrun, hended, hW, hframe⟩ := X.leave (v := some (.int 1)) (hlocks := hlocks) (fun h => by rw [hr] at h; cases h)
  have hmeth' : T.vm.method? m = some meth := X.method'
  refine ⟨T.setFrames fs, ?_, .returned (some (.int 1)), hrun, hended, rfl, lw_closed hd0 ⟨_, rfl⟩ hW hframe⟩
  jvm_step X.here [X.here.top, hx, hb, hdg, hmeth', hr, ret, narrow_b1]
  (try refine ⟨rfl, ?_⟩); (try refine ⟨rfl, ?_⟩)
  first | (intro acts; rw [hret _ acts rfl rfl rfl]) | rw [hret _ _ rfl rfl rfl]
  exact Steps.refl _
/-- what holds at the law's entry: the machine, the code, the tables' words (any of lw_tbl by 'hts w (by decide +kernel)'), the script of L ints xs at the cell b, what the Statement gives of the start (any of its parts by flat_of_before) -/
def lw_At (p : Program) (s : State) (m : MethodId) (meth : Method) (c : Code) (b L : Nat) (xs : Nat → Int32) : Prop :=
  p.tables.exec = Jvm.exec ∧ c.code = code ∧ meth.sig.returnType = ret ∧ c.maxLocals = 5 ∧ s.vm.findClass R_law = some m.cls ∧ (∀ w ∈ lw_tbl, w.before #[Value.ref b] s = true) ∧ va_X b L xs s s.heap ∧ b < s.heap.size ∧ meth.locks = false ∧ (Jvm.Cond.and given_1 narrow_1).before #[Value.ref b] s = true

/-! the ground of the law's walk -/
theorem str_known {a : Array Value} {s : State} {k : Nat} {tx : String} {cu : ClassId} (hc : s.vm.findClass RX9 = some cu) (h : (Cond.stringRef RX9 k tx).before a s = true) : ∃ q, vk_R RX9 k tx q s := by
  obtain ⟨k9, cf, i, q, -, -, -, -, -, h6⟩ := Cond.stringRef_spec hc (show (Cond.stringRef RX9 k tx).holds a s none s [] = true from h)
  exact ⟨q, vk_R.of h h6⟩
theorem thr_known {b : Nat} {s : State} {cu : ClassId} (hc : s.vm.findClass RX9 = some cu) (hts : ∀ w ∈ lw_tbl, w.before #[Value.ref b] s = true) (hgv : (Jvm.Cond.and given_1 narrow_1).before #[Value.ref b] s = true) : thr (fun q : Nat => s.heap.size ≤ q) s s.heap ∧ va_Nc "java/lang/IllegalStateException" "java/lang/IllegalArgumentException" s := by
  have hs := flat_of_before _ hgv
  have hA : ∀ a : Nat, a < s.heap.size → ¬ (fun q : Nat => s.heap.size ≤ q) a := fun a h => Nat.not_le.mpr h
  have hi : (Cond.initialized "java/lang/Throwable").before #[Value.ref b] s = true := hts _ (List.mem_of_getElem? (i := 31) (by decide +kernel))
  refine ⟨⟨?_, ?_, str_known hc (hts _ (List.mem_of_getElem? (i := 349) (by decide +kernel))), str_known hc (hts _ (List.mem_of_getElem? (i := 485) (by decide +kernel))), str_known hc (hts _ (List.mem_of_getElem? (i := 411) (by decide +kernel))), va_Nw.of rfl (hts _ (List.mem_of_getElem? (i := 312) (by decide +kernel))), va_Nw.of rfl (hts _ (List.mem_of_getElem? (i := 314) (by decide +kernel))), va_Nw.of rfl (hts _ (List.mem_of_getElem? (i := 316) (by decide +kernel))), va_Nw.of rfl (hts _ (List.mem_of_getElem? (i := 310) (by decide +kernel))), va_Nw.of rfl (hts _ (List.mem_of_getElem? (i := 478) (by decide +kernel))), va_Nw.of rfl (hts _ (List.mem_of_getElem? (i := 404) (by decide +kernel)))⟩, ?_⟩
  · exact vx_Zqof (hts (.laysStatic "java/lang/Throwable" "UNASSIGNED_STACK" "[Ljava/lang/StackTraceElement;") (List.mem_of_getElem? (i := 335) (by decide +kernel))) hi (hs (.isRef (.static "java/lang/Throwable" "UNASSIGNED_STACK" "[Ljava/lang/StackTraceElement;")) (by decide +kernel)) hA
  · exact vx_Zqof (hts (.laysStatic "java/lang/Throwable" "SUPPRESSED_SENTINEL" "Ljava/util/List;") (List.mem_of_getElem? (i := 337) (by decide +kernel))) hi (hs (.isRef (.static "java/lang/Throwable" "SUPPRESSED_SENTINEL" "Ljava/util/List;")) (by decide +kernel)) hA
  · exact va_Nc.of (hs (.not (.castable "java/lang/IllegalStateException" "java/lang/IllegalArgumentException")) (by decide +kernel))
theorem arr_known_i {a : Array Value} {s : State} (h : (Cond.arrayClass .int).before a s = true) : ∃ cA : ClassId, ArrOfT s cA .int ∧ va_RA s cA .int := by
  obtain ⟨cA, kA, comp, h1, h2, h3⟩ := Cond.arrayClass_spec (show (Cond.arrayClass .int).holds a s none s [] = true from h)
  exact ⟨cA, fun n z => ⟨fun k h => (by cases h), kA, h2, comp, h3⟩, h1⟩
theorem arr_known_z {a : Array Value} {s : State} (h : (Cond.arrayClass .boolean).before a s = true) : ∃ cA : ClassId, ArrOfT s cA .boolean ∧ va_RA s cA .boolean := by
  obtain ⟨cA, kA, comp, h1, h2, h3⟩ := Cond.arrayClass_spec (show (Cond.arrayClass .boolean).holds a s none s [] = true from h)
  exact ⟨cA, fun n z => ⟨fun k h => (by cases h), kA, h2, comp, h3⟩, h1⟩
set_option maxHeartbeats 4000000 in
set_option maxRecDepth 100000 in
/-- the law behind its constructor and its row of three -/
theorem law_go {p : Program} {l : Launch} {e : Env} {R : Room} {s : State} {m : MethodId} {args : Array Value} {below : List Frame} {meth : Method} {c : Code} {A : Nat → Prop} {Q : State → Prop} (hl0 : l.stackTraces = false) {D : va_G} {cI cZ : ClassId} {q : Nat → Nat} {b L : Nat} {xs : Nat → Int32} (hR : R = room_1) (hx : p.tables.exec = Jvm.exec) (hb : c.code = code) (hml : c.maxLocals = 5) (hown : s.vm.findClass RL = some m.cls) (hAW : ∀ w ∈ AW, w.before args s = true) (hN : nwAll s) (hT : thr A s s.heap) (hNc : va_Nc "java/lang/IllegalStateException" "java/lang/IllegalArgumentException" s) (hK : va_K D vwCl (ty2 cI cZ) s) (hX : va_X b L xs s s.heap) (hbl : b < s.heap.size) (hbA : ¬ A b) (hA : ∀ q, s.heap.size ≤ q → A q) (hL : L ≤ 260) (fin : ∀ (H : Heap) (locs : List Loc) (ls : Array Slot), va_S A s.heap H locs → W p l e R s m args below meth c H locs 1054890 5936797 Q (F0 m 253 ls [.int 1])) {v : Nat → Int32} {n : Nat} {pn : Int32} {al : AlS} {cs : CsS} {ph : PhS} {tm : Nat → Bool} {bx bg : CuS} {gq : Nat} {g : Nat → Int32} {wb : va_W} (hW : PW cI cZ q v n pn al cs ph tm bx bg wb) (hG : GK g n pn tm) {H : Heap} {locs : List Loc} (hP : va_P D vwCl ([gC cI gq g] ++ wb) H) (hD : va_D A ([gC cI gq g] ++ wb)) (hS : va_S A s.heap H locs) {ls : Array Slot} (hl : lv_has ls 5 [(2, .ref gq), (1, .ref (q 0)), (0, .ref b)]) : W p l e R s m args below meth c H locs 25 16735 Q (F0 m 17 ls []) := by
  refine lv_aload_n hx hb dL_law_17 rfl (lv_at hl 1 rfl) ?_
  refine lv_aload_n hx hb dL_law_18 rfl (lv_at hl 0 rfl) ?_
  have hP : va_P D vwCl ([] ++ ([(gq, .inl (cI, 3, .inl g))] ++ wb)) H := hP
  have hD : va_D A ([] ++ ([(gq, .inl (cI, 3, .inl g))] ++ wb)) := hD
  have hc9 := cl_areAlarms (gq := gq) l hl0 D cI cZ q hW hG
  refine call_Zw (mc := 9) (ms := 51) (rm := { frames := 12, cells := 9, slots := 51, locals := 300 }) (wa := []) (w0 := ([(gq, .inl (cI, 3, .inl g))] ++ wb)) (As := [.ref (q 0), .ref gq]) (rest := []) hx hb hml hown hAW hN hT hNc hc9 q640 q641 q21 q642 hd_L_areAlarms (by rw [hR]; exact Nat.le_of_ble_eq_true rfl) (by rw [hR]; exact Nat.le_of_ble_eq_true rfl) rfl rfl hK hP hD hS hA rfl hl.1 rfl (lv_room (Nat.le_of_ble_eq_true rfl)) dL_law_19 (by rw [hR]; show 34 ≤ 1054890; omega) (by rw [hR]; show 16786 ≤ 5936797; omega) (fun x9 w9 H locs hz9 hw9 hP hD hS => ?_)
  obtain ⟨e9, wb1, rfl, hW1⟩ := hz9
  subst e9
  have hP : va_P D vwCl ([(gq, .inl (cI, 3, .inl g))] ++ wb1) H := hP
  have hD : va_D A ([(gq, .inl (cI, 3, .inl g))] ++ wb1) := hD
  refine n_if_eq (x := 1) (tgt := 37) hx hb (by omega) dL_law_22 (by decide) (fun c22 => absurd c22 (by decide)) (fun c22 => ?_)
  refine lv_aload_n hx hb dL_law_25 rfl (lv_at hl 1 rfl) ?_
  refine lv_aload_n hx hb dL_law_26 rfl (lv_at hl 0 rfl) ?_
  have hP : va_P D vwCl ([] ++ ([(gq, .inl (cI, 3, .inl g))] ++ wb1)) H := hP
  have hD : va_D A ([] ++ ([(gq, .inl (cI, 3, .inl g))] ++ wb1)) := hD
  have hc9 := cl_areCuttings (gq := gq) l hl0 D cI cZ q hW1 hG
  refine call_Zw (mc := 4) (ms := 24) (rm := { frames := 12, cells := 4, slots := 24, locals := 300 }) (wa := []) (w0 := ([(gq, .inl (cI, 3, .inl g))] ++ wb1)) (As := [.ref (q 0), .ref gq]) (rest := []) hx hb hml hown hAW hN hT hNc hc9 q697 q698 q21 q699 hd_L_areCuttings (by rw [hR]; exact Nat.le_of_ble_eq_true rfl) (by rw [hR]; exact Nat.le_of_ble_eq_true rfl) rfl rfl hK hP hD hS hA rfl hl.1 rfl (lv_room (Nat.le_of_ble_eq_true rfl)) dL_law_27 (by rw [hR]; show 38 ≤ 1054890; omega) (by rw [hR]; show 16810 ≤ 5936797; omega) (fun x9 w9 H locs hz9 hw9 hP hD hS => ?_)
  obtain ⟨e9, bx2, bg2, wb2, rfl, hW2⟩ := hz9
  subst e9
  have hP : va_P D vwCl ([(gq, .inl (cI, 3, .inl g))] ++ wb2) H := hP
  have hD : va_D A ([(gq, .inl (cI, 3, .inl g))] ++ wb2) := hD
  refine n_if_eq (x := 1) (tgt := 37) hx hb (by omega) dL_law_30 (by decide) (fun c30 => absurd c30 (by decide)) (fun c30 => ?_)
  refine lv_iconst (v := 1) hx hb dL_law_33 (by decide) ?_
  refine lv_goto (tgt := 38) hx hb dL_law_34 (by decide) ?_
  refine lv_istore_n (lv' := [(3, .int 1), (2, .ref gq), (1, .ref (q 0)), (0, .ref b)]) hx hb dL_law_38 rfl hl (by decide) rfl (fun ls hl => ?_)
  refine lv_iconst (v := 0) hx hb dL_law_39 (by decide) ?_
  refine lv_istore (lv' := [(4, .int 0), (3, .int 1), (2, .ref gq), (1, .ref (q 0)), (0, .ref b)]) hx hb dL_law_40 hl (by decide) rfl (fun ls hl => ?_)
  have J42 : ∀ (mz : Nat) (k : Nat) (g2 : Nat → Int32) (v2 : Nat → Int32) (n2 : Nat) (pn2 : Int32) (al2 : AlS) (cs2 : CsS) (ph2 : PhS) (tm2 : Nat → Bool) (bx2 bg2 : CuS) (wL42 : va_W), (k ≤ 64) → (GK g2 n2 pn2 tm2) → 64 - k < mz → PW cI cZ q v2 n2 pn2 al2 cs2 ph2 tm2 bx2 bg2 wL42 → ∀ (H : Heap) (locs : List Loc), va_P D vwCl ([(gq, .inl (cI, 3, .inl g2))] ++ wL42) H → va_D A ([(gq, .inl (cI, 3, .inl g2))] ++ wL42) → va_S A s.heap H locs → ∀ (ls : Array Slot), lv_has ls 5 [(0, .ref b), (1, .ref (q 0)), (2, .ref gq), (3, .int 1), (4, .int (nI k))] → W p l e R s m args below meth c H locs (38 + 16 * k) (16810 + 93 * k) Q (F0 m 42 ls []) := by
    intro mz
    induction mz with
    | zero => intro k g2 v2 n2 pn2 al2 cs2 ph2 tm2 bx2 bg2 wL42 hk hG2 hmu; exact absurd (by assumption) (Nat.not_lt_zero _)
    | succ mz ih42 =>
      intro k g2 v2 n2 pn2 al2 cs2 ph2 tm2 bx2 bg2 wL42 hk hG2 hmu hWL42 H locs hP hD hS ls hl
      refine lv_iload hx hb dL_law_42 (lv_at hl 4 rfl) ?_
      refine lv_bipush (v := 64) hx hb dL_law_44 (by decide) ?_
      refine n_icmp_ge (x := k) (y := 64) (tgt := 104) hx hb (by omega) (by omega) dL_law_46 (by decide) (fun c46 => ?_) (fun c46 => ?_)
      · skip
        refine lv_iload_n hx hb dL_law_104 rfl (lv_at hl 3 rfl) ?_
        refine n_if_eq (x := 1) (tgt := 234) hx hb (by omega) dL_law_105 (by decide) (fun c105 => absurd c105 (by decide)) (fun c105 => ?_)
        refine lv_aload_n hx hb dL_law_108 rfl (lv_at hl 1 rfl) ?_
        refine lv_iconst (v := 0) hx hb dL_law_109 (by decide) ?_
        refine lv_sipush (v := 1001) hx hb dL_law_110 (by decide) ?_
        refine lv_iconst (v := 0) hx hb dL_law_113 (by decide) ?_
        refine lv_iconst (v := 0) hx hb dL_law_114 (by decide) ?_
        refine call_Hi (wa := [(gq, .inl (cI, 3, .inl g2))]) (w0 := wL42) (w1 := wL42) (As := [.ref (q 0), .int 0, .int 1001, .int 0, .int 0]) (rest := []) hx hb hml hown hAW hN hT hNc (sh_sets0x l hl0 D cI cZ q hWL42 (x := 1001) (y := 0) (z := 0) (by decide)) q288 q289 q21 qw_sets hd_L_sets (by rw [hR]; exact Nat.le_of_ble_eq_true rfl) (by rw [hR]; exact Nat.le_of_ble_eq_true rfl) hK hP hD hS hA rfl rfl hl.1 rfl (lv_room (Nat.le_of_ble_eq_true rfl)) dL_law_115 (by rw [hR]; show 38 + 16 * k + 1 ≤ 1054890; omega) (by rw [hR]; show 16810 + 93 * k + 6 ≤ 5936797; omega) (fun H locs hP hD hS => ?_)
        refine lv_bipush (v := (-20)) hx hb dL_law_118 (by decide) ?_
        refine lv_icmp_ne (tgt := 234) hx hb dL_law_120 (by decide) (fun c120 => absurd c120 (fun z => z rfl)) (fun c120 => ?_)
        refine lv_aload_n hx hb dL_law_123 rfl (lv_at hl 1 rfl) ?_
        refine lv_iconst (v := 0) hx hb dL_law_124 (by decide) ?_
        refine lv_iconst (v := 0) hx hb dL_law_125 (by decide) ?_
        refine lv_iconst (v := (-1)) hx hb dL_law_126 (by decide) ?_
        refine lv_iconst (v := 0) hx hb dL_law_127 (by decide) ?_
        refine call_Hi (wa := [(gq, .inl (cI, 3, .inl g2))]) (w0 := wL42) (w1 := wL42) (As := [.ref (q 0), .int 0, .int 0, .int (-1), .int 0]) (rest := []) hx hb hml hown hAW hN hT hNc (sh_sets0x l hl0 D cI cZ q hWL42 (x := 0) (y := -1) (z := 0) (by decide)) q288 q289 q21 qw_sets hd_L_sets (by rw [hR]; exact Nat.le_of_ble_eq_true rfl) (by rw [hR]; exact Nat.le_of_ble_eq_true rfl) hK hP hD hS hA rfl rfl hl.1 rfl (lv_room (Nat.le_of_ble_eq_true rfl)) dL_law_128 (by rw [hR]; show 38 + 16 * k + 2 ≤ 1054890; omega) (by rw [hR]; show 16810 + 93 * k + 12 ≤ 5936797; omega) (fun H locs hP hD hS => ?_)
        refine lv_bipush (v := (-20)) hx hb dL_law_131 (by decide) ?_
        refine lv_icmp_ne (tgt := 234) hx hb dL_law_133 (by decide) (fun c133 => absurd c133 (fun z => z rfl)) (fun c133 => ?_)
        refine lv_aload_n hx hb dL_law_136 rfl (lv_at hl 1 rfl) ?_
        refine lv_iconst (v := 1) hx hb dL_law_137 (by decide) ?_
        refine lv_iconst (v := 0) hx hb dL_law_138 (by decide) ?_
        refine lv_iconst (v := 0) hx hb dL_law_139 (by decide) ?_
        refine lv_ldc (v := 100001) hx hb hown (hAW _ q733) dL_law_140 ?_
        refine call_Hi (wa := [(gq, .inl (cI, 3, .inl g2))]) (w0 := wL42) (w1 := wL42) (As := [.ref (q 0), .int 1, .int 0, .int 0, .int 100001]) (rest := []) hx hb hml hown hAW hN hT hNc (sh_sets1x l hl0 D cI cZ q hWL42 (x := 0) (y := 0) (z := 100001) (by decide)) q288 q289 q21 qw_sets hd_L_sets (by rw [hR]; exact Nat.le_of_ble_eq_true rfl) (by rw [hR]; exact Nat.le_of_ble_eq_true rfl) hK hP hD hS hA rfl rfl hl.1 rfl (lv_room (Nat.le_of_ble_eq_true rfl)) dL_law_142 (by rw [hR]; show 38 + 16 * k + 3 ≤ 1054890; omega) (by rw [hR]; show 16810 + 93 * k + 18 ≤ 5936797; omega) (fun H locs hP hD hS => ?_)
        refine lv_bipush (v := (-20)) hx hb dL_law_145 (by decide) ?_
        refine lv_icmp_ne (tgt := 234) hx hb dL_law_147 (by decide) (fun c147 => absurd c147 (fun z => z rfl)) (fun c147 => ?_)
        refine lv_aload_n hx hb dL_law_150 rfl (lv_at hl 1 rfl) ?_
        refine lv_iconst (v := 2) hx hb dL_law_151 (by decide) ?_
        refine lv_iconst (v := (-1)) hx hb dL_law_152 (by decide) ?_
        refine lv_iconst (v := 0) hx hb dL_law_153 (by decide) ?_
        refine lv_iconst (v := 0) hx hb dL_law_154 (by decide) ?_
        refine call_Hi (wa := [(gq, .inl (cI, 3, .inl g2))]) (w0 := wL42) (w1 := wL42) (As := [.ref (q 0), .int 2, .int (-1), .int 0, .int 0]) (rest := []) hx hb hml hown hAW hN hT hNc (sh_sets2x l hl0 D cI cZ q hWL42 (x := -1) 0 0 (by decide)) q288 q289 q21 qw_sets hd_L_sets (by rw [hR]; exact Nat.le_of_ble_eq_true rfl) (by rw [hR]; exact Nat.le_of_ble_eq_true rfl) hK hP hD hS hA rfl rfl hl.1 rfl (lv_room (Nat.le_of_ble_eq_true rfl)) dL_law_155 (by rw [hR]; show 38 + 16 * k + 4 ≤ 1054890; omega) (by rw [hR]; show 16810 + 93 * k + 24 ≤ 5936797; omega) (fun H locs hP hD hS => ?_)
        refine lv_bipush (v := (-20)) hx hb dL_law_158 (by decide) ?_
        refine lv_icmp_ne (tgt := 234) hx hb dL_law_160 (by decide) (fun c160 => absurd c160 (fun z => z rfl)) (fun c160 => ?_)
        refine lv_aload_n hx hb dL_law_163 rfl (lv_at hl 1 rfl) ?_
        refine lv_iconst (v := 0) hx hb dL_law_164 (by decide) ?_
        refine lv_sipush (v := 1001) hx hb dL_law_165 (by decide) ?_
        refine lv_iconst (v := 0) hx hb dL_law_168 (by decide) ?_
        refine lv_iconst (v := 0) hx hb dL_law_169 (by decide) ?_
        refine call_Hi (wa := [(gq, .inl (cI, 3, .inl g2))]) (w0 := wL42) (w1 := wL42) (As := [.ref (q 0), .int 0, .int 1001, .int 0, .int 0]) (rest := []) hx hb hml hown hAW hN hT hNc (sh_adds0x1 l hl0 D cI cZ q hWL42 (x := 1001) 0 0 (by decide)) q391 q392 q21 qw_adds hd_L_adds (by rw [hR]; exact Nat.le_of_ble_eq_true rfl) (by rw [hR]; exact Nat.le_of_ble_eq_true rfl) hK hP hD hS hA rfl rfl hl.1 rfl (lv_room (Nat.le_of_ble_eq_true rfl)) dL_law_170 (by rw [hR]; show 38 + 16 * k + 5 ≤ 1054890; omega) (by rw [hR]; show 16810 + 93 * k + 30 ≤ 5936797; omega) (fun H locs hP hD hS => ?_)
        refine lv_bipush (v := (-20)) hx hb dL_law_173 (by decide) ?_
        refine lv_icmp_ne (tgt := 234) hx hb dL_law_175 (by decide) (fun c175 => absurd c175 (fun z => z rfl)) (fun c175 => ?_)
        refine lv_aload_n hx hb dL_law_178 rfl (lv_at hl 1 rfl) ?_
        refine lv_iconst (v := 1) hx hb dL_law_179 (by decide) ?_
        refine lv_iconst (v := 0) hx hb dL_law_180 (by decide) ?_
        refine lv_iconst (v := 0) hx hb dL_law_181 (by decide) ?_
        refine lv_bipush (v := 41) hx hb dL_law_182 (by decide) ?_
        refine call_Hi (wa := [(gq, .inl (cI, 3, .inl g2))]) (w0 := wL42) (w1 := wL42) (As := [.ref (q 0), .int 1, .int 0, .int 0, .int 41]) (rest := []) hx hb hml hown hAW hN hT hNc (sh_adds1x1 l hl0 D cI cZ q hWL42 (x := 0) (y := 0) (z := 41) (by decide)) q391 q392 q21 qw_adds hd_L_adds (by rw [hR]; exact Nat.le_of_ble_eq_true rfl) (by rw [hR]; exact Nat.le_of_ble_eq_true rfl) hK hP hD hS hA rfl rfl hl.1 rfl (lv_room (Nat.le_of_ble_eq_true rfl)) dL_law_184 (by rw [hR]; show 38 + 16 * k + 6 ≤ 1054890; omega) (by rw [hR]; show 16810 + 93 * k + 36 ≤ 5936797; omega) (fun H locs hP hD hS => ?_)
        refine lv_bipush (v := (-20)) hx hb dL_law_187 (by decide) ?_
        refine lv_icmp_ne (tgt := 234) hx hb dL_law_189 (by decide) (fun c189 => absurd c189 (fun z => z rfl)) (fun c189 => ?_)
        refine lv_aload_n hx hb dL_law_192 rfl (lv_at hl 1 rfl) ?_
        refine lv_iconst (v := 0) hx hb dL_law_193 (by decide) ?_
        refine lv_iconst (v := (-1)) hx hb dL_law_194 (by decide) ?_
        refine lv_iconst (v := 0) hx hb dL_law_195 (by decide) ?_
        refine call_Hi (wa := [(gq, .inl (cI, 3, .inl g2))]) (w0 := wL42) (w1 := wL42) (As := [.ref (q 0), .int 0, .int (-1), .int 0]) (rest := []) hx hb hml hown hAW hN hT hNc (sh_asks0x l hl0 D cI cZ q hWL42 (x := -1) 0 (fun z => absurd z.1 (by decide))) q461 q462 q21 qw_asks hd_L_asks (by rw [hR]; exact Nat.le_of_ble_eq_true rfl) (by rw [hR]; exact Nat.le_of_ble_eq_true rfl) hK hP hD hS hA rfl rfl hl.1 rfl (lv_room (Nat.le_of_ble_eq_true rfl)) dL_law_196 (by rw [hR]; show 38 + 16 * k + 7 ≤ 1054890; omega) (by rw [hR]; show 16810 + 93 * k + 42 ≤ 5936797; omega) (fun H locs hP hD hS => ?_)
        refine lv_sipush (v := (-3000)) hx hb dL_law_199 (by decide) ?_
        refine lv_icmp_ne (tgt := 234) hx hb dL_law_202 (by decide) (fun c202 => absurd c202 (fun z => z rfl)) (fun c202 => ?_)
        have hn2 := hWL42.pv.1
        refine lv_aload_n hx hb dL_law_205 rfl (lv_at hl 1 rfl) ?_
        refine lv_bipush (v := 8) hx hb dL_law_206 (by decide) ?_
        refine lv_bipush (v := 120) hx hb dL_law_208 (by decide) ?_
        refine lv_iconst (v := 0) hx hb dL_law_210 (by decide) ?_
        refine call_Hi (wa := [(gq, .inl (cI, 3, .inl g2))]) (w0 := wL42) (w1 := wL42) (As := [.ref (q 0), .int 8, .int 120, .int 0]) (rest := []) hx hb hml hown hAW hN hT hNc (sh_asks8x l hl0 D cI cZ q hWL42 (x := 120) 0 (fun z => absurd ((nI_ltI (a := 120) (b := n2) (by omega) (by omega)).mp z.2) (by omega))) q461 q462 q21 qw_asks hd_L_asks (by rw [hR]; exact Nat.le_of_ble_eq_true rfl) (by rw [hR]; exact Nat.le_of_ble_eq_true rfl) hK hP hD hS hA rfl rfl hl.1 rfl (lv_room (Nat.le_of_ble_eq_true rfl)) dL_law_211 (by rw [hR]; show 38 + 16 * k + 8 ≤ 1054890; omega) (by rw [hR]; show 16810 + 93 * k + 48 ≤ 5936797; omega) (fun H locs hP hD hS => ?_)
        refine lv_sipush (v := (-3000)) hx hb dL_law_214 (by decide) ?_
        refine lv_icmp_ne (tgt := 234) hx hb dL_law_217 (by decide) (fun c217 => absurd c217 (fun z => z rfl)) (fun c217 => ?_)
        refine lv_aload_n hx hb dL_law_220 rfl (lv_at hl 1 rfl) ?_
        refine lv_iconst (v := (-1)) hx hb dL_law_221 (by decide) ?_
        refine call_Hi (wa := [(gq, .inl (cI, 3, .inl g2))]) (w0 := wL42) (w1 := wL42) (As := [.ref (q 0), .int (-1)]) (rest := []) hx hb hml hown hAW hN hT hNc (sh_leastCostx1 l hl0 D cI cZ q hWL42 (x := -1) (by decide)) q611 q612 q21 qw_leastCost hd_L_leastCost (by rw [hR]; exact Nat.le_of_ble_eq_true rfl) (by rw [hR]; exact Nat.le_of_ble_eq_true rfl) hK hP hD hS hA rfl rfl hl.1 rfl (lv_room (Nat.le_of_ble_eq_true rfl)) dL_law_222 (by rw [hR]; show 38 + 16 * k + 9 ≤ 1054890; omega) (by rw [hR]; show 16810 + 93 * k + 54 ≤ 5936797; omega) (fun H locs hP hD hS => ?_)
        refine lv_bipush (v := (-20)) hx hb dL_law_225 (by decide) ?_
        refine lv_icmp_ne (tgt := 234) hx hb dL_law_227 (by decide) (fun c227 => absurd c227 (fun z => z rfl)) (fun c227 => ?_)
        refine lv_iconst (v := 1) hx hb dL_law_230 (by decide) ?_
        refine lv_goto (tgt := 235) hx hb dL_law_231 (by decide) ?_
        refine lv_istore_n (lv' := [(3, .int 1), (0, .ref b), (1, .ref (q 0)), (2, .ref gq), (4, .int (nI k))]) hx hb dL_law_235 rfl hl (by decide) rfl (fun ls hl => ?_)
        refine lv_iload_n hx hb dL_law_236 rfl (lv_at hl 0 rfl) ?_
        refine n_if_eq (x := 1) (tgt := 252) hx hb (by omega) dL_law_237 (by decide) (fun c237 => absurd c237 (by decide)) (fun c237 => ?_)
        refine lv_aload_n hx hb dL_law_240 rfl (lv_at hl 2 rfl) ?_
        refine lv_aload_n hx hb dL_law_241 rfl (lv_at hl 3 rfl) ?_
        have hP : va_P D vwCl ([] ++ ([(gq, .inl (cI, 3, .inl g2))] ++ wL42)) H := hP
        have hD : va_D A ([] ++ ([(gq, .inl (cI, 3, .inl g2))] ++ wL42)) := hD
        have hc9 := cl_areCuttings (gq := gq) l hl0 D cI cZ q hWL42 hG2
        refine call_Zw (mc := 4) (ms := 24) (rm := { frames := 12, cells := 4, slots := 24, locals := 300 }) (wa := []) (w0 := ([(gq, .inl (cI, 3, .inl g2))] ++ wL42)) (As := [.ref (q 0), .ref gq]) (rest := []) hx hb hml hown hAW hN hT hNc hc9 q697 q698 q21 q699 hd_L_areCuttings (by rw [hR]; exact Nat.le_of_ble_eq_true rfl) (by rw [hR]; exact Nat.le_of_ble_eq_true rfl) rfl rfl hK hP hD hS hA rfl hl.1 rfl (lv_room (Nat.le_of_ble_eq_true rfl)) dL_law_242 (by rw [hR]; show 38 + 16 * k + 13 ≤ 1054890; omega) (by rw [hR]; show 16810 + 93 * k + 78 ≤ 5936797; omega) (fun x9 w9 H locs hz9 hw9 hP hD hS => ?_)
        obtain ⟨e9, bx12, bg12, wb12, rfl, hW12⟩ := hz9
        subst e9
        have hP : va_P D vwCl ([(gq, .inl (cI, 3, .inl g2))] ++ wb12) H := hP
        have hD : va_D A ([(gq, .inl (cI, 3, .inl g2))] ++ wb12) := hD
        refine n_if_eq (x := 1) (tgt := 252) hx hb (by omega) dL_law_245 (by decide) (fun c245 => absurd c245 (by decide)) (fun c245 => ?_)
        refine lv_iconst (v := 1) hx hb dL_law_248 (by decide) ?_
        refine lv_goto (tgt := 253) hx hb dL_law_249 (by decide) ?_
        refine W.widen (k := 1054890) (n := 5936797) (by omega) (by omega) ?_
        exact fin H locs _ hS
      · skip
        have hk9 : k < 64 := (by omega)
        refine lv_iload_n hx hb dL_law_49 rfl (lv_at hl 3 rfl) ?_
        refine n_if_eq (x := 1) (tgt := 104) hx hb (by omega) dL_law_50 (by decide) (fun c50 => absurd c50 (by decide)) (fun c50 => ?_)
        refine lv_aload_n hx hb dL_law_53 rfl (lv_at hl 1 rfl) ?_
        refine lv_aload_n hx hb dL_law_54 rfl (lv_at hl 0 rfl) ?_
        refine lv_iconst (v := 4) hx hb dL_law_55 (by decide) ?_
        refine lv_iload hx hb dL_law_56 (lv_at hl 4 rfl) ?_
        refine n_imul (x := 4) (y := k) hx hb dL_law_58 ?_
        refine lv_aload_n hx hb dL_law_59 rfl (lv_at hl 2 rfl) ?_
        have hc9 := cl_isDone (b := b) (L := L) (xs := xs) (gq := gq) l hl0 D cI cZ q hWL42 hG2 hL (i4 := 4 * k) (by omega)
        refine call_Zs (mc := 3) (ms := 18) (rm := { frames := 12, cells := 3, slots := 18, locals := 300 }) (w0 := ([(gq, .inl (cI, 3, .inl g2))] ++ wL42)) (As := [.ref (q 0), .ref b, .int (nI (4 * k)), .ref gq]) (rest := []) hx hb hml hown hAW hN hT hNc hc9 q719 q720 q21 q721 hd_L_isDone (by rw [hR]; exact Nat.le_of_ble_eq_true rfl) (by rw [hR]; exact Nat.le_of_ble_eq_true rfl) rfl rfl hX hbl hbA hK hP hD hS hA rfl hl.1 rfl (lv_room (Nat.le_of_ble_eq_true rfl)) dL_law_60 (by rw [hR]; show 38 + 16 * k + 3 ≤ 1054890; omega) (by rw [hR]; show 16810 + 93 * k + 18 ≤ 5936797; omega) (fun x9 w9 H locs hz9 hw9 hP hD hS => ?_)
        obtain ⟨e9, g9, v9, n9, pn9, al9, cs9, ph9, tm9, bx9, bg9, wb9, rfl, hW9, hG9⟩ := hz9
        subst e9
        have hP : va_P D vwCl ([(gq, .inl (cI, 3, .inl g9))] ++ wb9) H := hP
        have hD : va_D A ([(gq, .inl (cI, 3, .inl g9))] ++ wb9) := hD
        refine n_if_eq (x := 1) (tgt := 96) hx hb (by omega) dL_law_63 (by decide) (fun c63 => absurd c63 (by decide)) (fun c63 => ?_)
        refine lv_aload_n hx hb dL_law_66 rfl (lv_at hl 1 rfl) ?_
        refine lv_aload_n hx hb dL_law_67 rfl (lv_at hl 2 rfl) ?_
        have hP : va_P D vwCl ([] ++ ([(gq, .inl (cI, 3, .inl g9))] ++ wb9)) H := hP
        have hD : va_D A ([] ++ ([(gq, .inl (cI, 3, .inl g9))] ++ wb9)) := hD
        have hc9 := cl_areAlarms (gq := gq) l hl0 D cI cZ q hW9 hG9
        refine call_Zw (mc := 9) (ms := 51) (rm := { frames := 12, cells := 9, slots := 51, locals := 300 }) (wa := []) (w0 := ([(gq, .inl (cI, 3, .inl g9))] ++ wb9)) (As := [.ref (q 0), .ref gq]) (rest := []) hx hb hml hown hAW hN hT hNc hc9 q640 q641 q21 q642 hd_L_areAlarms (by rw [hR]; exact Nat.le_of_ble_eq_true rfl) (by rw [hR]; exact Nat.le_of_ble_eq_true rfl) rfl rfl hK hP hD hS hA rfl hl.1 rfl (lv_room (Nat.le_of_ble_eq_true rfl)) dL_law_68 (by rw [hR]; show 38 + 16 * k + 12 ≤ 1054890; omega) (by rw [hR]; show 16810 + 93 * k + 69 ≤ 5936797; omega) (fun x9 w9 H locs hz9 hw9 hP hD hS => ?_)
        obtain ⟨e9, wb13, rfl, hW13⟩ := hz9
        subst e9
        have hP : va_P D vwCl ([(gq, .inl (cI, 3, .inl g9))] ++ wb13) H := hP
        have hD : va_D A ([(gq, .inl (cI, 3, .inl g9))] ++ wb13) := hD
        refine n_if_eq (x := 1) (tgt := 96) hx hb (by omega) dL_law_71 (by decide) (fun c71 => absurd c71 (by decide)) (fun c71 => ?_)
        refine lv_iload hx hb dL_law_74 (lv_at hl 4 rfl) ?_
        refine lv_bipush (v := 16) hx hb dL_law_76 (by decide) ?_
        refine n_irem (x := k) (y := 16) hx hb (by omega) (by omega) (by omega) dL_law_78 ?_
        refine lv_bipush (v := 15) hx hb dL_law_79 (by decide) ?_
        refine n_icmp_lt (x := (k % 16)) (y := 15) (tgt := 92) hx hb (by omega) (by omega) dL_law_81 (by decide) (fun c81 => ?_) (fun c81 => ?_)
        · skip
          refine lv_iconst (v := 1) hx hb dL_law_92 (by decide) ?_
          refine lv_goto (tgt := 97) hx hb dL_law_93 (by decide) ?_
          refine lv_istore_n (lv' := [(3, .int 1), (0, .ref b), (1, .ref (q 0)), (2, .ref gq), (4, .int (nI k))]) hx hb dL_law_97 rfl hl (by decide) rfl (fun ls hl => ?_)
          refine lv_iinc (v := (nI (k + 1))) (lv' := [(4, .int (nI (k + 1))), (3, .int 1), (0, .ref b), (1, .ref (q 0)), (2, .ref gq)]) hx hb dL_law_98 hl (k := 4) rfl (nI_inc k 1) (by decide) rfl (fun ls hl => ?_)
          refine lv_goto (tgt := 42) hx hb dL_law_101 (by decide) ?_
          refine W.widen (k := 38 + 16 * (k + 1)) (n := 16810 + 93 * (k + 1)) (by omega) (by omega) ?_
          exact ih42 (k + 1) g9 v9 n9 pn9 al9 cs9 ph9 tm9 bx9 bg9 wb13 (by omega) hG9 (by omega) hW13 _ _ hP hD hS ls (lv_sub hl [2, 3, 4, 1, 0] rfl)
        · skip
          refine lv_aload_n hx hb dL_law_84 rfl (lv_at hl 1 rfl) ?_
          refine lv_aload_n hx hb dL_law_85 rfl (lv_at hl 2 rfl) ?_
          have hP : va_P D vwCl ([] ++ ([(gq, .inl (cI, 3, .inl g9))] ++ wb13)) H := hP
          have hD : va_D A ([] ++ ([(gq, .inl (cI, 3, .inl g9))] ++ wb13)) := hD
          have hc9 := cl_areCuttings (gq := gq) l hl0 D cI cZ q hW13 hG9
          refine call_Zw (mc := 4) (ms := 24) (rm := { frames := 12, cells := 4, slots := 24, locals := 300 }) (wa := []) (w0 := ([(gq, .inl (cI, 3, .inl g9))] ++ wb13)) (As := [.ref (q 0), .ref gq]) (rest := []) hx hb hml hown hAW hN hT hNc hc9 q697 q698 q21 q699 hd_L_areCuttings (by rw [hR]; exact Nat.le_of_ble_eq_true rfl) (by rw [hR]; exact Nat.le_of_ble_eq_true rfl) rfl rfl hK hP hD hS hA rfl hl.1 rfl (lv_room (Nat.le_of_ble_eq_true rfl)) dL_law_86 (by rw [hR]; show 38 + 16 * k + 16 ≤ 1054890; omega) (by rw [hR]; show 16810 + 93 * k + 93 ≤ 5936797; omega) (fun x9 w9 H locs hz9 hw9 hP hD hS => ?_)
          obtain ⟨e9, bx14, bg14, wb14, rfl, hW14⟩ := hz9
          subst e9
          have hP : va_P D vwCl ([(gq, .inl (cI, 3, .inl g9))] ++ wb14) H := hP
          have hD : va_D A ([(gq, .inl (cI, 3, .inl g9))] ++ wb14) := hD
          refine n_if_eq (x := 1) (tgt := 96) hx hb (by omega) dL_law_89 (by decide) (fun c89 => absurd c89 (by decide)) (fun c89 => ?_)
          refine lv_iconst (v := 1) hx hb dL_law_92 (by decide) ?_
          refine lv_goto (tgt := 97) hx hb dL_law_93 (by decide) ?_
          refine lv_istore_n (lv' := [(3, .int 1), (0, .ref b), (1, .ref (q 0)), (2, .ref gq), (4, .int (nI k))]) hx hb dL_law_97 rfl hl (by decide) rfl (fun ls hl => ?_)
          refine lv_iinc (v := (nI (k + 1))) (lv' := [(4, .int (nI (k + 1))), (3, .int 1), (0, .ref b), (1, .ref (q 0)), (2, .ref gq)]) hx hb dL_law_98 hl (k := 4) rfl (nI_inc k 1) (by decide) rfl (fun ls hl => ?_)
          refine lv_goto (tgt := 42) hx hb dL_law_101 (by decide) ?_
          refine W.widen (k := 38 + 16 * (k + 1)) (n := 16810 + 93 * (k + 1)) (by omega) (by omega) ?_
          exact ih42 (k + 1) g9 v9 n9 pn9 al9 cs9 ph9 tm9 bx14 bg14 wb14 (by omega) hG9 (by omega) hW14 _ _ hP hD hS ls (lv_sub hl [2, 3, 4, 1, 0] rfl)
  refine W.widen (k := 38 + 16 * 0) (n := 16810 + 93 * 0) (by omega) (by omega) ?_
  exact J42 (64 - 0 + 1) 0 g v n pn al cs ph tm bx2 bg2 wb2 (Nat.zero_le _) hG (Nat.lt_succ_self _) hW2 _ _ hP hD hS ls (lv_sub hl [4, 3, 2, 1, 0] rfl)
