/-! the law's part; the script beside the world -/
theorem and_nn (v : Int32) : ∃ j : Nat, j < 2 ^ 31 ∧ v &&& 2147483647 = nI j := by
  refine ((nI_of (x := v &&& 2147483647) ?_).imp fun j h => h)
  rw [i_lt, i00]
  have h : (v &&& 2147483647).toBitVec.msb = false := by
    rw [show (v &&& 2147483647).toBitVec = v.toBitVec &&& (2147483647 : Int32).toBitVec from rfl, BitVec.msb_and, show (2147483647 : Int32).toBitVec.msb = false by decide, Bool.and_false]
  have h2 : (v &&& 2147483647).toBitVec.msb = decide ((v &&& 2147483647).toInt < 0) := BitVec.msb_eq_toInt
  rw [h] at h2
  exact of_decide_eq_false h2.symm
set_option maxHeartbeats 1000000 in
set_option maxRecDepth 100000 in
/-- part: a number of the script, or of the place alone, below n -/
theorem c_L_part (l : Launch) (b L : Nat) (xs : Nat → Int32) (hL : L ≤ 260) (k n : Nat) (hk : k < 2 ^ 31) (h0 : 0 < n) (hn : n < 2 ^ 31) : Met l yL_part (aw yL_part cL_part 4 (some .int)) ({ frames := 0, cells := 0, slots := 0, locals := 0 }) (va_Pc [.ref b, .int (nI k), .int (nI n)] (fun U => va_X b L xs U U.heap ∧ b < U.heap.size)) (va_Qi (fun r (j : Nat) => j < n ∧ r = nI j) (fun _ _ => True) (fun _ => False)) 0 0 (fun _ => False) := by
  refine Met.ofWF (cc := cL_part) (maxL := 4) (ret := some .int) (plainFor_of_name (by decide)) rfl ?_
  intro p e s m args below meth c s₁ B hml hv
  obtain ⟨rfl, hX, hbl⟩ := hv
  rw [lg_entry_eq]
  have hx := B.exec
  have hb := B.bytes
  have hr := B.returns
  have hlk := B.notSynchronized
  have hAW : ∀ w ∈ AW, w.before _ s = true := fun w h => atoms_spec (ws := aw yL_part cL_part 4 (some .int)) B.pre w (List.mem_cons_of_mem _ h)
  have hown : s.vm.findClass RL = some m.cls := findClass_of_methodNamed B.named
  have hS : va_S (fun _ => False) s.heap s.heap [] := va_S.rf
  have hbA : ¬ (fun _ : Nat => False) b := fun z => z
  have hl := lv_entry ([.ref b, .int (nI k), .int (nI n)]) (n := 4) (Nat.le_of_ble_eq_true rfl)
  generalize (lg_sl ([.ref b, .int (nI k), .int (nI n)]) ++ List.replicate (4 - (lg_sl ([.ref b, .int (nI k), .int (nI n)])).length) Slot.unset).toArray = ls at hl ⊢
  have hl : lv_has ls 4 [(0, .ref b), (1, .int (nI k)), (2, .int (nI n))] := hl
  have J24 : ∀ v : Int32, W p l e (headSpec (aw yL_part cL_part 4 (some .int)) ({ frames := 0, cells := 0, slots := 0, locals := 0 })).room s m #[Value.ref b, Value.int (nI k), Value.int (nI n)] below meth c s.heap [] 0 0 (MQ below (va_Qi (fun r (j : Nat) => j < n ∧ r = nI j) (fun _ _ => True) (fun _ => False)) #[Value.ref b, Value.int (nI k), Value.int (nI n)] s 0 0 (fun _ => False)) (F0 m 24 ls [.int v]) := by
    intro v
    obtain ⟨j, hj, ej⟩ := and_nn v
    refine lv_istore_n (lv' := [(3, .int v), (0, .ref b), (1, .int (nI k)), (2, .int (nI n))]) hx hb dL_part_24 rfl hl (by decide) rfl (fun ls hl => ?_)
    refine lv_iload_n hx hb dL_part_25 rfl (lv_at hl 0 rfl) ?_
    refine lv_ldc (v := 2147483647) hx hb hown (hAW _ q725) dL_part_26 ?_
    refine lv_iand hx hb dL_part_28 ?_
    rw [ej]
    refine lv_iload_n hx hb dL_part_29 rfl (lv_at hl 3 rfl) ?_
    refine n_irem (x := j) (y := n) hx hb hj h0 hn dL_part_30 ?_
    exact W.zret hx hb hr rfl (fun t ht hW => ⟨⟨nI (j % n), j % n, rfl, ⟨Nat.mod_lt _ h0, rfl⟩, trivial⟩, hS.F ht⟩) hS.2.2 dL_part_31 hlk
  refine lv_iload_n hx hb dL_part_0 rfl (lv_at hl 1 rfl) ?_
  refine lv_aload_n hx hb dL_part_1 rfl (lv_at hl 0 rfl) ?_
  refine va_slen hx hb hX hbl hbA hS dL_part_2 ?_
  refine n_icmp_ge (x := k) (y := L) (tgt := 12) hx hb hk (by omega) dL_part_3 (by decide) (fun c3 => ?_) (fun c3 => ?_)
  · refine lv_sipush (v := 227) hx hb dL_part_12 (by decide) ?_
    refine lv_iload_n hx hb dL_part_15 rfl (lv_at hl 1 rfl) ?_
    refine lv_imul hx hb dL_part_16 ?_
    refine lv_bipush (v := 103) hx hb dL_part_17 (by decide) ?_
    refine lv_iload_n hx hb dL_part_19 rfl (lv_at hl 1 rfl) ?_
    refine lv_imul hx hb dL_part_20 ?_
    refine lv_iload_n hx hb dL_part_21 rfl (lv_at hl 1 rfl) ?_
    refine lv_imul hx hb dL_part_22 ?_
    refine lv_iadd hx hb dL_part_23 ?_
    exact J24 _
  · refine lv_aload_n hx hb dL_part_6 rfl (lv_at hl 0 rfl) ?_
    refine lv_iload_n hx hb dL_part_7 rfl (lv_at hl 1 rfl) ?_
    refine va_sld hx hb hX hbl hbA hS (vp_in_nI c3 (by omega)) dL_part_8 ?_
    refine lv_goto (tgt := 24) hx hb dL_part_9 (by decide) ?_
    exact J24 _
theorem part_blind {b L : Nat} {xs : Nat → Int32} {av : List Value} : FrameBlind (va_Pc av (fun U => va_X b L xs U U.heap ∧ b < U.heap.size)) := fun a U g mk q => ⟨q.1, q.2.1.moved (u := U) (U := U.calling g mk a) (Vm.Alike.refl U.vm), q.2.2⟩
def cps (D : va_G) (cI cZ : ClassId) (sz : Nat) (av : List Value) (ws : va_W) (b L : Nat) (xs : Nat → Int32) : Array Value → State → Prop := fun a U => cph D cI cZ sz av ws a U ∧ va_X b L xs U U.heap ∧ ¬ va_A ws sz b
theorem cps_blind {D : va_G} {cI cZ : ClassId} {sz : Nat} {av : List Value} {ws : va_W} {b L : Nat} {xs : Nat → Int32} : FrameBlind (cps D cI cZ sz av ws b L xs) := fun a U g mk q => ⟨cph_blind a U g mk q.1, q.2.1.moved (u := U) (U := U.calling g mk a) (Vm.Alike.refl U.vm), q.2.2⟩
def Cs (l : Launch) (y : MethodName) (ws : List Cond) (rm : Room) (D : va_G) (cI cZ : ClassId) (av : List Value) (w0 : va_W) (b L : Nat) (xs : Nat → Int32) (Z : Int32 → va_W → Prop) (mc ms : Nat) : Prop := ∀ sz, Met l y ws rm (cps D cI cZ sz av w0 b L xs) (va_Qi (fun rr (u : va_W) => Z rr u ∧ u.map (·.1) = w0.map (·.1)) (fun u t => cb D u () t) (va_A w0 sz)) mc ms (va_A w0 sz)
section SCRIPT
variable {p : Program} {l : Launch} {e : Env} {R : Room} {s : State} {m : MethodId} {args : Array Value} {below : List Frame} {meth : Method} {c : Code} {H : Heap} {locs : List Loc} {cells slots : Nat} {Q : State → Prop}
variable {cc : ByteArray} {pc : Nat} {ls : Array Slot} {rest : List Value} {D : va_G} {cI cZ : ClassId} {A : Nat → Prop} {ws : va_W}
variable {nL n : Nat} {own : String} {y : MethodName} {bytes : ByteArray} {maxL index : Nat} {ret : Option FieldType} {rm : Room} {As st0 : List Value} {b L k mc ms : Nat} {xs : Nat → Int32} {wa w0 : va_W}
theorem mk_s {av : List Value} {Z : Int32 → va_W → Prop} (hy : plainFor y = true) (hn : (lg_sl av).length ≤ maxL)
    (body : ∀ (p : Program) (e : Env) (s : State) (m : MethodId) (args : Array Value) (below : List Frame) (meth : Method) (c : Code) (A : Nat → Prop) (Q : State → Prop) (R : Room), R = rm → Q = MQ below (va_Qi (fun rr (u : va_W) => Z rr u ∧ u.map (·.1) = w0.map (·.1)) (fun u t => cb D u () t) A) args s mc ms A → p.tables.exec = Jvm.exec → c.code = cc → meth.sig.returnType = ret → c.maxLocals = maxL → (∀ w ∈ AW, w.before args s = true) → s.vm.findClass y.cls = some m.cls → meth.locks = false → nwAll s → thr A s s.heap → va_Nc "java/lang/IllegalStateException" "java/lang/IllegalArgumentException" s → (∀ q, s.heap.size ≤ q → A q) → va_P D vwCl w0 s.heap → va_K D vwCl (ty2 cI cZ) s → va_D A w0 → va_S A s.heap s.heap [] → va_X b L xs s s.heap → ¬ A b → ∀ ls, lv_has ls maxL (lv_args 0 av) →
      W p l e R s m args below meth c s.heap [] 0 0 Q (F0 m 0 ls [])) : Cs l y (aw y cc maxL ret) rm D cI cZ av w0 b L xs Z mc ms := by
  intro sz
  refine Met.ofWF (cc := cc) (maxL := maxL) (ret := ret) hy rfl ?_
  intro p e s m args below meth c s₁ B hml hv
  obtain ⟨⟨rfl, hsz, hP, hK, hD0, hN, hT, hNc⟩, hX, hbA⟩ := hv
  subst hsz
  rw [lg_entry_eq]
  exact body p e s m _ below meth c _ _ _ rfl rfl B.exec B.bytes B.returns hml (fun w h => atoms_spec (ws := aw y cc maxL ret) B.pre w (List.mem_cons_of_mem _ h)) (findClass_of_methodNamed B.named) B.notSynchronized hN hT hNc (fun q h => Or.inr h) hP hK hD0.self va_S.rf hX hbA _ (lv_entry av hn)
theorem call_part (hx : p.tables.exec = Jvm.exec) (hb : c.code = cc) (hml : c.maxLocals = nL) (hown : s.vm.findClass own = some m.cls) (hts : ∀ w ∈ AW, w.before args s = true) (hL : L ≤ 260) (hX : va_X b L xs s s.heap) (hbl : b < s.heap.size) (hbA : ¬ A b) (k1 : Cond.methodLink own index yL_part ∈ AW) (k2 : Cond.static yL_part ∈ AW) (k4 : Cond.initialized yL_part.cls ∈ AW) (k5 : Cond.code yL_part cL_part 4 (some .int) ∈ AW) (hR1 : 10 ≤ R.frames) (hR2 : 200 ≤ R.locals)
    (hP : va_P D vwCl ws H) (hS : va_S A s.heap H locs) (hk : k < 2 ^ 31) (h0 : 0 < n) (hn : n < 2 ^ 31)
    (hsz : ls.size = nL) (hst : st0 = [.int (nI n), .int (nI k), .ref b] ++ rest) (hroom : 2 * (F0 m pc ls rest).monitorRoom + (rest.map fun v => v.category).sum ≤ 8) (hdg : decode cc pc = .ok (.invokestatic index, 3)) (hz1 : cells ≤ R.cells) (hz2 : slots ≤ R.slots)
    (kk : ∀ (j : Nat) (H1 : Heap) (locs1 : List Loc), j < n → va_P D vwCl ws H1 → va_S A s.heap H1 locs1 → W p l e R s m args below meth c H1 locs1 cells slots Q (F0 m (pc + 3) ls (.int (nI j) :: rest))) : W p l e R s m args below meth c H locs cells slots Q (F0 m pc ls st0) := by
  subst hst
  refine va_calli (va_runS (As := [.ref b, .int (nI k), .int (nI n)]) (rest := rest) ⟨hx, hb, hml, hown, hts⟩ (c_L_part l b L xs hL k n hk h0 hn) (cwSA 3 hts k1 k2 k4 k5 hd_L_part (Nat.le_trans (by decide) hR1) (Nat.le_trans (by decide) hR2) rfl rfl) ⟨part_blind, fun U hU hW => ⟨rfl, by rw [hU]; exact (hX.kept (hS.2.1 b hbl hbA)).moved hW.alike, by rw [hU]; exact Nat.lt_of_lt_of_le hbl hS.1⟩⟩ rfl rfl hsz rfl hroom hdg ⟨hz1, hz2⟩) hS (fun q _ h => h.elim) (fun q h => h.elim) (fun x u t H1 locs1 ht hvm hw9 hB hz1 hk1 hS1 => ?_)
  obtain ⟨h1, rfl⟩ := hw9
  exact kk u H1 locs1 h1 (fun i q h => (hP i q h).kept (hk1 q.1 (hP i q h).lt (fun z => z))) hS1
theorem call_Zs {C : String} {Z : Int32 → va_W → Prop} (hx : p.tables.exec = Jvm.exec) (hb : c.code = cc) (hml : c.maxLocals = nL) (hown : s.vm.findClass own = some m.cls) (hts : ∀ w ∈ AW, w.before args s = true) (hN : nwAll s) (hT : thr A s s.heap) (hNc : va_Nc "java/lang/IllegalStateException" "java/lang/IllegalArgumentException" s) (hM : Cs l y (aw y bytes maxL ret) rm D cI cZ As w0 b L xs Z mc ms) (k1 : Cond.methodLink own index y ∈ AW) (k2 : Cond.static y ∈ AW) (k4 : Cond.initialized y.cls ∈ AW) (k5 : Cond.code y bytes maxL ret ∈ AW) (hd : y.cls = C ∧ y.cls ≠ "java/lang/invoke/MethodHandle" ∧ y.cls ≠ "java/lang/invoke/VarHandle" ∧ (parseMethodDescriptor y.desc).map (fun d => d.parameters.length) = some n) (hR1 : rm.frames + 1 ≤ R.frames) (hR2 : 8 + (maxL + 11) + rm.locals ≤ R.locals) (m3 : rm.cells = mc) (m4 : rm.slots = ms)
    (hX : va_X b L xs s s.heap) (hbl : b < s.heap.size) (hbA : ¬ A b) (hK : va_K D vwCl (ty2 cI cZ) s) (hP : va_P D vwCl w0 H) (hD : va_D A w0) (hS : va_S A s.heap H locs) (hA : ∀ q, s.heap.size ≤ q → A q)
    (hnn : As.length = n) (hsz : ls.size = nL) (hst : st0 = As.reverse ++ rest) (hroom : 2 * (F0 m pc ls rest).monitorRoom + (rest.map fun v => v.category).sum ≤ 8) (hdg : decode cc pc = .ok (.invokestatic index, 3)) (hz1 : cells + mc ≤ R.cells) (hz2 : slots + ms ≤ R.slots)
    (kk : ∀ (x : Int32) (w1 : va_W) (H1 : Heap) (locs1 : List Loc), Z x w1 → w1.map (·.1) = w0.map (·.1) → va_P D vwCl w1 H1 → va_D A w1 → va_S A s.heap H1 locs1 → W p l e R s m args below meth c H1 locs1 (cells + mc) (slots + ms) Q (F0 m (pc + 3) ls (.int x :: rest))) : W p l e R s m args below meth c H locs cells slots Q (F0 m pc ls st0) := by
  subst hst
  have hP9 : va_P D vwCl ([] ++ (w0 ++ [])) H := by rw [List.append_nil]; exact hP
  have hD9 : va_D A ([] ++ (w0 ++ [])) := by rw [List.append_nil]; exact hD
  have hF := fr_free hD9 hS hA
  refine va_calli (va_runS (As := As) (rest := rest) ⟨hx, hb, hml, hown, hts⟩ (hM H.size) (cwSAx n hts k1 k2 k4 k5 hd hR1 hR2 m3 m4) ⟨cps_blind, fun U hU hW => ⟨⟨rfl, by rw [hU], by rw [hU]; exact hP, va_K.moved hW.alike hK, hD.weaken (fun _ _ _ _ => trivial), hN.warm hW, by rw [hU]; exact thr.go hS hF hW hT, hNc.moved hW.alike⟩, by rw [hU]; exact (hX.kept (hS.2.1 b hbl hbA)).moved hW.alike, fun z => hbA (hF b z)⟩⟩ rfl hnn hsz rfl hroom hdg ⟨hz1, hz2⟩) hS (fun q _ h => hF q h) hF (fun x u t H1 locs1 ht hvm hz hB hz1 hk1 hS1 => ?_)
  subst ht
  exact kk x u _ _ hz.1 hz.2 hB (hD.addr hz.2) hS1
end SCRIPT
