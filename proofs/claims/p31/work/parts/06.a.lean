/-! the law's own helpers: a call of the finder, its answer laid into a row of one, or the number of what it threw -/
theorem vaP_in {D : va_G} {cl : List vw_C} {ws : va_W} {H : Heap} : va_P D cl ws H ↔ ∀ q ∈ ws, va_at D cl q H := by
  constructor
  · intro h q hq
    obtain ⟨k, hk⟩ := List.getElem?_of_mem hq
    exact h k q hk
  · intro h k q hk
    exact h q (List.mem_of_getElem? hk)
theorem vaP_parts {D : va_G} {cl : List vw_C} {wa w0 wb : va_W} {H : Heap} (h : va_P D cl (wa ++ (w0 ++ wb)) H) : va_P D cl wa H ∧ va_P D cl w0 H ∧ va_P D cl wb H := by
  rw [vaP_in] at h
  refine ⟨vaP_in.mpr fun q hq => h q ?_, vaP_in.mpr fun q hq => h q ?_, vaP_in.mpr fun q hq => h q ?_⟩ <;> simp [hq]
theorem vaP_join {D : va_G} {cl : List vw_C} {wa w0 wb : va_W} {H : Heap} (h1 : va_P D cl wa H) (h2 : va_P D cl w0 H) (h3 : va_P D cl wb H) : va_P D cl (wa ++ (w0 ++ wb)) H := by
  rw [vaP_in] at h1 h2 h3 ⊢
  intro q hq
  simp only [List.mem_append] at hq
  rcases hq with z | z | z
  · exact h1 q z
  · exact h2 q z
  · exact h3 q z
theorem vaD_mid {A : Nat → Prop} {wa w0 wb : va_W} (h : va_D A (wa ++ (w0 ++ wb))) : va_D A w0 := by
  have g : ∀ (k : Nat) (q : Nat × va_E), w0[k]? = some q → (wa ++ (w0 ++ wb))[wa.length + k]? = some q := by
    intro k q hk
    have hl : k < w0.length := (List.getElem?_eq_some_iff.mp hk).1
    rw [List.getElem?_append_right (by omega), Nat.add_sub_cancel_left, List.getElem?_append_left hl, hk]
  refine ⟨fun i j x y hi hj hxy => ?_, fun k q hk => h.2 _ q (g k q hk)⟩
  have := h.1 _ _ x y (g i x hi) (g j y hj) hxy
  omega
theorem fr_free {A : Nat → Prop} {wa w0 wb : va_W} {H0 H : Heap} {locs : List Loc} (hD : va_D A (wa ++ (w0 ++ wb))) (hS : va_S A H0 H locs) (hA : ∀ q, H0.size ≤ q → A q) : ∀ q, va_A w0 H.size q → A q := by
  rintro q (⟨k, e, h⟩ | h)
  · exact (vaD_mid hD).2 k (q, e) h
  · exact hA q (Nat.le_trans hS.1 h)
theorem fr_rest {A : Nat → Prop} {D : va_G} {cl : List vw_C} {wa w0 w1 wb : va_W} {H H1 : Heap} (hP : va_P D cl (wa ++ (w0 ++ wb)) H) (hD : va_D A (wa ++ (w0 ++ wb))) (hk : ∀ q : Nat, q < H.size → ¬ va_A w0 H.size q → H1[q]? = H[q]?) (h1 : va_P D cl w1 H1) : va_P D cl (wa ++ (w1 ++ wb)) H1 := by
  obtain ⟨ha, -, hb⟩ := vaP_parts hP
  have key : ∀ (i : Nat) (q : Nat × va_E), (wa ++ (w0 ++ wb))[i]? = some q → (i < wa.length ∨ wa.length + w0.length ≤ i) → va_at D cl q H1 := by
    intro i q hi hout
    have hlt := (hP i q hi).lt
    refine (hP i q hi).kept (hk q.1 hlt ?_)
    rintro (⟨k2, e, h3⟩ | h3)
    · have hl : k2 < w0.length := (List.getElem?_eq_some_iff.mp h3).1
      have h4 : (wa ++ (w0 ++ wb))[wa.length + k2]? = some (q.1, e) := by
        rw [List.getElem?_append_right (by omega), Nat.add_sub_cancel_left, List.getElem?_append_left hl, h3]
      have := hD.1 i _ q (q.1, e) hi h4 rfl
      omega
    · omega
  refine vaP_join (fun k q h => ?_) h1 (fun k q h => ?_)
  · have hl : k < wa.length := (List.getElem?_eq_some_iff.mp h).1
    exact key k q (by rw [List.getElem?_append_left hl, h]) (Or.inl hl)
  · exact key (wa.length + w0.length + k) q (by rw [List.getElem?_append_right (by omega), List.getElem?_append_right (by omega)]; rw [← h]; congr 1; omega) (Or.inr (by omega))
theorem fr_D {A : Nat → Prop} {wa w0 w1 wb : va_W} (hD : va_D A (wa ++ (w0 ++ wb))) (hw : w1.map (·.1) = w0.map (·.1)) : va_D A (wa ++ (w1 ++ wb)) := hD.addr (by simp only [List.map_append, hw])

def cph (D : va_G) (cI cZ : ClassId) (sz : Nat) (av : List Value) (ws : va_W) : Array Value → State → Prop := va_Pc av (fun U => U.heap.size = sz ∧ va_P D vwCl ws U.heap ∧ va_K D vwCl (ty2 cI cZ) U ∧ va_D (fun _ => True) ws ∧ nwAll U ∧ thr (va_A ws sz) U U.heap ∧ va_Nc "java/lang/IllegalStateException" "java/lang/IllegalArgumentException" U)
theorem cph_blind {D : va_G} {cI cZ : ClassId} {sz : Nat} {av : List Value} {ws : va_W} : FrameBlind (cph D cI cZ sz av ws) := by
  intro a U g mk q
  obtain ⟨q0, q1, qP, qK, qD, qN, qT, qC⟩ := q
  exact ⟨q0, q1, qP, va_K.moved (u := U) (U := U.calling g mk a) (Vm.Alike.refl U.vm) qK, qD, nwAll.same (u := U) (U := U.calling g mk a) rfl qN, ⟨qT.1.moved (u := U) (U := U.calling g mk a) (Vm.Alike.refl U.vm), qT.2.1.moved (u := U) (U := U.calling g mk a) (Vm.Alike.refl U.vm), qT.2.2.same (s := U) (U := U.calling g mk a) rfl⟩, qC.moved (u := U) (U := U.calling g mk a) (Vm.Alike.refl U.vm)⟩
abbrev awh (y : MethodName) (c : ByteArray) (n : Nat) (ret : Option FieldType) (hh : List (Nat × Nat × Nat × Nat)) : List Cond := Cond.codeWith y c n ret hh :: AW
def Ch (l : Launch) (y : MethodName) (ws : List Cond) (rm : Room) (D : va_G) (cI cZ : ClassId) (av : List Value) (w0 w1 : va_W) (r : Int32) (mc ms : Nat) : Prop := ∀ sz, vx_Met l y ws rm (cph D cI cZ sz av w0) (va_Qi (fun rr (_ : Unit) => rr = r) (cb D w1) (va_A w0 sz)) (vx_X (fun (_ : Unit) => False) (fun _ _ _ => True) (va_A w0 sz)) mc ms (va_A w0 sz)
def Chf (l : Launch) (y : MethodName) (ws : List Cond) (rm : Room) (D : va_G) (cI cZ : ClassId) (av : List Value) (w0 w1 : va_W) (r : UInt32) (mc ms : Nat) : Prop := ∀ sz, vx_Met l y ws rm (cph D cI cZ sz av w0) (va_Qf (fun rr (_ : Unit) => rr = r) (cb D w1) (va_A w0 sz)) (vx_X (fun (_ : Unit) => False) (fun _ _ _ => True) (va_A w0 sz)) mc ms (va_A w0 sz)
/-- a method of the law: its answer and the world behind it stand in a relation -/
def Cz (l : Launch) (y : MethodName) (ws : List Cond) (rm : Room) (D : va_G) (cI cZ : ClassId) (av : List Value) (w0 : va_W) (Z : Int32 → va_W → Prop) (mc ms : Nat) : Prop := ∀ sz, Met l y ws rm (cph D cI cZ sz av w0) (va_Qi (fun rr (u : va_W) => Z rr u ∧ u.map (·.1) = w0.map (·.1)) (fun u t => cb D u () t) (va_A w0 sz)) mc ms (va_A w0 sz)
section HELPERS
variable {p : Program} {l : Launch} {e : Env} {R : Room} {s : State} {m : MethodId} {args : Array Value} {below : List Frame} {meth : Method} {c : Code} {H : Heap} {locs : List Loc} {cells slots : Nat} {Q : State → Prop}
variable {cc : ByteArray} {pc : Nat} {ls : Array Slot} {rest : List Value} {D : va_G} {cI cZ : ClassId} {A : Nat → Prop} {ws : va_W}

theorem mk_h {y : MethodName} {rm : Room} {av : List Value} {w0 w1 : va_W} {maxL mc ms : Nat} {r : Int32} {hh : List (Nat × Nat × Nat × Nat)} (hy : plainName y.cls = true) (hn : (lg_sl av).length ≤ maxL)
    (body : ∀ (p : Program) (e : Env) (s : State) (m : MethodId) (args : Array Value) (below : List Frame) (meth : Method) (c : Code) (A : Nat → Prop) (Q : State → Prop) (R : Room), R = rm → Q = vx_MQ below (va_Qi (fun rr (_ : Unit) => rr = r) (cb D w1) A) (vx_X (fun (_ : Unit) => False) (fun _ _ _ => True) A) args s mc ms A → p.tables.exec = Jvm.exec → c.code = cc → meth.sig.returnType = some .int → c.maxLocals = maxL → (∀ w ∈ AW, w.before args s = true) → s.vm.findClass y.cls = some m.cls → meth.locks = false → c.exceptionTable.toList = tableOf hh → nwAll s → thr A s s.heap → va_Nc "java/lang/IllegalStateException" "java/lang/IllegalArgumentException" s → (∀ q, s.heap.size ≤ q → A q) → va_P D vwCl w0 s.heap → va_K D vwCl (ty2 cI cZ) s → va_D A w0 → va_S A s.heap s.heap [] → ∀ ls, lv_has ls maxL (lv_args 0 av) →
      W p l e R s m args below meth c s.heap [] 0 0 Q (F0 m 0 ls [])) : Ch l y (awh y cc maxL (some .int) hh) rm D cI cZ av w0 w1 r mc ms := by
  intro sz
  refine vx_ofWH (cc := cc) (maxL := maxL) (ret := some .int) (hh := hh) hy rfl ?_
  intro p e s m args below meth c s₁ B hml hv
  obtain ⟨rfl, hsz, hP, hK, hD0, hN, hT, hNc⟩ := hv
  subst hsz
  rw [lg_entry_eq]
  have hpre := atoms_spec (ws := awh y cc maxL (some .int) hh) B.pre
  exact body p e s m _ below meth c _ _ _ rfl rfl B.exec B.bytes B.returns hml (fun w h => hpre w (List.mem_cons_of_mem _ h)) (findClass_of_methodNamed B.named) B.notSynchronized (vx_table (x := y) B (hpre _ List.mem_cons_self)) hN hT hNc (fun q h => Or.inr h) hP hK hD0.self va_S.rf _ (lv_entry av hn)
theorem mk_hf {y : MethodName} {rm : Room} {av : List Value} {w0 w1 : va_W} {maxL mc ms : Nat} {r : UInt32} {hh : List (Nat × Nat × Nat × Nat)} (hy : plainName y.cls = true) (hn : (lg_sl av).length ≤ maxL)
    (body : ∀ (p : Program) (e : Env) (s : State) (m : MethodId) (args : Array Value) (below : List Frame) (meth : Method) (c : Code) (A : Nat → Prop) (Q : State → Prop) (R : Room), R = rm → Q = vx_MQ below (va_Qf (fun rr (_ : Unit) => rr = r) (cb D w1) A) (vx_X (fun (_ : Unit) => False) (fun _ _ _ => True) A) args s mc ms A → p.tables.exec = Jvm.exec → c.code = cc → meth.sig.returnType = some .float → c.maxLocals = maxL → (∀ w ∈ AW, w.before args s = true) → s.vm.findClass y.cls = some m.cls → meth.locks = false → c.exceptionTable.toList = tableOf hh → nwAll s → thr A s s.heap → va_Nc "java/lang/IllegalStateException" "java/lang/IllegalArgumentException" s → (∀ q, s.heap.size ≤ q → A q) → va_P D vwCl w0 s.heap → va_K D vwCl (ty2 cI cZ) s → va_D A w0 → va_S A s.heap s.heap [] → ∀ ls, lv_has ls maxL (lv_args 0 av) →
      W p l e R s m args below meth c s.heap [] 0 0 Q (F0 m 0 ls [])) : Chf l y (awh y cc maxL (some .float) hh) rm D cI cZ av w0 w1 r mc ms := by
  intro sz
  refine vx_ofWH (cc := cc) (maxL := maxL) (ret := some .float) (hh := hh) hy rfl ?_
  intro p e s m args below meth c s₁ B hml hv
  obtain ⟨rfl, hsz, hP, hK, hD0, hN, hT, hNc⟩ := hv
  subst hsz
  rw [lg_entry_eq]
  have hpre := atoms_spec (ws := awh y cc maxL (some .float) hh) B.pre
  exact body p e s m _ below meth c _ _ _ rfl rfl B.exec B.bytes B.returns hml (fun w h => hpre w (List.mem_cons_of_mem _ h)) (findClass_of_methodNamed B.named) B.notSynchronized (vx_table (x := y) B (hpre _ List.mem_cons_self)) hN hT hNc (fun q h => Or.inr h) hP hK hD0.self va_S.rf _ (lv_entry av hn)
theorem fin_h {v r : Int32} {w1 w2 : va_W} {mc ms : Nat} (hx : p.tables.exec = Jvm.exec) (hb : c.code = cc) (hr : meth.sig.returnType = some .int) (hlk : meth.locks = false) (hP : va_P D vwCl w2 H) (hS : va_S A s.heap H locs) (hv : v = r) (hw : w2 = w1) (hQ : Q = vx_MQ below (va_Qi (fun rr (_ : Unit) => rr = r) (cb D w1) A) (vx_X (fun (_ : Unit) => False) (fun _ _ _ => True) A) args s mc ms A) (hdg : decode cc pc = .ok (.ireturn, 1)) :
    W p l e R s m args below meth c H locs mc ms Q (F0 m pc ls [.int v]) := by
  subst hw; subst hQ
  exact vx_ret (W.zret hx hb hr rfl (fun t ht hW => ⟨⟨v, (), rfl, hv, by rw [← ht] at hP; exact hP⟩, hS.F ht⟩) hS.2.2 hdg hlk)
theorem fin_hf {v r : UInt32} {w1 w2 : va_W} {mc ms : Nat} (hx : p.tables.exec = Jvm.exec) (hb : c.code = cc) (hr : meth.sig.returnType = some .float) (hlk : meth.locks = false) (hP : va_P D vwCl w2 H) (hS : va_S A s.heap H locs) (hv : v = r) (hw : w2 = w1) (hQ : Q = vx_MQ below (va_Qf (fun rr (_ : Unit) => rr = r) (cb D w1) A) (vx_X (fun (_ : Unit) => False) (fun _ _ _ => True) A) args s mc ms A) (hdg : decode cc pc = .ok (.freturn, 1)) :
    W p l e R s m args below meth c H locs mc ms Q (F0 m pc ls [.float v]) := by
  subst hw; subst hQ
  exact vx_ret (W.fret hx hb hr (fun t ht hW => ⟨⟨v, (), rfl, hv, by rw [← ht] at hP; exact hP⟩, hS.F ht⟩) hS.2.2 hdg hlk)
theorem mk_z {y : MethodName} {rm : Room} {av : List Value} {w0 : va_W} {maxL mc ms : Nat} {ret : Option FieldType} {Z : Int32 → va_W → Prop} (hy : plainFor y = true) (hn : (lg_sl av).length ≤ maxL)
    (body : ∀ (p : Program) (e : Env) (s : State) (m : MethodId) (args : Array Value) (below : List Frame) (meth : Method) (c : Code) (A : Nat → Prop) (Q : State → Prop) (R : Room), R = rm → Q = MQ below (va_Qi (fun rr (u : va_W) => Z rr u ∧ u.map (·.1) = w0.map (·.1)) (fun u t => cb D u () t) A) args s mc ms A → p.tables.exec = Jvm.exec → c.code = cc → meth.sig.returnType = ret → c.maxLocals = maxL → (∀ w ∈ AW, w.before args s = true) → s.vm.findClass y.cls = some m.cls → meth.locks = false → nwAll s → thr A s s.heap → va_Nc "java/lang/IllegalStateException" "java/lang/IllegalArgumentException" s → (∀ q, s.heap.size ≤ q → A q) → va_P D vwCl w0 s.heap → va_K D vwCl (ty2 cI cZ) s → va_D A w0 → va_S A s.heap s.heap [] → ∀ ls, lv_has ls maxL (lv_args 0 av) →
      W p l e R s m args below meth c s.heap [] 0 0 Q (F0 m 0 ls [])) : Cz l y (aw y cc maxL ret) rm D cI cZ av w0 Z mc ms := by
  intro sz
  refine Met.ofWF (cc := cc) (maxL := maxL) (ret := ret) hy rfl ?_
  intro p e s m args below meth c s₁ B hml hv
  obtain ⟨rfl, hsz, hP, hK, hD0, hN, hT, hNc⟩ := hv
  subst hsz
  rw [lg_entry_eq]
  exact body p e s m _ below meth c _ _ _ rfl rfl B.exec B.bytes B.returns hml (fun w h => atoms_spec (ws := aw y cc maxL ret) B.pre w (List.mem_cons_of_mem _ h)) (findClass_of_methodNamed B.named) B.notSynchronized hN hT hNc (fun q h => Or.inr h) hP hK hD0.self va_S.rf _ (lv_entry av hn)
theorem fin_z {ty : FieldType} {v : Int32} {w0 w2 : va_W} {mc ms : Nat} {Z : Int32 → va_W → Prop} (hx : p.tables.exec = Jvm.exec) (hb : c.code = cc) (hr : meth.sig.returnType = some ty) (hlk : meth.locks = false) (hP : va_P D vwCl w2 H) (hS : va_S A s.heap H locs) (hn : narrow ty (.int v) = .int v) (hz : Z v w2) (hw : w2.map (·.1) = w0.map (·.1)) (hQ : Q = MQ below (va_Qi (fun rr (u : va_W) => Z rr u ∧ u.map (·.1) = w0.map (·.1)) (fun u t => cb D u () t) A) args s mc ms A) (hdg : decode cc pc = .ok (.ireturn, 1)) :
    W p l e R s m args below meth c H locs mc ms Q (F0 m pc ls [.int v]) := by
  subst hQ
  exact W.zret hx hb hr hn (fun t ht hW => ⟨⟨v, w2, rfl, ⟨hz, hw⟩, by rw [← ht] at hP; exact hP⟩, hS.F ht⟩) hS.2.2 hdg hlk
variable {nL n : Nat} {Ts wl : List Cond} {own C : String} {y : MethodName} {bytes : ByteArray} {maxL index : Nat} {ret : Option FieldType} {rm : Room} {As st0 : List Value} {b ci mc ms : Nat} {wa w0 w1 wb : va_W} {E : String}
variable {r : Int32} {rf : UInt32}

theorem call_Ri (hx : p.tables.exec = Jvm.exec) (hb : c.code = cc) (hml : c.maxLocals = nL) (hown : s.vm.findClass own = some m.cls) (hts : ∀ w ∈ Ts, w.before args s = true) (hN : nwAll s) (hM : Ci l y wl rm D cI cZ (.ref b :: As) w0 w1 r) (cw : CallW R s args own C index y bytes maxL ret wl rm 0 0 n)
    (hK : va_K D vwCl (ty2 cI cZ) s) (hP : va_P D vwCl (wa ++ (w0 ++ wb)) H) (hD : va_D A (wa ++ (w0 ++ wb))) (hS : va_S A s.heap H locs) (hA : ∀ q, s.heap.size ≤ q → A q) (hq : ∃ fs, w0[0]? = some (b, .inr (ci, fs))) (hw : w1.map (·.1) = w0.map (·.1)) {q : vw_C} (hc : vwCl[ci]? = some q) (hqC : q.1 = C)
    (hnn : As.length = n) (hsz : ls.size = nL) (hst : st0 = As.reverse ++ .ref b :: rest) (hroom : 2 * (F0 m pc ls rest).monitorRoom + (rest.map fun v => v.category).sum ≤ 8) (hdg : decode cc pc = .ok (.invokevirtual index, 3)) (hz1 : cells ≤ R.cells) (hz2 : slots ≤ R.slots)
    (kk : ∀ (H1 : Heap) (locs1 : List Loc), va_P D vwCl (wa ++ (w1 ++ wb)) H1 → va_D A (wa ++ (w1 ++ wb)) → va_S A s.heap H1 locs1 → W p l e R s m args below meth c H1 locs1 cells slots Q (F0 m (pc + 3) ls (.int r :: rest))) : W p l e R s m args below meth c H locs cells slots Q (F0 m pc ls st0) := by
  subst hst
  obtain ⟨fs, hq⟩ := hq
  have hF := fr_free hD hS hA
  have hP0 := (vaP_parts hP).2.1
  refine va_calli (va_runV (As := As) (rest := rest) ⟨hx, hb, hml, hown, hts⟩ (hM H.size) cw ⟨cp_blind, hqC ▸ va_recv hK hP0 hc hq, fun U hU hW => ⟨rfl, by rw [hU], by rw [hU]; exact hP0, va_K.moved hW.alike hK, (vaD_mid hD).weaken (fun _ _ _ _ => trivial), hN.warm hW⟩⟩ rfl hnn hsz rfl hroom hdg ⟨hz1, hz2⟩) hS (fun q _ h => hF q h) hF (fun x u t H1 locs1 ht hvm hw9 hB hz1 hk1 hS1 => ?_)
  subst hw9
  subst ht
  exact kk _ _ (fr_rest hP hD hk1 hB) (fr_D hD hw) hS1
theorem call_Rv (hx : p.tables.exec = Jvm.exec) (hb : c.code = cc) (hml : c.maxLocals = nL) (hown : s.vm.findClass own = some m.cls) (hts : ∀ w ∈ Ts, w.before args s = true) (hN : nwAll s) (hM : Cv l y wl rm D cI cZ (.ref b :: As) w0 w1) (cw : CallW R s args own C index y bytes maxL ret wl rm 0 0 n)
    (hK : va_K D vwCl (ty2 cI cZ) s) (hP : va_P D vwCl (wa ++ (w0 ++ wb)) H) (hD : va_D A (wa ++ (w0 ++ wb))) (hS : va_S A s.heap H locs) (hA : ∀ q, s.heap.size ≤ q → A q) (hq : ∃ fs, w0[0]? = some (b, .inr (ci, fs))) (hw : w1.map (·.1) = w0.map (·.1)) {q : vw_C} (hc : vwCl[ci]? = some q) (hqC : q.1 = C)
    (hnn : As.length = n) (hsz : ls.size = nL) (hst : st0 = As.reverse ++ .ref b :: rest) (hroom : 2 * (F0 m pc ls rest).monitorRoom + (rest.map fun v => v.category).sum ≤ 8) (hdg : decode cc pc = .ok (.invokevirtual index, 3)) (hz1 : cells ≤ R.cells) (hz2 : slots ≤ R.slots)
    (kk : ∀ (H1 : Heap) (locs1 : List Loc), va_P D vwCl (wa ++ (w1 ++ wb)) H1 → va_D A (wa ++ (w1 ++ wb)) → va_S A s.heap H1 locs1 → W p l e R s m args below meth c H1 locs1 cells slots Q (F0 m (pc + 3) ls rest)) : W p l e R s m args below meth c H locs cells slots Q (F0 m pc ls st0) := by
  subst hst
  obtain ⟨fs, hq⟩ := hq
  have hF := fr_free hD hS hA
  have hP0 := (vaP_parts hP).2.1
  refine va_callv (va_runV (As := As) (rest := rest) ⟨hx, hb, hml, hown, hts⟩ (hM H.size) cw ⟨cp_blind, hqC ▸ va_recv hK hP0 hc hq, fun U hU hW => ⟨rfl, by rw [hU], by rw [hU]; exact hP0, va_K.moved hW.alike hK, (vaD_mid hD).weaken (fun _ _ _ _ => trivial), hN.warm hW⟩⟩ rfl hnn hsz rfl hroom hdg ⟨hz1, hz2⟩) hS (fun q _ h => hF q h) hF (fun u t H1 locs1 ht hvm hw9 hB hz1 hk1 hS1 => ?_)
  subst ht
  exact kk _ _ (fr_rest hP hD hk1 hB) (fr_D hD hw) hS1
theorem call_Rf (hx : p.tables.exec = Jvm.exec) (hb : c.code = cc) (hml : c.maxLocals = nL) (hown : s.vm.findClass own = some m.cls) (hts : ∀ w ∈ Ts, w.before args s = true) (hN : nwAll s) (hM : Cf l y wl rm D cI cZ (.ref b :: As) w0 w1 rf) (cw : CallW R s args own C index y bytes maxL ret wl rm 0 0 n)
    (hK : va_K D vwCl (ty2 cI cZ) s) (hP : va_P D vwCl (wa ++ (w0 ++ wb)) H) (hD : va_D A (wa ++ (w0 ++ wb))) (hS : va_S A s.heap H locs) (hA : ∀ q, s.heap.size ≤ q → A q) (hq : ∃ fs, w0[0]? = some (b, .inr (ci, fs))) (hw : w1.map (·.1) = w0.map (·.1)) {q : vw_C} (hc : vwCl[ci]? = some q) (hqC : q.1 = C)
    (hnn : As.length = n) (hsz : ls.size = nL) (hst : st0 = As.reverse ++ .ref b :: rest) (hroom : 2 * (F0 m pc ls rest).monitorRoom + (rest.map fun v => v.category).sum ≤ 8) (hdg : decode cc pc = .ok (.invokevirtual index, 3)) (hz1 : cells ≤ R.cells) (hz2 : slots ≤ R.slots)
    (kk : ∀ (H1 : Heap) (locs1 : List Loc), va_P D vwCl (wa ++ (w1 ++ wb)) H1 → va_D A (wa ++ (w1 ++ wb)) → va_S A s.heap H1 locs1 → W p l e R s m args below meth c H1 locs1 cells slots Q (F0 m (pc + 3) ls (.float rf :: rest))) : W p l e R s m args below meth c H locs cells slots Q (F0 m pc ls st0) := by
  subst hst
  obtain ⟨fs, hq⟩ := hq
  have hF := fr_free hD hS hA
  have hP0 := (vaP_parts hP).2.1
  refine va_callf (va_runV (As := As) (rest := rest) ⟨hx, hb, hml, hown, hts⟩ (hM H.size) cw ⟨cp_blind, hqC ▸ va_recv hK hP0 hc hq, fun U hU hW => ⟨rfl, by rw [hU], by rw [hU]; exact hP0, va_K.moved hW.alike hK, (vaD_mid hD).weaken (fun _ _ _ _ => trivial), hN.warm hW⟩⟩ rfl hnn hsz rfl hroom hdg ⟨hz1, hz2⟩) hS (fun q _ h => hF q h) hF (fun x u t H1 locs1 ht hvm hw9 hB hz1 hk1 hS1 => ?_)
  subst hw9
  subst ht
  exact kk _ _ (fr_rest hP hD hk1 hB) (fr_D hD hw) hS1

theorem call_Rx (hx : p.tables.exec = Jvm.exec) (hb : c.code = cc) (hml : c.maxLocals = nL) (hown : s.vm.findClass own = some m.cls) (hts : ∀ w ∈ Ts, w.before args s = true) (hN : nwAll s) (hT : thr A s s.heap) (hM : Cx E l y wl rm D cI cZ (.ref b :: As) w0 w1) (cw : CallW R s args own C index y bytes maxL ret wl rm 1 6 n)
    (hK : va_K D vwCl (ty2 cI cZ) s) (hP : va_P D vwCl (wa ++ (w0 ++ wb)) H) (hD : va_D A (wa ++ (w0 ++ wb))) (hS : va_S A s.heap H locs) (hA : ∀ q, s.heap.size ≤ q → A q) (hq : ∃ fs, w0[0]? = some (b, .inr (ci, fs))) (hw : w1.map (·.1) = w0.map (·.1)) {q : vw_C} (hc : vwCl[ci]? = some q) (hqC : q.1 = C)
    (hnn : As.length = n) (hsz : ls.size = nL) (hst : st0 = As.reverse ++ .ref b :: rest) (hroom : 2 * (F0 m pc ls rest).monitorRoom + (rest.map fun v => v.category).sum ≤ 8) (hdg : decode cc pc = .ok (.invokevirtual index, 3)) (hz1 : cells + 1 ≤ R.cells) (hz2 : slots + 6 ≤ R.slots)
    (kx : ∀ (ce : Cell) (q9 : Addr) (H1 : Heap) (locs1 : List Loc), va_P D vwCl (wa ++ (w1 ++ wb)) H1 → va_D A (wa ++ (w1 ++ wb)) → va_S A s.heap H1 locs1 → H1[q9]? = some ce → ce.vm = .none → s.vm.findClass E = some ce.cls → vx_W p l e R s m args below meth c H1 locs1 (cells + 1) (slots + 6) Q (F0 m pc ls rest) q9) : W p l e R s m args below meth c H locs cells slots Q (F0 m pc ls st0) := by
  subst hst
  obtain ⟨fs, hq⟩ := hq
  have hF := fr_free hD hS hA
  have hP0 := (vaP_parts hP).2.1
  refine vx_callv (vx_runV (As := As) (rest := rest) ⟨hx, hb, hml, hown, hts⟩ (hM H.size) cw ⟨cpx_blind, hqC ▸ va_recv hK hP0 hc hq, fun U hU hW => ⟨⟨rfl, by rw [hU], by rw [hU]; exact hP0, va_K.moved hW.alike hK, (vaD_mid hD).weaken (fun _ _ _ _ => trivial), hN.warm hW⟩, by rw [hU]; exact thr.go hS hF hW hT⟩⟩ rfl hnn hsz rfl hroom hdg ⟨hz1, hz2⟩) hS (fun q _ h => hF q h) hF (fun q _ h => hF q h)
    (fun E' ce q9 u t H1 locs1 ht hvm hpx hBX hz1 hk1 hS1 h1 h2 h3 => ?_) (fun u t H1 locs1 ht hvm hf _ _ _ _ => hf.elim)
  obtain ⟨rfl, hP1⟩ := hBX
  rw [ht] at hP1
  exact kx ce q9 H1 locs1 (fr_rest hP hD hk1 hP1) (fr_D hD hw) hS1 h1 h2 h3
theorem cwSH {index maxL mc ms : Nat} {y : MethodName} {bytes : ByteArray} {rm : Room} {hh : List (Nat × Nat × Nat × Nat)} (n : Nat) (ht : ∀ w ∈ AW, w.before args s = true) (h1 : Cond.methodLink own index y ∈ AW) (h2 : Cond.static y ∈ AW) (h4 : Cond.initialized y.cls ∈ AW) (h5 : Cond.codeWith y bytes maxL ret hh ∈ AW) (hd : y.cls = C ∧ y.cls ≠ "java/lang/invoke/MethodHandle" ∧ y.cls ≠ "java/lang/invoke/VarHandle" ∧ (parseMethodDescriptor y.desc).map (fun d => d.parameters.length) = some n) (hR1 : rm.frames + 1 ≤ R.frames) (hR2 : 8 + (maxL + 11) + rm.locals ≤ R.locals) (hc : rm.cells = mc) (hs : rm.slots = ms) :
    vx_CSW R s args own index y bytes maxL ret hh (awh y bytes maxL ret hh) rm mc ms n :=
  vx_cwSW (Ts := AW) n ht (fun w hw => by
    rcases List.mem_append.mp hw with h | h
    · simp only [List.mem_cons, List.not_mem_nil, or_false] at h
      rcases h with rfl | rfl | rfl
      · exact ⟨h1, good_of_word (aw_good h1)⟩
      · exact ⟨h2, good_of_word (aw_good h2)⟩
      · exact ⟨h4, good_of_word (aw_good h4)⟩
    · rcases List.mem_cons.mp h with rfl | h
      · exact ⟨h5, good_of_word (aw_good h5)⟩
      · exact ⟨h, good_of_word (aw_good h)⟩) rfl hc hs hd.2 ⟨hR1, hR2⟩
theorem call_H {hh : List (Nat × Nat × Nat × Nat)} (hx : p.tables.exec = Jvm.exec) (hb : c.code = cc) (hml : c.maxLocals = nL) (hown : s.vm.findClass own = some m.cls) (hts : ∀ w ∈ Ts, w.before args s = true) (hN : nwAll s) (hT : thr A s s.heap) (hNc : va_Nc "java/lang/IllegalStateException" "java/lang/IllegalArgumentException" s) (hM : Ch l y wl rm D cI cZ As w0 w1 r mc ms) (cw : vx_CSW R s args own index y bytes maxL ret hh wl rm mc ms n)
    (hK : va_K D vwCl (ty2 cI cZ) s) (hP : va_P D vwCl (wa ++ (w0 ++ wb)) H) (hD : va_D A (wa ++ (w0 ++ wb))) (hS : va_S A s.heap H locs) (hA : ∀ q, s.heap.size ≤ q → A q) (hw : w1.map (·.1) = w0.map (·.1))
    (hnn : As.length = n) (hsz : ls.size = nL) (hst : st0 = As.reverse ++ rest) (hroom : 2 * (F0 m pc ls rest).monitorRoom + (rest.map fun v => v.category).sum ≤ 8) (hdg : decode cc pc = .ok (.invokestatic index, 3)) (hz1 : cells + mc ≤ R.cells) (hz2 : slots + ms ≤ R.slots)
    (kk : ∀ (H1 : Heap) (locs1 : List Loc), va_P D vwCl (wa ++ (w1 ++ wb)) H1 → va_D A (wa ++ (w1 ++ wb)) → va_S A s.heap H1 locs1 → W p l e R s m args below meth c H1 locs1 (cells + mc) (slots + ms) Q (F0 m (pc + 3) ls (.int r :: rest))) : W p l e R s m args below meth c H locs cells slots Q (F0 m pc ls st0) := by
  subst hst
  have hF := fr_free hD hS hA
  have hP0 := (vaP_parts hP).2.1
  refine vx_calli (vx_runSX (As := As) (rest := rest) (hh := hh) ⟨hx, hb, hml, hown, hts⟩ (hM H.size) cw ⟨cph_blind, fun U hU hW => ⟨rfl, by rw [hU], by rw [hU]; exact hP0, va_K.moved hW.alike hK, (vaD_mid hD).weaken (fun _ _ _ _ => trivial), hN.warm hW, by rw [hU]; exact thr.go hS hF hW hT, hNc.moved hW.alike⟩⟩ rfl hnn hsz rfl hroom hdg ⟨hz1, hz2⟩) hS (fun q _ h => hF q h) hF (fun q _ h => hF q h)
    (fun E' ce q9 u t H1 locs1 ht hvm hpx _ _ _ _ _ _ _ => hpx.elim) (fun x u t H1 locs1 ht hvm hw9 hB hz1 hk1 hS1 => ?_)
  subst hw9; subst ht
  exact kk _ _ (fr_rest hP hD hk1 hB) (fr_D hD hw) hS1
theorem call_Hf {hh : List (Nat × Nat × Nat × Nat)} (hx : p.tables.exec = Jvm.exec) (hb : c.code = cc) (hml : c.maxLocals = nL) (hown : s.vm.findClass own = some m.cls) (hts : ∀ w ∈ Ts, w.before args s = true) (hN : nwAll s) (hT : thr A s s.heap) (hNc : va_Nc "java/lang/IllegalStateException" "java/lang/IllegalArgumentException" s) (hM : Chf l y wl rm D cI cZ As w0 w1 rf mc ms) (cw : vx_CSW R s args own index y bytes maxL ret hh wl rm mc ms n)
    (hK : va_K D vwCl (ty2 cI cZ) s) (hP : va_P D vwCl (wa ++ (w0 ++ wb)) H) (hD : va_D A (wa ++ (w0 ++ wb))) (hS : va_S A s.heap H locs) (hA : ∀ q, s.heap.size ≤ q → A q) (hw : w1.map (·.1) = w0.map (·.1))
    (hnn : As.length = n) (hsz : ls.size = nL) (hst : st0 = As.reverse ++ rest) (hroom : 2 * (F0 m pc ls rest).monitorRoom + (rest.map fun v => v.category).sum ≤ 8) (hdg : decode cc pc = .ok (.invokestatic index, 3)) (hz1 : cells + mc ≤ R.cells) (hz2 : slots + ms ≤ R.slots)
    (kk : ∀ (H1 : Heap) (locs1 : List Loc), va_P D vwCl (wa ++ (w1 ++ wb)) H1 → va_D A (wa ++ (w1 ++ wb)) → va_S A s.heap H1 locs1 → W p l e R s m args below meth c H1 locs1 (cells + mc) (slots + ms) Q (F0 m (pc + 3) ls (.float rf :: rest))) : W p l e R s m args below meth c H locs cells slots Q (F0 m pc ls st0) := by
  subst hst
  have hF := fr_free hD hS hA
  have hP0 := (vaP_parts hP).2.1
  refine vx_callf (vx_runSX (As := As) (rest := rest) (hh := hh) ⟨hx, hb, hml, hown, hts⟩ (hM H.size) cw ⟨cph_blind, fun U hU hW => ⟨rfl, by rw [hU], by rw [hU]; exact hP0, va_K.moved hW.alike hK, (vaD_mid hD).weaken (fun _ _ _ _ => trivial), hN.warm hW, by rw [hU]; exact thr.go hS hF hW hT, hNc.moved hW.alike⟩⟩ rfl hnn hsz rfl hroom hdg ⟨hz1, hz2⟩) hS (fun q _ h => hF q h) hF (fun q _ h => hF q h)
    (fun E' ce q9 u t H1 locs1 ht hvm hpx _ _ _ _ _ _ _ => hpx.elim) (fun x u t H1 locs1 ht hvm hw9 hB hz1 hk1 hS1 => ?_)
  subst hw9; subst ht
  exact kk _ _ (fr_rest hP hD hk1 hB) (fr_D hD hw) hS1
theorem call_Zi (hx : p.tables.exec = Jvm.exec) (hb : c.code = cc) (hml : c.maxLocals = nL) (hown : s.vm.findClass own = some m.cls) (hts : ∀ w ∈ Ts, w.before args s = true) (hN : nwAll s) (hM : Ci l y wl rm D cI cZ As w0 w1 r) (cw : CallB R s args own index y bytes maxL ret wl rm 0 0 n ∧ (Cond.static y).before args s = true)
    (hK : va_K D vwCl (ty2 cI cZ) s) (hP : va_P D vwCl (wa ++ (w0 ++ wb)) H) (hD : va_D A (wa ++ (w0 ++ wb))) (hS : va_S A s.heap H locs) (hA : ∀ q, s.heap.size ≤ q → A q) (hw : w1.map (·.1) = w0.map (·.1))
    (hnn : As.length = n) (hsz : ls.size = nL) (hst : st0 = As.reverse ++ rest) (hroom : 2 * (F0 m pc ls rest).monitorRoom + (rest.map fun v => v.category).sum ≤ 8) (hdg : decode cc pc = .ok (.invokestatic index, 3)) (hz1 : cells ≤ R.cells) (hz2 : slots ≤ R.slots)
    (kk : ∀ (H1 : Heap) (locs1 : List Loc), va_P D vwCl (wa ++ (w1 ++ wb)) H1 → va_D A (wa ++ (w1 ++ wb)) → va_S A s.heap H1 locs1 → W p l e R s m args below meth c H1 locs1 cells slots Q (F0 m (pc + 3) ls (.int r :: rest))) : W p l e R s m args below meth c H locs cells slots Q (F0 m pc ls st0) := by
  subst hst
  have hF := fr_free hD hS hA
  have hP0 := (vaP_parts hP).2.1
  refine va_calli (va_runS (As := As) (rest := rest) ⟨hx, hb, hml, hown, hts⟩ (hM H.size) cw ⟨cp_blind, fun U hU hW => ⟨rfl, by rw [hU], by rw [hU]; exact hP0, va_K.moved hW.alike hK, (vaD_mid hD).weaken (fun _ _ _ _ => trivial), hN.warm hW⟩⟩ rfl hnn hsz rfl hroom hdg ⟨hz1, hz2⟩) hS (fun q _ h => hF q h) hF (fun x u t H1 locs1 ht hvm hw9 hB hz1 hk1 hS1 => ?_)
  subst hw9; subst ht
  exact kk _ _ (fr_rest hP hD hk1 hB) (fr_D hD hw) hS1
theorem call_Zx (hx : p.tables.exec = Jvm.exec) (hb : c.code = cc) (hml : c.maxLocals = nL) (hown : s.vm.findClass own = some m.cls) (hts : ∀ w ∈ Ts, w.before args s = true) (hN : nwAll s) (hT : thr A s s.heap) (hM : Cx E l y wl rm D cI cZ As w0 w1) (cw : CallB R s args own index y bytes maxL ret wl rm 1 6 n ∧ (Cond.static y).before args s = true)
    (hK : va_K D vwCl (ty2 cI cZ) s) (hP : va_P D vwCl (wa ++ (w0 ++ wb)) H) (hD : va_D A (wa ++ (w0 ++ wb))) (hS : va_S A s.heap H locs) (hA : ∀ q, s.heap.size ≤ q → A q) (hw : w1.map (·.1) = w0.map (·.1))
    (hnn : As.length = n) (hsz : ls.size = nL) (hst : st0 = As.reverse ++ rest) (hroom : 2 * (F0 m pc ls rest).monitorRoom + (rest.map fun v => v.category).sum ≤ 8) (hdg : decode cc pc = .ok (.invokestatic index, 3)) (hz1 : cells + 1 ≤ R.cells) (hz2 : slots + 6 ≤ R.slots)
    (kx : ∀ (ce : Cell) (q9 : Addr) (H1 : Heap) (locs1 : List Loc), va_P D vwCl (wa ++ (w1 ++ wb)) H1 → va_D A (wa ++ (w1 ++ wb)) → va_S A s.heap H1 locs1 → H1[q9]? = some ce → ce.vm = .none → s.vm.findClass E = some ce.cls → vx_W p l e R s m args below meth c H1 locs1 (cells + 1) (slots + 6) Q (F0 m pc ls rest) q9) : W p l e R s m args below meth c H locs cells slots Q (F0 m pc ls st0) := by
  subst hst
  have hF := fr_free hD hS hA
  have hP0 := (vaP_parts hP).2.1
  refine vx_callv (vx_runS (As := As) (rest := rest) ⟨hx, hb, hml, hown, hts⟩ (hM H.size) cw ⟨cpx_blind, fun U hU hW => ⟨⟨rfl, by rw [hU], by rw [hU]; exact hP0, va_K.moved hW.alike hK, (vaD_mid hD).weaken (fun _ _ _ _ => trivial), hN.warm hW⟩, by rw [hU]; exact thr.go hS hF hW hT⟩⟩ rfl hnn hsz rfl hroom hdg ⟨hz1, hz2⟩) hS (fun q _ h => hF q h) hF (fun q _ h => hF q h)
    (fun E' ce q9 u t H1 locs1 ht hvm hpx hBX hz1 hk1 hS1 h1 h2 h3 => ?_) (fun u t H1 locs1 ht hvm hf _ _ _ _ => hf.elim)
  obtain ⟨rfl, hP1⟩ := hBX
  rw [ht] at hP1
  exact kx ce q9 H1 locs1 (fr_rest hP hD hk1 hP1) (fr_D hD hw) hS1 h1 h2 h3
/-- a call of a method of the law -/
theorem call_Z {Z : Int32 → va_W → Prop} (hx : p.tables.exec = Jvm.exec) (hb : c.code = cc) (hml : c.maxLocals = nL) (hown : s.vm.findClass own = some m.cls) (hts : ∀ w ∈ Ts, w.before args s = true) (hN : nwAll s) (hT : thr A s s.heap) (hNc : va_Nc "java/lang/IllegalStateException" "java/lang/IllegalArgumentException" s) (hM : Cz l y wl rm D cI cZ As w0 Z mc ms) (cw : CallB R s args own index y bytes maxL ret wl rm mc ms n ∧ (Cond.static y).before args s = true)
    (hK : va_K D vwCl (ty2 cI cZ) s) (hP : va_P D vwCl (wa ++ (w0 ++ wb)) H) (hD : va_D A (wa ++ (w0 ++ wb))) (hS : va_S A s.heap H locs) (hA : ∀ q, s.heap.size ≤ q → A q)
    (hnn : As.length = n) (hsz : ls.size = nL) (hst : st0 = As.reverse ++ rest) (hroom : 2 * (F0 m pc ls rest).monitorRoom + (rest.map fun v => v.category).sum ≤ 8) (hdg : decode cc pc = .ok (.invokestatic index, 3)) (hz1 : cells + mc ≤ R.cells) (hz2 : slots + ms ≤ R.slots)
    (kk : ∀ (x : Int32) (w1 : va_W) (H1 : Heap) (locs1 : List Loc), Z x w1 → w1.map (·.1) = w0.map (·.1) → va_P D vwCl (wa ++ (w1 ++ wb)) H1 → va_D A (wa ++ (w1 ++ wb)) → va_S A s.heap H1 locs1 → W p l e R s m args below meth c H1 locs1 (cells + mc) (slots + ms) Q (F0 m (pc + 3) ls (.int x :: rest))) : W p l e R s m args below meth c H locs cells slots Q (F0 m pc ls st0) := by
  subst hst
  have hF := fr_free hD hS hA
  have hP0 := (vaP_parts hP).2.1
  refine va_calli (va_runS (As := As) (rest := rest) ⟨hx, hb, hml, hown, hts⟩ (hM H.size) cw ⟨cph_blind, fun U hU hW => ⟨rfl, by rw [hU], by rw [hU]; exact hP0, va_K.moved hW.alike hK, (vaD_mid hD).weaken (fun _ _ _ _ => trivial), hN.warm hW, by rw [hU]; exact thr.go hS hF hW hT, hNc.moved hW.alike⟩⟩ rfl hnn hsz rfl hroom hdg ⟨hz1, hz2⟩) hS (fun q _ h => hF q h) hF (fun x u t H1 locs1 ht hvm hz hB hz1 hk1 hS1 => ?_)
  subst ht
  exact kk x u _ _ hz.1 hz.2 (fr_rest hP hD hk1 hB) (fr_D hD hz.2) hS1
end HELPERS
