/-! the law's own helpers: a call of the finder, its answer laid into a row of one, or the number of what it threw -/
theorem vaP_in {D : va_G} {cl : List vw_C} {ws : va_W} {H : Heap} : va_P D cl ws H ↔ ∀ q ∈ ws, va_at D cl q H := by
  constructor
  · intro h q hq
    obtain ⟨k, hk⟩ := List.getElem?_of_mem hq
    exact h k q hk
  · intro h k q hk
    exact h q (List.mem_of_getElem? hk)
theorem vaP_parts {D : va_G} {cl : List vw_C} {wa w0 wb : va_W} {H : Heap} (h : va_P D cl (wa ++ (w0 ++ wb)) H) : va_P D cl wa H ∧ va_P D cl w0 H ∧ va_P D cl wb H := by
  rw [vaP_in] at h
  refine ⟨vaP_in.mpr fun q hq => h q ?_, vaP_in.mpr fun q hq => h q ?_, vaP_in.mpr fun q hq => h q ?_⟩ <;> simp [hq]
theorem vaP_join {D : va_G} {cl : List vw_C} {wa w0 wb : va_W} {H : Heap} (h1 : va_P D cl wa H) (h2 : va_P D cl w0 H) (h3 : va_P D cl wb H) : va_P D cl (wa ++ (w0 ++ wb)) H := by
  rw [vaP_in] at h1 h2 h3 ⊢
  intro q hq
  simp only [List.mem_append] at hq
  rcases hq with z | z | z
  · exact h1 q z
  · exact h2 q z
  · exact h3 q z
theorem vaD_mid {A : Nat → Prop} {wa w0 wb : va_W} (h : va_D A (wa ++ (w0 ++ wb))) : va_D A w0 := by
  have g : ∀ (k : Nat) (q : Nat × va_E), w0[k]? = some q → (wa ++ (w0 ++ wb))[wa.length + k]? = some q := by
    intro k q hk
    have hl : k < w0.length := (List.getElem?_eq_some_iff.mp hk).1
    rw [List.getElem?_append_right (by omega), Nat.add_sub_cancel_left, List.getElem?_append_left hl, hk]
  refine ⟨fun i j x y hi hj hxy => ?_, fun k q hk => h.2 _ q (g k q hk)⟩
  have := h.1 _ _ x y (g i x hi) (g j y hj) hxy
  omega
theorem fr_free {A : Nat → Prop} {wa w0 wb : va_W} {H0 H : Heap} {locs : List Loc} (hD : va_D A (wa ++ (w0 ++ wb))) (hS : va_S A H0 H locs) (hA : ∀ q, H0.size ≤ q → A q) : ∀ q, va_A w0 H.size q → A q := by
  rintro q (⟨k, e, h⟩ | h)
  · exact (vaD_mid hD).2 k (q, e) h
  · exact hA q (Nat.le_trans hS.1 h)
theorem fr_rest {A : Nat → Prop} {D : va_G} {cl : List vw_C} {wa w0 w1 wb : va_W} {H H1 : Heap} (hP : va_P D cl (wa ++ (w0 ++ wb)) H) (hD : va_D A (wa ++ (w0 ++ wb))) (hk : ∀ q : Nat, q < H.size → ¬ va_A w0 H.size q → H1[q]? = H[q]?) (h1 : va_P D cl w1 H1) : va_P D cl (wa ++ (w1 ++ wb)) H1 := by
  obtain ⟨ha, -, hb⟩ := vaP_parts hP
  have key : ∀ (i : Nat) (q : Nat × va_E), (wa ++ (w0 ++ wb))[i]? = some q → (i < wa.length ∨ wa.length + w0.length ≤ i) → va_at D cl q H1 := by
    intro i q hi hout
    have hlt := (hP i q hi).lt
    refine (hP i q hi).kept (hk q.1 hlt ?_)
    rintro (⟨k2, e, h3⟩ | h3)
    · have hl : k2 < w0.length := (List.getElem?_eq_some_iff.mp h3).1
      have h4 : (wa ++ (w0 ++ wb))[wa.length + k2]? = some (q.1, e) := by
        rw [List.getElem?_append_right (by omega), Nat.add_sub_cancel_left, List.getElem?_append_left hl, h3]
      have := hD.1 i _ q (q.1, e) hi h4 rfl
      omega
    · omega
  refine vaP_join (fun k q h => ?_) h1 (fun k q h => ?_)
  · have hl : k < wa.length := (List.getElem?_eq_some_iff.mp h).1
    exact key k q (by rw [List.getElem?_append_left hl, h]) (Or.inl hl)
  · exact key (wa.length + w0.length + k) q (by rw [List.getElem?_append_right (by omega), List.getElem?_append_right (by omega)]; rw [← h]; congr 1; omega) (Or.inr (by omega))
theorem fr_D {A : Nat → Prop} {wa w0 w1 wb : va_W} (hD : va_D A (wa ++ (w0 ++ wb))) (hw : w1.map (·.1) = w0.map (·.1)) : va_D A (wa ++ (w1 ++ wb)) := hD.addr (by simp only [List.map_append, hw])
abbrev ty4 (cI cZ cJ cD : ClassId) : List (ClassId × FieldType) := [(cI, .int), (cZ, .boolean), (cJ, .long), (cD, .double)]
def cph (D : va_G) (cI cZ cJ cD : ClassId) (sz : Nat) (av : List Value) (ws : va_W) : Array Value → State → Prop := va_Pc av (fun U => U.heap.size = sz ∧ va_P D vwCl ws U.heap ∧ va_K D vwCl (ty4 cI cZ cJ cD) U ∧ va_D (fun _ => True) ws ∧ nwAll U ∧ thr (va_A ws sz) U U.heap ∧ va_Nc "java/lang/IllegalStateException" "java/lang/IllegalArgumentException" U)
theorem cph_blind {D : va_G} {cI cZ cJ cD : ClassId} {sz : Nat} {av : List Value} {ws : va_W} : FrameBlind (cph D cI cZ cJ cD sz av ws) := by
  intro a U g mk q
  obtain ⟨q0, q1, qP, qK, qD, qN, qT, qC⟩ := q
  exact ⟨q0, q1, qP, va_K.moved (u := U) (U := U.calling g mk a) (Vm.Alike.refl U.vm) qK, qD, nwAll.same (u := U) (U := U.calling g mk a) rfl qN, ⟨qT.1.moved (u := U) (U := U.calling g mk a) (Vm.Alike.refl U.vm), qT.2.1.moved (u := U) (U := U.calling g mk a) (Vm.Alike.refl U.vm), qT.2.2.same (s := U) (U := U.calling g mk a) rfl⟩, qC.moved (u := U) (U := U.calling g mk a) (Vm.Alike.refl U.vm)⟩
abbrev awh (y : MethodName) (c : ByteArray) (n : Nat) (hh : List (Nat × Nat × Nat × Nat)) : List Cond := Cond.codeWith y c n (some .int) hh :: AW
def Ch (l : Launch) (y : MethodName) (ws : List Cond) (rm : Room) (D : va_G) (cI cZ cJ cD : ClassId) (av : List Value) (w0 w1 : va_W) (r : Int32) (mc ms : Nat) : Prop := ∀ sz, vx_Met l y ws rm (cph D cI cZ cJ cD sz av w0) (va_Qi (fun rr (_ : Unit) => rr = r) (cb D w1) (va_A w0 sz)) (vx_X (fun (_ : Unit) => False) (fun _ _ _ => True) (va_A w0 sz)) mc ms (va_A w0 sz)
section HELPERS
variable {p : Program} {l : Launch} {e : Env} {R : Room} {s : State} {m : MethodId} {args : Array Value} {below : List Frame} {meth : Method} {c : Code} {H : Heap} {locs : List Loc} {cells slots : Nat} {Q : State → Prop}
variable {cc : ByteArray} {pc : Nat} {ls : Array Slot} {rest : List Value} {D : va_G} {cI cZ cJ cD : ClassId} {A : Nat → Prop} {ws : va_W}
theorem mk_h {y : MethodName} {rm : Room} {av : List Value} {w0 w1 : va_W} {maxL mc ms : Nat} {r : Int32} {hh : List (Nat × Nat × Nat × Nat)} (hy : plainName y.cls = true) (hn : (lg_sl av).length ≤ maxL)
    (body : ∀ (p : Program) (e : Env) (s : State) (m : MethodId) (args : Array Value) (below : List Frame) (meth : Method) (c : Code) (A : Nat → Prop) (Q : State → Prop) (R : Room), R = rm → Q = vx_MQ below (va_Qi (fun rr (_ : Unit) => rr = r) (cb D w1) A) (vx_X (fun (_ : Unit) => False) (fun _ _ _ => True) A) args s mc ms A → p.tables.exec = Jvm.exec → c.code = cc → meth.sig.returnType = some .int → c.maxLocals = maxL → (∀ w ∈ AW, w.before args s = true) → s.vm.findClass y.cls = some m.cls → meth.locks = false → c.exceptionTable.toList = tableOf hh → nwAll s → thr A s s.heap → va_Nc "java/lang/IllegalStateException" "java/lang/IllegalArgumentException" s → (∀ q, s.heap.size ≤ q → A q) → va_P D vwCl w0 s.heap → va_K D vwCl (ty4 cI cZ cJ cD) s → va_D A w0 → va_S A s.heap s.heap [] → ∀ ls, lv_has ls maxL (lv_args 0 av) →
      W p l e R s m args below meth c s.heap [] 0 0 Q (F0 m 0 ls [])) : Ch l y (awh y cc maxL hh) rm D cI cZ cJ cD av w0 w1 r mc ms := by
  intro sz
  refine vx_ofWH (cc := cc) (maxL := maxL) (ret := some .int) (hh := hh) hy rfl ?_
  intro p e s m args below meth c s₁ B hml hv
  obtain ⟨rfl, hsz, hP, hK, hD0, hN, hT, hNc⟩ := hv
  subst hsz
  rw [lg_entry_eq]
  have hpre := atoms_spec (ws := awh y cc maxL hh) B.pre
  exact body p e s m _ below meth c _ _ _ rfl rfl B.exec B.bytes B.returns hml (fun w h => hpre w (List.mem_cons_of_mem _ h)) (findClass_of_methodNamed B.named) B.notSynchronized (vx_table (x := y) B (hpre _ List.mem_cons_self)) hN hT hNc (fun q h => Or.inr h) hP hK hD0.self va_S.rf _ (lv_entry av hn)
theorem fin_h {v r : Int32} {w1 w2 : va_W} {mc ms : Nat} (hx : p.tables.exec = Jvm.exec) (hb : c.code = cc) (hr : meth.sig.returnType = some .int) (hlk : meth.locks = false) (hP : va_P D vwCl w2 H) (hS : va_S A s.heap H locs) (hv : v = r) (hw : w2 = w1) (hQ : Q = vx_MQ below (va_Qi (fun rr (_ : Unit) => rr = r) (cb D w1) A) (vx_X (fun (_ : Unit) => False) (fun _ _ _ => True) A) args s mc ms A) (hdg : decode cc pc = .ok (.ireturn, 1)) :
    W p l e R s m args below meth c H locs mc ms Q (F0 m pc ls [.int v]) := by
  subst hw; subst hQ
  exact vx_ret (W.zret hx hb hr rfl (fun t ht hW => ⟨⟨v, (), rfl, hv, by rw [← ht] at hP; exact hP⟩, hS.F ht⟩) hS.2.2 hdg hlk)
variable {nL n : Nat} {Ts wl : List Cond} {own C : String} {y : MethodName} {bytes : ByteArray} {maxL index : Nat} {ret : Option FieldType} {rm : Room} {As st0 : List Value} {b ci mc ms : Nat} {wa w0 w1 wb : va_W} {E : String}
variable {r : Int32} {rf : UInt32}
theorem call_Ri (hx : p.tables.exec = Jvm.exec) (hb : c.code = cc) (hml : c.maxLocals = nL) (hown : s.vm.findClass own = some m.cls) (hts : ∀ w ∈ Ts, w.before args s = true) (hN : nwAll s) (hM : Ci l y wl rm D cI cZ (.ref b :: As) w0 w1 r) (cw : CallW R s args own C index y bytes maxL ret wl rm 0 0 n)
    (hK : va_K D vwCl (ty2 cI cZ) s) (hP : va_P D vwCl (wa ++ (w0 ++ wb)) H) (hD : va_D A (wa ++ (w0 ++ wb))) (hS : va_S A s.heap H locs) (hA : ∀ q, s.heap.size ≤ q → A q) (hq : ∃ fs, w0[0]? = some (b, .inr (ci, fs))) (hw : w1.map (·.1) = w0.map (·.1)) {q : vw_C} (hc : vwCl[ci]? = some q) (hqC : q.1 = C)
    (hnn : As.length = n) (hsz : ls.size = nL) (hst : st0 = As.reverse ++ .ref b :: rest) (hroom : 2 * (F0 m pc ls rest).monitorRoom + (rest.map fun v => v.category).sum ≤ 8) (hdg : decode cc pc = .ok (.invokevirtual index, 3)) (hz1 : cells ≤ R.cells) (hz2 : slots ≤ R.slots)
    (kk : ∀ (H1 : Heap) (locs1 : List Loc), va_P D vwCl (wa ++ (w1 ++ wb)) H1 → va_D A (wa ++ (w1 ++ wb)) → va_S A s.heap H1 locs1 → W p l e R s m args below meth c H1 locs1 cells slots Q (F0 m (pc + 3) ls (.int r :: rest))) : W p l e R s m args below meth c H locs cells slots Q (F0 m pc ls st0) := by
  subst hst
  obtain ⟨fs, hq⟩ := hq
  have hF := fr_free hD hS hA
  have hP0 := (vaP_parts hP).2.1
  refine va_calli (va_runV (As := As) (rest := rest) ⟨hx, hb, hml, hown, hts⟩ (hM H.size) cw ⟨cp_blind, hqC ▸ va_recv hK hP0 hc hq, fun U hU hW => ⟨rfl, by rw [hU], by rw [hU]; exact hP0, va_K.moved hW.alike hK, (vaD_mid hD).weaken (fun _ _ _ _ => trivial), hN.warm hW⟩⟩ rfl hnn hsz rfl hroom hdg ⟨hz1, hz2⟩) hS (fun q _ h => hF q h) hF (fun x u t H1 locs1 ht hvm hw9 hB hz1 hk1 hS1 => ?_)
  subst hw9
  subst ht
  exact kk _ _ (fr_rest hP hD hk1 hB) (fr_D hD hw) hS1
theorem call_Rv (hx : p.tables.exec = Jvm.exec) (hb : c.code = cc) (hml : c.maxLocals = nL) (hown : s.vm.findClass own = some m.cls) (hts : ∀ w ∈ Ts, w.before args s = true) (hN : nwAll s) (hM : Cv l y wl rm D cI cZ (.ref b :: As) w0 w1) (cw : CallW R s args own C index y bytes maxL ret wl rm 0 0 n)
    (hK : va_K D vwCl (ty2 cI cZ) s) (hP : va_P D vwCl (wa ++ (w0 ++ wb)) H) (hD : va_D A (wa ++ (w0 ++ wb))) (hS : va_S A s.heap H locs) (hA : ∀ q, s.heap.size ≤ q → A q) (hq : ∃ fs, w0[0]? = some (b, .inr (ci, fs))) (hw : w1.map (·.1) = w0.map (·.1)) {q : vw_C} (hc : vwCl[ci]? = some q) (hqC : q.1 = C)
    (hnn : As.length = n) (hsz : ls.size = nL) (hst : st0 = As.reverse ++ .ref b :: rest) (hroom : 2 * (F0 m pc ls rest).monitorRoom + (rest.map fun v => v.category).sum ≤ 8) (hdg : decode cc pc = .ok (.invokevirtual index, 3)) (hz1 : cells ≤ R.cells) (hz2 : slots ≤ R.slots)
    (kk : ∀ (H1 : Heap) (locs1 : List Loc), va_P D vwCl (wa ++ (w1 ++ wb)) H1 → va_D A (wa ++ (w1 ++ wb)) → va_S A s.heap H1 locs1 → W p l e R s m args below meth c H1 locs1 cells slots Q (F0 m (pc + 3) ls rest)) : W p l e R s m args below meth c H locs cells slots Q (F0 m pc ls st0) := by
  subst hst
  obtain ⟨fs, hq⟩ := hq
  have hF := fr_free hD hS hA
  have hP0 := (vaP_parts hP).2.1
  refine va_callv (va_runV (As := As) (rest := rest) ⟨hx, hb, hml, hown, hts⟩ (hM H.size) cw ⟨cp_blind, hqC ▸ va_recv hK hP0 hc hq, fun U hU hW => ⟨rfl, by rw [hU], by rw [hU]; exact hP0, va_K.moved hW.alike hK, (vaD_mid hD).weaken (fun _ _ _ _ => trivial), hN.warm hW⟩⟩ rfl hnn hsz rfl hroom hdg ⟨hz1, hz2⟩) hS (fun q _ h => hF q h) hF (fun u t H1 locs1 ht hvm hw9 hB hz1 hk1 hS1 => ?_)
  subst ht
  exact kk _ _ (fr_rest hP hD hk1 hB) (fr_D hD hw) hS1
theorem call_Rf (hx : p.tables.exec = Jvm.exec) (hb : c.code = cc) (hml : c.maxLocals = nL) (hown : s.vm.findClass own = some m.cls) (hts : ∀ w ∈ Ts, w.before args s = true) (hN : nwAll s) (hM : Cf l y wl rm D cI cZ (.ref b :: As) w0 w1 rf) (cw : CallW R s args own C index y bytes maxL ret wl rm 0 0 n)
    (hK : va_K D vwCl (ty2 cI cZ) s) (hP : va_P D vwCl (wa ++ (w0 ++ wb)) H) (hD : va_D A (wa ++ (w0 ++ wb))) (hS : va_S A s.heap H locs) (hA : ∀ q, s.heap.size ≤ q → A q) (hq : ∃ fs, w0[0]? = some (b, .inr (ci, fs))) (hw : w1.map (·.1) = w0.map (·.1)) {q : vw_C} (hc : vwCl[ci]? = some q) (hqC : q.1 = C)
    (hnn : As.length = n) (hsz : ls.size = nL) (hst : st0 = As.reverse ++ .ref b :: rest) (hroom : 2 * (F0 m pc ls rest).monitorRoom + (rest.map fun v => v.category).sum ≤ 8) (hdg : decode cc pc = .ok (.invokevirtual index, 3)) (hz1 : cells ≤ R.cells) (hz2 : slots ≤ R.slots)
    (kk : ∀ (H1 : Heap) (locs1 : List Loc), va_P D vwCl (wa ++ (w1 ++ wb)) H1 → va_D A (wa ++ (w1 ++ wb)) → va_S A s.heap H1 locs1 → W p l e R s m args below meth c H1 locs1 cells slots Q (F0 m (pc + 3) ls (.float rf :: rest))) : W p l e R s m args below meth c H locs cells slots Q (F0 m pc ls st0) := by
  subst hst
  obtain ⟨fs, hq⟩ := hq
  have hF := fr_free hD hS hA
  have hP0 := (vaP_parts hP).2.1
  refine va_callf (va_runV (As := As) (rest := rest) ⟨hx, hb, hml, hown, hts⟩ (hM H.size) cw ⟨cp_blind, hqC ▸ va_recv hK hP0 hc hq, fun U hU hW => ⟨rfl, by rw [hU], by rw [hU]; exact hP0, va_K.moved hW.alike hK, (vaD_mid hD).weaken (fun _ _ _ _ => trivial), hN.warm hW⟩⟩ rfl hnn hsz rfl hroom hdg ⟨hz1, hz2⟩) hS (fun q _ h => hF q h) hF (fun x u t H1 locs1 ht hvm hw9 hB hz1 hk1 hS1 => ?_)
  subst hw9
  subst ht
  exact kk _ _ (fr_rest hP hD hk1 hB) (fr_D hD hw) hS1
theorem call_Rx (hx : p.tables.exec = Jvm.exec) (hb : c.code = cc) (hml : c.maxLocals = nL) (hown : s.vm.findClass own = some m.cls) (hts : ∀ w ∈ Ts, w.before args s = true) (hN : nwAll s) (hT : thr A s s.heap) (hM : Cx E l y wl rm D cI cZ (.ref b :: As) w0 w1) (cw : CallW R s args own C index y bytes maxL ret wl rm 1 6 n)
    (hK : va_K D vwCl (ty2 cI cZ) s) (hP : va_P D vwCl (wa ++ (w0 ++ wb)) H) (hD : va_D A (wa ++ (w0 ++ wb))) (hS : va_S A s.heap H locs) (hA : ∀ q, s.heap.size ≤ q → A q) (hq : ∃ fs, w0[0]? = some (b, .inr (ci, fs))) (hw : w1.map (·.1) = w0.map (·.1)) {q : vw_C} (hc : vwCl[ci]? = some q) (hqC : q.1 = C)
    (hnn : As.length = n) (hsz : ls.size = nL) (hst : st0 = As.reverse ++ .ref b :: rest) (hroom : 2 * (F0 m pc ls rest).monitorRoom + (rest.map fun v => v.category).sum ≤ 8) (hdg : decode cc pc = .ok (.invokevirtual index, 3)) (hz1 : cells + 1 ≤ R.cells) (hz2 : slots + 6 ≤ R.slots)
    (kx : ∀ (ce : Cell) (q9 : Addr) (H1 : Heap) (locs1 : List Loc), va_P D vwCl (wa ++ (w1 ++ wb)) H1 → va_D A (wa ++ (w1 ++ wb)) → va_S A s.heap H1 locs1 → H1[q9]? = some ce → ce.vm = .none → s.vm.findClass E = some ce.cls → vx_W p l e R s m args below meth c H1 locs1 (cells + 1) (slots + 6) Q (F0 m pc ls rest) q9) : W p l e R s m args below meth c H locs cells slots Q (F0 m pc ls st0) := by
  subst hst
  obtain ⟨fs, hq⟩ := hq
  have hF := fr_free hD hS hA
  have hP0 := (vaP_parts hP).2.1
  refine vx_callv (vx_runV (As := As) (rest := rest) ⟨hx, hb, hml, hown, hts⟩ (hM H.size) cw ⟨cpx_blind, hqC ▸ va_recv hK hP0 hc hq, fun U hU hW => ⟨⟨rfl, by rw [hU], by rw [hU]; exact hP0, va_K.moved hW.alike hK, (vaD_mid hD).weaken (fun _ _ _ _ => trivial), hN.warm hW⟩, by rw [hU]; exact thr.go hS hF hW hT⟩⟩ rfl hnn hsz rfl hroom hdg ⟨hz1, hz2⟩) hS (fun q _ h => hF q h) hF (fun q _ h => hF q h)
    (fun E' ce q9 u t H1 locs1 ht hvm hpx hBX hz1 hk1 hS1 h1 h2 h3 => ?_) (fun u t H1 locs1 ht hvm hf _ _ _ _ => hf.elim)
  obtain ⟨rfl, hP1⟩ := hBX
  rw [ht] at hP1
  exact kx ce q9 H1 locs1 (fr_rest hP hD hk1 hP1) (fr_D hD hw) hS1 h1 h2 h3
theorem cwSH {index maxL mc ms : Nat} {y : MethodName} {bytes : ByteArray} {rm : Room} {hh : List (Nat × Nat × Nat × Nat)} (n : Nat) (ht : ∀ w ∈ AW, w.before args s = true) (h1 : Cond.methodLink own index y ∈ AW) (h2 : Cond.static y ∈ AW) (h4 : Cond.initialized y.cls ∈ AW) (h5 : Cond.codeWith y bytes maxL (some .int) hh ∈ AW) (hd : y.cls = C ∧ y.cls ≠ "java/lang/invoke/MethodHandle" ∧ y.cls ≠ "java/lang/invoke/VarHandle" ∧ (parseMethodDescriptor y.desc).map (fun d => d.parameters.length) = some n) (hR1 : rm.frames + 1 ≤ R.frames) (hR2 : 8 + (maxL + 11) + rm.locals ≤ R.locals) (hc : rm.cells = mc) (hs : rm.slots = ms) :
    vx_CSW R s args own index y bytes maxL (some .int) hh (awh y bytes maxL hh) rm mc ms n :=
  vx_cwSW (Ts := AW) n ht (fun w hw => by
    rcases List.mem_append.mp hw with h | h
    · simp only [List.mem_cons, List.not_mem_nil, or_false] at h
      rcases h with rfl | rfl | rfl
      · exact ⟨h1, good_of_word (aw_good h1)⟩
      · exact ⟨h2, good_of_word (aw_good h2)⟩
      · exact ⟨h4, good_of_word (aw_good h4)⟩
    · rcases List.mem_cons.mp h with rfl | h
      · exact ⟨h5, good_of_word (aw_good h5)⟩
      · exact ⟨h, good_of_word (aw_good h)⟩) rfl hc hs hd.2 ⟨hR1, hR2⟩
theorem call_H {hh : List (Nat × Nat × Nat × Nat)} (hx : p.tables.exec = Jvm.exec) (hb : c.code = cc) (hml : c.maxLocals = nL) (hown : s.vm.findClass own = some m.cls) (hts : ∀ w ∈ Ts, w.before args s = true) (hN : nwAll s) (hT : thr A s s.heap) (hNc : va_Nc "java/lang/IllegalStateException" "java/lang/IllegalArgumentException" s) (hM : Ch l y wl rm D cI cZ cJ cD As w0 w1 r mc ms) (cw : vx_CSW R s args own index y bytes maxL (some .int) hh wl rm mc ms n)
    (hK : va_K D vwCl (ty4 cI cZ cJ cD) s) (hP : va_P D vwCl (wa ++ (w0 ++ wb)) H) (hD : va_D A (wa ++ (w0 ++ wb))) (hS : va_S A s.heap H locs) (hA : ∀ q, s.heap.size ≤ q → A q) (hw : w1.map (·.1) = w0.map (·.1))
    (hnn : As.length = n) (hsz : ls.size = nL) (hst : st0 = As.reverse ++ rest) (hroom : 2 * (F0 m pc ls rest).monitorRoom + (rest.map fun v => v.category).sum ≤ 8) (hdg : decode cc pc = .ok (.invokestatic index, 3)) (hz1 : cells + mc ≤ R.cells) (hz2 : slots + ms ≤ R.slots)
    (kk : ∀ (H1 : Heap) (locs1 : List Loc), va_P D vwCl (wa ++ (w1 ++ wb)) H1 → va_D A (wa ++ (w1 ++ wb)) → va_S A s.heap H1 locs1 → W p l e R s m args below meth c H1 locs1 (cells + mc) (slots + ms) Q (F0 m (pc + 3) ls (.int r :: rest))) : W p l e R s m args below meth c H locs cells slots Q (F0 m pc ls st0) := by
  subst hst
  have hF := fr_free hD hS hA
  have hP0 := (vaP_parts hP).2.1
  refine vx_calli (vx_runSX (As := As) (rest := rest) (hh := hh) ⟨hx, hb, hml, hown, hts⟩ (hM H.size) cw ⟨cph_blind, fun U hU hW => ⟨rfl, by rw [hU], by rw [hU]; exact hP0, va_K.moved hW.alike hK, (vaD_mid hD).weaken (fun _ _ _ _ => trivial), hN.warm hW, by rw [hU]; exact thr.go hS hF hW hT, hNc.moved hW.alike⟩⟩ rfl hnn hsz rfl hroom hdg ⟨hz1, hz2⟩) hS (fun q _ h => hF q h) hF (fun q _ h => hF q h)
    (fun E' ce q9 u t H1 locs1 ht hvm hpx _ _ _ _ _ _ _ => hpx.elim) (fun x u t H1 locs1 ht hvm hw9 hB hz1 hk1 hS1 => ?_)
  subst hw9; subst ht
  exact kk _ _ (fr_rest hP hD hk1 hB) (fr_D hD hw) hS1
end HELPERS
theorem qw_setSums : Cond.codeWith yL_setSums cL_setSums 5 (some .int) [(0, 7, 10, 13)] ∈ AW := aw_in 438 (by decide +kernel) rfl
theorem hdL_setSums : yL_setSums.cls = RL ∧ yL_setSums.cls ≠ "java/lang/invoke/MethodHandle" ∧ yL_setSums.cls ≠ "java/lang/invoke/VarHandle" ∧ (parseMethodDescriptor yL_setSums.desc).map (fun d => d.parameters.length) = some 4 := by decide +kernel
theorem qw_setTest : Cond.codeWith yL_setTest cL_setTest 5 (some .int) [(0, 7, 10, 13)] ∈ AW := aw_in 525 (by decide +kernel) rfl
theorem hdL_setTest : yL_setTest.cls = RL ∧ yL_setTest.cls ≠ "java/lang/invoke/MethodHandle" ∧ yL_setTest.cls ≠ "java/lang/invoke/VarHandle" ∧ (parseMethodDescriptor yL_setTest.desc).map (fun d => d.parameters.length) = some 4 := by decide +kernel
theorem qw_setPenalty : Cond.codeWith yL_setPenalty cL_setPenalty 4 (some .int) [(0, 9, 12, 13)] ∈ AW := aw_in 533 (by decide +kernel) rfl
theorem hdL_setPenalty : yL_setPenalty.cls = RL ∧ yL_setPenalty.cls ≠ "java/lang/invoke/MethodHandle" ∧ yL_setPenalty.cls ≠ "java/lang/invoke/VarHandle" ∧ (parseMethodDescriptor yL_setPenalty.desc).map (fun d => d.parameters.length) = some 3 := by decide +kernel
theorem qw_add : Cond.codeWith yL_add cL_add 4 (some .int) [(0, 9, 12, 13), (0, 9, 15, 25)] ∈ AW := aw_in 540 (by decide +kernel) rfl
theorem hdL_add : yL_add.cls = RL ∧ yL_add.cls ≠ "java/lang/invoke/MethodHandle" ∧ yL_add.cls ≠ "java/lang/invoke/VarHandle" ∧ (parseMethodDescriptor yL_add.desc).map (fun d => d.parameters.length) = some 3 := by decide +kernel
theorem qw_addRun : Cond.codeWith yL_addRun cL_addRun 6 (some .int) [(0, 12, 15, 13), (0, 12, 19, 25)] ∈ AW := aw_in 606 (by decide +kernel) rfl
theorem hdL_addRun : yL_addRun.cls = RL ∧ yL_addRun.cls ≠ "java/lang/invoke/MethodHandle" ∧ yL_addRun.cls ≠ "java/lang/invoke/VarHandle" ∧ (parseMethodDescriptor yL_addRun.desc).map (fun d => d.parameters.length) = some 5 := by decide +kernel
theorem qw_value : Cond.codeWith yL_value cL_value 4 (some .int) [(0, 9, 12, 34)] ∈ AW := aw_in 613 (by decide +kernel) rfl
theorem hdL_value : yL_value.cls = RL ∧ yL_value.cls ≠ "java/lang/invoke/MethodHandle" ∧ yL_value.cls ≠ "java/lang/invoke/VarHandle" ∧ (parseMethodDescriptor yL_value.desc).map (fun d => d.parameters.length) = some 3 := by decide +kernel
theorem qw_alarmKind : Cond.codeWith yL_alarmKind cL_alarmKind 4 (some .int) [(0, 9, 12, 34)] ∈ AW := aw_in 644 (by decide +kernel) rfl
theorem hdL_alarmKind : yL_alarmKind.cls = RL ∧ yL_alarmKind.cls ≠ "java/lang/invoke/MethodHandle" ∧ yL_alarmKind.cls ≠ "java/lang/invoke/VarHandle" ∧ (parseMethodDescriptor yL_alarmKind.desc).map (fun d => d.parameters.length) = some 3 := by decide +kernel
theorem qw_alarmNumber : Cond.codeWith yL_alarmNumber cL_alarmNumber 4 (some .int) [(0, 9, 12, 34)] ∈ AW := aw_in 655 (by decide +kernel) rfl
theorem hdL_alarmNumber : yL_alarmNumber.cls = RL ∧ yL_alarmNumber.cls ≠ "java/lang/invoke/MethodHandle" ∧ yL_alarmNumber.cls ≠ "java/lang/invoke/VarHandle" ∧ (parseMethodDescriptor yL_alarmNumber.desc).map (fun d => d.parameters.length) = some 3 := by decide +kernel
theorem qw_alarmStart : Cond.codeWith yL_alarmStart cL_alarmStart 4 (some .int) [(0, 9, 12, 34)] ∈ AW := aw_in 662 (by decide +kernel) rfl
theorem hdL_alarmStart : yL_alarmStart.cls = RL ∧ yL_alarmStart.cls ≠ "java/lang/invoke/MethodHandle" ∧ yL_alarmStart.cls ≠ "java/lang/invoke/VarHandle" ∧ (parseMethodDescriptor yL_alarmStart.desc).map (fun d => d.parameters.length) = some 3 := by decide +kernel
theorem qw_cost : Cond.codeWith yL_cost cL_cost 5 (some .int) [(0, 10, 13, 34)] ∈ AW := aw_in 669 (by decide +kernel) rfl
theorem hdL_cost : yL_cost.cls = RL ∧ yL_cost.cls ≠ "java/lang/invoke/MethodHandle" ∧ yL_cost.cls ≠ "java/lang/invoke/VarHandle" ∧ (parseMethodDescriptor yL_cost.desc).map (fun d => d.parameters.length) = some 4 := by decide +kernel
theorem qw_middle : Cond.codeWith yL_middle cL_middle 5 (some .int) [(0, 10, 13, 34)] ∈ AW := aw_in 681 (by decide +kernel) rfl
theorem hdL_middle : yL_middle.cls = RL ∧ yL_middle.cls ≠ "java/lang/invoke/MethodHandle" ∧ yL_middle.cls ≠ "java/lang/invoke/VarHandle" ∧ (parseMethodDescriptor yL_middle.desc).map (fun d => d.parameters.length) = some 4 := by decide +kernel
theorem qw_change : Cond.codeWith yL_change cL_change 4 (some .int) [(0, 9, 12, 34)] ∈ AW := aw_in 692 (by decide +kernel) rfl
theorem hdL_change : yL_change.cls = RL ∧ yL_change.cls ≠ "java/lang/invoke/MethodHandle" ∧ yL_change.cls ≠ "java/lang/invoke/VarHandle" ∧ (parseMethodDescriptor yL_change.desc).map (fun d => d.parameters.length) = some 3 := by decide +kernel
theorem qw_leastCost : Cond.codeWith yL_leastCost cL_leastCost 4 (some .int) [(0, 9, 12, 13), (0, 9, 15, 25)] ∈ AW := aw_in 707 (by decide +kernel) rfl
theorem hdL_leastCost : yL_leastCost.cls = RL ∧ yL_leastCost.cls ≠ "java/lang/invoke/MethodHandle" ∧ yL_leastCost.cls ≠ "java/lang/invoke/VarHandle" ∧ (parseMethodDescriptor yL_leastCost.desc).map (fun d => d.parameters.length) = some 3 := by decide +kernel
theorem qw_greedyChange : Cond.codeWith yL_greedyChange cL_greedyChange 4 (some .int) [(0, 9, 12, 34)] ∈ AW := aw_in 736 (by decide +kernel) rfl
theorem hdL_greedyChange : yL_greedyChange.cls = RL ∧ yL_greedyChange.cls ≠ "java/lang/invoke/MethodHandle" ∧ yL_greedyChange.cls ≠ "java/lang/invoke/VarHandle" ∧ (parseMethodDescriptor yL_greedyChange.desc).map (fun d => d.parameters.length) = some 3 := by decide +kernel
theorem qw_toggleTruth : Cond.codeWith yL_toggleTruth cL_toggleTruth 4 (some .int) [(0, 16, 19, 34)] ∈ AW := aw_in 743 (by decide +kernel) rfl
theorem hdL_toggleTruth : yL_toggleTruth.cls = RL ∧ yL_toggleTruth.cls ≠ "java/lang/invoke/MethodHandle" ∧ yL_toggleTruth.cls ≠ "java/lang/invoke/VarHandle" ∧ (parseMethodDescriptor yL_toggleTruth.desc).map (fun d => d.parameters.length) = some 3 := by decide +kernel
theorem qw_matched : Cond.codeWith yL_matched cL_matched 5 (some .int) [(0, 10, 13, 13)] ∈ AW := aw_in 750 (by decide +kernel) rfl
theorem hdL_matched : yL_matched.cls = RL ∧ yL_matched.cls ≠ "java/lang/invoke/MethodHandle" ∧ yL_matched.cls ≠ "java/lang/invoke/VarHandle" ∧ (parseMethodDescriptor yL_matched.desc).map (fun d => d.parameters.length) = some 4 := by decide +kernel
theorem qw_falseAlarms : Cond.codeWith yL_falseAlarms cL_falseAlarms 5 (some .int) [(0, 10, 13, 13)] ∈ AW := aw_in 774 (by decide +kernel) rfl
theorem hdL_falseAlarms : yL_falseAlarms.cls = RL ∧ yL_falseAlarms.cls ≠ "java/lang/invoke/MethodHandle" ∧ yL_falseAlarms.cls ≠ "java/lang/invoke/VarHandle" ∧ (parseMethodDescriptor yL_falseAlarms.desc).map (fun d => d.parameters.length) = some 4 := by decide +kernel
theorem qw_averageDelay : Cond.codeWith yL_averageDelay cL_averageDelay 5 (some .int) [(0, 10, 13, 13), (0, 10, 17, 25)] ∈ AW := aw_in 781 (by decide +kernel) rfl
theorem hdL_averageDelay : yL_averageDelay.cls = RL ∧ yL_averageDelay.cls ≠ "java/lang/invoke/MethodHandle" ∧ yL_averageDelay.cls ≠ "java/lang/invoke/VarHandle" ∧ (parseMethodDescriptor yL_averageDelay.desc).map (fun d => d.parameters.length) = some 4 := by decide +kernel
set_option maxHeartbeats 1000000 in
set_option maxRecDepth 100000 in
theorem c_L_setSums_ok (l : Launch) (hl0 : l.stackTraces = false) (D : va_G) (cI cZ cJ cD : ClassId) (qz : Nat) (x y z : Int32) (w0 w1 : va_W) (hM : Cv l yX9_setSums (aw yX9_setSums cX9_setSums 4 none) ({ frames := 2, cells := 0, slots := 0, locals := 43 }) D cI cZ [.ref qz, .int x, .int y, .int z] w0 w1) (hq : ∃ fs, w0[0]? = some (qz, .inr (8, fs))) (hw : w1.map (·.1) = w0.map (·.1)) : Ch l yL_setSums (awh yL_setSums cL_setSums 5 [(0, 7, 10, 13)]) ({ frames := 3, cells := 0, slots := 0, locals := 66 }) D cI cZ cJ cD [.ref qz, .int x, .int y, .int z] ([] ++ w0) ([] ++ w1) 0 0 0 := by
  refine mk_h (y := yL_setSums) (av := [.ref qz, .int x, .int y, .int z]) (cc := cL_setSums) (maxL := 5) (hh := [(0, 7, 10, 13)]) (by decide +kernel) (Nat.le_of_ble_eq_true rfl) ?_
  intro p e s m args below meth c A Q R hR hQ hx hb hr hml hAW hown hlk htab hN hT hNc hA hP hK hD hS ls hl
  have hl : lv_has ls 5 [(0, .ref qz), (1, .int x), (2, .int y), (3, .int z)] := hl
  have hP : va_P D vwCl ([] ++ (w0 ++ [])) s.heap := by rw [List.append_nil]; exact hP
  have hD : va_D A ([] ++ (w0 ++ [])) := by rw [List.append_nil]; exact hD
  have hK2 : va_K D vwCl (ty2 cI cZ) s := hK.sub [0, 1] rfl
  refine lv_aload_n hx hb dL_setSums_0 rfl (lv_at hl 0 rfl) ?_
  refine lv_iload_n hx hb dL_setSums_1 rfl (lv_at hl 1 rfl) ?_
  refine lv_iload_n hx hb dL_setSums_2 rfl (lv_at hl 2 rfl) ?_
  refine lv_iload_n hx hb dL_setSums_3 rfl (lv_at hl 3 rfl) ?_
  refine call_Rv (wa := []) (wb := []) (As := [.int x, .int y, .int z]) (rest := []) hx hb hml hown hAW hN hM (cwVAx 3 hAW q440 q441 q442 q41 q443 hd_X9_setSums (by rw [hR]; exact Nat.le_of_ble_eq_true rfl) (by rw [hR]; exact Nat.le_of_ble_eq_true rfl) rfl rfl) hK2 hP hD hS hA hq hw rfl rfl rfl hl.1 rfl (lv_room (Nat.le_of_ble_eq_true rfl)) dL_setSums_4 (Nat.zero_le _) (Nat.zero_le _) (fun H locs hP hD hS => ?_)
  have hP : va_P D vwCl ([] ++ w1) H := by rw [List.append_nil] at hP; exact hP
  refine lv_goto (tgt := 14) hx hb dL_setSums_7 (by decide) ?_
  refine lv_iconst (v := 0) hx hb dL_setSums_14 (by decide) ?_
  exact fin_h (v := 0) hx hb hr hlk hP hS rfl rfl hQ dL_setSums_15

set_option maxHeartbeats 1000000 in
set_option maxRecDepth 100000 in
theorem c_L_setTest_ok (l : Launch) (hl0 : l.stackTraces = false) (D : va_G) (cI cZ cJ cD : ClassId) (qz : Nat) (x y z : Int32) (w0 w1 : va_W) (hM : Cv l yX9_setTest (aw yX9_setTest cX9_setTest 4 none) ({ frames := 2, cells := 0, slots := 0, locals := 43 }) D cI cZ [.ref qz, .int x, .int y, .int z] w0 w1) (hq : ∃ fs, w0[0]? = some (qz, .inr (8, fs))) (hw : w1.map (·.1) = w0.map (·.1)) : Ch l yL_setTest (awh yL_setTest cL_setTest 5 [(0, 7, 10, 13)]) ({ frames := 3, cells := 0, slots := 0, locals := 66 }) D cI cZ cJ cD [.ref qz, .int x, .int y, .int z] ([] ++ w0) ([] ++ w1) 0 0 0 := by
  refine mk_h (y := yL_setTest) (av := [.ref qz, .int x, .int y, .int z]) (cc := cL_setTest) (maxL := 5) (hh := [(0, 7, 10, 13)]) (by decide +kernel) (Nat.le_of_ble_eq_true rfl) ?_
  intro p e s m args below meth c A Q R hR hQ hx hb hr hml hAW hown hlk htab hN hT hNc hA hP hK hD hS ls hl
  have hl : lv_has ls 5 [(0, .ref qz), (1, .int x), (2, .int y), (3, .int z)] := hl
  have hP : va_P D vwCl ([] ++ (w0 ++ [])) s.heap := by rw [List.append_nil]; exact hP
  have hD : va_D A ([] ++ (w0 ++ [])) := by rw [List.append_nil]; exact hD
  have hK2 : va_K D vwCl (ty2 cI cZ) s := hK.sub [0, 1] rfl
  refine lv_aload_n hx hb dL_setTest_0 rfl (lv_at hl 0 rfl) ?_
  refine lv_iload_n hx hb dL_setTest_1 rfl (lv_at hl 1 rfl) ?_
  refine lv_iload_n hx hb dL_setTest_2 rfl (lv_at hl 2 rfl) ?_
  refine lv_iload_n hx hb dL_setTest_3 rfl (lv_at hl 3 rfl) ?_
  refine call_Rv (wa := []) (wb := []) (As := [.int x, .int y, .int z]) (rest := []) hx hb hml hown hAW hN hM (cwVAx 3 hAW q526 q527 q528 q41 q529 hd_X9_setTest (by rw [hR]; exact Nat.le_of_ble_eq_true rfl) (by rw [hR]; exact Nat.le_of_ble_eq_true rfl) rfl rfl) hK2 hP hD hS hA hq hw rfl rfl rfl hl.1 rfl (lv_room (Nat.le_of_ble_eq_true rfl)) dL_setTest_4 (Nat.zero_le _) (Nat.zero_le _) (fun H locs hP hD hS => ?_)
  have hP : va_P D vwCl ([] ++ w1) H := by rw [List.append_nil] at hP; exact hP
  refine lv_goto (tgt := 14) hx hb dL_setTest_7 (by decide) ?_
  refine lv_iconst (v := 0) hx hb dL_setTest_14 (by decide) ?_
  exact fin_h (v := 0) hx hb hr hlk hP hS rfl rfl hQ dL_setTest_15

set_option maxHeartbeats 1000000 in
set_option maxRecDepth 100000 in
theorem c_L_setPenalty_ok (l : Launch) (hl0 : l.stackTraces = false) (D : va_G) (cI cZ cJ cD : ClassId) (qz : Nat) (qo : Nat) (f : Nat → Int64) (x : Int32) (w0 w1 : va_W) (r : Int32) (hM : Ci l yX9_setPenalty (aw yX9_setPenalty cX9_setPenalty 3 (some .int)) ({ frames := 1, cells := 0, slots := 0, locals := 22 }) D cI cZ [.ref qz, .int x] w0 w1 r) (hq : ∃ fs, w0[0]? = some (qz, .inr (8, fs))) (hw : w1.map (·.1) = w0.map (·.1)) : Ch l yL_setPenalty (awh yL_setPenalty cL_setPenalty 4 [(0, 9, 12, 13)]) ({ frames := 2, cells := 0, slots := 0, locals := 44 }) D cI cZ cJ cD [.ref qz, .int x, .ref qo] ([(qo, .inl (cJ, 1, .inr (.inl f)))] ++ w0) ([(qo, .inl (cJ, 1, .inr (.inl (vp_updL f 0 r.toInt64))))] ++ w1) 0 0 0 := by
  refine mk_h (y := yL_setPenalty) (av := [.ref qz, .int x, .ref qo]) (cc := cL_setPenalty) (maxL := 4) (hh := [(0, 9, 12, 13)]) (by decide +kernel) (Nat.le_of_ble_eq_true rfl) ?_
  intro p e s m args below meth c A Q R hR hQ hx hb hr hml hAW hown hlk htab hN hT hNc hA hP hK hD hS ls hl
  have hl : lv_has ls 4 [(0, .ref qz), (1, .int x), (2, .ref qo)] := hl
  have hP : va_P D vwCl ([(qo, .inl (cJ, 1, .inr (.inl f)))] ++ (w0 ++ [])) s.heap := by rw [List.append_nil]; exact hP
  have hD : va_D A ([(qo, .inl (cJ, 1, .inr (.inl f)))] ++ (w0 ++ [])) := by rw [List.append_nil]; exact hD
  have hK2 : va_K D vwCl (ty2 cI cZ) s := hK.sub [0, 1] rfl
  refine lv_aload_n hx hb dL_setPenalty_0 rfl (lv_at hl 2 rfl) ?_
  refine lv_iconst (v := 0) hx hb dL_setPenalty_1 (by decide) ?_
  refine lv_aload_n hx hb dL_setPenalty_2 rfl (lv_at hl 0 rfl) ?_
  refine lv_iload_n hx hb dL_setPenalty_3 rfl (lv_at hl 1 rfl) ?_
  refine call_Ri (wa := [(qo, .inl (cJ, 1, .inr (.inl f)))]) (wb := []) (As := [.int x]) (rest := [.int 0, .ref qo]) hx hb hml hown hAW hN hM (cwVAx 1 hAW q534 q535 q536 q41 q537 hd_X9_setPenalty (by rw [hR]; exact Nat.le_of_ble_eq_true rfl) (by rw [hR]; exact Nat.le_of_ble_eq_true rfl) rfl rfl) hK2 hP hD hS hA hq hw rfl rfl rfl hl.1 rfl (lv_room (Nat.le_of_ble_eq_true rfl)) dL_setPenalty_4 (Nat.zero_le _) (Nat.zero_le _) (fun H locs hP hD hS => ?_)
  refine lv_i2l (v := r.toInt64) hx hb dL_setPenalty_7 rfl ?_
  have hP : va_P D vwCl ([(qo, .inl (cJ, 1, .inr (.inl f)))] ++ w1) H := by rw [List.append_nil] at hP; exact hP
  have hD : va_D A ([(qo, .inl (cJ, 1, .inr (.inl f)))] ++ w1) := by rw [List.append_nil] at hD; exact hD
  refine va_last hx hb hK hP hD hS 0 2 rfl rfl (pk_in 0 1 (by decide)) dL_setPenalty_8 (fun H locs hP hD hS => ?_)
  refine lv_goto (tgt := 15) hx hb dL_setPenalty_9 (by decide) ?_
  refine lv_iconst (v := 0) hx hb dL_setPenalty_15 (by decide) ?_
  exact fin_h (v := 0) hx hb hr hlk hP hS rfl rfl hQ dL_setPenalty_16

set_option maxHeartbeats 1000000 in
set_option maxRecDepth 100000 in
theorem c_L_add_ok (l : Launch) (hl0 : l.stackTraces = false) (D : va_G) (cI cZ cJ cD : ClassId) (qz : Nat) (qo : Nat) (f : Nat → Int64) (x : Int32) (w0 w1 : va_W) (r : Int32) (hM : Ci l yX9_add (aw yX9_add cX9_add 2 (some .int)) ({ frames := 5, cells := 0, slots := 0, locals := 111 }) D cI cZ [.ref qz, .int x] w0 w1 r) (hq : ∃ fs, w0[0]? = some (qz, .inr (8, fs))) (hw : w1.map (·.1) = w0.map (·.1)) : Ch l yL_add (awh yL_add cL_add 4 [(0, 9, 12, 13), (0, 9, 15, 25)]) ({ frames := 6, cells := 0, slots := 0, locals := 132 }) D cI cZ cJ cD [.ref qz, .int x, .ref qo] ([(qo, .inl (cJ, 1, .inr (.inl f)))] ++ w0) ([(qo, .inl (cJ, 1, .inr (.inl (vp_updL f 0 r.toInt64))))] ++ w1) 0 0 0 := by
  refine mk_h (y := yL_add) (av := [.ref qz, .int x, .ref qo]) (cc := cL_add) (maxL := 4) (hh := [(0, 9, 12, 13), (0, 9, 15, 25)]) (by decide +kernel) (Nat.le_of_ble_eq_true rfl) ?_
  intro p e s m args below meth c A Q R hR hQ hx hb hr hml hAW hown hlk htab hN hT hNc hA hP hK hD hS ls hl
  have hl : lv_has ls 4 [(0, .ref qz), (1, .int x), (2, .ref qo)] := hl
  have hP : va_P D vwCl ([(qo, .inl (cJ, 1, .inr (.inl f)))] ++ (w0 ++ [])) s.heap := by rw [List.append_nil]; exact hP
  have hD : va_D A ([(qo, .inl (cJ, 1, .inr (.inl f)))] ++ (w0 ++ [])) := by rw [List.append_nil]; exact hD
  have hK2 : va_K D vwCl (ty2 cI cZ) s := hK.sub [0, 1] rfl
  refine lv_aload_n hx hb dL_add_0 rfl (lv_at hl 2 rfl) ?_
  refine lv_iconst (v := 0) hx hb dL_add_1 (by decide) ?_
  refine lv_aload_n hx hb dL_add_2 rfl (lv_at hl 0 rfl) ?_
  refine lv_iload_n hx hb dL_add_3 rfl (lv_at hl 1 rfl) ?_
  refine call_Ri (wa := [(qo, .inl (cJ, 1, .inr (.inl f)))]) (wb := []) (As := [.int x]) (rest := [.int 0, .ref qo]) hx hb hml hown hAW hN hM (cwVAx 1 hAW q542 q543 q544 q41 q545 hd_X9_add (by rw [hR]; exact Nat.le_of_ble_eq_true rfl) (by rw [hR]; exact Nat.le_of_ble_eq_true rfl) rfl rfl) hK2 hP hD hS hA hq hw rfl rfl rfl hl.1 rfl (lv_room (Nat.le_of_ble_eq_true rfl)) dL_add_4 (Nat.zero_le _) (Nat.zero_le _) (fun H locs hP hD hS => ?_)
  refine lv_i2l (v := r.toInt64) hx hb dL_add_7 rfl ?_
  have hP : va_P D vwCl ([(qo, .inl (cJ, 1, .inr (.inl f)))] ++ w1) H := by rw [List.append_nil] at hP; exact hP
  have hD : va_D A ([(qo, .inl (cJ, 1, .inr (.inl f)))] ++ w1) := by rw [List.append_nil] at hD; exact hD
  refine va_last hx hb hK hP hD hS 0 2 rfl rfl (pk_in 0 1 (by decide)) dL_add_8 (fun H locs hP hD hS => ?_)
  refine lv_goto (tgt := 18) hx hb dL_add_9 (by decide) ?_
  refine lv_iconst (v := 0) hx hb dL_add_18 (by decide) ?_
  exact fin_h (v := 0) hx hb hr hlk hP hS rfl rfl hQ dL_add_19

set_option maxHeartbeats 1000000 in
set_option maxRecDepth 100000 in
theorem c_L_addRun_ok (l : Launch) (hl0 : l.stackTraces = false) (D : va_G) (cI cZ cJ cD : ClassId) (qz : Nat) (qo : Nat) (f : Nat → Int64) (x y z : Int32) (w0 w1 : va_W) (r : Int32) (hM : Ci l yX9_addRun (aw yX9_addRun cX9_addRun 6 (some .int)) ({ frames := 5, cells := 0, slots := 0, locals := 111 }) D cI cZ [.ref qz, .int x, .int y, .int z] w0 w1 r) (hq : ∃ fs, w0[0]? = some (qz, .inr (8, fs))) (hw : w1.map (·.1) = w0.map (·.1)) : Ch l yL_addRun (awh yL_addRun cL_addRun 6 [(0, 12, 15, 13), (0, 12, 19, 25)]) ({ frames := 6, cells := 0, slots := 0, locals := 136 }) D cI cZ cJ cD [.ref qz, .int x, .int y, .int z, .ref qo] ([(qo, .inl (cJ, 1, .inr (.inl f)))] ++ w0) ([(qo, .inl (cJ, 1, .inr (.inl (vp_updL f 0 r.toInt64))))] ++ w1) 0 0 0 := by
  refine mk_h (y := yL_addRun) (av := [.ref qz, .int x, .int y, .int z, .ref qo]) (cc := cL_addRun) (maxL := 6) (hh := [(0, 12, 15, 13), (0, 12, 19, 25)]) (by decide +kernel) (Nat.le_of_ble_eq_true rfl) ?_
  intro p e s m args below meth c A Q R hR hQ hx hb hr hml hAW hown hlk htab hN hT hNc hA hP hK hD hS ls hl
  have hl : lv_has ls 6 [(0, .ref qz), (1, .int x), (2, .int y), (3, .int z), (4, .ref qo)] := hl
  have hP : va_P D vwCl ([(qo, .inl (cJ, 1, .inr (.inl f)))] ++ (w0 ++ [])) s.heap := by rw [List.append_nil]; exact hP
  have hD : va_D A ([(qo, .inl (cJ, 1, .inr (.inl f)))] ++ (w0 ++ [])) := by rw [List.append_nil]; exact hD
  have hK2 : va_K D vwCl (ty2 cI cZ) s := hK.sub [0, 1] rfl
  refine lv_aload hx hb dL_addRun_0 (lv_at hl 4 rfl) ?_
  refine lv_iconst (v := 0) hx hb dL_addRun_2 (by decide) ?_
  refine lv_aload_n hx hb dL_addRun_3 rfl (lv_at hl 0 rfl) ?_
  refine lv_iload_n hx hb dL_addRun_4 rfl (lv_at hl 1 rfl) ?_
  refine lv_iload_n hx hb dL_addRun_5 rfl (lv_at hl 2 rfl) ?_
  refine lv_iload_n hx hb dL_addRun_6 rfl (lv_at hl 3 rfl) ?_
  refine call_Ri (wa := [(qo, .inl (cJ, 1, .inr (.inl f)))]) (wb := []) (As := [.int x, .int y, .int z]) (rest := [.int 0, .ref qo]) hx hb hml hown hAW hN hM (cwVAx 3 hAW q607 q608 q609 q41 q610 hd_X9_addRun (by rw [hR]; exact Nat.le_of_ble_eq_true rfl) (by rw [hR]; exact Nat.le_of_ble_eq_true rfl) rfl rfl) hK2 hP hD hS hA hq hw rfl rfl rfl hl.1 rfl (lv_room (Nat.le_of_ble_eq_true rfl)) dL_addRun_7 (Nat.zero_le _) (Nat.zero_le _) (fun H locs hP hD hS => ?_)
  refine lv_i2l (v := r.toInt64) hx hb dL_addRun_10 rfl ?_
  have hP : va_P D vwCl ([(qo, .inl (cJ, 1, .inr (.inl f)))] ++ w1) H := by rw [List.append_nil] at hP; exact hP
  have hD : va_D A ([(qo, .inl (cJ, 1, .inr (.inl f)))] ++ w1) := by rw [List.append_nil] at hD; exact hD
  refine va_last hx hb hK hP hD hS 0 2 rfl rfl (pk_in 0 1 (by decide)) dL_addRun_11 (fun H locs hP hD hS => ?_)
  refine lv_goto (tgt := 23) hx hb dL_addRun_12 (by decide) ?_
  refine lv_iconst (v := 0) hx hb dL_addRun_23 (by decide) ?_
  exact fin_h (v := 0) hx hb hr hlk hP hS rfl rfl hQ dL_addRun_24

set_option maxHeartbeats 1000000 in
set_option maxRecDepth 100000 in
theorem c_L_value_ok (l : Launch) (hl0 : l.stackTraces = false) (D : va_G) (cI cZ cJ cD : ClassId) (qz : Nat) (qo : Nat) (f : Nat → Int64) (x : Int32) (w0 w1 : va_W) (r : Int32) (hM : Ci l yX9_value (aw yX9_value cX9_value 2 (some .int)) ({ frames := 1, cells := 0, slots := 0, locals := 21 }) D cI cZ [.ref qz, .int x] w0 w1 r) (hq : ∃ fs, w0[0]? = some (qz, .inr (8, fs))) (hw : w1.map (·.1) = w0.map (·.1)) : Ch l yL_value (awh yL_value cL_value 4 [(0, 9, 12, 34)]) ({ frames := 2, cells := 0, slots := 0, locals := 42 }) D cI cZ cJ cD [.ref qz, .int x, .ref qo] ([(qo, .inl (cJ, 1, .inr (.inl f)))] ++ w0) ([(qo, .inl (cJ, 1, .inr (.inl (vp_updL f 0 r.toInt64))))] ++ w1) 0 0 0 := by
  refine mk_h (y := yL_value) (av := [.ref qz, .int x, .ref qo]) (cc := cL_value) (maxL := 4) (hh := [(0, 9, 12, 34)]) (by decide +kernel) (Nat.le_of_ble_eq_true rfl) ?_
  intro p e s m args below meth c A Q R hR hQ hx hb hr hml hAW hown hlk htab hN hT hNc hA hP hK hD hS ls hl
  have hl : lv_has ls 4 [(0, .ref qz), (1, .int x), (2, .ref qo)] := hl
  have hP : va_P D vwCl ([(qo, .inl (cJ, 1, .inr (.inl f)))] ++ (w0 ++ [])) s.heap := by rw [List.append_nil]; exact hP
  have hD : va_D A ([(qo, .inl (cJ, 1, .inr (.inl f)))] ++ (w0 ++ [])) := by rw [List.append_nil]; exact hD
  have hK2 : va_K D vwCl (ty2 cI cZ) s := hK.sub [0, 1] rfl
  refine lv_aload_n hx hb dL_value_0 rfl (lv_at hl 2 rfl) ?_
  refine lv_iconst (v := 0) hx hb dL_value_1 (by decide) ?_
  refine lv_aload_n hx hb dL_value_2 rfl (lv_at hl 0 rfl) ?_
  refine lv_iload_n hx hb dL_value_3 rfl (lv_at hl 1 rfl) ?_
  refine call_Ri (wa := [(qo, .inl (cJ, 1, .inr (.inl f)))]) (wb := []) (As := [.int x]) (rest := [.int 0, .ref qo]) hx hb hml hown hAW hN hM (cwVAx 1 hAW q615 q616 q617 q41 q618 hd_X9_value (by rw [hR]; exact Nat.le_of_ble_eq_true rfl) (by rw [hR]; exact Nat.le_of_ble_eq_true rfl) rfl rfl) hK2 hP hD hS hA hq hw rfl rfl rfl hl.1 rfl (lv_room (Nat.le_of_ble_eq_true rfl)) dL_value_4 (Nat.zero_le _) (Nat.zero_le _) (fun H locs hP hD hS => ?_)
  refine lv_i2l (v := r.toInt64) hx hb dL_value_7 rfl ?_
  have hP : va_P D vwCl ([(qo, .inl (cJ, 1, .inr (.inl f)))] ++ w1) H := by rw [List.append_nil] at hP; exact hP
  have hD : va_D A ([(qo, .inl (cJ, 1, .inr (.inl f)))] ++ w1) := by rw [List.append_nil] at hD; exact hD
  refine va_last hx hb hK hP hD hS 0 2 rfl rfl (pk_in 0 1 (by decide)) dL_value_8 (fun H locs hP hD hS => ?_)
  refine lv_goto (tgt := 15) hx hb dL_value_9 (by decide) ?_
  refine lv_iconst (v := 0) hx hb dL_value_15 (by decide) ?_
  exact fin_h (v := 0) hx hb hr hlk hP hS rfl rfl hQ dL_value_16

set_option maxHeartbeats 1000000 in
set_option maxRecDepth 100000 in
theorem c_L_alarmKind_ok (l : Launch) (hl0 : l.stackTraces = false) (D : va_G) (cI cZ cJ cD : ClassId) (qz : Nat) (qo : Nat) (f : Nat → Int64) (x : Int32) (w0 w1 : va_W) (r : Int32) (hM : Ci l yX9_alarmKind (aw yX9_alarmKind cX9_alarmKind 2 (some .int)) ({ frames := 1, cells := 0, slots := 0, locals := 21 }) D cI cZ [.ref qz, .int x] w0 w1 r) (hq : ∃ fs, w0[0]? = some (qz, .inr (8, fs))) (hw : w1.map (·.1) = w0.map (·.1)) : Ch l yL_alarmKind (awh yL_alarmKind cL_alarmKind 4 [(0, 9, 12, 34)]) ({ frames := 2, cells := 0, slots := 0, locals := 42 }) D cI cZ cJ cD [.ref qz, .int x, .ref qo] ([(qo, .inl (cJ, 1, .inr (.inl f)))] ++ w0) ([(qo, .inl (cJ, 1, .inr (.inl (vp_updL f 0 r.toInt64))))] ++ w1) 0 0 0 := by
  refine mk_h (y := yL_alarmKind) (av := [.ref qz, .int x, .ref qo]) (cc := cL_alarmKind) (maxL := 4) (hh := [(0, 9, 12, 34)]) (by decide +kernel) (Nat.le_of_ble_eq_true rfl) ?_
  intro p e s m args below meth c A Q R hR hQ hx hb hr hml hAW hown hlk htab hN hT hNc hA hP hK hD hS ls hl
  have hl : lv_has ls 4 [(0, .ref qz), (1, .int x), (2, .ref qo)] := hl
  have hP : va_P D vwCl ([(qo, .inl (cJ, 1, .inr (.inl f)))] ++ (w0 ++ [])) s.heap := by rw [List.append_nil]; exact hP
  have hD : va_D A ([(qo, .inl (cJ, 1, .inr (.inl f)))] ++ (w0 ++ [])) := by rw [List.append_nil]; exact hD
  have hK2 : va_K D vwCl (ty2 cI cZ) s := hK.sub [0, 1] rfl
  refine lv_aload_n hx hb dL_alarmKind_0 rfl (lv_at hl 2 rfl) ?_
  refine lv_iconst (v := 0) hx hb dL_alarmKind_1 (by decide) ?_
  refine lv_aload_n hx hb dL_alarmKind_2 rfl (lv_at hl 0 rfl) ?_
  refine lv_iload_n hx hb dL_alarmKind_3 rfl (lv_at hl 1 rfl) ?_
  refine call_Ri (wa := [(qo, .inl (cJ, 1, .inr (.inl f)))]) (wb := []) (As := [.int x]) (rest := [.int 0, .ref qo]) hx hb hml hown hAW hN hM (cwVAx 1 hAW q645 q646 q647 q41 q648 hd_X9_alarmKind (by rw [hR]; exact Nat.le_of_ble_eq_true rfl) (by rw [hR]; exact Nat.le_of_ble_eq_true rfl) rfl rfl) hK2 hP hD hS hA hq hw rfl rfl rfl hl.1 rfl (lv_room (Nat.le_of_ble_eq_true rfl)) dL_alarmKind_4 (Nat.zero_le _) (Nat.zero_le _) (fun H locs hP hD hS => ?_)
  refine lv_i2l (v := r.toInt64) hx hb dL_alarmKind_7 rfl ?_
  have hP : va_P D vwCl ([(qo, .inl (cJ, 1, .inr (.inl f)))] ++ w1) H := by rw [List.append_nil] at hP; exact hP
  have hD : va_D A ([(qo, .inl (cJ, 1, .inr (.inl f)))] ++ w1) := by rw [List.append_nil] at hD; exact hD
  refine va_last hx hb hK hP hD hS 0 2 rfl rfl (pk_in 0 1 (by decide)) dL_alarmKind_8 (fun H locs hP hD hS => ?_)
  refine lv_goto (tgt := 15) hx hb dL_alarmKind_9 (by decide) ?_
  refine lv_iconst (v := 0) hx hb dL_alarmKind_15 (by decide) ?_
  exact fin_h (v := 0) hx hb hr hlk hP hS rfl rfl hQ dL_alarmKind_16

set_option maxHeartbeats 1000000 in
set_option maxRecDepth 100000 in
theorem c_L_alarmNumber_ok (l : Launch) (hl0 : l.stackTraces = false) (D : va_G) (cI cZ cJ cD : ClassId) (qz : Nat) (qo : Nat) (f : Nat → Int64) (x : Int32) (w0 w1 : va_W) (r : Int32) (hM : Ci l yX9_alarmNumber (aw yX9_alarmNumber cX9_alarmNumber 2 (some .int)) ({ frames := 1, cells := 0, slots := 0, locals := 21 }) D cI cZ [.ref qz, .int x] w0 w1 r) (hq : ∃ fs, w0[0]? = some (qz, .inr (8, fs))) (hw : w1.map (·.1) = w0.map (·.1)) : Ch l yL_alarmNumber (awh yL_alarmNumber cL_alarmNumber 4 [(0, 9, 12, 34)]) ({ frames := 2, cells := 0, slots := 0, locals := 42 }) D cI cZ cJ cD [.ref qz, .int x, .ref qo] ([(qo, .inl (cJ, 1, .inr (.inl f)))] ++ w0) ([(qo, .inl (cJ, 1, .inr (.inl (vp_updL f 0 r.toInt64))))] ++ w1) 0 0 0 := by
  refine mk_h (y := yL_alarmNumber) (av := [.ref qz, .int x, .ref qo]) (cc := cL_alarmNumber) (maxL := 4) (hh := [(0, 9, 12, 34)]) (by decide +kernel) (Nat.le_of_ble_eq_true rfl) ?_
  intro p e s m args below meth c A Q R hR hQ hx hb hr hml hAW hown hlk htab hN hT hNc hA hP hK hD hS ls hl
  have hl : lv_has ls 4 [(0, .ref qz), (1, .int x), (2, .ref qo)] := hl
  have hP : va_P D vwCl ([(qo, .inl (cJ, 1, .inr (.inl f)))] ++ (w0 ++ [])) s.heap := by rw [List.append_nil]; exact hP
  have hD : va_D A ([(qo, .inl (cJ, 1, .inr (.inl f)))] ++ (w0 ++ [])) := by rw [List.append_nil]; exact hD
  have hK2 : va_K D vwCl (ty2 cI cZ) s := hK.sub [0, 1] rfl
  refine lv_aload_n hx hb dL_alarmNumber_0 rfl (lv_at hl 2 rfl) ?_
  refine lv_iconst (v := 0) hx hb dL_alarmNumber_1 (by decide) ?_
  refine lv_aload_n hx hb dL_alarmNumber_2 rfl (lv_at hl 0 rfl) ?_
  refine lv_iload_n hx hb dL_alarmNumber_3 rfl (lv_at hl 1 rfl) ?_
  refine call_Ri (wa := [(qo, .inl (cJ, 1, .inr (.inl f)))]) (wb := []) (As := [.int x]) (rest := [.int 0, .ref qo]) hx hb hml hown hAW hN hM (cwVAx 1 hAW q656 q657 q658 q41 q659 hd_X9_alarmNumber (by rw [hR]; exact Nat.le_of_ble_eq_true rfl) (by rw [hR]; exact Nat.le_of_ble_eq_true rfl) rfl rfl) hK2 hP hD hS hA hq hw rfl rfl rfl hl.1 rfl (lv_room (Nat.le_of_ble_eq_true rfl)) dL_alarmNumber_4 (Nat.zero_le _) (Nat.zero_le _) (fun H locs hP hD hS => ?_)
  refine lv_i2l (v := r.toInt64) hx hb dL_alarmNumber_7 rfl ?_
  have hP : va_P D vwCl ([(qo, .inl (cJ, 1, .inr (.inl f)))] ++ w1) H := by rw [List.append_nil] at hP; exact hP
  have hD : va_D A ([(qo, .inl (cJ, 1, .inr (.inl f)))] ++ w1) := by rw [List.append_nil] at hD; exact hD
  refine va_last hx hb hK hP hD hS 0 2 rfl rfl (pk_in 0 1 (by decide)) dL_alarmNumber_8 (fun H locs hP hD hS => ?_)
  refine lv_goto (tgt := 15) hx hb dL_alarmNumber_9 (by decide) ?_
  refine lv_iconst (v := 0) hx hb dL_alarmNumber_15 (by decide) ?_
  exact fin_h (v := 0) hx hb hr hlk hP hS rfl rfl hQ dL_alarmNumber_16

set_option maxHeartbeats 1000000 in
set_option maxRecDepth 100000 in
theorem c_L_alarmStart_ok (l : Launch) (hl0 : l.stackTraces = false) (D : va_G) (cI cZ cJ cD : ClassId) (qz : Nat) (qo : Nat) (f : Nat → Int64) (x : Int32) (w0 w1 : va_W) (r : Int32) (hM : Ci l yX9_alarmStart (aw yX9_alarmStart cX9_alarmStart 2 (some .int)) ({ frames := 1, cells := 0, slots := 0, locals := 21 }) D cI cZ [.ref qz, .int x] w0 w1 r) (hq : ∃ fs, w0[0]? = some (qz, .inr (8, fs))) (hw : w1.map (·.1) = w0.map (·.1)) : Ch l yL_alarmStart (awh yL_alarmStart cL_alarmStart 4 [(0, 9, 12, 34)]) ({ frames := 2, cells := 0, slots := 0, locals := 42 }) D cI cZ cJ cD [.ref qz, .int x, .ref qo] ([(qo, .inl (cJ, 1, .inr (.inl f)))] ++ w0) ([(qo, .inl (cJ, 1, .inr (.inl (vp_updL f 0 r.toInt64))))] ++ w1) 0 0 0 := by
  refine mk_h (y := yL_alarmStart) (av := [.ref qz, .int x, .ref qo]) (cc := cL_alarmStart) (maxL := 4) (hh := [(0, 9, 12, 34)]) (by decide +kernel) (Nat.le_of_ble_eq_true rfl) ?_
  intro p e s m args below meth c A Q R hR hQ hx hb hr hml hAW hown hlk htab hN hT hNc hA hP hK hD hS ls hl
  have hl : lv_has ls 4 [(0, .ref qz), (1, .int x), (2, .ref qo)] := hl
  have hP : va_P D vwCl ([(qo, .inl (cJ, 1, .inr (.inl f)))] ++ (w0 ++ [])) s.heap := by rw [List.append_nil]; exact hP
  have hD : va_D A ([(qo, .inl (cJ, 1, .inr (.inl f)))] ++ (w0 ++ [])) := by rw [List.append_nil]; exact hD
  have hK2 : va_K D vwCl (ty2 cI cZ) s := hK.sub [0, 1] rfl
  refine lv_aload_n hx hb dL_alarmStart_0 rfl (lv_at hl 2 rfl) ?_
  refine lv_iconst (v := 0) hx hb dL_alarmStart_1 (by decide) ?_
  refine lv_aload_n hx hb dL_alarmStart_2 rfl (lv_at hl 0 rfl) ?_
  refine lv_iload_n hx hb dL_alarmStart_3 rfl (lv_at hl 1 rfl) ?_
  refine call_Ri (wa := [(qo, .inl (cJ, 1, .inr (.inl f)))]) (wb := []) (As := [.int x]) (rest := [.int 0, .ref qo]) hx hb hml hown hAW hN hM (cwVAx 1 hAW q663 q664 q665 q41 q666 hd_X9_alarmStart (by rw [hR]; exact Nat.le_of_ble_eq_true rfl) (by rw [hR]; exact Nat.le_of_ble_eq_true rfl) rfl rfl) hK2 hP hD hS hA hq hw rfl rfl rfl hl.1 rfl (lv_room (Nat.le_of_ble_eq_true rfl)) dL_alarmStart_4 (Nat.zero_le _) (Nat.zero_le _) (fun H locs hP hD hS => ?_)
  refine lv_i2l (v := r.toInt64) hx hb dL_alarmStart_7 rfl ?_
  have hP : va_P D vwCl ([(qo, .inl (cJ, 1, .inr (.inl f)))] ++ w1) H := by rw [List.append_nil] at hP; exact hP
  have hD : va_D A ([(qo, .inl (cJ, 1, .inr (.inl f)))] ++ w1) := by rw [List.append_nil] at hD; exact hD
  refine va_last hx hb hK hP hD hS 0 2 rfl rfl (pk_in 0 1 (by decide)) dL_alarmStart_8 (fun H locs hP hD hS => ?_)
  refine lv_goto (tgt := 15) hx hb dL_alarmStart_9 (by decide) ?_
  refine lv_iconst (v := 0) hx hb dL_alarmStart_15 (by decide) ?_
  exact fin_h (v := 0) hx hb hr hlk hP hS rfl rfl hQ dL_alarmStart_16

set_option maxHeartbeats 1000000 in
set_option maxRecDepth 100000 in
theorem c_L_cost_ok (l : Launch) (hl0 : l.stackTraces = false) (D : va_G) (cI cZ cJ cD : ClassId) (qz : Nat) (qo : Nat) (f : Nat → Int64) (x y : Int32) (w0 w1 : va_W) (r : Int32) (hM : Ci l yX9_cost (aw yX9_cost cX9_cost 3 (some .int)) ({ frames := 4, cells := 0, slots := 0, locals := 93 }) D cI cZ [.ref qz, .int x, .int y] w0 w1 r) (hq : ∃ fs, w0[0]? = some (qz, .inr (8, fs))) (hw : w1.map (·.1) = w0.map (·.1)) : Ch l yL_cost (awh yL_cost cL_cost 5 [(0, 10, 13, 34)]) ({ frames := 5, cells := 0, slots := 0, locals := 115 }) D cI cZ cJ cD [.ref qz, .int x, .int y, .ref qo] ([(qo, .inl (cJ, 1, .inr (.inl f)))] ++ w0) ([(qo, .inl (cJ, 1, .inr (.inl (vp_updL f 0 r.toInt64))))] ++ w1) 0 0 0 := by
  refine mk_h (y := yL_cost) (av := [.ref qz, .int x, .int y, .ref qo]) (cc := cL_cost) (maxL := 5) (hh := [(0, 10, 13, 34)]) (by decide +kernel) (Nat.le_of_ble_eq_true rfl) ?_
  intro p e s m args below meth c A Q R hR hQ hx hb hr hml hAW hown hlk htab hN hT hNc hA hP hK hD hS ls hl
  have hl : lv_has ls 5 [(0, .ref qz), (1, .int x), (2, .int y), (3, .ref qo)] := hl
  have hP : va_P D vwCl ([(qo, .inl (cJ, 1, .inr (.inl f)))] ++ (w0 ++ [])) s.heap := by rw [List.append_nil]; exact hP
  have hD : va_D A ([(qo, .inl (cJ, 1, .inr (.inl f)))] ++ (w0 ++ [])) := by rw [List.append_nil]; exact hD
  have hK2 : va_K D vwCl (ty2 cI cZ) s := hK.sub [0, 1] rfl
  refine lv_aload_n hx hb dL_cost_0 rfl (lv_at hl 3 rfl) ?_
  refine lv_iconst (v := 0) hx hb dL_cost_1 (by decide) ?_
  refine lv_aload_n hx hb dL_cost_2 rfl (lv_at hl 0 rfl) ?_
  refine lv_iload_n hx hb dL_cost_3 rfl (lv_at hl 1 rfl) ?_
  refine lv_iload_n hx hb dL_cost_4 rfl (lv_at hl 2 rfl) ?_
  refine call_Ri (wa := [(qo, .inl (cJ, 1, .inr (.inl f)))]) (wb := []) (As := [.int x, .int y]) (rest := [.int 0, .ref qo]) hx hb hml hown hAW hN hM (cwVAx 2 hAW q670 q671 q672 q41 q673 hd_X9_cost (by rw [hR]; exact Nat.le_of_ble_eq_true rfl) (by rw [hR]; exact Nat.le_of_ble_eq_true rfl) rfl rfl) hK2 hP hD hS hA hq hw rfl rfl rfl hl.1 rfl (lv_room (Nat.le_of_ble_eq_true rfl)) dL_cost_5 (Nat.zero_le _) (Nat.zero_le _) (fun H locs hP hD hS => ?_)
  refine lv_i2l (v := r.toInt64) hx hb dL_cost_8 rfl ?_
  have hP : va_P D vwCl ([(qo, .inl (cJ, 1, .inr (.inl f)))] ++ w1) H := by rw [List.append_nil] at hP; exact hP
  have hD : va_D A ([(qo, .inl (cJ, 1, .inr (.inl f)))] ++ w1) := by rw [List.append_nil] at hD; exact hD
  refine va_last hx hb hK hP hD hS 0 2 rfl rfl (pk_in 0 1 (by decide)) dL_cost_9 (fun H locs hP hD hS => ?_)
  refine lv_goto (tgt := 17) hx hb dL_cost_10 (by decide) ?_
  refine lv_iconst (v := 0) hx hb dL_cost_17 (by decide) ?_
  exact fin_h (v := 0) hx hb hr hlk hP hS rfl rfl hQ dL_cost_18

set_option maxHeartbeats 1000000 in
set_option maxRecDepth 100000 in
theorem c_L_middle_ok (l : Launch) (hl0 : l.stackTraces = false) (D : va_G) (cI cZ cJ cD : ClassId) (qz : Nat) (qo : Nat) (f : Nat → Int64) (x y : Int32) (w0 w1 : va_W) (r : Int32) (hM : Ci l yX9_middle (aw yX9_middle cX9_middle 3 (some .int)) ({ frames := 2, cells := 0, slots := 0, locals := 47 }) D cI cZ [.ref qz, .int x, .int y] w0 w1 r) (hq : ∃ fs, w0[0]? = some (qz, .inr (8, fs))) (hw : w1.map (·.1) = w0.map (·.1)) : Ch l yL_middle (awh yL_middle cL_middle 5 [(0, 10, 13, 34)]) ({ frames := 3, cells := 0, slots := 0, locals := 69 }) D cI cZ cJ cD [.ref qz, .int x, .int y, .ref qo] ([(qo, .inl (cJ, 1, .inr (.inl f)))] ++ w0) ([(qo, .inl (cJ, 1, .inr (.inl (vp_updL f 0 r.toInt64))))] ++ w1) 0 0 0 := by
  refine mk_h (y := yL_middle) (av := [.ref qz, .int x, .int y, .ref qo]) (cc := cL_middle) (maxL := 5) (hh := [(0, 10, 13, 34)]) (by decide +kernel) (Nat.le_of_ble_eq_true rfl) ?_
  intro p e s m args below meth c A Q R hR hQ hx hb hr hml hAW hown hlk htab hN hT hNc hA hP hK hD hS ls hl
  have hl : lv_has ls 5 [(0, .ref qz), (1, .int x), (2, .int y), (3, .ref qo)] := hl
  have hP : va_P D vwCl ([(qo, .inl (cJ, 1, .inr (.inl f)))] ++ (w0 ++ [])) s.heap := by rw [List.append_nil]; exact hP
  have hD : va_D A ([(qo, .inl (cJ, 1, .inr (.inl f)))] ++ (w0 ++ [])) := by rw [List.append_nil]; exact hD
  have hK2 : va_K D vwCl (ty2 cI cZ) s := hK.sub [0, 1] rfl
  refine lv_aload_n hx hb dL_middle_0 rfl (lv_at hl 3 rfl) ?_
  refine lv_iconst (v := 0) hx hb dL_middle_1 (by decide) ?_
  refine lv_aload_n hx hb dL_middle_2 rfl (lv_at hl 0 rfl) ?_
  refine lv_iload_n hx hb dL_middle_3 rfl (lv_at hl 1 rfl) ?_
  refine lv_iload_n hx hb dL_middle_4 rfl (lv_at hl 2 rfl) ?_
  refine call_Ri (wa := [(qo, .inl (cJ, 1, .inr (.inl f)))]) (wb := []) (As := [.int x, .int y]) (rest := [.int 0, .ref qo]) hx hb hml hown hAW hN hM (cwVAx 2 hAW q682 q683 q684 q41 q685 hd_X9_middle (by rw [hR]; exact Nat.le_of_ble_eq_true rfl) (by rw [hR]; exact Nat.le_of_ble_eq_true rfl) rfl rfl) hK2 hP hD hS hA hq hw rfl rfl rfl hl.1 rfl (lv_room (Nat.le_of_ble_eq_true rfl)) dL_middle_5 (Nat.zero_le _) (Nat.zero_le _) (fun H locs hP hD hS => ?_)
  refine lv_i2l (v := r.toInt64) hx hb dL_middle_8 rfl ?_
  have hP : va_P D vwCl ([(qo, .inl (cJ, 1, .inr (.inl f)))] ++ w1) H := by rw [List.append_nil] at hP; exact hP
  have hD : va_D A ([(qo, .inl (cJ, 1, .inr (.inl f)))] ++ w1) := by rw [List.append_nil] at hD; exact hD
  refine va_last hx hb hK hP hD hS 0 2 rfl rfl (pk_in 0 1 (by decide)) dL_middle_9 (fun H locs hP hD hS => ?_)
  refine lv_goto (tgt := 17) hx hb dL_middle_10 (by decide) ?_
  refine lv_iconst (v := 0) hx hb dL_middle_17 (by decide) ?_
  exact fin_h (v := 0) hx hb hr hlk hP hS rfl rfl hQ dL_middle_18

set_option maxHeartbeats 1000000 in
set_option maxRecDepth 100000 in
theorem c_L_change_ok (l : Launch) (hl0 : l.stackTraces = false) (D : va_G) (cI cZ cJ cD : ClassId) (qz : Nat) (qo : Nat) (f : Nat → Int64) (x : Int32) (w0 w1 : va_W) (r : Int32) (hM : Ci l yX9_change (aw yX9_change cX9_change 3 (some .int)) ({ frames := 5, cells := 0, slots := 0, locals := 119 }) D cI cZ [.ref qz, .int x] w0 w1 r) (hq : ∃ fs, w0[0]? = some (qz, .inr (8, fs))) (hw : w1.map (·.1) = w0.map (·.1)) : Ch l yL_change (awh yL_change cL_change 4 [(0, 9, 12, 34)]) ({ frames := 6, cells := 0, slots := 0, locals := 141 }) D cI cZ cJ cD [.ref qz, .int x, .ref qo] ([(qo, .inl (cJ, 1, .inr (.inl f)))] ++ w0) ([(qo, .inl (cJ, 1, .inr (.inl (vp_updL f 0 r.toInt64))))] ++ w1) 0 0 0 := by
  refine mk_h (y := yL_change) (av := [.ref qz, .int x, .ref qo]) (cc := cL_change) (maxL := 4) (hh := [(0, 9, 12, 34)]) (by decide +kernel) (Nat.le_of_ble_eq_true rfl) ?_
  intro p e s m args below meth c A Q R hR hQ hx hb hr hml hAW hown hlk htab hN hT hNc hA hP hK hD hS ls hl
  have hl : lv_has ls 4 [(0, .ref qz), (1, .int x), (2, .ref qo)] := hl
  have hP : va_P D vwCl ([(qo, .inl (cJ, 1, .inr (.inl f)))] ++ (w0 ++ [])) s.heap := by rw [List.append_nil]; exact hP
  have hD : va_D A ([(qo, .inl (cJ, 1, .inr (.inl f)))] ++ (w0 ++ [])) := by rw [List.append_nil]; exact hD
  have hK2 : va_K D vwCl (ty2 cI cZ) s := hK.sub [0, 1] rfl
  refine lv_aload_n hx hb dL_change_0 rfl (lv_at hl 2 rfl) ?_
  refine lv_iconst (v := 0) hx hb dL_change_1 (by decide) ?_
  refine lv_aload_n hx hb dL_change_2 rfl (lv_at hl 0 rfl) ?_
  refine lv_iload_n hx hb dL_change_3 rfl (lv_at hl 1 rfl) ?_
  refine call_Ri (wa := [(qo, .inl (cJ, 1, .inr (.inl f)))]) (wb := []) (As := [.int x]) (rest := [.int 0, .ref qo]) hx hb hml hown hAW hN hM (cwVAx 1 hAW q693 q694 q695 q41 q696 hd_X9_change (by rw [hR]; exact Nat.le_of_ble_eq_true rfl) (by rw [hR]; exact Nat.le_of_ble_eq_true rfl) rfl rfl) hK2 hP hD hS hA hq hw rfl rfl rfl hl.1 rfl (lv_room (Nat.le_of_ble_eq_true rfl)) dL_change_4 (Nat.zero_le _) (Nat.zero_le _) (fun H locs hP hD hS => ?_)
  refine lv_i2l (v := r.toInt64) hx hb dL_change_7 rfl ?_
  have hP : va_P D vwCl ([(qo, .inl (cJ, 1, .inr (.inl f)))] ++ w1) H := by rw [List.append_nil] at hP; exact hP
  have hD : va_D A ([(qo, .inl (cJ, 1, .inr (.inl f)))] ++ w1) := by rw [List.append_nil] at hD; exact hD
  refine va_last hx hb hK hP hD hS 0 2 rfl rfl (pk_in 0 1 (by decide)) dL_change_8 (fun H locs hP hD hS => ?_)
  refine lv_goto (tgt := 15) hx hb dL_change_9 (by decide) ?_
  refine lv_iconst (v := 0) hx hb dL_change_15 (by decide) ?_
  exact fin_h (v := 0) hx hb hr hlk hP hS rfl rfl hQ dL_change_16

set_option maxHeartbeats 1000000 in
set_option maxRecDepth 100000 in
theorem c_L_leastCost_ok (l : Launch) (hl0 : l.stackTraces = false) (D : va_G) (cI cZ cJ cD : ClassId) (qz : Nat) (qo : Nat) (f : Nat → Int64) (x : Int32) (w0 w1 : va_W) (r : Int32) (hM : Ci l yX9_leastCost (aw yX9_leastCost cX9_leastCost 2 (some .int)) ({ frames := 5, cells := 0, slots := 0, locals := 114 }) D cI cZ [.ref qz, .int x] w0 w1 r) (hq : ∃ fs, w0[0]? = some (qz, .inr (8, fs))) (hw : w1.map (·.1) = w0.map (·.1)) : Ch l yL_leastCost (awh yL_leastCost cL_leastCost 4 [(0, 9, 12, 13), (0, 9, 15, 25)]) ({ frames := 6, cells := 0, slots := 0, locals := 135 }) D cI cZ cJ cD [.ref qz, .int x, .ref qo] ([(qo, .inl (cJ, 1, .inr (.inl f)))] ++ w0) ([(qo, .inl (cJ, 1, .inr (.inl (vp_updL f 0 r.toInt64))))] ++ w1) 0 0 0 := by
  refine mk_h (y := yL_leastCost) (av := [.ref qz, .int x, .ref qo]) (cc := cL_leastCost) (maxL := 4) (hh := [(0, 9, 12, 13), (0, 9, 15, 25)]) (by decide +kernel) (Nat.le_of_ble_eq_true rfl) ?_
  intro p e s m args below meth c A Q R hR hQ hx hb hr hml hAW hown hlk htab hN hT hNc hA hP hK hD hS ls hl
  have hl : lv_has ls 4 [(0, .ref qz), (1, .int x), (2, .ref qo)] := hl
  have hP : va_P D vwCl ([(qo, .inl (cJ, 1, .inr (.inl f)))] ++ (w0 ++ [])) s.heap := by rw [List.append_nil]; exact hP
  have hD : va_D A ([(qo, .inl (cJ, 1, .inr (.inl f)))] ++ (w0 ++ [])) := by rw [List.append_nil]; exact hD
  have hK2 : va_K D vwCl (ty2 cI cZ) s := hK.sub [0, 1] rfl
  refine lv_aload_n hx hb dL_leastCost_0 rfl (lv_at hl 2 rfl) ?_
  refine lv_iconst (v := 0) hx hb dL_leastCost_1 (by decide) ?_
  refine lv_aload_n hx hb dL_leastCost_2 rfl (lv_at hl 0 rfl) ?_
  refine lv_iload_n hx hb dL_leastCost_3 rfl (lv_at hl 1 rfl) ?_
  refine call_Ri (wa := [(qo, .inl (cJ, 1, .inr (.inl f)))]) (wb := []) (As := [.int x]) (rest := [.int 0, .ref qo]) hx hb hml hown hAW hN hM (cwVAx 1 hAW q708 q709 q710 q41 q711 hd_X9_leastCost (by rw [hR]; exact Nat.le_of_ble_eq_true rfl) (by rw [hR]; exact Nat.le_of_ble_eq_true rfl) rfl rfl) hK2 hP hD hS hA hq hw rfl rfl rfl hl.1 rfl (lv_room (Nat.le_of_ble_eq_true rfl)) dL_leastCost_4 (Nat.zero_le _) (Nat.zero_le _) (fun H locs hP hD hS => ?_)
  refine lv_i2l (v := r.toInt64) hx hb dL_leastCost_7 rfl ?_
  have hP : va_P D vwCl ([(qo, .inl (cJ, 1, .inr (.inl f)))] ++ w1) H := by rw [List.append_nil] at hP; exact hP
  have hD : va_D A ([(qo, .inl (cJ, 1, .inr (.inl f)))] ++ w1) := by rw [List.append_nil] at hD; exact hD
  refine va_last hx hb hK hP hD hS 0 2 rfl rfl (pk_in 0 1 (by decide)) dL_leastCost_8 (fun H locs hP hD hS => ?_)
  refine lv_goto (tgt := 18) hx hb dL_leastCost_9 (by decide) ?_
  refine lv_iconst (v := 0) hx hb dL_leastCost_18 (by decide) ?_
  exact fin_h (v := 0) hx hb hr hlk hP hS rfl rfl hQ dL_leastCost_19

set_option maxHeartbeats 1000000 in
set_option maxRecDepth 100000 in
theorem c_L_greedyChange_ok (l : Launch) (hl0 : l.stackTraces = false) (D : va_G) (cI cZ cJ cD : ClassId) (qz : Nat) (qo : Nat) (f : Nat → Int64) (x : Int32) (w0 w1 : va_W) (r : Int32) (hM : Ci l yX9_greedyChange (aw yX9_greedyChange cX9_greedyChange 3 (some .int)) ({ frames := 5, cells := 0, slots := 0, locals := 117 }) D cI cZ [.ref qz, .int x] w0 w1 r) (hq : ∃ fs, w0[0]? = some (qz, .inr (8, fs))) (hw : w1.map (·.1) = w0.map (·.1)) : Ch l yL_greedyChange (awh yL_greedyChange cL_greedyChange 4 [(0, 9, 12, 34)]) ({ frames := 6, cells := 0, slots := 0, locals := 139 }) D cI cZ cJ cD [.ref qz, .int x, .ref qo] ([(qo, .inl (cJ, 1, .inr (.inl f)))] ++ w0) ([(qo, .inl (cJ, 1, .inr (.inl (vp_updL f 0 r.toInt64))))] ++ w1) 0 0 0 := by
  refine mk_h (y := yL_greedyChange) (av := [.ref qz, .int x, .ref qo]) (cc := cL_greedyChange) (maxL := 4) (hh := [(0, 9, 12, 34)]) (by decide +kernel) (Nat.le_of_ble_eq_true rfl) ?_
  intro p e s m args below meth c A Q R hR hQ hx hb hr hml hAW hown hlk htab hN hT hNc hA hP hK hD hS ls hl
  have hl : lv_has ls 4 [(0, .ref qz), (1, .int x), (2, .ref qo)] := hl
  have hP : va_P D vwCl ([(qo, .inl (cJ, 1, .inr (.inl f)))] ++ (w0 ++ [])) s.heap := by rw [List.append_nil]; exact hP
  have hD : va_D A ([(qo, .inl (cJ, 1, .inr (.inl f)))] ++ (w0 ++ [])) := by rw [List.append_nil]; exact hD
  have hK2 : va_K D vwCl (ty2 cI cZ) s := hK.sub [0, 1] rfl
  refine lv_aload_n hx hb dL_greedyChange_0 rfl (lv_at hl 2 rfl) ?_
  refine lv_iconst (v := 0) hx hb dL_greedyChange_1 (by decide) ?_
  refine lv_aload_n hx hb dL_greedyChange_2 rfl (lv_at hl 0 rfl) ?_
  refine lv_iload_n hx hb dL_greedyChange_3 rfl (lv_at hl 1 rfl) ?_
  refine call_Ri (wa := [(qo, .inl (cJ, 1, .inr (.inl f)))]) (wb := []) (As := [.int x]) (rest := [.int 0, .ref qo]) hx hb hml hown hAW hN hM (cwVAx 1 hAW q737 q738 q739 q41 q740 hd_X9_greedyChange (by rw [hR]; exact Nat.le_of_ble_eq_true rfl) (by rw [hR]; exact Nat.le_of_ble_eq_true rfl) rfl rfl) hK2 hP hD hS hA hq hw rfl rfl rfl hl.1 rfl (lv_room (Nat.le_of_ble_eq_true rfl)) dL_greedyChange_4 (Nat.zero_le _) (Nat.zero_le _) (fun H locs hP hD hS => ?_)
  refine lv_i2l (v := r.toInt64) hx hb dL_greedyChange_7 rfl ?_
  have hP : va_P D vwCl ([(qo, .inl (cJ, 1, .inr (.inl f)))] ++ w1) H := by rw [List.append_nil] at hP; exact hP
  have hD : va_D A ([(qo, .inl (cJ, 1, .inr (.inl f)))] ++ w1) := by rw [List.append_nil] at hD; exact hD
  refine va_last hx hb hK hP hD hS 0 2 rfl rfl (pk_in 0 1 (by decide)) dL_greedyChange_8 (fun H locs hP hD hS => ?_)
  refine lv_goto (tgt := 15) hx hb dL_greedyChange_9 (by decide) ?_
  refine lv_iconst (v := 0) hx hb dL_greedyChange_15 (by decide) ?_
  exact fin_h (v := 0) hx hb hr hlk hP hS rfl rfl hQ dL_greedyChange_16

set_option maxHeartbeats 1000000 in
set_option maxRecDepth 100000 in
theorem c_L_toggleTruth_ok (l : Launch) (hl0 : l.stackTraces = false) (D : va_G) (cI cZ cJ cD : ClassId) (qz : Nat) (qo : Nat) (f : Nat → Int64) (x : Int32) (w0 w1 : va_W) (r : Bool) (hM : Ci l yX9_toggleTruth (aw yX9_toggleTruth cX9_toggleTruth 2 (some .boolean)) ({ frames := 1, cells := 0, slots := 0, locals := 21 }) D cI cZ [.ref qz, .int x] w0 w1 (zb r)) (hq : ∃ fs, w0[0]? = some (qz, .inr (8, fs))) (hw : w1.map (·.1) = w0.map (·.1)) : Ch l yL_toggleTruth (awh yL_toggleTruth cL_toggleTruth 4 [(0, 16, 19, 34)]) ({ frames := 2, cells := 0, slots := 0, locals := 42 }) D cI cZ cJ cD [.ref qz, .int x, .ref qo] ([(qo, .inl (cJ, 1, .inr (.inl f)))] ++ w0) ([(qo, .inl (cJ, 1, .inr (.inl (vp_updL f 0 (zb r).toInt64))))] ++ w1) 0 0 0 := by
  refine mk_h (y := yL_toggleTruth) (av := [.ref qz, .int x, .ref qo]) (cc := cL_toggleTruth) (maxL := 4) (hh := [(0, 16, 19, 34)]) (by decide +kernel) (Nat.le_of_ble_eq_true rfl) ?_
  intro p e s m args below meth c A Q R hR hQ hx hb hr hml hAW hown hlk htab hN hT hNc hA hP hK hD hS ls hl
  have hl : lv_has ls 4 [(0, .ref qz), (1, .int x), (2, .ref qo)] := hl
  have hP : va_P D vwCl ([(qo, .inl (cJ, 1, .inr (.inl f)))] ++ (w0 ++ [])) s.heap := by rw [List.append_nil]; exact hP
  have hD : va_D A ([(qo, .inl (cJ, 1, .inr (.inl f)))] ++ (w0 ++ [])) := by rw [List.append_nil]; exact hD
  have hK2 : va_K D vwCl (ty2 cI cZ) s := hK.sub [0, 1] rfl
  refine lv_aload_n hx hb dL_toggleTruth_0 rfl (lv_at hl 2 rfl) ?_
  refine lv_iconst (v := 0) hx hb dL_toggleTruth_1 (by decide) ?_
  refine lv_aload_n hx hb dL_toggleTruth_2 rfl (lv_at hl 0 rfl) ?_
  refine lv_iload_n hx hb dL_toggleTruth_3 rfl (lv_at hl 1 rfl) ?_
  refine call_Ri (wa := [(qo, .inl (cJ, 1, .inr (.inl f)))]) (wb := []) (As := [.int x]) (rest := [.int 0, .ref qo]) hx hb hml hown hAW hN hM (cwVAx 1 hAW q744 q745 q746 q41 q747 hd_X9_toggleTruth (by rw [hR]; exact Nat.le_of_ble_eq_true rfl) (by rw [hR]; exact Nat.le_of_ble_eq_true rfl) rfl rfl) hK2 hP hD hS hA hq hw rfl rfl rfl hl.1 rfl (lv_room (Nat.le_of_ble_eq_true rfl)) dL_toggleTruth_4 (Nat.zero_le _) (Nat.zero_le _) (fun H locs hP hD hS => ?_)
  refine z_if_eq (x := r) (tgt := 14) hx hb dL_toggleTruth_7 (by decide) (fun c7 => ?_) (fun c7 => ?_)
  · subst c7
    refine lv_lconst (v := 0) hx hb dL_toggleTruth_14 rfl ?_
    have hP : va_P D vwCl ([(qo, .inl (cJ, 1, .inr (.inl f)))] ++ w1) H := by rw [List.append_nil] at hP; exact hP
    have hD : va_D A ([(qo, .inl (cJ, 1, .inr (.inl f)))] ++ w1) := by rw [List.append_nil] at hD; exact hD
    refine va_last hx hb hK hP hD hS 0 2 rfl rfl (pk_in 0 1 (by decide)) dL_toggleTruth_15 (fun H locs hP hD hS => ?_)
    refine lv_goto (tgt := 22) hx hb dL_toggleTruth_16 (by decide) ?_
    refine lv_iconst (v := 0) hx hb dL_toggleTruth_22 (by decide) ?_
    exact fin_h (v := 0) hx hb hr hlk hP hS rfl rfl hQ dL_toggleTruth_23
  · subst c7
    refine lv_lconst (v := 1) hx hb dL_toggleTruth_10 rfl ?_
    refine lv_goto (tgt := 15) hx hb dL_toggleTruth_11 (by decide) ?_
    have hP : va_P D vwCl ([(qo, .inl (cJ, 1, .inr (.inl f)))] ++ w1) H := by rw [List.append_nil] at hP; exact hP
    have hD : va_D A ([(qo, .inl (cJ, 1, .inr (.inl f)))] ++ w1) := by rw [List.append_nil] at hD; exact hD
    refine va_last hx hb hK hP hD hS 0 2 rfl rfl (pk_in 0 1 (by decide)) dL_toggleTruth_15 (fun H locs hP hD hS => ?_)
    refine lv_goto (tgt := 22) hx hb dL_toggleTruth_16 (by decide) ?_
    refine lv_iconst (v := 0) hx hb dL_toggleTruth_22 (by decide) ?_
    exact fin_h (v := 0) hx hb hr hlk hP hS rfl rfl hQ dL_toggleTruth_23

set_option maxHeartbeats 1000000 in
set_option maxRecDepth 100000 in
theorem c_L_matched_ok (l : Launch) (hl0 : l.stackTraces = false) (D : va_G) (cI cZ cJ cD : ClassId) (qz : Nat) (qo : Nat) (f : Nat → Int64) (x y : Int32) (w0 w1 : va_W) (r : Int32) (hM : Ci l yX9_matched (aw yX9_matched cX9_matched 3 (some .int)) ({ frames := 4, cells := 0, slots := 0, locals := 83 }) D cI cZ [.ref qz, .int x, .int y] w0 w1 r) (hq : ∃ fs, w0[0]? = some (qz, .inr (8, fs))) (hw : w1.map (·.1) = w0.map (·.1)) : Ch l yL_matched (awh yL_matched cL_matched 5 [(0, 10, 13, 13)]) ({ frames := 5, cells := 0, slots := 0, locals := 105 }) D cI cZ cJ cD [.ref qz, .int x, .int y, .ref qo] ([(qo, .inl (cJ, 1, .inr (.inl f)))] ++ w0) ([(qo, .inl (cJ, 1, .inr (.inl (vp_updL f 0 r.toInt64))))] ++ w1) 0 0 0 := by
  refine mk_h (y := yL_matched) (av := [.ref qz, .int x, .int y, .ref qo]) (cc := cL_matched) (maxL := 5) (hh := [(0, 10, 13, 13)]) (by decide +kernel) (Nat.le_of_ble_eq_true rfl) ?_
  intro p e s m args below meth c A Q R hR hQ hx hb hr hml hAW hown hlk htab hN hT hNc hA hP hK hD hS ls hl
  have hl : lv_has ls 5 [(0, .ref qz), (1, .int x), (2, .int y), (3, .ref qo)] := hl
  have hP : va_P D vwCl ([(qo, .inl (cJ, 1, .inr (.inl f)))] ++ (w0 ++ [])) s.heap := by rw [List.append_nil]; exact hP
  have hD : va_D A ([(qo, .inl (cJ, 1, .inr (.inl f)))] ++ (w0 ++ [])) := by rw [List.append_nil]; exact hD
  have hK2 : va_K D vwCl (ty2 cI cZ) s := hK.sub [0, 1] rfl
  refine lv_aload_n hx hb dL_matched_0 rfl (lv_at hl 3 rfl) ?_
  refine lv_iconst (v := 0) hx hb dL_matched_1 (by decide) ?_
  refine lv_aload_n hx hb dL_matched_2 rfl (lv_at hl 0 rfl) ?_
  refine lv_iload_n hx hb dL_matched_3 rfl (lv_at hl 1 rfl) ?_
  refine lv_iload_n hx hb dL_matched_4 rfl (lv_at hl 2 rfl) ?_
  refine call_Ri (wa := [(qo, .inl (cJ, 1, .inr (.inl f)))]) (wb := []) (As := [.int x, .int y]) (rest := [.int 0, .ref qo]) hx hb hml hown hAW hN hM (cwVAx 2 hAW q751 q752 q753 q41 q754 hd_X9_matched (by rw [hR]; exact Nat.le_of_ble_eq_true rfl) (by rw [hR]; exact Nat.le_of_ble_eq_true rfl) rfl rfl) hK2 hP hD hS hA hq hw rfl rfl rfl hl.1 rfl (lv_room (Nat.le_of_ble_eq_true rfl)) dL_matched_5 (Nat.zero_le _) (Nat.zero_le _) (fun H locs hP hD hS => ?_)
  refine lv_i2l (v := r.toInt64) hx hb dL_matched_8 rfl ?_
  have hP : va_P D vwCl ([(qo, .inl (cJ, 1, .inr (.inl f)))] ++ w1) H := by rw [List.append_nil] at hP; exact hP
  have hD : va_D A ([(qo, .inl (cJ, 1, .inr (.inl f)))] ++ w1) := by rw [List.append_nil] at hD; exact hD
  refine va_last hx hb hK hP hD hS 0 2 rfl rfl (pk_in 0 1 (by decide)) dL_matched_9 (fun H locs hP hD hS => ?_)
  refine lv_goto (tgt := 17) hx hb dL_matched_10 (by decide) ?_
  refine lv_iconst (v := 0) hx hb dL_matched_17 (by decide) ?_
  exact fin_h (v := 0) hx hb hr hlk hP hS rfl rfl hQ dL_matched_18

set_option maxHeartbeats 1000000 in
set_option maxRecDepth 100000 in
theorem c_L_falseAlarms_ok (l : Launch) (hl0 : l.stackTraces = false) (D : va_G) (cI cZ cJ cD : ClassId) (qz : Nat) (qo : Nat) (f : Nat → Int64) (x y : Int32) (w0 w1 : va_W) (r : Int32) (hM : Ci l yX9_falseAlarms (aw yX9_falseAlarms cX9_falseAlarms 3 (some .int)) ({ frames := 4, cells := 0, slots := 0, locals := 83 }) D cI cZ [.ref qz, .int x, .int y] w0 w1 r) (hq : ∃ fs, w0[0]? = some (qz, .inr (8, fs))) (hw : w1.map (·.1) = w0.map (·.1)) : Ch l yL_falseAlarms (awh yL_falseAlarms cL_falseAlarms 5 [(0, 10, 13, 13)]) ({ frames := 5, cells := 0, slots := 0, locals := 105 }) D cI cZ cJ cD [.ref qz, .int x, .int y, .ref qo] ([(qo, .inl (cJ, 1, .inr (.inl f)))] ++ w0) ([(qo, .inl (cJ, 1, .inr (.inl (vp_updL f 0 r.toInt64))))] ++ w1) 0 0 0 := by
  refine mk_h (y := yL_falseAlarms) (av := [.ref qz, .int x, .int y, .ref qo]) (cc := cL_falseAlarms) (maxL := 5) (hh := [(0, 10, 13, 13)]) (by decide +kernel) (Nat.le_of_ble_eq_true rfl) ?_
  intro p e s m args below meth c A Q R hR hQ hx hb hr hml hAW hown hlk htab hN hT hNc hA hP hK hD hS ls hl
  have hl : lv_has ls 5 [(0, .ref qz), (1, .int x), (2, .int y), (3, .ref qo)] := hl
  have hP : va_P D vwCl ([(qo, .inl (cJ, 1, .inr (.inl f)))] ++ (w0 ++ [])) s.heap := by rw [List.append_nil]; exact hP
  have hD : va_D A ([(qo, .inl (cJ, 1, .inr (.inl f)))] ++ (w0 ++ [])) := by rw [List.append_nil]; exact hD
  have hK2 : va_K D vwCl (ty2 cI cZ) s := hK.sub [0, 1] rfl
  refine lv_aload_n hx hb dL_falseAlarms_0 rfl (lv_at hl 3 rfl) ?_
  refine lv_iconst (v := 0) hx hb dL_falseAlarms_1 (by decide) ?_
  refine lv_aload_n hx hb dL_falseAlarms_2 rfl (lv_at hl 0 rfl) ?_
  refine lv_iload_n hx hb dL_falseAlarms_3 rfl (lv_at hl 1 rfl) ?_
  refine lv_iload_n hx hb dL_falseAlarms_4 rfl (lv_at hl 2 rfl) ?_
  refine call_Ri (wa := [(qo, .inl (cJ, 1, .inr (.inl f)))]) (wb := []) (As := [.int x, .int y]) (rest := [.int 0, .ref qo]) hx hb hml hown hAW hN hM (cwVAx 2 hAW q775 q776 q777 q41 q778 hd_X9_falseAlarms (by rw [hR]; exact Nat.le_of_ble_eq_true rfl) (by rw [hR]; exact Nat.le_of_ble_eq_true rfl) rfl rfl) hK2 hP hD hS hA hq hw rfl rfl rfl hl.1 rfl (lv_room (Nat.le_of_ble_eq_true rfl)) dL_falseAlarms_5 (Nat.zero_le _) (Nat.zero_le _) (fun H locs hP hD hS => ?_)
  refine lv_i2l (v := r.toInt64) hx hb dL_falseAlarms_8 rfl ?_
  have hP : va_P D vwCl ([(qo, .inl (cJ, 1, .inr (.inl f)))] ++ w1) H := by rw [List.append_nil] at hP; exact hP
  have hD : va_D A ([(qo, .inl (cJ, 1, .inr (.inl f)))] ++ w1) := by rw [List.append_nil] at hD; exact hD
  refine va_last hx hb hK hP hD hS 0 2 rfl rfl (pk_in 0 1 (by decide)) dL_falseAlarms_9 (fun H locs hP hD hS => ?_)
  refine lv_goto (tgt := 17) hx hb dL_falseAlarms_10 (by decide) ?_
  refine lv_iconst (v := 0) hx hb dL_falseAlarms_17 (by decide) ?_
  exact fin_h (v := 0) hx hb hr hlk hP hS rfl rfl hQ dL_falseAlarms_18

set_option maxHeartbeats 1000000 in
set_option maxRecDepth 100000 in
theorem c_L_averageDelay_ok (l : Launch) (hl0 : l.stackTraces = false) (D : va_G) (cI cZ cJ cD : ClassId) (qz : Nat) (qo qo2 : Nat) (f : Nat → Int64) (g : Nat → UInt64) (x y : Int32) (w0 w1 : va_W) (r : UInt32) (hn : vf_n64 (FP.f2d r)) (hM : Cf l yX9_averageDelay (aw yX9_averageDelay cX9_averageDelay 3 (some .float)) ({ frames := 4, cells := 0, slots := 0, locals := 83 }) D cI cZ [.ref qz, .int x, .int y] w0 w1 r) (hq : ∃ fs, w0[0]? = some (qz, .inr (8, fs))) (hw : w1.map (·.1) = w0.map (·.1)) : Ch l yL_averageDelay (awh yL_averageDelay cL_averageDelay 5 [(0, 10, 13, 13), (0, 10, 17, 25)]) ({ frames := 5, cells := 0, slots := 0, locals := 105 }) D cI cZ cJ cD [.ref qz, .int x, .int y, .ref qo] ([(qo, .inl (cD, 1, .inr (.inr (.inr (.inl g))))), (qo2, .inl (cJ, 1, .inr (.inl f)))] ++ w0) ([(qo, .inl (cD, 1, .inr (.inr (.inr (.inl (vf_upd g 0 (FP.f2d r))))))), (qo2, .inl (cJ, 1, .inr (.inl f)))] ++ w1) 0 0 0 := by
  refine mk_h (y := yL_averageDelay) (av := [.ref qz, .int x, .int y, .ref qo]) (cc := cL_averageDelay) (maxL := 5) (hh := [(0, 10, 13, 13), (0, 10, 17, 25)]) (by decide +kernel) (Nat.le_of_ble_eq_true rfl) ?_
  intro p e s m args below meth c A Q R hR hQ hx hb hr hml hAW hown hlk htab hN hT hNc hA hP hK hD hS ls hl
  have hl : lv_has ls 5 [(0, .ref qz), (1, .int x), (2, .int y), (3, .ref qo)] := hl
  have hP : va_P D vwCl ([(qo, .inl (cD, 1, .inr (.inr (.inr (.inl g))))), (qo2, .inl (cJ, 1, .inr (.inl f)))] ++ (w0 ++ [])) s.heap := by rw [List.append_nil]; exact hP
  have hD : va_D A ([(qo, .inl (cD, 1, .inr (.inr (.inr (.inl g))))), (qo2, .inl (cJ, 1, .inr (.inl f)))] ++ (w0 ++ [])) := by rw [List.append_nil]; exact hD
  have hK2 : va_K D vwCl (ty2 cI cZ) s := hK.sub [0, 1] rfl
  refine lv_aload_n hx hb dL_averageDelay_0 rfl (lv_at hl 3 rfl) ?_
  refine lv_iconst (v := 0) hx hb dL_averageDelay_1 (by decide) ?_
  refine lv_aload_n hx hb dL_averageDelay_2 rfl (lv_at hl 0 rfl) ?_
  refine lv_iload_n hx hb dL_averageDelay_3 rfl (lv_at hl 1 rfl) ?_
  refine lv_iload_n hx hb dL_averageDelay_4 rfl (lv_at hl 2 rfl) ?_
  refine call_Rf (wa := [(qo, .inl (cD, 1, .inr (.inr (.inr (.inl g))))), (qo2, .inl (cJ, 1, .inr (.inl f)))]) (wb := []) (As := [.int x, .int y]) (rest := [.int 0, .ref qo]) hx hb hml hown hAW hN hM (cwVAx 2 hAW q782 q783 q784 q41 q785 hd_X9_averageDelay (by rw [hR]; exact Nat.le_of_ble_eq_true rfl) (by rw [hR]; exact Nat.le_of_ble_eq_true rfl) rfl rfl) hK2 hP hD hS hA hq hw rfl rfl rfl hl.1 rfl (lv_room (Nat.le_of_ble_eq_true rfl)) dL_averageDelay_5 (Nat.zero_le _) (Nat.zero_le _) (fun H locs hP hD hS => ?_)
  refine lv_f2d hx hb dL_averageDelay_8 hn ?_
  have hP : va_P D vwCl ([(qo, .inl (cD, 1, .inr (.inr (.inr (.inl g))))), (qo2, .inl (cJ, 1, .inr (.inl f)))] ++ w1) H := by rw [List.append_nil] at hP; exact hP
  have hD : va_D A ([(qo, .inl (cD, 1, .inr (.inr (.inr (.inl g))))), (qo2, .inl (cJ, 1, .inr (.inl f)))] ++ w1) := by rw [List.append_nil] at hD; exact hD
  refine va_dast hx hb hK hP hD hS 0 3 rfl rfl (pk_in 0 1 (by decide)) dL_averageDelay_9 (fun H locs hP hD hS => ?_)
  refine lv_goto (tgt := 21) hx hb dL_averageDelay_10 (by decide) ?_
  refine lv_iconst (v := 0) hx hb dL_averageDelay_21 (by decide) ?_
  exact fin_h (v := 0) hx hb hr hlk hP hS rfl rfl hQ dL_averageDelay_22

set_option maxHeartbeats 1000000 in
set_option maxRecDepth 100000 in
theorem c_L_setSums_x1 (l : Launch) (hl0 : l.stackTraces = false) (D : va_G) (cI cZ cJ cD : ClassId) (qz : Nat) (x y z : Int32) (w0 w1 : va_W) (hM : Cx "java/lang/IllegalArgumentException" l yX9_setSums (aw yX9_setSums cX9_setSums 4 none) ({ frames := 7, cells := 1, slots := 6, locals := 102 }) D cI cZ [.ref qz, .int x, .int y, .int z] w0 w1) (hq : ∃ fs, w0[0]? = some (qz, .inr (8, fs))) (hw : w1.map (·.1) = w0.map (·.1)) : Ch l yL_setSums (awh yL_setSums cL_setSums 5 [(0, 7, 10, 13)]) ({ frames := 8, cells := 1, slots := 6, locals := 125 }) D cI cZ cJ cD [.ref qz, .int x, .int y, .int z] ([] ++ w0) ([] ++ w1) 1 1 6 := by
  refine mk_h (y := yL_setSums) (av := [.ref qz, .int x, .int y, .int z]) (cc := cL_setSums) (maxL := 5) (hh := [(0, 7, 10, 13)]) (by decide +kernel) (Nat.le_of_ble_eq_true rfl) ?_
  intro p e s m args below meth c A Q R hR hQ hx hb hr hml hAW hown hlk htab hN hT hNc hA hP hK hD hS ls hl
  have hl : lv_has ls 5 [(0, .ref qz), (1, .int x), (2, .int y), (3, .int z)] := hl
  have hP : va_P D vwCl ([] ++ (w0 ++ [])) s.heap := by rw [List.append_nil]; exact hP
  have hD : va_D A ([] ++ (w0 ++ [])) := by rw [List.append_nil]; exact hD
  have hK2 : va_K D vwCl (ty2 cI cZ) s := hK.sub [0, 1] rfl
  refine lv_aload_n hx hb dL_setSums_0 rfl (lv_at hl 0 rfl) ?_
  refine lv_iload_n hx hb dL_setSums_1 rfl (lv_at hl 1 rfl) ?_
  refine lv_iload_n hx hb dL_setSums_2 rfl (lv_at hl 2 rfl) ?_
  refine lv_iload_n hx hb dL_setSums_3 rfl (lv_at hl 3 rfl) ?_
  refine call_Rx (wa := []) (wb := []) (As := [.int x, .int y, .int z]) (rest := []) hx hb hml hown hAW hN hT hM (cwVAx 3 hAW q440 q441 q442 q41 q443 hd_X9_setSums (by rw [hR]; exact Nat.le_of_ble_eq_true rfl) (by rw [hR]; exact Nat.le_of_ble_eq_true rfl) rfl rfl) hK2 hP hD hS hA hq hw rfl rfl rfl hl.1 rfl (lv_room (Nat.le_of_ble_eq_true rfl)) dL_setSums_4 (by rw [hR]; exact Nat.le_of_ble_eq_true rfl) (by rw [hR]; exact Nat.le_of_ble_eq_true rfl) (fun ce q9 H locs hP hD hS h1 h2 h3 => ?_)
  have hP : va_P D vwCl ([] ++ w1) H := by rw [List.append_nil] at hP; exact hP
  refine vx_catch (own := RL) (name := "java/lang/IllegalArgumentException") hown [] ⟨0, 7, 10, 13⟩ [] (by rw [htab]; rfl) (fun z hz => by cases hz) (by decide) (by decide) (hAW _ q439) (va_Nw.use rfl hT.2.2.2.2.2.2.2.2.1) h1 h2 h3 ?_
  show W p l e R s m args below meth c H locs _ _ Q (F0 m 10 ls [.ref q9])
  refine lv_astore (lv' := [(4, .ref q9), (0, .ref qz), (1, .int x), (2, .int y), (3, .int z)]) hx hb dL_setSums_10 hl (by decide) rfl (fun ls hl => ?_)
  refine lv_iconst (v := 1) hx hb dL_setSums_12 (by decide) ?_
  exact fin_h (v := 1) hx hb hr hlk hP hS rfl rfl hQ dL_setSums_13

set_option maxHeartbeats 1000000 in
set_option maxRecDepth 100000 in
theorem c_L_setTest_x1 (l : Launch) (hl0 : l.stackTraces = false) (D : va_G) (cI cZ cJ cD : ClassId) (qz : Nat) (x y z : Int32) (w0 w1 : va_W) (hM : Cx "java/lang/IllegalArgumentException" l yX9_setTest (aw yX9_setTest cX9_setTest 4 none) ({ frames := 7, cells := 1, slots := 6, locals := 102 }) D cI cZ [.ref qz, .int x, .int y, .int z] w0 w1) (hq : ∃ fs, w0[0]? = some (qz, .inr (8, fs))) (hw : w1.map (·.1) = w0.map (·.1)) : Ch l yL_setTest (awh yL_setTest cL_setTest 5 [(0, 7, 10, 13)]) ({ frames := 8, cells := 1, slots := 6, locals := 125 }) D cI cZ cJ cD [.ref qz, .int x, .int y, .int z] ([] ++ w0) ([] ++ w1) 1 1 6 := by
  refine mk_h (y := yL_setTest) (av := [.ref qz, .int x, .int y, .int z]) (cc := cL_setTest) (maxL := 5) (hh := [(0, 7, 10, 13)]) (by decide +kernel) (Nat.le_of_ble_eq_true rfl) ?_
  intro p e s m args below meth c A Q R hR hQ hx hb hr hml hAW hown hlk htab hN hT hNc hA hP hK hD hS ls hl
  have hl : lv_has ls 5 [(0, .ref qz), (1, .int x), (2, .int y), (3, .int z)] := hl
  have hP : va_P D vwCl ([] ++ (w0 ++ [])) s.heap := by rw [List.append_nil]; exact hP
  have hD : va_D A ([] ++ (w0 ++ [])) := by rw [List.append_nil]; exact hD
  have hK2 : va_K D vwCl (ty2 cI cZ) s := hK.sub [0, 1] rfl
  refine lv_aload_n hx hb dL_setTest_0 rfl (lv_at hl 0 rfl) ?_
  refine lv_iload_n hx hb dL_setTest_1 rfl (lv_at hl 1 rfl) ?_
  refine lv_iload_n hx hb dL_setTest_2 rfl (lv_at hl 2 rfl) ?_
  refine lv_iload_n hx hb dL_setTest_3 rfl (lv_at hl 3 rfl) ?_
  refine call_Rx (wa := []) (wb := []) (As := [.int x, .int y, .int z]) (rest := []) hx hb hml hown hAW hN hT hM (cwVAx 3 hAW q526 q527 q528 q41 q529 hd_X9_setTest (by rw [hR]; exact Nat.le_of_ble_eq_true rfl) (by rw [hR]; exact Nat.le_of_ble_eq_true rfl) rfl rfl) hK2 hP hD hS hA hq hw rfl rfl rfl hl.1 rfl (lv_room (Nat.le_of_ble_eq_true rfl)) dL_setTest_4 (by rw [hR]; exact Nat.le_of_ble_eq_true rfl) (by rw [hR]; exact Nat.le_of_ble_eq_true rfl) (fun ce q9 H locs hP hD hS h1 h2 h3 => ?_)
  have hP : va_P D vwCl ([] ++ w1) H := by rw [List.append_nil] at hP; exact hP
  refine vx_catch (own := RL) (name := "java/lang/IllegalArgumentException") hown [] ⟨0, 7, 10, 13⟩ [] (by rw [htab]; rfl) (fun z hz => by cases hz) (by decide) (by decide) (hAW _ q439) (va_Nw.use rfl hT.2.2.2.2.2.2.2.2.1) h1 h2 h3 ?_
  show W p l e R s m args below meth c H locs _ _ Q (F0 m 10 ls [.ref q9])
  refine lv_astore (lv' := [(4, .ref q9), (0, .ref qz), (1, .int x), (2, .int y), (3, .int z)]) hx hb dL_setTest_10 hl (by decide) rfl (fun ls hl => ?_)
  refine lv_iconst (v := 1) hx hb dL_setTest_12 (by decide) ?_
  exact fin_h (v := 1) hx hb hr hlk hP hS rfl rfl hQ dL_setTest_13

set_option maxHeartbeats 1000000 in
set_option maxRecDepth 100000 in
theorem c_L_setPenalty_x1 (l : Launch) (hl0 : l.stackTraces = false) (D : va_G) (cI cZ cJ cD : ClassId) (qz : Nat) (qo : Nat) (f : Nat → Int64) (x : Int32) (w0 w1 : va_W) (hM : Cx "java/lang/IllegalArgumentException" l yX9_setPenalty (aw yX9_setPenalty cX9_setPenalty 3 (some .int)) ({ frames := 7, cells := 1, slots := 6, locals := 102 }) D cI cZ [.ref qz, .int x] w0 w1) (hq : ∃ fs, w0[0]? = some (qz, .inr (8, fs))) (hw : w1.map (·.1) = w0.map (·.1)) : Ch l yL_setPenalty (awh yL_setPenalty cL_setPenalty 4 [(0, 9, 12, 13)]) ({ frames := 8, cells := 1, slots := 6, locals := 124 }) D cI cZ cJ cD [.ref qz, .int x, .ref qo] ([(qo, .inl (cJ, 1, .inr (.inl f)))] ++ w0) ([(qo, .inl (cJ, 1, .inr (.inl f)))] ++ w1) 1 1 6 := by
  refine mk_h (y := yL_setPenalty) (av := [.ref qz, .int x, .ref qo]) (cc := cL_setPenalty) (maxL := 4) (hh := [(0, 9, 12, 13)]) (by decide +kernel) (Nat.le_of_ble_eq_true rfl) ?_
  intro p e s m args below meth c A Q R hR hQ hx hb hr hml hAW hown hlk htab hN hT hNc hA hP hK hD hS ls hl
  have hl : lv_has ls 4 [(0, .ref qz), (1, .int x), (2, .ref qo)] := hl
  have hP : va_P D vwCl ([(qo, .inl (cJ, 1, .inr (.inl f)))] ++ (w0 ++ [])) s.heap := by rw [List.append_nil]; exact hP
  have hD : va_D A ([(qo, .inl (cJ, 1, .inr (.inl f)))] ++ (w0 ++ [])) := by rw [List.append_nil]; exact hD
  have hK2 : va_K D vwCl (ty2 cI cZ) s := hK.sub [0, 1] rfl
  refine lv_aload_n hx hb dL_setPenalty_0 rfl (lv_at hl 2 rfl) ?_
  refine lv_iconst (v := 0) hx hb dL_setPenalty_1 (by decide) ?_
  refine lv_aload_n hx hb dL_setPenalty_2 rfl (lv_at hl 0 rfl) ?_
  refine lv_iload_n hx hb dL_setPenalty_3 rfl (lv_at hl 1 rfl) ?_
  refine call_Rx (wa := [(qo, .inl (cJ, 1, .inr (.inl f)))]) (wb := []) (As := [.int x]) (rest := [.int 0, .ref qo]) hx hb hml hown hAW hN hT hM (cwVAx 1 hAW q534 q535 q536 q41 q537 hd_X9_setPenalty (by rw [hR]; exact Nat.le_of_ble_eq_true rfl) (by rw [hR]; exact Nat.le_of_ble_eq_true rfl) rfl rfl) hK2 hP hD hS hA hq hw rfl rfl rfl hl.1 rfl (lv_room (Nat.le_of_ble_eq_true rfl)) dL_setPenalty_4 (by rw [hR]; exact Nat.le_of_ble_eq_true rfl) (by rw [hR]; exact Nat.le_of_ble_eq_true rfl) (fun ce q9 H locs hP hD hS h1 h2 h3 => ?_)
  have hP : va_P D vwCl ([(qo, .inl (cJ, 1, .inr (.inl f)))] ++ w1) H := by rw [List.append_nil] at hP; exact hP
  refine vx_catch (own := RL) (name := "java/lang/IllegalArgumentException") hown [] ⟨0, 9, 12, 13⟩ [] (by rw [htab]; rfl) (fun z hz => by cases hz) (by decide) (by decide) (hAW _ q439) (va_Nw.use rfl hT.2.2.2.2.2.2.2.2.1) h1 h2 h3 ?_
  show W p l e R s m args below meth c H locs _ _ Q (F0 m 12 ls [.ref q9])
  refine lv_astore_n (lv' := [(3, .ref q9), (0, .ref qz), (1, .int x), (2, .ref qo)]) hx hb dL_setPenalty_12 rfl hl (by decide) rfl (fun ls hl => ?_)
  refine lv_iconst (v := 1) hx hb dL_setPenalty_13 (by decide) ?_
  exact fin_h (v := 1) hx hb hr hlk hP hS rfl rfl hQ dL_setPenalty_14

set_option maxHeartbeats 1000000 in
set_option maxRecDepth 100000 in
theorem c_L_add_x1 (l : Launch) (hl0 : l.stackTraces = false) (D : va_G) (cI cZ cJ cD : ClassId) (qz : Nat) (qo : Nat) (f : Nat → Int64) (x : Int32) (w0 w1 : va_W) (hM : Cx "java/lang/IllegalArgumentException" l yX9_add (aw yX9_add cX9_add 2 (some .int)) ({ frames := 7, cells := 1, slots := 6, locals := 102 }) D cI cZ [.ref qz, .int x] w0 w1) (hq : ∃ fs, w0[0]? = some (qz, .inr (8, fs))) (hw : w1.map (·.1) = w0.map (·.1)) : Ch l yL_add (awh yL_add cL_add 4 [(0, 9, 12, 13), (0, 9, 15, 25)]) ({ frames := 8, cells := 1, slots := 6, locals := 123 }) D cI cZ cJ cD [.ref qz, .int x, .ref qo] ([(qo, .inl (cJ, 1, .inr (.inl f)))] ++ w0) ([(qo, .inl (cJ, 1, .inr (.inl f)))] ++ w1) 1 1 6 := by
  refine mk_h (y := yL_add) (av := [.ref qz, .int x, .ref qo]) (cc := cL_add) (maxL := 4) (hh := [(0, 9, 12, 13), (0, 9, 15, 25)]) (by decide +kernel) (Nat.le_of_ble_eq_true rfl) ?_
  intro p e s m args below meth c A Q R hR hQ hx hb hr hml hAW hown hlk htab hN hT hNc hA hP hK hD hS ls hl
  have hl : lv_has ls 4 [(0, .ref qz), (1, .int x), (2, .ref qo)] := hl
  have hP : va_P D vwCl ([(qo, .inl (cJ, 1, .inr (.inl f)))] ++ (w0 ++ [])) s.heap := by rw [List.append_nil]; exact hP
  have hD : va_D A ([(qo, .inl (cJ, 1, .inr (.inl f)))] ++ (w0 ++ [])) := by rw [List.append_nil]; exact hD
  have hK2 : va_K D vwCl (ty2 cI cZ) s := hK.sub [0, 1] rfl
  refine lv_aload_n hx hb dL_add_0 rfl (lv_at hl 2 rfl) ?_
  refine lv_iconst (v := 0) hx hb dL_add_1 (by decide) ?_
  refine lv_aload_n hx hb dL_add_2 rfl (lv_at hl 0 rfl) ?_
  refine lv_iload_n hx hb dL_add_3 rfl (lv_at hl 1 rfl) ?_
  refine call_Rx (wa := [(qo, .inl (cJ, 1, .inr (.inl f)))]) (wb := []) (As := [.int x]) (rest := [.int 0, .ref qo]) hx hb hml hown hAW hN hT hM (cwVAx 1 hAW q542 q543 q544 q41 q545 hd_X9_add (by rw [hR]; exact Nat.le_of_ble_eq_true rfl) (by rw [hR]; exact Nat.le_of_ble_eq_true rfl) rfl rfl) hK2 hP hD hS hA hq hw rfl rfl rfl hl.1 rfl (lv_room (Nat.le_of_ble_eq_true rfl)) dL_add_4 (by rw [hR]; exact Nat.le_of_ble_eq_true rfl) (by rw [hR]; exact Nat.le_of_ble_eq_true rfl) (fun ce q9 H locs hP hD hS h1 h2 h3 => ?_)
  have hP : va_P D vwCl ([(qo, .inl (cJ, 1, .inr (.inl f)))] ++ w1) H := by rw [List.append_nil] at hP; exact hP
  refine vx_catch (own := RL) (name := "java/lang/IllegalArgumentException") hown [] ⟨0, 9, 12, 13⟩ [⟨0, 9, 15, 25⟩] (by rw [htab]; rfl) (fun z hz => by cases hz) (by decide) (by decide) (hAW _ q439) (va_Nw.use rfl hT.2.2.2.2.2.2.2.2.1) h1 h2 h3 ?_
  show W p l e R s m args below meth c H locs _ _ Q (F0 m 12 ls [.ref q9])
  refine lv_astore_n (lv' := [(3, .ref q9), (0, .ref qz), (1, .int x), (2, .ref qo)]) hx hb dL_add_12 rfl hl (by decide) rfl (fun ls hl => ?_)
  refine lv_iconst (v := 1) hx hb dL_add_13 (by decide) ?_
  exact fin_h (v := 1) hx hb hr hlk hP hS rfl rfl hQ dL_add_14

set_option maxHeartbeats 1000000 in
set_option maxRecDepth 100000 in
theorem c_L_add_x2 (l : Launch) (hl0 : l.stackTraces = false) (D : va_G) (cI cZ cJ cD : ClassId) (qz : Nat) (qo : Nat) (f : Nat → Int64) (x : Int32) (w0 w1 : va_W) (hM : Cx "java/lang/IllegalStateException" l yX9_add (aw yX9_add cX9_add 2 (some .int)) ({ frames := 7, cells := 1, slots := 6, locals := 102 }) D cI cZ [.ref qz, .int x] w0 w1) (hq : ∃ fs, w0[0]? = some (qz, .inr (8, fs))) (hw : w1.map (·.1) = w0.map (·.1)) : Ch l yL_add (awh yL_add cL_add 4 [(0, 9, 12, 13), (0, 9, 15, 25)]) ({ frames := 8, cells := 1, slots := 6, locals := 123 }) D cI cZ cJ cD [.ref qz, .int x, .ref qo] ([(qo, .inl (cJ, 1, .inr (.inl f)))] ++ w0) ([(qo, .inl (cJ, 1, .inr (.inl f)))] ++ w1) 2 1 6 := by
  refine mk_h (y := yL_add) (av := [.ref qz, .int x, .ref qo]) (cc := cL_add) (maxL := 4) (hh := [(0, 9, 12, 13), (0, 9, 15, 25)]) (by decide +kernel) (Nat.le_of_ble_eq_true rfl) ?_
  intro p e s m args below meth c A Q R hR hQ hx hb hr hml hAW hown hlk htab hN hT hNc hA hP hK hD hS ls hl
  have hl : lv_has ls 4 [(0, .ref qz), (1, .int x), (2, .ref qo)] := hl
  have hP : va_P D vwCl ([(qo, .inl (cJ, 1, .inr (.inl f)))] ++ (w0 ++ [])) s.heap := by rw [List.append_nil]; exact hP
  have hD : va_D A ([(qo, .inl (cJ, 1, .inr (.inl f)))] ++ (w0 ++ [])) := by rw [List.append_nil]; exact hD
  have hK2 : va_K D vwCl (ty2 cI cZ) s := hK.sub [0, 1] rfl
  refine lv_aload_n hx hb dL_add_0 rfl (lv_at hl 2 rfl) ?_
  refine lv_iconst (v := 0) hx hb dL_add_1 (by decide) ?_
  refine lv_aload_n hx hb dL_add_2 rfl (lv_at hl 0 rfl) ?_
  refine lv_iload_n hx hb dL_add_3 rfl (lv_at hl 1 rfl) ?_
  refine call_Rx (wa := [(qo, .inl (cJ, 1, .inr (.inl f)))]) (wb := []) (As := [.int x]) (rest := [.int 0, .ref qo]) hx hb hml hown hAW hN hT hM (cwVAx 1 hAW q542 q543 q544 q41 q545 hd_X9_add (by rw [hR]; exact Nat.le_of_ble_eq_true rfl) (by rw [hR]; exact Nat.le_of_ble_eq_true rfl) rfl rfl) hK2 hP hD hS hA hq hw rfl rfl rfl hl.1 rfl (lv_room (Nat.le_of_ble_eq_true rfl)) dL_add_4 (by rw [hR]; exact Nat.le_of_ble_eq_true rfl) (by rw [hR]; exact Nat.le_of_ble_eq_true rfl) (fun ce q9 H locs hP hD hS h1 h2 h3 => ?_)
  have hP : va_P D vwCl ([(qo, .inl (cJ, 1, .inr (.inl f)))] ++ w1) H := by rw [List.append_nil] at hP; exact hP
  refine vx_catch (own := RL) (name := "java/lang/IllegalStateException") hown [⟨0, 9, 12, 13⟩] ⟨0, 9, 15, 25⟩ [] (by rw [htab]; rfl) (fun z hz => by rcases List.mem_singleton.mp hz with rfl; exact Or.inr ⟨by decide, "java/lang/IllegalArgumentException", hAW _ q439, hNc⟩) (by decide) (by decide) (hAW _ q541) (va_Nw.use rfl hT.2.2.2.2.2.2.2.2.2.2) h1 h2 h3 ?_
  show W p l e R s m args below meth c H locs _ _ Q (F0 m 15 ls [.ref q9])
  refine lv_astore_n (lv' := [(3, .ref q9), (0, .ref qz), (1, .int x), (2, .ref qo)]) hx hb dL_add_15 rfl hl (by decide) rfl (fun ls hl => ?_)
  refine lv_iconst (v := 2) hx hb dL_add_16 (by decide) ?_
  exact fin_h (v := 2) hx hb hr hlk hP hS rfl rfl hQ dL_add_17

set_option maxHeartbeats 1000000 in
set_option maxRecDepth 100000 in
theorem c_L_addRun_x1 (l : Launch) (hl0 : l.stackTraces = false) (D : va_G) (cI cZ cJ cD : ClassId) (qz : Nat) (qo : Nat) (f : Nat → Int64) (x y z : Int32) (w0 w1 : va_W) (hM : Cx "java/lang/IllegalArgumentException" l yX9_addRun (aw yX9_addRun cX9_addRun 6 (some .int)) ({ frames := 7, cells := 1, slots := 6, locals := 102 }) D cI cZ [.ref qz, .int x, .int y, .int z] w0 w1) (hq : ∃ fs, w0[0]? = some (qz, .inr (8, fs))) (hw : w1.map (·.1) = w0.map (·.1)) : Ch l yL_addRun (awh yL_addRun cL_addRun 6 [(0, 12, 15, 13), (0, 12, 19, 25)]) ({ frames := 8, cells := 1, slots := 6, locals := 127 }) D cI cZ cJ cD [.ref qz, .int x, .int y, .int z, .ref qo] ([(qo, .inl (cJ, 1, .inr (.inl f)))] ++ w0) ([(qo, .inl (cJ, 1, .inr (.inl f)))] ++ w1) 1 1 6 := by
  refine mk_h (y := yL_addRun) (av := [.ref qz, .int x, .int y, .int z, .ref qo]) (cc := cL_addRun) (maxL := 6) (hh := [(0, 12, 15, 13), (0, 12, 19, 25)]) (by decide +kernel) (Nat.le_of_ble_eq_true rfl) ?_
  intro p e s m args below meth c A Q R hR hQ hx hb hr hml hAW hown hlk htab hN hT hNc hA hP hK hD hS ls hl
  have hl : lv_has ls 6 [(0, .ref qz), (1, .int x), (2, .int y), (3, .int z), (4, .ref qo)] := hl
  have hP : va_P D vwCl ([(qo, .inl (cJ, 1, .inr (.inl f)))] ++ (w0 ++ [])) s.heap := by rw [List.append_nil]; exact hP
  have hD : va_D A ([(qo, .inl (cJ, 1, .inr (.inl f)))] ++ (w0 ++ [])) := by rw [List.append_nil]; exact hD
  have hK2 : va_K D vwCl (ty2 cI cZ) s := hK.sub [0, 1] rfl
  refine lv_aload hx hb dL_addRun_0 (lv_at hl 4 rfl) ?_
  refine lv_iconst (v := 0) hx hb dL_addRun_2 (by decide) ?_
  refine lv_aload_n hx hb dL_addRun_3 rfl (lv_at hl 0 rfl) ?_
  refine lv_iload_n hx hb dL_addRun_4 rfl (lv_at hl 1 rfl) ?_
  refine lv_iload_n hx hb dL_addRun_5 rfl (lv_at hl 2 rfl) ?_
  refine lv_iload_n hx hb dL_addRun_6 rfl (lv_at hl 3 rfl) ?_
  refine call_Rx (wa := [(qo, .inl (cJ, 1, .inr (.inl f)))]) (wb := []) (As := [.int x, .int y, .int z]) (rest := [.int 0, .ref qo]) hx hb hml hown hAW hN hT hM (cwVAx 3 hAW q607 q608 q609 q41 q610 hd_X9_addRun (by rw [hR]; exact Nat.le_of_ble_eq_true rfl) (by rw [hR]; exact Nat.le_of_ble_eq_true rfl) rfl rfl) hK2 hP hD hS hA hq hw rfl rfl rfl hl.1 rfl (lv_room (Nat.le_of_ble_eq_true rfl)) dL_addRun_7 (by rw [hR]; exact Nat.le_of_ble_eq_true rfl) (by rw [hR]; exact Nat.le_of_ble_eq_true rfl) (fun ce q9 H locs hP hD hS h1 h2 h3 => ?_)
  have hP : va_P D vwCl ([(qo, .inl (cJ, 1, .inr (.inl f)))] ++ w1) H := by rw [List.append_nil] at hP; exact hP
  refine vx_catch (own := RL) (name := "java/lang/IllegalArgumentException") hown [] ⟨0, 12, 15, 13⟩ [⟨0, 12, 19, 25⟩] (by rw [htab]; rfl) (fun z hz => by cases hz) (by decide) (by decide) (hAW _ q439) (va_Nw.use rfl hT.2.2.2.2.2.2.2.2.1) h1 h2 h3 ?_
  show W p l e R s m args below meth c H locs _ _ Q (F0 m 15 ls [.ref q9])
  refine lv_astore (lv' := [(5, .ref q9), (0, .ref qz), (1, .int x), (2, .int y), (3, .int z), (4, .ref qo)]) hx hb dL_addRun_15 hl (by decide) rfl (fun ls hl => ?_)
  refine lv_iconst (v := 1) hx hb dL_addRun_17 (by decide) ?_
  exact fin_h (v := 1) hx hb hr hlk hP hS rfl rfl hQ dL_addRun_18

set_option maxHeartbeats 1000000 in
set_option maxRecDepth 100000 in
theorem c_L_addRun_x2 (l : Launch) (hl0 : l.stackTraces = false) (D : va_G) (cI cZ cJ cD : ClassId) (qz : Nat) (qo : Nat) (f : Nat → Int64) (x y z : Int32) (w0 w1 : va_W) (hM : Cx "java/lang/IllegalStateException" l yX9_addRun (aw yX9_addRun cX9_addRun 6 (some .int)) ({ frames := 7, cells := 1, slots := 6, locals := 102 }) D cI cZ [.ref qz, .int x, .int y, .int z] w0 w1) (hq : ∃ fs, w0[0]? = some (qz, .inr (8, fs))) (hw : w1.map (·.1) = w0.map (·.1)) : Ch l yL_addRun (awh yL_addRun cL_addRun 6 [(0, 12, 15, 13), (0, 12, 19, 25)]) ({ frames := 8, cells := 1, slots := 6, locals := 127 }) D cI cZ cJ cD [.ref qz, .int x, .int y, .int z, .ref qo] ([(qo, .inl (cJ, 1, .inr (.inl f)))] ++ w0) ([(qo, .inl (cJ, 1, .inr (.inl f)))] ++ w1) 2 1 6 := by
  refine mk_h (y := yL_addRun) (av := [.ref qz, .int x, .int y, .int z, .ref qo]) (cc := cL_addRun) (maxL := 6) (hh := [(0, 12, 15, 13), (0, 12, 19, 25)]) (by decide +kernel) (Nat.le_of_ble_eq_true rfl) ?_
  intro p e s m args below meth c A Q R hR hQ hx hb hr hml hAW hown hlk htab hN hT hNc hA hP hK hD hS ls hl
  have hl : lv_has ls 6 [(0, .ref qz), (1, .int x), (2, .int y), (3, .int z), (4, .ref qo)] := hl
  have hP : va_P D vwCl ([(qo, .inl (cJ, 1, .inr (.inl f)))] ++ (w0 ++ [])) s.heap := by rw [List.append_nil]; exact hP
  have hD : va_D A ([(qo, .inl (cJ, 1, .inr (.inl f)))] ++ (w0 ++ [])) := by rw [List.append_nil]; exact hD
  have hK2 : va_K D vwCl (ty2 cI cZ) s := hK.sub [0, 1] rfl
  refine lv_aload hx hb dL_addRun_0 (lv_at hl 4 rfl) ?_
  refine lv_iconst (v := 0) hx hb dL_addRun_2 (by decide) ?_
  refine lv_aload_n hx hb dL_addRun_3 rfl (lv_at hl 0 rfl) ?_
  refine lv_iload_n hx hb dL_addRun_4 rfl (lv_at hl 1 rfl) ?_
  refine lv_iload_n hx hb dL_addRun_5 rfl (lv_at hl 2 rfl) ?_
  refine lv_iload_n hx hb dL_addRun_6 rfl (lv_at hl 3 rfl) ?_
  refine call_Rx (wa := [(qo, .inl (cJ, 1, .inr (.inl f)))]) (wb := []) (As := [.int x, .int y, .int z]) (rest := [.int 0, .ref qo]) hx hb hml hown hAW hN hT hM (cwVAx 3 hAW q607 q608 q609 q41 q610 hd_X9_addRun (by rw [hR]; exact Nat.le_of_ble_eq_true rfl) (by rw [hR]; exact Nat.le_of_ble_eq_true rfl) rfl rfl) hK2 hP hD hS hA hq hw rfl rfl rfl hl.1 rfl (lv_room (Nat.le_of_ble_eq_true rfl)) dL_addRun_7 (by rw [hR]; exact Nat.le_of_ble_eq_true rfl) (by rw [hR]; exact Nat.le_of_ble_eq_true rfl) (fun ce q9 H locs hP hD hS h1 h2 h3 => ?_)
  have hP : va_P D vwCl ([(qo, .inl (cJ, 1, .inr (.inl f)))] ++ w1) H := by rw [List.append_nil] at hP; exact hP
  refine vx_catch (own := RL) (name := "java/lang/IllegalStateException") hown [⟨0, 12, 15, 13⟩] ⟨0, 12, 19, 25⟩ [] (by rw [htab]; rfl) (fun z hz => by rcases List.mem_singleton.mp hz with rfl; exact Or.inr ⟨by decide, "java/lang/IllegalArgumentException", hAW _ q439, hNc⟩) (by decide) (by decide) (hAW _ q541) (va_Nw.use rfl hT.2.2.2.2.2.2.2.2.2.2) h1 h2 h3 ?_
  show W p l e R s m args below meth c H locs _ _ Q (F0 m 19 ls [.ref q9])
  refine lv_astore (lv' := [(5, .ref q9), (0, .ref qz), (1, .int x), (2, .int y), (3, .int z), (4, .ref qo)]) hx hb dL_addRun_19 hl (by decide) rfl (fun ls hl => ?_)
  refine lv_iconst (v := 2) hx hb dL_addRun_21 (by decide) ?_
  exact fin_h (v := 2) hx hb hr hlk hP hS rfl rfl hQ dL_addRun_22

set_option maxHeartbeats 1000000 in
set_option maxRecDepth 100000 in
theorem c_L_leastCost_x1 (l : Launch) (hl0 : l.stackTraces = false) (D : va_G) (cI cZ cJ cD : ClassId) (qz : Nat) (qo : Nat) (f : Nat → Int64) (x : Int32) (w0 w1 : va_W) (hM : Cx "java/lang/IllegalArgumentException" l yX9_leastCost (aw yX9_leastCost cX9_leastCost 2 (some .int)) ({ frames := 7, cells := 1, slots := 6, locals := 102 }) D cI cZ [.ref qz, .int x] w0 w1) (hq : ∃ fs, w0[0]? = some (qz, .inr (8, fs))) (hw : w1.map (·.1) = w0.map (·.1)) : Ch l yL_leastCost (awh yL_leastCost cL_leastCost 4 [(0, 9, 12, 13), (0, 9, 15, 25)]) ({ frames := 8, cells := 1, slots := 6, locals := 123 }) D cI cZ cJ cD [.ref qz, .int x, .ref qo] ([(qo, .inl (cJ, 1, .inr (.inl f)))] ++ w0) ([(qo, .inl (cJ, 1, .inr (.inl f)))] ++ w1) 1 1 6 := by
  refine mk_h (y := yL_leastCost) (av := [.ref qz, .int x, .ref qo]) (cc := cL_leastCost) (maxL := 4) (hh := [(0, 9, 12, 13), (0, 9, 15, 25)]) (by decide +kernel) (Nat.le_of_ble_eq_true rfl) ?_
  intro p e s m args below meth c A Q R hR hQ hx hb hr hml hAW hown hlk htab hN hT hNc hA hP hK hD hS ls hl
  have hl : lv_has ls 4 [(0, .ref qz), (1, .int x), (2, .ref qo)] := hl
  have hP : va_P D vwCl ([(qo, .inl (cJ, 1, .inr (.inl f)))] ++ (w0 ++ [])) s.heap := by rw [List.append_nil]; exact hP
  have hD : va_D A ([(qo, .inl (cJ, 1, .inr (.inl f)))] ++ (w0 ++ [])) := by rw [List.append_nil]; exact hD
  have hK2 : va_K D vwCl (ty2 cI cZ) s := hK.sub [0, 1] rfl
  refine lv_aload_n hx hb dL_leastCost_0 rfl (lv_at hl 2 rfl) ?_
  refine lv_iconst (v := 0) hx hb dL_leastCost_1 (by decide) ?_
  refine lv_aload_n hx hb dL_leastCost_2 rfl (lv_at hl 0 rfl) ?_
  refine lv_iload_n hx hb dL_leastCost_3 rfl (lv_at hl 1 rfl) ?_
  refine call_Rx (wa := [(qo, .inl (cJ, 1, .inr (.inl f)))]) (wb := []) (As := [.int x]) (rest := [.int 0, .ref qo]) hx hb hml hown hAW hN hT hM (cwVAx 1 hAW q708 q709 q710 q41 q711 hd_X9_leastCost (by rw [hR]; exact Nat.le_of_ble_eq_true rfl) (by rw [hR]; exact Nat.le_of_ble_eq_true rfl) rfl rfl) hK2 hP hD hS hA hq hw rfl rfl rfl hl.1 rfl (lv_room (Nat.le_of_ble_eq_true rfl)) dL_leastCost_4 (by rw [hR]; exact Nat.le_of_ble_eq_true rfl) (by rw [hR]; exact Nat.le_of_ble_eq_true rfl) (fun ce q9 H locs hP hD hS h1 h2 h3 => ?_)
  have hP : va_P D vwCl ([(qo, .inl (cJ, 1, .inr (.inl f)))] ++ w1) H := by rw [List.append_nil] at hP; exact hP
  refine vx_catch (own := RL) (name := "java/lang/IllegalArgumentException") hown [] ⟨0, 9, 12, 13⟩ [⟨0, 9, 15, 25⟩] (by rw [htab]; rfl) (fun z hz => by cases hz) (by decide) (by decide) (hAW _ q439) (va_Nw.use rfl hT.2.2.2.2.2.2.2.2.1) h1 h2 h3 ?_
  show W p l e R s m args below meth c H locs _ _ Q (F0 m 12 ls [.ref q9])
  refine lv_astore_n (lv' := [(3, .ref q9), (0, .ref qz), (1, .int x), (2, .ref qo)]) hx hb dL_leastCost_12 rfl hl (by decide) rfl (fun ls hl => ?_)
  refine lv_iconst (v := 1) hx hb dL_leastCost_13 (by decide) ?_
  exact fin_h (v := 1) hx hb hr hlk hP hS rfl rfl hQ dL_leastCost_14

set_option maxHeartbeats 1000000 in
set_option maxRecDepth 100000 in
theorem c_L_leastCost_x2 (l : Launch) (hl0 : l.stackTraces = false) (D : va_G) (cI cZ cJ cD : ClassId) (qz : Nat) (qo : Nat) (f : Nat → Int64) (x : Int32) (w0 w1 : va_W) (hM : Cx "java/lang/IllegalStateException" l yX9_leastCost (aw yX9_leastCost cX9_leastCost 2 (some .int)) ({ frames := 7, cells := 1, slots := 6, locals := 102 }) D cI cZ [.ref qz, .int x] w0 w1) (hq : ∃ fs, w0[0]? = some (qz, .inr (8, fs))) (hw : w1.map (·.1) = w0.map (·.1)) : Ch l yL_leastCost (awh yL_leastCost cL_leastCost 4 [(0, 9, 12, 13), (0, 9, 15, 25)]) ({ frames := 8, cells := 1, slots := 6, locals := 123 }) D cI cZ cJ cD [.ref qz, .int x, .ref qo] ([(qo, .inl (cJ, 1, .inr (.inl f)))] ++ w0) ([(qo, .inl (cJ, 1, .inr (.inl f)))] ++ w1) 2 1 6 := by
  refine mk_h (y := yL_leastCost) (av := [.ref qz, .int x, .ref qo]) (cc := cL_leastCost) (maxL := 4) (hh := [(0, 9, 12, 13), (0, 9, 15, 25)]) (by decide +kernel) (Nat.le_of_ble_eq_true rfl) ?_
  intro p e s m args below meth c A Q R hR hQ hx hb hr hml hAW hown hlk htab hN hT hNc hA hP hK hD hS ls hl
  have hl : lv_has ls 4 [(0, .ref qz), (1, .int x), (2, .ref qo)] := hl
  have hP : va_P D vwCl ([(qo, .inl (cJ, 1, .inr (.inl f)))] ++ (w0 ++ [])) s.heap := by rw [List.append_nil]; exact hP
  have hD : va_D A ([(qo, .inl (cJ, 1, .inr (.inl f)))] ++ (w0 ++ [])) := by rw [List.append_nil]; exact hD
  have hK2 : va_K D vwCl (ty2 cI cZ) s := hK.sub [0, 1] rfl
  refine lv_aload_n hx hb dL_leastCost_0 rfl (lv_at hl 2 rfl) ?_
  refine lv_iconst (v := 0) hx hb dL_leastCost_1 (by decide) ?_
  refine lv_aload_n hx hb dL_leastCost_2 rfl (lv_at hl 0 rfl) ?_
  refine lv_iload_n hx hb dL_leastCost_3 rfl (lv_at hl 1 rfl) ?_
  refine call_Rx (wa := [(qo, .inl (cJ, 1, .inr (.inl f)))]) (wb := []) (As := [.int x]) (rest := [.int 0, .ref qo]) hx hb hml hown hAW hN hT hM (cwVAx 1 hAW q708 q709 q710 q41 q711 hd_X9_leastCost (by rw [hR]; exact Nat.le_of_ble_eq_true rfl) (by rw [hR]; exact Nat.le_of_ble_eq_true rfl) rfl rfl) hK2 hP hD hS hA hq hw rfl rfl rfl hl.1 rfl (lv_room (Nat.le_of_ble_eq_true rfl)) dL_leastCost_4 (by rw [hR]; exact Nat.le_of_ble_eq_true rfl) (by rw [hR]; exact Nat.le_of_ble_eq_true rfl) (fun ce q9 H locs hP hD hS h1 h2 h3 => ?_)
  have hP : va_P D vwCl ([(qo, .inl (cJ, 1, .inr (.inl f)))] ++ w1) H := by rw [List.append_nil] at hP; exact hP
  refine vx_catch (own := RL) (name := "java/lang/IllegalStateException") hown [⟨0, 9, 12, 13⟩] ⟨0, 9, 15, 25⟩ [] (by rw [htab]; rfl) (fun z hz => by rcases List.mem_singleton.mp hz with rfl; exact Or.inr ⟨by decide, "java/lang/IllegalArgumentException", hAW _ q439, hNc⟩) (by decide) (by decide) (hAW _ q541) (va_Nw.use rfl hT.2.2.2.2.2.2.2.2.2.2) h1 h2 h3 ?_
  show W p l e R s m args below meth c H locs _ _ Q (F0 m 15 ls [.ref q9])
  refine lv_astore_n (lv' := [(3, .ref q9), (0, .ref qz), (1, .int x), (2, .ref qo)]) hx hb dL_leastCost_15 rfl hl (by decide) rfl (fun ls hl => ?_)
  refine lv_iconst (v := 2) hx hb dL_leastCost_16 (by decide) ?_
  exact fin_h (v := 2) hx hb hr hlk hP hS rfl rfl hQ dL_leastCost_17

set_option maxHeartbeats 1000000 in
set_option maxRecDepth 100000 in
theorem c_L_averageDelay_x1 (l : Launch) (hl0 : l.stackTraces = false) (D : va_G) (cI cZ cJ cD : ClassId) (qz : Nat) (qo qo2 : Nat) (f : Nat → Int64) (g : Nat → UInt64) (x y : Int32) (w0 w1 : va_W) (hM : Cx "java/lang/IllegalArgumentException" l yX9_averageDelay (aw yX9_averageDelay cX9_averageDelay 3 (some .float)) ({ frames := 8, cells := 1, slots := 6, locals := 124 }) D cI cZ [.ref qz, .int x, .int y] w0 w1) (hq : ∃ fs, w0[0]? = some (qz, .inr (8, fs))) (hw : w1.map (·.1) = w0.map (·.1)) : Ch l yL_averageDelay (awh yL_averageDelay cL_averageDelay 5 [(0, 10, 13, 13), (0, 10, 17, 25)]) ({ frames := 9, cells := 1, slots := 6, locals := 146 }) D cI cZ cJ cD [.ref qz, .int x, .int y, .ref qo] ([(qo, .inl (cD, 1, .inr (.inr (.inr (.inl g))))), (qo2, .inl (cJ, 1, .inr (.inl f)))] ++ w0) ([(qo, .inl (cD, 1, .inr (.inr (.inr (.inl g))))), (qo2, .inl (cJ, 1, .inr (.inl f)))] ++ w1) 1 1 6 := by
  refine mk_h (y := yL_averageDelay) (av := [.ref qz, .int x, .int y, .ref qo]) (cc := cL_averageDelay) (maxL := 5) (hh := [(0, 10, 13, 13), (0, 10, 17, 25)]) (by decide +kernel) (Nat.le_of_ble_eq_true rfl) ?_
  intro p e s m args below meth c A Q R hR hQ hx hb hr hml hAW hown hlk htab hN hT hNc hA hP hK hD hS ls hl
  have hl : lv_has ls 5 [(0, .ref qz), (1, .int x), (2, .int y), (3, .ref qo)] := hl
  have hP : va_P D vwCl ([(qo, .inl (cD, 1, .inr (.inr (.inr (.inl g))))), (qo2, .inl (cJ, 1, .inr (.inl f)))] ++ (w0 ++ [])) s.heap := by rw [List.append_nil]; exact hP
  have hD : va_D A ([(qo, .inl (cD, 1, .inr (.inr (.inr (.inl g))))), (qo2, .inl (cJ, 1, .inr (.inl f)))] ++ (w0 ++ [])) := by rw [List.append_nil]; exact hD
  have hK2 : va_K D vwCl (ty2 cI cZ) s := hK.sub [0, 1] rfl
  refine lv_aload_n hx hb dL_averageDelay_0 rfl (lv_at hl 3 rfl) ?_
  refine lv_iconst (v := 0) hx hb dL_averageDelay_1 (by decide) ?_
  refine lv_aload_n hx hb dL_averageDelay_2 rfl (lv_at hl 0 rfl) ?_
  refine lv_iload_n hx hb dL_averageDelay_3 rfl (lv_at hl 1 rfl) ?_
  refine lv_iload_n hx hb dL_averageDelay_4 rfl (lv_at hl 2 rfl) ?_
  refine call_Rx (wa := [(qo, .inl (cD, 1, .inr (.inr (.inr (.inl g))))), (qo2, .inl (cJ, 1, .inr (.inl f)))]) (wb := []) (As := [.int x, .int y]) (rest := [.int 0, .ref qo]) hx hb hml hown hAW hN hT hM (cwVAx 2 hAW q782 q783 q784 q41 q785 hd_X9_averageDelay (by rw [hR]; exact Nat.le_of_ble_eq_true rfl) (by rw [hR]; exact Nat.le_of_ble_eq_true rfl) rfl rfl) hK2 hP hD hS hA hq hw rfl rfl rfl hl.1 rfl (lv_room (Nat.le_of_ble_eq_true rfl)) dL_averageDelay_5 (by rw [hR]; exact Nat.le_of_ble_eq_true rfl) (by rw [hR]; exact Nat.le_of_ble_eq_true rfl) (fun ce q9 H locs hP hD hS h1 h2 h3 => ?_)
  have hP : va_P D vwCl ([(qo, .inl (cD, 1, .inr (.inr (.inr (.inl g))))), (qo2, .inl (cJ, 1, .inr (.inl f)))] ++ w1) H := by rw [List.append_nil] at hP; exact hP
  refine vx_catch (own := RL) (name := "java/lang/IllegalArgumentException") hown [] ⟨0, 10, 13, 13⟩ [⟨0, 10, 17, 25⟩] (by rw [htab]; rfl) (fun z hz => by cases hz) (by decide) (by decide) (hAW _ q439) (va_Nw.use rfl hT.2.2.2.2.2.2.2.2.1) h1 h2 h3 ?_
  show W p l e R s m args below meth c H locs _ _ Q (F0 m 13 ls [.ref q9])
  refine lv_astore (lv' := [(4, .ref q9), (0, .ref qz), (1, .int x), (2, .int y), (3, .ref qo)]) hx hb dL_averageDelay_13 hl (by decide) rfl (fun ls hl => ?_)
  refine lv_iconst (v := 1) hx hb dL_averageDelay_15 (by decide) ?_
  exact fin_h (v := 1) hx hb hr hlk hP hS rfl rfl hQ dL_averageDelay_16

set_option maxHeartbeats 1000000 in
set_option maxRecDepth 100000 in
theorem c_L_averageDelay_x2 (l : Launch) (hl0 : l.stackTraces = false) (D : va_G) (cI cZ cJ cD : ClassId) (qz : Nat) (qo qo2 : Nat) (f : Nat → Int64) (g : Nat → UInt64) (x y : Int32) (w0 w1 : va_W) (hM : Cx "java/lang/IllegalStateException" l yX9_averageDelay (aw yX9_averageDelay cX9_averageDelay 3 (some .float)) ({ frames := 7, cells := 1, slots := 6, locals := 102 }) D cI cZ [.ref qz, .int x, .int y] w0 w1) (hq : ∃ fs, w0[0]? = some (qz, .inr (8, fs))) (hw : w1.map (·.1) = w0.map (·.1)) : Ch l yL_averageDelay (awh yL_averageDelay cL_averageDelay 5 [(0, 10, 13, 13), (0, 10, 17, 25)]) ({ frames := 8, cells := 1, slots := 6, locals := 124 }) D cI cZ cJ cD [.ref qz, .int x, .int y, .ref qo] ([(qo, .inl (cD, 1, .inr (.inr (.inr (.inl g))))), (qo2, .inl (cJ, 1, .inr (.inl f)))] ++ w0) ([(qo, .inl (cD, 1, .inr (.inr (.inr (.inl g))))), (qo2, .inl (cJ, 1, .inr (.inl f)))] ++ w1) 2 1 6 := by
  refine mk_h (y := yL_averageDelay) (av := [.ref qz, .int x, .int y, .ref qo]) (cc := cL_averageDelay) (maxL := 5) (hh := [(0, 10, 13, 13), (0, 10, 17, 25)]) (by decide +kernel) (Nat.le_of_ble_eq_true rfl) ?_
  intro p e s m args below meth c A Q R hR hQ hx hb hr hml hAW hown hlk htab hN hT hNc hA hP hK hD hS ls hl
  have hl : lv_has ls 5 [(0, .ref qz), (1, .int x), (2, .int y), (3, .ref qo)] := hl
  have hP : va_P D vwCl ([(qo, .inl (cD, 1, .inr (.inr (.inr (.inl g))))), (qo2, .inl (cJ, 1, .inr (.inl f)))] ++ (w0 ++ [])) s.heap := by rw [List.append_nil]; exact hP
  have hD : va_D A ([(qo, .inl (cD, 1, .inr (.inr (.inr (.inl g))))), (qo2, .inl (cJ, 1, .inr (.inl f)))] ++ (w0 ++ [])) := by rw [List.append_nil]; exact hD
  have hK2 : va_K D vwCl (ty2 cI cZ) s := hK.sub [0, 1] rfl
  refine lv_aload_n hx hb dL_averageDelay_0 rfl (lv_at hl 3 rfl) ?_
  refine lv_iconst (v := 0) hx hb dL_averageDelay_1 (by decide) ?_
  refine lv_aload_n hx hb dL_averageDelay_2 rfl (lv_at hl 0 rfl) ?_
  refine lv_iload_n hx hb dL_averageDelay_3 rfl (lv_at hl 1 rfl) ?_
  refine lv_iload_n hx hb dL_averageDelay_4 rfl (lv_at hl 2 rfl) ?_
  refine call_Rx (wa := [(qo, .inl (cD, 1, .inr (.inr (.inr (.inl g))))), (qo2, .inl (cJ, 1, .inr (.inl f)))]) (wb := []) (As := [.int x, .int y]) (rest := [.int 0, .ref qo]) hx hb hml hown hAW hN hT hM (cwVAx 2 hAW q782 q783 q784 q41 q785 hd_X9_averageDelay (by rw [hR]; exact Nat.le_of_ble_eq_true rfl) (by rw [hR]; exact Nat.le_of_ble_eq_true rfl) rfl rfl) hK2 hP hD hS hA hq hw rfl rfl rfl hl.1 rfl (lv_room (Nat.le_of_ble_eq_true rfl)) dL_averageDelay_5 (by rw [hR]; exact Nat.le_of_ble_eq_true rfl) (by rw [hR]; exact Nat.le_of_ble_eq_true rfl) (fun ce q9 H locs hP hD hS h1 h2 h3 => ?_)
  have hP : va_P D vwCl ([(qo, .inl (cD, 1, .inr (.inr (.inr (.inl g))))), (qo2, .inl (cJ, 1, .inr (.inl f)))] ++ w1) H := by rw [List.append_nil] at hP; exact hP
  refine vx_catch (own := RL) (name := "java/lang/IllegalStateException") hown [⟨0, 10, 13, 13⟩] ⟨0, 10, 17, 25⟩ [] (by rw [htab]; rfl) (fun z hz => by rcases List.mem_singleton.mp hz with rfl; exact Or.inr ⟨by decide, "java/lang/IllegalArgumentException", hAW _ q439, hNc⟩) (by decide) (by decide) (hAW _ q541) (va_Nw.use rfl hT.2.2.2.2.2.2.2.2.2.2) h1 h2 h3 ?_
  show W p l e R s m args below meth c H locs _ _ Q (F0 m 17 ls [.ref q9])
  refine lv_astore (lv' := [(4, .ref q9), (0, .ref qz), (1, .int x), (2, .int y), (3, .ref qo)]) hx hb dL_averageDelay_17 hl (by decide) rfl (fun ls hl => ?_)
  refine lv_iconst (v := 2) hx hb dL_averageDelay_19 (by decide) ?_
  exact fin_h (v := 2) hx hb hr hlk hP hS rfl rfl hQ dL_averageDelay_20

set_option maxHeartbeats 1000000 in
set_option maxRecDepth 100000 in
theorem c_L_matched_x1 (l : Launch) (hl0 : l.stackTraces = false) (D : va_G) (cI cZ cJ cD : ClassId) (qz : Nat) (qo : Nat) (f : Nat → Int64) (x y : Int32) (w0 w1 : va_W) (hM : Cx "java/lang/IllegalArgumentException" l yX9_matched (aw yX9_matched cX9_matched 3 (some .int)) ({ frames := 8, cells := 1, slots := 6, locals := 124 }) D cI cZ [.ref qz, .int x, .int y] w0 w1) (hq : ∃ fs, w0[0]? = some (qz, .inr (8, fs))) (hw : w1.map (·.1) = w0.map (·.1)) : Ch l yL_matched (awh yL_matched cL_matched 5 [(0, 10, 13, 13)]) ({ frames := 9, cells := 1, slots := 6, locals := 146 }) D cI cZ cJ cD [.ref qz, .int x, .int y, .ref qo] ([(qo, .inl (cJ, 1, .inr (.inl f)))] ++ w0) ([(qo, .inl (cJ, 1, .inr (.inl f)))] ++ w1) 1 1 6 := by
  refine mk_h (y := yL_matched) (av := [.ref qz, .int x, .int y, .ref qo]) (cc := cL_matched) (maxL := 5) (hh := [(0, 10, 13, 13)]) (by decide +kernel) (Nat.le_of_ble_eq_true rfl) ?_
  intro p e s m args below meth c A Q R hR hQ hx hb hr hml hAW hown hlk htab hN hT hNc hA hP hK hD hS ls hl
  have hl : lv_has ls 5 [(0, .ref qz), (1, .int x), (2, .int y), (3, .ref qo)] := hl
  have hP : va_P D vwCl ([(qo, .inl (cJ, 1, .inr (.inl f)))] ++ (w0 ++ [])) s.heap := by rw [List.append_nil]; exact hP
  have hD : va_D A ([(qo, .inl (cJ, 1, .inr (.inl f)))] ++ (w0 ++ [])) := by rw [List.append_nil]; exact hD
  have hK2 : va_K D vwCl (ty2 cI cZ) s := hK.sub [0, 1] rfl
  refine lv_aload_n hx hb dL_matched_0 rfl (lv_at hl 3 rfl) ?_
  refine lv_iconst (v := 0) hx hb dL_matched_1 (by decide) ?_
  refine lv_aload_n hx hb dL_matched_2 rfl (lv_at hl 0 rfl) ?_
  refine lv_iload_n hx hb dL_matched_3 rfl (lv_at hl 1 rfl) ?_
  refine lv_iload_n hx hb dL_matched_4 rfl (lv_at hl 2 rfl) ?_
  refine call_Rx (wa := [(qo, .inl (cJ, 1, .inr (.inl f)))]) (wb := []) (As := [.int x, .int y]) (rest := [.int 0, .ref qo]) hx hb hml hown hAW hN hT hM (cwVAx 2 hAW q751 q752 q753 q41 q754 hd_X9_matched (by rw [hR]; exact Nat.le_of_ble_eq_true rfl) (by rw [hR]; exact Nat.le_of_ble_eq_true rfl) rfl rfl) hK2 hP hD hS hA hq hw rfl rfl rfl hl.1 rfl (lv_room (Nat.le_of_ble_eq_true rfl)) dL_matched_5 (by rw [hR]; exact Nat.le_of_ble_eq_true rfl) (by rw [hR]; exact Nat.le_of_ble_eq_true rfl) (fun ce q9 H locs hP hD hS h1 h2 h3 => ?_)
  have hP : va_P D vwCl ([(qo, .inl (cJ, 1, .inr (.inl f)))] ++ w1) H := by rw [List.append_nil] at hP; exact hP
  refine vx_catch (own := RL) (name := "java/lang/IllegalArgumentException") hown [] ⟨0, 10, 13, 13⟩ [] (by rw [htab]; rfl) (fun z hz => by cases hz) (by decide) (by decide) (hAW _ q439) (va_Nw.use rfl hT.2.2.2.2.2.2.2.2.1) h1 h2 h3 ?_
  show W p l e R s m args below meth c H locs _ _ Q (F0 m 13 ls [.ref q9])
  refine lv_astore (lv' := [(4, .ref q9), (0, .ref qz), (1, .int x), (2, .int y), (3, .ref qo)]) hx hb dL_matched_13 hl (by decide) rfl (fun ls hl => ?_)
  refine lv_iconst (v := 1) hx hb dL_matched_15 (by decide) ?_
  exact fin_h (v := 1) hx hb hr hlk hP hS rfl rfl hQ dL_matched_16

set_option maxHeartbeats 1000000 in
set_option maxRecDepth 100000 in
theorem c_L_falseAlarms_x1 (l : Launch) (hl0 : l.stackTraces = false) (D : va_G) (cI cZ cJ cD : ClassId) (qz : Nat) (qo : Nat) (f : Nat → Int64) (x y : Int32) (w0 w1 : va_W) (hM : Cx "java/lang/IllegalArgumentException" l yX9_falseAlarms (aw yX9_falseAlarms cX9_falseAlarms 3 (some .int)) ({ frames := 8, cells := 1, slots := 6, locals := 124 }) D cI cZ [.ref qz, .int x, .int y] w0 w1) (hq : ∃ fs, w0[0]? = some (qz, .inr (8, fs))) (hw : w1.map (·.1) = w0.map (·.1)) : Ch l yL_falseAlarms (awh yL_falseAlarms cL_falseAlarms 5 [(0, 10, 13, 13)]) ({ frames := 9, cells := 1, slots := 6, locals := 146 }) D cI cZ cJ cD [.ref qz, .int x, .int y, .ref qo] ([(qo, .inl (cJ, 1, .inr (.inl f)))] ++ w0) ([(qo, .inl (cJ, 1, .inr (.inl f)))] ++ w1) 1 1 6 := by
  refine mk_h (y := yL_falseAlarms) (av := [.ref qz, .int x, .int y, .ref qo]) (cc := cL_falseAlarms) (maxL := 5) (hh := [(0, 10, 13, 13)]) (by decide +kernel) (Nat.le_of_ble_eq_true rfl) ?_
  intro p e s m args below meth c A Q R hR hQ hx hb hr hml hAW hown hlk htab hN hT hNc hA hP hK hD hS ls hl
  have hl : lv_has ls 5 [(0, .ref qz), (1, .int x), (2, .int y), (3, .ref qo)] := hl
  have hP : va_P D vwCl ([(qo, .inl (cJ, 1, .inr (.inl f)))] ++ (w0 ++ [])) s.heap := by rw [List.append_nil]; exact hP
  have hD : va_D A ([(qo, .inl (cJ, 1, .inr (.inl f)))] ++ (w0 ++ [])) := by rw [List.append_nil]; exact hD
  have hK2 : va_K D vwCl (ty2 cI cZ) s := hK.sub [0, 1] rfl
  refine lv_aload_n hx hb dL_falseAlarms_0 rfl (lv_at hl 3 rfl) ?_
  refine lv_iconst (v := 0) hx hb dL_falseAlarms_1 (by decide) ?_
  refine lv_aload_n hx hb dL_falseAlarms_2 rfl (lv_at hl 0 rfl) ?_
  refine lv_iload_n hx hb dL_falseAlarms_3 rfl (lv_at hl 1 rfl) ?_
  refine lv_iload_n hx hb dL_falseAlarms_4 rfl (lv_at hl 2 rfl) ?_
  refine call_Rx (wa := [(qo, .inl (cJ, 1, .inr (.inl f)))]) (wb := []) (As := [.int x, .int y]) (rest := [.int 0, .ref qo]) hx hb hml hown hAW hN hT hM (cwVAx 2 hAW q775 q776 q777 q41 q778 hd_X9_falseAlarms (by rw [hR]; exact Nat.le_of_ble_eq_true rfl) (by rw [hR]; exact Nat.le_of_ble_eq_true rfl) rfl rfl) hK2 hP hD hS hA hq hw rfl rfl rfl hl.1 rfl (lv_room (Nat.le_of_ble_eq_true rfl)) dL_falseAlarms_5 (by rw [hR]; exact Nat.le_of_ble_eq_true rfl) (by rw [hR]; exact Nat.le_of_ble_eq_true rfl) (fun ce q9 H locs hP hD hS h1 h2 h3 => ?_)
  have hP : va_P D vwCl ([(qo, .inl (cJ, 1, .inr (.inl f)))] ++ w1) H := by rw [List.append_nil] at hP; exact hP
  refine vx_catch (own := RL) (name := "java/lang/IllegalArgumentException") hown [] ⟨0, 10, 13, 13⟩ [] (by rw [htab]; rfl) (fun z hz => by cases hz) (by decide) (by decide) (hAW _ q439) (va_Nw.use rfl hT.2.2.2.2.2.2.2.2.1) h1 h2 h3 ?_
  show W p l e R s m args below meth c H locs _ _ Q (F0 m 13 ls [.ref q9])
  refine lv_astore (lv' := [(4, .ref q9), (0, .ref qz), (1, .int x), (2, .int y), (3, .ref qo)]) hx hb dL_falseAlarms_13 hl (by decide) rfl (fun ls hl => ?_)
  refine lv_iconst (v := 1) hx hb dL_falseAlarms_15 (by decide) ?_
  exact fin_h (v := 1) hx hb hr hlk hP hS rfl rfl hQ dL_falseAlarms_16

set_option maxHeartbeats 1000000 in
set_option maxRecDepth 100000 in
theorem c_L_value_x1 (l : Launch) (hl0 : l.stackTraces = false) (D : va_G) (cI cZ cJ cD : ClassId) (qz : Nat) (qo : Nat) (f : Nat → Int64) (x : Int32) (w0 w1 : va_W) (hM : Cx "java/lang/IndexOutOfBoundsException" l yX9_value (aw yX9_value cX9_value 2 (some .int)) ({ frames := 7, cells := 1, slots := 6, locals := 102 }) D cI cZ [.ref qz, .int x] w0 w1) (hq : ∃ fs, w0[0]? = some (qz, .inr (8, fs))) (hw : w1.map (·.1) = w0.map (·.1)) : Ch l yL_value (awh yL_value cL_value 4 [(0, 9, 12, 34)]) ({ frames := 8, cells := 1, slots := 6, locals := 123 }) D cI cZ cJ cD [.ref qz, .int x, .ref qo] ([(qo, .inl (cJ, 1, .inr (.inl f)))] ++ w0) ([(qo, .inl (cJ, 1, .inr (.inl f)))] ++ w1) 1 1 6 := by
  refine mk_h (y := yL_value) (av := [.ref qz, .int x, .ref qo]) (cc := cL_value) (maxL := 4) (hh := [(0, 9, 12, 34)]) (by decide +kernel) (Nat.le_of_ble_eq_true rfl) ?_
  intro p e s m args below meth c A Q R hR hQ hx hb hr hml hAW hown hlk htab hN hT hNc hA hP hK hD hS ls hl
  have hl : lv_has ls 4 [(0, .ref qz), (1, .int x), (2, .ref qo)] := hl
  have hP : va_P D vwCl ([(qo, .inl (cJ, 1, .inr (.inl f)))] ++ (w0 ++ [])) s.heap := by rw [List.append_nil]; exact hP
  have hD : va_D A ([(qo, .inl (cJ, 1, .inr (.inl f)))] ++ (w0 ++ [])) := by rw [List.append_nil]; exact hD
  have hK2 : va_K D vwCl (ty2 cI cZ) s := hK.sub [0, 1] rfl
  refine lv_aload_n hx hb dL_value_0 rfl (lv_at hl 2 rfl) ?_
  refine lv_iconst (v := 0) hx hb dL_value_1 (by decide) ?_
  refine lv_aload_n hx hb dL_value_2 rfl (lv_at hl 0 rfl) ?_
  refine lv_iload_n hx hb dL_value_3 rfl (lv_at hl 1 rfl) ?_
  refine call_Rx (wa := [(qo, .inl (cJ, 1, .inr (.inl f)))]) (wb := []) (As := [.int x]) (rest := [.int 0, .ref qo]) hx hb hml hown hAW hN hT hM (cwVAx 1 hAW q615 q616 q617 q41 q618 hd_X9_value (by rw [hR]; exact Nat.le_of_ble_eq_true rfl) (by rw [hR]; exact Nat.le_of_ble_eq_true rfl) rfl rfl) hK2 hP hD hS hA hq hw rfl rfl rfl hl.1 rfl (lv_room (Nat.le_of_ble_eq_true rfl)) dL_value_4 (by rw [hR]; exact Nat.le_of_ble_eq_true rfl) (by rw [hR]; exact Nat.le_of_ble_eq_true rfl) (fun ce q9 H locs hP hD hS h1 h2 h3 => ?_)
  have hP : va_P D vwCl ([(qo, .inl (cJ, 1, .inr (.inl f)))] ++ w1) H := by rw [List.append_nil] at hP; exact hP
  refine vx_catch (own := RL) (name := "java/lang/IndexOutOfBoundsException") hown [] ⟨0, 9, 12, 34⟩ [] (by rw [htab]; rfl) (fun z hz => by cases hz) (by decide) (by decide) (hAW _ q614) (va_Nw.use rfl hT.2.2.2.2.2.2.2.2.2.1) h1 h2 h3 ?_
  show W p l e R s m args below meth c H locs _ _ Q (F0 m 12 ls [.ref q9])
  refine lv_astore_n (lv' := [(3, .ref q9), (0, .ref qz), (1, .int x), (2, .ref qo)]) hx hb dL_value_12 rfl hl (by decide) rfl (fun ls hl => ?_)
  refine lv_iconst (v := 1) hx hb dL_value_13 (by decide) ?_
  exact fin_h (v := 1) hx hb hr hlk hP hS rfl rfl hQ dL_value_14

set_option maxHeartbeats 1000000 in
set_option maxRecDepth 100000 in
theorem c_L_alarmKind_x1 (l : Launch) (hl0 : l.stackTraces = false) (D : va_G) (cI cZ cJ cD : ClassId) (qz : Nat) (qo : Nat) (f : Nat → Int64) (x : Int32) (w0 w1 : va_W) (hM : Cx "java/lang/IndexOutOfBoundsException" l yX9_alarmKind (aw yX9_alarmKind cX9_alarmKind 2 (some .int)) ({ frames := 7, cells := 1, slots := 6, locals := 102 }) D cI cZ [.ref qz, .int x] w0 w1) (hq : ∃ fs, w0[0]? = some (qz, .inr (8, fs))) (hw : w1.map (·.1) = w0.map (·.1)) : Ch l yL_alarmKind (awh yL_alarmKind cL_alarmKind 4 [(0, 9, 12, 34)]) ({ frames := 8, cells := 1, slots := 6, locals := 123 }) D cI cZ cJ cD [.ref qz, .int x, .ref qo] ([(qo, .inl (cJ, 1, .inr (.inl f)))] ++ w0) ([(qo, .inl (cJ, 1, .inr (.inl f)))] ++ w1) 1 1 6 := by
  refine mk_h (y := yL_alarmKind) (av := [.ref qz, .int x, .ref qo]) (cc := cL_alarmKind) (maxL := 4) (hh := [(0, 9, 12, 34)]) (by decide +kernel) (Nat.le_of_ble_eq_true rfl) ?_
  intro p e s m args below meth c A Q R hR hQ hx hb hr hml hAW hown hlk htab hN hT hNc hA hP hK hD hS ls hl
  have hl : lv_has ls 4 [(0, .ref qz), (1, .int x), (2, .ref qo)] := hl
  have hP : va_P D vwCl ([(qo, .inl (cJ, 1, .inr (.inl f)))] ++ (w0 ++ [])) s.heap := by rw [List.append_nil]; exact hP
  have hD : va_D A ([(qo, .inl (cJ, 1, .inr (.inl f)))] ++ (w0 ++ [])) := by rw [List.append_nil]; exact hD
  have hK2 : va_K D vwCl (ty2 cI cZ) s := hK.sub [0, 1] rfl
  refine lv_aload_n hx hb dL_alarmKind_0 rfl (lv_at hl 2 rfl) ?_
  refine lv_iconst (v := 0) hx hb dL_alarmKind_1 (by decide) ?_
  refine lv_aload_n hx hb dL_alarmKind_2 rfl (lv_at hl 0 rfl) ?_
  refine lv_iload_n hx hb dL_alarmKind_3 rfl (lv_at hl 1 rfl) ?_
  refine call_Rx (wa := [(qo, .inl (cJ, 1, .inr (.inl f)))]) (wb := []) (As := [.int x]) (rest := [.int 0, .ref qo]) hx hb hml hown hAW hN hT hM (cwVAx 1 hAW q645 q646 q647 q41 q648 hd_X9_alarmKind (by rw [hR]; exact Nat.le_of_ble_eq_true rfl) (by rw [hR]; exact Nat.le_of_ble_eq_true rfl) rfl rfl) hK2 hP hD hS hA hq hw rfl rfl rfl hl.1 rfl (lv_room (Nat.le_of_ble_eq_true rfl)) dL_alarmKind_4 (by rw [hR]; exact Nat.le_of_ble_eq_true rfl) (by rw [hR]; exact Nat.le_of_ble_eq_true rfl) (fun ce q9 H locs hP hD hS h1 h2 h3 => ?_)
  have hP : va_P D vwCl ([(qo, .inl (cJ, 1, .inr (.inl f)))] ++ w1) H := by rw [List.append_nil] at hP; exact hP
  refine vx_catch (own := RL) (name := "java/lang/IndexOutOfBoundsException") hown [] ⟨0, 9, 12, 34⟩ [] (by rw [htab]; rfl) (fun z hz => by cases hz) (by decide) (by decide) (hAW _ q614) (va_Nw.use rfl hT.2.2.2.2.2.2.2.2.2.1) h1 h2 h3 ?_
  show W p l e R s m args below meth c H locs _ _ Q (F0 m 12 ls [.ref q9])
  refine lv_astore_n (lv' := [(3, .ref q9), (0, .ref qz), (1, .int x), (2, .ref qo)]) hx hb dL_alarmKind_12 rfl hl (by decide) rfl (fun ls hl => ?_)
  refine lv_iconst (v := 1) hx hb dL_alarmKind_13 (by decide) ?_
  exact fin_h (v := 1) hx hb hr hlk hP hS rfl rfl hQ dL_alarmKind_14

set_option maxHeartbeats 1000000 in
set_option maxRecDepth 100000 in
theorem c_L_alarmNumber_x1 (l : Launch) (hl0 : l.stackTraces = false) (D : va_G) (cI cZ cJ cD : ClassId) (qz : Nat) (qo : Nat) (f : Nat → Int64) (x : Int32) (w0 w1 : va_W) (hM : Cx "java/lang/IndexOutOfBoundsException" l yX9_alarmNumber (aw yX9_alarmNumber cX9_alarmNumber 2 (some .int)) ({ frames := 7, cells := 1, slots := 6, locals := 102 }) D cI cZ [.ref qz, .int x] w0 w1) (hq : ∃ fs, w0[0]? = some (qz, .inr (8, fs))) (hw : w1.map (·.1) = w0.map (·.1)) : Ch l yL_alarmNumber (awh yL_alarmNumber cL_alarmNumber 4 [(0, 9, 12, 34)]) ({ frames := 8, cells := 1, slots := 6, locals := 123 }) D cI cZ cJ cD [.ref qz, .int x, .ref qo] ([(qo, .inl (cJ, 1, .inr (.inl f)))] ++ w0) ([(qo, .inl (cJ, 1, .inr (.inl f)))] ++ w1) 1 1 6 := by
  refine mk_h (y := yL_alarmNumber) (av := [.ref qz, .int x, .ref qo]) (cc := cL_alarmNumber) (maxL := 4) (hh := [(0, 9, 12, 34)]) (by decide +kernel) (Nat.le_of_ble_eq_true rfl) ?_
  intro p e s m args below meth c A Q R hR hQ hx hb hr hml hAW hown hlk htab hN hT hNc hA hP hK hD hS ls hl
  have hl : lv_has ls 4 [(0, .ref qz), (1, .int x), (2, .ref qo)] := hl
  have hP : va_P D vwCl ([(qo, .inl (cJ, 1, .inr (.inl f)))] ++ (w0 ++ [])) s.heap := by rw [List.append_nil]; exact hP
  have hD : va_D A ([(qo, .inl (cJ, 1, .inr (.inl f)))] ++ (w0 ++ [])) := by rw [List.append_nil]; exact hD
  have hK2 : va_K D vwCl (ty2 cI cZ) s := hK.sub [0, 1] rfl
  refine lv_aload_n hx hb dL_alarmNumber_0 rfl (lv_at hl 2 rfl) ?_
  refine lv_iconst (v := 0) hx hb dL_alarmNumber_1 (by decide) ?_
  refine lv_aload_n hx hb dL_alarmNumber_2 rfl (lv_at hl 0 rfl) ?_
  refine lv_iload_n hx hb dL_alarmNumber_3 rfl (lv_at hl 1 rfl) ?_
  refine call_Rx (wa := [(qo, .inl (cJ, 1, .inr (.inl f)))]) (wb := []) (As := [.int x]) (rest := [.int 0, .ref qo]) hx hb hml hown hAW hN hT hM (cwVAx 1 hAW q656 q657 q658 q41 q659 hd_X9_alarmNumber (by rw [hR]; exact Nat.le_of_ble_eq_true rfl) (by rw [hR]; exact Nat.le_of_ble_eq_true rfl) rfl rfl) hK2 hP hD hS hA hq hw rfl rfl rfl hl.1 rfl (lv_room (Nat.le_of_ble_eq_true rfl)) dL_alarmNumber_4 (by rw [hR]; exact Nat.le_of_ble_eq_true rfl) (by rw [hR]; exact Nat.le_of_ble_eq_true rfl) (fun ce q9 H locs hP hD hS h1 h2 h3 => ?_)
  have hP : va_P D vwCl ([(qo, .inl (cJ, 1, .inr (.inl f)))] ++ w1) H := by rw [List.append_nil] at hP; exact hP
  refine vx_catch (own := RL) (name := "java/lang/IndexOutOfBoundsException") hown [] ⟨0, 9, 12, 34⟩ [] (by rw [htab]; rfl) (fun z hz => by cases hz) (by decide) (by decide) (hAW _ q614) (va_Nw.use rfl hT.2.2.2.2.2.2.2.2.2.1) h1 h2 h3 ?_
  show W p l e R s m args below meth c H locs _ _ Q (F0 m 12 ls [.ref q9])
  refine lv_astore_n (lv' := [(3, .ref q9), (0, .ref qz), (1, .int x), (2, .ref qo)]) hx hb dL_alarmNumber_12 rfl hl (by decide) rfl (fun ls hl => ?_)
  refine lv_iconst (v := 1) hx hb dL_alarmNumber_13 (by decide) ?_
  exact fin_h (v := 1) hx hb hr hlk hP hS rfl rfl hQ dL_alarmNumber_14

set_option maxHeartbeats 1000000 in
set_option maxRecDepth 100000 in
theorem c_L_alarmStart_x1 (l : Launch) (hl0 : l.stackTraces = false) (D : va_G) (cI cZ cJ cD : ClassId) (qz : Nat) (qo : Nat) (f : Nat → Int64) (x : Int32) (w0 w1 : va_W) (hM : Cx "java/lang/IndexOutOfBoundsException" l yX9_alarmStart (aw yX9_alarmStart cX9_alarmStart 2 (some .int)) ({ frames := 7, cells := 1, slots := 6, locals := 102 }) D cI cZ [.ref qz, .int x] w0 w1) (hq : ∃ fs, w0[0]? = some (qz, .inr (8, fs))) (hw : w1.map (·.1) = w0.map (·.1)) : Ch l yL_alarmStart (awh yL_alarmStart cL_alarmStart 4 [(0, 9, 12, 34)]) ({ frames := 8, cells := 1, slots := 6, locals := 123 }) D cI cZ cJ cD [.ref qz, .int x, .ref qo] ([(qo, .inl (cJ, 1, .inr (.inl f)))] ++ w0) ([(qo, .inl (cJ, 1, .inr (.inl f)))] ++ w1) 1 1 6 := by
  refine mk_h (y := yL_alarmStart) (av := [.ref qz, .int x, .ref qo]) (cc := cL_alarmStart) (maxL := 4) (hh := [(0, 9, 12, 34)]) (by decide +kernel) (Nat.le_of_ble_eq_true rfl) ?_
  intro p e s m args below meth c A Q R hR hQ hx hb hr hml hAW hown hlk htab hN hT hNc hA hP hK hD hS ls hl
  have hl : lv_has ls 4 [(0, .ref qz), (1, .int x), (2, .ref qo)] := hl
  have hP : va_P D vwCl ([(qo, .inl (cJ, 1, .inr (.inl f)))] ++ (w0 ++ [])) s.heap := by rw [List.append_nil]; exact hP
  have hD : va_D A ([(qo, .inl (cJ, 1, .inr (.inl f)))] ++ (w0 ++ [])) := by rw [List.append_nil]; exact hD
  have hK2 : va_K D vwCl (ty2 cI cZ) s := hK.sub [0, 1] rfl
  refine lv_aload_n hx hb dL_alarmStart_0 rfl (lv_at hl 2 rfl) ?_
  refine lv_iconst (v := 0) hx hb dL_alarmStart_1 (by decide) ?_
  refine lv_aload_n hx hb dL_alarmStart_2 rfl (lv_at hl 0 rfl) ?_
  refine lv_iload_n hx hb dL_alarmStart_3 rfl (lv_at hl 1 rfl) ?_
  refine call_Rx (wa := [(qo, .inl (cJ, 1, .inr (.inl f)))]) (wb := []) (As := [.int x]) (rest := [.int 0, .ref qo]) hx hb hml hown hAW hN hT hM (cwVAx 1 hAW q663 q664 q665 q41 q666 hd_X9_alarmStart (by rw [hR]; exact Nat.le_of_ble_eq_true rfl) (by rw [hR]; exact Nat.le_of_ble_eq_true rfl) rfl rfl) hK2 hP hD hS hA hq hw rfl rfl rfl hl.1 rfl (lv_room (Nat.le_of_ble_eq_true rfl)) dL_alarmStart_4 (by rw [hR]; exact Nat.le_of_ble_eq_true rfl) (by rw [hR]; exact Nat.le_of_ble_eq_true rfl) (fun ce q9 H locs hP hD hS h1 h2 h3 => ?_)
  have hP : va_P D vwCl ([(qo, .inl (cJ, 1, .inr (.inl f)))] ++ w1) H := by rw [List.append_nil] at hP; exact hP
  refine vx_catch (own := RL) (name := "java/lang/IndexOutOfBoundsException") hown [] ⟨0, 9, 12, 34⟩ [] (by rw [htab]; rfl) (fun z hz => by cases hz) (by decide) (by decide) (hAW _ q614) (va_Nw.use rfl hT.2.2.2.2.2.2.2.2.2.1) h1 h2 h3 ?_
  show W p l e R s m args below meth c H locs _ _ Q (F0 m 12 ls [.ref q9])
  refine lv_astore_n (lv' := [(3, .ref q9), (0, .ref qz), (1, .int x), (2, .ref qo)]) hx hb dL_alarmStart_12 rfl hl (by decide) rfl (fun ls hl => ?_)
  refine lv_iconst (v := 1) hx hb dL_alarmStart_13 (by decide) ?_
  exact fin_h (v := 1) hx hb hr hlk hP hS rfl rfl hQ dL_alarmStart_14

set_option maxHeartbeats 1000000 in
set_option maxRecDepth 100000 in
theorem c_L_cost_x1 (l : Launch) (hl0 : l.stackTraces = false) (D : va_G) (cI cZ cJ cD : ClassId) (qz : Nat) (qo : Nat) (f : Nat → Int64) (x y : Int32) (w0 w1 : va_W) (hM : Cx "java/lang/IndexOutOfBoundsException" l yX9_cost (aw yX9_cost cX9_cost 3 (some .int)) ({ frames := 7, cells := 1, slots := 6, locals := 102 }) D cI cZ [.ref qz, .int x, .int y] w0 w1) (hq : ∃ fs, w0[0]? = some (qz, .inr (8, fs))) (hw : w1.map (·.1) = w0.map (·.1)) : Ch l yL_cost (awh yL_cost cL_cost 5 [(0, 10, 13, 34)]) ({ frames := 8, cells := 1, slots := 6, locals := 124 }) D cI cZ cJ cD [.ref qz, .int x, .int y, .ref qo] ([(qo, .inl (cJ, 1, .inr (.inl f)))] ++ w0) ([(qo, .inl (cJ, 1, .inr (.inl f)))] ++ w1) 1 1 6 := by
  refine mk_h (y := yL_cost) (av := [.ref qz, .int x, .int y, .ref qo]) (cc := cL_cost) (maxL := 5) (hh := [(0, 10, 13, 34)]) (by decide +kernel) (Nat.le_of_ble_eq_true rfl) ?_
  intro p e s m args below meth c A Q R hR hQ hx hb hr hml hAW hown hlk htab hN hT hNc hA hP hK hD hS ls hl
  have hl : lv_has ls 5 [(0, .ref qz), (1, .int x), (2, .int y), (3, .ref qo)] := hl
  have hP : va_P D vwCl ([(qo, .inl (cJ, 1, .inr (.inl f)))] ++ (w0 ++ [])) s.heap := by rw [List.append_nil]; exact hP
  have hD : va_D A ([(qo, .inl (cJ, 1, .inr (.inl f)))] ++ (w0 ++ [])) := by rw [List.append_nil]; exact hD
  have hK2 : va_K D vwCl (ty2 cI cZ) s := hK.sub [0, 1] rfl
  refine lv_aload_n hx hb dL_cost_0 rfl (lv_at hl 3 rfl) ?_
  refine lv_iconst (v := 0) hx hb dL_cost_1 (by decide) ?_
  refine lv_aload_n hx hb dL_cost_2 rfl (lv_at hl 0 rfl) ?_
  refine lv_iload_n hx hb dL_cost_3 rfl (lv_at hl 1 rfl) ?_
  refine lv_iload_n hx hb dL_cost_4 rfl (lv_at hl 2 rfl) ?_
  refine call_Rx (wa := [(qo, .inl (cJ, 1, .inr (.inl f)))]) (wb := []) (As := [.int x, .int y]) (rest := [.int 0, .ref qo]) hx hb hml hown hAW hN hT hM (cwVAx 2 hAW q670 q671 q672 q41 q673 hd_X9_cost (by rw [hR]; exact Nat.le_of_ble_eq_true rfl) (by rw [hR]; exact Nat.le_of_ble_eq_true rfl) rfl rfl) hK2 hP hD hS hA hq hw rfl rfl rfl hl.1 rfl (lv_room (Nat.le_of_ble_eq_true rfl)) dL_cost_5 (by rw [hR]; exact Nat.le_of_ble_eq_true rfl) (by rw [hR]; exact Nat.le_of_ble_eq_true rfl) (fun ce q9 H locs hP hD hS h1 h2 h3 => ?_)
  have hP : va_P D vwCl ([(qo, .inl (cJ, 1, .inr (.inl f)))] ++ w1) H := by rw [List.append_nil] at hP; exact hP
  refine vx_catch (own := RL) (name := "java/lang/IndexOutOfBoundsException") hown [] ⟨0, 10, 13, 34⟩ [] (by rw [htab]; rfl) (fun z hz => by cases hz) (by decide) (by decide) (hAW _ q614) (va_Nw.use rfl hT.2.2.2.2.2.2.2.2.2.1) h1 h2 h3 ?_
  show W p l e R s m args below meth c H locs _ _ Q (F0 m 13 ls [.ref q9])
  refine lv_astore (lv' := [(4, .ref q9), (0, .ref qz), (1, .int x), (2, .int y), (3, .ref qo)]) hx hb dL_cost_13 hl (by decide) rfl (fun ls hl => ?_)
  refine lv_iconst (v := 1) hx hb dL_cost_15 (by decide) ?_
  exact fin_h (v := 1) hx hb hr hlk hP hS rfl rfl hQ dL_cost_16

set_option maxHeartbeats 1000000 in
set_option maxRecDepth 100000 in
theorem c_L_middle_x1 (l : Launch) (hl0 : l.stackTraces = false) (D : va_G) (cI cZ cJ cD : ClassId) (qz : Nat) (qo : Nat) (f : Nat → Int64) (x y : Int32) (w0 w1 : va_W) (hM : Cx "java/lang/IndexOutOfBoundsException" l yX9_middle (aw yX9_middle cX9_middle 3 (some .int)) ({ frames := 7, cells := 1, slots := 6, locals := 102 }) D cI cZ [.ref qz, .int x, .int y] w0 w1) (hq : ∃ fs, w0[0]? = some (qz, .inr (8, fs))) (hw : w1.map (·.1) = w0.map (·.1)) : Ch l yL_middle (awh yL_middle cL_middle 5 [(0, 10, 13, 34)]) ({ frames := 8, cells := 1, slots := 6, locals := 124 }) D cI cZ cJ cD [.ref qz, .int x, .int y, .ref qo] ([(qo, .inl (cJ, 1, .inr (.inl f)))] ++ w0) ([(qo, .inl (cJ, 1, .inr (.inl f)))] ++ w1) 1 1 6 := by
  refine mk_h (y := yL_middle) (av := [.ref qz, .int x, .int y, .ref qo]) (cc := cL_middle) (maxL := 5) (hh := [(0, 10, 13, 34)]) (by decide +kernel) (Nat.le_of_ble_eq_true rfl) ?_
  intro p e s m args below meth c A Q R hR hQ hx hb hr hml hAW hown hlk htab hN hT hNc hA hP hK hD hS ls hl
  have hl : lv_has ls 5 [(0, .ref qz), (1, .int x), (2, .int y), (3, .ref qo)] := hl
  have hP : va_P D vwCl ([(qo, .inl (cJ, 1, .inr (.inl f)))] ++ (w0 ++ [])) s.heap := by rw [List.append_nil]; exact hP
  have hD : va_D A ([(qo, .inl (cJ, 1, .inr (.inl f)))] ++ (w0 ++ [])) := by rw [List.append_nil]; exact hD
  have hK2 : va_K D vwCl (ty2 cI cZ) s := hK.sub [0, 1] rfl
  refine lv_aload_n hx hb dL_middle_0 rfl (lv_at hl 3 rfl) ?_
  refine lv_iconst (v := 0) hx hb dL_middle_1 (by decide) ?_
  refine lv_aload_n hx hb dL_middle_2 rfl (lv_at hl 0 rfl) ?_
  refine lv_iload_n hx hb dL_middle_3 rfl (lv_at hl 1 rfl) ?_
  refine lv_iload_n hx hb dL_middle_4 rfl (lv_at hl 2 rfl) ?_
  refine call_Rx (wa := [(qo, .inl (cJ, 1, .inr (.inl f)))]) (wb := []) (As := [.int x, .int y]) (rest := [.int 0, .ref qo]) hx hb hml hown hAW hN hT hM (cwVAx 2 hAW q682 q683 q684 q41 q685 hd_X9_middle (by rw [hR]; exact Nat.le_of_ble_eq_true rfl) (by rw [hR]; exact Nat.le_of_ble_eq_true rfl) rfl rfl) hK2 hP hD hS hA hq hw rfl rfl rfl hl.1 rfl (lv_room (Nat.le_of_ble_eq_true rfl)) dL_middle_5 (by rw [hR]; exact Nat.le_of_ble_eq_true rfl) (by rw [hR]; exact Nat.le_of_ble_eq_true rfl) (fun ce q9 H locs hP hD hS h1 h2 h3 => ?_)
  have hP : va_P D vwCl ([(qo, .inl (cJ, 1, .inr (.inl f)))] ++ w1) H := by rw [List.append_nil] at hP; exact hP
  refine vx_catch (own := RL) (name := "java/lang/IndexOutOfBoundsException") hown [] ⟨0, 10, 13, 34⟩ [] (by rw [htab]; rfl) (fun z hz => by cases hz) (by decide) (by decide) (hAW _ q614) (va_Nw.use rfl hT.2.2.2.2.2.2.2.2.2.1) h1 h2 h3 ?_
  show W p l e R s m args below meth c H locs _ _ Q (F0 m 13 ls [.ref q9])
  refine lv_astore (lv' := [(4, .ref q9), (0, .ref qz), (1, .int x), (2, .int y), (3, .ref qo)]) hx hb dL_middle_13 hl (by decide) rfl (fun ls hl => ?_)
  refine lv_iconst (v := 1) hx hb dL_middle_15 (by decide) ?_
  exact fin_h (v := 1) hx hb hr hlk hP hS rfl rfl hQ dL_middle_16

set_option maxHeartbeats 1000000 in
set_option maxRecDepth 100000 in
theorem c_L_change_x1 (l : Launch) (hl0 : l.stackTraces = false) (D : va_G) (cI cZ cJ cD : ClassId) (qz : Nat) (qo : Nat) (f : Nat → Int64) (x : Int32) (w0 w1 : va_W) (hM : Cx "java/lang/IndexOutOfBoundsException" l yX9_change (aw yX9_change cX9_change 3 (some .int)) ({ frames := 7, cells := 1, slots := 6, locals := 119 }) D cI cZ [.ref qz, .int x] w0 w1) (hq : ∃ fs, w0[0]? = some (qz, .inr (8, fs))) (hw : w1.map (·.1) = w0.map (·.1)) : Ch l yL_change (awh yL_change cL_change 4 [(0, 9, 12, 34)]) ({ frames := 8, cells := 1, slots := 6, locals := 141 }) D cI cZ cJ cD [.ref qz, .int x, .ref qo] ([(qo, .inl (cJ, 1, .inr (.inl f)))] ++ w0) ([(qo, .inl (cJ, 1, .inr (.inl f)))] ++ w1) 1 1 6 := by
  refine mk_h (y := yL_change) (av := [.ref qz, .int x, .ref qo]) (cc := cL_change) (maxL := 4) (hh := [(0, 9, 12, 34)]) (by decide +kernel) (Nat.le_of_ble_eq_true rfl) ?_
  intro p e s m args below meth c A Q R hR hQ hx hb hr hml hAW hown hlk htab hN hT hNc hA hP hK hD hS ls hl
  have hl : lv_has ls 4 [(0, .ref qz), (1, .int x), (2, .ref qo)] := hl
  have hP : va_P D vwCl ([(qo, .inl (cJ, 1, .inr (.inl f)))] ++ (w0 ++ [])) s.heap := by rw [List.append_nil]; exact hP
  have hD : va_D A ([(qo, .inl (cJ, 1, .inr (.inl f)))] ++ (w0 ++ [])) := by rw [List.append_nil]; exact hD
  have hK2 : va_K D vwCl (ty2 cI cZ) s := hK.sub [0, 1] rfl
  refine lv_aload_n hx hb dL_change_0 rfl (lv_at hl 2 rfl) ?_
  refine lv_iconst (v := 0) hx hb dL_change_1 (by decide) ?_
  refine lv_aload_n hx hb dL_change_2 rfl (lv_at hl 0 rfl) ?_
  refine lv_iload_n hx hb dL_change_3 rfl (lv_at hl 1 rfl) ?_
  refine call_Rx (wa := [(qo, .inl (cJ, 1, .inr (.inl f)))]) (wb := []) (As := [.int x]) (rest := [.int 0, .ref qo]) hx hb hml hown hAW hN hT hM (cwVAx 1 hAW q693 q694 q695 q41 q696 hd_X9_change (by rw [hR]; exact Nat.le_of_ble_eq_true rfl) (by rw [hR]; exact Nat.le_of_ble_eq_true rfl) rfl rfl) hK2 hP hD hS hA hq hw rfl rfl rfl hl.1 rfl (lv_room (Nat.le_of_ble_eq_true rfl)) dL_change_4 (by rw [hR]; exact Nat.le_of_ble_eq_true rfl) (by rw [hR]; exact Nat.le_of_ble_eq_true rfl) (fun ce q9 H locs hP hD hS h1 h2 h3 => ?_)
  have hP : va_P D vwCl ([(qo, .inl (cJ, 1, .inr (.inl f)))] ++ w1) H := by rw [List.append_nil] at hP; exact hP
  refine vx_catch (own := RL) (name := "java/lang/IndexOutOfBoundsException") hown [] ⟨0, 9, 12, 34⟩ [] (by rw [htab]; rfl) (fun z hz => by cases hz) (by decide) (by decide) (hAW _ q614) (va_Nw.use rfl hT.2.2.2.2.2.2.2.2.2.1) h1 h2 h3 ?_
  show W p l e R s m args below meth c H locs _ _ Q (F0 m 12 ls [.ref q9])
  refine lv_astore_n (lv' := [(3, .ref q9), (0, .ref qz), (1, .int x), (2, .ref qo)]) hx hb dL_change_12 rfl hl (by decide) rfl (fun ls hl => ?_)
  refine lv_iconst (v := 1) hx hb dL_change_13 (by decide) ?_
  exact fin_h (v := 1) hx hb hr hlk hP hS rfl rfl hQ dL_change_14

set_option maxHeartbeats 1000000 in
set_option maxRecDepth 100000 in
theorem c_L_greedyChange_x1 (l : Launch) (hl0 : l.stackTraces = false) (D : va_G) (cI cZ cJ cD : ClassId) (qz : Nat) (qo : Nat) (f : Nat → Int64) (x : Int32) (w0 w1 : va_W) (hM : Cx "java/lang/IndexOutOfBoundsException" l yX9_greedyChange (aw yX9_greedyChange cX9_greedyChange 3 (some .int)) ({ frames := 7, cells := 1, slots := 6, locals := 117 }) D cI cZ [.ref qz, .int x] w0 w1) (hq : ∃ fs, w0[0]? = some (qz, .inr (8, fs))) (hw : w1.map (·.1) = w0.map (·.1)) : Ch l yL_greedyChange (awh yL_greedyChange cL_greedyChange 4 [(0, 9, 12, 34)]) ({ frames := 8, cells := 1, slots := 6, locals := 139 }) D cI cZ cJ cD [.ref qz, .int x, .ref qo] ([(qo, .inl (cJ, 1, .inr (.inl f)))] ++ w0) ([(qo, .inl (cJ, 1, .inr (.inl f)))] ++ w1) 1 1 6 := by
  refine mk_h (y := yL_greedyChange) (av := [.ref qz, .int x, .ref qo]) (cc := cL_greedyChange) (maxL := 4) (hh := [(0, 9, 12, 34)]) (by decide +kernel) (Nat.le_of_ble_eq_true rfl) ?_
  intro p e s m args below meth c A Q R hR hQ hx hb hr hml hAW hown hlk htab hN hT hNc hA hP hK hD hS ls hl
  have hl : lv_has ls 4 [(0, .ref qz), (1, .int x), (2, .ref qo)] := hl
  have hP : va_P D vwCl ([(qo, .inl (cJ, 1, .inr (.inl f)))] ++ (w0 ++ [])) s.heap := by rw [List.append_nil]; exact hP
  have hD : va_D A ([(qo, .inl (cJ, 1, .inr (.inl f)))] ++ (w0 ++ [])) := by rw [List.append_nil]; exact hD
  have hK2 : va_K D vwCl (ty2 cI cZ) s := hK.sub [0, 1] rfl
  refine lv_aload_n hx hb dL_greedyChange_0 rfl (lv_at hl 2 rfl) ?_
  refine lv_iconst (v := 0) hx hb dL_greedyChange_1 (by decide) ?_
  refine lv_aload_n hx hb dL_greedyChange_2 rfl (lv_at hl 0 rfl) ?_
  refine lv_iload_n hx hb dL_greedyChange_3 rfl (lv_at hl 1 rfl) ?_
  refine call_Rx (wa := [(qo, .inl (cJ, 1, .inr (.inl f)))]) (wb := []) (As := [.int x]) (rest := [.int 0, .ref qo]) hx hb hml hown hAW hN hT hM (cwVAx 1 hAW q737 q738 q739 q41 q740 hd_X9_greedyChange (by rw [hR]; exact Nat.le_of_ble_eq_true rfl) (by rw [hR]; exact Nat.le_of_ble_eq_true rfl) rfl rfl) hK2 hP hD hS hA hq hw rfl rfl rfl hl.1 rfl (lv_room (Nat.le_of_ble_eq_true rfl)) dL_greedyChange_4 (by rw [hR]; exact Nat.le_of_ble_eq_true rfl) (by rw [hR]; exact Nat.le_of_ble_eq_true rfl) (fun ce q9 H locs hP hD hS h1 h2 h3 => ?_)
  have hP : va_P D vwCl ([(qo, .inl (cJ, 1, .inr (.inl f)))] ++ w1) H := by rw [List.append_nil] at hP; exact hP
  refine vx_catch (own := RL) (name := "java/lang/IndexOutOfBoundsException") hown [] ⟨0, 9, 12, 34⟩ [] (by rw [htab]; rfl) (fun z hz => by cases hz) (by decide) (by decide) (hAW _ q614) (va_Nw.use rfl hT.2.2.2.2.2.2.2.2.2.1) h1 h2 h3 ?_
  show W p l e R s m args below meth c H locs _ _ Q (F0 m 12 ls [.ref q9])
  refine lv_astore_n (lv' := [(3, .ref q9), (0, .ref qz), (1, .int x), (2, .ref qo)]) hx hb dL_greedyChange_12 rfl hl (by decide) rfl (fun ls hl => ?_)
  refine lv_iconst (v := 1) hx hb dL_greedyChange_13 (by decide) ?_
  exact fin_h (v := 1) hx hb hr hlk hP hS rfl rfl hQ dL_greedyChange_14

set_option maxHeartbeats 1000000 in
set_option maxRecDepth 100000 in
theorem c_L_toggleTruth_x1 (l : Launch) (hl0 : l.stackTraces = false) (D : va_G) (cI cZ cJ cD : ClassId) (qz : Nat) (qo : Nat) (f : Nat → Int64) (x : Int32) (w0 w1 : va_W) (hM : Cx "java/lang/IndexOutOfBoundsException" l yX9_toggleTruth (aw yX9_toggleTruth cX9_toggleTruth 2 (some .boolean)) ({ frames := 7, cells := 1, slots := 6, locals := 102 }) D cI cZ [.ref qz, .int x] w0 w1) (hq : ∃ fs, w0[0]? = some (qz, .inr (8, fs))) (hw : w1.map (·.1) = w0.map (·.1)) : Ch l yL_toggleTruth (awh yL_toggleTruth cL_toggleTruth 4 [(0, 16, 19, 34)]) ({ frames := 8, cells := 1, slots := 6, locals := 123 }) D cI cZ cJ cD [.ref qz, .int x, .ref qo] ([(qo, .inl (cJ, 1, .inr (.inl f)))] ++ w0) ([(qo, .inl (cJ, 1, .inr (.inl f)))] ++ w1) 1 1 6 := by
  refine mk_h (y := yL_toggleTruth) (av := [.ref qz, .int x, .ref qo]) (cc := cL_toggleTruth) (maxL := 4) (hh := [(0, 16, 19, 34)]) (by decide +kernel) (Nat.le_of_ble_eq_true rfl) ?_
  intro p e s m args below meth c A Q R hR hQ hx hb hr hml hAW hown hlk htab hN hT hNc hA hP hK hD hS ls hl
  have hl : lv_has ls 4 [(0, .ref qz), (1, .int x), (2, .ref qo)] := hl
  have hP : va_P D vwCl ([(qo, .inl (cJ, 1, .inr (.inl f)))] ++ (w0 ++ [])) s.heap := by rw [List.append_nil]; exact hP
  have hD : va_D A ([(qo, .inl (cJ, 1, .inr (.inl f)))] ++ (w0 ++ [])) := by rw [List.append_nil]; exact hD
  have hK2 : va_K D vwCl (ty2 cI cZ) s := hK.sub [0, 1] rfl
  refine lv_aload_n hx hb dL_toggleTruth_0 rfl (lv_at hl 2 rfl) ?_
  refine lv_iconst (v := 0) hx hb dL_toggleTruth_1 (by decide) ?_
  refine lv_aload_n hx hb dL_toggleTruth_2 rfl (lv_at hl 0 rfl) ?_
  refine lv_iload_n hx hb dL_toggleTruth_3 rfl (lv_at hl 1 rfl) ?_
  refine call_Rx (wa := [(qo, .inl (cJ, 1, .inr (.inl f)))]) (wb := []) (As := [.int x]) (rest := [.int 0, .ref qo]) hx hb hml hown hAW hN hT hM (cwVAx 1 hAW q744 q745 q746 q41 q747 hd_X9_toggleTruth (by rw [hR]; exact Nat.le_of_ble_eq_true rfl) (by rw [hR]; exact Nat.le_of_ble_eq_true rfl) rfl rfl) hK2 hP hD hS hA hq hw rfl rfl rfl hl.1 rfl (lv_room (Nat.le_of_ble_eq_true rfl)) dL_toggleTruth_4 (by rw [hR]; exact Nat.le_of_ble_eq_true rfl) (by rw [hR]; exact Nat.le_of_ble_eq_true rfl) (fun ce q9 H locs hP hD hS h1 h2 h3 => ?_)
  have hP : va_P D vwCl ([(qo, .inl (cJ, 1, .inr (.inl f)))] ++ w1) H := by rw [List.append_nil] at hP; exact hP
  refine vx_catch (own := RL) (name := "java/lang/IndexOutOfBoundsException") hown [] ⟨0, 16, 19, 34⟩ [] (by rw [htab]; rfl) (fun z hz => by cases hz) (by decide) (by decide) (hAW _ q614) (va_Nw.use rfl hT.2.2.2.2.2.2.2.2.2.1) h1 h2 h3 ?_
  show W p l e R s m args below meth c H locs _ _ Q (F0 m 19 ls [.ref q9])
  refine lv_astore_n (lv' := [(3, .ref q9), (0, .ref qz), (1, .int x), (2, .ref qo)]) hx hb dL_toggleTruth_19 rfl hl (by decide) rfl (fun ls hl => ?_)
  refine lv_iconst (v := 1) hx hb dL_toggleTruth_20 (by decide) ?_
  exact fin_h (v := 1) hx hb hr hlk hP hS rfl rfl hQ dL_toggleTruth_21
