/-! contracts whose new world is told by what holds of it -/
def Cei {S : Type} (l : Launch) (y : MethodName) (ws : List Cond) (rm : Room) (D : va_G) (cI cZ : ClassId) (av : List Value) (w0 : va_W) (w1 : S → va_W) (post : Int32 → S → Prop) : Prop := ∀ sz, Met l y ws rm (cp D cI cZ sz av w0) (va_Qi post (fun u t => va_P D vwCl (w1 u) t.heap) (va_A w0 sz)) 0 0 (va_A w0 sz)
def Cev {S : Type} (l : Launch) (y : MethodName) (ws : List Cond) (rm : Room) (D : va_G) (cI cZ : ClassId) (av : List Value) (w0 : va_W) (w1 : S → va_W) (post : S → Prop) : Prop := ∀ sz, Met l y ws rm (cp D cI cZ sz av w0) (va_Qv post (fun u t => va_P D vwCl (w1 u) t.heap) (va_A w0 sz)) 0 0 (va_A w0 sz)
def Cer {S : Type} (l : Launch) (y : MethodName) (ws : List Cond) (rm : Room) (D : va_G) (cI cZ : ClassId) (av : List Value) (w0 : va_W) (w1 : S → va_W) (post : S → Prop) (r : Nat) : Prop := ∀ sz, Met l y ws rm (cp D cI cZ sz av w0) (va_Qr post (fun u a t => a = r ∧ va_P D vwCl (w1 u) t.heap) (va_A w0 sz)) 0 0 (va_A w0 sz)
section BASEX
variable {S : Type} {p : Program} {l : Launch} {e : Env} {R : Room} {s : State} {m : MethodId} {args : Array Value} {below : List Frame} {meth : Method} {c : Code} {H : Heap} {locs : List Loc} {cells slots : Nat} {Q : State → Prop}
variable {cc : ByteArray} {pc : Nat} {ls : Array Slot} {rest : List Value} {D : va_G} {cI cZ : ClassId} {A : Nat → Prop} {ws : va_W}
theorem fin_ei {ty : FieldType} {v : Int32} {w2 : va_W} {w1 : S → va_W} {post : Int32 → S → Prop} (u : S) (hx : p.tables.exec = Jvm.exec) (hb : c.code = cc) (hr : meth.sig.returnType = some ty) (hlk : meth.locks = false) (hP : va_P D vwCl w2 H) (hS : va_S A s.heap H locs) (hn : narrow ty (.int v) = .int v) (hv : post v u) (hw : w2 = w1 u) (hQ : Q = MQ below (va_Qi post (fun u t => va_P D vwCl (w1 u) t.heap) A) args s 0 0 A) (hdg : decode cc pc = .ok (.ireturn, 1)) :
    W p l e R s m args below meth c H locs 0 0 Q (F0 m pc ls [.int v]) := by
  subst hw; subst hQ
  exact W.zret hx hb hr hn (fun t ht hW => ⟨⟨v, u, rfl, hv, by rw [← ht] at hP; exact hP⟩, hS.F ht⟩) hS.2.2 hdg hlk
theorem fin_ev {w2 : va_W} {w1 : S → va_W} {post : S → Prop} (u : S) (hx : p.tables.exec = Jvm.exec) (hb : c.code = cc) (hr : meth.sig.returnType = none) (hlk : meth.locks = false) (hP : va_P D vwCl w2 H) (hS : va_S A s.heap H locs) (hv : post u) (hw : w2 = w1 u) (hQ : Q = MQ below (va_Qv post (fun u t => va_P D vwCl (w1 u) t.heap) A) args s 0 0 A) (hdg : decode cc pc = .ok (.return_, 1)) :
    W p l e R s m args below meth c H locs 0 0 Q (F0 m pc ls []) := by
  subst hw; subst hQ
  exact W.vret hx hb hr (fun t ht hW => ⟨⟨u, rfl, hv, by rw [← ht] at hP; exact hP⟩, hS.F ht⟩) hS.2.2 hdg hlk
theorem fin_er {n : String} {v r : Nat} {w2 : va_W} {w1 : S → va_W} {post : S → Prop} (u : S) (hx : p.tables.exec = Jvm.exec) (hb : c.code = cc) (hr : meth.sig.returnType = some (.object n)) (hlk : meth.locks = false) (hP : va_P D vwCl w2 H) (hS : va_S A s.heap H locs) (hv : post u) (hvr : v = r) (hw : w2 = w1 u) (hQ : Q = MQ below (va_Qr post (fun u a t => a = r ∧ va_P D vwCl (w1 u) t.heap) A) args s 0 0 A) (hdg : decode cc pc = .ok (.areturn, 1)) :
    W p l e R s m args below meth c H locs 0 0 Q (F0 m pc ls [.ref v]) := by
  subst hw; subst hQ
  exact W.aret hx hb hr (Or.inl ⟨n, rfl⟩) (Or.inr ⟨v, rfl⟩) (fun t ht hW => ⟨⟨u, v, rfl, hv, hvr, by rw [← ht] at hP; exact hP⟩, hS.F ht⟩) hS.2.2 hdg hlk
variable {nL n : Nat} {Ts wl : List Cond} {own C : String} {y : MethodName} {bytes : ByteArray} {maxL index : Nat} {ret : Option FieldType} {rm : Room} {As st0 : List Value} {b : Nat} {w0 : va_W} {w1 ws' : S → va_W}
theorem call_Vei {post : Int32 → S → Prop} (hx : p.tables.exec = Jvm.exec) (hb : c.code = cc) (hml : c.maxLocals = nL) (hown : s.vm.findClass own = some m.cls) (hts : ∀ w ∈ Ts, w.before args s = true) (hN : nwAll s) (hM : Cei l y wl rm D cI cZ (.ref b :: As) w0 w1 post) (cw : CallW R s args own C index y bytes maxL ret wl rm 0 0 n)
    (hK : va_K D vwCl (ty2 cI cZ) s) (hP : va_P D vwCl ws H) (hD : va_D A ws) (hS : va_S A s.heap H locs) (hA : ∀ q, s.heap.size ≤ q → A q) (is : List Nat) (hC : is.map (fun i => ws[i]?) = w0.map some) (hl : ∀ u, (w1 u).map (·.1) = w0.map (·.1)) (he : ∀ u, va_ups ws is (w1 u) = ws' u) (hl2 : ∀ u, (ws' u).map (·.1) = ws.map (·.1)) (hn : va_nd is = true)
    {ci q0 : Nat} {fs : List Value} {q : vw_C} (hc : vwCl[ci]? = some q) (hq : ws[q0]? = some (b, .inr (ci, fs))) (hqC : q.1 = C) (hnn : As.length = n) (hsz : ls.size = nL) (hst : st0 = As.reverse ++ .ref b :: rest) (hroom : 2 * (F0 m pc ls rest).monitorRoom + (rest.map fun v => v.category).sum ≤ 8) (hdg : decode cc pc = .ok (.invokevirtual index, 3)) (hz1 : cells ≤ R.cells) (hz2 : slots ≤ R.slots)
    (kk : ∀ (x : Int32) (u : S), post x u → ∀ (H1 : Heap) (locs1 : List Loc), va_P D vwCl (ws' u) H1 → va_D A (ws' u) → va_S A s.heap H1 locs1 → W p l e R s m args below meth c H1 locs1 cells slots Q (F0 m (pc + 3) ls (.int x :: rest))) : W p l e R s m args below meth c H locs cells slots Q (F0 m pc ls st0) := by
  subst hst
  have hF := va_free hD hS hA is hC
  refine va_calli (va_runV (As := As) (rest := rest) ⟨hx, hb, hml, hown, hts⟩ (hM H.size) cw ⟨cp_blind, hqC ▸ va_recv hK hP hc hq, fun U hU hW => call_pre (av := .ref b :: As) hN hK hP hD is hC hn rfl U hU hW⟩ rfl hnn hsz rfl hroom hdg ⟨hz1, hz2⟩) hS (fun q _ h => hF q h) hF (fun x u t H1 locs1 ht hvm hw hB hz1 hk1 hS1 => ?_)
  subst ht
  exact kk x u hw _ _ (va_back hP hD is hC hn (hl u) hk1 hB (he u)) (hD.addr (hl2 u)) hS1
theorem call_Vev {post : S → Prop} (hx : p.tables.exec = Jvm.exec) (hb : c.code = cc) (hml : c.maxLocals = nL) (hown : s.vm.findClass own = some m.cls) (hts : ∀ w ∈ Ts, w.before args s = true) (hN : nwAll s) (hM : Cev l y wl rm D cI cZ (.ref b :: As) w0 w1 post) (cw : CallW R s args own C index y bytes maxL ret wl rm 0 0 n)
    (hK : va_K D vwCl (ty2 cI cZ) s) (hP : va_P D vwCl ws H) (hD : va_D A ws) (hS : va_S A s.heap H locs) (hA : ∀ q, s.heap.size ≤ q → A q) (is : List Nat) (hC : is.map (fun i => ws[i]?) = w0.map some) (hl : ∀ u, (w1 u).map (·.1) = w0.map (·.1)) (he : ∀ u, va_ups ws is (w1 u) = ws' u) (hl2 : ∀ u, (ws' u).map (·.1) = ws.map (·.1)) (hn : va_nd is = true)
    {ci q0 : Nat} {fs : List Value} {q : vw_C} (hc : vwCl[ci]? = some q) (hq : ws[q0]? = some (b, .inr (ci, fs))) (hqC : q.1 = C) (hnn : As.length = n) (hsz : ls.size = nL) (hst : st0 = As.reverse ++ .ref b :: rest) (hroom : 2 * (F0 m pc ls rest).monitorRoom + (rest.map fun v => v.category).sum ≤ 8) (hdg : decode cc pc = .ok (.invokevirtual index, 3)) (hz1 : cells ≤ R.cells) (hz2 : slots ≤ R.slots)
    (kk : ∀ (u : S), post u → ∀ (H1 : Heap) (locs1 : List Loc), va_P D vwCl (ws' u) H1 → va_D A (ws' u) → va_S A s.heap H1 locs1 → W p l e R s m args below meth c H1 locs1 cells slots Q (F0 m (pc + 3) ls rest)) : W p l e R s m args below meth c H locs cells slots Q (F0 m pc ls st0) := by
  subst hst
  have hF := va_free hD hS hA is hC
  refine va_callv (va_runV (As := As) (rest := rest) ⟨hx, hb, hml, hown, hts⟩ (hM H.size) cw ⟨cp_blind, hqC ▸ va_recv hK hP hc hq, fun U hU hW => call_pre (av := .ref b :: As) hN hK hP hD is hC hn rfl U hU hW⟩ rfl hnn hsz rfl hroom hdg ⟨hz1, hz2⟩) hS (fun q _ h => hF q h) hF (fun u t H1 locs1 ht hvm hw hB hz1 hk1 hS1 => ?_)
  subst ht
  exact kk u hw _ _ (va_back hP hD is hC hn (hl u) hk1 hB (he u)) (hD.addr (hl2 u)) hS1
theorem call_Ver {post : S → Prop} {ra : Nat} (hx : p.tables.exec = Jvm.exec) (hb : c.code = cc) (hml : c.maxLocals = nL) (hown : s.vm.findClass own = some m.cls) (hts : ∀ w ∈ Ts, w.before args s = true) (hN : nwAll s) (hM : Cer l y wl rm D cI cZ (.ref b :: As) w0 w1 post ra) (cw : CallW R s args own C index y bytes maxL ret wl rm 0 0 n)
    (hK : va_K D vwCl (ty2 cI cZ) s) (hP : va_P D vwCl ws H) (hD : va_D A ws) (hS : va_S A s.heap H locs) (hA : ∀ q, s.heap.size ≤ q → A q) (is : List Nat) (hC : is.map (fun i => ws[i]?) = w0.map some) (hl : ∀ u, (w1 u).map (·.1) = w0.map (·.1)) (he : ∀ u, va_ups ws is (w1 u) = ws' u) (hl2 : ∀ u, (ws' u).map (·.1) = ws.map (·.1)) (hn : va_nd is = true)
    {ci q0 : Nat} {fs : List Value} {q : vw_C} (hc : vwCl[ci]? = some q) (hq : ws[q0]? = some (b, .inr (ci, fs))) (hqC : q.1 = C) (hnn : As.length = n) (hsz : ls.size = nL) (hst : st0 = As.reverse ++ .ref b :: rest) (hroom : 2 * (F0 m pc ls rest).monitorRoom + (rest.map fun v => v.category).sum ≤ 8) (hdg : decode cc pc = .ok (.invokevirtual index, 3)) (hz1 : cells ≤ R.cells) (hz2 : slots ≤ R.slots)
    (kk : ∀ (u : S), post u → ∀ (H1 : Heap) (locs1 : List Loc), va_P D vwCl (ws' u) H1 → va_D A (ws' u) → va_S A s.heap H1 locs1 → W p l e R s m args below meth c H1 locs1 cells slots Q (F0 m (pc + 3) ls (.ref ra :: rest))) : W p l e R s m args below meth c H locs cells slots Q (F0 m pc ls st0) := by
  subst hst
  have hF := va_free hD hS hA is hC
  refine va_callr (va_runV (As := As) (rest := rest) ⟨hx, hb, hml, hown, hts⟩ (hM H.size) cw ⟨cp_blind, hqC ▸ va_recv hK hP hc hq, fun U hU hW => call_pre (av := .ref b :: As) hN hK hP hD is hC hn rfl U hU hW⟩ rfl hnn hsz rfl hroom hdg ⟨hz1, hz2⟩) hS (fun q _ h => hF q h) hF (fun u ra' t H1 locs1 ht hvm hw hB hz1 hk1 hS1 => ?_)
  subst ht
  obtain ⟨rfl, hB⟩ := hB
  exact kk u hw _ _ (va_back hP hD is hC hn (hl u) hk1 hB (he u)) (hD.addr (hl2 u)) hS1
theorem call_Sev {post : S → Prop} (hx : p.tables.exec = Jvm.exec) (hb : c.code = cc) (hml : c.maxLocals = nL) (hown : s.vm.findClass own = some m.cls) (hts : ∀ w ∈ Ts, w.before args s = true) (hN : nwAll s) (hM : Cev l y wl rm D cI cZ As w0 w1 post) (cw : CallB R s args own index y bytes maxL ret wl rm 0 0 n ∧ (Cond.static y).before args s = true)
    (hK : va_K D vwCl (ty2 cI cZ) s) (hP : va_P D vwCl ws H) (hD : va_D A ws) (hS : va_S A s.heap H locs) (hA : ∀ q, s.heap.size ≤ q → A q) (is : List Nat) (hC : is.map (fun i => ws[i]?) = w0.map some) (hl : ∀ u, (w1 u).map (·.1) = w0.map (·.1)) (he : ∀ u, va_ups ws is (w1 u) = ws' u) (hl2 : ∀ u, (ws' u).map (·.1) = ws.map (·.1)) (hn : va_nd is = true)
    (hnn : As.length = n) (hsz : ls.size = nL) (hst : st0 = As.reverse ++ rest) (hroom : 2 * (F0 m pc ls rest).monitorRoom + (rest.map fun v => v.category).sum ≤ 8) (hdg : decode cc pc = .ok (.invokestatic index, 3)) (hz1 : cells ≤ R.cells) (hz2 : slots ≤ R.slots)
    (kk : ∀ (u : S), post u → ∀ (H1 : Heap) (locs1 : List Loc), va_P D vwCl (ws' u) H1 → va_D A (ws' u) → va_S A s.heap H1 locs1 → W p l e R s m args below meth c H1 locs1 cells slots Q (F0 m (pc + 3) ls rest)) : W p l e R s m args below meth c H locs cells slots Q (F0 m pc ls st0) := by
  subst hst
  have hF := va_free hD hS hA is hC
  refine va_callv (va_runS (As := As) (rest := rest) ⟨hx, hb, hml, hown, hts⟩ (hM H.size) cw ⟨cp_blind, fun U hU hW => call_pre (av := As) hN hK hP hD is hC hn rfl U hU hW⟩ rfl hnn hsz rfl hroom hdg ⟨hz1, hz2⟩) hS (fun q _ h => hF q h) hF (fun u t H1 locs1 ht hvm hw hB hz1 hk1 hS1 => ?_)
  subst ht
  exact kk u hw _ _ (va_back hP hD is hC hn (hl u) hk1 hB (he u)) (hD.addr (hl2 u)) hS1
end BASEX
