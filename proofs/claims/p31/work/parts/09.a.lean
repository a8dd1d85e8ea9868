/-! rows for the methods of the law -/
theorem vaP_drop {D : va_G} {cl : List vw_C} {c0 : Nat × va_E} {ws : va_W} {H : Heap} (h : va_P D cl (c0 :: ws) H) : va_P D cl ws H := by
  rw [vaP_in] at h ⊢
  exact fun q hq => h q (List.mem_cons_of_mem _ hq)
theorem vaD_drop {A : Nat → Prop} {c0 : Nat × va_E} {ws : va_W} (h : va_D A (c0 :: ws)) : va_D A ws := vaD_mid (wa := [c0]) (wb := []) (by rw [List.append_nil]; exact h)
theorem vaP_rot {D : va_G} {cl : List vw_C} {c0 : Nat × va_E} {ws : va_W} {H : Heap} (h : va_P D cl (ws ++ [c0]) H) : va_P D cl (c0 :: ws) H := by
  rw [vaP_in] at h ⊢
  intro q hq
  rcases List.mem_cons.mp hq with rfl | hq
  · exact h _ (by simp)
  · exact h q (by simp [hq])
theorem vaD_rot {A : Nat → Prop} {c0 : Nat × va_E} {ws : va_W} (h : va_D A (ws ++ [c0])) : va_D A (c0 :: ws) := by
  have get : ∀ (k : Nat) (q : Nat × va_E), (c0 :: ws)[k]? = some q → (ws ++ [c0])[if k = 0 then ws.length else k - 1]? = some q := by
    intro k q hk
    cases k with
    | zero =>
      rw [if_pos rfl, List.getElem?_append_right (Nat.le_refl _), Nat.sub_self]
      exact hk
    | succ k =>
      rw [if_neg (by omega), Nat.add_sub_cancel]
      have hk : ws[k]? = some q := hk
      rw [List.getElem?_append_left (List.getElem?_eq_some_iff.mp hk).1]
      exact hk
  have lt : ∀ (k : Nat) (q : Nat × va_E), (c0 :: ws)[k]? = some q → k < ws.length + 1 := fun k q hk => (List.getElem?_eq_some_iff.mp hk).1
  refine ⟨fun i j x y hi hj hxy => ?_, fun k q hk => h.2 _ q (get k q hk)⟩
  have := h.1 _ _ x y (get i x hi) (get j y hj) hxy
  have a := lt i x hi
  have b := lt j y hj
  by_cases c : i = 0
  · by_cases d : j = 0
    · omega
    · rw [if_pos c, if_neg d] at this; omega
  · by_cases d : j = 0
    · rw [if_neg c, if_pos d] at this; omega
    · rw [if_neg c, if_neg d] at this; omega
theorem ad_app {c c' w w' : va_W} (hc : c'.map (·.1) = c.map (·.1)) (h : w'.map (·.1) = w.map (·.1)) : (c' ++ w').map (·.1) = (c ++ w).map (·.1) := by rw [List.map_append, List.map_append, hc, h]
theorem pop_ok : ∀ b : Nat, b < 8 → ((nI b &&& (1 : Int32)) + ((nI b >>> ((1 : Int32) &&& 31)) &&& (1 : Int32))) + (nI b >>> ((2 : Int32) &&& 31)) = nI (b % 2 + b / 2 % 2 + b / 4) := by decide
section LAWROWS
variable {p : Program} {l : Launch} {e : Env} {R : Room} {s : State} {m : MethodId} {args : Array Value} {below : List Frame} {meth : Method} {c : Code} {H : Heap} {locs : List Loc} {cells slots : Nat} {Q : State → Prop}
variable {cc : ByteArray} {pc : Nat} {ls : Array Slot} {rest : List Value} {D : va_G} {cI cZ : ClassId} {A : Nat → Prop} {ws : va_W}
variable {nL n : Nat} {own C : String} {y : MethodName} {bytes : ByteArray} {maxL index : Nat} {ret : Option FieldType} {rm : Room} {As st0 : List Value} {b mc ms : Nat} {wa w0 w1 : va_W} {r : Int32} {rf : UInt32} {hh : List (Nat × Nat × Nat × Nat)}
theorem n_irem (hx : p.tables.exec = Jvm.exec) (hb : c.code = cc) {x y : Nat} (h1 : x < 2 ^ 31) (h2 : 0 < y) (h3 : y < 2 ^ 31) (hdg : decode cc pc = .ok (.irem, 1)) (k : W p l e R s m args below meth c H locs cells slots Q (F0 m (pc + 1) ls (.int (nI (x % y)) :: rest))) : W p l e R s m args below meth c H locs cells slots Q (F0 m pc ls (.int (nI y) :: .int (nI x) :: rest)) :=
  lv_irem hx hb hdg (nI_ne0 h2 h3) (by rw [pk_rem h1 h2 h3]; exact k)
theorem call_Pi (hx : p.tables.exec = Jvm.exec) (hb : c.code = cc) (hml : c.maxLocals = nL) (hown : s.vm.findClass own = some m.cls) (hts : ∀ w ∈ AW, w.before args s = true) (hN : nwAll s) (hM : MSi l D cI cZ y bytes maxL ret (.ref b :: As) w0 w1 r) (k1 : Cond.methodLink own index y ∈ AW) (k2 : Cond.instanceMethod y ∈ AW) (k3 : Cond.selects RX9 y y ∈ AW) (k4 : Cond.initialized RX9 ∈ AW) (k5 : Cond.code y bytes maxL ret ∈ AW) (hd : y.cls = RX9 ∧ y.cls ≠ "java/lang/invoke/MethodHandle" ∧ y.cls ≠ "java/lang/invoke/VarHandle" ∧ (parseMethodDescriptor y.desc).map (fun d => d.parameters.length) = some n) (hR1 : 10 ≤ R.frames) (hR2 : 200 ≤ R.locals)
    (hK : va_K D vwCl (ty2 cI cZ) s) (hP : va_P D vwCl (wa ++ w0) H) (hD : va_D A (wa ++ w0)) (hS : va_S A s.heap H locs) (hA : ∀ q, s.heap.size ≤ q → A q) (hq : ∃ fs, w0[0]? = some (b, .inr (8, fs))) (hw : w1.map (·.1) = w0.map (·.1)) (hnn : As.length = n) (hsz : ls.size = nL) (hst : st0 = As.reverse ++ .ref b :: rest) (hroom : 2 * (F0 m pc ls rest).monitorRoom + (rest.map fun v => v.category).sum ≤ 8) (hdg : decode cc pc = .ok (.invokevirtual index, 3)) (hz1 : cells ≤ R.cells) (hz2 : slots ≤ R.slots)
    (kk : ∀ (H1 : Heap) (locs1 : List Loc), va_P D vwCl (wa ++ w1) H1 → va_D A (wa ++ w1) → va_S A s.heap H1 locs1 → W p l e R s m args below meth c H1 locs1 cells slots Q (F0 m (pc + 3) ls (.int r :: rest))) : W p l e R s m args below meth c H locs cells slots Q (F0 m pc ls st0) := by
  obtain ⟨rm, m1, m2, m3, m4, hM⟩ := hM
  have hP : va_P D vwCl (wa ++ (w0 ++ [])) H := by rw [List.append_nil]; exact hP
  have hD : va_D A (wa ++ (w0 ++ [])) := by rw [List.append_nil]; exact hD
  exact call_Ri (ci := 8) (Ts := AW) hx hb hml hown hts hN hM (cwVA n hts k1 k2 k3 k4 k5 hd (Nat.le_trans m1 hR1) (Nat.le_trans m2 hR2) m3 m4) hK hP hD hS hA hq hw rfl rfl hnn hsz hst hroom hdg hz1 hz2 (fun H1 locs1 hP1 hD1 hS1 => kk H1 locs1 (by rw [List.append_nil] at hP1; exact hP1) (by rw [List.append_nil] at hD1; exact hD1) hS1)
theorem call_Hi (hx : p.tables.exec = Jvm.exec) (hb : c.code = cc) (hml : c.maxLocals = nL) (hown : s.vm.findClass own = some m.cls) (hts : ∀ w ∈ AW, w.before args s = true) (hN : nwAll s) (hT : thr A s s.heap) (hNc : va_Nc "java/lang/IllegalStateException" "java/lang/IllegalArgumentException" s) (hM : HSi l D cI cZ y bytes maxL hh As w0 w1 r mc ms) (k1 : Cond.methodLink own index y ∈ AW) (k2 : Cond.static y ∈ AW) (k4 : Cond.initialized y.cls ∈ AW) (k5 : Cond.codeWith y bytes maxL (some .int) hh ∈ AW) (hd : y.cls = C ∧ y.cls ≠ "java/lang/invoke/MethodHandle" ∧ y.cls ≠ "java/lang/invoke/VarHandle" ∧ (parseMethodDescriptor y.desc).map (fun d => d.parameters.length) = some n) (hR1 : 10 ≤ R.frames) (hR2 : 200 ≤ R.locals)
    (hK : va_K D vwCl (ty2 cI cZ) s) (hP : va_P D vwCl (wa ++ w0) H) (hD : va_D A (wa ++ w0)) (hS : va_S A s.heap H locs) (hA : ∀ q, s.heap.size ≤ q → A q) (hw : w1.map (·.1) = w0.map (·.1)) (hnn : As.length = n) (hsz : ls.size = nL) (hst : st0 = As.reverse ++ rest) (hroom : 2 * (F0 m pc ls rest).monitorRoom + (rest.map fun v => v.category).sum ≤ 8) (hdg : decode cc pc = .ok (.invokestatic index, 3)) (hz1 : cells + mc ≤ R.cells) (hz2 : slots + ms ≤ R.slots)
    (kk : ∀ (H1 : Heap) (locs1 : List Loc), va_P D vwCl (wa ++ w1) H1 → va_D A (wa ++ w1) → va_S A s.heap H1 locs1 → W p l e R s m args below meth c H1 locs1 (cells + mc) (slots + ms) Q (F0 m (pc + 3) ls (.int r :: rest))) : W p l e R s m args below meth c H locs cells slots Q (F0 m pc ls st0) := by
  obtain ⟨rm, m1, m2, m3, m4, hM⟩ := hM
  have hP : va_P D vwCl (wa ++ (w0 ++ [])) H := by rw [List.append_nil]; exact hP
  have hD : va_D A (wa ++ (w0 ++ [])) := by rw [List.append_nil]; exact hD
  exact call_H (Ts := AW) hx hb hml hown hts hN hT hNc hM (cwSH n hts k1 k2 k4 k5 hd (Nat.le_trans m1 hR1) (Nat.le_trans m2 hR2) m3 m4) hK hP hD hS hA hw hnn hsz hst hroom hdg hz1 hz2 (fun H1 locs1 hP1 hD1 hS1 => kk H1 locs1 (by rw [List.append_nil] at hP1; exact hP1) (by rw [List.append_nil] at hD1; exact hD1) hS1)
theorem call_Hfi (hx : p.tables.exec = Jvm.exec) (hb : c.code = cc) (hml : c.maxLocals = nL) (hown : s.vm.findClass own = some m.cls) (hts : ∀ w ∈ AW, w.before args s = true) (hN : nwAll s) (hT : thr A s s.heap) (hNc : va_Nc "java/lang/IllegalStateException" "java/lang/IllegalArgumentException" s) (hM : HSf l D cI cZ y bytes maxL hh As w0 w1 rf mc ms) (k1 : Cond.methodLink own index y ∈ AW) (k2 : Cond.static y ∈ AW) (k4 : Cond.initialized y.cls ∈ AW) (k5 : Cond.codeWith y bytes maxL (some .float) hh ∈ AW) (hd : y.cls = C ∧ y.cls ≠ "java/lang/invoke/MethodHandle" ∧ y.cls ≠ "java/lang/invoke/VarHandle" ∧ (parseMethodDescriptor y.desc).map (fun d => d.parameters.length) = some n) (hR1 : 10 ≤ R.frames) (hR2 : 200 ≤ R.locals)
    (hK : va_K D vwCl (ty2 cI cZ) s) (hP : va_P D vwCl (wa ++ w0) H) (hD : va_D A (wa ++ w0)) (hS : va_S A s.heap H locs) (hA : ∀ q, s.heap.size ≤ q → A q) (hw : w1.map (·.1) = w0.map (·.1)) (hnn : As.length = n) (hsz : ls.size = nL) (hst : st0 = As.reverse ++ rest) (hroom : 2 * (F0 m pc ls rest).monitorRoom + (rest.map fun v => v.category).sum ≤ 8) (hdg : decode cc pc = .ok (.invokestatic index, 3)) (hz1 : cells + mc ≤ R.cells) (hz2 : slots + ms ≤ R.slots)
    (kk : ∀ (H1 : Heap) (locs1 : List Loc), va_P D vwCl (wa ++ w1) H1 → va_D A (wa ++ w1) → va_S A s.heap H1 locs1 → W p l e R s m args below meth c H1 locs1 (cells + mc) (slots + ms) Q (F0 m (pc + 3) ls (.float rf :: rest))) : W p l e R s m args below meth c H locs cells slots Q (F0 m pc ls st0) := by
  obtain ⟨rm, m1, m2, m3, m4, hM⟩ := hM
  have hP : va_P D vwCl (wa ++ (w0 ++ [])) H := by rw [List.append_nil]; exact hP
  have hD : va_D A (wa ++ (w0 ++ [])) := by rw [List.append_nil]; exact hD
  exact call_Hf (Ts := AW) hx hb hml hown hts hN hT hNc hM (cwSH n hts k1 k2 k4 k5 hd (Nat.le_trans m1 hR1) (Nat.le_trans m2 hR2) m3 m4) hK hP hD hS hA hw hnn hsz hst hroom hdg hz1 hz2 (fun H1 locs1 hP1 hD1 hS1 => kk H1 locs1 (by rw [List.append_nil] at hP1; exact hP1) (by rw [List.append_nil] at hD1; exact hD1) hS1)
theorem call_Zw {Z : Int32 → va_W → Prop} (hx : p.tables.exec = Jvm.exec) (hb : c.code = cc) (hml : c.maxLocals = nL) (hown : s.vm.findClass own = some m.cls) (hts : ∀ w ∈ AW, w.before args s = true) (hN : nwAll s) (hT : thr A s s.heap) (hNc : va_Nc "java/lang/IllegalStateException" "java/lang/IllegalArgumentException" s) (hM : Cz l y (aw y bytes maxL ret) rm D cI cZ As w0 Z mc ms) (k1 : Cond.methodLink own index y ∈ AW) (k2 : Cond.static y ∈ AW) (k4 : Cond.initialized y.cls ∈ AW) (k5 : Cond.code y bytes maxL ret ∈ AW) (hd : y.cls = C ∧ y.cls ≠ "java/lang/invoke/MethodHandle" ∧ y.cls ≠ "java/lang/invoke/VarHandle" ∧ (parseMethodDescriptor y.desc).map (fun d => d.parameters.length) = some n) (hR1 : rm.frames + 1 ≤ R.frames) (hR2 : 8 + (maxL + 11) + rm.locals ≤ R.locals) (m3 : rm.cells = mc) (m4 : rm.slots = ms)
    (hK : va_K D vwCl (ty2 cI cZ) s) (hP : va_P D vwCl (wa ++ w0) H) (hD : va_D A (wa ++ w0)) (hS : va_S A s.heap H locs) (hA : ∀ q, s.heap.size ≤ q → A q) (hnn : As.length = n) (hsz : ls.size = nL) (hst : st0 = As.reverse ++ rest) (hroom : 2 * (F0 m pc ls rest).monitorRoom + (rest.map fun v => v.category).sum ≤ 8) (hdg : decode cc pc = .ok (.invokestatic index, 3)) (hz1 : cells + mc ≤ R.cells) (hz2 : slots + ms ≤ R.slots)
    (kk : ∀ (x : Int32) (w1 : va_W) (H1 : Heap) (locs1 : List Loc), Z x w1 → w1.map (·.1) = w0.map (·.1) → va_P D vwCl (wa ++ w1) H1 → va_D A (wa ++ w1) → va_S A s.heap H1 locs1 → W p l e R s m args below meth c H1 locs1 (cells + mc) (slots + ms) Q (F0 m (pc + 3) ls (.int x :: rest))) : W p l e R s m args below meth c H locs cells slots Q (F0 m pc ls st0) := by
  have hP : va_P D vwCl (wa ++ (w0 ++ [])) H := by rw [List.append_nil]; exact hP
  have hD : va_D A (wa ++ (w0 ++ [])) := by rw [List.append_nil]; exact hD
  exact call_Z (Ts := AW) hx hb hml hown hts hN hT hNc hM (cwSAx n hts k1 k2 k4 k5 hd hR1 hR2 m3 m4) hK hP hD hS hA hnn hsz hst hroom hdg hz1 hz2 (fun x w1 H1 locs1 hz hw hP1 hD1 hS1 => kk x w1 H1 locs1 hz hw (by rw [List.append_nil] at hP1; exact hP1) (by rw [List.append_nil] at hD1; exact hD1) hS1)
end LAWROWS
/-- the law's own row of three: how many values, the penalty, how many marks -/
def GK (g : Nat → Int32) (n : Nat) (pn : Int32) (tm : Nat → Bool) : Prop := g 0 = nI n ∧ g 1 = pn ∧ g 2 = nI (cnL tm 120 0)
abbrev gC (cI : ClassId) (gq : Nat) (g : Nat → Int32) : Nat × va_E := (gq, .inl (cI, 3, .inl g))
/-- what the law keeps between two of its methods -/
def LI (cI cZ : ClassId) (q : Nat → Nat) (gq : Nat) (w : va_W) : Prop := ∃ (g : Nat → Int32) (v : Nat → Int32) (n : Nat) (pn : Int32) (al : AlS) (cs : CsS) (ph : PhS) (tm : Nat → Bool) (bx bg : CuS) (wb : va_W), w = [gC cI gq g] ++ wb ∧ PW cI cZ q v n pn al cs ph tm bx bg wb ∧ GK g n pn tm
theorem LI.ads {cI cZ : ClassId} {q : Nat → Nat} {gq : Nat} {w : va_W} (h : LI cI cZ q gq w) : w.map (·.1) = gq :: adB q := by
  obtain ⟨g, v, n, pn, al, cs, ph, tm, bx, bg, wb, rfl, hW, hG⟩ := h
  rw [List.map_append, hW.ads]
  rfl
