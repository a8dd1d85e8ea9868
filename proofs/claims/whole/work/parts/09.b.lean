/-! the law's calls, a case of its switch each -/
set_option maxHeartbeats 1000000 in
set_option maxRecDepth 100000 in
theorem lk_0 {p : Program} {l : Launch} {e : Env} {s : State} {m : MethodId} {below : List Frame} {meth : Method} {c : Code} {b L : Nat} {xs : Nat → Int32} {D : va_G} {cI cZ cJ cD : ClassId} (C : LwE p l s m meth c b L xs D cI cZ cJ cD) {Q : State → Prop} {q u : Nat → Nat} {qo qd i : Nat} {th : Int32} {f : Nat → Int64} {g : Nat → UInt64} {wb wm : va_W} {H : Heap} {locs : List Loc} {ls : Array Slot} (hst : LSt s D cI cZ cJ cD q u qo qd b i th f g wb wm H locs ls) (hi : i + 4 ≤ L) {cells slots : Nat} (hz1 : cells + 1 ≤ 601024) (hz2 : slots + 6 ≤ 7293034)
    (K : ∀ (th : Int32) (f : Nat → Int64) (g : Nat → UInt64) (wb wm : va_W) (H : Heap) (locs : List Loc) (ls : Array Slot), LSt s D cI cZ cJ cD q u qo qd b i th f g wb wm H locs ls → W p l e room_1 s m #[Value.ref b] below meth c H locs (cells + 1) (slots + 6) Q (F0 m 1431 ls [])) : W p l e room_1 s m #[Value.ref b] below meth c H locs cells slots Q (F0 m 172 ls []) := by
  obtain ⟨hx, hb, hr, hml, hown, hAW, hN, hT, hNc, hX, hbl, hlk, hK, hL, hl0⟩ := C
  obtain ⟨hR, hP, hD, hS, hl⟩ := hst
  have hA : ∀ q : Nat, s.heap.size ≤ q → (fun q : Nat => s.heap.size ≤ q) q := fun _ h => h
  have hbA : ¬ (fun q : Nat => s.heap.size ≤ q) b := Nat.not_le.mpr hbl
  have hK2 : va_K D vwCl (ty2 cI cZ) s := hK.sub [0, 1] rfl
  refine lv_aload_n hx hb dL_law_172 rfl (lv_at hl 2 rfl) ?_
  obtain ⟨wb1, wm1, r, ⟨rm, r1, r2, r3, r4, hH⟩, ⟨rn, n1, n2, n3, n4, hM⟩, hR1⟩ := st_clear l D cI cZ q u hR
  have a0 := hR.ads
  have a1 := hR1.ads
  have h0 := hR.heads
  have h1 := hR1.heads
  refine call_Ri (wa := [oD cD qd g, oJ cJ qo f]) (w0 := wb) (w1 := wb1) (wb := wm) (As := []) (rest := []) hx hb hml hown hAW hN hH (cwVA 0 hAW q308 q309 q310 q41 q311 hd_X9_clear r1 r2 r3 r4) hK2 hP hD hS hA h0.1 (by rw [a1.1, a0.1]) rfl rfl rfl hl.1 rfl (lv_room (Nat.le_of_ble_eq_true rfl)) dL_law_173 (by show cells ≤ 601024; omega) (by show slots ≤ 7293034; omega) (fun H locs hP hD hS => ?_)
  refine lv_aload_n hx hb dL_law_176 rfl (lv_at hl 3 rfl) ?_
  have hP : va_P D vwCl (([oD cD qd g, oJ cJ qo f] ++ wb1) ++ (wm ++ [])) H := by rw [List.append_nil]; exact hP
  have hD : va_D (fun q : Nat => s.heap.size ≤ q) (([oD cD qd g, oJ cJ qo f] ++ wb1) ++ (wm ++ [])) := by rw [List.append_nil]; exact hD
  refine call_Ri (wa := ([oD cD qd g, oJ cJ qo f] ++ wb1)) (w0 := wm) (w1 := wm1) (wb := []) (As := []) (rest := [.int r]) hx hb hml hown hAW hN hM (cwVA 0 hAW q899 q900 q901 q50 q902 hd_X10_clear n1 n2 n3 n4) hK2 hP hD hS hA h0.2 (by rw [a1.2, a0.2]) rfl rfl rfl hl.1 rfl (lv_room (Nat.le_of_ble_eq_true rfl)) dL_law_177 (by show cells ≤ 601024; omega) (by show slots ≤ 7293034; omega) (fun H locs hP hD hS => ?_)
  rw [List.append_nil] at hP hD
  have hP : va_P D vwCl ([oD cD qd g, oJ cJ qo f] ++ (wb1 ++ wm1)) H := hP
  have hD : va_D (fun q : Nat => s.heap.size ≤ q) ([oD cD qd g, oJ cJ qo f] ++ (wb1 ++ wm1)) := hD
  refine lv_icmp_eq (tgt := 1431) hx hb dL_law_180 (by decide) (fun _ => ?_) (fun c9 => absurd rfl c9)
  refine W.widen (k := cells + 1) (n := slots + 6) (by omega) (by omega) ?_
  exact K _ _ _ _ _ _ _ _ ⟨hR1, hP, hD, hS, lv_sub hl [0, 1, 2, 3, 4, 5] rfl⟩
set_option maxHeartbeats 1000000 in
set_option maxRecDepth 100000 in
theorem lk_1 {p : Program} {l : Launch} {e : Env} {s : State} {m : MethodId} {below : List Frame} {meth : Method} {c : Code} {b L : Nat} {xs : Nat → Int32} {D : va_G} {cI cZ cJ cD : ClassId} (C : LwE p l s m meth c b L xs D cI cZ cJ cD) {Q : State → Prop} {q u : Nat → Nat} {qo qd i : Nat} {th : Int32} {f : Nat → Int64} {g : Nat → UInt64} {wb wm : va_W} {H : Heap} {locs : List Loc} {ls : Array Slot} (hst : LSt s D cI cZ cJ cD q u qo qd b i th f g wb wm H locs ls) (hi : i + 4 ≤ L) {cells slots : Nat} (hz1 : cells + 1 ≤ 601024) (hz2 : slots + 6 ≤ 7293034)
    (K : ∀ (th : Int32) (f : Nat → Int64) (g : Nat → UInt64) (wb wm : va_W) (H : Heap) (locs : List Loc) (ls : Array Slot), LSt s D cI cZ cJ cD q u qo qd b i th f g wb wm H locs ls → W p l e room_1 s m #[Value.ref b] below meth c H locs (cells + 1) (slots + 6) Q (F0 m 1431 ls [])) : W p l e room_1 s m #[Value.ref b] below meth c H locs cells slots Q (F0 m 185 ls []) := by
  obtain ⟨hx, hb, hr, hml, hown, hAW, hN, hT, hNc, hX, hbl, hlk, hK, hL, hl0⟩ := C
  obtain ⟨hR, hP, hD, hS, hl⟩ := hst
  have hA : ∀ q : Nat, s.heap.size ≤ q → (fun q : Nat => s.heap.size ≤ q) q := fun _ h => h
  have hbA : ¬ (fun q : Nat => s.heap.size ≤ q) b := Nat.not_le.mpr hbl
  have hK2 : va_K D vwCl (ty2 cI cZ) s := hK.sub [0, 1] rfl
  refine lv_aload_n hx hb dL_law_185 rfl (lv_at hl 2 rfl) ?_
  refine lv_aload_n hx hb dL_law_186 rfl (lv_at hl 1 rfl) ?_
  refine lv_iload hx hb dL_law_187 (lv_at hl 0 rfl) ?_
  refine lv_iconst (v := 1) hx hb dL_law_189 (by decide) ?_
  refine n_iadd (x := i) (y := 1) hx hb dL_law_190 ?_
  refine va_sld hx hb hX hbl hbA hS (vp_in_nI (show i + 1 < L by omega) (by omega)) dL_law_191 ?_
  refine lv_aload_n hx hb dL_law_192 rfl (lv_at hl 1 rfl) ?_
  refine lv_iload hx hb dL_law_193 (lv_at hl 0 rfl) ?_
  refine lv_iconst (v := 2) hx hb dL_law_195 (by decide) ?_
  refine n_iadd (x := i) (y := 2) hx hb dL_law_196 ?_
  refine va_sld hx hb hX hbl hbA hS (vp_in_nI (show i + 2 < L by omega) (by omega)) dL_law_197 ?_
  refine lv_aload_n hx hb dL_law_198 rfl (lv_at hl 1 rfl) ?_
  refine lv_iload hx hb dL_law_199 (lv_at hl 0 rfl) ?_
  refine lv_iconst (v := 3) hx hb dL_law_201 (by decide) ?_
  refine n_iadd (x := i) (y := 3) hx hb dL_law_202 ?_
  refine va_sld hx hb hX hbl hbA hS (vp_in_nI (show i + 3 < L by omega) (by omega)) dL_law_203 ?_
  obtain ⟨wb1, wm1, k, ⟨rm, mc, ms, r1, r2, r3, r4, r5, r6, hH⟩, ⟨rn, n1, n2, n3, n4, hM⟩, hR1⟩ := st_setSums l hl0 D cI cZ cJ cD q u hR (xs (nI (i + 1)).toNatClampNeg) (xs (nI (i + 2)).toNatClampNeg) (xs (nI (i + 3)).toNatClampNeg)
  have a0 := hR.ads
  have a1 := hR1.ads
  have h0 := hR.heads
  have h1 := hR1.heads
  have hP : va_P D vwCl ([oD cD qd g, oJ cJ qo f] ++ (([] ++ wb) ++ wm)) H := hP
  have hD : va_D (fun q : Nat => s.heap.size ≤ q) ([oD cD qd g, oJ cJ qo f] ++ (([] ++ wb) ++ wm)) := hD
  refine call_H (wa := [oD cD qd g, oJ cJ qo f]) (w0 := ([] ++ wb)) (w1 := ([] ++ wb1)) (wb := wm) (As := [.ref (q 0), .int (xs (nI (i + 1)).toNatClampNeg), .int (xs (nI (i + 2)).toNatClampNeg), .int (xs (nI (i + 3)).toNatClampNeg)]) (rest := []) hx hb hml hown hAW hN hT hNc hH (cwSH 4 hAW q436 q437 q40 qw_setSums hdL_setSums r1 r2 r3 r4) hK hP hD hS hA (by rw [List.map_append, List.map_append, a1.1, a0.1]) rfl hl.1 rfl (lv_room (Nat.le_of_ble_eq_true rfl)) dL_law_204 (by show cells + mc ≤ 601024; omega) (by show slots + ms ≤ 7293034; omega) (fun H locs hP hD hS => ?_)
  refine W.widen (k := cells + 1) (n := slots + 6) (by omega) (by omega) ?_
  have hP : va_P D vwCl ([oD cD qd g, oJ cJ qo f] ++ (wb1 ++ wm)) H := hP
  have hD : va_D (fun q : Nat => s.heap.size ≤ q) ([oD cD qd g, oJ cJ qo f] ++ (wb1 ++ wm)) := hD
  refine lv_istore (lv' := [(6, .int k), (5, .int (nI i)), (0, .ref b), (1, .ref (q 0)), (2, .ref (u 0)), (3, .ref qo), (4, .ref qd)]) hx hb dL_law_207 hl (by decide) rfl (fun ls hl => ?_)
  refine lv_aload_n hx hb dL_law_209 rfl (lv_at hl 4 rfl) ?_
  refine lv_aload_n hx hb dL_law_210 rfl (lv_at hl 2 rfl) ?_
  refine lv_iload hx hb dL_law_211 (lv_at hl 1 rfl) ?_
  refine lv_iconst (v := 1) hx hb dL_law_213 (by decide) ?_
  refine n_iadd (x := i) (y := 1) hx hb dL_law_214 ?_
  refine va_sld hx hb hX hbl hbA hS (vp_in_nI (show i + 1 < L by omega) (by omega)) dL_law_215 ?_
  refine lv_aload_n hx hb dL_law_216 rfl (lv_at hl 2 rfl) ?_
  refine lv_iload hx hb dL_law_217 (lv_at hl 1 rfl) ?_
  refine lv_iconst (v := 2) hx hb dL_law_219 (by decide) ?_
  refine n_iadd (x := i) (y := 2) hx hb dL_law_220 ?_
  refine va_sld hx hb hX hbl hbA hS (vp_in_nI (show i + 2 < L by omega) (by omega)) dL_law_221 ?_
  refine lv_aload_n hx hb dL_law_222 rfl (lv_at hl 2 rfl) ?_
  refine lv_iload hx hb dL_law_223 (lv_at hl 1 rfl) ?_
  refine lv_iconst (v := 3) hx hb dL_law_225 (by decide) ?_
  refine n_iadd (x := i) (y := 3) hx hb dL_law_226 ?_
  refine va_sld hx hb hX hbl hbA hS (vp_in_nI (show i + 3 < L by omega) (by omega)) dL_law_227 ?_
  have hP : va_P D vwCl (([oD cD qd g, oJ cJ qo f] ++ wb1) ++ (wm ++ [])) H := by rw [List.append_nil]; exact hP
  have hD : va_D (fun q : Nat => s.heap.size ≤ q) (([oD cD qd g, oJ cJ qo f] ++ wb1) ++ (wm ++ [])) := by rw [List.append_nil]; exact hD
  refine call_Rv (wa := ([oD cD qd g, oJ cJ qo f] ++ wb1)) (w0 := wm) (w1 := wm1) (wb := []) (As := [.int (xs (nI (i + 1)).toNatClampNeg), .int (xs (nI (i + 2)).toNatClampNeg), .int (xs (nI (i + 3)).toNatClampNeg)]) (rest := []) hx hb hml hown hAW hN hM (cwVA 3 hAW q911 q912 q913 q50 q914 hd_X10_setSums n1 n2 n3 n4) hK2 hP hD hS hA h0.2 (by rw [a1.2, a0.2]) rfl rfl rfl hl.1 rfl (lv_room (Nat.le_of_ble_eq_true rfl)) dL_law_228 (by show cells + 1 ≤ 601024; omega) (by show slots + 6 ≤ 7293034; omega) (fun H locs hP hD hS => ?_)
  rw [List.append_nil] at hP hD
  have hP : va_P D vwCl ([oD cD qd g, oJ cJ qo f] ++ (wb1 ++ wm1)) H := hP
  have hD : va_D (fun q : Nat => s.heap.size ≤ q) ([oD cD qd g, oJ cJ qo f] ++ (wb1 ++ wm1)) := hD
  refine lv_aload_n hx hb dL_law_231 rfl (lv_at hl 4 rfl) ?_
  obtain ⟨rt, t1, t2, t3, t4, hTh⟩ := st_thrown l D cI cZ q u hR1
  have hP : va_P D vwCl (([oD cD qd g, oJ cJ qo f] ++ wb1) ++ (wm1 ++ [])) H := by rw [List.append_nil]; exact hP
  have hD : va_D (fun q : Nat => s.heap.size ≤ q) (([oD cD qd g, oJ cJ qo f] ++ wb1) ++ (wm1 ++ [])) := by rw [List.append_nil]; exact hD
  refine call_Ri (wa := ([oD cD qd g, oJ cJ qo f] ++ wb1)) (w0 := wm1) (w1 := wm1) (wb := []) (As := []) (rest := []) hx hb hml hown hAW hN hTh (cwVA 0 hAW q895 q896 q897 q50 q898 hd_X10_thrown t1 t2 t3 t4) hK2 hP hD hS hA h1.2 rfl rfl rfl rfl hl.1 rfl (lv_room (Nat.le_of_ble_eq_true rfl)) dL_law_232 (by show cells + 1 ≤ 601024; omega) (by show slots + 6 ≤ 7293034; omega) (fun H locs hP hD hS => ?_)
  rw [List.append_nil] at hP hD
  have hP : va_P D vwCl ([oD cD qd g, oJ cJ qo f] ++ (wb1 ++ wm1)) H := hP
  have hD : va_D (fun q : Nat => s.heap.size ≤ q) ([oD cD qd g, oJ cJ qo f] ++ (wb1 ++ wm1)) := hD
  refine lv_iload hx hb dL_law_235 (lv_at hl 0 rfl) ?_
  refine lv_icmp_eq (tgt := 242) hx hb dL_law_237 (by decide) (fun _ => ?_) (fun c9 => absurd rfl c9)
  refine lv_goto (tgt := 1431) hx hb dL_law_242 (by decide) ?_
  exact K _ _ _ _ _ _ _ _ ⟨hR1, hP, hD, hS, lv_sub hl [1, 2, 3, 4, 5, 6] rfl⟩
set_option maxHeartbeats 1000000 in
set_option maxRecDepth 100000 in
theorem lk_2 {p : Program} {l : Launch} {e : Env} {s : State} {m : MethodId} {below : List Frame} {meth : Method} {c : Code} {b L : Nat} {xs : Nat → Int32} {D : va_G} {cI cZ cJ cD : ClassId} (C : LwE p l s m meth c b L xs D cI cZ cJ cD) {Q : State → Prop} {q u : Nat → Nat} {qo qd i : Nat} {th : Int32} {f : Nat → Int64} {g : Nat → UInt64} {wb wm : va_W} {H : Heap} {locs : List Loc} {ls : Array Slot} (hst : LSt s D cI cZ cJ cD q u qo qd b i th f g wb wm H locs ls) (hi : i + 4 ≤ L) {cells slots : Nat} (hz1 : cells + 1 ≤ 601024) (hz2 : slots + 6 ≤ 7293034)
    (K : ∀ (th : Int32) (f : Nat → Int64) (g : Nat → UInt64) (wb wm : va_W) (H : Heap) (locs : List Loc) (ls : Array Slot), LSt s D cI cZ cJ cD q u qo qd b i th f g wb wm H locs ls → W p l e room_1 s m #[Value.ref b] below meth c H locs (cells + 1) (slots + 6) Q (F0 m 1431 ls [])) : W p l e room_1 s m #[Value.ref b] below meth c H locs cells slots Q (F0 m 245 ls []) := by
  obtain ⟨hx, hb, hr, hml, hown, hAW, hN, hT, hNc, hX, hbl, hlk, hK, hL, hl0⟩ := C
  obtain ⟨hR, hP, hD, hS, hl⟩ := hst
  have hA : ∀ q : Nat, s.heap.size ≤ q → (fun q : Nat => s.heap.size ≤ q) q := fun _ h => h
  have hbA : ¬ (fun q : Nat => s.heap.size ≤ q) b := Nat.not_le.mpr hbl
  have hK2 : va_K D vwCl (ty2 cI cZ) s := hK.sub [0, 1] rfl
  refine lv_aload_n hx hb dL_law_245 rfl (lv_at hl 2 rfl) ?_
  refine lv_aload_n hx hb dL_law_246 rfl (lv_at hl 1 rfl) ?_
  refine lv_iload hx hb dL_law_247 (lv_at hl 0 rfl) ?_
  refine lv_iconst (v := 1) hx hb dL_law_249 (by decide) ?_
  refine n_iadd (x := i) (y := 1) hx hb dL_law_250 ?_
  refine va_sld hx hb hX hbl hbA hS (vp_in_nI (show i + 1 < L by omega) (by omega)) dL_law_251 ?_
  refine lv_aload_n hx hb dL_law_252 rfl (lv_at hl 1 rfl) ?_
  refine lv_iload hx hb dL_law_253 (lv_at hl 0 rfl) ?_
  refine lv_iconst (v := 2) hx hb dL_law_255 (by decide) ?_
  refine n_iadd (x := i) (y := 2) hx hb dL_law_256 ?_
  refine va_sld hx hb hX hbl hbA hS (vp_in_nI (show i + 2 < L by omega) (by omega)) dL_law_257 ?_
  refine lv_aload_n hx hb dL_law_258 rfl (lv_at hl 1 rfl) ?_
  refine lv_iload hx hb dL_law_259 (lv_at hl 0 rfl) ?_
  refine lv_iconst (v := 3) hx hb dL_law_261 (by decide) ?_
  refine n_iadd (x := i) (y := 3) hx hb dL_law_262 ?_
  refine va_sld hx hb hX hbl hbA hS (vp_in_nI (show i + 3 < L by omega) (by omega)) dL_law_263 ?_
  obtain ⟨wb1, wm1, k, ⟨rm, mc, ms, r1, r2, r3, r4, r5, r6, hH⟩, ⟨rn, n1, n2, n3, n4, hM⟩, hR1⟩ := st_setTest l hl0 D cI cZ cJ cD q u hR (xs (nI (i + 1)).toNatClampNeg) (xs (nI (i + 2)).toNatClampNeg) (xs (nI (i + 3)).toNatClampNeg)
  have a0 := hR.ads
  have a1 := hR1.ads
  have h0 := hR.heads
  have h1 := hR1.heads
  have hP : va_P D vwCl ([oD cD qd g, oJ cJ qo f] ++ (([] ++ wb) ++ wm)) H := hP
  have hD : va_D (fun q : Nat => s.heap.size ≤ q) ([oD cD qd g, oJ cJ qo f] ++ (([] ++ wb) ++ wm)) := hD
  refine call_H (wa := [oD cD qd g, oJ cJ qo f]) (w0 := ([] ++ wb)) (w1 := ([] ++ wb1)) (wb := wm) (As := [.ref (q 0), .int (xs (nI (i + 1)).toNatClampNeg), .int (xs (nI (i + 2)).toNatClampNeg), .int (xs (nI (i + 3)).toNatClampNeg)]) (rest := []) hx hb hml hown hAW hN hT hNc hH (cwSH 4 hAW q523 q524 q40 qw_setTest hdL_setTest r1 r2 r3 r4) hK hP hD hS hA (by rw [List.map_append, List.map_append, a1.1, a0.1]) rfl hl.1 rfl (lv_room (Nat.le_of_ble_eq_true rfl)) dL_law_264 (by show cells + mc ≤ 601024; omega) (by show slots + ms ≤ 7293034; omega) (fun H locs hP hD hS => ?_)
  refine W.widen (k := cells + 1) (n := slots + 6) (by omega) (by omega) ?_
  have hP : va_P D vwCl ([oD cD qd g, oJ cJ qo f] ++ (wb1 ++ wm)) H := hP
  have hD : va_D (fun q : Nat => s.heap.size ≤ q) ([oD cD qd g, oJ cJ qo f] ++ (wb1 ++ wm)) := hD
  refine lv_istore (lv' := [(6, .int k), (5, .int (nI i)), (0, .ref b), (1, .ref (q 0)), (2, .ref (u 0)), (3, .ref qo), (4, .ref qd)]) hx hb dL_law_267 hl (by decide) rfl (fun ls hl => ?_)
  refine lv_aload_n hx hb dL_law_269 rfl (lv_at hl 4 rfl) ?_
  refine lv_aload_n hx hb dL_law_270 rfl (lv_at hl 2 rfl) ?_
  refine lv_iload hx hb dL_law_271 (lv_at hl 1 rfl) ?_
  refine lv_iconst (v := 1) hx hb dL_law_273 (by decide) ?_
  refine n_iadd (x := i) (y := 1) hx hb dL_law_274 ?_
  refine va_sld hx hb hX hbl hbA hS (vp_in_nI (show i + 1 < L by omega) (by omega)) dL_law_275 ?_
  refine lv_aload_n hx hb dL_law_276 rfl (lv_at hl 2 rfl) ?_
  refine lv_iload hx hb dL_law_277 (lv_at hl 1 rfl) ?_
  refine lv_iconst (v := 2) hx hb dL_law_279 (by decide) ?_
  refine n_iadd (x := i) (y := 2) hx hb dL_law_280 ?_
  refine va_sld hx hb hX hbl hbA hS (vp_in_nI (show i + 2 < L by omega) (by omega)) dL_law_281 ?_
  refine lv_aload_n hx hb dL_law_282 rfl (lv_at hl 2 rfl) ?_
  refine lv_iload hx hb dL_law_283 (lv_at hl 1 rfl) ?_
  refine lv_iconst (v := 3) hx hb dL_law_285 (by decide) ?_
  refine n_iadd (x := i) (y := 3) hx hb dL_law_286 ?_
  refine va_sld hx hb hX hbl hbA hS (vp_in_nI (show i + 3 < L by omega) (by omega)) dL_law_287 ?_
  have hP : va_P D vwCl (([oD cD qd g, oJ cJ qo f] ++ wb1) ++ (wm ++ [])) H := by rw [List.append_nil]; exact hP
  have hD : va_D (fun q : Nat => s.heap.size ≤ q) (([oD cD qd g, oJ cJ qo f] ++ wb1) ++ (wm ++ [])) := by rw [List.append_nil]; exact hD
  refine call_Rv (wa := ([oD cD qd g, oJ cJ qo f] ++ wb1)) (w0 := wm) (w1 := wm1) (wb := []) (As := [.int (xs (nI (i + 1)).toNatClampNeg), .int (xs (nI (i + 2)).toNatClampNeg), .int (xs (nI (i + 3)).toNatClampNeg)]) (rest := []) hx hb hml hown hAW hN hM (cwVA 3 hAW q923 q924 q925 q50 q926 hd_X10_setTest n1 n2 n3 n4) hK2 hP hD hS hA h0.2 (by rw [a1.2, a0.2]) rfl rfl rfl hl.1 rfl (lv_room (Nat.le_of_ble_eq_true rfl)) dL_law_288 (by show cells + 1 ≤ 601024; omega) (by show slots + 6 ≤ 7293034; omega) (fun H locs hP hD hS => ?_)
  rw [List.append_nil] at hP hD
  have hP : va_P D vwCl ([oD cD qd g, oJ cJ qo f] ++ (wb1 ++ wm1)) H := hP
  have hD : va_D (fun q : Nat => s.heap.size ≤ q) ([oD cD qd g, oJ cJ qo f] ++ (wb1 ++ wm1)) := hD
  refine lv_aload_n hx hb dL_law_291 rfl (lv_at hl 4 rfl) ?_
  obtain ⟨rt, t1, t2, t3, t4, hTh⟩ := st_thrown l D cI cZ q u hR1
  have hP : va_P D vwCl (([oD cD qd g, oJ cJ qo f] ++ wb1) ++ (wm1 ++ [])) H := by rw [List.append_nil]; exact hP
  have hD : va_D (fun q : Nat => s.heap.size ≤ q) (([oD cD qd g, oJ cJ qo f] ++ wb1) ++ (wm1 ++ [])) := by rw [List.append_nil]; exact hD
  refine call_Ri (wa := ([oD cD qd g, oJ cJ qo f] ++ wb1)) (w0 := wm1) (w1 := wm1) (wb := []) (As := []) (rest := []) hx hb hml hown hAW hN hTh (cwVA 0 hAW q895 q896 q897 q50 q898 hd_X10_thrown t1 t2 t3 t4) hK2 hP hD hS hA h1.2 rfl rfl rfl rfl hl.1 rfl (lv_room (Nat.le_of_ble_eq_true rfl)) dL_law_292 (by show cells + 1 ≤ 601024; omega) (by show slots + 6 ≤ 7293034; omega) (fun H locs hP hD hS => ?_)
  rw [List.append_nil] at hP hD
  have hP : va_P D vwCl ([oD cD qd g, oJ cJ qo f] ++ (wb1 ++ wm1)) H := hP
  have hD : va_D (fun q : Nat => s.heap.size ≤ q) ([oD cD qd g, oJ cJ qo f] ++ (wb1 ++ wm1)) := hD
  refine lv_iload hx hb dL_law_295 (lv_at hl 0 rfl) ?_
  refine lv_icmp_eq (tgt := 302) hx hb dL_law_297 (by decide) (fun _ => ?_) (fun c9 => absurd rfl c9)
  refine lv_goto (tgt := 1431) hx hb dL_law_302 (by decide) ?_
  exact K _ _ _ _ _ _ _ _ ⟨hR1, hP, hD, hS, lv_sub hl [1, 2, 3, 4, 5, 6] rfl⟩
set_option maxHeartbeats 1000000 in
set_option maxRecDepth 100000 in
theorem lk_3 {p : Program} {l : Launch} {e : Env} {s : State} {m : MethodId} {below : List Frame} {meth : Method} {c : Code} {b L : Nat} {xs : Nat → Int32} {D : va_G} {cI cZ cJ cD : ClassId} (C : LwE p l s m meth c b L xs D cI cZ cJ cD) {Q : State → Prop} {q u : Nat → Nat} {qo qd i : Nat} {th : Int32} {f : Nat → Int64} {g : Nat → UInt64} {wb wm : va_W} {H : Heap} {locs : List Loc} {ls : Array Slot} (hst : LSt s D cI cZ cJ cD q u qo qd b i th f g wb wm H locs ls) (hi : i + 4 ≤ L) {cells slots : Nat} (hz1 : cells + 1 ≤ 601024) (hz2 : slots + 6 ≤ 7293034)
    (K : ∀ (th : Int32) (f : Nat → Int64) (g : Nat → UInt64) (wb wm : va_W) (H : Heap) (locs : List Loc) (ls : Array Slot), LSt s D cI cZ cJ cD q u qo qd b i th f g wb wm H locs ls → W p l e room_1 s m #[Value.ref b] below meth c H locs (cells + 1) (slots + 6) Q (F0 m 1431 ls [])) : W p l e room_1 s m #[Value.ref b] below meth c H locs cells slots Q (F0 m 305 ls []) := by
  obtain ⟨hx, hb, hr, hml, hown, hAW, hN, hT, hNc, hX, hbl, hlk, hK, hL, hl0⟩ := C
  obtain ⟨hR, hP, hD, hS, hl⟩ := hst
  have hA : ∀ q : Nat, s.heap.size ≤ q → (fun q : Nat => s.heap.size ≤ q) q := fun _ h => h
  have hbA : ¬ (fun q : Nat => s.heap.size ≤ q) b := Nat.not_le.mpr hbl
  have hK2 : va_K D vwCl (ty2 cI cZ) s := hK.sub [0, 1] rfl
  refine lv_aload_n hx hb dL_law_305 rfl (lv_at hl 2 rfl) ?_
  refine lv_aload_n hx hb dL_law_306 rfl (lv_at hl 1 rfl) ?_
  refine lv_iload hx hb dL_law_307 (lv_at hl 0 rfl) ?_
  refine lv_iconst (v := 1) hx hb dL_law_309 (by decide) ?_
  refine n_iadd (x := i) (y := 1) hx hb dL_law_310 ?_
  refine va_sld hx hb hX hbl hbA hS (vp_in_nI (show i + 1 < L by omega) (by omega)) dL_law_311 ?_
  refine lv_aload_n hx hb dL_law_312 rfl (lv_at hl 4 rfl) ?_
  obtain ⟨wb1, wm1, f1, k, r, ⟨rm, mc, ms, r1, r2, r3, r4, r5, r6, hH⟩, ⟨rn, n1, n2, n3, n4, hM⟩, hR1, hout⟩ := st_setPenalty l hl0 D cI cZ cJ cD q u hR qo f (xs (nI (i + 1)).toNatClampNeg)
  have a0 := hR.ads
  have a1 := hR1.ads
  have h0 := hR.heads
  have h1 := hR1.heads
  have hP : va_P D vwCl ([oD cD qd g] ++ (([oJ cJ qo f] ++ wb) ++ wm)) H := hP
  have hD : va_D (fun q : Nat => s.heap.size ≤ q) ([oD cD qd g] ++ (([oJ cJ qo f] ++ wb) ++ wm)) := hD
  refine call_H (wa := [oD cD qd g]) (w0 := ([oJ cJ qo f] ++ wb)) (w1 := ([oJ cJ qo f1] ++ wb1)) (wb := wm) (As := [.ref (q 0), .int (xs (nI (i + 1)).toNatClampNeg), .ref qo]) (rest := []) hx hb hml hown hAW hN hT hNc hH (cwSH 3 hAW q531 q532 q40 qw_setPenalty hdL_setPenalty r1 r2 r3 r4) hK hP hD hS hA (by rw [List.map_append, List.map_append, a1.1, a0.1]; rfl) rfl hl.1 rfl (lv_room (Nat.le_of_ble_eq_true rfl)) dL_law_313 (by show cells + mc ≤ 601024; omega) (by show slots + ms ≤ 7293034; omega) (fun H locs hP hD hS => ?_)
  refine W.widen (k := cells + 1) (n := slots + 6) (by omega) (by omega) ?_
  have hP : va_P D vwCl ([oD cD qd g, oJ cJ qo f1] ++ (wb1 ++ wm)) H := hP
  have hD : va_D (fun q : Nat => s.heap.size ≤ q) ([oD cD qd g, oJ cJ qo f1] ++ (wb1 ++ wm)) := hD
  refine lv_istore (lv' := [(6, .int k), (5, .int (nI i)), (0, .ref b), (1, .ref (q 0)), (2, .ref (u 0)), (3, .ref qo), (4, .ref qd)]) hx hb dL_law_316 hl (by decide) rfl (fun ls hl => ?_)
  refine lv_aload_n hx hb dL_law_318 rfl (lv_at hl 4 rfl) ?_
  refine lv_aload_n hx hb dL_law_319 rfl (lv_at hl 2 rfl) ?_
  refine lv_iload hx hb dL_law_320 (lv_at hl 1 rfl) ?_
  refine lv_iconst (v := 1) hx hb dL_law_322 (by decide) ?_
  refine n_iadd (x := i) (y := 1) hx hb dL_law_323 ?_
  refine va_sld hx hb hX hbl hbA hS (vp_in_nI (show i + 1 < L by omega) (by omega)) dL_law_324 ?_
  have hP : va_P D vwCl (([oD cD qd g, oJ cJ qo f1] ++ wb1) ++ (wm ++ [])) H := by rw [List.append_nil]; exact hP
  have hD : va_D (fun q : Nat => s.heap.size ≤ q) (([oD cD qd g, oJ cJ qo f1] ++ wb1) ++ (wm ++ [])) := by rw [List.append_nil]; exact hD
  refine call_Ri (wa := ([oD cD qd g, oJ cJ qo f1] ++ wb1)) (w0 := wm) (w1 := wm1) (wb := []) (As := [.int (xs (nI (i + 1)).toNatClampNeg)]) (rest := []) hx hb hml hown hAW hN hM (cwVA 1 hAW q927 q928 q929 q50 q930 hd_X10_setPenalty n1 n2 n3 n4) hK2 hP hD hS hA h0.2 (by rw [a1.2, a0.2]) rfl rfl rfl hl.1 rfl (lv_room (Nat.le_of_ble_eq_true rfl)) dL_law_325 (by show cells + 1 ≤ 601024; omega) (by show slots + 6 ≤ 7293034; omega) (fun H locs hP hD hS => ?_)
  rw [List.append_nil] at hP hD
  have hP : va_P D vwCl ([oD cD qd g, oJ cJ qo f1] ++ (wb1 ++ wm1)) H := hP
  have hD : va_D (fun q : Nat => s.heap.size ≤ q) ([oD cD qd g, oJ cJ qo f1] ++ (wb1 ++ wm1)) := hD
  refine lv_istore (lv' := [(7, .int r), (6, .int k), (5, .int (nI i)), (0, .ref b), (1, .ref (q 0)), (2, .ref (u 0)), (3, .ref qo), (4, .ref qd)]) hx hb dL_law_328 hl (by decide) rfl (fun ls hl => ?_)
  refine lv_aload_n hx hb dL_law_330 rfl (lv_at hl 5 rfl) ?_
  obtain ⟨rt, t1, t2, t3, t4, hTh⟩ := st_thrown l D cI cZ q u hR1
  have hP : va_P D vwCl (([oD cD qd g, oJ cJ qo f1] ++ wb1) ++ (wm1 ++ [])) H := by rw [List.append_nil]; exact hP
  have hD : va_D (fun q : Nat => s.heap.size ≤ q) (([oD cD qd g, oJ cJ qo f1] ++ wb1) ++ (wm1 ++ [])) := by rw [List.append_nil]; exact hD
  refine call_Ri (wa := ([oD cD qd g, oJ cJ qo f1] ++ wb1)) (w0 := wm1) (w1 := wm1) (wb := []) (As := []) (rest := []) hx hb hml hown hAW hN hTh (cwVA 0 hAW q895 q896 q897 q50 q898 hd_X10_thrown t1 t2 t3 t4) hK2 hP hD hS hA h1.2 rfl rfl rfl rfl hl.1 rfl (lv_room (Nat.le_of_ble_eq_true rfl)) dL_law_331 (by show cells + 1 ≤ 601024; omega) (by show slots + 6 ≤ 7293034; omega) (fun H locs hP hD hS => ?_)
  rw [List.append_nil] at hP hD
  have hP : va_P D vwCl ([oD cD qd g, oJ cJ qo f1] ++ (wb1 ++ wm1)) H := hP
  have hD : va_D (fun q : Nat => s.heap.size ≤ q) ([oD cD qd g, oJ cJ qo f1] ++ (wb1 ++ wm1)) := hD
  refine lv_iload hx hb dL_law_334 (lv_at hl 1 rfl) ?_
  refine lv_icmp_eq (tgt := 341) hx hb dL_law_336 (by decide) (fun _ => ?_) (fun c9 => absurd rfl c9)
  refine lv_iload hx hb dL_law_341 (lv_at hl 1 rfl) ?_
  refine lv_if_ne (tgt := 358) hx hb dL_law_343 (by decide) (fun c343 => ?_) (fun c343 => ?_)
  · skip
    refine lv_goto (tgt := 1431) hx hb dL_law_358 (by decide) ?_
    exact K _ _ _ _ _ _ _ _ ⟨hR1, hP, hD, hS, lv_sub hl [2, 3, 4, 5, 6, 7] rfl⟩
  · skip
    refine lv_aload_n hx hb dL_law_346 rfl (lv_at hl 6 rfl) ?_
    refine lv_iconst (v := 0) hx hb dL_law_347 (by decide) ?_
    refine va_lald hx hb hK hP 1 2 rfl rfl (pk_in 0 1 (by decide)) dL_law_348 ?_
    show W p l e room_1 s m #[Value.ref b] below meth c H locs _ _ Q (F0 m 349 ls [.long (f1 0)])
    refine lv_iload hx hb dL_law_349 (lv_at hl 0 rfl) ?_
    refine lv_i2l (v := r.toInt64) hx hb dL_law_351 rfl ?_
    refine W.lcmp hx hb dL_law_352 ?_
    have e9 : lg_cmp (f1 0) r.toInt64 = 0 := by rw [show (f1 0) = r.toInt64 from hout c343]; exact lg_self _
    refine lv_if_eq (tgt := 358) hx hb dL_law_353 (by decide) (fun _ => ?_) (fun c7 => absurd e9 c7)
    refine lv_goto (tgt := 1431) hx hb dL_law_358 (by decide) ?_
    exact K _ _ _ _ _ _ _ _ ⟨hR1, hP, hD, hS, lv_sub hl [2, 3, 4, 5, 6, 7] rfl⟩
set_option maxHeartbeats 1000000 in
set_option maxRecDepth 100000 in
theorem lk_4 {p : Program} {l : Launch} {e : Env} {s : State} {m : MethodId} {below : List Frame} {meth : Method} {c : Code} {b L : Nat} {xs : Nat → Int32} {D : va_G} {cI cZ cJ cD : ClassId} (C : LwE p l s m meth c b L xs D cI cZ cJ cD) {Q : State → Prop} {q u : Nat → Nat} {qo qd i : Nat} {th : Int32} {f : Nat → Int64} {g : Nat → UInt64} {wb wm : va_W} {H : Heap} {locs : List Loc} {ls : Array Slot} (hst : LSt s D cI cZ cJ cD q u qo qd b i th f g wb wm H locs ls) (hi : i + 4 ≤ L) {cells slots : Nat} (hz1 : cells + 1 ≤ 601024) (hz2 : slots + 6 ≤ 7293034)
    (K : ∀ (th : Int32) (f : Nat → Int64) (g : Nat → UInt64) (wb wm : va_W) (H : Heap) (locs : List Loc) (ls : Array Slot), LSt s D cI cZ cJ cD q u qo qd b i th f g wb wm H locs ls → W p l e room_1 s m #[Value.ref b] below meth c H locs (cells + 1) (slots + 6) Q (F0 m 1431 ls [])) : W p l e room_1 s m #[Value.ref b] below meth c H locs cells slots Q (F0 m 361 ls []) := by
  obtain ⟨hx, hb, hr, hml, hown, hAW, hN, hT, hNc, hX, hbl, hlk, hK, hL, hl0⟩ := C
  obtain ⟨hR, hP, hD, hS, hl⟩ := hst
  have hA : ∀ q : Nat, s.heap.size ≤ q → (fun q : Nat => s.heap.size ≤ q) q := fun _ h => h
  have hbA : ¬ (fun q : Nat => s.heap.size ≤ q) b := Nat.not_le.mpr hbl
  have hK2 : va_K D vwCl (ty2 cI cZ) s := hK.sub [0, 1] rfl
  refine lv_aload_n hx hb dL_law_361 rfl (lv_at hl 2 rfl) ?_
  refine lv_aload_n hx hb dL_law_362 rfl (lv_at hl 1 rfl) ?_
  refine lv_iload hx hb dL_law_363 (lv_at hl 0 rfl) ?_
  refine lv_iconst (v := 1) hx hb dL_law_365 (by decide) ?_
  refine n_iadd (x := i) (y := 1) hx hb dL_law_366 ?_
  refine va_sld hx hb hX hbl hbA hS (vp_in_nI (show i + 1 < L by omega) (by omega)) dL_law_367 ?_
  refine lv_aload_n hx hb dL_law_368 rfl (lv_at hl 4 rfl) ?_
  obtain ⟨wb1, wm1, f1, k, r, ⟨rm, mc, ms, r1, r2, r3, r4, r5, r6, hH⟩, ⟨rn, n1, n2, n3, n4, hM⟩, hR1, hout⟩ := st_add l hl0 D cI cZ cJ cD q u hR qo f (xs (nI (i + 1)).toNatClampNeg)
  have a0 := hR.ads
  have a1 := hR1.ads
  have h0 := hR.heads
  have h1 := hR1.heads
  have hP : va_P D vwCl ([oD cD qd g] ++ (([oJ cJ qo f] ++ wb) ++ wm)) H := hP
  have hD : va_D (fun q : Nat => s.heap.size ≤ q) ([oD cD qd g] ++ (([oJ cJ qo f] ++ wb) ++ wm)) := hD
  refine call_H (wa := [oD cD qd g]) (w0 := ([oJ cJ qo f] ++ wb)) (w1 := ([oJ cJ qo f1] ++ wb1)) (wb := wm) (As := [.ref (q 0), .int (xs (nI (i + 1)).toNatClampNeg), .ref qo]) (rest := []) hx hb hml hown hAW hN hT hNc hH (cwSH 3 hAW q538 q539 q40 qw_add hdL_add r1 r2 r3 r4) hK hP hD hS hA (by rw [List.map_append, List.map_append, a1.1, a0.1]; rfl) rfl hl.1 rfl (lv_room (Nat.le_of_ble_eq_true rfl)) dL_law_369 (by show cells + mc ≤ 601024; omega) (by show slots + ms ≤ 7293034; omega) (fun H locs hP hD hS => ?_)
  refine W.widen (k := cells + 1) (n := slots + 6) (by omega) (by omega) ?_
  have hP : va_P D vwCl ([oD cD qd g, oJ cJ qo f1] ++ (wb1 ++ wm)) H := hP
  have hD : va_D (fun q : Nat => s.heap.size ≤ q) ([oD cD qd g, oJ cJ qo f1] ++ (wb1 ++ wm)) := hD
  refine lv_istore (lv' := [(6, .int k), (5, .int (nI i)), (0, .ref b), (1, .ref (q 0)), (2, .ref (u 0)), (3, .ref qo), (4, .ref qd)]) hx hb dL_law_372 hl (by decide) rfl (fun ls hl => ?_)
  refine lv_aload_n hx hb dL_law_374 rfl (lv_at hl 4 rfl) ?_
  refine lv_aload_n hx hb dL_law_375 rfl (lv_at hl 2 rfl) ?_
  refine lv_iload hx hb dL_law_376 (lv_at hl 1 rfl) ?_
  refine lv_iconst (v := 1) hx hb dL_law_378 (by decide) ?_
  refine n_iadd (x := i) (y := 1) hx hb dL_law_379 ?_
  refine va_sld hx hb hX hbl hbA hS (vp_in_nI (show i + 1 < L by omega) (by omega)) dL_law_380 ?_
  have hP : va_P D vwCl (([oD cD qd g, oJ cJ qo f1] ++ wb1) ++ (wm ++ [])) H := by rw [List.append_nil]; exact hP
  have hD : va_D (fun q : Nat => s.heap.size ≤ q) (([oD cD qd g, oJ cJ qo f1] ++ wb1) ++ (wm ++ [])) := by rw [List.append_nil]; exact hD
  refine call_Ri (wa := ([oD cD qd g, oJ cJ qo f1] ++ wb1)) (w0 := wm) (w1 := wm1) (wb := []) (As := [.int (xs (nI (i + 1)).toNatClampNeg)]) (rest := []) hx hb hml hown hAW hN hM (cwVA 1 hAW q931 q932 q933 q50 q934 hd_X10_add n1 n2 n3 n4) hK2 hP hD hS hA h0.2 (by rw [a1.2, a0.2]) rfl rfl rfl hl.1 rfl (lv_room (Nat.le_of_ble_eq_true rfl)) dL_law_381 (by show cells + 1 ≤ 601024; omega) (by show slots + 6 ≤ 7293034; omega) (fun H locs hP hD hS => ?_)
  rw [List.append_nil] at hP hD
  have hP : va_P D vwCl ([oD cD qd g, oJ cJ qo f1] ++ (wb1 ++ wm1)) H := hP
  have hD : va_D (fun q : Nat => s.heap.size ≤ q) ([oD cD qd g, oJ cJ qo f1] ++ (wb1 ++ wm1)) := hD
  refine lv_istore (lv' := [(7, .int r), (6, .int k), (5, .int (nI i)), (0, .ref b), (1, .ref (q 0)), (2, .ref (u 0)), (3, .ref qo), (4, .ref qd)]) hx hb dL_law_384 hl (by decide) rfl (fun ls hl => ?_)
  refine lv_aload_n hx hb dL_law_386 rfl (lv_at hl 5 rfl) ?_
  obtain ⟨rt, t1, t2, t3, t4, hTh⟩ := st_thrown l D cI cZ q u hR1
  have hP : va_P D vwCl (([oD cD qd g, oJ cJ qo f1] ++ wb1) ++ (wm1 ++ [])) H := by rw [List.append_nil]; exact hP
  have hD : va_D (fun q : Nat => s.heap.size ≤ q) (([oD cD qd g, oJ cJ qo f1] ++ wb1) ++ (wm1 ++ [])) := by rw [List.append_nil]; exact hD
  refine call_Ri (wa := ([oD cD qd g, oJ cJ qo f1] ++ wb1)) (w0 := wm1) (w1 := wm1) (wb := []) (As := []) (rest := []) hx hb hml hown hAW hN hTh (cwVA 0 hAW q895 q896 q897 q50 q898 hd_X10_thrown t1 t2 t3 t4) hK2 hP hD hS hA h1.2 rfl rfl rfl rfl hl.1 rfl (lv_room (Nat.le_of_ble_eq_true rfl)) dL_law_387 (by show cells + 1 ≤ 601024; omega) (by show slots + 6 ≤ 7293034; omega) (fun H locs hP hD hS => ?_)
  rw [List.append_nil] at hP hD
  have hP : va_P D vwCl ([oD cD qd g, oJ cJ qo f1] ++ (wb1 ++ wm1)) H := hP
  have hD : va_D (fun q : Nat => s.heap.size ≤ q) ([oD cD qd g, oJ cJ qo f1] ++ (wb1 ++ wm1)) := hD
  refine lv_iload hx hb dL_law_390 (lv_at hl 1 rfl) ?_
  refine lv_icmp_eq (tgt := 397) hx hb dL_law_392 (by decide) (fun _ => ?_) (fun c9 => absurd rfl c9)
  refine lv_iload hx hb dL_law_397 (lv_at hl 1 rfl) ?_
  refine lv_if_ne (tgt := 414) hx hb dL_law_399 (by decide) (fun c399 => ?_) (fun c399 => ?_)
  · skip
    refine lv_goto (tgt := 1431) hx hb dL_law_414 (by decide) ?_
    exact K _ _ _ _ _ _ _ _ ⟨hR1, hP, hD, hS, lv_sub hl [2, 3, 4, 5, 6, 7] rfl⟩
  · skip
    refine lv_aload_n hx hb dL_law_402 rfl (lv_at hl 6 rfl) ?_
    refine lv_iconst (v := 0) hx hb dL_law_403 (by decide) ?_
    refine va_lald hx hb hK hP 1 2 rfl rfl (pk_in 0 1 (by decide)) dL_law_404 ?_
    show W p l e room_1 s m #[Value.ref b] below meth c H locs _ _ Q (F0 m 405 ls [.long (f1 0)])
    refine lv_iload hx hb dL_law_405 (lv_at hl 0 rfl) ?_
    refine lv_i2l (v := r.toInt64) hx hb dL_law_407 rfl ?_
    refine W.lcmp hx hb dL_law_408 ?_
    have e9 : lg_cmp (f1 0) r.toInt64 = 0 := by rw [show (f1 0) = r.toInt64 from hout c399]; exact lg_self _
    refine lv_if_eq (tgt := 414) hx hb dL_law_409 (by decide) (fun _ => ?_) (fun c7 => absurd e9 c7)
    refine lv_goto (tgt := 1431) hx hb dL_law_414 (by decide) ?_
    exact K _ _ _ _ _ _ _ _ ⟨hR1, hP, hD, hS, lv_sub hl [2, 3, 4, 5, 6, 7] rfl⟩
set_option maxHeartbeats 1000000 in
set_option maxRecDepth 100000 in
theorem lk_5 {p : Program} {l : Launch} {e : Env} {s : State} {m : MethodId} {below : List Frame} {meth : Method} {c : Code} {b L : Nat} {xs : Nat → Int32} {D : va_G} {cI cZ cJ cD : ClassId} (C : LwE p l s m meth c b L xs D cI cZ cJ cD) {Q : State → Prop} {q u : Nat → Nat} {qo qd i : Nat} {th : Int32} {f : Nat → Int64} {g : Nat → UInt64} {wb wm : va_W} {H : Heap} {locs : List Loc} {ls : Array Slot} (hst : LSt s D cI cZ cJ cD q u qo qd b i th f g wb wm H locs ls) (hi : i + 4 ≤ L) {cells slots : Nat} (hz1 : cells + 1 ≤ 601024) (hz2 : slots + 6 ≤ 7293034)
    (K : ∀ (th : Int32) (f : Nat → Int64) (g : Nat → UInt64) (wb wm : va_W) (H : Heap) (locs : List Loc) (ls : Array Slot), LSt s D cI cZ cJ cD q u qo qd b i th f g wb wm H locs ls → W p l e room_1 s m #[Value.ref b] below meth c H locs (cells + 1) (slots + 6) Q (F0 m 1431 ls [])) : W p l e room_1 s m #[Value.ref b] below meth c H locs cells slots Q (F0 m 417 ls []) := by
  obtain ⟨hx, hb, hr, hml, hown, hAW, hN, hT, hNc, hX, hbl, hlk, hK, hL, hl0⟩ := C
  obtain ⟨hR, hP, hD, hS, hl⟩ := hst
  have hA : ∀ q : Nat, s.heap.size ≤ q → (fun q : Nat => s.heap.size ≤ q) q := fun _ h => h
  have hbA : ¬ (fun q : Nat => s.heap.size ≤ q) b := Nat.not_le.mpr hbl
  have hK2 : va_K D vwCl (ty2 cI cZ) s := hK.sub [0, 1] rfl
  refine lv_aload_n hx hb dL_law_417 rfl (lv_at hl 2 rfl) ?_
  refine lv_aload_n hx hb dL_law_418 rfl (lv_at hl 1 rfl) ?_
  refine lv_iload hx hb dL_law_419 (lv_at hl 0 rfl) ?_
  refine lv_iconst (v := 1) hx hb dL_law_421 (by decide) ?_
  refine n_iadd (x := i) (y := 1) hx hb dL_law_422 ?_
  refine va_sld hx hb hX hbl hbA hS (vp_in_nI (show i + 1 < L by omega) (by omega)) dL_law_423 ?_
  refine lv_aload_n hx hb dL_law_424 rfl (lv_at hl 1 rfl) ?_
  refine lv_iload hx hb dL_law_425 (lv_at hl 0 rfl) ?_
  refine lv_iconst (v := 2) hx hb dL_law_427 (by decide) ?_
  refine n_iadd (x := i) (y := 2) hx hb dL_law_428 ?_
  refine va_sld hx hb hX hbl hbA hS (vp_in_nI (show i + 2 < L by omega) (by omega)) dL_law_429 ?_
  refine lv_aload_n hx hb dL_law_430 rfl (lv_at hl 1 rfl) ?_
  refine lv_iload hx hb dL_law_431 (lv_at hl 0 rfl) ?_
  refine lv_iconst (v := 3) hx hb dL_law_433 (by decide) ?_
  refine n_iadd (x := i) (y := 3) hx hb dL_law_434 ?_
  refine va_sld hx hb hX hbl hbA hS (vp_in_nI (show i + 3 < L by omega) (by omega)) dL_law_435 ?_
  refine lv_aload_n hx hb dL_law_436 rfl (lv_at hl 4 rfl) ?_
  obtain ⟨wb1, wm1, f1, k, r, ⟨rm, mc, ms, r1, r2, r3, r4, r5, r6, hH⟩, ⟨rn, n1, n2, n3, n4, hM⟩, hR1, hout⟩ := st_addRun l hl0 D cI cZ cJ cD q u hR qo f (xs (nI (i + 1)).toNatClampNeg) (xs (nI (i + 2)).toNatClampNeg) (xs (nI (i + 3)).toNatClampNeg)
  have a0 := hR.ads
  have a1 := hR1.ads
  have h0 := hR.heads
  have h1 := hR1.heads
  have hP : va_P D vwCl ([oD cD qd g] ++ (([oJ cJ qo f] ++ wb) ++ wm)) H := hP
  have hD : va_D (fun q : Nat => s.heap.size ≤ q) ([oD cD qd g] ++ (([oJ cJ qo f] ++ wb) ++ wm)) := hD
  refine call_H (wa := [oD cD qd g]) (w0 := ([oJ cJ qo f] ++ wb)) (w1 := ([oJ cJ qo f1] ++ wb1)) (wb := wm) (As := [.ref (q 0), .int (xs (nI (i + 1)).toNatClampNeg), .int (xs (nI (i + 2)).toNatClampNeg), .int (xs (nI (i + 3)).toNatClampNeg), .ref qo]) (rest := []) hx hb hml hown hAW hN hT hNc hH (cwSH 5 hAW q604 q605 q40 qw_addRun hdL_addRun r1 r2 r3 r4) hK hP hD hS hA (by rw [List.map_append, List.map_append, a1.1, a0.1]; rfl) rfl hl.1 rfl (lv_room (Nat.le_of_ble_eq_true rfl)) dL_law_437 (by show cells + mc ≤ 601024; omega) (by show slots + ms ≤ 7293034; omega) (fun H locs hP hD hS => ?_)
  refine W.widen (k := cells + 1) (n := slots + 6) (by omega) (by omega) ?_
  have hP : va_P D vwCl ([oD cD qd g, oJ cJ qo f1] ++ (wb1 ++ wm)) H := hP
  have hD : va_D (fun q : Nat => s.heap.size ≤ q) ([oD cD qd g, oJ cJ qo f1] ++ (wb1 ++ wm)) := hD
  refine lv_istore (lv' := [(6, .int k), (5, .int (nI i)), (0, .ref b), (1, .ref (q 0)), (2, .ref (u 0)), (3, .ref qo), (4, .ref qd)]) hx hb dL_law_440 hl (by decide) rfl (fun ls hl => ?_)
  refine lv_aload_n hx hb dL_law_442 rfl (lv_at hl 4 rfl) ?_
  refine lv_aload_n hx hb dL_law_443 rfl (lv_at hl 2 rfl) ?_
  refine lv_iload hx hb dL_law_444 (lv_at hl 1 rfl) ?_
  refine lv_iconst (v := 1) hx hb dL_law_446 (by decide) ?_
  refine n_iadd (x := i) (y := 1) hx hb dL_law_447 ?_
  refine va_sld hx hb hX hbl hbA hS (vp_in_nI (show i + 1 < L by omega) (by omega)) dL_law_448 ?_
  refine lv_aload_n hx hb dL_law_449 rfl (lv_at hl 2 rfl) ?_
  refine lv_iload hx hb dL_law_450 (lv_at hl 1 rfl) ?_
  refine lv_iconst (v := 2) hx hb dL_law_452 (by decide) ?_
  refine n_iadd (x := i) (y := 2) hx hb dL_law_453 ?_
  refine va_sld hx hb hX hbl hbA hS (vp_in_nI (show i + 2 < L by omega) (by omega)) dL_law_454 ?_
  refine lv_aload_n hx hb dL_law_455 rfl (lv_at hl 2 rfl) ?_
  refine lv_iload hx hb dL_law_456 (lv_at hl 1 rfl) ?_
  refine lv_iconst (v := 3) hx hb dL_law_458 (by decide) ?_
  refine n_iadd (x := i) (y := 3) hx hb dL_law_459 ?_
  refine va_sld hx hb hX hbl hbA hS (vp_in_nI (show i + 3 < L by omega) (by omega)) dL_law_460 ?_
  have hP : va_P D vwCl (([oD cD qd g, oJ cJ qo f1] ++ wb1) ++ (wm ++ [])) H := by rw [List.append_nil]; exact hP
  have hD : va_D (fun q : Nat => s.heap.size ≤ q) (([oD cD qd g, oJ cJ qo f1] ++ wb1) ++ (wm ++ [])) := by rw [List.append_nil]; exact hD
  refine call_Ri (wa := ([oD cD qd g, oJ cJ qo f1] ++ wb1)) (w0 := wm) (w1 := wm1) (wb := []) (As := [.int (xs (nI (i + 1)).toNatClampNeg), .int (xs (nI (i + 2)).toNatClampNeg), .int (xs (nI (i + 3)).toNatClampNeg)]) (rest := []) hx hb hml hown hAW hN hM (cwVA 3 hAW q957 q958 q959 q50 q960 hd_X10_addRun n1 n2 n3 n4) hK2 hP hD hS hA h0.2 (by rw [a1.2, a0.2]) rfl rfl rfl hl.1 rfl (lv_room (Nat.le_of_ble_eq_true rfl)) dL_law_461 (by show cells + 1 ≤ 601024; omega) (by show slots + 6 ≤ 7293034; omega) (fun H locs hP hD hS => ?_)
  rw [List.append_nil] at hP hD
  have hP : va_P D vwCl ([oD cD qd g, oJ cJ qo f1] ++ (wb1 ++ wm1)) H := hP
  have hD : va_D (fun q : Nat => s.heap.size ≤ q) ([oD cD qd g, oJ cJ qo f1] ++ (wb1 ++ wm1)) := hD
  refine lv_istore (lv' := [(7, .int r), (6, .int k), (5, .int (nI i)), (0, .ref b), (1, .ref (q 0)), (2, .ref (u 0)), (3, .ref qo), (4, .ref qd)]) hx hb dL_law_464 hl (by decide) rfl (fun ls hl => ?_)
  refine lv_aload_n hx hb dL_law_466 rfl (lv_at hl 5 rfl) ?_
  obtain ⟨rt, t1, t2, t3, t4, hTh⟩ := st_thrown l D cI cZ q u hR1
  have hP : va_P D vwCl (([oD cD qd g, oJ cJ qo f1] ++ wb1) ++ (wm1 ++ [])) H := by rw [List.append_nil]; exact hP
  have hD : va_D (fun q : Nat => s.heap.size ≤ q) (([oD cD qd g, oJ cJ qo f1] ++ wb1) ++ (wm1 ++ [])) := by rw [List.append_nil]; exact hD
  refine call_Ri (wa := ([oD cD qd g, oJ cJ qo f1] ++ wb1)) (w0 := wm1) (w1 := wm1) (wb := []) (As := []) (rest := []) hx hb hml hown hAW hN hTh (cwVA 0 hAW q895 q896 q897 q50 q898 hd_X10_thrown t1 t2 t3 t4) hK2 hP hD hS hA h1.2 rfl rfl rfl rfl hl.1 rfl (lv_room (Nat.le_of_ble_eq_true rfl)) dL_law_467 (by show cells + 1 ≤ 601024; omega) (by show slots + 6 ≤ 7293034; omega) (fun H locs hP hD hS => ?_)
  rw [List.append_nil] at hP hD
  have hP : va_P D vwCl ([oD cD qd g, oJ cJ qo f1] ++ (wb1 ++ wm1)) H := hP
  have hD : va_D (fun q : Nat => s.heap.size ≤ q) ([oD cD qd g, oJ cJ qo f1] ++ (wb1 ++ wm1)) := hD
  refine lv_iload hx hb dL_law_470 (lv_at hl 1 rfl) ?_
  refine lv_icmp_eq (tgt := 477) hx hb dL_law_472 (by decide) (fun _ => ?_) (fun c9 => absurd rfl c9)
  refine lv_iload hx hb dL_law_477 (lv_at hl 1 rfl) ?_
  refine lv_if_ne (tgt := 494) hx hb dL_law_479 (by decide) (fun c479 => ?_) (fun c479 => ?_)
  · skip
    refine lv_goto (tgt := 1431) hx hb dL_law_494 (by decide) ?_
    exact K _ _ _ _ _ _ _ _ ⟨hR1, hP, hD, hS, lv_sub hl [2, 3, 4, 5, 6, 7] rfl⟩
  · skip
    refine lv_aload_n hx hb dL_law_482 rfl (lv_at hl 6 rfl) ?_
    refine lv_iconst (v := 0) hx hb dL_law_483 (by decide) ?_
    refine va_lald hx hb hK hP 1 2 rfl rfl (pk_in 0 1 (by decide)) dL_law_484 ?_
    show W p l e room_1 s m #[Value.ref b] below meth c H locs _ _ Q (F0 m 485 ls [.long (f1 0)])
    refine lv_iload hx hb dL_law_485 (lv_at hl 0 rfl) ?_
    refine lv_i2l (v := r.toInt64) hx hb dL_law_487 rfl ?_
    refine W.lcmp hx hb dL_law_488 ?_
    have e9 : lg_cmp (f1 0) r.toInt64 = 0 := by rw [show (f1 0) = r.toInt64 from hout c479]; exact lg_self _
    refine lv_if_eq (tgt := 494) hx hb dL_law_489 (by decide) (fun _ => ?_) (fun c7 => absurd e9 c7)
    refine lv_goto (tgt := 1431) hx hb dL_law_494 (by decide) ?_
    exact K _ _ _ _ _ _ _ _ ⟨hR1, hP, hD, hS, lv_sub hl [2, 3, 4, 5, 6, 7] rfl⟩
set_option maxHeartbeats 1000000 in
set_option maxRecDepth 100000 in
theorem lk_6 {p : Program} {l : Launch} {e : Env} {s : State} {m : MethodId} {below : List Frame} {meth : Method} {c : Code} {b L : Nat} {xs : Nat → Int32} {D : va_G} {cI cZ cJ cD : ClassId} (C : LwE p l s m meth c b L xs D cI cZ cJ cD) {Q : State → Prop} {q u : Nat → Nat} {qo qd i : Nat} {th : Int32} {f : Nat → Int64} {g : Nat → UInt64} {wb wm : va_W} {H : Heap} {locs : List Loc} {ls : Array Slot} (hst : LSt s D cI cZ cJ cD q u qo qd b i th f g wb wm H locs ls) (hi : i + 4 ≤ L) {cells slots : Nat} (hz1 : cells + 1 ≤ 601024) (hz2 : slots + 6 ≤ 7293034)
    (K : ∀ (th : Int32) (f : Nat → Int64) (g : Nat → UInt64) (wb wm : va_W) (H : Heap) (locs : List Loc) (ls : Array Slot), LSt s D cI cZ cJ cD q u qo qd b i th f g wb wm H locs ls → W p l e room_1 s m #[Value.ref b] below meth c H locs (cells + 1) (slots + 6) Q (F0 m 1431 ls [])) : W p l e room_1 s m #[Value.ref b] below meth c H locs cells slots Q (F0 m 497 ls []) := by
  obtain ⟨hx, hb, hr, hml, hown, hAW, hN, hT, hNc, hX, hbl, hlk, hK, hL, hl0⟩ := C
  obtain ⟨hR, hP, hD, hS, hl⟩ := hst
  have hA : ∀ q : Nat, s.heap.size ≤ q → (fun q : Nat => s.heap.size ≤ q) q := fun _ h => h
  have hbA : ¬ (fun q : Nat => s.heap.size ≤ q) b := Nat.not_le.mpr hbl
  have hK2 : va_K D vwCl (ty2 cI cZ) s := hK.sub [0, 1] rfl
  refine lv_aload_n hx hb dL_law_497 rfl (lv_at hl 2 rfl) ?_
  obtain ⟨wb1, wm1, r, ⟨rm, r1, r2, r3, r4, hH⟩, ⟨rn, n1, n2, n3, n4, hM⟩, hR1⟩ := st_size l D cI cZ q u hR
  have a0 := hR.ads
  have a1 := hR1.ads
  have h0 := hR.heads
  have h1 := hR1.heads
  refine call_Ri (wa := [oD cD qd g, oJ cJ qo f]) (w0 := wb) (w1 := wb1) (wb := wm) (As := []) (rest := []) hx hb hml hown hAW hN hH (cwVA 0 hAW q334 q335 q336 q41 q337 hd_X9_size r1 r2 r3 r4) hK2 hP hD hS hA h0.1 (by rw [a1.1, a0.1]) rfl rfl rfl hl.1 rfl (lv_room (Nat.le_of_ble_eq_true rfl)) dL_law_498 (by show cells ≤ 601024; omega) (by show slots ≤ 7293034; omega) (fun H locs hP hD hS => ?_)
  refine lv_aload_n hx hb dL_law_501 rfl (lv_at hl 3 rfl) ?_
  have hP : va_P D vwCl (([oD cD qd g, oJ cJ qo f] ++ wb1) ++ (wm ++ [])) H := by rw [List.append_nil]; exact hP
  have hD : va_D (fun q : Nat => s.heap.size ≤ q) (([oD cD qd g, oJ cJ qo f] ++ wb1) ++ (wm ++ [])) := by rw [List.append_nil]; exact hD
  refine call_Ri (wa := ([oD cD qd g, oJ cJ qo f] ++ wb1)) (w0 := wm) (w1 := wm1) (wb := []) (As := []) (rest := [.int r]) hx hb hml hown hAW hN hM (cwVA 0 hAW q961 q962 q963 q50 q964 hd_X10_size n1 n2 n3 n4) hK2 hP hD hS hA h0.2 (by rw [a1.2, a0.2]) rfl rfl rfl hl.1 rfl (lv_room (Nat.le_of_ble_eq_true rfl)) dL_law_502 (by show cells ≤ 601024; omega) (by show slots ≤ 7293034; omega) (fun H locs hP hD hS => ?_)
  rw [List.append_nil] at hP hD
  have hP : va_P D vwCl ([oD cD qd g, oJ cJ qo f] ++ (wb1 ++ wm1)) H := hP
  have hD : va_D (fun q : Nat => s.heap.size ≤ q) ([oD cD qd g, oJ cJ qo f] ++ (wb1 ++ wm1)) := hD
  refine lv_icmp_eq (tgt := 1431) hx hb dL_law_505 (by decide) (fun _ => ?_) (fun c9 => absurd rfl c9)
  refine W.widen (k := cells + 1) (n := slots + 6) (by omega) (by omega) ?_
  exact K _ _ _ _ _ _ _ _ ⟨hR1, hP, hD, hS, lv_sub hl [0, 1, 2, 3, 4, 5] rfl⟩
set_option maxHeartbeats 1000000 in
set_option maxRecDepth 100000 in
theorem lk_7 {p : Program} {l : Launch} {e : Env} {s : State} {m : MethodId} {below : List Frame} {meth : Method} {c : Code} {b L : Nat} {xs : Nat → Int32} {D : va_G} {cI cZ cJ cD : ClassId} (C : LwE p l s m meth c b L xs D cI cZ cJ cD) {Q : State → Prop} {q u : Nat → Nat} {qo qd i : Nat} {th : Int32} {f : Nat → Int64} {g : Nat → UInt64} {wb wm : va_W} {H : Heap} {locs : List Loc} {ls : Array Slot} (hst : LSt s D cI cZ cJ cD q u qo qd b i th f g wb wm H locs ls) (hi : i + 4 ≤ L) {cells slots : Nat} (hz1 : cells + 1 ≤ 601024) (hz2 : slots + 6 ≤ 7293034)
    (K : ∀ (th : Int32) (f : Nat → Int64) (g : Nat → UInt64) (wb wm : va_W) (H : Heap) (locs : List Loc) (ls : Array Slot), LSt s D cI cZ cJ cD q u qo qd b i th f g wb wm H locs ls → W p l e room_1 s m #[Value.ref b] below meth c H locs (cells + 1) (slots + 6) Q (F0 m 1431 ls [])) : W p l e room_1 s m #[Value.ref b] below meth c H locs cells slots Q (F0 m 510 ls []) := by
  obtain ⟨hx, hb, hr, hml, hown, hAW, hN, hT, hNc, hX, hbl, hlk, hK, hL, hl0⟩ := C
  obtain ⟨hR, hP, hD, hS, hl⟩ := hst
  have hA : ∀ q : Nat, s.heap.size ≤ q → (fun q : Nat => s.heap.size ≤ q) q := fun _ h => h
  have hbA : ¬ (fun q : Nat => s.heap.size ≤ q) b := Nat.not_le.mpr hbl
  have hK2 : va_K D vwCl (ty2 cI cZ) s := hK.sub [0, 1] rfl
  refine lv_aload_n hx hb dL_law_510 rfl (lv_at hl 2 rfl) ?_
  refine lv_aload_n hx hb dL_law_511 rfl (lv_at hl 1 rfl) ?_
  refine lv_iload hx hb dL_law_512 (lv_at hl 0 rfl) ?_
  refine lv_iconst (v := 1) hx hb dL_law_514 (by decide) ?_
  refine n_iadd (x := i) (y := 1) hx hb dL_law_515 ?_
  refine va_sld hx hb hX hbl hbA hS (vp_in_nI (show i + 1 < L by omega) (by omega)) dL_law_516 ?_
  refine lv_aload_n hx hb dL_law_517 rfl (lv_at hl 4 rfl) ?_
  obtain ⟨wb1, wm1, f1, k, r, ⟨rm, mc, ms, r1, r2, r3, r4, r5, r6, hH⟩, ⟨rn, n1, n2, n3, n4, hM⟩, hR1, hout⟩ := st_value l hl0 D cI cZ cJ cD q u hR qo f (xs (nI (i + 1)).toNatClampNeg)
  have a0 := hR.ads
  have a1 := hR1.ads
  have h0 := hR.heads
  have h1 := hR1.heads
  have hP : va_P D vwCl ([oD cD qd g] ++ (([oJ cJ qo f] ++ wb) ++ wm)) H := hP
  have hD : va_D (fun q : Nat => s.heap.size ≤ q) ([oD cD qd g] ++ (([oJ cJ qo f] ++ wb) ++ wm)) := hD
  refine call_H (wa := [oD cD qd g]) (w0 := ([oJ cJ qo f] ++ wb)) (w1 := ([oJ cJ qo f1] ++ wb1)) (wb := wm) (As := [.ref (q 0), .int (xs (nI (i + 1)).toNatClampNeg), .ref qo]) (rest := []) hx hb hml hown hAW hN hT hNc hH (cwSH 3 hAW q611 q612 q40 qw_value hdL_value r1 r2 r3 r4) hK hP hD hS hA (by rw [List.map_append, List.map_append, a1.1, a0.1]; rfl) rfl hl.1 rfl (lv_room (Nat.le_of_ble_eq_true rfl)) dL_law_518 (by show cells + mc ≤ 601024; omega) (by show slots + ms ≤ 7293034; omega) (fun H locs hP hD hS => ?_)
  refine W.widen (k := cells + 1) (n := slots + 6) (by omega) (by omega) ?_
  have hP : va_P D vwCl ([oD cD qd g, oJ cJ qo f1] ++ (wb1 ++ wm)) H := hP
  have hD : va_D (fun q : Nat => s.heap.size ≤ q) ([oD cD qd g, oJ cJ qo f1] ++ (wb1 ++ wm)) := hD
  refine lv_istore (lv' := [(6, .int k), (5, .int (nI i)), (0, .ref b), (1, .ref (q 0)), (2, .ref (u 0)), (3, .ref qo), (4, .ref qd)]) hx hb dL_law_521 hl (by decide) rfl (fun ls hl => ?_)
  refine lv_aload_n hx hb dL_law_523 rfl (lv_at hl 4 rfl) ?_
  refine lv_aload_n hx hb dL_law_524 rfl (lv_at hl 2 rfl) ?_
  refine lv_iload hx hb dL_law_525 (lv_at hl 1 rfl) ?_
  refine lv_iconst (v := 1) hx hb dL_law_527 (by decide) ?_
  refine n_iadd (x := i) (y := 1) hx hb dL_law_528 ?_
  refine va_sld hx hb hX hbl hbA hS (vp_in_nI (show i + 1 < L by omega) (by omega)) dL_law_529 ?_
  have hP : va_P D vwCl (([oD cD qd g, oJ cJ qo f1] ++ wb1) ++ (wm ++ [])) H := by rw [List.append_nil]; exact hP
  have hD : va_D (fun q : Nat => s.heap.size ≤ q) (([oD cD qd g, oJ cJ qo f1] ++ wb1) ++ (wm ++ [])) := by rw [List.append_nil]; exact hD
  refine call_Ri (wa := ([oD cD qd g, oJ cJ qo f1] ++ wb1)) (w0 := wm) (w1 := wm1) (wb := []) (As := [.int (xs (nI (i + 1)).toNatClampNeg)]) (rest := []) hx hb hml hown hAW hN hM (cwVA 1 hAW q969 q970 q971 q50 q972 hd_X10_value n1 n2 n3 n4) hK2 hP hD hS hA h0.2 (by rw [a1.2, a0.2]) rfl rfl rfl hl.1 rfl (lv_room (Nat.le_of_ble_eq_true rfl)) dL_law_530 (by show cells + 1 ≤ 601024; omega) (by show slots + 6 ≤ 7293034; omega) (fun H locs hP hD hS => ?_)
  rw [List.append_nil] at hP hD
  have hP : va_P D vwCl ([oD cD qd g, oJ cJ qo f1] ++ (wb1 ++ wm1)) H := hP
  have hD : va_D (fun q : Nat => s.heap.size ≤ q) ([oD cD qd g, oJ cJ qo f1] ++ (wb1 ++ wm1)) := hD
  refine lv_istore (lv' := [(7, .int r), (6, .int k), (5, .int (nI i)), (0, .ref b), (1, .ref (q 0)), (2, .ref (u 0)), (3, .ref qo), (4, .ref qd)]) hx hb dL_law_533 hl (by decide) rfl (fun ls hl => ?_)
  refine lv_aload_n hx hb dL_law_535 rfl (lv_at hl 5 rfl) ?_
  obtain ⟨rt, t1, t2, t3, t4, hTh⟩ := st_thrown l D cI cZ q u hR1
  have hP : va_P D vwCl (([oD cD qd g, oJ cJ qo f1] ++ wb1) ++ (wm1 ++ [])) H := by rw [List.append_nil]; exact hP
  have hD : va_D (fun q : Nat => s.heap.size ≤ q) (([oD cD qd g, oJ cJ qo f1] ++ wb1) ++ (wm1 ++ [])) := by rw [List.append_nil]; exact hD
  refine call_Ri (wa := ([oD cD qd g, oJ cJ qo f1] ++ wb1)) (w0 := wm1) (w1 := wm1) (wb := []) (As := []) (rest := []) hx hb hml hown hAW hN hTh (cwVA 0 hAW q895 q896 q897 q50 q898 hd_X10_thrown t1 t2 t3 t4) hK2 hP hD hS hA h1.2 rfl rfl rfl rfl hl.1 rfl (lv_room (Nat.le_of_ble_eq_true rfl)) dL_law_536 (by show cells + 1 ≤ 601024; omega) (by show slots + 6 ≤ 7293034; omega) (fun H locs hP hD hS => ?_)
  rw [List.append_nil] at hP hD
  have hP : va_P D vwCl ([oD cD qd g, oJ cJ qo f1] ++ (wb1 ++ wm1)) H := hP
  have hD : va_D (fun q : Nat => s.heap.size ≤ q) ([oD cD qd g, oJ cJ qo f1] ++ (wb1 ++ wm1)) := hD
  refine lv_iload hx hb dL_law_539 (lv_at hl 1 rfl) ?_
  refine lv_icmp_eq (tgt := 546) hx hb dL_law_541 (by decide) (fun _ => ?_) (fun c9 => absurd rfl c9)
  refine lv_iload hx hb dL_law_546 (lv_at hl 1 rfl) ?_
  refine lv_if_ne (tgt := 563) hx hb dL_law_548 (by decide) (fun c548 => ?_) (fun c548 => ?_)
  · skip
    refine lv_goto (tgt := 1431) hx hb dL_law_563 (by decide) ?_
    exact K _ _ _ _ _ _ _ _ ⟨hR1, hP, hD, hS, lv_sub hl [2, 3, 4, 5, 6, 7] rfl⟩
  · skip
    refine lv_aload_n hx hb dL_law_551 rfl (lv_at hl 6 rfl) ?_
    refine lv_iconst (v := 0) hx hb dL_law_552 (by decide) ?_
    refine va_lald hx hb hK hP 1 2 rfl rfl (pk_in 0 1 (by decide)) dL_law_553 ?_
    show W p l e room_1 s m #[Value.ref b] below meth c H locs _ _ Q (F0 m 554 ls [.long (f1 0)])
    refine lv_iload hx hb dL_law_554 (lv_at hl 0 rfl) ?_
    refine lv_i2l (v := r.toInt64) hx hb dL_law_556 rfl ?_
    refine W.lcmp hx hb dL_law_557 ?_
    have e9 : lg_cmp (f1 0) r.toInt64 = 0 := by rw [show (f1 0) = r.toInt64 from hout c548]; exact lg_self _
    refine lv_if_eq (tgt := 563) hx hb dL_law_558 (by decide) (fun _ => ?_) (fun c7 => absurd e9 c7)
    refine lv_goto (tgt := 1431) hx hb dL_law_563 (by decide) ?_
    exact K _ _ _ _ _ _ _ _ ⟨hR1, hP, hD, hS, lv_sub hl [2, 3, 4, 5, 6, 7] rfl⟩
set_option maxHeartbeats 1000000 in
set_option maxRecDepth 100000 in
theorem lk_8 {p : Program} {l : Launch} {e : Env} {s : State} {m : MethodId} {below : List Frame} {meth : Method} {c : Code} {b L : Nat} {xs : Nat → Int32} {D : va_G} {cI cZ cJ cD : ClassId} (C : LwE p l s m meth c b L xs D cI cZ cJ cD) {Q : State → Prop} {q u : Nat → Nat} {qo qd i : Nat} {th : Int32} {f : Nat → Int64} {g : Nat → UInt64} {wb wm : va_W} {H : Heap} {locs : List Loc} {ls : Array Slot} (hst : LSt s D cI cZ cJ cD q u qo qd b i th f g wb wm H locs ls) (hi : i + 4 ≤ L) {cells slots : Nat} (hz1 : cells + 1 ≤ 601024) (hz2 : slots + 6 ≤ 7293034)
    (K : ∀ (th : Int32) (f : Nat → Int64) (g : Nat → UInt64) (wb wm : va_W) (H : Heap) (locs : List Loc) (ls : Array Slot), LSt s D cI cZ cJ cD q u qo qd b i th f g wb wm H locs ls → W p l e room_1 s m #[Value.ref b] below meth c H locs (cells + 1) (slots + 6) Q (F0 m 1431 ls [])) : W p l e room_1 s m #[Value.ref b] below meth c H locs cells slots Q (F0 m 566 ls []) := by
  obtain ⟨hx, hb, hr, hml, hown, hAW, hN, hT, hNc, hX, hbl, hlk, hK, hL, hl0⟩ := C
  obtain ⟨hR, hP, hD, hS, hl⟩ := hst
  have hA : ∀ q : Nat, s.heap.size ≤ q → (fun q : Nat => s.heap.size ≤ q) q := fun _ h => h
  have hbA : ¬ (fun q : Nat => s.heap.size ≤ q) b := Nat.not_le.mpr hbl
  have hK2 : va_K D vwCl (ty2 cI cZ) s := hK.sub [0, 1] rfl
  refine lv_aload_n hx hb dL_law_566 rfl (lv_at hl 2 rfl) ?_
  obtain ⟨wb1, wm1, r, ⟨rm, r1, r2, r3, r4, hH⟩, ⟨rn, n1, n2, n3, n4, hM⟩, hR1⟩ := st_highSum l D cI cZ q u hR
  have a0 := hR.ads
  have a1 := hR1.ads
  have h0 := hR.heads
  have h1 := hR1.heads
  refine call_Ri (wa := [oD cD qd g, oJ cJ qo f]) (w0 := wb) (w1 := wb1) (wb := wm) (As := []) (rest := []) hx hb hml hown hAW hN hH (cwVA 0 hAW q338 q339 q340 q41 q341 hd_X9_highSum r1 r2 r3 r4) hK2 hP hD hS hA h0.1 (by rw [a1.1, a0.1]) rfl rfl rfl hl.1 rfl (lv_room (Nat.le_of_ble_eq_true rfl)) dL_law_567 (by show cells ≤ 601024; omega) (by show slots ≤ 7293034; omega) (fun H locs hP hD hS => ?_)
  refine lv_aload_n hx hb dL_law_570 rfl (lv_at hl 3 rfl) ?_
  have hP : va_P D vwCl (([oD cD qd g, oJ cJ qo f] ++ wb1) ++ (wm ++ [])) H := by rw [List.append_nil]; exact hP
  have hD : va_D (fun q : Nat => s.heap.size ≤ q) (([oD cD qd g, oJ cJ qo f] ++ wb1) ++ (wm ++ [])) := by rw [List.append_nil]; exact hD
  refine call_Ri (wa := ([oD cD qd g, oJ cJ qo f] ++ wb1)) (w0 := wm) (w1 := wm1) (wb := []) (As := []) (rest := [.int r]) hx hb hml hown hAW hN hM (cwVA 0 hAW q973 q974 q975 q50 q976 hd_X10_highSum n1 n2 n3 n4) hK2 hP hD hS hA h0.2 (by rw [a1.2, a0.2]) rfl rfl rfl hl.1 rfl (lv_room (Nat.le_of_ble_eq_true rfl)) dL_law_571 (by show cells ≤ 601024; omega) (by show slots ≤ 7293034; omega) (fun H locs hP hD hS => ?_)
  rw [List.append_nil] at hP hD
  have hP : va_P D vwCl ([oD cD qd g, oJ cJ qo f] ++ (wb1 ++ wm1)) H := hP
  have hD : va_D (fun q : Nat => s.heap.size ≤ q) ([oD cD qd g, oJ cJ qo f] ++ (wb1 ++ wm1)) := hD
  refine lv_icmp_eq (tgt := 1431) hx hb dL_law_574 (by decide) (fun _ => ?_) (fun c9 => absurd rfl c9)
  refine W.widen (k := cells + 1) (n := slots + 6) (by omega) (by omega) ?_
  exact K _ _ _ _ _ _ _ _ ⟨hR1, hP, hD, hS, lv_sub hl [0, 1, 2, 3, 4, 5] rfl⟩
set_option maxHeartbeats 1000000 in
set_option maxRecDepth 100000 in
theorem lk_9 {p : Program} {l : Launch} {e : Env} {s : State} {m : MethodId} {below : List Frame} {meth : Method} {c : Code} {b L : Nat} {xs : Nat → Int32} {D : va_G} {cI cZ cJ cD : ClassId} (C : LwE p l s m meth c b L xs D cI cZ cJ cD) {Q : State → Prop} {q u : Nat → Nat} {qo qd i : Nat} {th : Int32} {f : Nat → Int64} {g : Nat → UInt64} {wb wm : va_W} {H : Heap} {locs : List Loc} {ls : Array Slot} (hst : LSt s D cI cZ cJ cD q u qo qd b i th f g wb wm H locs ls) (hi : i + 4 ≤ L) {cells slots : Nat} (hz1 : cells + 1 ≤ 601024) (hz2 : slots + 6 ≤ 7293034)
    (K : ∀ (th : Int32) (f : Nat → Int64) (g : Nat → UInt64) (wb wm : va_W) (H : Heap) (locs : List Loc) (ls : Array Slot), LSt s D cI cZ cJ cD q u qo qd b i th f g wb wm H locs ls → W p l e room_1 s m #[Value.ref b] below meth c H locs (cells + 1) (slots + 6) Q (F0 m 1431 ls [])) : W p l e room_1 s m #[Value.ref b] below meth c H locs cells slots Q (F0 m 579 ls []) := by
  obtain ⟨hx, hb, hr, hml, hown, hAW, hN, hT, hNc, hX, hbl, hlk, hK, hL, hl0⟩ := C
  obtain ⟨hR, hP, hD, hS, hl⟩ := hst
  have hA : ∀ q : Nat, s.heap.size ≤ q → (fun q : Nat => s.heap.size ≤ q) q := fun _ h => h
  have hbA : ¬ (fun q : Nat => s.heap.size ≤ q) b := Nat.not_le.mpr hbl
  have hK2 : va_K D vwCl (ty2 cI cZ) s := hK.sub [0, 1] rfl
  refine lv_aload_n hx hb dL_law_579 rfl (lv_at hl 2 rfl) ?_
  obtain ⟨wb1, wm1, r, ⟨rm, r1, r2, r3, r4, hH⟩, ⟨rn, n1, n2, n3, n4, hM⟩, hR1⟩ := st_lowSum l D cI cZ q u hR
  have a0 := hR.ads
  have a1 := hR1.ads
  have h0 := hR.heads
  have h1 := hR1.heads
  refine call_Ri (wa := [oD cD qd g, oJ cJ qo f]) (w0 := wb) (w1 := wb1) (wb := wm) (As := []) (rest := []) hx hb hml hown hAW hN hH (cwVA 0 hAW q342 q343 q344 q41 q345 hd_X9_lowSum r1 r2 r3 r4) hK2 hP hD hS hA h0.1 (by rw [a1.1, a0.1]) rfl rfl rfl hl.1 rfl (lv_room (Nat.le_of_ble_eq_true rfl)) dL_law_580 (by show cells ≤ 601024; omega) (by show slots ≤ 7293034; omega) (fun H locs hP hD hS => ?_)
  refine lv_aload_n hx hb dL_law_583 rfl (lv_at hl 3 rfl) ?_
  have hP : va_P D vwCl (([oD cD qd g, oJ cJ qo f] ++ wb1) ++ (wm ++ [])) H := by rw [List.append_nil]; exact hP
  have hD : va_D (fun q : Nat => s.heap.size ≤ q) (([oD cD qd g, oJ cJ qo f] ++ wb1) ++ (wm ++ [])) := by rw [List.append_nil]; exact hD
  refine call_Ri (wa := ([oD cD qd g, oJ cJ qo f] ++ wb1)) (w0 := wm) (w1 := wm1) (wb := []) (As := []) (rest := [.int r]) hx hb hml hown hAW hN hM (cwVA 0 hAW q977 q978 q979 q50 q980 hd_X10_lowSum n1 n2 n3 n4) hK2 hP hD hS hA h0.2 (by rw [a1.2, a0.2]) rfl rfl rfl hl.1 rfl (lv_room (Nat.le_of_ble_eq_true rfl)) dL_law_584 (by show cells ≤ 601024; omega) (by show slots ≤ 7293034; omega) (fun H locs hP hD hS => ?_)
  rw [List.append_nil] at hP hD
  have hP : va_P D vwCl ([oD cD qd g, oJ cJ qo f] ++ (wb1 ++ wm1)) H := hP
  have hD : va_D (fun q : Nat => s.heap.size ≤ q) ([oD cD qd g, oJ cJ qo f] ++ (wb1 ++ wm1)) := hD
  refine lv_icmp_eq (tgt := 1431) hx hb dL_law_587 (by decide) (fun _ => ?_) (fun c9 => absurd rfl c9)
  refine W.widen (k := cells + 1) (n := slots + 6) (by omega) (by omega) ?_
  exact K _ _ _ _ _ _ _ _ ⟨hR1, hP, hD, hS, lv_sub hl [0, 1, 2, 3, 4, 5] rfl⟩
set_option maxHeartbeats 1000000 in
set_option maxRecDepth 100000 in
theorem lk_10 {p : Program} {l : Launch} {e : Env} {s : State} {m : MethodId} {below : List Frame} {meth : Method} {c : Code} {b L : Nat} {xs : Nat → Int32} {D : va_G} {cI cZ cJ cD : ClassId} (C : LwE p l s m meth c b L xs D cI cZ cJ cD) {Q : State → Prop} {q u : Nat → Nat} {qo qd i : Nat} {th : Int32} {f : Nat → Int64} {g : Nat → UInt64} {wb wm : va_W} {H : Heap} {locs : List Loc} {ls : Array Slot} (hst : LSt s D cI cZ cJ cD q u qo qd b i th f g wb wm H locs ls) (hi : i + 4 ≤ L) {cells slots : Nat} (hz1 : cells + 1 ≤ 601024) (hz2 : slots + 6 ≤ 7293034)
    (K : ∀ (th : Int32) (f : Nat → Int64) (g : Nat → UInt64) (wb wm : va_W) (H : Heap) (locs : List Loc) (ls : Array Slot), LSt s D cI cZ cJ cD q u qo qd b i th f g wb wm H locs ls → W p l e room_1 s m #[Value.ref b] below meth c H locs (cells + 1) (slots + 6) Q (F0 m 1431 ls [])) : W p l e room_1 s m #[Value.ref b] below meth c H locs cells slots Q (F0 m 592 ls []) := by
  obtain ⟨hx, hb, hr, hml, hown, hAW, hN, hT, hNc, hX, hbl, hlk, hK, hL, hl0⟩ := C
  obtain ⟨hR, hP, hD, hS, hl⟩ := hst
  have hA : ∀ q : Nat, s.heap.size ≤ q → (fun q : Nat => s.heap.size ≤ q) q := fun _ h => h
  have hbA : ¬ (fun q : Nat => s.heap.size ≤ q) b := Nat.not_le.mpr hbl
  have hK2 : va_K D vwCl (ty2 cI cZ) s := hK.sub [0, 1] rfl
  refine lv_aload_n hx hb dL_law_592 rfl (lv_at hl 2 rfl) ?_
  obtain ⟨wb1, wm1, r, ⟨rm, r1, r2, r3, r4, hH⟩, ⟨rn, n1, n2, n3, n4, hM⟩, hR1⟩ := st_testSum l D cI cZ q u hR
  have a0 := hR.ads
  have a1 := hR1.ads
  have h0 := hR.heads
  have h1 := hR1.heads
  refine call_Ri (wa := [oD cD qd g, oJ cJ qo f]) (w0 := wb) (w1 := wb1) (wb := wm) (As := []) (rest := []) hx hb hml hown hAW hN hH (cwVA 0 hAW q346 q347 q348 q41 q349 hd_X9_testSum r1 r2 r3 r4) hK2 hP hD hS hA h0.1 (by rw [a1.1, a0.1]) rfl rfl rfl hl.1 rfl (lv_room (Nat.le_of_ble_eq_true rfl)) dL_law_593 (by show cells ≤ 601024; omega) (by show slots ≤ 7293034; omega) (fun H locs hP hD hS => ?_)
  refine lv_aload_n hx hb dL_law_596 rfl (lv_at hl 3 rfl) ?_
  have hP : va_P D vwCl (([oD cD qd g, oJ cJ qo f] ++ wb1) ++ (wm ++ [])) H := by rw [List.append_nil]; exact hP
  have hD : va_D (fun q : Nat => s.heap.size ≤ q) (([oD cD qd g, oJ cJ qo f] ++ wb1) ++ (wm ++ [])) := by rw [List.append_nil]; exact hD
  refine call_Ri (wa := ([oD cD qd g, oJ cJ qo f] ++ wb1)) (w0 := wm) (w1 := wm1) (wb := []) (As := []) (rest := [.int r]) hx hb hml hown hAW hN hM (cwVA 0 hAW q981 q982 q983 q50 q984 hd_X10_testSum n1 n2 n3 n4) hK2 hP hD hS hA h0.2 (by rw [a1.2, a0.2]) rfl rfl rfl hl.1 rfl (lv_room (Nat.le_of_ble_eq_true rfl)) dL_law_597 (by show cells ≤ 601024; omega) (by show slots ≤ 7293034; omega) (fun H locs hP hD hS => ?_)
  rw [List.append_nil] at hP hD
  have hP : va_P D vwCl ([oD cD qd g, oJ cJ qo f] ++ (wb1 ++ wm1)) H := hP
  have hD : va_D (fun q : Nat => s.heap.size ≤ q) ([oD cD qd g, oJ cJ qo f] ++ (wb1 ++ wm1)) := hD
  refine lv_icmp_eq (tgt := 1431) hx hb dL_law_600 (by decide) (fun _ => ?_) (fun c9 => absurd rfl c9)
  refine W.widen (k := cells + 1) (n := slots + 6) (by omega) (by omega) ?_
  exact K _ _ _ _ _ _ _ _ ⟨hR1, hP, hD, hS, lv_sub hl [0, 1, 2, 3, 4, 5] rfl⟩
set_option maxHeartbeats 1000000 in
set_option maxRecDepth 100000 in
theorem lk_11 {p : Program} {l : Launch} {e : Env} {s : State} {m : MethodId} {below : List Frame} {meth : Method} {c : Code} {b L : Nat} {xs : Nat → Int32} {D : va_G} {cI cZ cJ cD : ClassId} (C : LwE p l s m meth c b L xs D cI cZ cJ cD) {Q : State → Prop} {q u : Nat → Nat} {qo qd i : Nat} {th : Int32} {f : Nat → Int64} {g : Nat → UInt64} {wb wm : va_W} {H : Heap} {locs : List Loc} {ls : Array Slot} (hst : LSt s D cI cZ cJ cD q u qo qd b i th f g wb wm H locs ls) (hi : i + 4 ≤ L) {cells slots : Nat} (hz1 : cells + 1 ≤ 601024) (hz2 : slots + 6 ≤ 7293034)
    (K : ∀ (th : Int32) (f : Nat → Int64) (g : Nat → UInt64) (wb wm : va_W) (H : Heap) (locs : List Loc) (ls : Array Slot), LSt s D cI cZ cJ cD q u qo qd b i th f g wb wm H locs ls → W p l e room_1 s m #[Value.ref b] below meth c H locs (cells + 1) (slots + 6) Q (F0 m 1431 ls [])) : W p l e room_1 s m #[Value.ref b] below meth c H locs cells slots Q (F0 m 605 ls []) := by
  obtain ⟨hx, hb, hr, hml, hown, hAW, hN, hT, hNc, hX, hbl, hlk, hK, hL, hl0⟩ := C
  obtain ⟨hR, hP, hD, hS, hl⟩ := hst
  have hA : ∀ q : Nat, s.heap.size ≤ q → (fun q : Nat => s.heap.size ≤ q) q := fun _ h => h
  have hbA : ¬ (fun q : Nat => s.heap.size ≤ q) b := Nat.not_le.mpr hbl
  have hK2 : va_K D vwCl (ty2 cI cZ) s := hK.sub [0, 1] rfl
  refine lv_aload_n hx hb dL_law_605 rfl (lv_at hl 2 rfl) ?_
  obtain ⟨wb1, wm1, r, ⟨rm, r1, r2, r3, r4, hH⟩, ⟨rn, n1, n2, n3, n4, hM⟩, hR1⟩ := st_alarms l D cI cZ q u hR
  have a0 := hR.ads
  have a1 := hR1.ads
  have h0 := hR.heads
  have h1 := hR1.heads
  refine call_Ri (wa := [oD cD qd g, oJ cJ qo f]) (w0 := wb) (w1 := wb1) (wb := wm) (As := []) (rest := []) hx hb hml hown hAW hN hH (cwVA 0 hAW q350 q351 q352 q41 q353 hd_X9_alarms r1 r2 r3 r4) hK2 hP hD hS hA h0.1 (by rw [a1.1, a0.1]) rfl rfl rfl hl.1 rfl (lv_room (Nat.le_of_ble_eq_true rfl)) dL_law_606 (by show cells ≤ 601024; omega) (by show slots ≤ 7293034; omega) (fun H locs hP hD hS => ?_)
  refine lv_aload_n hx hb dL_law_609 rfl (lv_at hl 3 rfl) ?_
  have hP : va_P D vwCl (([oD cD qd g, oJ cJ qo f] ++ wb1) ++ (wm ++ [])) H := by rw [List.append_nil]; exact hP
  have hD : va_D (fun q : Nat => s.heap.size ≤ q) (([oD cD qd g, oJ cJ qo f] ++ wb1) ++ (wm ++ [])) := by rw [List.append_nil]; exact hD
  refine call_Ri (wa := ([oD cD qd g, oJ cJ qo f] ++ wb1)) (w0 := wm) (w1 := wm1) (wb := []) (As := []) (rest := [.int r]) hx hb hml hown hAW hN hM (cwVA 0 hAW q985 q986 q987 q50 q988 hd_X10_alarms n1 n2 n3 n4) hK2 hP hD hS hA h0.2 (by rw [a1.2, a0.2]) rfl rfl rfl hl.1 rfl (lv_room (Nat.le_of_ble_eq_true rfl)) dL_law_610 (by show cells ≤ 601024; omega) (by show slots ≤ 7293034; omega) (fun H locs hP hD hS => ?_)
  rw [List.append_nil] at hP hD
  have hP : va_P D vwCl ([oD cD qd g, oJ cJ qo f] ++ (wb1 ++ wm1)) H := hP
  have hD : va_D (fun q : Nat => s.heap.size ≤ q) ([oD cD qd g, oJ cJ qo f] ++ (wb1 ++ wm1)) := hD
  refine lv_icmp_eq (tgt := 1431) hx hb dL_law_613 (by decide) (fun _ => ?_) (fun c9 => absurd rfl c9)
  refine W.widen (k := cells + 1) (n := slots + 6) (by omega) (by omega) ?_
  exact K _ _ _ _ _ _ _ _ ⟨hR1, hP, hD, hS, lv_sub hl [0, 1, 2, 3, 4, 5] rfl⟩
set_option maxHeartbeats 1000000 in
set_option maxRecDepth 100000 in
theorem lk_12 {p : Program} {l : Launch} {e : Env} {s : State} {m : MethodId} {below : List Frame} {meth : Method} {c : Code} {b L : Nat} {xs : Nat → Int32} {D : va_G} {cI cZ cJ cD : ClassId} (C : LwE p l s m meth c b L xs D cI cZ cJ cD) {Q : State → Prop} {q u : Nat → Nat} {qo qd i : Nat} {th : Int32} {f : Nat → Int64} {g : Nat → UInt64} {wb wm : va_W} {H : Heap} {locs : List Loc} {ls : Array Slot} (hst : LSt s D cI cZ cJ cD q u qo qd b i th f g wb wm H locs ls) (hi : i + 4 ≤ L) {cells slots : Nat} (hz1 : cells + 1 ≤ 601024) (hz2 : slots + 6 ≤ 7293034)
    (K : ∀ (th : Int32) (f : Nat → Int64) (g : Nat → UInt64) (wb wm : va_W) (H : Heap) (locs : List Loc) (ls : Array Slot), LSt s D cI cZ cJ cD q u qo qd b i th f g wb wm H locs ls → W p l e room_1 s m #[Value.ref b] below meth c H locs (cells + 1) (slots + 6) Q (F0 m 1431 ls [])) : W p l e room_1 s m #[Value.ref b] below meth c H locs cells slots Q (F0 m 618 ls []) := by
  obtain ⟨hx, hb, hr, hml, hown, hAW, hN, hT, hNc, hX, hbl, hlk, hK, hL, hl0⟩ := C
  obtain ⟨hR, hP, hD, hS, hl⟩ := hst
  have hA : ∀ q : Nat, s.heap.size ≤ q → (fun q : Nat => s.heap.size ≤ q) q := fun _ h => h
  have hbA : ¬ (fun q : Nat => s.heap.size ≤ q) b := Nat.not_le.mpr hbl
  have hK2 : va_K D vwCl (ty2 cI cZ) s := hK.sub [0, 1] rfl
  refine lv_aload_n hx hb dL_law_618 rfl (lv_at hl 2 rfl) ?_
  refine lv_aload_n hx hb dL_law_619 rfl (lv_at hl 1 rfl) ?_
  refine lv_iload hx hb dL_law_620 (lv_at hl 0 rfl) ?_
  refine lv_iconst (v := 1) hx hb dL_law_622 (by decide) ?_
  refine n_iadd (x := i) (y := 1) hx hb dL_law_623 ?_
  refine va_sld hx hb hX hbl hbA hS (vp_in_nI (show i + 1 < L by omega) (by omega)) dL_law_624 ?_
  refine lv_aload_n hx hb dL_law_625 rfl (lv_at hl 4 rfl) ?_
  obtain ⟨wb1, wm1, f1, k, r, ⟨rm, mc, ms, r1, r2, r3, r4, r5, r6, hH⟩, ⟨rn, n1, n2, n3, n4, hM⟩, hR1, hout⟩ := st_alarmKind l hl0 D cI cZ cJ cD q u hR qo f (xs (nI (i + 1)).toNatClampNeg)
  have a0 := hR.ads
  have a1 := hR1.ads
  have h0 := hR.heads
  have h1 := hR1.heads
  have hP : va_P D vwCl ([oD cD qd g] ++ (([oJ cJ qo f] ++ wb) ++ wm)) H := hP
  have hD : va_D (fun q : Nat => s.heap.size ≤ q) ([oD cD qd g] ++ (([oJ cJ qo f] ++ wb) ++ wm)) := hD
  refine call_H (wa := [oD cD qd g]) (w0 := ([oJ cJ qo f] ++ wb)) (w1 := ([oJ cJ qo f1] ++ wb1)) (wb := wm) (As := [.ref (q 0), .int (xs (nI (i + 1)).toNatClampNeg), .ref qo]) (rest := []) hx hb hml hown hAW hN hT hNc hH (cwSH 3 hAW q642 q643 q40 qw_alarmKind hdL_alarmKind r1 r2 r3 r4) hK hP hD hS hA (by rw [List.map_append, List.map_append, a1.1, a0.1]; rfl) rfl hl.1 rfl (lv_room (Nat.le_of_ble_eq_true rfl)) dL_law_626 (by show cells + mc ≤ 601024; omega) (by show slots + ms ≤ 7293034; omega) (fun H locs hP hD hS => ?_)
  refine W.widen (k := cells + 1) (n := slots + 6) (by omega) (by omega) ?_
  have hP : va_P D vwCl ([oD cD qd g, oJ cJ qo f1] ++ (wb1 ++ wm)) H := hP
  have hD : va_D (fun q : Nat => s.heap.size ≤ q) ([oD cD qd g, oJ cJ qo f1] ++ (wb1 ++ wm)) := hD
  refine lv_istore (lv' := [(6, .int k), (5, .int (nI i)), (0, .ref b), (1, .ref (q 0)), (2, .ref (u 0)), (3, .ref qo), (4, .ref qd)]) hx hb dL_law_629 hl (by decide) rfl (fun ls hl => ?_)
  refine lv_aload_n hx hb dL_law_631 rfl (lv_at hl 4 rfl) ?_
  refine lv_aload_n hx hb dL_law_632 rfl (lv_at hl 2 rfl) ?_
  refine lv_iload hx hb dL_law_633 (lv_at hl 1 rfl) ?_
  refine lv_iconst (v := 1) hx hb dL_law_635 (by decide) ?_
  refine n_iadd (x := i) (y := 1) hx hb dL_law_636 ?_
  refine va_sld hx hb hX hbl hbA hS (vp_in_nI (show i + 1 < L by omega) (by omega)) dL_law_637 ?_
  have hP : va_P D vwCl (([oD cD qd g, oJ cJ qo f1] ++ wb1) ++ (wm ++ [])) H := by rw [List.append_nil]; exact hP
  have hD : va_D (fun q : Nat => s.heap.size ≤ q) (([oD cD qd g, oJ cJ qo f1] ++ wb1) ++ (wm ++ [])) := by rw [List.append_nil]; exact hD
  refine call_Ri (wa := ([oD cD qd g, oJ cJ qo f1] ++ wb1)) (w0 := wm) (w1 := wm1) (wb := []) (As := [.int (xs (nI (i + 1)).toNatClampNeg)]) (rest := []) hx hb hml hown hAW hN hM (cwVA 1 hAW q989 q990 q991 q50 q992 hd_X10_alarmKind n1 n2 n3 n4) hK2 hP hD hS hA h0.2 (by rw [a1.2, a0.2]) rfl rfl rfl hl.1 rfl (lv_room (Nat.le_of_ble_eq_true rfl)) dL_law_638 (by show cells + 1 ≤ 601024; omega) (by show slots + 6 ≤ 7293034; omega) (fun H locs hP hD hS => ?_)
  rw [List.append_nil] at hP hD
  have hP : va_P D vwCl ([oD cD qd g, oJ cJ qo f1] ++ (wb1 ++ wm1)) H := hP
  have hD : va_D (fun q : Nat => s.heap.size ≤ q) ([oD cD qd g, oJ cJ qo f1] ++ (wb1 ++ wm1)) := hD
  refine lv_istore (lv' := [(7, .int r), (6, .int k), (5, .int (nI i)), (0, .ref b), (1, .ref (q 0)), (2, .ref (u 0)), (3, .ref qo), (4, .ref qd)]) hx hb dL_law_641 hl (by decide) rfl (fun ls hl => ?_)
  refine lv_aload_n hx hb dL_law_643 rfl (lv_at hl 5 rfl) ?_
  obtain ⟨rt, t1, t2, t3, t4, hTh⟩ := st_thrown l D cI cZ q u hR1
  have hP : va_P D vwCl (([oD cD qd g, oJ cJ qo f1] ++ wb1) ++ (wm1 ++ [])) H := by rw [List.append_nil]; exact hP
  have hD : va_D (fun q : Nat => s.heap.size ≤ q) (([oD cD qd g, oJ cJ qo f1] ++ wb1) ++ (wm1 ++ [])) := by rw [List.append_nil]; exact hD
  refine call_Ri (wa := ([oD cD qd g, oJ cJ qo f1] ++ wb1)) (w0 := wm1) (w1 := wm1) (wb := []) (As := []) (rest := []) hx hb hml hown hAW hN hTh (cwVA 0 hAW q895 q896 q897 q50 q898 hd_X10_thrown t1 t2 t3 t4) hK2 hP hD hS hA h1.2 rfl rfl rfl rfl hl.1 rfl (lv_room (Nat.le_of_ble_eq_true rfl)) dL_law_644 (by show cells + 1 ≤ 601024; omega) (by show slots + 6 ≤ 7293034; omega) (fun H locs hP hD hS => ?_)
  rw [List.append_nil] at hP hD
  have hP : va_P D vwCl ([oD cD qd g, oJ cJ qo f1] ++ (wb1 ++ wm1)) H := hP
  have hD : va_D (fun q : Nat => s.heap.size ≤ q) ([oD cD qd g, oJ cJ qo f1] ++ (wb1 ++ wm1)) := hD
  refine lv_iload hx hb dL_law_647 (lv_at hl 1 rfl) ?_
  refine lv_icmp_eq (tgt := 654) hx hb dL_law_649 (by decide) (fun _ => ?_) (fun c9 => absurd rfl c9)
  refine lv_iload hx hb dL_law_654 (lv_at hl 1 rfl) ?_
  refine lv_if_ne (tgt := 671) hx hb dL_law_656 (by decide) (fun c656 => ?_) (fun c656 => ?_)
  · skip
    refine lv_goto (tgt := 1431) hx hb dL_law_671 (by decide) ?_
    exact K _ _ _ _ _ _ _ _ ⟨hR1, hP, hD, hS, lv_sub hl [2, 3, 4, 5, 6, 7] rfl⟩
  · skip
    refine lv_aload_n hx hb dL_law_659 rfl (lv_at hl 6 rfl) ?_
    refine lv_iconst (v := 0) hx hb dL_law_660 (by decide) ?_
    refine va_lald hx hb hK hP 1 2 rfl rfl (pk_in 0 1 (by decide)) dL_law_661 ?_
    show W p l e room_1 s m #[Value.ref b] below meth c H locs _ _ Q (F0 m 662 ls [.long (f1 0)])
    refine lv_iload hx hb dL_law_662 (lv_at hl 0 rfl) ?_
    refine lv_i2l (v := r.toInt64) hx hb dL_law_664 rfl ?_
    refine W.lcmp hx hb dL_law_665 ?_
    have e9 : lg_cmp (f1 0) r.toInt64 = 0 := by rw [show (f1 0) = r.toInt64 from hout c656]; exact lg_self _
    refine lv_if_eq (tgt := 671) hx hb dL_law_666 (by decide) (fun _ => ?_) (fun c7 => absurd e9 c7)
    refine lv_goto (tgt := 1431) hx hb dL_law_671 (by decide) ?_
    exact K _ _ _ _ _ _ _ _ ⟨hR1, hP, hD, hS, lv_sub hl [2, 3, 4, 5, 6, 7] rfl⟩
set_option maxHeartbeats 1000000 in
set_option maxRecDepth 100000 in
theorem lk_13 {p : Program} {l : Launch} {e : Env} {s : State} {m : MethodId} {below : List Frame} {meth : Method} {c : Code} {b L : Nat} {xs : Nat → Int32} {D : va_G} {cI cZ cJ cD : ClassId} (C : LwE p l s m meth c b L xs D cI cZ cJ cD) {Q : State → Prop} {q u : Nat → Nat} {qo qd i : Nat} {th : Int32} {f : Nat → Int64} {g : Nat → UInt64} {wb wm : va_W} {H : Heap} {locs : List Loc} {ls : Array Slot} (hst : LSt s D cI cZ cJ cD q u qo qd b i th f g wb wm H locs ls) (hi : i + 4 ≤ L) {cells slots : Nat} (hz1 : cells + 1 ≤ 601024) (hz2 : slots + 6 ≤ 7293034)
    (K : ∀ (th : Int32) (f : Nat → Int64) (g : Nat → UInt64) (wb wm : va_W) (H : Heap) (locs : List Loc) (ls : Array Slot), LSt s D cI cZ cJ cD q u qo qd b i th f g wb wm H locs ls → W p l e room_1 s m #[Value.ref b] below meth c H locs (cells + 1) (slots + 6) Q (F0 m 1431 ls [])) : W p l e room_1 s m #[Value.ref b] below meth c H locs cells slots Q (F0 m 674 ls []) := by
  obtain ⟨hx, hb, hr, hml, hown, hAW, hN, hT, hNc, hX, hbl, hlk, hK, hL, hl0⟩ := C
  obtain ⟨hR, hP, hD, hS, hl⟩ := hst
  have hA : ∀ q : Nat, s.heap.size ≤ q → (fun q : Nat => s.heap.size ≤ q) q := fun _ h => h
  have hbA : ¬ (fun q : Nat => s.heap.size ≤ q) b := Nat.not_le.mpr hbl
  have hK2 : va_K D vwCl (ty2 cI cZ) s := hK.sub [0, 1] rfl
  refine lv_aload_n hx hb dL_law_674 rfl (lv_at hl 2 rfl) ?_
  refine lv_aload_n hx hb dL_law_675 rfl (lv_at hl 1 rfl) ?_
  refine lv_iload hx hb dL_law_676 (lv_at hl 0 rfl) ?_
  refine lv_iconst (v := 1) hx hb dL_law_678 (by decide) ?_
  refine n_iadd (x := i) (y := 1) hx hb dL_law_679 ?_
  refine va_sld hx hb hX hbl hbA hS (vp_in_nI (show i + 1 < L by omega) (by omega)) dL_law_680 ?_
  refine lv_aload_n hx hb dL_law_681 rfl (lv_at hl 4 rfl) ?_
  obtain ⟨wb1, wm1, f1, k, r, ⟨rm, mc, ms, r1, r2, r3, r4, r5, r6, hH⟩, ⟨rn, n1, n2, n3, n4, hM⟩, hR1, hout⟩ := st_alarmNumber l hl0 D cI cZ cJ cD q u hR qo f (xs (nI (i + 1)).toNatClampNeg)
  have a0 := hR.ads
  have a1 := hR1.ads
  have h0 := hR.heads
  have h1 := hR1.heads
  have hP : va_P D vwCl ([oD cD qd g] ++ (([oJ cJ qo f] ++ wb) ++ wm)) H := hP
  have hD : va_D (fun q : Nat => s.heap.size ≤ q) ([oD cD qd g] ++ (([oJ cJ qo f] ++ wb) ++ wm)) := hD
  refine call_H (wa := [oD cD qd g]) (w0 := ([oJ cJ qo f] ++ wb)) (w1 := ([oJ cJ qo f1] ++ wb1)) (wb := wm) (As := [.ref (q 0), .int (xs (nI (i + 1)).toNatClampNeg), .ref qo]) (rest := []) hx hb hml hown hAW hN hT hNc hH (cwSH 3 hAW q653 q654 q40 qw_alarmNumber hdL_alarmNumber r1 r2 r3 r4) hK hP hD hS hA (by rw [List.map_append, List.map_append, a1.1, a0.1]; rfl) rfl hl.1 rfl (lv_room (Nat.le_of_ble_eq_true rfl)) dL_law_682 (by show cells + mc ≤ 601024; omega) (by show slots + ms ≤ 7293034; omega) (fun H locs hP hD hS => ?_)
  refine W.widen (k := cells + 1) (n := slots + 6) (by omega) (by omega) ?_
  have hP : va_P D vwCl ([oD cD qd g, oJ cJ qo f1] ++ (wb1 ++ wm)) H := hP
  have hD : va_D (fun q : Nat => s.heap.size ≤ q) ([oD cD qd g, oJ cJ qo f1] ++ (wb1 ++ wm)) := hD
  refine lv_istore (lv' := [(6, .int k), (5, .int (nI i)), (0, .ref b), (1, .ref (q 0)), (2, .ref (u 0)), (3, .ref qo), (4, .ref qd)]) hx hb dL_law_685 hl (by decide) rfl (fun ls hl => ?_)
  refine lv_aload_n hx hb dL_law_687 rfl (lv_at hl 4 rfl) ?_
  refine lv_aload_n hx hb dL_law_688 rfl (lv_at hl 2 rfl) ?_
  refine lv_iload hx hb dL_law_689 (lv_at hl 1 rfl) ?_
  refine lv_iconst (v := 1) hx hb dL_law_691 (by decide) ?_
  refine n_iadd (x := i) (y := 1) hx hb dL_law_692 ?_
  refine va_sld hx hb hX hbl hbA hS (vp_in_nI (show i + 1 < L by omega) (by omega)) dL_law_693 ?_
  have hP : va_P D vwCl (([oD cD qd g, oJ cJ qo f1] ++ wb1) ++ (wm ++ [])) H := by rw [List.append_nil]; exact hP
  have hD : va_D (fun q : Nat => s.heap.size ≤ q) (([oD cD qd g, oJ cJ qo f1] ++ wb1) ++ (wm ++ [])) := by rw [List.append_nil]; exact hD
  refine call_Ri (wa := ([oD cD qd g, oJ cJ qo f1] ++ wb1)) (w0 := wm) (w1 := wm1) (wb := []) (As := [.int (xs (nI (i + 1)).toNatClampNeg)]) (rest := []) hx hb hml hown hAW hN hM (cwVA 1 hAW q997 q998 q999 q50 q1000 hd_X10_alarmNumber n1 n2 n3 n4) hK2 hP hD hS hA h0.2 (by rw [a1.2, a0.2]) rfl rfl rfl hl.1 rfl (lv_room (Nat.le_of_ble_eq_true rfl)) dL_law_694 (by show cells + 1 ≤ 601024; omega) (by show slots + 6 ≤ 7293034; omega) (fun H locs hP hD hS => ?_)
  rw [List.append_nil] at hP hD
  have hP : va_P D vwCl ([oD cD qd g, oJ cJ qo f1] ++ (wb1 ++ wm1)) H := hP
  have hD : va_D (fun q : Nat => s.heap.size ≤ q) ([oD cD qd g, oJ cJ qo f1] ++ (wb1 ++ wm1)) := hD
  refine lv_istore (lv' := [(7, .int r), (6, .int k), (5, .int (nI i)), (0, .ref b), (1, .ref (q 0)), (2, .ref (u 0)), (3, .ref qo), (4, .ref qd)]) hx hb dL_law_697 hl (by decide) rfl (fun ls hl => ?_)
  refine lv_aload_n hx hb dL_law_699 rfl (lv_at hl 5 rfl) ?_
  obtain ⟨rt, t1, t2, t3, t4, hTh⟩ := st_thrown l D cI cZ q u hR1
  have hP : va_P D vwCl (([oD cD qd g, oJ cJ qo f1] ++ wb1) ++ (wm1 ++ [])) H := by rw [List.append_nil]; exact hP
  have hD : va_D (fun q : Nat => s.heap.size ≤ q) (([oD cD qd g, oJ cJ qo f1] ++ wb1) ++ (wm1 ++ [])) := by rw [List.append_nil]; exact hD
  refine call_Ri (wa := ([oD cD qd g, oJ cJ qo f1] ++ wb1)) (w0 := wm1) (w1 := wm1) (wb := []) (As := []) (rest := []) hx hb hml hown hAW hN hTh (cwVA 0 hAW q895 q896 q897 q50 q898 hd_X10_thrown t1 t2 t3 t4) hK2 hP hD hS hA h1.2 rfl rfl rfl rfl hl.1 rfl (lv_room (Nat.le_of_ble_eq_true rfl)) dL_law_700 (by show cells + 1 ≤ 601024; omega) (by show slots + 6 ≤ 7293034; omega) (fun H locs hP hD hS => ?_)
  rw [List.append_nil] at hP hD
  have hP : va_P D vwCl ([oD cD qd g, oJ cJ qo f1] ++ (wb1 ++ wm1)) H := hP
  have hD : va_D (fun q : Nat => s.heap.size ≤ q) ([oD cD qd g, oJ cJ qo f1] ++ (wb1 ++ wm1)) := hD
  refine lv_iload hx hb dL_law_703 (lv_at hl 1 rfl) ?_
  refine lv_icmp_eq (tgt := 710) hx hb dL_law_705 (by decide) (fun _ => ?_) (fun c9 => absurd rfl c9)
  refine lv_iload hx hb dL_law_710 (lv_at hl 1 rfl) ?_
  refine lv_if_ne (tgt := 727) hx hb dL_law_712 (by decide) (fun c712 => ?_) (fun c712 => ?_)
  · skip
    refine lv_goto (tgt := 1431) hx hb dL_law_727 (by decide) ?_
    exact K _ _ _ _ _ _ _ _ ⟨hR1, hP, hD, hS, lv_sub hl [2, 3, 4, 5, 6, 7] rfl⟩
  · skip
    refine lv_aload_n hx hb dL_law_715 rfl (lv_at hl 6 rfl) ?_
    refine lv_iconst (v := 0) hx hb dL_law_716 (by decide) ?_
    refine va_lald hx hb hK hP 1 2 rfl rfl (pk_in 0 1 (by decide)) dL_law_717 ?_
    show W p l e room_1 s m #[Value.ref b] below meth c H locs _ _ Q (F0 m 718 ls [.long (f1 0)])
    refine lv_iload hx hb dL_law_718 (lv_at hl 0 rfl) ?_
    refine lv_i2l (v := r.toInt64) hx hb dL_law_720 rfl ?_
    refine W.lcmp hx hb dL_law_721 ?_
    have e9 : lg_cmp (f1 0) r.toInt64 = 0 := by rw [show (f1 0) = r.toInt64 from hout c712]; exact lg_self _
    refine lv_if_eq (tgt := 727) hx hb dL_law_722 (by decide) (fun _ => ?_) (fun c7 => absurd e9 c7)
    refine lv_goto (tgt := 1431) hx hb dL_law_727 (by decide) ?_
    exact K _ _ _ _ _ _ _ _ ⟨hR1, hP, hD, hS, lv_sub hl [2, 3, 4, 5, 6, 7] rfl⟩
