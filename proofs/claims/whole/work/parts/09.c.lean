/-! the law's calls, the rest -/
set_option maxHeartbeats 1000000 in
set_option maxRecDepth 100000 in
theorem lk_14 {p : Program} {l : Launch} {e : Env} {s : State} {m : MethodId} {below : List Frame} {meth : Method} {c : Code} {b L : Nat} {xs : Nat → Int32} {D : va_G} {cI cZ cJ cD : ClassId} (C : LwE p l s m meth c b L xs D cI cZ cJ cD) {Q : State → Prop} {q u : Nat → Nat} {qo qd i : Nat} {th : Int32} {f : Nat → Int64} {g : Nat → UInt64} {wb wm : va_W} {H : Heap} {locs : List Loc} {ls : Array Slot} (hst : LSt s D cI cZ cJ cD q u qo qd b i th f g wb wm H locs ls) (hi : i + 4 ≤ L) {cells slots : Nat} (hz1 : cells + 1 ≤ 601024) (hz2 : slots + 6 ≤ 7293034)
    (K : ∀ (th : Int32) (f : Nat → Int64) (g : Nat → UInt64) (wb wm : va_W) (H : Heap) (locs : List Loc) (ls : Array Slot), LSt s D cI cZ cJ cD q u qo qd b i th f g wb wm H locs ls → W p l e room_1 s m #[Value.ref b] below meth c H locs (cells + 1) (slots + 6) Q (F0 m 1431 ls [])) : W p l e room_1 s m #[Value.ref b] below meth c H locs cells slots Q (F0 m 730 ls []) := by
  obtain ⟨hx, hb, hr, hml, hown, hAW, hN, hT, hNc, hX, hbl, hlk, hK, hL, hl0⟩ := C
  obtain ⟨hR, hP, hD, hS, hl⟩ := hst
  have hA : ∀ q : Nat, s.heap.size ≤ q → (fun q : Nat => s.heap.size ≤ q) q := fun _ h => h
  have hbA : ¬ (fun q : Nat => s.heap.size ≤ q) b := Nat.not_le.mpr hbl
  have hK2 : va_K D vwCl (ty2 cI cZ) s := hK.sub [0, 1] rfl
  refine lv_aload_n hx hb dL_law_730 rfl (lv_at hl 2 rfl) ?_
  refine lv_aload_n hx hb dL_law_731 rfl (lv_at hl 1 rfl) ?_
  refine lv_iload hx hb dL_law_732 (lv_at hl 0 rfl) ?_
  refine lv_iconst (v := 1) hx hb dL_law_734 (by decide) ?_
  refine n_iadd (x := i) (y := 1) hx hb dL_law_735 ?_
  refine va_sld hx hb hX hbl hbA hS (vp_in_nI (show i + 1 < L by omega) (by omega)) dL_law_736 ?_
  refine lv_aload_n hx hb dL_law_737 rfl (lv_at hl 4 rfl) ?_
  obtain ⟨wb1, wm1, f1, k, r, ⟨rm, mc, ms, r1, r2, r3, r4, r5, r6, hH⟩, ⟨rn, n1, n2, n3, n4, hM⟩, hR1, hout⟩ := st_alarmStart l hl0 D cI cZ cJ cD q u hR qo f (xs (nI (i + 1)).toNatClampNeg)
  have a0 := hR.ads
  have a1 := hR1.ads
  have h0 := hR.heads
  have h1 := hR1.heads
  have hP : va_P D vwCl ([oD cD qd g] ++ (([oJ cJ qo f] ++ wb) ++ wm)) H := hP
  have hD : va_D (fun q : Nat => s.heap.size ≤ q) ([oD cD qd g] ++ (([oJ cJ qo f] ++ wb) ++ wm)) := hD
  refine call_H (wa := [oD cD qd g]) (w0 := ([oJ cJ qo f] ++ wb)) (w1 := ([oJ cJ qo f1] ++ wb1)) (wb := wm) (As := [.ref (q 0), .int (xs (nI (i + 1)).toNatClampNeg), .ref qo]) (rest := []) hx hb hml hown hAW hN hT hNc hH (cwSH 3 hAW q660 q661 q40 qw_alarmStart hdL_alarmStart r1 r2 r3 r4) hK hP hD hS hA (by rw [List.map_append, List.map_append, a1.1, a0.1]; rfl) rfl hl.1 rfl (lv_room (Nat.le_of_ble_eq_true rfl)) dL_law_738 (by show cells + mc ≤ 601024; omega) (by show slots + ms ≤ 7293034; omega) (fun H locs hP hD hS => ?_)
  refine W.widen (k := cells + 1) (n := slots + 6) (by omega) (by omega) ?_
  have hP : va_P D vwCl ([oD cD qd g, oJ cJ qo f1] ++ (wb1 ++ wm)) H := hP
  have hD : va_D (fun q : Nat => s.heap.size ≤ q) ([oD cD qd g, oJ cJ qo f1] ++ (wb1 ++ wm)) := hD
  refine lv_istore (lv' := [(6, .int k), (5, .int (nI i)), (0, .ref b), (1, .ref (q 0)), (2, .ref (u 0)), (3, .ref qo), (4, .ref qd)]) hx hb dL_law_741 hl (by decide) rfl (fun ls hl => ?_)
  refine lv_aload_n hx hb dL_law_743 rfl (lv_at hl 4 rfl) ?_
  refine lv_aload_n hx hb dL_law_744 rfl (lv_at hl 2 rfl) ?_
  refine lv_iload hx hb dL_law_745 (lv_at hl 1 rfl) ?_
  refine lv_iconst (v := 1) hx hb dL_law_747 (by decide) ?_
  refine n_iadd (x := i) (y := 1) hx hb dL_law_748 ?_
  refine va_sld hx hb hX hbl hbA hS (vp_in_nI (show i + 1 < L by omega) (by omega)) dL_law_749 ?_
  have hP : va_P D vwCl (([oD cD qd g, oJ cJ qo f1] ++ wb1) ++ (wm ++ [])) H := by rw [List.append_nil]; exact hP
  have hD : va_D (fun q : Nat => s.heap.size ≤ q) (([oD cD qd g, oJ cJ qo f1] ++ wb1) ++ (wm ++ [])) := by rw [List.append_nil]; exact hD
  refine call_Ri (wa := ([oD cD qd g, oJ cJ qo f1] ++ wb1)) (w0 := wm) (w1 := wm1) (wb := []) (As := [.int (xs (nI (i + 1)).toNatClampNeg)]) (rest := []) hx hb hml hown hAW hN hM (cwVA 1 hAW q1001 q1002 q1003 q50 q1004 hd_X10_alarmStart n1 n2 n3 n4) hK2 hP hD hS hA h0.2 (by rw [a1.2, a0.2]) rfl rfl rfl hl.1 rfl (lv_room (Nat.le_of_ble_eq_true rfl)) dL_law_750 (by show cells + 1 ≤ 601024; omega) (by show slots + 6 ≤ 7293034; omega) (fun H locs hP hD hS => ?_)
  rw [List.append_nil] at hP hD
  have hP : va_P D vwCl ([oD cD qd g, oJ cJ qo f1] ++ (wb1 ++ wm1)) H := hP
  have hD : va_D (fun q : Nat => s.heap.size ≤ q) ([oD cD qd g, oJ cJ qo f1] ++ (wb1 ++ wm1)) := hD
  refine lv_istore (lv' := [(7, .int r), (6, .int k), (5, .int (nI i)), (0, .ref b), (1, .ref (q 0)), (2, .ref (u 0)), (3, .ref qo), (4, .ref qd)]) hx hb dL_law_753 hl (by decide) rfl (fun ls hl => ?_)
  refine lv_aload_n hx hb dL_law_755 rfl (lv_at hl 5 rfl) ?_
  obtain ⟨rt, t1, t2, t3, t4, hTh⟩ := st_thrown l D cI cZ q u hR1
  have hP : va_P D vwCl (([oD cD qd g, oJ cJ qo f1] ++ wb1) ++ (wm1 ++ [])) H := by rw [List.append_nil]; exact hP
  have hD : va_D (fun q : Nat => s.heap.size ≤ q) (([oD cD qd g, oJ cJ qo f1] ++ wb1) ++ (wm1 ++ [])) := by rw [List.append_nil]; exact hD
  refine call_Ri (wa := ([oD cD qd g, oJ cJ qo f1] ++ wb1)) (w0 := wm1) (w1 := wm1) (wb := []) (As := []) (rest := []) hx hb hml hown hAW hN hTh (cwVA 0 hAW q895 q896 q897 q50 q898 hd_X10_thrown t1 t2 t3 t4) hK2 hP hD hS hA h1.2 rfl rfl rfl rfl hl.1 rfl (lv_room (Nat.le_of_ble_eq_true rfl)) dL_law_756 (by show cells + 1 ≤ 601024; omega) (by show slots + 6 ≤ 7293034; omega) (fun H locs hP hD hS => ?_)
  rw [List.append_nil] at hP hD
  have hP : va_P D vwCl ([oD cD qd g, oJ cJ qo f1] ++ (wb1 ++ wm1)) H := hP
  have hD : va_D (fun q : Nat => s.heap.size ≤ q) ([oD cD qd g, oJ cJ qo f1] ++ (wb1 ++ wm1)) := hD
  refine lv_iload hx hb dL_law_759 (lv_at hl 1 rfl) ?_
  refine lv_icmp_eq (tgt := 766) hx hb dL_law_761 (by decide) (fun _ => ?_) (fun c9 => absurd rfl c9)
  refine lv_iload hx hb dL_law_766 (lv_at hl 1 rfl) ?_
  refine lv_if_ne (tgt := 783) hx hb dL_law_768 (by decide) (fun c768 => ?_) (fun c768 => ?_)
  · skip
    refine lv_goto (tgt := 1431) hx hb dL_law_783 (by decide) ?_
    exact K _ _ _ _ _ _ _ _ ⟨hR1, hP, hD, hS, lv_sub hl [2, 3, 4, 5, 6, 7] rfl⟩
  · skip
    refine lv_aload_n hx hb dL_law_771 rfl (lv_at hl 6 rfl) ?_
    refine lv_iconst (v := 0) hx hb dL_law_772 (by decide) ?_
    refine va_lald hx hb hK hP 1 2 rfl rfl (pk_in 0 1 (by decide)) dL_law_773 ?_
    show W p l e room_1 s m #[Value.ref b] below meth c H locs _ _ Q (F0 m 774 ls [.long (f1 0)])
    refine lv_iload hx hb dL_law_774 (lv_at hl 0 rfl) ?_
    refine lv_i2l (v := r.toInt64) hx hb dL_law_776 rfl ?_
    refine W.lcmp hx hb dL_law_777 ?_
    have e9 : lg_cmp (f1 0) r.toInt64 = 0 := by rw [show (f1 0) = r.toInt64 from hout c768]; exact lg_self _
    refine lv_if_eq (tgt := 783) hx hb dL_law_778 (by decide) (fun _ => ?_) (fun c7 => absurd e9 c7)
    refine lv_goto (tgt := 1431) hx hb dL_law_783 (by decide) ?_
    exact K _ _ _ _ _ _ _ _ ⟨hR1, hP, hD, hS, lv_sub hl [2, 3, 4, 5, 6, 7] rfl⟩
set_option maxHeartbeats 1000000 in
set_option maxRecDepth 100000 in
theorem lk_15 {p : Program} {l : Launch} {e : Env} {s : State} {m : MethodId} {below : List Frame} {meth : Method} {c : Code} {b L : Nat} {xs : Nat → Int32} {D : va_G} {cI cZ cJ cD : ClassId} (C : LwE p l s m meth c b L xs D cI cZ cJ cD) {Q : State → Prop} {q u : Nat → Nat} {qo qd i : Nat} {th : Int32} {f : Nat → Int64} {g : Nat → UInt64} {wb wm : va_W} {H : Heap} {locs : List Loc} {ls : Array Slot} (hst : LSt s D cI cZ cJ cD q u qo qd b i th f g wb wm H locs ls) (hi : i + 4 ≤ L) {cells slots : Nat} (hz1 : cells + 1 ≤ 601024) (hz2 : slots + 6 ≤ 7293034)
    (K : ∀ (th : Int32) (f : Nat → Int64) (g : Nat → UInt64) (wb wm : va_W) (H : Heap) (locs : List Loc) (ls : Array Slot), LSt s D cI cZ cJ cD q u qo qd b i th f g wb wm H locs ls → W p l e room_1 s m #[Value.ref b] below meth c H locs (cells + 1) (slots + 6) Q (F0 m 1431 ls [])) : W p l e room_1 s m #[Value.ref b] below meth c H locs cells slots Q (F0 m 786 ls []) := by
  obtain ⟨hx, hb, hr, hml, hown, hAW, hN, hT, hNc, hX, hbl, hlk, hK, hL, hl0⟩ := C
  obtain ⟨hR, hP, hD, hS, hl⟩ := hst
  have hA : ∀ q : Nat, s.heap.size ≤ q → (fun q : Nat => s.heap.size ≤ q) q := fun _ h => h
  have hbA : ¬ (fun q : Nat => s.heap.size ≤ q) b := Nat.not_le.mpr hbl
  have hK2 : va_K D vwCl (ty2 cI cZ) s := hK.sub [0, 1] rfl
  refine lv_aload_n hx hb dL_law_786 rfl (lv_at hl 2 rfl) ?_
  refine lv_aload_n hx hb dL_law_787 rfl (lv_at hl 1 rfl) ?_
  refine lv_iload hx hb dL_law_788 (lv_at hl 0 rfl) ?_
  refine lv_iconst (v := 1) hx hb dL_law_790 (by decide) ?_
  refine n_iadd (x := i) (y := 1) hx hb dL_law_791 ?_
  refine va_sld hx hb hX hbl hbA hS (vp_in_nI (show i + 1 < L by omega) (by omega)) dL_law_792 ?_
  refine lv_aload_n hx hb dL_law_793 rfl (lv_at hl 1 rfl) ?_
  refine lv_iload hx hb dL_law_794 (lv_at hl 0 rfl) ?_
  refine lv_iconst (v := 2) hx hb dL_law_796 (by decide) ?_
  refine n_iadd (x := i) (y := 2) hx hb dL_law_797 ?_
  refine va_sld hx hb hX hbl hbA hS (vp_in_nI (show i + 2 < L by omega) (by omega)) dL_law_798 ?_
  refine lv_aload_n hx hb dL_law_799 rfl (lv_at hl 4 rfl) ?_
  obtain ⟨wb1, wm1, f1, k, r, ⟨rm, mc, ms, r1, r2, r3, r4, r5, r6, hH⟩, ⟨rn, n1, n2, n3, n4, hM⟩, hR1, hout⟩ := st_cost l hl0 D cI cZ cJ cD q u hR qo f (xs (nI (i + 1)).toNatClampNeg) (xs (nI (i + 2)).toNatClampNeg)
  have a0 := hR.ads
  have a1 := hR1.ads
  have h0 := hR.heads
  have h1 := hR1.heads
  have hP : va_P D vwCl ([oD cD qd g] ++ (([oJ cJ qo f] ++ wb) ++ wm)) H := hP
  have hD : va_D (fun q : Nat => s.heap.size ≤ q) ([oD cD qd g] ++ (([oJ cJ qo f] ++ wb) ++ wm)) := hD
  refine call_H (wa := [oD cD qd g]) (w0 := ([oJ cJ qo f] ++ wb)) (w1 := ([oJ cJ qo f1] ++ wb1)) (wb := wm) (As := [.ref (q 0), .int (xs (nI (i + 1)).toNatClampNeg), .int (xs (nI (i + 2)).toNatClampNeg), .ref qo]) (rest := []) hx hb hml hown hAW hN hT hNc hH (cwSH 4 hAW q667 q668 q40 qw_cost hdL_cost r1 r2 r3 r4) hK hP hD hS hA (by rw [List.map_append, List.map_append, a1.1, a0.1]; rfl) rfl hl.1 rfl (lv_room (Nat.le_of_ble_eq_true rfl)) dL_law_800 (by show cells + mc ≤ 601024; omega) (by show slots + ms ≤ 7293034; omega) (fun H locs hP hD hS => ?_)
  refine W.widen (k := cells + 1) (n := slots + 6) (by omega) (by omega) ?_
  have hP : va_P D vwCl ([oD cD qd g, oJ cJ qo f1] ++ (wb1 ++ wm)) H := hP
  have hD : va_D (fun q : Nat => s.heap.size ≤ q) ([oD cD qd g, oJ cJ qo f1] ++ (wb1 ++ wm)) := hD
  refine lv_istore (lv' := [(6, .int k), (5, .int (nI i)), (0, .ref b), (1, .ref (q 0)), (2, .ref (u 0)), (3, .ref qo), (4, .ref qd)]) hx hb dL_law_803 hl (by decide) rfl (fun ls hl => ?_)
  refine lv_aload_n hx hb dL_law_805 rfl (lv_at hl 4 rfl) ?_
  refine lv_aload_n hx hb dL_law_806 rfl (lv_at hl 2 rfl) ?_
  refine lv_iload hx hb dL_law_807 (lv_at hl 1 rfl) ?_
  refine lv_iconst (v := 1) hx hb dL_law_809 (by decide) ?_
  refine n_iadd (x := i) (y := 1) hx hb dL_law_810 ?_
  refine va_sld hx hb hX hbl hbA hS (vp_in_nI (show i + 1 < L by omega) (by omega)) dL_law_811 ?_
  refine lv_aload_n hx hb dL_law_812 rfl (lv_at hl 2 rfl) ?_
  refine lv_iload hx hb dL_law_813 (lv_at hl 1 rfl) ?_
  refine lv_iconst (v := 2) hx hb dL_law_815 (by decide) ?_
  refine n_iadd (x := i) (y := 2) hx hb dL_law_816 ?_
  refine va_sld hx hb hX hbl hbA hS (vp_in_nI (show i + 2 < L by omega) (by omega)) dL_law_817 ?_
  have hP : va_P D vwCl (([oD cD qd g, oJ cJ qo f1] ++ wb1) ++ (wm ++ [])) H := by rw [List.append_nil]; exact hP
  have hD : va_D (fun q : Nat => s.heap.size ≤ q) (([oD cD qd g, oJ cJ qo f1] ++ wb1) ++ (wm ++ [])) := by rw [List.append_nil]; exact hD
  refine call_Ri (wa := ([oD cD qd g, oJ cJ qo f1] ++ wb1)) (w0 := wm) (w1 := wm1) (wb := []) (As := [.int (xs (nI (i + 1)).toNatClampNeg), .int (xs (nI (i + 2)).toNatClampNeg)]) (rest := []) hx hb hml hown hAW hN hM (cwVA 2 hAW q1005 q1006 q1007 q50 q1008 hd_X10_cost n1 n2 n3 n4) hK2 hP hD hS hA h0.2 (by rw [a1.2, a0.2]) rfl rfl rfl hl.1 rfl (lv_room (Nat.le_of_ble_eq_true rfl)) dL_law_818 (by show cells + 1 ≤ 601024; omega) (by show slots + 6 ≤ 7293034; omega) (fun H locs hP hD hS => ?_)
  rw [List.append_nil] at hP hD
  have hP : va_P D vwCl ([oD cD qd g, oJ cJ qo f1] ++ (wb1 ++ wm1)) H := hP
  have hD : va_D (fun q : Nat => s.heap.size ≤ q) ([oD cD qd g, oJ cJ qo f1] ++ (wb1 ++ wm1)) := hD
  refine lv_istore (lv' := [(7, .int r), (6, .int k), (5, .int (nI i)), (0, .ref b), (1, .ref (q 0)), (2, .ref (u 0)), (3, .ref qo), (4, .ref qd)]) hx hb dL_law_821 hl (by decide) rfl (fun ls hl => ?_)
  refine lv_aload_n hx hb dL_law_823 rfl (lv_at hl 5 rfl) ?_
  obtain ⟨rt, t1, t2, t3, t4, hTh⟩ := st_thrown l D cI cZ q u hR1
  have hP : va_P D vwCl (([oD cD qd g, oJ cJ qo f1] ++ wb1) ++ (wm1 ++ [])) H := by rw [List.append_nil]; exact hP
  have hD : va_D (fun q : Nat => s.heap.size ≤ q) (([oD cD qd g, oJ cJ qo f1] ++ wb1) ++ (wm1 ++ [])) := by rw [List.append_nil]; exact hD
  refine call_Ri (wa := ([oD cD qd g, oJ cJ qo f1] ++ wb1)) (w0 := wm1) (w1 := wm1) (wb := []) (As := []) (rest := []) hx hb hml hown hAW hN hTh (cwVA 0 hAW q895 q896 q897 q50 q898 hd_X10_thrown t1 t2 t3 t4) hK2 hP hD hS hA h1.2 rfl rfl rfl rfl hl.1 rfl (lv_room (Nat.le_of_ble_eq_true rfl)) dL_law_824 (by show cells + 1 ≤ 601024; omega) (by show slots + 6 ≤ 7293034; omega) (fun H locs hP hD hS => ?_)
  rw [List.append_nil] at hP hD
  have hP : va_P D vwCl ([oD cD qd g, oJ cJ qo f1] ++ (wb1 ++ wm1)) H := hP
  have hD : va_D (fun q : Nat => s.heap.size ≤ q) ([oD cD qd g, oJ cJ qo f1] ++ (wb1 ++ wm1)) := hD
  refine lv_iload hx hb dL_law_827 (lv_at hl 1 rfl) ?_
  refine lv_icmp_eq (tgt := 834) hx hb dL_law_829 (by decide) (fun _ => ?_) (fun c9 => absurd rfl c9)
  refine lv_iload hx hb dL_law_834 (lv_at hl 1 rfl) ?_
  refine lv_if_ne (tgt := 851) hx hb dL_law_836 (by decide) (fun c836 => ?_) (fun c836 => ?_)
  · skip
    refine lv_goto (tgt := 1431) hx hb dL_law_851 (by decide) ?_
    exact K _ _ _ _ _ _ _ _ ⟨hR1, hP, hD, hS, lv_sub hl [2, 3, 4, 5, 6, 7] rfl⟩
  · skip
    refine lv_aload_n hx hb dL_law_839 rfl (lv_at hl 6 rfl) ?_
    refine lv_iconst (v := 0) hx hb dL_law_840 (by decide) ?_
    refine va_lald hx hb hK hP 1 2 rfl rfl (pk_in 0 1 (by decide)) dL_law_841 ?_
    show W p l e room_1 s m #[Value.ref b] below meth c H locs _ _ Q (F0 m 842 ls [.long (f1 0)])
    refine lv_iload hx hb dL_law_842 (lv_at hl 0 rfl) ?_
    refine lv_i2l (v := r.toInt64) hx hb dL_law_844 rfl ?_
    refine W.lcmp hx hb dL_law_845 ?_
    have e9 : lg_cmp (f1 0) r.toInt64 = 0 := by rw [show (f1 0) = r.toInt64 from hout c836]; exact lg_self _
    refine lv_if_eq (tgt := 851) hx hb dL_law_846 (by decide) (fun _ => ?_) (fun c7 => absurd e9 c7)
    refine lv_goto (tgt := 1431) hx hb dL_law_851 (by decide) ?_
    exact K _ _ _ _ _ _ _ _ ⟨hR1, hP, hD, hS, lv_sub hl [2, 3, 4, 5, 6, 7] rfl⟩
set_option maxHeartbeats 1000000 in
set_option maxRecDepth 100000 in
theorem lk_16 {p : Program} {l : Launch} {e : Env} {s : State} {m : MethodId} {below : List Frame} {meth : Method} {c : Code} {b L : Nat} {xs : Nat → Int32} {D : va_G} {cI cZ cJ cD : ClassId} (C : LwE p l s m meth c b L xs D cI cZ cJ cD) {Q : State → Prop} {q u : Nat → Nat} {qo qd i : Nat} {th : Int32} {f : Nat → Int64} {g : Nat → UInt64} {wb wm : va_W} {H : Heap} {locs : List Loc} {ls : Array Slot} (hst : LSt s D cI cZ cJ cD q u qo qd b i th f g wb wm H locs ls) (hi : i + 4 ≤ L) {cells slots : Nat} (hz1 : cells + 1 ≤ 601024) (hz2 : slots + 6 ≤ 7293034)
    (K : ∀ (th : Int32) (f : Nat → Int64) (g : Nat → UInt64) (wb wm : va_W) (H : Heap) (locs : List Loc) (ls : Array Slot), LSt s D cI cZ cJ cD q u qo qd b i th f g wb wm H locs ls → W p l e room_1 s m #[Value.ref b] below meth c H locs (cells + 1) (slots + 6) Q (F0 m 1431 ls [])) : W p l e room_1 s m #[Value.ref b] below meth c H locs cells slots Q (F0 m 854 ls []) := by
  obtain ⟨hx, hb, hr, hml, hown, hAW, hN, hT, hNc, hX, hbl, hlk, hK, hL, hl0⟩ := C
  obtain ⟨hR, hP, hD, hS, hl⟩ := hst
  have hA : ∀ q : Nat, s.heap.size ≤ q → (fun q : Nat => s.heap.size ≤ q) q := fun _ h => h
  have hbA : ¬ (fun q : Nat => s.heap.size ≤ q) b := Nat.not_le.mpr hbl
  have hK2 : va_K D vwCl (ty2 cI cZ) s := hK.sub [0, 1] rfl
  refine lv_aload_n hx hb dL_law_854 rfl (lv_at hl 2 rfl) ?_
  refine lv_aload_n hx hb dL_law_855 rfl (lv_at hl 1 rfl) ?_
  refine lv_iload hx hb dL_law_856 (lv_at hl 0 rfl) ?_
  refine lv_iconst (v := 1) hx hb dL_law_858 (by decide) ?_
  refine n_iadd (x := i) (y := 1) hx hb dL_law_859 ?_
  refine va_sld hx hb hX hbl hbA hS (vp_in_nI (show i + 1 < L by omega) (by omega)) dL_law_860 ?_
  refine lv_aload_n hx hb dL_law_861 rfl (lv_at hl 1 rfl) ?_
  refine lv_iload hx hb dL_law_862 (lv_at hl 0 rfl) ?_
  refine lv_iconst (v := 2) hx hb dL_law_864 (by decide) ?_
  refine n_iadd (x := i) (y := 2) hx hb dL_law_865 ?_
  refine va_sld hx hb hX hbl hbA hS (vp_in_nI (show i + 2 < L by omega) (by omega)) dL_law_866 ?_
  refine lv_aload_n hx hb dL_law_867 rfl (lv_at hl 4 rfl) ?_
  obtain ⟨wb1, wm1, f1, k, r, ⟨rm, mc, ms, r1, r2, r3, r4, r5, r6, hH⟩, ⟨rn, n1, n2, n3, n4, hM⟩, hR1, hout⟩ := st_middle l hl0 D cI cZ cJ cD q u hR qo f (xs (nI (i + 1)).toNatClampNeg) (xs (nI (i + 2)).toNatClampNeg)
  have a0 := hR.ads
  have a1 := hR1.ads
  have h0 := hR.heads
  have h1 := hR1.heads
  have hP : va_P D vwCl ([oD cD qd g] ++ (([oJ cJ qo f] ++ wb) ++ wm)) H := hP
  have hD : va_D (fun q : Nat => s.heap.size ≤ q) ([oD cD qd g] ++ (([oJ cJ qo f] ++ wb) ++ wm)) := hD
  refine call_H (wa := [oD cD qd g]) (w0 := ([oJ cJ qo f] ++ wb)) (w1 := ([oJ cJ qo f1] ++ wb1)) (wb := wm) (As := [.ref (q 0), .int (xs (nI (i + 1)).toNatClampNeg), .int (xs (nI (i + 2)).toNatClampNeg), .ref qo]) (rest := []) hx hb hml hown hAW hN hT hNc hH (cwSH 4 hAW q679 q680 q40 qw_middle hdL_middle r1 r2 r3 r4) hK hP hD hS hA (by rw [List.map_append, List.map_append, a1.1, a0.1]; rfl) rfl hl.1 rfl (lv_room (Nat.le_of_ble_eq_true rfl)) dL_law_868 (by show cells + mc ≤ 601024; omega) (by show slots + ms ≤ 7293034; omega) (fun H locs hP hD hS => ?_)
  refine W.widen (k := cells + 1) (n := slots + 6) (by omega) (by omega) ?_
  have hP : va_P D vwCl ([oD cD qd g, oJ cJ qo f1] ++ (wb1 ++ wm)) H := hP
  have hD : va_D (fun q : Nat => s.heap.size ≤ q) ([oD cD qd g, oJ cJ qo f1] ++ (wb1 ++ wm)) := hD
  refine lv_istore (lv' := [(6, .int k), (5, .int (nI i)), (0, .ref b), (1, .ref (q 0)), (2, .ref (u 0)), (3, .ref qo), (4, .ref qd)]) hx hb dL_law_871 hl (by decide) rfl (fun ls hl => ?_)
  refine lv_aload_n hx hb dL_law_873 rfl (lv_at hl 4 rfl) ?_
  refine lv_aload_n hx hb dL_law_874 rfl (lv_at hl 2 rfl) ?_
  refine lv_iload hx hb dL_law_875 (lv_at hl 1 rfl) ?_
  refine lv_iconst (v := 1) hx hb dL_law_877 (by decide) ?_
  refine n_iadd (x := i) (y := 1) hx hb dL_law_878 ?_
  refine va_sld hx hb hX hbl hbA hS (vp_in_nI (show i + 1 < L by omega) (by omega)) dL_law_879 ?_
  refine lv_aload_n hx hb dL_law_880 rfl (lv_at hl 2 rfl) ?_
  refine lv_iload hx hb dL_law_881 (lv_at hl 1 rfl) ?_
  refine lv_iconst (v := 2) hx hb dL_law_883 (by decide) ?_
  refine n_iadd (x := i) (y := 2) hx hb dL_law_884 ?_
  refine va_sld hx hb hX hbl hbA hS (vp_in_nI (show i + 2 < L by omega) (by omega)) dL_law_885 ?_
  have hP : va_P D vwCl (([oD cD qd g, oJ cJ qo f1] ++ wb1) ++ (wm ++ [])) H := by rw [List.append_nil]; exact hP
  have hD : va_D (fun q : Nat => s.heap.size ≤ q) (([oD cD qd g, oJ cJ qo f1] ++ wb1) ++ (wm ++ [])) := by rw [List.append_nil]; exact hD
  refine call_Ri (wa := ([oD cD qd g, oJ cJ qo f1] ++ wb1)) (w0 := wm) (w1 := wm1) (wb := []) (As := [.int (xs (nI (i + 1)).toNatClampNeg), .int (xs (nI (i + 2)).toNatClampNeg)]) (rest := []) hx hb hml hown hAW hN hM (cwVA 2 hAW q1025 q1026 q1027 q50 q1028 hd_X10_middle n1 n2 n3 n4) hK2 hP hD hS hA h0.2 (by rw [a1.2, a0.2]) rfl rfl rfl hl.1 rfl (lv_room (Nat.le_of_ble_eq_true rfl)) dL_law_886 (by show cells + 1 ≤ 601024; omega) (by show slots + 6 ≤ 7293034; omega) (fun H locs hP hD hS => ?_)
  rw [List.append_nil] at hP hD
  have hP : va_P D vwCl ([oD cD qd g, oJ cJ qo f1] ++ (wb1 ++ wm1)) H := hP
  have hD : va_D (fun q : Nat => s.heap.size ≤ q) ([oD cD qd g, oJ cJ qo f1] ++ (wb1 ++ wm1)) := hD
  refine lv_istore (lv' := [(7, .int r), (6, .int k), (5, .int (nI i)), (0, .ref b), (1, .ref (q 0)), (2, .ref (u 0)), (3, .ref qo), (4, .ref qd)]) hx hb dL_law_889 hl (by decide) rfl (fun ls hl => ?_)
  refine lv_aload_n hx hb dL_law_891 rfl (lv_at hl 5 rfl) ?_
  obtain ⟨rt, t1, t2, t3, t4, hTh⟩ := st_thrown l D cI cZ q u hR1
  have hP : va_P D vwCl (([oD cD qd g, oJ cJ qo f1] ++ wb1) ++ (wm1 ++ [])) H := by rw [List.append_nil]; exact hP
  have hD : va_D (fun q : Nat => s.heap.size ≤ q) (([oD cD qd g, oJ cJ qo f1] ++ wb1) ++ (wm1 ++ [])) := by rw [List.append_nil]; exact hD
  refine call_Ri (wa := ([oD cD qd g, oJ cJ qo f1] ++ wb1)) (w0 := wm1) (w1 := wm1) (wb := []) (As := []) (rest := []) hx hb hml hown hAW hN hTh (cwVA 0 hAW q895 q896 q897 q50 q898 hd_X10_thrown t1 t2 t3 t4) hK2 hP hD hS hA h1.2 rfl rfl rfl rfl hl.1 rfl (lv_room (Nat.le_of_ble_eq_true rfl)) dL_law_892 (by show cells + 1 ≤ 601024; omega) (by show slots + 6 ≤ 7293034; omega) (fun H locs hP hD hS => ?_)
  rw [List.append_nil] at hP hD
  have hP : va_P D vwCl ([oD cD qd g, oJ cJ qo f1] ++ (wb1 ++ wm1)) H := hP
  have hD : va_D (fun q : Nat => s.heap.size ≤ q) ([oD cD qd g, oJ cJ qo f1] ++ (wb1 ++ wm1)) := hD
  refine lv_iload hx hb dL_law_895 (lv_at hl 1 rfl) ?_
  refine lv_icmp_eq (tgt := 902) hx hb dL_law_897 (by decide) (fun _ => ?_) (fun c9 => absurd rfl c9)
  refine lv_iload hx hb dL_law_902 (lv_at hl 1 rfl) ?_
  refine lv_if_ne (tgt := 919) hx hb dL_law_904 (by decide) (fun c904 => ?_) (fun c904 => ?_)
  · skip
    refine lv_goto (tgt := 1431) hx hb dL_law_919 (by decide) ?_
    exact K _ _ _ _ _ _ _ _ ⟨hR1, hP, hD, hS, lv_sub hl [2, 3, 4, 5, 6, 7] rfl⟩
  · skip
    refine lv_aload_n hx hb dL_law_907 rfl (lv_at hl 6 rfl) ?_
    refine lv_iconst (v := 0) hx hb dL_law_908 (by decide) ?_
    refine va_lald hx hb hK hP 1 2 rfl rfl (pk_in 0 1 (by decide)) dL_law_909 ?_
    show W p l e room_1 s m #[Value.ref b] below meth c H locs _ _ Q (F0 m 910 ls [.long (f1 0)])
    refine lv_iload hx hb dL_law_910 (lv_at hl 0 rfl) ?_
    refine lv_i2l (v := r.toInt64) hx hb dL_law_912 rfl ?_
    refine W.lcmp hx hb dL_law_913 ?_
    have e9 : lg_cmp (f1 0) r.toInt64 = 0 := by rw [show (f1 0) = r.toInt64 from hout c904]; exact lg_self _
    refine lv_if_eq (tgt := 919) hx hb dL_law_914 (by decide) (fun _ => ?_) (fun c7 => absurd e9 c7)
    refine lv_goto (tgt := 1431) hx hb dL_law_919 (by decide) ?_
    exact K _ _ _ _ _ _ _ _ ⟨hR1, hP, hD, hS, lv_sub hl [2, 3, 4, 5, 6, 7] rfl⟩
set_option maxHeartbeats 1000000 in
set_option maxRecDepth 100000 in
theorem lk_17 {p : Program} {l : Launch} {e : Env} {s : State} {m : MethodId} {below : List Frame} {meth : Method} {c : Code} {b L : Nat} {xs : Nat → Int32} {D : va_G} {cI cZ cJ cD : ClassId} (C : LwE p l s m meth c b L xs D cI cZ cJ cD) {Q : State → Prop} {q u : Nat → Nat} {qo qd i : Nat} {th : Int32} {f : Nat → Int64} {g : Nat → UInt64} {wb wm : va_W} {H : Heap} {locs : List Loc} {ls : Array Slot} (hst : LSt s D cI cZ cJ cD q u qo qd b i th f g wb wm H locs ls) (hi : i + 4 ≤ L) {cells slots : Nat} (hz1 : cells + 1 ≤ 601024) (hz2 : slots + 6 ≤ 7293034)
    (K : ∀ (th : Int32) (f : Nat → Int64) (g : Nat → UInt64) (wb wm : va_W) (H : Heap) (locs : List Loc) (ls : Array Slot), LSt s D cI cZ cJ cD q u qo qd b i th f g wb wm H locs ls → W p l e room_1 s m #[Value.ref b] below meth c H locs (cells + 1) (slots + 6) Q (F0 m 1431 ls [])) : W p l e room_1 s m #[Value.ref b] below meth c H locs cells slots Q (F0 m 922 ls []) := by
  obtain ⟨hx, hb, hr, hml, hown, hAW, hN, hT, hNc, hX, hbl, hlk, hK, hL, hl0⟩ := C
  obtain ⟨hR, hP, hD, hS, hl⟩ := hst
  have hA : ∀ q : Nat, s.heap.size ≤ q → (fun q : Nat => s.heap.size ≤ q) q := fun _ h => h
  have hbA : ¬ (fun q : Nat => s.heap.size ≤ q) b := Nat.not_le.mpr hbl
  have hK2 : va_K D vwCl (ty2 cI cZ) s := hK.sub [0, 1] rfl
  refine lv_aload_n hx hb dL_law_922 rfl (lv_at hl 2 rfl) ?_
  obtain ⟨wb1, wm1, r, ⟨rm, r1, r2, r3, r4, hH⟩, ⟨rn, n1, n2, n3, n4, hM⟩, hR1⟩ := st_changes l D cI cZ q u hR
  have a0 := hR.ads
  have a1 := hR1.ads
  have h0 := hR.heads
  have h1 := hR1.heads
  refine call_Ri (wa := [oD cD qd g, oJ cJ qo f]) (w0 := wb) (w1 := wb1) (wb := wm) (As := []) (rest := []) hx hb hml hown hAW hN hH (cwVA 0 hAW q354 q355 q356 q41 q357 hd_X9_changes r1 r2 r3 r4) hK2 hP hD hS hA h0.1 (by rw [a1.1, a0.1]) rfl rfl rfl hl.1 rfl (lv_room (Nat.le_of_ble_eq_true rfl)) dL_law_923 (by show cells ≤ 601024; omega) (by show slots ≤ 7293034; omega) (fun H locs hP hD hS => ?_)
  refine lv_aload_n hx hb dL_law_926 rfl (lv_at hl 3 rfl) ?_
  have hP : va_P D vwCl (([oD cD qd g, oJ cJ qo f] ++ wb1) ++ (wm ++ [])) H := by rw [List.append_nil]; exact hP
  have hD : va_D (fun q : Nat => s.heap.size ≤ q) (([oD cD qd g, oJ cJ qo f] ++ wb1) ++ (wm ++ [])) := by rw [List.append_nil]; exact hD
  refine call_Ri (wa := ([oD cD qd g, oJ cJ qo f] ++ wb1)) (w0 := wm) (w1 := wm1) (wb := []) (As := []) (rest := [.int r]) hx hb hml hown hAW hN hM (cwVA 0 hAW q1029 q1030 q1031 q50 q1032 hd_X10_changes n1 n2 n3 n4) hK2 hP hD hS hA h0.2 (by rw [a1.2, a0.2]) rfl rfl rfl hl.1 rfl (lv_room (Nat.le_of_ble_eq_true rfl)) dL_law_927 (by show cells ≤ 601024; omega) (by show slots ≤ 7293034; omega) (fun H locs hP hD hS => ?_)
  rw [List.append_nil] at hP hD
  have hP : va_P D vwCl ([oD cD qd g, oJ cJ qo f] ++ (wb1 ++ wm1)) H := hP
  have hD : va_D (fun q : Nat => s.heap.size ≤ q) ([oD cD qd g, oJ cJ qo f] ++ (wb1 ++ wm1)) := hD
  refine lv_icmp_eq (tgt := 1431) hx hb dL_law_930 (by decide) (fun _ => ?_) (fun c9 => absurd rfl c9)
  refine W.widen (k := cells + 1) (n := slots + 6) (by omega) (by omega) ?_
  exact K _ _ _ _ _ _ _ _ ⟨hR1, hP, hD, hS, lv_sub hl [0, 1, 2, 3, 4, 5] rfl⟩
set_option maxHeartbeats 1000000 in
set_option maxRecDepth 100000 in
theorem lk_18 {p : Program} {l : Launch} {e : Env} {s : State} {m : MethodId} {below : List Frame} {meth : Method} {c : Code} {b L : Nat} {xs : Nat → Int32} {D : va_G} {cI cZ cJ cD : ClassId} (C : LwE p l s m meth c b L xs D cI cZ cJ cD) {Q : State → Prop} {q u : Nat → Nat} {qo qd i : Nat} {th : Int32} {f : Nat → Int64} {g : Nat → UInt64} {wb wm : va_W} {H : Heap} {locs : List Loc} {ls : Array Slot} (hst : LSt s D cI cZ cJ cD q u qo qd b i th f g wb wm H locs ls) (hi : i + 4 ≤ L) {cells slots : Nat} (hz1 : cells + 1 ≤ 601024) (hz2 : slots + 6 ≤ 7293034)
    (K : ∀ (th : Int32) (f : Nat → Int64) (g : Nat → UInt64) (wb wm : va_W) (H : Heap) (locs : List Loc) (ls : Array Slot), LSt s D cI cZ cJ cD q u qo qd b i th f g wb wm H locs ls → W p l e room_1 s m #[Value.ref b] below meth c H locs (cells + 1) (slots + 6) Q (F0 m 1431 ls [])) : W p l e room_1 s m #[Value.ref b] below meth c H locs cells slots Q (F0 m 935 ls []) := by
  obtain ⟨hx, hb, hr, hml, hown, hAW, hN, hT, hNc, hX, hbl, hlk, hK, hL, hl0⟩ := C
  obtain ⟨hR, hP, hD, hS, hl⟩ := hst
  have hA : ∀ q : Nat, s.heap.size ≤ q → (fun q : Nat => s.heap.size ≤ q) q := fun _ h => h
  have hbA : ¬ (fun q : Nat => s.heap.size ≤ q) b := Nat.not_le.mpr hbl
  have hK2 : va_K D vwCl (ty2 cI cZ) s := hK.sub [0, 1] rfl
  refine lv_aload_n hx hb dL_law_935 rfl (lv_at hl 2 rfl) ?_
  refine lv_aload_n hx hb dL_law_936 rfl (lv_at hl 1 rfl) ?_
  refine lv_iload hx hb dL_law_937 (lv_at hl 0 rfl) ?_
  refine lv_iconst (v := 1) hx hb dL_law_939 (by decide) ?_
  refine n_iadd (x := i) (y := 1) hx hb dL_law_940 ?_
  refine va_sld hx hb hX hbl hbA hS (vp_in_nI (show i + 1 < L by omega) (by omega)) dL_law_941 ?_
  refine lv_aload_n hx hb dL_law_942 rfl (lv_at hl 4 rfl) ?_
  obtain ⟨wb1, wm1, f1, k, r, ⟨rm, mc, ms, r1, r2, r3, r4, r5, r6, hH⟩, ⟨rn, n1, n2, n3, n4, hM⟩, hR1, hout⟩ := st_change l hl0 D cI cZ cJ cD q u hR qo f (xs (nI (i + 1)).toNatClampNeg)
  have a0 := hR.ads
  have a1 := hR1.ads
  have h0 := hR.heads
  have h1 := hR1.heads
  have hP : va_P D vwCl ([oD cD qd g] ++ (([oJ cJ qo f] ++ wb) ++ wm)) H := hP
  have hD : va_D (fun q : Nat => s.heap.size ≤ q) ([oD cD qd g] ++ (([oJ cJ qo f] ++ wb) ++ wm)) := hD
  refine call_H (wa := [oD cD qd g]) (w0 := ([oJ cJ qo f] ++ wb)) (w1 := ([oJ cJ qo f1] ++ wb1)) (wb := wm) (As := [.ref (q 0), .int (xs (nI (i + 1)).toNatClampNeg), .ref qo]) (rest := []) hx hb hml hown hAW hN hT hNc hH (cwSH 3 hAW q690 q691 q40 qw_change hdL_change r1 r2 r3 r4) hK hP hD hS hA (by rw [List.map_append, List.map_append, a1.1, a0.1]; rfl) rfl hl.1 rfl (lv_room (Nat.le_of_ble_eq_true rfl)) dL_law_943 (by show cells + mc ≤ 601024; omega) (by show slots + ms ≤ 7293034; omega) (fun H locs hP hD hS => ?_)
  refine W.widen (k := cells + 1) (n := slots + 6) (by omega) (by omega) ?_
  have hP : va_P D vwCl ([oD cD qd g, oJ cJ qo f1] ++ (wb1 ++ wm)) H := hP
  have hD : va_D (fun q : Nat => s.heap.size ≤ q) ([oD cD qd g, oJ cJ qo f1] ++ (wb1 ++ wm)) := hD
  refine lv_istore (lv' := [(6, .int k), (5, .int (nI i)), (0, .ref b), (1, .ref (q 0)), (2, .ref (u 0)), (3, .ref qo), (4, .ref qd)]) hx hb dL_law_946 hl (by decide) rfl (fun ls hl => ?_)
  refine lv_aload_n hx hb dL_law_948 rfl (lv_at hl 4 rfl) ?_
  refine lv_aload_n hx hb dL_law_949 rfl (lv_at hl 2 rfl) ?_
  refine lv_iload hx hb dL_law_950 (lv_at hl 1 rfl) ?_
  refine lv_iconst (v := 1) hx hb dL_law_952 (by decide) ?_
  refine n_iadd (x := i) (y := 1) hx hb dL_law_953 ?_
  refine va_sld hx hb hX hbl hbA hS (vp_in_nI (show i + 1 < L by omega) (by omega)) dL_law_954 ?_
  have hP : va_P D vwCl (([oD cD qd g, oJ cJ qo f1] ++ wb1) ++ (wm ++ [])) H := by rw [List.append_nil]; exact hP
  have hD : va_D (fun q : Nat => s.heap.size ≤ q) (([oD cD qd g, oJ cJ qo f1] ++ wb1) ++ (wm ++ [])) := by rw [List.append_nil]; exact hD
  refine call_Ri (wa := ([oD cD qd g, oJ cJ qo f1] ++ wb1)) (w0 := wm) (w1 := wm1) (wb := []) (As := [.int (xs (nI (i + 1)).toNatClampNeg)]) (rest := []) hx hb hml hown hAW hN hM (cwVA 1 hAW q1037 q1038 q1039 q50 q1040 hd_X10_change n1 n2 n3 n4) hK2 hP hD hS hA h0.2 (by rw [a1.2, a0.2]) rfl rfl rfl hl.1 rfl (lv_room (Nat.le_of_ble_eq_true rfl)) dL_law_955 (by show cells + 1 ≤ 601024; omega) (by show slots + 6 ≤ 7293034; omega) (fun H locs hP hD hS => ?_)
  rw [List.append_nil] at hP hD
  have hP : va_P D vwCl ([oD cD qd g, oJ cJ qo f1] ++ (wb1 ++ wm1)) H := hP
  have hD : va_D (fun q : Nat => s.heap.size ≤ q) ([oD cD qd g, oJ cJ qo f1] ++ (wb1 ++ wm1)) := hD
  refine lv_istore (lv' := [(7, .int r), (6, .int k), (5, .int (nI i)), (0, .ref b), (1, .ref (q 0)), (2, .ref (u 0)), (3, .ref qo), (4, .ref qd)]) hx hb dL_law_958 hl (by decide) rfl (fun ls hl => ?_)
  refine lv_aload_n hx hb dL_law_960 rfl (lv_at hl 5 rfl) ?_
  obtain ⟨rt, t1, t2, t3, t4, hTh⟩ := st_thrown l D cI cZ q u hR1
  have hP : va_P D vwCl (([oD cD qd g, oJ cJ qo f1] ++ wb1) ++ (wm1 ++ [])) H := by rw [List.append_nil]; exact hP
  have hD : va_D (fun q : Nat => s.heap.size ≤ q) (([oD cD qd g, oJ cJ qo f1] ++ wb1) ++ (wm1 ++ [])) := by rw [List.append_nil]; exact hD
  refine call_Ri (wa := ([oD cD qd g, oJ cJ qo f1] ++ wb1)) (w0 := wm1) (w1 := wm1) (wb := []) (As := []) (rest := []) hx hb hml hown hAW hN hTh (cwVA 0 hAW q895 q896 q897 q50 q898 hd_X10_thrown t1 t2 t3 t4) hK2 hP hD hS hA h1.2 rfl rfl rfl rfl hl.1 rfl (lv_room (Nat.le_of_ble_eq_true rfl)) dL_law_961 (by show cells + 1 ≤ 601024; omega) (by show slots + 6 ≤ 7293034; omega) (fun H locs hP hD hS => ?_)
  rw [List.append_nil] at hP hD
  have hP : va_P D vwCl ([oD cD qd g, oJ cJ qo f1] ++ (wb1 ++ wm1)) H := hP
  have hD : va_D (fun q : Nat => s.heap.size ≤ q) ([oD cD qd g, oJ cJ qo f1] ++ (wb1 ++ wm1)) := hD
  refine lv_iload hx hb dL_law_964 (lv_at hl 1 rfl) ?_
  refine lv_icmp_eq (tgt := 971) hx hb dL_law_966 (by decide) (fun _ => ?_) (fun c9 => absurd rfl c9)
  refine lv_iload hx hb dL_law_971 (lv_at hl 1 rfl) ?_
  refine lv_if_ne (tgt := 988) hx hb dL_law_973 (by decide) (fun c973 => ?_) (fun c973 => ?_)
  · skip
    refine lv_goto (tgt := 1431) hx hb dL_law_988 (by decide) ?_
    exact K _ _ _ _ _ _ _ _ ⟨hR1, hP, hD, hS, lv_sub hl [2, 3, 4, 5, 6, 7] rfl⟩
  · skip
    refine lv_aload_n hx hb dL_law_976 rfl (lv_at hl 6 rfl) ?_
    refine lv_iconst (v := 0) hx hb dL_law_977 (by decide) ?_
    refine va_lald hx hb hK hP 1 2 rfl rfl (pk_in 0 1 (by decide)) dL_law_978 ?_
    show W p l e room_1 s m #[Value.ref b] below meth c H locs _ _ Q (F0 m 979 ls [.long (f1 0)])
    refine lv_iload hx hb dL_law_979 (lv_at hl 0 rfl) ?_
    refine lv_i2l (v := r.toInt64) hx hb dL_law_981 rfl ?_
    refine W.lcmp hx hb dL_law_982 ?_
    have e9 : lg_cmp (f1 0) r.toInt64 = 0 := by rw [show (f1 0) = r.toInt64 from hout c973]; exact lg_self _
    refine lv_if_eq (tgt := 988) hx hb dL_law_983 (by decide) (fun _ => ?_) (fun c7 => absurd e9 c7)
    refine lv_goto (tgt := 1431) hx hb dL_law_988 (by decide) ?_
    exact K _ _ _ _ _ _ _ _ ⟨hR1, hP, hD, hS, lv_sub hl [2, 3, 4, 5, 6, 7] rfl⟩
set_option maxHeartbeats 1000000 in
set_option maxRecDepth 100000 in
theorem lk_19 {p : Program} {l : Launch} {e : Env} {s : State} {m : MethodId} {below : List Frame} {meth : Method} {c : Code} {b L : Nat} {xs : Nat → Int32} {D : va_G} {cI cZ cJ cD : ClassId} (C : LwE p l s m meth c b L xs D cI cZ cJ cD) {Q : State → Prop} {q u : Nat → Nat} {qo qd i : Nat} {th : Int32} {f : Nat → Int64} {g : Nat → UInt64} {wb wm : va_W} {H : Heap} {locs : List Loc} {ls : Array Slot} (hst : LSt s D cI cZ cJ cD q u qo qd b i th f g wb wm H locs ls) (hi : i + 4 ≤ L) {cells slots : Nat} (hz1 : cells + 1 ≤ 601024) (hz2 : slots + 6 ≤ 7293034)
    (K : ∀ (th : Int32) (f : Nat → Int64) (g : Nat → UInt64) (wb wm : va_W) (H : Heap) (locs : List Loc) (ls : Array Slot), LSt s D cI cZ cJ cD q u qo qd b i th f g wb wm H locs ls → W p l e room_1 s m #[Value.ref b] below meth c H locs (cells + 1) (slots + 6) Q (F0 m 1431 ls [])) : W p l e room_1 s m #[Value.ref b] below meth c H locs cells slots Q (F0 m 991 ls []) := by
  obtain ⟨hx, hb, hr, hml, hown, hAW, hN, hT, hNc, hX, hbl, hlk, hK, hL, hl0⟩ := C
  obtain ⟨hR, hP, hD, hS, hl⟩ := hst
  have hA : ∀ q : Nat, s.heap.size ≤ q → (fun q : Nat => s.heap.size ≤ q) q := fun _ h => h
  have hbA : ¬ (fun q : Nat => s.heap.size ≤ q) b := Nat.not_le.mpr hbl
  have hK2 : va_K D vwCl (ty2 cI cZ) s := hK.sub [0, 1] rfl
  refine lv_aload_n hx hb dL_law_991 rfl (lv_at hl 2 rfl) ?_
  obtain ⟨wb1, wm1, r, ⟨rm, r1, r2, r3, r4, hH⟩, ⟨rn, n1, n2, n3, n4, hM⟩, hR1⟩ := st_bestCost l D cI cZ q u hR
  have a0 := hR.ads
  have a1 := hR1.ads
  have h0 := hR.heads
  have h1 := hR1.heads
  refine call_Ri (wa := [oD cD qd g, oJ cJ qo f]) (w0 := wb) (w1 := wb1) (wb := wm) (As := []) (rest := []) hx hb hml hown hAW hN hH (cwVA 0 hAW q407 q408 q409 q41 q410 hd_X9_bestCost r1 r2 r3 r4) hK2 hP hD hS hA h0.1 (by rw [a1.1, a0.1]) rfl rfl rfl hl.1 rfl (lv_room (Nat.le_of_ble_eq_true rfl)) dL_law_992 (by show cells ≤ 601024; omega) (by show slots ≤ 7293034; omega) (fun H locs hP hD hS => ?_)
  refine lv_aload_n hx hb dL_law_995 rfl (lv_at hl 3 rfl) ?_
  have hP : va_P D vwCl (([oD cD qd g, oJ cJ qo f] ++ wb1) ++ (wm ++ [])) H := by rw [List.append_nil]; exact hP
  have hD : va_D (fun q : Nat => s.heap.size ≤ q) (([oD cD qd g, oJ cJ qo f] ++ wb1) ++ (wm ++ [])) := by rw [List.append_nil]; exact hD
  refine call_Ri (wa := ([oD cD qd g, oJ cJ qo f] ++ wb1)) (w0 := wm) (w1 := wm1) (wb := []) (As := []) (rest := [.int r]) hx hb hml hown hAW hN hM (cwVA 0 hAW q1045 q1046 q1047 q50 q1048 hd_X10_bestCost n1 n2 n3 n4) hK2 hP hD hS hA h0.2 (by rw [a1.2, a0.2]) rfl rfl rfl hl.1 rfl (lv_room (Nat.le_of_ble_eq_true rfl)) dL_law_996 (by show cells ≤ 601024; omega) (by show slots ≤ 7293034; omega) (fun H locs hP hD hS => ?_)
  rw [List.append_nil] at hP hD
  have hP : va_P D vwCl ([oD cD qd g, oJ cJ qo f] ++ (wb1 ++ wm1)) H := hP
  have hD : va_D (fun q : Nat => s.heap.size ≤ q) ([oD cD qd g, oJ cJ qo f] ++ (wb1 ++ wm1)) := hD
  refine lv_icmp_eq (tgt := 1431) hx hb dL_law_999 (by decide) (fun _ => ?_) (fun c9 => absurd rfl c9)
  refine W.widen (k := cells + 1) (n := slots + 6) (by omega) (by omega) ?_
  exact K _ _ _ _ _ _ _ _ ⟨hR1, hP, hD, hS, lv_sub hl [0, 1, 2, 3, 4, 5] rfl⟩
set_option maxHeartbeats 1000000 in
set_option maxRecDepth 100000 in
theorem lk_20 {p : Program} {l : Launch} {e : Env} {s : State} {m : MethodId} {below : List Frame} {meth : Method} {c : Code} {b L : Nat} {xs : Nat → Int32} {D : va_G} {cI cZ cJ cD : ClassId} (C : LwE p l s m meth c b L xs D cI cZ cJ cD) {Q : State → Prop} {q u : Nat → Nat} {qo qd i : Nat} {th : Int32} {f : Nat → Int64} {g : Nat → UInt64} {wb wm : va_W} {H : Heap} {locs : List Loc} {ls : Array Slot} (hst : LSt s D cI cZ cJ cD q u qo qd b i th f g wb wm H locs ls) (hi : i + 4 ≤ L) {cells slots : Nat} (hz1 : cells + 1 ≤ 601024) (hz2 : slots + 6 ≤ 7293034)
    (K : ∀ (th : Int32) (f : Nat → Int64) (g : Nat → UInt64) (wb wm : va_W) (H : Heap) (locs : List Loc) (ls : Array Slot), LSt s D cI cZ cJ cD q u qo qd b i th f g wb wm H locs ls → W p l e room_1 s m #[Value.ref b] below meth c H locs (cells + 1) (slots + 6) Q (F0 m 1431 ls [])) : W p l e room_1 s m #[Value.ref b] below meth c H locs cells slots Q (F0 m 1004 ls []) := by
  obtain ⟨hx, hb, hr, hml, hown, hAW, hN, hT, hNc, hX, hbl, hlk, hK, hL, hl0⟩ := C
  obtain ⟨hR, hP, hD, hS, hl⟩ := hst
  have hA : ∀ q : Nat, s.heap.size ≤ q → (fun q : Nat => s.heap.size ≤ q) q := fun _ h => h
  have hbA : ¬ (fun q : Nat => s.heap.size ≤ q) b := Nat.not_le.mpr hbl
  have hK2 : va_K D vwCl (ty2 cI cZ) s := hK.sub [0, 1] rfl
  refine lv_aload_n hx hb dL_law_1004 rfl (lv_at hl 2 rfl) ?_
  refine lv_aload_n hx hb dL_law_1005 rfl (lv_at hl 1 rfl) ?_
  refine lv_iload hx hb dL_law_1006 (lv_at hl 0 rfl) ?_
  refine lv_iconst (v := 1) hx hb dL_law_1008 (by decide) ?_
  refine n_iadd (x := i) (y := 1) hx hb dL_law_1009 ?_
  refine va_sld hx hb hX hbl hbA hS (vp_in_nI (show i + 1 < L by omega) (by omega)) dL_law_1010 ?_
  refine lv_aload_n hx hb dL_law_1011 rfl (lv_at hl 4 rfl) ?_
  obtain ⟨wb1, wm1, f1, k, r, ⟨rm, mc, ms, r1, r2, r3, r4, r5, r6, hH⟩, ⟨rn, n1, n2, n3, n4, hM⟩, hR1, hout⟩ := st_leastCost l hl0 D cI cZ cJ cD q u hR qo f (xs (nI (i + 1)).toNatClampNeg)
  have a0 := hR.ads
  have a1 := hR1.ads
  have h0 := hR.heads
  have h1 := hR1.heads
  have hP : va_P D vwCl ([oD cD qd g] ++ (([oJ cJ qo f] ++ wb) ++ wm)) H := hP
  have hD : va_D (fun q : Nat => s.heap.size ≤ q) ([oD cD qd g] ++ (([oJ cJ qo f] ++ wb) ++ wm)) := hD
  refine call_H (wa := [oD cD qd g]) (w0 := ([oJ cJ qo f] ++ wb)) (w1 := ([oJ cJ qo f1] ++ wb1)) (wb := wm) (As := [.ref (q 0), .int (xs (nI (i + 1)).toNatClampNeg), .ref qo]) (rest := []) hx hb hml hown hAW hN hT hNc hH (cwSH 3 hAW q705 q706 q40 qw_leastCost hdL_leastCost r1 r2 r3 r4) hK hP hD hS hA (by rw [List.map_append, List.map_append, a1.1, a0.1]; rfl) rfl hl.1 rfl (lv_room (Nat.le_of_ble_eq_true rfl)) dL_law_1012 (by show cells + mc ≤ 601024; omega) (by show slots + ms ≤ 7293034; omega) (fun H locs hP hD hS => ?_)
  refine W.widen (k := cells + 1) (n := slots + 6) (by omega) (by omega) ?_
  have hP : va_P D vwCl ([oD cD qd g, oJ cJ qo f1] ++ (wb1 ++ wm)) H := hP
  have hD : va_D (fun q : Nat => s.heap.size ≤ q) ([oD cD qd g, oJ cJ qo f1] ++ (wb1 ++ wm)) := hD
  refine lv_istore (lv' := [(6, .int k), (5, .int (nI i)), (0, .ref b), (1, .ref (q 0)), (2, .ref (u 0)), (3, .ref qo), (4, .ref qd)]) hx hb dL_law_1015 hl (by decide) rfl (fun ls hl => ?_)
  refine lv_aload_n hx hb dL_law_1017 rfl (lv_at hl 4 rfl) ?_
  refine lv_aload_n hx hb dL_law_1018 rfl (lv_at hl 2 rfl) ?_
  refine lv_iload hx hb dL_law_1019 (lv_at hl 1 rfl) ?_
  refine lv_iconst (v := 1) hx hb dL_law_1021 (by decide) ?_
  refine n_iadd (x := i) (y := 1) hx hb dL_law_1022 ?_
  refine va_sld hx hb hX hbl hbA hS (vp_in_nI (show i + 1 < L by omega) (by omega)) dL_law_1023 ?_
  have hP : va_P D vwCl (([oD cD qd g, oJ cJ qo f1] ++ wb1) ++ (wm ++ [])) H := by rw [List.append_nil]; exact hP
  have hD : va_D (fun q : Nat => s.heap.size ≤ q) (([oD cD qd g, oJ cJ qo f1] ++ wb1) ++ (wm ++ [])) := by rw [List.append_nil]; exact hD
  refine call_Ri (wa := ([oD cD qd g, oJ cJ qo f1] ++ wb1)) (w0 := wm) (w1 := wm1) (wb := []) (As := [.int (xs (nI (i + 1)).toNatClampNeg)]) (rest := []) hx hb hml hown hAW hN hM (cwVA 1 hAW q1049 q1050 q1051 q50 q1052 hd_X10_leastCost n1 n2 n3 n4) hK2 hP hD hS hA h0.2 (by rw [a1.2, a0.2]) rfl rfl rfl hl.1 rfl (lv_room (Nat.le_of_ble_eq_true rfl)) dL_law_1024 (by show cells + 1 ≤ 601024; omega) (by show slots + 6 ≤ 7293034; omega) (fun H locs hP hD hS => ?_)
  rw [List.append_nil] at hP hD
  have hP : va_P D vwCl ([oD cD qd g, oJ cJ qo f1] ++ (wb1 ++ wm1)) H := hP
  have hD : va_D (fun q : Nat => s.heap.size ≤ q) ([oD cD qd g, oJ cJ qo f1] ++ (wb1 ++ wm1)) := hD
  refine lv_istore (lv' := [(7, .int r), (6, .int k), (5, .int (nI i)), (0, .ref b), (1, .ref (q 0)), (2, .ref (u 0)), (3, .ref qo), (4, .ref qd)]) hx hb dL_law_1027 hl (by decide) rfl (fun ls hl => ?_)
  refine lv_aload_n hx hb dL_law_1029 rfl (lv_at hl 5 rfl) ?_
  obtain ⟨rt, t1, t2, t3, t4, hTh⟩ := st_thrown l D cI cZ q u hR1
  have hP : va_P D vwCl (([oD cD qd g, oJ cJ qo f1] ++ wb1) ++ (wm1 ++ [])) H := by rw [List.append_nil]; exact hP
  have hD : va_D (fun q : Nat => s.heap.size ≤ q) (([oD cD qd g, oJ cJ qo f1] ++ wb1) ++ (wm1 ++ [])) := by rw [List.append_nil]; exact hD
  refine call_Ri (wa := ([oD cD qd g, oJ cJ qo f1] ++ wb1)) (w0 := wm1) (w1 := wm1) (wb := []) (As := []) (rest := []) hx hb hml hown hAW hN hTh (cwVA 0 hAW q895 q896 q897 q50 q898 hd_X10_thrown t1 t2 t3 t4) hK2 hP hD hS hA h1.2 rfl rfl rfl rfl hl.1 rfl (lv_room (Nat.le_of_ble_eq_true rfl)) dL_law_1030 (by show cells + 1 ≤ 601024; omega) (by show slots + 6 ≤ 7293034; omega) (fun H locs hP hD hS => ?_)
  rw [List.append_nil] at hP hD
  have hP : va_P D vwCl ([oD cD qd g, oJ cJ qo f1] ++ (wb1 ++ wm1)) H := hP
  have hD : va_D (fun q : Nat => s.heap.size ≤ q) ([oD cD qd g, oJ cJ qo f1] ++ (wb1 ++ wm1)) := hD
  refine lv_iload hx hb dL_law_1033 (lv_at hl 1 rfl) ?_
  refine lv_icmp_eq (tgt := 1040) hx hb dL_law_1035 (by decide) (fun _ => ?_) (fun c9 => absurd rfl c9)
  refine lv_iload hx hb dL_law_1040 (lv_at hl 1 rfl) ?_
  refine lv_if_ne (tgt := 1057) hx hb dL_law_1042 (by decide) (fun c1042 => ?_) (fun c1042 => ?_)
  · skip
    refine lv_goto (tgt := 1431) hx hb dL_law_1057 (by decide) ?_
    exact K _ _ _ _ _ _ _ _ ⟨hR1, hP, hD, hS, lv_sub hl [2, 3, 4, 5, 6, 7] rfl⟩
  · skip
    refine lv_aload_n hx hb dL_law_1045 rfl (lv_at hl 6 rfl) ?_
    refine lv_iconst (v := 0) hx hb dL_law_1046 (by decide) ?_
    refine va_lald hx hb hK hP 1 2 rfl rfl (pk_in 0 1 (by decide)) dL_law_1047 ?_
    show W p l e room_1 s m #[Value.ref b] below meth c H locs _ _ Q (F0 m 1048 ls [.long (f1 0)])
    refine lv_iload hx hb dL_law_1048 (lv_at hl 0 rfl) ?_
    refine lv_i2l (v := r.toInt64) hx hb dL_law_1050 rfl ?_
    refine W.lcmp hx hb dL_law_1051 ?_
    have e9 : lg_cmp (f1 0) r.toInt64 = 0 := by rw [show (f1 0) = r.toInt64 from hout c1042]; exact lg_self _
    refine lv_if_eq (tgt := 1057) hx hb dL_law_1052 (by decide) (fun _ => ?_) (fun c7 => absurd e9 c7)
    refine lv_goto (tgt := 1431) hx hb dL_law_1057 (by decide) ?_
    exact K _ _ _ _ _ _ _ _ ⟨hR1, hP, hD, hS, lv_sub hl [2, 3, 4, 5, 6, 7] rfl⟩
set_option maxHeartbeats 1000000 in
set_option maxRecDepth 100000 in
theorem lk_21 {p : Program} {l : Launch} {e : Env} {s : State} {m : MethodId} {below : List Frame} {meth : Method} {c : Code} {b L : Nat} {xs : Nat → Int32} {D : va_G} {cI cZ cJ cD : ClassId} (C : LwE p l s m meth c b L xs D cI cZ cJ cD) {Q : State → Prop} {q u : Nat → Nat} {qo qd i : Nat} {th : Int32} {f : Nat → Int64} {g : Nat → UInt64} {wb wm : va_W} {H : Heap} {locs : List Loc} {ls : Array Slot} (hst : LSt s D cI cZ cJ cD q u qo qd b i th f g wb wm H locs ls) (hi : i + 4 ≤ L) {cells slots : Nat} (hz1 : cells + 1 ≤ 601024) (hz2 : slots + 6 ≤ 7293034)
    (K : ∀ (th : Int32) (f : Nat → Int64) (g : Nat → UInt64) (wb wm : va_W) (H : Heap) (locs : List Loc) (ls : Array Slot), LSt s D cI cZ cJ cD q u qo qd b i th f g wb wm H locs ls → W p l e room_1 s m #[Value.ref b] below meth c H locs (cells + 1) (slots + 6) Q (F0 m 1431 ls [])) : W p l e room_1 s m #[Value.ref b] below meth c H locs cells slots Q (F0 m 1060 ls []) := by
  obtain ⟨hx, hb, hr, hml, hown, hAW, hN, hT, hNc, hX, hbl, hlk, hK, hL, hl0⟩ := C
  obtain ⟨hR, hP, hD, hS, hl⟩ := hst
  have hA : ∀ q : Nat, s.heap.size ≤ q → (fun q : Nat => s.heap.size ≤ q) q := fun _ h => h
  have hbA : ¬ (fun q : Nat => s.heap.size ≤ q) b := Nat.not_le.mpr hbl
  have hK2 : va_K D vwCl (ty2 cI cZ) s := hK.sub [0, 1] rfl
  refine lv_aload_n hx hb dL_law_1060 rfl (lv_at hl 2 rfl) ?_
  obtain ⟨wb1, wm1, r, ⟨rm, r1, r2, r3, r4, hH⟩, ⟨rn, n1, n2, n3, n4, hM⟩, hR1⟩ := st_greedyChanges l D cI cZ q u hR
  have a0 := hR.ads
  have a1 := hR1.ads
  have h0 := hR.heads
  have h1 := hR1.heads
  refine call_Ri (wa := [oD cD qd g, oJ cJ qo f]) (w0 := wb) (w1 := wb1) (wb := wm) (As := []) (rest := []) hx hb hml hown hAW hN hH (cwVA 0 hAW q411 q412 q413 q41 q414 hd_X9_greedyChanges r1 r2 r3 r4) hK2 hP hD hS hA h0.1 (by rw [a1.1, a0.1]) rfl rfl rfl hl.1 rfl (lv_room (Nat.le_of_ble_eq_true rfl)) dL_law_1061 (by show cells ≤ 601024; omega) (by show slots ≤ 7293034; omega) (fun H locs hP hD hS => ?_)
  refine lv_aload_n hx hb dL_law_1064 rfl (lv_at hl 3 rfl) ?_
  have hP : va_P D vwCl (([oD cD qd g, oJ cJ qo f] ++ wb1) ++ (wm ++ [])) H := by rw [List.append_nil]; exact hP
  have hD : va_D (fun q : Nat => s.heap.size ≤ q) (([oD cD qd g, oJ cJ qo f] ++ wb1) ++ (wm ++ [])) := by rw [List.append_nil]; exact hD
  refine call_Ri (wa := ([oD cD qd g, oJ cJ qo f] ++ wb1)) (w0 := wm) (w1 := wm1) (wb := []) (As := []) (rest := [.int r]) hx hb hml hown hAW hN hM (cwVA 0 hAW q1053 q1054 q1055 q50 q1056 hd_X10_greedyChanges n1 n2 n3 n4) hK2 hP hD hS hA h0.2 (by rw [a1.2, a0.2]) rfl rfl rfl hl.1 rfl (lv_room (Nat.le_of_ble_eq_true rfl)) dL_law_1065 (by show cells ≤ 601024; omega) (by show slots ≤ 7293034; omega) (fun H locs hP hD hS => ?_)
  rw [List.append_nil] at hP hD
  have hP : va_P D vwCl ([oD cD qd g, oJ cJ qo f] ++ (wb1 ++ wm1)) H := hP
  have hD : va_D (fun q : Nat => s.heap.size ≤ q) ([oD cD qd g, oJ cJ qo f] ++ (wb1 ++ wm1)) := hD
  refine lv_icmp_eq (tgt := 1431) hx hb dL_law_1068 (by decide) (fun _ => ?_) (fun c9 => absurd rfl c9)
  refine W.widen (k := cells + 1) (n := slots + 6) (by omega) (by omega) ?_
  exact K _ _ _ _ _ _ _ _ ⟨hR1, hP, hD, hS, lv_sub hl [0, 1, 2, 3, 4, 5] rfl⟩
set_option maxHeartbeats 1000000 in
set_option maxRecDepth 100000 in
theorem lk_22 {p : Program} {l : Launch} {e : Env} {s : State} {m : MethodId} {below : List Frame} {meth : Method} {c : Code} {b L : Nat} {xs : Nat → Int32} {D : va_G} {cI cZ cJ cD : ClassId} (C : LwE p l s m meth c b L xs D cI cZ cJ cD) {Q : State → Prop} {q u : Nat → Nat} {qo qd i : Nat} {th : Int32} {f : Nat → Int64} {g : Nat → UInt64} {wb wm : va_W} {H : Heap} {locs : List Loc} {ls : Array Slot} (hst : LSt s D cI cZ cJ cD q u qo qd b i th f g wb wm H locs ls) (hi : i + 4 ≤ L) {cells slots : Nat} (hz1 : cells + 1 ≤ 601024) (hz2 : slots + 6 ≤ 7293034)
    (K : ∀ (th : Int32) (f : Nat → Int64) (g : Nat → UInt64) (wb wm : va_W) (H : Heap) (locs : List Loc) (ls : Array Slot), LSt s D cI cZ cJ cD q u qo qd b i th f g wb wm H locs ls → W p l e room_1 s m #[Value.ref b] below meth c H locs (cells + 1) (slots + 6) Q (F0 m 1431 ls [])) : W p l e room_1 s m #[Value.ref b] below meth c H locs cells slots Q (F0 m 1073 ls []) := by
  obtain ⟨hx, hb, hr, hml, hown, hAW, hN, hT, hNc, hX, hbl, hlk, hK, hL, hl0⟩ := C
  obtain ⟨hR, hP, hD, hS, hl⟩ := hst
  have hA : ∀ q : Nat, s.heap.size ≤ q → (fun q : Nat => s.heap.size ≤ q) q := fun _ h => h
  have hbA : ¬ (fun q : Nat => s.heap.size ≤ q) b := Nat.not_le.mpr hbl
  have hK2 : va_K D vwCl (ty2 cI cZ) s := hK.sub [0, 1] rfl
  refine lv_aload_n hx hb dL_law_1073 rfl (lv_at hl 2 rfl) ?_
  refine lv_aload_n hx hb dL_law_1074 rfl (lv_at hl 1 rfl) ?_
  refine lv_iload hx hb dL_law_1075 (lv_at hl 0 rfl) ?_
  refine lv_iconst (v := 1) hx hb dL_law_1077 (by decide) ?_
  refine n_iadd (x := i) (y := 1) hx hb dL_law_1078 ?_
  refine va_sld hx hb hX hbl hbA hS (vp_in_nI (show i + 1 < L by omega) (by omega)) dL_law_1079 ?_
  refine lv_aload_n hx hb dL_law_1080 rfl (lv_at hl 4 rfl) ?_
  obtain ⟨wb1, wm1, f1, k, r, ⟨rm, mc, ms, r1, r2, r3, r4, r5, r6, hH⟩, ⟨rn, n1, n2, n3, n4, hM⟩, hR1, hout⟩ := st_greedyChange l hl0 D cI cZ cJ cD q u hR qo f (xs (nI (i + 1)).toNatClampNeg)
  have a0 := hR.ads
  have a1 := hR1.ads
  have h0 := hR.heads
  have h1 := hR1.heads
  have hP : va_P D vwCl ([oD cD qd g] ++ (([oJ cJ qo f] ++ wb) ++ wm)) H := hP
  have hD : va_D (fun q : Nat => s.heap.size ≤ q) ([oD cD qd g] ++ (([oJ cJ qo f] ++ wb) ++ wm)) := hD
  refine call_H (wa := [oD cD qd g]) (w0 := ([oJ cJ qo f] ++ wb)) (w1 := ([oJ cJ qo f1] ++ wb1)) (wb := wm) (As := [.ref (q 0), .int (xs (nI (i + 1)).toNatClampNeg), .ref qo]) (rest := []) hx hb hml hown hAW hN hT hNc hH (cwSH 3 hAW q734 q735 q40 qw_greedyChange hdL_greedyChange r1 r2 r3 r4) hK hP hD hS hA (by rw [List.map_append, List.map_append, a1.1, a0.1]; rfl) rfl hl.1 rfl (lv_room (Nat.le_of_ble_eq_true rfl)) dL_law_1081 (by show cells + mc ≤ 601024; omega) (by show slots + ms ≤ 7293034; omega) (fun H locs hP hD hS => ?_)
  refine W.widen (k := cells + 1) (n := slots + 6) (by omega) (by omega) ?_
  have hP : va_P D vwCl ([oD cD qd g, oJ cJ qo f1] ++ (wb1 ++ wm)) H := hP
  have hD : va_D (fun q : Nat => s.heap.size ≤ q) ([oD cD qd g, oJ cJ qo f1] ++ (wb1 ++ wm)) := hD
  refine lv_istore (lv' := [(6, .int k), (5, .int (nI i)), (0, .ref b), (1, .ref (q 0)), (2, .ref (u 0)), (3, .ref qo), (4, .ref qd)]) hx hb dL_law_1084 hl (by decide) rfl (fun ls hl => ?_)
  refine lv_aload_n hx hb dL_law_1086 rfl (lv_at hl 4 rfl) ?_
  refine lv_aload_n hx hb dL_law_1087 rfl (lv_at hl 2 rfl) ?_
  refine lv_iload hx hb dL_law_1088 (lv_at hl 1 rfl) ?_
  refine lv_iconst (v := 1) hx hb dL_law_1090 (by decide) ?_
  refine n_iadd (x := i) (y := 1) hx hb dL_law_1091 ?_
  refine va_sld hx hb hX hbl hbA hS (vp_in_nI (show i + 1 < L by omega) (by omega)) dL_law_1092 ?_
  have hP : va_P D vwCl (([oD cD qd g, oJ cJ qo f1] ++ wb1) ++ (wm ++ [])) H := by rw [List.append_nil]; exact hP
  have hD : va_D (fun q : Nat => s.heap.size ≤ q) (([oD cD qd g, oJ cJ qo f1] ++ wb1) ++ (wm ++ [])) := by rw [List.append_nil]; exact hD
  refine call_Ri (wa := ([oD cD qd g, oJ cJ qo f1] ++ wb1)) (w0 := wm) (w1 := wm1) (wb := []) (As := [.int (xs (nI (i + 1)).toNatClampNeg)]) (rest := []) hx hb hml hown hAW hN hM (cwVA 1 hAW q1065 q1066 q1067 q50 q1068 hd_X10_greedyChange n1 n2 n3 n4) hK2 hP hD hS hA h0.2 (by rw [a1.2, a0.2]) rfl rfl rfl hl.1 rfl (lv_room (Nat.le_of_ble_eq_true rfl)) dL_law_1093 (by show cells + 1 ≤ 601024; omega) (by show slots + 6 ≤ 7293034; omega) (fun H locs hP hD hS => ?_)
  rw [List.append_nil] at hP hD
  have hP : va_P D vwCl ([oD cD qd g, oJ cJ qo f1] ++ (wb1 ++ wm1)) H := hP
  have hD : va_D (fun q : Nat => s.heap.size ≤ q) ([oD cD qd g, oJ cJ qo f1] ++ (wb1 ++ wm1)) := hD
  refine lv_istore (lv' := [(7, .int r), (6, .int k), (5, .int (nI i)), (0, .ref b), (1, .ref (q 0)), (2, .ref (u 0)), (3, .ref qo), (4, .ref qd)]) hx hb dL_law_1096 hl (by decide) rfl (fun ls hl => ?_)
  refine lv_aload_n hx hb dL_law_1098 rfl (lv_at hl 5 rfl) ?_
  obtain ⟨rt, t1, t2, t3, t4, hTh⟩ := st_thrown l D cI cZ q u hR1
  have hP : va_P D vwCl (([oD cD qd g, oJ cJ qo f1] ++ wb1) ++ (wm1 ++ [])) H := by rw [List.append_nil]; exact hP
  have hD : va_D (fun q : Nat => s.heap.size ≤ q) (([oD cD qd g, oJ cJ qo f1] ++ wb1) ++ (wm1 ++ [])) := by rw [List.append_nil]; exact hD
  refine call_Ri (wa := ([oD cD qd g, oJ cJ qo f1] ++ wb1)) (w0 := wm1) (w1 := wm1) (wb := []) (As := []) (rest := []) hx hb hml hown hAW hN hTh (cwVA 0 hAW q895 q896 q897 q50 q898 hd_X10_thrown t1 t2 t3 t4) hK2 hP hD hS hA h1.2 rfl rfl rfl rfl hl.1 rfl (lv_room (Nat.le_of_ble_eq_true rfl)) dL_law_1099 (by show cells + 1 ≤ 601024; omega) (by show slots + 6 ≤ 7293034; omega) (fun H locs hP hD hS => ?_)
  rw [List.append_nil] at hP hD
  have hP : va_P D vwCl ([oD cD qd g, oJ cJ qo f1] ++ (wb1 ++ wm1)) H := hP
  have hD : va_D (fun q : Nat => s.heap.size ≤ q) ([oD cD qd g, oJ cJ qo f1] ++ (wb1 ++ wm1)) := hD
  refine lv_iload hx hb dL_law_1102 (lv_at hl 1 rfl) ?_
  refine lv_icmp_eq (tgt := 1109) hx hb dL_law_1104 (by decide) (fun _ => ?_) (fun c9 => absurd rfl c9)
  refine lv_iload hx hb dL_law_1109 (lv_at hl 1 rfl) ?_
  refine lv_if_ne (tgt := 1126) hx hb dL_law_1111 (by decide) (fun c1111 => ?_) (fun c1111 => ?_)
  · skip
    refine lv_goto (tgt := 1431) hx hb dL_law_1126 (by decide) ?_
    exact K _ _ _ _ _ _ _ _ ⟨hR1, hP, hD, hS, lv_sub hl [2, 3, 4, 5, 6, 7] rfl⟩
  · skip
    refine lv_aload_n hx hb dL_law_1114 rfl (lv_at hl 6 rfl) ?_
    refine lv_iconst (v := 0) hx hb dL_law_1115 (by decide) ?_
    refine va_lald hx hb hK hP 1 2 rfl rfl (pk_in 0 1 (by decide)) dL_law_1116 ?_
    show W p l e room_1 s m #[Value.ref b] below meth c H locs _ _ Q (F0 m 1117 ls [.long (f1 0)])
    refine lv_iload hx hb dL_law_1117 (lv_at hl 0 rfl) ?_
    refine lv_i2l (v := r.toInt64) hx hb dL_law_1119 rfl ?_
    refine W.lcmp hx hb dL_law_1120 ?_
    have e9 : lg_cmp (f1 0) r.toInt64 = 0 := by rw [show (f1 0) = r.toInt64 from hout c1111]; exact lg_self _
    refine lv_if_eq (tgt := 1126) hx hb dL_law_1121 (by decide) (fun _ => ?_) (fun c7 => absurd e9 c7)
    refine lv_goto (tgt := 1431) hx hb dL_law_1126 (by decide) ?_
    exact K _ _ _ _ _ _ _ _ ⟨hR1, hP, hD, hS, lv_sub hl [2, 3, 4, 5, 6, 7] rfl⟩
set_option maxHeartbeats 1000000 in
set_option maxRecDepth 100000 in
theorem lk_23 {p : Program} {l : Launch} {e : Env} {s : State} {m : MethodId} {below : List Frame} {meth : Method} {c : Code} {b L : Nat} {xs : Nat → Int32} {D : va_G} {cI cZ cJ cD : ClassId} (C : LwE p l s m meth c b L xs D cI cZ cJ cD) {Q : State → Prop} {q u : Nat → Nat} {qo qd i : Nat} {th : Int32} {f : Nat → Int64} {g : Nat → UInt64} {wb wm : va_W} {H : Heap} {locs : List Loc} {ls : Array Slot} (hst : LSt s D cI cZ cJ cD q u qo qd b i th f g wb wm H locs ls) (hi : i + 4 ≤ L) {cells slots : Nat} (hz1 : cells + 1 ≤ 601024) (hz2 : slots + 6 ≤ 7293034)
    (K : ∀ (th : Int32) (f : Nat → Int64) (g : Nat → UInt64) (wb wm : va_W) (H : Heap) (locs : List Loc) (ls : Array Slot), LSt s D cI cZ cJ cD q u qo qd b i th f g wb wm H locs ls → W p l e room_1 s m #[Value.ref b] below meth c H locs (cells + 1) (slots + 6) Q (F0 m 1431 ls [])) : W p l e room_1 s m #[Value.ref b] below meth c H locs cells slots Q (F0 m 1129 ls []) := by
  obtain ⟨hx, hb, hr, hml, hown, hAW, hN, hT, hNc, hX, hbl, hlk, hK, hL, hl0⟩ := C
  obtain ⟨hR, hP, hD, hS, hl⟩ := hst
  have hA : ∀ q : Nat, s.heap.size ≤ q → (fun q : Nat => s.heap.size ≤ q) q := fun _ h => h
  have hbA : ¬ (fun q : Nat => s.heap.size ≤ q) b := Nat.not_le.mpr hbl
  have hK2 : va_K D vwCl (ty2 cI cZ) s := hK.sub [0, 1] rfl
  refine lv_aload_n hx hb dL_law_1129 rfl (lv_at hl 2 rfl) ?_
  obtain ⟨wb1, wm1, r, ⟨rm, r1, r2, r3, r4, hH⟩, ⟨rn, n1, n2, n3, n4, hM⟩, hR1⟩ := st_greedyCost l D cI cZ q u hR
  have a0 := hR.ads
  have a1 := hR1.ads
  have h0 := hR.heads
  have h1 := hR1.heads
  refine call_Ri (wa := [oD cD qd g, oJ cJ qo f]) (w0 := wb) (w1 := wb1) (wb := wm) (As := []) (rest := []) hx hb hml hown hAW hN hH (cwVA 0 hAW q432 q433 q434 q41 q435 hd_X9_greedyCost r1 r2 r3 r4) hK2 hP hD hS hA h0.1 (by rw [a1.1, a0.1]) rfl rfl rfl hl.1 rfl (lv_room (Nat.le_of_ble_eq_true rfl)) dL_law_1130 (by show cells ≤ 601024; omega) (by show slots ≤ 7293034; omega) (fun H locs hP hD hS => ?_)
  refine lv_aload_n hx hb dL_law_1133 rfl (lv_at hl 3 rfl) ?_
  have hP : va_P D vwCl (([oD cD qd g, oJ cJ qo f] ++ wb1) ++ (wm ++ [])) H := by rw [List.append_nil]; exact hP
  have hD : va_D (fun q : Nat => s.heap.size ≤ q) (([oD cD qd g, oJ cJ qo f] ++ wb1) ++ (wm ++ [])) := by rw [List.append_nil]; exact hD
  refine call_Ri (wa := ([oD cD qd g, oJ cJ qo f] ++ wb1)) (w0 := wm) (w1 := wm1) (wb := []) (As := []) (rest := [.int r]) hx hb hml hown hAW hN hM (cwVA 0 hAW q1069 q1070 q1071 q50 q1072 hd_X10_greedyCost n1 n2 n3 n4) hK2 hP hD hS hA h0.2 (by rw [a1.2, a0.2]) rfl rfl rfl hl.1 rfl (lv_room (Nat.le_of_ble_eq_true rfl)) dL_law_1134 (by show cells ≤ 601024; omega) (by show slots ≤ 7293034; omega) (fun H locs hP hD hS => ?_)
  rw [List.append_nil] at hP hD
  have hP : va_P D vwCl ([oD cD qd g, oJ cJ qo f] ++ (wb1 ++ wm1)) H := hP
  have hD : va_D (fun q : Nat => s.heap.size ≤ q) ([oD cD qd g, oJ cJ qo f] ++ (wb1 ++ wm1)) := hD
  refine lv_icmp_eq (tgt := 1431) hx hb dL_law_1137 (by decide) (fun _ => ?_) (fun c9 => absurd rfl c9)
  refine W.widen (k := cells + 1) (n := slots + 6) (by omega) (by omega) ?_
  exact K _ _ _ _ _ _ _ _ ⟨hR1, hP, hD, hS, lv_sub hl [0, 1, 2, 3, 4, 5] rfl⟩
set_option maxHeartbeats 1000000 in
set_option maxRecDepth 100000 in
theorem lk_24 {p : Program} {l : Launch} {e : Env} {s : State} {m : MethodId} {below : List Frame} {meth : Method} {c : Code} {b L : Nat} {xs : Nat → Int32} {D : va_G} {cI cZ cJ cD : ClassId} (C : LwE p l s m meth c b L xs D cI cZ cJ cD) {Q : State → Prop} {q u : Nat → Nat} {qo qd i : Nat} {th : Int32} {f : Nat → Int64} {g : Nat → UInt64} {wb wm : va_W} {H : Heap} {locs : List Loc} {ls : Array Slot} (hst : LSt s D cI cZ cJ cD q u qo qd b i th f g wb wm H locs ls) (hi : i + 4 ≤ L) {cells slots : Nat} (hz1 : cells + 1 ≤ 601024) (hz2 : slots + 6 ≤ 7293034)
    (K : ∀ (th : Int32) (f : Nat → Int64) (g : Nat → UInt64) (wb wm : va_W) (H : Heap) (locs : List Loc) (ls : Array Slot), LSt s D cI cZ cJ cD q u qo qd b i th f g wb wm H locs ls → W p l e room_1 s m #[Value.ref b] below meth c H locs (cells + 1) (slots + 6) Q (F0 m 1431 ls [])) : W p l e room_1 s m #[Value.ref b] below meth c H locs cells slots Q (F0 m 1142 ls []) := by
  obtain ⟨hx, hb, hr, hml, hown, hAW, hN, hT, hNc, hX, hbl, hlk, hK, hL, hl0⟩ := C
  obtain ⟨hR, hP, hD, hS, hl⟩ := hst
  have hA : ∀ q : Nat, s.heap.size ≤ q → (fun q : Nat => s.heap.size ≤ q) q := fun _ h => h
  have hbA : ¬ (fun q : Nat => s.heap.size ≤ q) b := Nat.not_le.mpr hbl
  have hK2 : va_K D vwCl (ty2 cI cZ) s := hK.sub [0, 1] rfl
  refine lv_aload_n hx hb dL_law_1142 rfl (lv_at hl 2 rfl) ?_
  refine lv_aload_n hx hb dL_law_1143 rfl (lv_at hl 1 rfl) ?_
  refine lv_iload hx hb dL_law_1144 (lv_at hl 0 rfl) ?_
  refine lv_iconst (v := 1) hx hb dL_law_1146 (by decide) ?_
  refine n_iadd (x := i) (y := 1) hx hb dL_law_1147 ?_
  refine va_sld hx hb hX hbl hbA hS (vp_in_nI (show i + 1 < L by omega) (by omega)) dL_law_1148 ?_
  refine lv_aload_n hx hb dL_law_1149 rfl (lv_at hl 4 rfl) ?_
  obtain ⟨wb1, wm1, f1, k, r, ⟨rm, mc, ms, r1, r2, r3, r4, r5, r6, hH⟩, ⟨rn, n1, n2, n3, n4, hM⟩, hR1, hout⟩ := st_toggleTruth l hl0 D cI cZ cJ cD q u hR qo f (xs (nI (i + 1)).toNatClampNeg)
  have a0 := hR.ads
  have a1 := hR1.ads
  have h0 := hR.heads
  have h1 := hR1.heads
  have hP : va_P D vwCl ([oD cD qd g] ++ (([oJ cJ qo f] ++ wb) ++ wm)) H := hP
  have hD : va_D (fun q : Nat => s.heap.size ≤ q) ([oD cD qd g] ++ (([oJ cJ qo f] ++ wb) ++ wm)) := hD
  refine call_H (wa := [oD cD qd g]) (w0 := ([oJ cJ qo f] ++ wb)) (w1 := ([oJ cJ qo f1] ++ wb1)) (wb := wm) (As := [.ref (q 0), .int (xs (nI (i + 1)).toNatClampNeg), .ref qo]) (rest := []) hx hb hml hown hAW hN hT hNc hH (cwSH 3 hAW q741 q742 q40 qw_toggleTruth hdL_toggleTruth r1 r2 r3 r4) hK hP hD hS hA (by rw [List.map_append, List.map_append, a1.1, a0.1]; rfl) rfl hl.1 rfl (lv_room (Nat.le_of_ble_eq_true rfl)) dL_law_1150 (by show cells + mc ≤ 601024; omega) (by show slots + ms ≤ 7293034; omega) (fun H locs hP hD hS => ?_)
  refine W.widen (k := cells + 1) (n := slots + 6) (by omega) (by omega) ?_
  have hP : va_P D vwCl ([oD cD qd g, oJ cJ qo f1] ++ (wb1 ++ wm)) H := hP
  have hD : va_D (fun q : Nat => s.heap.size ≤ q) ([oD cD qd g, oJ cJ qo f1] ++ (wb1 ++ wm)) := hD
  refine lv_istore (lv' := [(6, .int k), (5, .int (nI i)), (0, .ref b), (1, .ref (q 0)), (2, .ref (u 0)), (3, .ref qo), (4, .ref qd)]) hx hb dL_law_1153 hl (by decide) rfl (fun ls hl => ?_)
  refine lv_aload_n hx hb dL_law_1155 rfl (lv_at hl 4 rfl) ?_
  refine lv_aload_n hx hb dL_law_1156 rfl (lv_at hl 2 rfl) ?_
  refine lv_iload hx hb dL_law_1157 (lv_at hl 1 rfl) ?_
  refine lv_iconst (v := 1) hx hb dL_law_1159 (by decide) ?_
  refine n_iadd (x := i) (y := 1) hx hb dL_law_1160 ?_
  refine va_sld hx hb hX hbl hbA hS (vp_in_nI (show i + 1 < L by omega) (by omega)) dL_law_1161 ?_
  have hP : va_P D vwCl (([oD cD qd g, oJ cJ qo f1] ++ wb1) ++ (wm ++ [])) H := by rw [List.append_nil]; exact hP
  have hD : va_D (fun q : Nat => s.heap.size ≤ q) (([oD cD qd g, oJ cJ qo f1] ++ wb1) ++ (wm ++ [])) := by rw [List.append_nil]; exact hD
  refine call_Ri (wa := ([oD cD qd g, oJ cJ qo f1] ++ wb1)) (w0 := wm) (w1 := wm1) (wb := []) (As := [.int (xs (nI (i + 1)).toNatClampNeg)]) (rest := []) hx hb hml hown hAW hN hM (cwVA 1 hAW q1073 q1074 q1075 q50 q1076 hd_X10_toggleTruth n1 n2 n3 n4) hK2 hP hD hS hA h0.2 (by rw [a1.2, a0.2]) rfl rfl rfl hl.1 rfl (lv_room (Nat.le_of_ble_eq_true rfl)) dL_law_1162 (by show cells + 1 ≤ 601024; omega) (by show slots + 6 ≤ 7293034; omega) (fun H locs hP hD hS => ?_)
  rw [List.append_nil] at hP hD
  have hP : va_P D vwCl ([oD cD qd g, oJ cJ qo f1] ++ (wb1 ++ wm1)) H := hP
  have hD : va_D (fun q : Nat => s.heap.size ≤ q) ([oD cD qd g, oJ cJ qo f1] ++ (wb1 ++ wm1)) := hD
  refine lv_istore (lv' := [(7, .int (zb r)), (6, .int k), (5, .int (nI i)), (0, .ref b), (1, .ref (q 0)), (2, .ref (u 0)), (3, .ref qo), (4, .ref qd)]) hx hb dL_law_1165 hl (by decide) rfl (fun ls hl => ?_)
  refine lv_aload_n hx hb dL_law_1167 rfl (lv_at hl 5 rfl) ?_
  obtain ⟨rt, t1, t2, t3, t4, hTh⟩ := st_thrown l D cI cZ q u hR1
  have hP : va_P D vwCl (([oD cD qd g, oJ cJ qo f1] ++ wb1) ++ (wm1 ++ [])) H := by rw [List.append_nil]; exact hP
  have hD : va_D (fun q : Nat => s.heap.size ≤ q) (([oD cD qd g, oJ cJ qo f1] ++ wb1) ++ (wm1 ++ [])) := by rw [List.append_nil]; exact hD
  refine call_Ri (wa := ([oD cD qd g, oJ cJ qo f1] ++ wb1)) (w0 := wm1) (w1 := wm1) (wb := []) (As := []) (rest := []) hx hb hml hown hAW hN hTh (cwVA 0 hAW q895 q896 q897 q50 q898 hd_X10_thrown t1 t2 t3 t4) hK2 hP hD hS hA h1.2 rfl rfl rfl rfl hl.1 rfl (lv_room (Nat.le_of_ble_eq_true rfl)) dL_law_1168 (by show cells + 1 ≤ 601024; omega) (by show slots + 6 ≤ 7293034; omega) (fun H locs hP hD hS => ?_)
  rw [List.append_nil] at hP hD
  have hP : va_P D vwCl ([oD cD qd g, oJ cJ qo f1] ++ (wb1 ++ wm1)) H := hP
  have hD : va_D (fun q : Nat => s.heap.size ≤ q) ([oD cD qd g, oJ cJ qo f1] ++ (wb1 ++ wm1)) := hD
  refine lv_iload hx hb dL_law_1171 (lv_at hl 1 rfl) ?_
  refine lv_icmp_eq (tgt := 1178) hx hb dL_law_1173 (by decide) (fun _ => ?_) (fun c9 => absurd rfl c9)
  refine lv_iload hx hb dL_law_1178 (lv_at hl 1 rfl) ?_
  refine lv_if_ne (tgt := 1202) hx hb dL_law_1180 (by decide) (fun c1180 => ?_) (fun c1180 => ?_)
  · skip
    refine lv_goto (tgt := 1431) hx hb dL_law_1202 (by decide) ?_
    exact K _ _ _ _ _ _ _ _ ⟨hR1, hP, hD, hS, lv_sub hl [2, 3, 4, 5, 6, 7] rfl⟩
  · skip
    refine lv_aload_n hx hb dL_law_1183 rfl (lv_at hl 6 rfl) ?_
    refine lv_iconst (v := 0) hx hb dL_law_1184 (by decide) ?_
    refine va_lald hx hb hK hP 1 2 rfl rfl (pk_in 0 1 (by decide)) dL_law_1185 ?_
    show W p l e room_1 s m #[Value.ref b] below meth c H locs _ _ Q (F0 m 1186 ls [.long (f1 0)])
    refine lv_iload hx hb dL_law_1186 (lv_at hl 0 rfl) ?_
    refine z_if_eq (x := r) (tgt := 1195) hx hb dL_law_1188 (by decide) (fun c7 => ?_) (fun c7 => ?_)
    · subst c7
      refine lv_lconst (v := 0) hx hb dL_law_1195 rfl ?_
      refine W.lcmp hx hb dL_law_1196 ?_
      have e9 : lg_cmp (f1 0) 0 = 0 := by rw [show (f1 0) = 0 from hout c1180]; exact lg_self _
      refine lv_if_eq (tgt := 1202) hx hb dL_law_1197 (by decide) (fun _ => ?_) (fun c7 => absurd e9 c7)
      refine lv_goto (tgt := 1431) hx hb dL_law_1202 (by decide) ?_
      exact K _ _ _ _ _ _ _ _ ⟨hR1, hP, hD, hS, lv_sub hl [2, 3, 4, 5, 6, 7] rfl⟩
    · subst c7
      refine lv_lconst (v := 1) hx hb dL_law_1191 rfl ?_
      refine lv_goto (tgt := 1196) hx hb dL_law_1192 (by decide) ?_
      refine W.lcmp hx hb dL_law_1196 ?_
      have e9 : lg_cmp (f1 0) 1 = 0 := by rw [show (f1 0) = 1 from hout c1180]; exact lg_self _
      refine lv_if_eq (tgt := 1202) hx hb dL_law_1197 (by decide) (fun _ => ?_) (fun c7 => absurd e9 c7)
      refine lv_goto (tgt := 1431) hx hb dL_law_1202 (by decide) ?_
      exact K _ _ _ _ _ _ _ _ ⟨hR1, hP, hD, hS, lv_sub hl [2, 3, 4, 5, 6, 7] rfl⟩
set_option maxHeartbeats 1000000 in
set_option maxRecDepth 100000 in
theorem lk_25 {p : Program} {l : Launch} {e : Env} {s : State} {m : MethodId} {below : List Frame} {meth : Method} {c : Code} {b L : Nat} {xs : Nat → Int32} {D : va_G} {cI cZ cJ cD : ClassId} (C : LwE p l s m meth c b L xs D cI cZ cJ cD) {Q : State → Prop} {q u : Nat → Nat} {qo qd i : Nat} {th : Int32} {f : Nat → Int64} {g : Nat → UInt64} {wb wm : va_W} {H : Heap} {locs : List Loc} {ls : Array Slot} (hst : LSt s D cI cZ cJ cD q u qo qd b i th f g wb wm H locs ls) (hi : i + 4 ≤ L) {cells slots : Nat} (hz1 : cells + 1 ≤ 601024) (hz2 : slots + 6 ≤ 7293034)
    (K : ∀ (th : Int32) (f : Nat → Int64) (g : Nat → UInt64) (wb wm : va_W) (H : Heap) (locs : List Loc) (ls : Array Slot), LSt s D cI cZ cJ cD q u qo qd b i th f g wb wm H locs ls → W p l e room_1 s m #[Value.ref b] below meth c H locs (cells + 1) (slots + 6) Q (F0 m 1431 ls [])) : W p l e room_1 s m #[Value.ref b] below meth c H locs cells slots Q (F0 m 1205 ls []) := by
  obtain ⟨hx, hb, hr, hml, hown, hAW, hN, hT, hNc, hX, hbl, hlk, hK, hL, hl0⟩ := C
  obtain ⟨hR, hP, hD, hS, hl⟩ := hst
  have hA : ∀ q : Nat, s.heap.size ≤ q → (fun q : Nat => s.heap.size ≤ q) q := fun _ h => h
  have hbA : ¬ (fun q : Nat => s.heap.size ≤ q) b := Nat.not_le.mpr hbl
  have hK2 : va_K D vwCl (ty2 cI cZ) s := hK.sub [0, 1] rfl
  refine lv_aload_n hx hb dL_law_1205 rfl (lv_at hl 2 rfl) ?_
  refine lv_aload_n hx hb dL_law_1206 rfl (lv_at hl 1 rfl) ?_
  refine lv_iload hx hb dL_law_1207 (lv_at hl 0 rfl) ?_
  refine lv_iconst (v := 1) hx hb dL_law_1209 (by decide) ?_
  refine n_iadd (x := i) (y := 1) hx hb dL_law_1210 ?_
  refine va_sld hx hb hX hbl hbA hS (vp_in_nI (show i + 1 < L by omega) (by omega)) dL_law_1211 ?_
  refine lv_aload_n hx hb dL_law_1212 rfl (lv_at hl 1 rfl) ?_
  refine lv_iload hx hb dL_law_1213 (lv_at hl 0 rfl) ?_
  refine lv_iconst (v := 2) hx hb dL_law_1215 (by decide) ?_
  refine n_iadd (x := i) (y := 2) hx hb dL_law_1216 ?_
  refine va_sld hx hb hX hbl hbA hS (vp_in_nI (show i + 2 < L by omega) (by omega)) dL_law_1217 ?_
  refine lv_aload_n hx hb dL_law_1218 rfl (lv_at hl 4 rfl) ?_
  obtain ⟨wb1, wm1, f1, k, r, ⟨rm, mc, ms, r1, r2, r3, r4, r5, r6, hH⟩, ⟨rn, n1, n2, n3, n4, hM⟩, hR1, hout⟩ := st_matched l hl0 D cI cZ cJ cD q u hR qo f (xs (nI (i + 1)).toNatClampNeg) (xs (nI (i + 2)).toNatClampNeg)
  have a0 := hR.ads
  have a1 := hR1.ads
  have h0 := hR.heads
  have h1 := hR1.heads
  have hP : va_P D vwCl ([oD cD qd g] ++ (([oJ cJ qo f] ++ wb) ++ wm)) H := hP
  have hD : va_D (fun q : Nat => s.heap.size ≤ q) ([oD cD qd g] ++ (([oJ cJ qo f] ++ wb) ++ wm)) := hD
  refine call_H (wa := [oD cD qd g]) (w0 := ([oJ cJ qo f] ++ wb)) (w1 := ([oJ cJ qo f1] ++ wb1)) (wb := wm) (As := [.ref (q 0), .int (xs (nI (i + 1)).toNatClampNeg), .int (xs (nI (i + 2)).toNatClampNeg), .ref qo]) (rest := []) hx hb hml hown hAW hN hT hNc hH (cwSH 4 hAW q748 q749 q40 qw_matched hdL_matched r1 r2 r3 r4) hK hP hD hS hA (by rw [List.map_append, List.map_append, a1.1, a0.1]; rfl) rfl hl.1 rfl (lv_room (Nat.le_of_ble_eq_true rfl)) dL_law_1219 (by show cells + mc ≤ 601024; omega) (by show slots + ms ≤ 7293034; omega) (fun H locs hP hD hS => ?_)
  refine W.widen (k := cells + 1) (n := slots + 6) (by omega) (by omega) ?_
  have hP : va_P D vwCl ([oD cD qd g, oJ cJ qo f1] ++ (wb1 ++ wm)) H := hP
  have hD : va_D (fun q : Nat => s.heap.size ≤ q) ([oD cD qd g, oJ cJ qo f1] ++ (wb1 ++ wm)) := hD
  refine lv_istore (lv' := [(6, .int k), (5, .int (nI i)), (0, .ref b), (1, .ref (q 0)), (2, .ref (u 0)), (3, .ref qo), (4, .ref qd)]) hx hb dL_law_1222 hl (by decide) rfl (fun ls hl => ?_)
  refine lv_aload_n hx hb dL_law_1224 rfl (lv_at hl 4 rfl) ?_
  refine lv_aload_n hx hb dL_law_1225 rfl (lv_at hl 2 rfl) ?_
  refine lv_iload hx hb dL_law_1226 (lv_at hl 1 rfl) ?_
  refine lv_iconst (v := 1) hx hb dL_law_1228 (by decide) ?_
  refine n_iadd (x := i) (y := 1) hx hb dL_law_1229 ?_
  refine va_sld hx hb hX hbl hbA hS (vp_in_nI (show i + 1 < L by omega) (by omega)) dL_law_1230 ?_
  refine lv_aload_n hx hb dL_law_1231 rfl (lv_at hl 2 rfl) ?_
  refine lv_iload hx hb dL_law_1232 (lv_at hl 1 rfl) ?_
  refine lv_iconst (v := 2) hx hb dL_law_1234 (by decide) ?_
  refine n_iadd (x := i) (y := 2) hx hb dL_law_1235 ?_
  refine va_sld hx hb hX hbl hbA hS (vp_in_nI (show i + 2 < L by omega) (by omega)) dL_law_1236 ?_
  have hP : va_P D vwCl (([oD cD qd g, oJ cJ qo f1] ++ wb1) ++ (wm ++ [])) H := by rw [List.append_nil]; exact hP
  have hD : va_D (fun q : Nat => s.heap.size ≤ q) (([oD cD qd g, oJ cJ qo f1] ++ wb1) ++ (wm ++ [])) := by rw [List.append_nil]; exact hD
  refine call_Ri (wa := ([oD cD qd g, oJ cJ qo f1] ++ wb1)) (w0 := wm) (w1 := wm1) (wb := []) (As := [.int (xs (nI (i + 1)).toNatClampNeg), .int (xs (nI (i + 2)).toNatClampNeg)]) (rest := []) hx hb hml hown hAW hN hM (cwVA 2 hAW q1077 q1078 q1079 q50 q1080 hd_X10_matched n1 n2 n3 n4) hK2 hP hD hS hA h0.2 (by rw [a1.2, a0.2]) rfl rfl rfl hl.1 rfl (lv_room (Nat.le_of_ble_eq_true rfl)) dL_law_1237 (by show cells + 1 ≤ 601024; omega) (by show slots + 6 ≤ 7293034; omega) (fun H locs hP hD hS => ?_)
  rw [List.append_nil] at hP hD
  have hP : va_P D vwCl ([oD cD qd g, oJ cJ qo f1] ++ (wb1 ++ wm1)) H := hP
  have hD : va_D (fun q : Nat => s.heap.size ≤ q) ([oD cD qd g, oJ cJ qo f1] ++ (wb1 ++ wm1)) := hD
  refine lv_istore (lv' := [(7, .int r), (6, .int k), (5, .int (nI i)), (0, .ref b), (1, .ref (q 0)), (2, .ref (u 0)), (3, .ref qo), (4, .ref qd)]) hx hb dL_law_1240 hl (by decide) rfl (fun ls hl => ?_)
  refine lv_aload_n hx hb dL_law_1242 rfl (lv_at hl 5 rfl) ?_
  obtain ⟨rt, t1, t2, t3, t4, hTh⟩ := st_thrown l D cI cZ q u hR1
  have hP : va_P D vwCl (([oD cD qd g, oJ cJ qo f1] ++ wb1) ++ (wm1 ++ [])) H := by rw [List.append_nil]; exact hP
  have hD : va_D (fun q : Nat => s.heap.size ≤ q) (([oD cD qd g, oJ cJ qo f1] ++ wb1) ++ (wm1 ++ [])) := by rw [List.append_nil]; exact hD
  refine call_Ri (wa := ([oD cD qd g, oJ cJ qo f1] ++ wb1)) (w0 := wm1) (w1 := wm1) (wb := []) (As := []) (rest := []) hx hb hml hown hAW hN hTh (cwVA 0 hAW q895 q896 q897 q50 q898 hd_X10_thrown t1 t2 t3 t4) hK2 hP hD hS hA h1.2 rfl rfl rfl rfl hl.1 rfl (lv_room (Nat.le_of_ble_eq_true rfl)) dL_law_1243 (by show cells + 1 ≤ 601024; omega) (by show slots + 6 ≤ 7293034; omega) (fun H locs hP hD hS => ?_)
  rw [List.append_nil] at hP hD
  have hP : va_P D vwCl ([oD cD qd g, oJ cJ qo f1] ++ (wb1 ++ wm1)) H := hP
  have hD : va_D (fun q : Nat => s.heap.size ≤ q) ([oD cD qd g, oJ cJ qo f1] ++ (wb1 ++ wm1)) := hD
  refine lv_iload hx hb dL_law_1246 (lv_at hl 1 rfl) ?_
  refine lv_icmp_eq (tgt := 1253) hx hb dL_law_1248 (by decide) (fun _ => ?_) (fun c9 => absurd rfl c9)
  refine lv_iload hx hb dL_law_1253 (lv_at hl 1 rfl) ?_
  refine lv_if_ne (tgt := 1270) hx hb dL_law_1255 (by decide) (fun c1255 => ?_) (fun c1255 => ?_)
  · skip
    refine lv_goto (tgt := 1431) hx hb dL_law_1270 (by decide) ?_
    exact K _ _ _ _ _ _ _ _ ⟨hR1, hP, hD, hS, lv_sub hl [2, 3, 4, 5, 6, 7] rfl⟩
  · skip
    refine lv_aload_n hx hb dL_law_1258 rfl (lv_at hl 6 rfl) ?_
    refine lv_iconst (v := 0) hx hb dL_law_1259 (by decide) ?_
    refine va_lald hx hb hK hP 1 2 rfl rfl (pk_in 0 1 (by decide)) dL_law_1260 ?_
    show W p l e room_1 s m #[Value.ref b] below meth c H locs _ _ Q (F0 m 1261 ls [.long (f1 0)])
    refine lv_iload hx hb dL_law_1261 (lv_at hl 0 rfl) ?_
    refine lv_i2l (v := r.toInt64) hx hb dL_law_1263 rfl ?_
    refine W.lcmp hx hb dL_law_1264 ?_
    have e9 : lg_cmp (f1 0) r.toInt64 = 0 := by rw [show (f1 0) = r.toInt64 from hout c1255]; exact lg_self _
    refine lv_if_eq (tgt := 1270) hx hb dL_law_1265 (by decide) (fun _ => ?_) (fun c7 => absurd e9 c7)
    refine lv_goto (tgt := 1431) hx hb dL_law_1270 (by decide) ?_
    exact K _ _ _ _ _ _ _ _ ⟨hR1, hP, hD, hS, lv_sub hl [2, 3, 4, 5, 6, 7] rfl⟩
set_option maxHeartbeats 1000000 in
set_option maxRecDepth 100000 in
theorem lk_26 {p : Program} {l : Launch} {e : Env} {s : State} {m : MethodId} {below : List Frame} {meth : Method} {c : Code} {b L : Nat} {xs : Nat → Int32} {D : va_G} {cI cZ cJ cD : ClassId} (C : LwE p l s m meth c b L xs D cI cZ cJ cD) {Q : State → Prop} {q u : Nat → Nat} {qo qd i : Nat} {th : Int32} {f : Nat → Int64} {g : Nat → UInt64} {wb wm : va_W} {H : Heap} {locs : List Loc} {ls : Array Slot} (hst : LSt s D cI cZ cJ cD q u qo qd b i th f g wb wm H locs ls) (hi : i + 4 ≤ L) {cells slots : Nat} (hz1 : cells + 1 ≤ 601024) (hz2 : slots + 6 ≤ 7293034)
    (K : ∀ (th : Int32) (f : Nat → Int64) (g : Nat → UInt64) (wb wm : va_W) (H : Heap) (locs : List Loc) (ls : Array Slot), LSt s D cI cZ cJ cD q u qo qd b i th f g wb wm H locs ls → W p l e room_1 s m #[Value.ref b] below meth c H locs (cells + 1) (slots + 6) Q (F0 m 1431 ls [])) : W p l e room_1 s m #[Value.ref b] below meth c H locs cells slots Q (F0 m 1273 ls []) := by
  obtain ⟨hx, hb, hr, hml, hown, hAW, hN, hT, hNc, hX, hbl, hlk, hK, hL, hl0⟩ := C
  obtain ⟨hR, hP, hD, hS, hl⟩ := hst
  have hA : ∀ q : Nat, s.heap.size ≤ q → (fun q : Nat => s.heap.size ≤ q) q := fun _ h => h
  have hbA : ¬ (fun q : Nat => s.heap.size ≤ q) b := Nat.not_le.mpr hbl
  have hK2 : va_K D vwCl (ty2 cI cZ) s := hK.sub [0, 1] rfl
  refine lv_aload_n hx hb dL_law_1273 rfl (lv_at hl 2 rfl) ?_
  refine lv_aload_n hx hb dL_law_1274 rfl (lv_at hl 1 rfl) ?_
  refine lv_iload hx hb dL_law_1275 (lv_at hl 0 rfl) ?_
  refine lv_iconst (v := 1) hx hb dL_law_1277 (by decide) ?_
  refine n_iadd (x := i) (y := 1) hx hb dL_law_1278 ?_
  refine va_sld hx hb hX hbl hbA hS (vp_in_nI (show i + 1 < L by omega) (by omega)) dL_law_1279 ?_
  refine lv_aload_n hx hb dL_law_1280 rfl (lv_at hl 1 rfl) ?_
  refine lv_iload hx hb dL_law_1281 (lv_at hl 0 rfl) ?_
  refine lv_iconst (v := 2) hx hb dL_law_1283 (by decide) ?_
  refine n_iadd (x := i) (y := 2) hx hb dL_law_1284 ?_
  refine va_sld hx hb hX hbl hbA hS (vp_in_nI (show i + 2 < L by omega) (by omega)) dL_law_1285 ?_
  refine lv_aload_n hx hb dL_law_1286 rfl (lv_at hl 4 rfl) ?_
  obtain ⟨wb1, wm1, f1, k, r, ⟨rm, mc, ms, r1, r2, r3, r4, r5, r6, hH⟩, ⟨rn, n1, n2, n3, n4, hM⟩, hR1, hout⟩ := st_falseAlarms l hl0 D cI cZ cJ cD q u hR qo f (xs (nI (i + 1)).toNatClampNeg) (xs (nI (i + 2)).toNatClampNeg)
  have a0 := hR.ads
  have a1 := hR1.ads
  have h0 := hR.heads
  have h1 := hR1.heads
  have hP : va_P D vwCl ([oD cD qd g] ++ (([oJ cJ qo f] ++ wb) ++ wm)) H := hP
  have hD : va_D (fun q : Nat => s.heap.size ≤ q) ([oD cD qd g] ++ (([oJ cJ qo f] ++ wb) ++ wm)) := hD
  refine call_H (wa := [oD cD qd g]) (w0 := ([oJ cJ qo f] ++ wb)) (w1 := ([oJ cJ qo f1] ++ wb1)) (wb := wm) (As := [.ref (q 0), .int (xs (nI (i + 1)).toNatClampNeg), .int (xs (nI (i + 2)).toNatClampNeg), .ref qo]) (rest := []) hx hb hml hown hAW hN hT hNc hH (cwSH 4 hAW q772 q773 q40 qw_falseAlarms hdL_falseAlarms r1 r2 r3 r4) hK hP hD hS hA (by rw [List.map_append, List.map_append, a1.1, a0.1]; rfl) rfl hl.1 rfl (lv_room (Nat.le_of_ble_eq_true rfl)) dL_law_1287 (by show cells + mc ≤ 601024; omega) (by show slots + ms ≤ 7293034; omega) (fun H locs hP hD hS => ?_)
  refine W.widen (k := cells + 1) (n := slots + 6) (by omega) (by omega) ?_
  have hP : va_P D vwCl ([oD cD qd g, oJ cJ qo f1] ++ (wb1 ++ wm)) H := hP
  have hD : va_D (fun q : Nat => s.heap.size ≤ q) ([oD cD qd g, oJ cJ qo f1] ++ (wb1 ++ wm)) := hD
  refine lv_istore (lv' := [(6, .int k), (5, .int (nI i)), (0, .ref b), (1, .ref (q 0)), (2, .ref (u 0)), (3, .ref qo), (4, .ref qd)]) hx hb dL_law_1290 hl (by decide) rfl (fun ls hl => ?_)
  refine lv_aload_n hx hb dL_law_1292 rfl (lv_at hl 4 rfl) ?_
  refine lv_aload_n hx hb dL_law_1293 rfl (lv_at hl 2 rfl) ?_
  refine lv_iload hx hb dL_law_1294 (lv_at hl 1 rfl) ?_
  refine lv_iconst (v := 1) hx hb dL_law_1296 (by decide) ?_
  refine n_iadd (x := i) (y := 1) hx hb dL_law_1297 ?_
  refine va_sld hx hb hX hbl hbA hS (vp_in_nI (show i + 1 < L by omega) (by omega)) dL_law_1298 ?_
  refine lv_aload_n hx hb dL_law_1299 rfl (lv_at hl 2 rfl) ?_
  refine lv_iload hx hb dL_law_1300 (lv_at hl 1 rfl) ?_
  refine lv_iconst (v := 2) hx hb dL_law_1302 (by decide) ?_
  refine n_iadd (x := i) (y := 2) hx hb dL_law_1303 ?_
  refine va_sld hx hb hX hbl hbA hS (vp_in_nI (show i + 2 < L by omega) (by omega)) dL_law_1304 ?_
  have hP : va_P D vwCl (([oD cD qd g, oJ cJ qo f1] ++ wb1) ++ (wm ++ [])) H := by rw [List.append_nil]; exact hP
  have hD : va_D (fun q : Nat => s.heap.size ≤ q) (([oD cD qd g, oJ cJ qo f1] ++ wb1) ++ (wm ++ [])) := by rw [List.append_nil]; exact hD
  refine call_Ri (wa := ([oD cD qd g, oJ cJ qo f1] ++ wb1)) (w0 := wm) (w1 := wm1) (wb := []) (As := [.int (xs (nI (i + 1)).toNatClampNeg), .int (xs (nI (i + 2)).toNatClampNeg)]) (rest := []) hx hb hml hown hAW hN hM (cwVA 2 hAW q1089 q1090 q1091 q50 q1092 hd_X10_falseAlarms n1 n2 n3 n4) hK2 hP hD hS hA h0.2 (by rw [a1.2, a0.2]) rfl rfl rfl hl.1 rfl (lv_room (Nat.le_of_ble_eq_true rfl)) dL_law_1305 (by show cells + 1 ≤ 601024; omega) (by show slots + 6 ≤ 7293034; omega) (fun H locs hP hD hS => ?_)
  rw [List.append_nil] at hP hD
  have hP : va_P D vwCl ([oD cD qd g, oJ cJ qo f1] ++ (wb1 ++ wm1)) H := hP
  have hD : va_D (fun q : Nat => s.heap.size ≤ q) ([oD cD qd g, oJ cJ qo f1] ++ (wb1 ++ wm1)) := hD
  refine lv_istore (lv' := [(7, .int r), (6, .int k), (5, .int (nI i)), (0, .ref b), (1, .ref (q 0)), (2, .ref (u 0)), (3, .ref qo), (4, .ref qd)]) hx hb dL_law_1308 hl (by decide) rfl (fun ls hl => ?_)
  refine lv_aload_n hx hb dL_law_1310 rfl (lv_at hl 5 rfl) ?_
  obtain ⟨rt, t1, t2, t3, t4, hTh⟩ := st_thrown l D cI cZ q u hR1
  have hP : va_P D vwCl (([oD cD qd g, oJ cJ qo f1] ++ wb1) ++ (wm1 ++ [])) H := by rw [List.append_nil]; exact hP
  have hD : va_D (fun q : Nat => s.heap.size ≤ q) (([oD cD qd g, oJ cJ qo f1] ++ wb1) ++ (wm1 ++ [])) := by rw [List.append_nil]; exact hD
  refine call_Ri (wa := ([oD cD qd g, oJ cJ qo f1] ++ wb1)) (w0 := wm1) (w1 := wm1) (wb := []) (As := []) (rest := []) hx hb hml hown hAW hN hTh (cwVA 0 hAW q895 q896 q897 q50 q898 hd_X10_thrown t1 t2 t3 t4) hK2 hP hD hS hA h1.2 rfl rfl rfl rfl hl.1 rfl (lv_room (Nat.le_of_ble_eq_true rfl)) dL_law_1311 (by show cells + 1 ≤ 601024; omega) (by show slots + 6 ≤ 7293034; omega) (fun H locs hP hD hS => ?_)
  rw [List.append_nil] at hP hD
  have hP : va_P D vwCl ([oD cD qd g, oJ cJ qo f1] ++ (wb1 ++ wm1)) H := hP
  have hD : va_D (fun q : Nat => s.heap.size ≤ q) ([oD cD qd g, oJ cJ qo f1] ++ (wb1 ++ wm1)) := hD
  refine lv_iload hx hb dL_law_1314 (lv_at hl 1 rfl) ?_
  refine lv_icmp_eq (tgt := 1321) hx hb dL_law_1316 (by decide) (fun _ => ?_) (fun c9 => absurd rfl c9)
  refine lv_iload hx hb dL_law_1321 (lv_at hl 1 rfl) ?_
  refine lv_if_ne (tgt := 1338) hx hb dL_law_1323 (by decide) (fun c1323 => ?_) (fun c1323 => ?_)
  · skip
    refine lv_goto (tgt := 1431) hx hb dL_law_1338 (by decide) ?_
    exact K _ _ _ _ _ _ _ _ ⟨hR1, hP, hD, hS, lv_sub hl [2, 3, 4, 5, 6, 7] rfl⟩
  · skip
    refine lv_aload_n hx hb dL_law_1326 rfl (lv_at hl 6 rfl) ?_
    refine lv_iconst (v := 0) hx hb dL_law_1327 (by decide) ?_
    refine va_lald hx hb hK hP 1 2 rfl rfl (pk_in 0 1 (by decide)) dL_law_1328 ?_
    show W p l e room_1 s m #[Value.ref b] below meth c H locs _ _ Q (F0 m 1329 ls [.long (f1 0)])
    refine lv_iload hx hb dL_law_1329 (lv_at hl 0 rfl) ?_
    refine lv_i2l (v := r.toInt64) hx hb dL_law_1331 rfl ?_
    refine W.lcmp hx hb dL_law_1332 ?_
    have e9 : lg_cmp (f1 0) r.toInt64 = 0 := by rw [show (f1 0) = r.toInt64 from hout c1323]; exact lg_self _
    refine lv_if_eq (tgt := 1338) hx hb dL_law_1333 (by decide) (fun _ => ?_) (fun c7 => absurd e9 c7)
    refine lv_goto (tgt := 1431) hx hb dL_law_1338 (by decide) ?_
    exact K _ _ _ _ _ _ _ _ ⟨hR1, hP, hD, hS, lv_sub hl [2, 3, 4, 5, 6, 7] rfl⟩
set_option maxHeartbeats 1000000 in
set_option maxRecDepth 100000 in
theorem lk_27 {p : Program} {l : Launch} {e : Env} {s : State} {m : MethodId} {below : List Frame} {meth : Method} {c : Code} {b L : Nat} {xs : Nat → Int32} {D : va_G} {cI cZ cJ cD : ClassId} (C : LwE p l s m meth c b L xs D cI cZ cJ cD) {Q : State → Prop} {q u : Nat → Nat} {qo qd i : Nat} {th : Int32} {f : Nat → Int64} {g : Nat → UInt64} {wb wm : va_W} {H : Heap} {locs : List Loc} {ls : Array Slot} (hst : LSt s D cI cZ cJ cD q u qo qd b i th f g wb wm H locs ls) (hi : i + 4 ≤ L) {cells slots : Nat} (hz1 : cells + 1 ≤ 601024) (hz2 : slots + 6 ≤ 7293034)
    (K : ∀ (th : Int32) (f : Nat → Int64) (g : Nat → UInt64) (wb wm : va_W) (H : Heap) (locs : List Loc) (ls : Array Slot), LSt s D cI cZ cJ cD q u qo qd b i th f g wb wm H locs ls → W p l e room_1 s m #[Value.ref b] below meth c H locs (cells + 1) (slots + 6) Q (F0 m 1431 ls [])) : W p l e room_1 s m #[Value.ref b] below meth c H locs cells slots Q (F0 m 1341 ls []) := by
  obtain ⟨hx, hb, hr, hml, hown, hAW, hN, hT, hNc, hX, hbl, hlk, hK, hL, hl0⟩ := C
  obtain ⟨hR, hP, hD, hS, hl⟩ := hst
  have hA : ∀ q : Nat, s.heap.size ≤ q → (fun q : Nat => s.heap.size ≤ q) q := fun _ h => h
  have hbA : ¬ (fun q : Nat => s.heap.size ≤ q) b := Nat.not_le.mpr hbl
  have hK2 : va_K D vwCl (ty2 cI cZ) s := hK.sub [0, 1] rfl
  refine lv_aload_n hx hb dL_law_1341 rfl (lv_at hl 2 rfl) ?_
  refine lv_aload_n hx hb dL_law_1342 rfl (lv_at hl 1 rfl) ?_
  refine lv_iload hx hb dL_law_1343 (lv_at hl 0 rfl) ?_
  refine lv_iconst (v := 1) hx hb dL_law_1345 (by decide) ?_
  refine n_iadd (x := i) (y := 1) hx hb dL_law_1346 ?_
  refine va_sld hx hb hX hbl hbA hS (vp_in_nI (show i + 1 < L by omega) (by omega)) dL_law_1347 ?_
  refine lv_aload_n hx hb dL_law_1348 rfl (lv_at hl 1 rfl) ?_
  refine lv_iload hx hb dL_law_1349 (lv_at hl 0 rfl) ?_
  refine lv_iconst (v := 2) hx hb dL_law_1351 (by decide) ?_
  refine n_iadd (x := i) (y := 2) hx hb dL_law_1352 ?_
  refine va_sld hx hb hX hbl hbA hS (vp_in_nI (show i + 2 < L by omega) (by omega)) dL_law_1353 ?_
  refine lv_aload hx hb dL_law_1354 (lv_at hl 5 rfl) ?_
  obtain ⟨wb1, wm1, g1, k, r, ⟨rm, mc, ms, r1, r2, r3, r4, r5, r6, hH⟩, ⟨rn, n1, n2, n3, n4, hM⟩, hR1, hout⟩ := st_averageDelay l hl0 D cI cZ cJ cD q u hR qd qo f g (xs (nI (i + 1)).toNatClampNeg) (xs (nI (i + 2)).toNatClampNeg)
  have a0 := hR.ads
  have a1 := hR1.ads
  have h0 := hR.heads
  have h1 := hR1.heads
  have hP : va_P D vwCl ([] ++ (([oD cD qd g, oJ cJ qo f] ++ wb) ++ wm)) H := hP
  have hD : va_D (fun q : Nat => s.heap.size ≤ q) ([] ++ (([oD cD qd g, oJ cJ qo f] ++ wb) ++ wm)) := hD
  refine call_H (wa := []) (w0 := ([oD cD qd g, oJ cJ qo f] ++ wb)) (w1 := ([oD cD qd g1, oJ cJ qo f] ++ wb1)) (wb := wm) (As := [.ref (q 0), .int (xs (nI (i + 1)).toNatClampNeg), .int (xs (nI (i + 2)).toNatClampNeg), .ref qd]) (rest := []) hx hb hml hown hAW hN hT hNc hH (cwSH 4 hAW q779 q780 q40 qw_averageDelay hdL_averageDelay r1 r2 r3 r4) hK hP hD hS hA (by rw [List.map_append, List.map_append, a1.1, a0.1]; rfl) rfl hl.1 rfl (lv_room (Nat.le_of_ble_eq_true rfl)) dL_law_1356 (by show cells + mc ≤ 601024; omega) (by show slots + ms ≤ 7293034; omega) (fun H locs hP hD hS => ?_)
  refine W.widen (k := cells + 1) (n := slots + 6) (by omega) (by omega) ?_
  have hP : va_P D vwCl ([oD cD qd g1, oJ cJ qo f] ++ (wb1 ++ wm)) H := hP
  have hD : va_D (fun q : Nat => s.heap.size ≤ q) ([oD cD qd g1, oJ cJ qo f] ++ (wb1 ++ wm)) := hD
  refine lv_istore (lv' := [(6, .int k), (5, .int (nI i)), (0, .ref b), (1, .ref (q 0)), (2, .ref (u 0)), (3, .ref qo), (4, .ref qd)]) hx hb dL_law_1359 hl (by decide) rfl (fun ls hl => ?_)
  refine lv_aload_n hx hb dL_law_1361 rfl (lv_at hl 4 rfl) ?_
  refine lv_aload_n hx hb dL_law_1362 rfl (lv_at hl 2 rfl) ?_
  refine lv_iload hx hb dL_law_1363 (lv_at hl 1 rfl) ?_
  refine lv_iconst (v := 1) hx hb dL_law_1365 (by decide) ?_
  refine n_iadd (x := i) (y := 1) hx hb dL_law_1366 ?_
  refine va_sld hx hb hX hbl hbA hS (vp_in_nI (show i + 1 < L by omega) (by omega)) dL_law_1367 ?_
  refine lv_aload_n hx hb dL_law_1368 rfl (lv_at hl 2 rfl) ?_
  refine lv_iload hx hb dL_law_1369 (lv_at hl 1 rfl) ?_
  refine lv_iconst (v := 2) hx hb dL_law_1371 (by decide) ?_
  refine n_iadd (x := i) (y := 2) hx hb dL_law_1372 ?_
  refine va_sld hx hb hX hbl hbA hS (vp_in_nI (show i + 2 < L by omega) (by omega)) dL_law_1373 ?_
  have hP : va_P D vwCl (([oD cD qd g1, oJ cJ qo f] ++ wb1) ++ (wm ++ [])) H := by rw [List.append_nil]; exact hP
  have hD : va_D (fun q : Nat => s.heap.size ≤ q) (([oD cD qd g1, oJ cJ qo f] ++ wb1) ++ (wm ++ [])) := by rw [List.append_nil]; exact hD
  refine call_Rf (wa := ([oD cD qd g1, oJ cJ qo f] ++ wb1)) (w0 := wm) (w1 := wm1) (wb := []) (As := [.int (xs (nI (i + 1)).toNatClampNeg), .int (xs (nI (i + 2)).toNatClampNeg)]) (rest := []) hx hb hml hown hAW hN hM (cwVA 2 hAW q1093 q1094 q1095 q50 q1096 hd_X10_averageDelay n1 n2 n3 n4) hK2 hP hD hS hA h0.2 (by rw [a1.2, a0.2]) rfl rfl rfl hl.1 rfl (lv_room (Nat.le_of_ble_eq_true rfl)) dL_law_1374 (by show cells + 1 ≤ 601024; omega) (by show slots + 6 ≤ 7293034; omega) (fun H locs hP hD hS => ?_)
  rw [List.append_nil] at hP hD
  have hP : va_P D vwCl ([oD cD qd g1, oJ cJ qo f] ++ (wb1 ++ wm1)) H := hP
  have hD : va_D (fun q : Nat => s.heap.size ≤ q) ([oD cD qd g1, oJ cJ qo f] ++ (wb1 ++ wm1)) := hD
  refine lv_fstore (lv' := [(7, .float r), (6, .int k), (5, .int (nI i)), (0, .ref b), (1, .ref (q 0)), (2, .ref (u 0)), (3, .ref qo), (4, .ref qd)]) hx hb dL_law_1377 hl (by decide) rfl (fun ls hl => ?_)
  refine lv_aload_n hx hb dL_law_1379 rfl (lv_at hl 5 rfl) ?_
  obtain ⟨rt, t1, t2, t3, t4, hTh⟩ := st_thrown l D cI cZ q u hR1
  have hP : va_P D vwCl (([oD cD qd g1, oJ cJ qo f] ++ wb1) ++ (wm1 ++ [])) H := by rw [List.append_nil]; exact hP
  have hD : va_D (fun q : Nat => s.heap.size ≤ q) (([oD cD qd g1, oJ cJ qo f] ++ wb1) ++ (wm1 ++ [])) := by rw [List.append_nil]; exact hD
  refine call_Ri (wa := ([oD cD qd g1, oJ cJ qo f] ++ wb1)) (w0 := wm1) (w1 := wm1) (wb := []) (As := []) (rest := []) hx hb hml hown hAW hN hTh (cwVA 0 hAW q895 q896 q897 q50 q898 hd_X10_thrown t1 t2 t3 t4) hK2 hP hD hS hA h1.2 rfl rfl rfl rfl hl.1 rfl (lv_room (Nat.le_of_ble_eq_true rfl)) dL_law_1380 (by show cells + 1 ≤ 601024; omega) (by show slots + 6 ≤ 7293034; omega) (fun H locs hP hD hS => ?_)
  rw [List.append_nil] at hP hD
  have hP : va_P D vwCl ([oD cD qd g1, oJ cJ qo f] ++ (wb1 ++ wm1)) H := hP
  have hD : va_D (fun q : Nat => s.heap.size ≤ q) ([oD cD qd g1, oJ cJ qo f] ++ (wb1 ++ wm1)) := hD
  refine lv_iload hx hb dL_law_1383 (lv_at hl 1 rfl) ?_
  refine lv_icmp_eq (tgt := 1390) hx hb dL_law_1385 (by decide) (fun _ => ?_) (fun c9 => absurd rfl c9)
  refine lv_iload hx hb dL_law_1390 (lv_at hl 1 rfl) ?_
  refine lv_if_ne (tgt := 1428) hx hb dL_law_1392 (by decide) (fun c1392 => ?_) (fun c1392 => ?_)
  · skip
    refine lv_goto (tgt := 1431) hx hb dL_law_1428 (by decide) ?_
    exact K _ _ _ _ _ _ _ _ ⟨hR1, hP, hD, hS, lv_sub hl [2, 3, 4, 5, 6, 7] rfl⟩
  · skip
    refine lv_aload hx hb dL_law_1395 (lv_at hl 7 rfl) ?_
    refine lv_iconst (v := 0) hx hb dL_law_1397 (by decide) ?_
    refine va_dald hx hb hK hP 0 3 rfl rfl (pk_in 0 1 (by decide)) dL_law_1398 ?_
    show W p l e room_1 s m #[Value.ref b] below meth c H locs _ _ Q (F0 m 1399 ls [.double (g1 0)])
    refine lv_fload hx hb dL_law_1399 (lv_at hl 0 rfl) ?_
    refine lv_f2d hx hb dL_law_1401 (hout c1392).2.1 ?_
    refine lv_dcmp hx hb dL_law_1402 ?_
    have e9 : Op.cmpValue (FP.dcmp (g1 0) (FP.f2d r)) .l = 0 := by rw [(hout c1392).1, (hout c1392).2.2]; rfl
    refine lv_if_eq (tgt := 1428) hx hb dL_law_1403 (by decide) (fun _ => ?_) (fun c7 => absurd e9 c7)
    refine lv_goto (tgt := 1431) hx hb dL_law_1428 (by decide) ?_
    exact K _ _ _ _ _ _ _ _ ⟨hR1, hP, hD, hS, lv_sub hl [2, 3, 4, 5, 6, 7] rfl⟩
