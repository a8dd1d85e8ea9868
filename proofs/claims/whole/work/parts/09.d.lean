/-! the law's loop, its start, the claim -/
set_option maxHeartbeats 4000000 in
set_option maxRecDepth 100000 in
theorem law_loop {p : Program} {l : Launch} {e : Env} {s : State} {m : MethodId} {below : List Frame} {meth : Method} {c : Code} {b L : Nat} {xs : Nat → Int32} {D : va_G} {cI cZ cJ cD : ClassId} (C : LwE p l s m meth c b L xs D cI cZ cJ cD) {q u : Nat → Nat} {qo qd : Nat} : ∀ (n i : Nat), i ≤ L + 4 → L < i + 4 * n → ∀ (th : Int32) (f : Nat → Int64) (g : Nat → UInt64) (wb wm : va_W) (H : Heap) (locs : List Loc) (ls : Array Slot) (cells slots : Nat), cells + n ≤ 601024 → slots + 6 * n ≤ 7293034 → LSt s D cI cZ cJ cD q u qo qd b i th f g wb wm H locs ls → W p l e room_1 s m #[Value.ref b] below meth c H locs cells slots (lw_Z below #[Value.ref b] s) (F0 m 28 ls []) := by
  have C0 := C
  obtain ⟨hx, hb, hr, hml, hown, hAW, hN, hT, hNc, hX, hbl, hlk, hK, hL, hl0⟩ := C
  have hbA : ¬ (fun q : Nat => s.heap.size ≤ q) b := Nat.not_le.mpr hbl
  intro n
  induction n with
  | zero =>
    intro i hi4 hn th f g wb wm H locs ls cells slots hz1 hz2 hst
    have hl := hst.2.2.2.2
    have hS := hst.2.2.2.1
    refine lv_iload hx hb dL_law_28 (lv_at hl 0 rfl) ?_
    refine lv_aload_n hx hb dL_law_30 rfl (lv_at hl 1 rfl) ?_
    refine va_slen hx hb hX hbl hbA hS dL_law_31 ?_
    refine lv_iconst (v := 4) hx hb dL_law_32 (by decide) ?_
    refine lv_isub hx hb dL_law_33 ?_
    have hlt : Int32.ofNat L - 4 < nI i := by
      rw [i_lt, show Int32.ofNat L - 4 = nI L - nI 4 from rfl, pk_sub_toInt (by omega) (by decide), nI_toInt (by omega)]
      omega
    refine lv_icmp_gt (tgt := 1437) hx hb dL_law_34 (by decide) (fun _ => ?_) (fun c9 => absurd hlt c9)
    refine lv_iconst (v := 1) hx hb dL_law_1437 (by decide) ?_
    refine va_forget (fun q hq => hS.2.2 q hq) ?_
    refine W.widen (k := 601024) (n := 7293034) (by omega) (by omega) ?_
    refine W.base ?_
    exact lw_ret (Drawn.sameBut.refl s.drawn lw_cs) hx hb hr hlk dL_law_1438
  | succ n ih =>
    intro i hi4 hn th f g wb wm H locs ls cells slots hz1 hz2 hst
    have hl := hst.2.2.2.2
    have hS := hst.2.2.2.1
    refine lv_iload hx hb dL_law_28 (lv_at hl 0 rfl) ?_
    refine lv_aload_n hx hb dL_law_30 rfl (lv_at hl 1 rfl) ?_
    refine va_slen hx hb hX hbl hbA hS dL_law_31 ?_
    refine lv_iconst (v := 4) hx hb dL_law_32 (by decide) ?_
    refine lv_isub hx hb dL_law_33 ?_
    refine lv_icmp_gt (tgt := 1437) hx hb dL_law_34 (by decide) (fun _ => ?_) (fun c9 => ?_)
    · refine lv_iconst (v := 1) hx hb dL_law_1437 (by decide) ?_
      refine va_forget (fun q hq => hS.2.2 q hq) ?_
      refine W.widen (k := 601024) (n := 7293034) (by omega) (by omega) ?_
      refine W.base ?_
      exact lw_ret (Drawn.sameBut.refl s.drawn lw_cs) hx hb hr hlk dL_law_1438
    · have hi : i + 4 ≤ L := by
        have h9 : ¬ (Int32.ofNat L - 4).toInt < (nI i).toInt := fun z => c9 ((i_lt _ _).mpr z)
        rw [show Int32.ofNat L - 4 = nI L - nI 4 from rfl, pk_sub_toInt (by omega) (by decide), nI_toInt (by omega)] at h9
        omega
      have cont : ∀ (th : Int32) (f : Nat → Int64) (g : Nat → UInt64) (wb wm : va_W) (H : Heap) (locs : List Loc) (ls : Array Slot), LSt s D cI cZ cJ cD q u qo qd b i th f g wb wm H locs ls → W p l e room_1 s m #[Value.ref b] below meth c H locs (cells + 1) (slots + 6) (lw_Z below #[Value.ref b] s) (F0 m 1431 ls []) := by
        intro th f g wb wm H locs ls hst
        obtain ⟨k1, k2, k3, k4, hl⟩ := hst
        refine lv_iinc (v := nI (i + 4)) (lv' := [(5, .int (nI (i + 4))), (0, .ref b), (1, .ref (q 0)), (2, .ref (u 0)), (3, .ref qo), (4, .ref qd)]) hx hb dL_law_1431 hl (k := 0) rfl (nI_inc i 4) (by decide) rfl (fun ls hl => ?_)
        refine lv_goto (tgt := 28) hx hb dL_law_1434 (by decide) ?_
        exact ih (i + 4) (by omega) (by omega) th f g wb wm H locs ls _ _ (by omega) (by omega) ⟨k1, k2, k3, k4, hl⟩
      refine lv_aload_n hx hb dL_law_37 rfl (lv_at hl 1 rfl) ?_
      refine lv_iload hx hb dL_law_38 (lv_at hl 0 rfl) ?_
      refine va_sld hx hb hX hbl hbA hS (vp_in_nI (show i < L by omega) (by omega)) dL_law_40 ?_
      refine lv_bipush (v := 31) hx hb dL_law_41 (by decide) ?_
      refine lv_iand hx hb dL_law_43 ?_
      refine lv_topi (fun sw _ => ?_)
      by_cases hsw : sw.toInt < 0 ∨ 27 < sw.toInt
      · refine lv_tableOut (tgt := 1431) hx hb dL_law_44 hsw (by decide) ?_
        exact W.widen (by omega) (by omega) (cont th f g wb wm H locs ls hst)
      · obtain ⟨k, hk⟩ : ∃ k : Nat, sw.toInt = (k : Int) := ⟨sw.toInt.toNat, by omega⟩
        have h1 : ¬ sw.toInt < 0 := by omega
        have h2 : ¬ (27 : Int) < sw.toInt := by omega
        match k, hk with
        | 0, hk => exact lv_tableIn (off := 128) (tgt := 172) hx hb dL_law_44 h1 h2 (by rw [hk]; rfl) (by decide) (lk_0 C0 hst hi (by omega) (by omega) cont)
        | 1, hk => exact lv_tableIn (off := 141) (tgt := 185) hx hb dL_law_44 h1 h2 (by rw [hk]; rfl) (by decide) (lk_1 C0 hst hi (by omega) (by omega) cont)
        | 2, hk => exact lv_tableIn (off := 201) (tgt := 245) hx hb dL_law_44 h1 h2 (by rw [hk]; rfl) (by decide) (lk_2 C0 hst hi (by omega) (by omega) cont)
        | 3, hk => exact lv_tableIn (off := 261) (tgt := 305) hx hb dL_law_44 h1 h2 (by rw [hk]; rfl) (by decide) (lk_3 C0 hst hi (by omega) (by omega) cont)
        | 4, hk => exact lv_tableIn (off := 317) (tgt := 361) hx hb dL_law_44 h1 h2 (by rw [hk]; rfl) (by decide) (lk_4 C0 hst hi (by omega) (by omega) cont)
        | 5, hk => exact lv_tableIn (off := 373) (tgt := 417) hx hb dL_law_44 h1 h2 (by rw [hk]; rfl) (by decide) (lk_5 C0 hst hi (by omega) (by omega) cont)
        | 6, hk => exact lv_tableIn (off := 453) (tgt := 497) hx hb dL_law_44 h1 h2 (by rw [hk]; rfl) (by decide) (lk_6 C0 hst hi (by omega) (by omega) cont)
        | 7, hk => exact lv_tableIn (off := 466) (tgt := 510) hx hb dL_law_44 h1 h2 (by rw [hk]; rfl) (by decide) (lk_7 C0 hst hi (by omega) (by omega) cont)
        | 8, hk => exact lv_tableIn (off := 522) (tgt := 566) hx hb dL_law_44 h1 h2 (by rw [hk]; rfl) (by decide) (lk_8 C0 hst hi (by omega) (by omega) cont)
        | 9, hk => exact lv_tableIn (off := 535) (tgt := 579) hx hb dL_law_44 h1 h2 (by rw [hk]; rfl) (by decide) (lk_9 C0 hst hi (by omega) (by omega) cont)
        | 10, hk => exact lv_tableIn (off := 548) (tgt := 592) hx hb dL_law_44 h1 h2 (by rw [hk]; rfl) (by decide) (lk_10 C0 hst hi (by omega) (by omega) cont)
        | 11, hk => exact lv_tableIn (off := 561) (tgt := 605) hx hb dL_law_44 h1 h2 (by rw [hk]; rfl) (by decide) (lk_11 C0 hst hi (by omega) (by omega) cont)
        | 12, hk => exact lv_tableIn (off := 574) (tgt := 618) hx hb dL_law_44 h1 h2 (by rw [hk]; rfl) (by decide) (lk_12 C0 hst hi (by omega) (by omega) cont)
        | 13, hk => exact lv_tableIn (off := 630) (tgt := 674) hx hb dL_law_44 h1 h2 (by rw [hk]; rfl) (by decide) (lk_13 C0 hst hi (by omega) (by omega) cont)
        | 14, hk => exact lv_tableIn (off := 686) (tgt := 730) hx hb dL_law_44 h1 h2 (by rw [hk]; rfl) (by decide) (lk_14 C0 hst hi (by omega) (by omega) cont)
        | 15, hk => exact lv_tableIn (off := 742) (tgt := 786) hx hb dL_law_44 h1 h2 (by rw [hk]; rfl) (by decide) (lk_15 C0 hst hi (by omega) (by omega) cont)
        | 16, hk => exact lv_tableIn (off := 810) (tgt := 854) hx hb dL_law_44 h1 h2 (by rw [hk]; rfl) (by decide) (lk_16 C0 hst hi (by omega) (by omega) cont)
        | 17, hk => exact lv_tableIn (off := 878) (tgt := 922) hx hb dL_law_44 h1 h2 (by rw [hk]; rfl) (by decide) (lk_17 C0 hst hi (by omega) (by omega) cont)
        | 18, hk => exact lv_tableIn (off := 891) (tgt := 935) hx hb dL_law_44 h1 h2 (by rw [hk]; rfl) (by decide) (lk_18 C0 hst hi (by omega) (by omega) cont)
        | 19, hk => exact lv_tableIn (off := 947) (tgt := 991) hx hb dL_law_44 h1 h2 (by rw [hk]; rfl) (by decide) (lk_19 C0 hst hi (by omega) (by omega) cont)
        | 20, hk => exact lv_tableIn (off := 960) (tgt := 1004) hx hb dL_law_44 h1 h2 (by rw [hk]; rfl) (by decide) (lk_20 C0 hst hi (by omega) (by omega) cont)
        | 21, hk => exact lv_tableIn (off := 1016) (tgt := 1060) hx hb dL_law_44 h1 h2 (by rw [hk]; rfl) (by decide) (lk_21 C0 hst hi (by omega) (by omega) cont)
        | 22, hk => exact lv_tableIn (off := 1029) (tgt := 1073) hx hb dL_law_44 h1 h2 (by rw [hk]; rfl) (by decide) (lk_22 C0 hst hi (by omega) (by omega) cont)
        | 23, hk => exact lv_tableIn (off := 1085) (tgt := 1129) hx hb dL_law_44 h1 h2 (by rw [hk]; rfl) (by decide) (lk_23 C0 hst hi (by omega) (by omega) cont)
        | 24, hk => exact lv_tableIn (off := 1098) (tgt := 1142) hx hb dL_law_44 h1 h2 (by rw [hk]; rfl) (by decide) (lk_24 C0 hst hi (by omega) (by omega) cont)
        | 25, hk => exact lv_tableIn (off := 1161) (tgt := 1205) hx hb dL_law_44 h1 h2 (by rw [hk]; rfl) (by decide) (lk_25 C0 hst hi (by omega) (by omega) cont)
        | 26, hk => exact lv_tableIn (off := 1229) (tgt := 1273) hx hb dL_law_44 h1 h2 (by rw [hk]; rfl) (by decide) (lk_26 C0 hst hi (by omega) (by omega) cont)
        | 27, hk => exact lv_tableIn (off := 1297) (tgt := 1341) hx hb dL_law_44 h1 h2 (by rw [hk]; rfl) (by decide) (lk_27 C0 hst hi (by omega) (by omega) cont)
        | k + 28, hk => exact absurd hk (by omega)
theorem RR_init : RR (fun _ => 0) 0 20 (((fun _ => 0), (fun _ => 0), (fun _ => 0), 0) : AlS) (ph_set ((0, 0, 0, 0, 0, 0, 0, 0) : PhS) 5 1000 50) (((fun _ => 0), (fun _ => 0), 0) : ScS) (((fun _ => 0), 0) : LcS) (((fun _ => false), 0, 0, false) : CuS) (((fun _ => false), 0, 0, false) : CuS) (((fun _ => false), (fun _ => false), 0, 0, 0) : TrS) ((5, 1000, 50, 0, 0, 0, 0, 0) : PmS) (fun _ => false) false (fun _ => 0) := by
  refine ⟨⟨by omega, fun k => (show bd 0 by unfold bd; decide), Nat.le_refl _, ⟨rfl, rfl, rfl, rfl, rfl, rfl, rfl, Nat.le_refl _, i0_le, ⟨i0_a, i0_b⟩, fun h => absurd h i0_nlt, fun _ h => absurd h (Nat.lt_irrefl 0), fun _ => i0_nlt⟩, fun j hj => absurd hj (Nat.not_lt_zero j), rfl, fun k _ => rfl⟩, ⟨Nat.le_refl _, fun f t h1 h2 => absurd h2 (by show ¬ t ≤ 0; omega), Nat.le_refl _, fun c t h1 h2 => absurd h2 (by show ¬ t ≤ 0; omega), (fun z => by cases z)⟩, (fun z => by cases z), (fun z => by cases z)⟩
theorem new_j {p : Program} {l : Launch} {e : Env} {R : Room} {s : State} {m : MethodId} {args : Array Value} {below : List Frame} {meth : Method} {c : Code} {H : Heap} {locs : List Loc} {cells slots : Nat} {Q : State → Prop} {cc : ByteArray} {pc : Nat} {ls : Array Slot} {rest : List Value} {D : va_G} {cI cZ cJ cD : ClassId} {A : Nat → Prop} {ws : va_W} (hx : p.tables.exec = Jvm.exec) (hb : c.code = cc) (hAW : ∀ w ∈ AW, w.before args s = true) (hK : va_K D vwCl (ty4 cI cZ cJ cD) s) (hP : va_P D vwCl ws H) (hD : va_D A ws) (hS : va_S A s.heap H locs) (hA : ∀ q, s.heap.size ≤ q → A q) (hcells : cells + 1 ≤ R.cells) (hslots : slots + 1 ≤ R.slots) (hdg : decode cc pc = .ok (.newarray .long, 2))
    (kk : ∀ (q : Nat) (H1 : Heap), va_P D vwCl (ws ++ [(q, .inl (cJ, 1, .inr (.inl (fun _ => 0))))]) H1 → va_D A (ws ++ [(q, .inl (cJ, 1, .inr (.inl (fun _ => 0))))]) → va_S A s.heap H1 locs → W p l e R s m args below meth c H1 locs (cells + 1) (slots + 1) Q (F0 m (pc + 2) ls (.ref q :: rest))) : W p l e R s m args below meth c H locs cells slots Q (F0 m pc ls (.int 1 :: rest)) := by
  refine va_newa (atype := .long) (ty := .long) (a0 := (1, .inr (.inl (fun _ => 0)))) (N' := 1) hx hb (hAW _ q1097) rfl hK hP hD hS hA (fun _ => rfl) (by decide) (by decide) (Nat.le_of_ble_eq_true rfl) hcells hslots hdg (fun q cA H1 hK1 hP1 hD1 hS1 => ?_)
  have e1 : cA = cJ := Option.some.inj (((hK1.2 4 _ rfl).2 : s.vm.findClass _ = some cA).symm.trans ((hK.2 2 _ rfl).2 : s.vm.findClass _ = some cJ))
  subst e1
  exact kk q H1 hP1 hD1 hS1
theorem new_d {p : Program} {l : Launch} {e : Env} {R : Room} {s : State} {m : MethodId} {args : Array Value} {below : List Frame} {meth : Method} {c : Code} {H : Heap} {locs : List Loc} {cells slots : Nat} {Q : State → Prop} {cc : ByteArray} {pc : Nat} {ls : Array Slot} {rest : List Value} {D : va_G} {cI cZ cJ cD : ClassId} {A : Nat → Prop} {ws : va_W} (hx : p.tables.exec = Jvm.exec) (hb : c.code = cc) (hAW : ∀ w ∈ AW, w.before args s = true) (hK : va_K D vwCl (ty4 cI cZ cJ cD) s) (hP : va_P D vwCl ws H) (hD : va_D A ws) (hS : va_S A s.heap H locs) (hA : ∀ q, s.heap.size ≤ q → A q) (hcells : cells + 1 ≤ R.cells) (hslots : slots + 1 ≤ R.slots) (hdg : decode cc pc = .ok (.newarray .double, 2))
    (kk : ∀ (q : Nat) (H1 : Heap), va_P D vwCl (ws ++ [(q, .inl (cD, 1, .inr (.inr (.inr (.inl (fun _ => 0))))))]) H1 → va_D A (ws ++ [(q, .inl (cD, 1, .inr (.inr (.inr (.inl (fun _ => 0))))))]) → va_S A s.heap H1 locs → W p l e R s m args below meth c H1 locs (cells + 1) (slots + 1) Q (F0 m (pc + 2) ls (.ref q :: rest))) : W p l e R s m args below meth c H locs cells slots Q (F0 m pc ls (.int 1 :: rest)) := by
  refine va_newa (atype := .double) (ty := .double) (a0 := (1, .inr (.inr (.inr (.inl (fun _ => 0)))))) (N' := 1) hx hb (hAW _ q1098) rfl hK hP hD hS hA (fun _ => rfl) (by decide) (by decide) (Nat.le_of_ble_eq_true rfl) hcells hslots hdg (fun q cA H1 hK1 hP1 hD1 hS1 => ?_)
  have e1 : cA = cD := Option.some.inj (((hK1.2 4 _ rfl).2 : s.vm.findClass _ = some cA).symm.trans ((hK.2 3 _ rfl).2 : s.vm.findClass _ = some cD))
  subst e1
  exact kk q H1 hP1 hD1 hS1
