/-! the law's areCuttings -/
theorem SC_ex {v : Nat → Int32} (hv : VB v) {n : Nat} (hn : n ≤ 120) : ∃ K, SC v n K := by
  have hl := learL_ok hv n 0 (fun _ => 0) (fun _ => 0) (by omega) (fun f t h1 h2 => absurd h2 (by omega))
  rw [Nat.zero_add] at hl
  exact ⟨_, hl.1⟩
theorem best_greedy {v : Nat → Int32} {n : Nat} {pn : Int32} {w u : CuS} (h1 : BestOK v n pn w) (h2 : GreedyOK v n pn u) : w.2.2.1 ≤ u.2.2.1 := by
  by_cases h0 : n = 0
  · rw [(h1.1 h0).2, (h2.1 h0).2]; exact Int32.le_refl _
  · obtain ⟨k, P, hC, hm⟩ := h1.2 (by omega)
    obtain ⟨k2, P2, hC2, -⟩ := h2.2 (by omega)
    have := (hm k2 P2 hC2.1).1
    rw [← hC2.2.2.2] at this
    exact (i_le _ _).mpr this
theorem least_facts {v : Nat → Int32} {n : Nat} {pn : Int32} {K : Nat → Int32} (hn : n ≤ 120) (hSC : SC v n K) (hp : 0 ≤ pn.toInt ∧ pn.toInt ≤ 100000) {w : CuS} {kb : Nat} {P : Nat → Nat} (hC : CutOK v n pn w kb P)
    (hm : ∀ k' P', Chn P' k' n → w.2.2.1.toInt ≤ sX v P' k' 0 + (k' : Int) * pn.toInt ∧ (sX v P' k' 0 + (k' : Int) * pn.toInt = w.2.2.1.toInt → kb ≤ k')) {i : Nat} (hi : i < n) :
    w.2.2.1 ≤ lsp K i n + nI i * pn ∧ (i = kb → lsp K i n + nI i * pn = w.2.2.1) ∧ (i < kb → w.2.2.1 < lsp K i n + nI i * pn) := by
  obtain ⟨Q, hQ, hs⟩ := lsp_hi hn hSC i n hi (Nat.le_refl _)
  obtain ⟨m1, m2⟩ := hm i Q hQ
  have hb := lsp_bd hn (KB_of hn hSC) i n hi (Nat.le_refl _)
  obtain ⟨p1, p2, p3⟩ := pn_mul hp (show i < 120 by omega)
  have e : (lsp K i n + nI i * pn).toInt = (lsp K i n).toInt + (i : Int) * pn.toInt := by rw [ti_add (by omega) (by omega), p1]
  rw [hs] at m1 m2
  refine ⟨(i_le _ _).mpr (by omega), fun z => (i_eq _ _).mpr ?_, fun z => (i_lt _ _).mpr ?_⟩
  · subst z
    have hl := lsp_lo hn hSC i P n (Nat.le_refl _) hC.1
    have := hC.2.2.2
    omega
  · by_cases c : (lsp K i n).toInt + (i : Int) * pn.toInt = w.2.2.1.toInt
    · have := m2 c
      omega
    · omega
theorem lsp_last {v : Nat → Int32} (hv : VB v) {K : Nat → Int32} {n : Nat} (hn : n ≤ 120) (h0 : 0 < n) (hSC : SC v n K) : lsp K (n - 1) n = 0 := by
  have h := lsp_top hv hn hSC (n - 1) (by omega)
  rw [show n - 1 + 1 = n by omega] at h
  exact (i_eq _ _).mpr (by rw [h]; rfl)
set_option maxHeartbeats 4000000 in
set_option maxRecDepth 100000 in
theorem cl_areCuttings (l : Launch) (hl0 : l.stackTraces = false) (D : va_G) (cI cZ : ClassId) (q : Nat → Nat) {v : Nat → Int32} {n : Nat} {pn : Int32} {al : AlS} {cs : CsS} {ph : PhS} {tm : Nat → Bool} {bx bg : CuS} {gq : Nat} {g : Nat → Int32} {wb : va_W} (hW : PW cI cZ q v n pn al cs ph tm bx bg wb) (hG : GK g n pn tm) : Cz l yL_areCuttings (aw yL_areCuttings cL_areCuttings 8 (some .boolean)) ({ frames := 12, cells := 4, slots := 24, locals := 300 }) D cI cZ [.ref (q 0), .ref gq] (([gC cI gq g] ++ wb)) (fun rr ww => rr = 1 ∧ ∃ bx' bg' wb', ww = [gC cI gq g] ++ wb' ∧ PW cI cZ q v n pn al cs ph tm bx' bg' wb') 4 24 := by
  refine mk_z (y := yL_areCuttings) (av := [.ref (q 0), .ref gq]) (cc := cL_areCuttings) (maxL := 8) (ret := (some .boolean)) (plainFor_of_name (by decide)) (Nat.le_of_ble_eq_true rfl) ?_
  intro p e s m args below meth c A Q R hR hQ hx hb hr hml hAW hown hlk hN hT hNc hA hP hK hD hS ls hl
  have hl : lv_has ls 8 [(0, .ref (q 0)), (1, .ref gq)] := hl
  have hn := hW.pv.1
  have hpv := hW.pv
  obtain ⟨K, hSC⟩ := SC_ex hpv.2.1 hn
  refine lv_aload_n hx hb dL_areCuttings_0 rfl (lv_at hl 0 rfl) ?_
  obtain ⟨wb1, bx1, hW1, hM1, hs1, hk1, hB1⟩ := sp_bestCost l D cI cZ q hW
  refine call_Pi (wa := [(gq, .inl (cI, 3, .inl g))]) (w0 := wb) (w1 := wb1) (As := []) (rest := []) hx hb hml hown hAW hN hM1 q700 q701 q702 q22 q703 hd_X9_bestCost (by rw [hR]; exact Nat.le_of_ble_eq_true rfl) (by rw [hR]; exact Nat.le_of_ble_eq_true rfl) hK hP hD hS hA hW.hd (hW1.ads.trans hW.ads.symm) rfl hl.1 rfl (lv_room (Nat.le_of_ble_eq_true rfl)) dL_areCuttings_1 (by rw [hR]; show 0 ≤ 4; omega) (by rw [hR]; show 0 ≤ 24; omega) (fun H locs hP hD hS => ?_)
  refine lv_istore_n (lv' := [(2, .int bx1.2.2.1), (0, .ref (q 0)), (1, .ref gq)]) hx hb dL_areCuttings_4 rfl hl (by decide) rfl (fun ls hl => ?_)
  refine lv_aload_n hx hb dL_areCuttings_5 rfl (lv_at hl 1 rfl) ?_
  obtain ⟨wb2, bg2, hW2, hM2, hs2, hk2, hB2⟩ := sp_greedyCost l D cI cZ q hW1
  refine call_Pi (wa := [(gq, .inl (cI, 3, .inl g))]) (w0 := wb1) (w1 := wb2) (As := []) (rest := []) hx hb hml hown hAW hN hM2 q704 q705 q706 q22 q707 hd_X9_greedyCost (by rw [hR]; exact Nat.le_of_ble_eq_true rfl) (by rw [hR]; exact Nat.le_of_ble_eq_true rfl) hK hP hD hS hA hW1.hd (hW2.ads.trans hW1.ads.symm) rfl hl.1 rfl (lv_room (Nat.le_of_ble_eq_true rfl)) dL_areCuttings_6 (by rw [hR]; show 0 ≤ 4; omega) (by rw [hR]; show 0 ≤ 24; omega) (fun H locs hP hD hS => ?_)
  have hbg := best_greedy hB1 hB2
  refine lv_istore_n (lv' := [(3, .int bg2.2.2.1), (2, .int bx1.2.2.1), (0, .ref (q 0)), (1, .ref gq)]) hx hb dL_areCuttings_9 rfl hl (by decide) rfl (fun ls hl => ?_)
  refine lv_aload_n hx hb dL_areCuttings_10 rfl (lv_at hl 2 rfl) ?_
  refine lv_aload_n hx hb dL_areCuttings_11 rfl (lv_at hl 3 rfl) ?_
  refine lv_iconst (v := 0) hx hb dL_areCuttings_12 (by decide) ?_
  have hP : va_P D vwCl ([] ++ ([(gq, .inl (cI, 3, .inl g))] ++ wb2)) H := hP
  have hD : va_D A ([] ++ ([(gq, .inl (cI, 3, .inl g))] ++ wb2)) := hD
  have hc9 := cl_told0 (gq := gq) l hl0 D cI cZ q hW2 hG hs1
  refine call_Zw (rm := { frames := 11, cells := 0, slots := 0, locals := 220 }) (wa := []) (w0 := ([(gq, .inl (cI, 3, .inl g))] ++ wb2)) (As := [.ref (q 0), .ref gq, .int 0]) (rest := []) hx hb hml hown hAW hN hT hNc hc9 q708 q709 q21 q710 hd_L_told (by rw [hR]; exact Nat.le_of_ble_eq_true rfl) (by rw [hR]; exact Nat.le_of_ble_eq_true rfl) rfl rfl hK hP hD hS hA rfl hl.1 rfl (lv_room (Nat.le_of_ble_eq_true rfl)) dL_areCuttings_13 (by rw [hR]; show 0 ≤ 4; omega) (by rw [hR]; show 0 ≤ 24; omega) (fun x9 w9 H locs hz9 hw9 hP hD hS => ?_)
  obtain ⟨e9, wb3, rfl, hW3⟩ := hz9
  subst e9
  have hP : va_P D vwCl ([(gq, .inl (cI, 3, .inl g))] ++ wb3) H := hP
  have hD : va_D A ([(gq, .inl (cI, 3, .inl g))] ++ wb3) := hD
  refine lv_iload_n hx hb dL_areCuttings_16 rfl (lv_at hl 1 rfl) ?_
  refine lv_icmp_ne (tgt := 87) hx hb dL_areCuttings_17 (by decide) (fun c17 => absurd c17 (fun z => z rfl)) (fun c17 => ?_)
  refine lv_aload_n hx hb dL_areCuttings_20 rfl (lv_at hl 2 rfl) ?_
  refine lv_aload_n hx hb dL_areCuttings_21 rfl (lv_at hl 3 rfl) ?_
  refine lv_iconst (v := 1) hx hb dL_areCuttings_22 (by decide) ?_
  have hP : va_P D vwCl ([] ++ ([(gq, .inl (cI, 3, .inl g))] ++ wb3)) H := hP
  have hD : va_D A ([] ++ ([(gq, .inl (cI, 3, .inl g))] ++ wb3)) := hD
  have hc9 := cl_told1 (gq := gq) l hl0 D cI cZ q hW3 hG hs2
  refine call_Zw (rm := { frames := 11, cells := 0, slots := 0, locals := 220 }) (wa := []) (w0 := ([(gq, .inl (cI, 3, .inl g))] ++ wb3)) (As := [.ref (q 0), .ref gq, .int 1]) (rest := []) hx hb hml hown hAW hN hT hNc hc9 q708 q709 q21 q710 hd_L_told (by rw [hR]; exact Nat.le_of_ble_eq_true rfl) (by rw [hR]; exact Nat.le_of_ble_eq_true rfl) rfl rfl hK hP hD hS hA rfl hl.1 rfl (lv_room (Nat.le_of_ble_eq_true rfl)) dL_areCuttings_23 (by rw [hR]; show 0 ≤ 4; omega) (by rw [hR]; show 0 ≤ 24; omega) (fun x9 w9 H locs hz9 hw9 hP hD hS => ?_)
  obtain ⟨e9, wb4, rfl, hW4⟩ := hz9
  subst e9
  have hP : va_P D vwCl ([(gq, .inl (cI, 3, .inl g))] ++ wb4) H := hP
  have hD : va_D A ([(gq, .inl (cI, 3, .inl g))] ++ wb4) := hD
  refine lv_iload_n hx hb dL_areCuttings_26 rfl (lv_at hl 0 rfl) ?_
  refine lv_icmp_ne (tgt := 87) hx hb dL_areCuttings_27 (by decide) (fun c27 => absurd c27 (fun z => z rfl)) (fun c27 => ?_)
  refine lv_iload_n hx hb dL_areCuttings_30 rfl (lv_at hl 1 rfl) ?_
  refine lv_iload_n hx hb dL_areCuttings_31 rfl (lv_at hl 0 rfl) ?_
  refine lv_icmp_gt (tgt := 87) hx hb dL_areCuttings_32 (by decide) (fun c32 => absurd c32 (Int32.not_lt.mpr hbg)) (fun c32 => ?_)
  refine lv_aload_n hx hb dL_areCuttings_35 rfl (lv_at hl 2 rfl) ?_
  refine lv_bipush (v := 6) hx hb dL_areCuttings_36 (by decide) ?_
  refine lv_aload_n hx hb dL_areCuttings_38 rfl (lv_at hl 2 rfl) ?_
  obtain ⟨wb5, bx5, hW5, hM5, hs5, hk5, hB5⟩ := sp_changes l D cI cZ q hW4
  obtain rfl : bx1 = bx5 := (hk5 hs1).symm
  refine call_Pi (wa := [(gq, .inl (cI, 3, .inl g))]) (w0 := wb4) (w1 := wb5) (As := []) (rest := [.int 6, .ref (q 0)]) hx hb hml hown hAW hN hM5 q715 q716 q717 q22 q718 hd_X9_changes (by rw [hR]; exact Nat.le_of_ble_eq_true rfl) (by rw [hR]; exact Nat.le_of_ble_eq_true rfl) hK hP hD hS hA hW4.hd (hW5.ads.trans hW4.ads.symm) rfl hl.1 rfl (lv_room (Nat.le_of_ble_eq_true rfl)) dL_areCuttings_39 (by rw [hR]; show 0 ≤ 4; omega) (by rw [hR]; show 0 ≤ 24; omega) (fun H locs hP hD hS => ?_)
  refine lv_iconst (v := 0) hx hb dL_areCuttings_42 (by decide) ?_
  obtain ⟨wb6, hW6, hM6⟩ := sh_asks6x l hl0 D cI cZ q hW5 hs1 (x := bx1.2.1) 0 (fun z => absurd z.2 (Int32.lt_irrefl))
  refine call_Hi (wa := [(gq, .inl (cI, 3, .inl g))]) (w0 := wb5) (w1 := wb6) (As := [.ref (q 0), .int 6, .int bx1.2.1, .int 0]) (rest := []) hx hb hml hown hAW hN hT hNc hM6 q461 q462 q21 qw_asks hd_L_asks (by rw [hR]; exact Nat.le_of_ble_eq_true rfl) (by rw [hR]; exact Nat.le_of_ble_eq_true rfl) hK hP hD hS hA (hW6.ads.trans hW5.ads.symm) rfl hl.1 rfl (lv_room (Nat.le_of_ble_eq_true rfl)) dL_areCuttings_43 (by rw [hR]; show 1 ≤ 4; omega) (by rw [hR]; show 6 ≤ 24; omega) (fun H locs hP hD hS => ?_)
  refine lv_sipush (v := (-3000)) hx hb dL_areCuttings_46 (by decide) ?_
  refine lv_icmp_ne (tgt := 87) hx hb dL_areCuttings_49 (by decide) (fun c49 => absurd c49 (fun z => z rfl)) (fun c49 => ?_)
  refine lv_aload_n hx hb dL_areCuttings_52 rfl (lv_at hl 2 rfl) ?_
  refine lv_bipush (v := 7) hx hb dL_areCuttings_53 (by decide) ?_
  refine lv_aload_n hx hb dL_areCuttings_55 rfl (lv_at hl 2 rfl) ?_
  obtain ⟨wb7, bg7, hW7, hM7, hs7, hk7, hB7⟩ := sp_greedyChanges l D cI cZ q hW6
  obtain rfl : bg2 = bg7 := (hk7 hs2).symm
  refine call_Pi (wa := [(gq, .inl (cI, 3, .inl g))]) (w0 := wb6) (w1 := wb7) (As := []) (rest := [.int 7, .ref (q 0)]) hx hb hml hown hAW hN hM7 q711 q712 q713 q22 q714 hd_X9_greedyChanges (by rw [hR]; exact Nat.le_of_ble_eq_true rfl) (by rw [hR]; exact Nat.le_of_ble_eq_true rfl) hK hP hD hS hA hW6.hd (hW7.ads.trans hW6.ads.symm) rfl hl.1 rfl (lv_room (Nat.le_of_ble_eq_true rfl)) dL_areCuttings_56 (by rw [hR]; show 1 ≤ 4; omega) (by rw [hR]; show 6 ≤ 24; omega) (fun H locs hP hD hS => ?_)
  refine lv_iconst (v := 0) hx hb dL_areCuttings_59 (by decide) ?_
  obtain ⟨wb8, hW8, hM8⟩ := sh_asks7x l hl0 D cI cZ q hW7 hs2 (x := bg2.2.1) 0 (fun z => absurd z.2 (Int32.lt_irrefl))
  refine call_Hi (wa := [(gq, .inl (cI, 3, .inl g))]) (w0 := wb7) (w1 := wb8) (As := [.ref (q 0), .int 7, .int bg2.2.1, .int 0]) (rest := []) hx hb hml hown hAW hN hT hNc hM8 q461 q462 q21 qw_asks hd_L_asks (by rw [hR]; exact Nat.le_of_ble_eq_true rfl) (by rw [hR]; exact Nat.le_of_ble_eq_true rfl) hK hP hD hS hA (hW8.ads.trans hW7.ads.symm) rfl hl.1 rfl (lv_room (Nat.le_of_ble_eq_true rfl)) dL_areCuttings_60 (by rw [hR]; show 2 ≤ 4; omega) (by rw [hR]; show 12 ≤ 24; omega) (fun H locs hP hD hS => ?_)
  refine lv_sipush (v := (-3000)) hx hb dL_areCuttings_63 (by decide) ?_
  refine lv_icmp_ne (tgt := 87) hx hb dL_areCuttings_66 (by decide) (fun c66 => absurd c66 (fun z => z rfl)) (fun c66 => ?_)
  refine lv_aload_n hx hb dL_areCuttings_69 rfl (lv_at hl 2 rfl) ?_
  refine lv_bipush (v := 6) hx hb dL_areCuttings_70 (by decide) ?_
  refine lv_iconst (v := (-1)) hx hb dL_areCuttings_72 (by decide) ?_
  refine lv_iconst (v := 0) hx hb dL_areCuttings_73 (by decide) ?_
  obtain ⟨wb9, hW9, hM9⟩ := sh_asks6x l hl0 D cI cZ q hW8 hs1 (x := (-1)) 0 (fun z => absurd z.1 (by decide))
  refine call_Hi (wa := [(gq, .inl (cI, 3, .inl g))]) (w0 := wb8) (w1 := wb9) (As := [.ref (q 0), .int 6, .int (-1), .int 0]) (rest := []) hx hb hml hown hAW hN hT hNc hM9 q461 q462 q21 qw_asks hd_L_asks (by rw [hR]; exact Nat.le_of_ble_eq_true rfl) (by rw [hR]; exact Nat.le_of_ble_eq_true rfl) hK hP hD hS hA (hW9.ads.trans hW8.ads.symm) rfl hl.1 rfl (lv_room (Nat.le_of_ble_eq_true rfl)) dL_areCuttings_74 (by rw [hR]; show 3 ≤ 4; omega) (by rw [hR]; show 18 ≤ 24; omega) (fun H locs hP hD hS => ?_)
  refine lv_sipush (v := (-3000)) hx hb dL_areCuttings_77 (by decide) ?_
  refine lv_icmp_ne (tgt := 87) hx hb dL_areCuttings_80 (by decide) (fun c80 => absurd c80 (fun z => z rfl)) (fun c80 => ?_)
  refine lv_iconst (v := 1) hx hb dL_areCuttings_83 (by decide) ?_
  refine lv_goto (tgt := 88) hx hb dL_areCuttings_84 (by decide) ?_
  refine lv_istore (lv' := [(4, .int 1), (3, .int bg2.2.2.1), (2, .int bx1.2.2.1), (0, .ref (q 0)), (1, .ref gq)]) hx hb dL_areCuttings_88 hl (by decide) rfl (fun ls hl => ?_)
  refine lv_aload_n hx hb dL_areCuttings_90 rfl (lv_at hl 4 rfl) ?_
  refine lv_iconst (v := 0) hx hb dL_areCuttings_91 (by decide) ?_
  refine n_iald (D := D) (f := g) (i := 0) hx hb hK hP 0 0 rfl rfl (by decide) (by decide) dL_areCuttings_92 ?_
  refine lv_topi (fun y9 ey9 => ?_)
  have ey9 : (nI n) = y9 := (ey9.trans hG.1).symm
  subst ey9
  refine n_if_ne (x := n) (tgt := 135) hx hb (by omega) dL_areCuttings_93 (by decide) (fun c93 => ?_) (fun c93 => ?_)
  · skip
    have h0 : 0 < n := by omega
    obtain ⟨kb, Pb, hCut, hmin⟩ := hB1.2 h0
    have hkb := hCut.2.1
    have hkb2 := Chn_lt hCut.1
    refine lv_iconst (v := (-1)) hx hb dL_areCuttings_135 (by decide) ?_
    refine lv_istore (lv' := [(5, .int (-1)), (4, .int 1), (3, .int bg2.2.2.1), (2, .int bx1.2.2.1), (0, .ref (q 0)), (1, .ref gq)]) hx hb dL_areCuttings_136 hl (by decide) rfl (fun ls hl => ?_)
    refine lv_iconst (v := 0) hx hb dL_areCuttings_138 (by decide) ?_
    refine lv_istore (lv' := [(6, .int 0), (5, .int (-1)), (4, .int 1), (3, .int bg2.2.2.1), (2, .int bx1.2.2.1), (0, .ref (q 0)), (1, .ref gq)]) hx hb dL_areCuttings_139 hl (by decide) rfl (fun ls hl => ?_)
    have J141 : ∀ (mz : Nat) (i : Nat) (bf : Int32) (wL141 : va_W), (i ≤ 8) → (∀ j, i = j + 1 → bf = lsp K j n ∧ i ≤ n) → 8 - i < mz → PW cI cZ q v n pn al cs ph tm bx1 bg2 wL141 → ∀ (H : Heap) (locs : List Loc), va_P D vwCl ([(gq, .inl (cI, 3, .inl g))] ++ wL141) H → va_D A ([(gq, .inl (cI, 3, .inl g))] ++ wL141) → va_S A s.heap H locs → ∀ (ls : Array Slot), lv_has ls 8 [(0, .ref (q 0)), (1, .ref gq), (2, .int bx1.2.2.1), (3, .int bg2.2.2.1), (4, .int 1), (5, .int bf), (6, .int (nI i))] → W p l e R s m args below meth c H locs (3) (18) Q (F0 m 141 ls []) := by
      intro mz
      induction mz with
      | zero => intro i bf wL141 hi hbf hmu; exact absurd (by assumption) (Nat.not_lt_zero _)
      | succ mz ih141 =>
        intro i bf wL141 hi hbf hmu hWL141 H locs hP hD hS ls hl
        refine lv_iload hx hb dL_areCuttings_141 (lv_at hl 6 rfl) ?_
        refine lv_bipush (v := 8) hx hb dL_areCuttings_143 (by decide) ?_
        refine n_icmp_ge (x := i) (y := 8) (tgt := 276) hx hb (by omega) (by omega) dL_areCuttings_145 (by decide) (fun c145 => ?_) (fun c145 => ?_)
        · skip
          refine lv_iload hx hb dL_areCuttings_276 (lv_at hl 4 rfl) ?_
          refine n_if_eq (x := 1) (tgt := 335) hx hb (by omega) dL_areCuttings_278 (by decide) (fun c278 => absurd c278 (by decide)) (fun c278 => ?_)
          refine lv_aload_n hx hb dL_areCuttings_281 rfl (lv_at hl 0 rfl) ?_
          refine lv_aload_n hx hb dL_areCuttings_282 rfl (lv_at hl 1 rfl) ?_
          refine lv_iconst (v := 0) hx hb dL_areCuttings_283 (by decide) ?_
          refine n_iald (D := D) (f := g) (i := 0) hx hb hK hP 0 0 rfl rfl (by decide) (by decide) dL_areCuttings_284 ?_
          refine lv_topi (fun y9 ey9 => ?_)
          have ey9 : (nI n) = y9 := (ey9.trans hG.1).symm
          subst ey9
          refine lv_bipush (v := 119) hx hb dL_areCuttings_285 (by decide) ?_
          refine n_icmp_le (x := n) (y := 119) (tgt := 295) hx hb (by omega) (by omega) dL_areCuttings_287 (by decide) (fun c287 => ?_) (fun c287 => ?_)
          · skip
            refine lv_aload_n hx hb dL_areCuttings_295 rfl (lv_at hl 1 rfl) ?_
            refine lv_iconst (v := 0) hx hb dL_areCuttings_296 (by decide) ?_
            refine n_iald (D := D) (f := g) (i := 0) hx hb hK hP 0 0 rfl rfl (by decide) (by decide) dL_areCuttings_297 ?_
            refine lv_topi (fun y9 ey9 => ?_)
            have ey9 : (nI n) = y9 := (ey9.trans hG.1).symm
            subst ey9
            refine call_Hi (wa := [(gq, .inl (cI, 3, .inl g))]) (w0 := wL141) (w1 := wL141) (As := [.ref (q 0), .int (nI n)]) (rest := []) hx hb hml hown hAW hN hT hNc (sh_leastCostx2 l hl0 D cI cZ q hWL141 (c := n) (by omega) (Nat.le_refl _)) q611 q612 q21 qw_leastCost hd_L_leastCost (by rw [hR]; exact Nat.le_of_ble_eq_true rfl) (by rw [hR]; exact Nat.le_of_ble_eq_true rfl) hK hP hD hS hA rfl rfl hl.1 rfl (lv_room (Nat.le_of_ble_eq_true rfl)) dL_areCuttings_298 (by rw [hR]; show 4 ≤ 4; omega) (by rw [hR]; show 24 ≤ 24; omega) (fun H locs hP hD hS => ?_)
            refine lv_aload_n hx hb dL_areCuttings_301 rfl (lv_at hl 1 rfl) ?_
            refine lv_iconst (v := 0) hx hb dL_areCuttings_302 (by decide) ?_
            refine n_iald (D := D) (f := g) (i := 0) hx hb hK hP 0 0 rfl rfl (by decide) (by decide) dL_areCuttings_303 ?_
            refine lv_topi (fun y9 ey9 => ?_)
            have ey9 : (nI n) = y9 := (ey9.trans hG.1).symm
            subst ey9
            refine lv_bipush (v := 119) hx hb dL_areCuttings_304 (by decide) ?_
            refine n_icmp_le (x := n) (y := 119) (tgt := 314) hx hb (by omega) (by omega) dL_areCuttings_306 (by decide) (fun c306 => ?_) (fun c306 => absurd c306 (by omega))
            refine lv_bipush (v := (-10)) hx hb dL_areCuttings_314 (by decide) ?_
            refine lv_icmp_ne (tgt := 335) hx hb dL_areCuttings_316 (by decide) (fun c316 => absurd c316 (fun z => z rfl)) (fun c316 => ?_)
            refine lv_aload_n hx hb dL_areCuttings_319 rfl (lv_at hl 0 rfl) ?_
            refine lv_aload_n hx hb dL_areCuttings_320 rfl (lv_at hl 1 rfl) ?_
            refine lv_iconst (v := 0) hx hb dL_areCuttings_321 (by decide) ?_
            refine n_iald (D := D) (f := g) (i := 0) hx hb hK hP 0 0 rfl rfl (by decide) (by decide) dL_areCuttings_322 ?_
            refine lv_topi (fun y9 ey9 => ?_)
            have ey9 : (nI n) = y9 := (ey9.trans hG.1).symm
            subst ey9
            refine lv_iconst (v := 1) hx hb dL_areCuttings_323 (by decide) ?_
            refine n_isub (x := n) (y := 1) hx hb (by omega) dL_areCuttings_324 ?_
            obtain ⟨wb11, r11, hW11, hM11, hL11⟩ := sh_leastCost l hl0 D cI cZ q hWL141 (c := (n - 1)) (by omega)
            obtain rfl : r11 = lsp K (n - 1) n := hL11 K hSC
            refine call_Hi (wa := [(gq, .inl (cI, 3, .inl g))]) (w0 := wL141) (w1 := wb11) (As := [.ref (q 0), .int (nI (n - 1))]) (rest := []) hx hb hml hown hAW hN hT hNc hM11 q611 q612 q21 qw_leastCost hd_L_leastCost (by rw [hR]; exact Nat.le_of_ble_eq_true rfl) (by rw [hR]; exact Nat.le_of_ble_eq_true rfl) hK hP hD hS hA (hW11.ads.trans hWL141.ads.symm) rfl hl.1 rfl (lv_room (Nat.le_of_ble_eq_true rfl)) dL_areCuttings_325 (by rw [hR]; show 4 ≤ 4; omega) (by rw [hR]; show 24 ≤ 24; omega) (fun H locs hP hD hS => ?_)
            refine lv_if_ne (tgt := 335) hx hb dL_areCuttings_328 (by decide) (fun c328 => absurd c328 (fun z => z (lsp_last hpv.2.1 hn h0 hSC))) (fun c328 => ?_)
            refine lv_iconst (v := 1) hx hb dL_areCuttings_331 (by decide) ?_
            refine lv_goto (tgt := 336) hx hb dL_areCuttings_332 (by decide) ?_
            exact fin_z (v := 1) hx hb hr hlk hP hS rfl (⟨rfl, _, _, _, rfl, hW11⟩) (ad_app rfl (hW11.ads.trans hW.ads.symm)) hQ dL_areCuttings_336
          · skip
            refine lv_bipush (v := 120) hx hb dL_areCuttings_290 (by decide) ?_
            refine lv_goto (tgt := 298) hx hb dL_areCuttings_292 (by decide) ?_
            refine call_Hi (wa := [(gq, .inl (cI, 3, .inl g))]) (w0 := wL141) (w1 := wL141) (As := [.ref (q 0), .int 120]) (rest := []) hx hb hml hown hAW hN hT hNc (sh_leastCostx1 l hl0 D cI cZ q hWL141 (x := 120) (by decide)) q611 q612 q21 qw_leastCost hd_L_leastCost (by rw [hR]; exact Nat.le_of_ble_eq_true rfl) (by rw [hR]; exact Nat.le_of_ble_eq_true rfl) hK hP hD hS hA rfl rfl hl.1 rfl (lv_room (Nat.le_of_ble_eq_true rfl)) dL_areCuttings_298 (by rw [hR]; show 4 ≤ 4; omega) (by rw [hR]; show 24 ≤ 24; omega) (fun H locs hP hD hS => ?_)
            refine lv_aload_n hx hb dL_areCuttings_301 rfl (lv_at hl 1 rfl) ?_
            refine lv_iconst (v := 0) hx hb dL_areCuttings_302 (by decide) ?_
            refine n_iald (D := D) (f := g) (i := 0) hx hb hK hP 0 0 rfl rfl (by decide) (by decide) dL_areCuttings_303 ?_
            refine lv_topi (fun y9 ey9 => ?_)
            have ey9 : (nI n) = y9 := (ey9.trans hG.1).symm
            subst ey9
            refine lv_bipush (v := 119) hx hb dL_areCuttings_304 (by decide) ?_
            refine n_icmp_le (x := n) (y := 119) (tgt := 314) hx hb (by omega) (by omega) dL_areCuttings_306 (by decide) (fun c306 => absurd c306 (by omega)) (fun c306 => ?_)
            refine lv_bipush (v := (-20)) hx hb dL_areCuttings_309 (by decide) ?_
            refine lv_goto (tgt := 316) hx hb dL_areCuttings_311 (by decide) ?_
            refine lv_icmp_ne (tgt := 335) hx hb dL_areCuttings_316 (by decide) (fun c316 => absurd c316 (fun z => z rfl)) (fun c316 => ?_)
            refine lv_aload_n hx hb dL_areCuttings_319 rfl (lv_at hl 0 rfl) ?_
            refine lv_aload_n hx hb dL_areCuttings_320 rfl (lv_at hl 1 rfl) ?_
            refine lv_iconst (v := 0) hx hb dL_areCuttings_321 (by decide) ?_
            refine n_iald (D := D) (f := g) (i := 0) hx hb hK hP 0 0 rfl rfl (by decide) (by decide) dL_areCuttings_322 ?_
            refine lv_topi (fun y9 ey9 => ?_)
            have ey9 : (nI n) = y9 := (ey9.trans hG.1).symm
            subst ey9
            refine lv_iconst (v := 1) hx hb dL_areCuttings_323 (by decide) ?_
            refine n_isub (x := n) (y := 1) hx hb (by omega) dL_areCuttings_324 ?_
            obtain ⟨wb13, r13, hW13, hM13, hL13⟩ := sh_leastCost l hl0 D cI cZ q hWL141 (c := (n - 1)) (by omega)
            obtain rfl : r13 = lsp K (n - 1) n := hL13 K hSC
            refine call_Hi (wa := [(gq, .inl (cI, 3, .inl g))]) (w0 := wL141) (w1 := wb13) (As := [.ref (q 0), .int (nI (n - 1))]) (rest := []) hx hb hml hown hAW hN hT hNc hM13 q611 q612 q21 qw_leastCost hd_L_leastCost (by rw [hR]; exact Nat.le_of_ble_eq_true rfl) (by rw [hR]; exact Nat.le_of_ble_eq_true rfl) hK hP hD hS hA (hW13.ads.trans hWL141.ads.symm) rfl hl.1 rfl (lv_room (Nat.le_of_ble_eq_true rfl)) dL_areCuttings_325 (by rw [hR]; show 4 ≤ 4; omega) (by rw [hR]; show 24 ≤ 24; omega) (fun H locs hP hD hS => ?_)
            refine lv_if_ne (tgt := 335) hx hb dL_areCuttings_328 (by decide) (fun c328 => absurd c328 (fun z => z (lsp_last hpv.2.1 hn h0 hSC))) (fun c328 => ?_)
            refine lv_iconst (v := 1) hx hb dL_areCuttings_331 (by decide) ?_
            refine lv_goto (tgt := 336) hx hb dL_areCuttings_332 (by decide) ?_
            exact fin_z (v := 1) hx hb hr hlk hP hS rfl (⟨rfl, _, _, _, rfl, hW13⟩) (ad_app rfl (hW13.ads.trans hW.ads.symm)) hQ dL_areCuttings_336
        · skip
          refine lv_iload hx hb dL_areCuttings_148 (lv_at hl 6 rfl) ?_
          refine lv_aload_n hx hb dL_areCuttings_150 rfl (lv_at hl 1 rfl) ?_
          refine lv_iconst (v := 0) hx hb dL_areCuttings_151 (by decide) ?_
          refine n_iald (D := D) (f := g) (i := 0) hx hb hK hP 0 0 rfl rfl (by decide) (by decide) dL_areCuttings_152 ?_
          refine lv_topi (fun y9 ey9 => ?_)
          have ey9 : (nI n) = y9 := (ey9.trans hG.1).symm
          subst ey9
          refine n_icmp_ge (x := i) (y := n) (tgt := 276) hx hb (by omega) (by omega) dL_areCuttings_153 (by decide) (fun c153 => ?_) (fun c153 => ?_)
          · skip
            refine lv_iload hx hb dL_areCuttings_276 (lv_at hl 4 rfl) ?_
            refine n_if_eq (x := 1) (tgt := 335) hx hb (by omega) dL_areCuttings_278 (by decide) (fun c278 => absurd c278 (by decide)) (fun c278 => ?_)
            refine lv_aload_n hx hb dL_areCuttings_281 rfl (lv_at hl 0 rfl) ?_
            refine lv_aload_n hx hb dL_areCuttings_282 rfl (lv_at hl 1 rfl) ?_
            refine lv_iconst (v := 0) hx hb dL_areCuttings_283 (by decide) ?_
            refine n_iald (D := D) (f := g) (i := 0) hx hb hK hP 0 0 rfl rfl (by decide) (by decide) dL_areCuttings_284 ?_
            refine lv_topi (fun y9 ey9 => ?_)
            have ey9 : (nI n) = y9 := (ey9.trans hG.1).symm
            subst ey9
            refine lv_bipush (v := 119) hx hb dL_areCuttings_285 (by decide) ?_
            refine n_icmp_le (x := n) (y := 119) (tgt := 295) hx hb (by omega) (by omega) dL_areCuttings_287 (by decide) (fun c287 => ?_) (fun c287 => ?_)
            · skip
              refine lv_aload_n hx hb dL_areCuttings_295 rfl (lv_at hl 1 rfl) ?_
              refine lv_iconst (v := 0) hx hb dL_areCuttings_296 (by decide) ?_
              refine n_iald (D := D) (f := g) (i := 0) hx hb hK hP 0 0 rfl rfl (by decide) (by decide) dL_areCuttings_297 ?_
              refine lv_topi (fun y9 ey9 => ?_)
              have ey9 : (nI n) = y9 := (ey9.trans hG.1).symm
              subst ey9
              refine call_Hi (wa := [(gq, .inl (cI, 3, .inl g))]) (w0 := wL141) (w1 := wL141) (As := [.ref (q 0), .int (nI n)]) (rest := []) hx hb hml hown hAW hN hT hNc (sh_leastCostx2 l hl0 D cI cZ q hWL141 (c := n) (by omega) (Nat.le_refl _)) q611 q612 q21 qw_leastCost hd_L_leastCost (by rw [hR]; exact Nat.le_of_ble_eq_true rfl) (by rw [hR]; exact Nat.le_of_ble_eq_true rfl) hK hP hD hS hA rfl rfl hl.1 rfl (lv_room (Nat.le_of_ble_eq_true rfl)) dL_areCuttings_298 (by rw [hR]; show 4 ≤ 4; omega) (by rw [hR]; show 24 ≤ 24; omega) (fun H locs hP hD hS => ?_)
              refine lv_aload_n hx hb dL_areCuttings_301 rfl (lv_at hl 1 rfl) ?_
              refine lv_iconst (v := 0) hx hb dL_areCuttings_302 (by decide) ?_
              refine n_iald (D := D) (f := g) (i := 0) hx hb hK hP 0 0 rfl rfl (by decide) (by decide) dL_areCuttings_303 ?_
              refine lv_topi (fun y9 ey9 => ?_)
              have ey9 : (nI n) = y9 := (ey9.trans hG.1).symm
              subst ey9
              refine lv_bipush (v := 119) hx hb dL_areCuttings_304 (by decide) ?_
              refine n_icmp_le (x := n) (y := 119) (tgt := 314) hx hb (by omega) (by omega) dL_areCuttings_306 (by decide) (fun c306 => ?_) (fun c306 => absurd c306 (by omega))
              refine lv_bipush (v := (-10)) hx hb dL_areCuttings_314 (by decide) ?_
              refine lv_icmp_ne (tgt := 335) hx hb dL_areCuttings_316 (by decide) (fun c316 => absurd c316 (fun z => z rfl)) (fun c316 => ?_)
              refine lv_aload_n hx hb dL_areCuttings_319 rfl (lv_at hl 0 rfl) ?_
              refine lv_aload_n hx hb dL_areCuttings_320 rfl (lv_at hl 1 rfl) ?_
              refine lv_iconst (v := 0) hx hb dL_areCuttings_321 (by decide) ?_
              refine n_iald (D := D) (f := g) (i := 0) hx hb hK hP 0 0 rfl rfl (by decide) (by decide) dL_areCuttings_322 ?_
              refine lv_topi (fun y9 ey9 => ?_)
              have ey9 : (nI n) = y9 := (ey9.trans hG.1).symm
              subst ey9
              refine lv_iconst (v := 1) hx hb dL_areCuttings_323 (by decide) ?_
              refine n_isub (x := n) (y := 1) hx hb (by omega) dL_areCuttings_324 ?_
              obtain ⟨wb15, r15, hW15, hM15, hL15⟩ := sh_leastCost l hl0 D cI cZ q hWL141 (c := (n - 1)) (by omega)
              obtain rfl : r15 = lsp K (n - 1) n := hL15 K hSC
              refine call_Hi (wa := [(gq, .inl (cI, 3, .inl g))]) (w0 := wL141) (w1 := wb15) (As := [.ref (q 0), .int (nI (n - 1))]) (rest := []) hx hb hml hown hAW hN hT hNc hM15 q611 q612 q21 qw_leastCost hd_L_leastCost (by rw [hR]; exact Nat.le_of_ble_eq_true rfl) (by rw [hR]; exact Nat.le_of_ble_eq_true rfl) hK hP hD hS hA (hW15.ads.trans hWL141.ads.symm) rfl hl.1 rfl (lv_room (Nat.le_of_ble_eq_true rfl)) dL_areCuttings_325 (by rw [hR]; show 4 ≤ 4; omega) (by rw [hR]; show 24 ≤ 24; omega) (fun H locs hP hD hS => ?_)
              refine lv_if_ne (tgt := 335) hx hb dL_areCuttings_328 (by decide) (fun c328 => absurd c328 (fun z => z (lsp_last hpv.2.1 hn h0 hSC))) (fun c328 => ?_)
              refine lv_iconst (v := 1) hx hb dL_areCuttings_331 (by decide) ?_
              refine lv_goto (tgt := 336) hx hb dL_areCuttings_332 (by decide) ?_
              exact fin_z (v := 1) hx hb hr hlk hP hS rfl (⟨rfl, _, _, _, rfl, hW15⟩) (ad_app rfl (hW15.ads.trans hW.ads.symm)) hQ dL_areCuttings_336
            · skip
              refine lv_bipush (v := 120) hx hb dL_areCuttings_290 (by decide) ?_
              refine lv_goto (tgt := 298) hx hb dL_areCuttings_292 (by decide) ?_
              refine call_Hi (wa := [(gq, .inl (cI, 3, .inl g))]) (w0 := wL141) (w1 := wL141) (As := [.ref (q 0), .int 120]) (rest := []) hx hb hml hown hAW hN hT hNc (sh_leastCostx1 l hl0 D cI cZ q hWL141 (x := 120) (by decide)) q611 q612 q21 qw_leastCost hd_L_leastCost (by rw [hR]; exact Nat.le_of_ble_eq_true rfl) (by rw [hR]; exact Nat.le_of_ble_eq_true rfl) hK hP hD hS hA rfl rfl hl.1 rfl (lv_room (Nat.le_of_ble_eq_true rfl)) dL_areCuttings_298 (by rw [hR]; show 4 ≤ 4; omega) (by rw [hR]; show 24 ≤ 24; omega) (fun H locs hP hD hS => ?_)
              refine lv_aload_n hx hb dL_areCuttings_301 rfl (lv_at hl 1 rfl) ?_
              refine lv_iconst (v := 0) hx hb dL_areCuttings_302 (by decide) ?_
              refine n_iald (D := D) (f := g) (i := 0) hx hb hK hP 0 0 rfl rfl (by decide) (by decide) dL_areCuttings_303 ?_
              refine lv_topi (fun y9 ey9 => ?_)
              have ey9 : (nI n) = y9 := (ey9.trans hG.1).symm
              subst ey9
              refine lv_bipush (v := 119) hx hb dL_areCuttings_304 (by decide) ?_
              refine n_icmp_le (x := n) (y := 119) (tgt := 314) hx hb (by omega) (by omega) dL_areCuttings_306 (by decide) (fun c306 => absurd c306 (by omega)) (fun c306 => ?_)
              refine lv_bipush (v := (-20)) hx hb dL_areCuttings_309 (by decide) ?_
              refine lv_goto (tgt := 316) hx hb dL_areCuttings_311 (by decide) ?_
              refine lv_icmp_ne (tgt := 335) hx hb dL_areCuttings_316 (by decide) (fun c316 => absurd c316 (fun z => z rfl)) (fun c316 => ?_)
              refine lv_aload_n hx hb dL_areCuttings_319 rfl (lv_at hl 0 rfl) ?_
              refine lv_aload_n hx hb dL_areCuttings_320 rfl (lv_at hl 1 rfl) ?_
              refine lv_iconst (v := 0) hx hb dL_areCuttings_321 (by decide) ?_
              refine n_iald (D := D) (f := g) (i := 0) hx hb hK hP 0 0 rfl rfl (by decide) (by decide) dL_areCuttings_322 ?_
              refine lv_topi (fun y9 ey9 => ?_)
              have ey9 : (nI n) = y9 := (ey9.trans hG.1).symm
              subst ey9
              refine lv_iconst (v := 1) hx hb dL_areCuttings_323 (by decide) ?_
              refine n_isub (x := n) (y := 1) hx hb (by omega) dL_areCuttings_324 ?_
              obtain ⟨wb17, r17, hW17, hM17, hL17⟩ := sh_leastCost l hl0 D cI cZ q hWL141 (c := (n - 1)) (by omega)
              obtain rfl : r17 = lsp K (n - 1) n := hL17 K hSC
              refine call_Hi (wa := [(gq, .inl (cI, 3, .inl g))]) (w0 := wL141) (w1 := wb17) (As := [.ref (q 0), .int (nI (n - 1))]) (rest := []) hx hb hml hown hAW hN hT hNc hM17 q611 q612 q21 qw_leastCost hd_L_leastCost (by rw [hR]; exact Nat.le_of_ble_eq_true rfl) (by rw [hR]; exact Nat.le_of_ble_eq_true rfl) hK hP hD hS hA (hW17.ads.trans hWL141.ads.symm) rfl hl.1 rfl (lv_room (Nat.le_of_ble_eq_true rfl)) dL_areCuttings_325 (by rw [hR]; show 4 ≤ 4; omega) (by rw [hR]; show 24 ≤ 24; omega) (fun H locs hP hD hS => ?_)
              refine lv_if_ne (tgt := 335) hx hb dL_areCuttings_328 (by decide) (fun c328 => absurd c328 (fun z => z (lsp_last hpv.2.1 hn h0 hSC))) (fun c328 => ?_)
              refine lv_iconst (v := 1) hx hb dL_areCuttings_331 (by decide) ?_
              refine lv_goto (tgt := 336) hx hb dL_areCuttings_332 (by decide) ?_
              exact fin_z (v := 1) hx hb hr hlk hP hS rfl (⟨rfl, _, _, _, rfl, hW17⟩) (ad_app rfl (hW17.ads.trans hW.ads.symm)) hQ dL_areCuttings_336
          · skip
            refine lv_iload hx hb dL_areCuttings_156 (lv_at hl 4 rfl) ?_
            refine n_if_eq (x := 1) (tgt := 276) hx hb (by omega) dL_areCuttings_158 (by decide) (fun c158 => absurd c158 (by decide)) (fun c158 => ?_)
            refine lv_aload_n hx hb dL_areCuttings_161 rfl (lv_at hl 0 rfl) ?_
            refine lv_iload hx hb dL_areCuttings_162 (lv_at hl 6 rfl) ?_
            obtain ⟨wb18, r18, hW18, hM18, hL18⟩ := sh_leastCost l hl0 D cI cZ q hWL141 (c := i) (by omega)
            obtain rfl : r18 = lsp K i n := hL18 K hSC
            refine call_Hi (wa := [(gq, .inl (cI, 3, .inl g))]) (w0 := wL141) (w1 := wb18) (As := [.ref (q 0), .int (nI i)]) (rest := []) hx hb hml hown hAW hN hT hNc hM18 q611 q612 q21 qw_leastCost hd_L_leastCost (by rw [hR]; exact Nat.le_of_ble_eq_true rfl) (by rw [hR]; exact Nat.le_of_ble_eq_true rfl) hK hP hD hS hA (hW18.ads.trans hWL141.ads.symm) rfl hl.1 rfl (lv_room (Nat.le_of_ble_eq_true rfl)) dL_areCuttings_164 (by rw [hR]; show 3 ≤ 4; omega) (by rw [hR]; show 18 ≤ 24; omega) (fun H locs hP hD hS => ?_)
            have hin : i < n := by omega
            have hlb := lsp_bd hn (KB_of hn hSC) i n hin (Nat.le_refl _)
            obtain ⟨f1, f2, f3⟩ := least_facts hn hSC hpv.2.2.1 hCut hmin hin
            refine lv_istore (lv' := [(7, .int (lsp K i n)), (0, .ref (q 0)), (1, .ref gq), (2, .int bx1.2.2.1), (3, .int bg2.2.2.1), (4, .int 1), (5, .int bf), (6, .int (nI i))]) hx hb dL_areCuttings_167 hl (by decide) rfl (fun ls hl => ?_)
            refine lv_iload hx hb dL_areCuttings_169 (lv_at hl 0 rfl) ?_
            refine lv_if_lt (tgt := 263) hx hb dL_areCuttings_171 (by decide) (fun c171 => absurd c171 (fun z => by rw [i_lt, i00] at z; omega)) (fun c171 => ?_)
            refine lv_iload hx hb dL_areCuttings_174 (lv_at hl 7 rfl) ?_
            have J202 : ∀ (wL202 : va_W), PW cI cZ q v n pn al cs ph tm bx1 bg2 wL202 → ∀ (H : Heap) (locs : List Loc), va_P D vwCl ([(gq, .inl (cI, 3, .inl g))] ++ wL202) H → va_D A ([(gq, .inl (cI, 3, .inl g))] ++ wL202) → va_S A s.heap H locs → ∀ (ls : Array Slot), lv_has ls 8 [(0, .ref (q 0)), (1, .ref gq), (2, .int bx1.2.2.1), (3, .int bg2.2.2.1), (4, .int 1), (5, .int bf), (6, .int (nI i)), (7, .int (lsp K i n))] → W p l e R s m args below meth c H locs (3) (18) Q (F0 m 202 ls []) := by
              intro wL202 hWL202 H locs hP hD hS ls hl
              refine lv_iload hx hb dL_areCuttings_202 (lv_at hl 7 rfl) ?_
              refine lv_iload hx hb dL_areCuttings_204 (lv_at hl 6 rfl) ?_
              refine lv_aload_n hx hb dL_areCuttings_206 rfl (lv_at hl 1 rfl) ?_
              refine lv_iconst (v := 1) hx hb dL_areCuttings_207 (by decide) ?_
              refine n_iald (D := D) (f := g) (i := 1) hx hb hK hP 0 0 rfl rfl (by decide) (by decide) dL_areCuttings_208 ?_
              refine lv_topi (fun y9 ey9 => ?_)
              have ey9 : pn = y9 := (ey9.trans hG.2.1).symm
              subst ey9
              refine lv_imul hx hb dL_areCuttings_209 ?_
              refine lv_iadd hx hb dL_areCuttings_210 ?_
              refine lv_iload_n hx hb dL_areCuttings_211 rfl (lv_at hl 2 rfl) ?_
              refine lv_icmp_lt (tgt := 263) hx hb dL_areCuttings_212 (by decide) (fun c212 => absurd c212 (Int32.not_lt.mpr f1)) (fun c212 => ?_)
              refine lv_iload hx hb dL_areCuttings_215 (lv_at hl 6 rfl) ?_
              refine lv_aload_n hx hb dL_areCuttings_217 rfl (lv_at hl 0 rfl) ?_
              obtain ⟨wb19, bx19, hW19, hM19, hs19, hk19, hB19⟩ := sp_changes l D cI cZ q hWL202
              obtain rfl : bx1 = bx19 := (hk19 hs1).symm
              refine call_Pi (wa := [(gq, .inl (cI, 3, .inl g))]) (w0 := wL202) (w1 := wb19) (As := []) (rest := [.int (nI i)]) hx hb hml hown hAW hN hM19 q715 q716 q717 q22 q718 hd_X9_changes (by rw [hR]; exact Nat.le_of_ble_eq_true rfl) (by rw [hR]; exact Nat.le_of_ble_eq_true rfl) hK hP hD hS hA hWL202.hd (hW19.ads.trans hWL202.ads.symm) rfl hl.1 rfl (lv_room (Nat.le_of_ble_eq_true rfl)) dL_areCuttings_218 (by rw [hR]; show 3 ≤ 4; omega) (by rw [hR]; show 18 ≤ 24; omega) (fun H locs hP hD hS => ?_)
              refine lv_topi (fun y9 ey9 => ?_)
              have ey9 : (nI kb) = y9 := (ey9.trans hkb).symm
              subst ey9
              have J237 : ∀ (wL237 : va_W), PW cI cZ q v n pn al cs ph tm bx1 bg2 wL237 → ∀ (H : Heap) (locs : List Loc), va_P D vwCl ([(gq, .inl (cI, 3, .inl g))] ++ wL237) H → va_D A ([(gq, .inl (cI, 3, .inl g))] ++ wL237) → va_S A s.heap H locs → ∀ (ls : Array Slot), lv_has ls 8 [(0, .ref (q 0)), (1, .ref gq), (2, .int bx1.2.2.1), (3, .int bg2.2.2.1), (4, .int 1), (5, .int bf), (6, .int (nI i)), (7, .int (lsp K i n))] → W p l e R s m args below meth c H locs (3) (18) Q (F0 m 237 ls []) := by
                intro wL237 hWL237 H locs hP hD hS ls hl
                refine lv_iload hx hb dL_areCuttings_237 (lv_at hl 6 rfl) ?_
                refine lv_aload_n hx hb dL_areCuttings_239 rfl (lv_at hl 0 rfl) ?_
                obtain ⟨wb20, bx20, hW20, hM20, hs20, hk20, hB20⟩ := sp_changes l D cI cZ q hWL237
                obtain rfl : bx1 = bx20 := (hk20 hs1).symm
                refine call_Pi (wa := [(gq, .inl (cI, 3, .inl g))]) (w0 := wL237) (w1 := wb20) (As := []) (rest := [.int (nI i)]) hx hb hml hown hAW hN hM20 q715 q716 q717 q22 q718 hd_X9_changes (by rw [hR]; exact Nat.le_of_ble_eq_true rfl) (by rw [hR]; exact Nat.le_of_ble_eq_true rfl) hK hP hD hS hA hWL237.hd (hW20.ads.trans hWL237.ads.symm) rfl hl.1 rfl (lv_room (Nat.le_of_ble_eq_true rfl)) dL_areCuttings_240 (by rw [hR]; show 3 ≤ 4; omega) (by rw [hR]; show 18 ≤ 24; omega) (fun H locs hP hD hS => ?_)
                refine lv_topi (fun y9 ey9 => ?_)
                have ey9 : (nI kb) = y9 := (ey9.trans hkb).symm
                subst ey9
                have J264 : ∀ (wL264 : va_W), PW cI cZ q v n pn al cs ph tm bx1 bg2 wL264 → ∀ (H : Heap) (locs : List Loc), va_P D vwCl ([(gq, .inl (cI, 3, .inl g))] ++ wL264) H → va_D A ([(gq, .inl (cI, 3, .inl g))] ++ wL264) → va_S A s.heap H locs → ∀ (ls : Array Slot), lv_has ls 8 [(0, .ref (q 0)), (1, .ref gq), (2, .int bx1.2.2.1), (3, .int bg2.2.2.1), (4, .int 1), (5, .int bf), (6, .int (nI i)), (7, .int (lsp K i n))] → W p l e R s m args below meth c H locs (3) (18) Q (F0 m 264 ls [.int 1]) := by
                  intro wL264 hWL264 H locs hP hD hS ls hl
                  refine lv_istore (lv' := [(4, .int 1), (0, .ref (q 0)), (1, .ref gq), (2, .int bx1.2.2.1), (3, .int bg2.2.2.1), (5, .int bf), (6, .int (nI i)), (7, .int (lsp K i n))]) hx hb dL_areCuttings_264 hl (by decide) rfl (fun ls hl => ?_)
                  refine lv_iload hx hb dL_areCuttings_266 (lv_at hl 7 rfl) ?_
                  refine lv_istore (lv' := [(5, .int (lsp K i n)), (4, .int 1), (0, .ref (q 0)), (1, .ref gq), (2, .int bx1.2.2.1), (3, .int bg2.2.2.1), (6, .int (nI i)), (7, .int (lsp K i n))]) hx hb dL_areCuttings_268 hl (by decide) rfl (fun ls hl => ?_)
                  refine lv_iinc (v := (nI (i + 1))) (lv' := [(6, .int (nI (i + 1))), (5, .int (lsp K i n)), (4, .int 1), (0, .ref (q 0)), (1, .ref gq), (2, .int bx1.2.2.1), (3, .int bg2.2.2.1), (7, .int (lsp K i n))]) hx hb dL_areCuttings_270 hl (k := 6) rfl (nI_inc i 1) (by decide) rfl (fun ls hl => ?_)
                  refine lv_goto (tgt := 141) hx hb dL_areCuttings_273 (by decide) ?_
                  exact ih141 (i + 1) (lsp K i n) wL264 (by first | assumption | omega | rfl) (fun j hj => by obtain rfl : j = i := (by omega); exact ⟨rfl, by omega⟩) (by omega) hWL264 _ _ hP hD hS ls (lv_sub hl [3, 4, 5, 6, 2, 1, 0] rfl)
                refine n_icmp_ge (x := i) (y := kb) (tgt := 259) hx hb (by omega) (by omega) dL_areCuttings_243 (by decide) (fun c243 => ?_) (fun c243 => ?_)
                · skip
                  refine lv_iconst (v := 1) hx hb dL_areCuttings_259 (by decide) ?_
                  refine lv_goto (tgt := 264) hx hb dL_areCuttings_260 (by decide) ?_
                  exact J264  wb20  hW20 _ _ hP hD hS ls hl
                · skip
                  refine lv_iload hx hb dL_areCuttings_246 (lv_at hl 7 rfl) ?_
                  refine lv_iload hx hb dL_areCuttings_248 (lv_at hl 6 rfl) ?_
                  refine lv_aload_n hx hb dL_areCuttings_250 rfl (lv_at hl 1 rfl) ?_
                  refine lv_iconst (v := 1) hx hb dL_areCuttings_251 (by decide) ?_
                  refine n_iald (D := D) (f := g) (i := 1) hx hb hK hP 0 0 rfl rfl (by decide) (by decide) dL_areCuttings_252 ?_
                  refine lv_topi (fun y9 ey9 => ?_)
                  have ey9 : pn = y9 := (ey9.trans hG.2.1).symm
                  subst ey9
                  refine lv_imul hx hb dL_areCuttings_253 ?_
                  refine lv_iadd hx hb dL_areCuttings_254 ?_
                  refine lv_iload_n hx hb dL_areCuttings_255 rfl (lv_at hl 2 rfl) ?_
                  refine lv_icmp_le (tgt := 263) hx hb dL_areCuttings_256 (by decide) (fun c256 => absurd c256 (Int32.not_le.mpr (f3 (by omega)))) (fun c256 => ?_)
                  refine lv_iconst (v := 1) hx hb dL_areCuttings_259 (by decide) ?_
                  refine lv_goto (tgt := 264) hx hb dL_areCuttings_260 (by decide) ?_
                  exact J264  wb20  hW20 _ _ hP hD hS ls hl
              refine n_icmp_ne (x := i) (y := kb) (tgt := 237) hx hb (by omega) (by omega) dL_areCuttings_221 (by decide) (fun c221 => ?_) (fun c221 => ?_)
              · skip
                exact J237  wb19  hW19 _ _ hP hD hS ls hl
              · skip
                refine lv_iload hx hb dL_areCuttings_224 (lv_at hl 7 rfl) ?_
                refine lv_iload hx hb dL_areCuttings_226 (lv_at hl 6 rfl) ?_
                refine lv_aload_n hx hb dL_areCuttings_228 rfl (lv_at hl 1 rfl) ?_
                refine lv_iconst (v := 1) hx hb dL_areCuttings_229 (by decide) ?_
                refine n_iald (D := D) (f := g) (i := 1) hx hb hK hP 0 0 rfl rfl (by decide) (by decide) dL_areCuttings_230 ?_
                refine lv_topi (fun y9 ey9 => ?_)
                have ey9 : pn = y9 := (ey9.trans hG.2.1).symm
                subst ey9
                refine lv_imul hx hb dL_areCuttings_231 ?_
                refine lv_iadd hx hb dL_areCuttings_232 ?_
                refine lv_iload_n hx hb dL_areCuttings_233 rfl (lv_at hl 2 rfl) ?_
                refine lv_icmp_ne (tgt := 263) hx hb dL_areCuttings_234 (by decide) (fun c234 => absurd c234 (fun z => z (f2 (by omega)))) (fun c234 => ?_)
                exact J237  wb19  hW19 _ _ hP hD hS ls hl
            refine n_if_ne (x := i) (tgt := 195) hx hb (by omega) dL_areCuttings_176 (by decide) (fun c176 => ?_) (fun c176 => ?_)
            · skip
              refine lv_iload hx hb dL_areCuttings_195 (lv_at hl 0 rfl) ?_
              refine lv_iload hx hb dL_areCuttings_197 (lv_at hl 6 rfl) ?_
              refine lv_icmp_gt (tgt := 263) hx hb dL_areCuttings_199 (by decide) (fun c199 => absurd c199 (fun z => by obtain ⟨j, rfl⟩ : ∃ j, i = j + 1 := ⟨i - 1, by omega⟩; obtain ⟨rfl, -⟩ := hbf j rfl; have := lsp_mono hpv.2.1 hn hSC j n hin (Nat.le_refl _); rw [i_lt] at z; omega)) (fun c199 => ?_)
              exact J202  wb18  hW18 _ _ hP hD hS ls (lv_sub hl [1, 2, 3, 4, 5, 6, 7, 0] rfl)
            · skip
              refine lv_iload hx hb dL_areCuttings_179 (lv_at hl 0 rfl) ?_
              refine lv_aload_n hx hb dL_areCuttings_181 rfl (lv_at hl 1 rfl) ?_
              refine lv_iconst (v := 0) hx hb dL_areCuttings_182 (by decide) ?_
              refine lv_aload_n hx hb dL_areCuttings_183 rfl (lv_at hl 2 rfl) ?_
              refine lv_iconst (v := 0) hx hb dL_areCuttings_184 (by decide) ?_
              refine n_iald (D := D) (f := g) (i := 0) hx hb hK hP 0 0 rfl rfl (by decide) (by decide) dL_areCuttings_185 ?_
              refine lv_topi (fun y9 ey9 => ?_)
              have ey9 : (nI n) = y9 := (ey9.trans hG.1).symm
              subst ey9
              obtain ⟨wb21, hW21, hM21⟩ := sp_cost l D cI cZ q hW18 (f := 0) (t := n) h0 (Nat.le_refl _)
              refine call_Pi (wa := [(gq, .inl (cI, 3, .inl g))]) (w0 := wb18) (w1 := wb21) (As := [.int 0, .int (nI n)]) (rest := [.int (lsp K i n)]) hx hb hml hown hAW hN hM21 q508 q509 q510 q22 q511 hd_X9_cost (by rw [hR]; exact Nat.le_of_ble_eq_true rfl) (by rw [hR]; exact Nat.le_of_ble_eq_true rfl) hK hP hD hS hA hW18.hd (hW21.ads.trans hW18.ads.symm) rfl hl.1 rfl (lv_room (Nat.le_of_ble_eq_true rfl)) dL_areCuttings_186 (by rw [hR]; show 3 ≤ 4; omega) (by rw [hR]; show 18 ≤ 24; omega) (fun H locs hP hD hS => ?_)
              refine lv_icmp_ne (tgt := 263) hx hb dL_areCuttings_189 (by decide) (fun c189 => absurd c189 (fun z => z (by rw [show i = 0 by omega]; exact SC_c hSC h0 (Nat.le_refl _)))) (fun c189 => ?_)
              refine lv_goto (tgt := 202) hx hb dL_areCuttings_192 (by decide) ?_
              exact J202  wb21  hW21 _ _ hP hD hS ls (lv_sub hl [1, 2, 3, 4, 5, 6, 7, 0] rfl)
    exact J141 (8 - 0 + 1) 0 (-1) wb9 (by omega) (fun j hj => absurd hj (by omega)) (Nat.lt_succ_self _) hW9 _ _ hP hD hS ls (lv_sub hl [5, 6, 4, 3, 2, 1, 0] rfl)
  · skip
    have h0 : n = 0 := by omega
    refine lv_iload hx hb dL_areCuttings_96 (lv_at hl 0 rfl) ?_
    refine n_if_eq (x := 1) (tgt := 133) hx hb (by omega) dL_areCuttings_98 (by decide) (fun c98 => absurd c98 (by decide)) (fun c98 => ?_)
    refine lv_iload_n hx hb dL_areCuttings_101 rfl (lv_at hl 2 rfl) ?_
    refine lv_if_ne (tgt := 133) hx hb dL_areCuttings_102 (by decide) (fun c102 => absurd c102 (fun z => z (hB1.1 h0).2)) (fun c102 => ?_)
    refine lv_aload_n hx hb dL_areCuttings_105 rfl (lv_at hl 3 rfl) ?_
    obtain ⟨wb22, bx22, hW22, hM22, hs22, hk22, hB22⟩ := sp_changes l D cI cZ q hW9
    obtain rfl : bx1 = bx22 := (hk22 hs1).symm
    refine call_Pi (wa := [(gq, .inl (cI, 3, .inl g))]) (w0 := wb9) (w1 := wb22) (As := []) (rest := []) hx hb hml hown hAW hN hM22 q715 q716 q717 q22 q718 hd_X9_changes (by rw [hR]; exact Nat.le_of_ble_eq_true rfl) (by rw [hR]; exact Nat.le_of_ble_eq_true rfl) hK hP hD hS hA hW9.hd (hW22.ads.trans hW9.ads.symm) rfl hl.1 rfl (lv_room (Nat.le_of_ble_eq_true rfl)) dL_areCuttings_106 (by rw [hR]; show 3 ≤ 4; omega) (by rw [hR]; show 18 ≤ 24; omega) (fun H locs hP hD hS => ?_)
    refine lv_if_ne (tgt := 133) hx hb dL_areCuttings_109 (by decide) (fun c109 => absurd c109 (fun z => z (hB1.1 h0).1)) (fun c109 => ?_)
    refine lv_aload_n hx hb dL_areCuttings_112 rfl (lv_at hl 3 rfl) ?_
    obtain ⟨wb23, bg23, hW23, hM23, hs23, hk23, hB23⟩ := sp_greedyChanges l D cI cZ q hW22
    obtain rfl : bg2 = bg23 := (hk23 hs2).symm
    refine call_Pi (wa := [(gq, .inl (cI, 3, .inl g))]) (w0 := wb22) (w1 := wb23) (As := []) (rest := []) hx hb hml hown hAW hN hM23 q711 q712 q713 q22 q714 hd_X9_greedyChanges (by rw [hR]; exact Nat.le_of_ble_eq_true rfl) (by rw [hR]; exact Nat.le_of_ble_eq_true rfl) hK hP hD hS hA hW22.hd (hW23.ads.trans hW22.ads.symm) rfl hl.1 rfl (lv_room (Nat.le_of_ble_eq_true rfl)) dL_areCuttings_113 (by rw [hR]; show 3 ≤ 4; omega) (by rw [hR]; show 18 ≤ 24; omega) (fun H locs hP hD hS => ?_)
    refine lv_if_ne (tgt := 133) hx hb dL_areCuttings_116 (by decide) (fun c116 => absurd c116 (fun z => z (hB2.1 h0).1)) (fun c116 => ?_)
    refine lv_aload_n hx hb dL_areCuttings_119 rfl (lv_at hl 3 rfl) ?_
    refine lv_iconst (v := 1) hx hb dL_areCuttings_120 (by decide) ?_
    refine call_Hi (wa := [(gq, .inl (cI, 3, .inl g))]) (w0 := wb23) (w1 := wb23) (As := [.ref (q 0), .int 1]) (rest := []) hx hb hml hown hAW hN hT hNc (sh_leastCostx2 l hl0 D cI cZ q hW23 (c := 1) (by decide) (by omega)) q611 q612 q21 qw_leastCost hd_L_leastCost (by rw [hR]; exact Nat.le_of_ble_eq_true rfl) (by rw [hR]; exact Nat.le_of_ble_eq_true rfl) hK hP hD hS hA rfl rfl hl.1 rfl (lv_room (Nat.le_of_ble_eq_true rfl)) dL_areCuttings_121 (by rw [hR]; show 4 ≤ 4; omega) (by rw [hR]; show 24 ≤ 24; omega) (fun H locs hP hD hS => ?_)
    refine lv_bipush (v := (-10)) hx hb dL_areCuttings_124 (by decide) ?_
    refine lv_icmp_ne (tgt := 133) hx hb dL_areCuttings_126 (by decide) (fun c126 => absurd c126 (fun z => z rfl)) (fun c126 => ?_)
    refine lv_iconst (v := 1) hx hb dL_areCuttings_129 (by decide) ?_
    refine lv_goto (tgt := 134) hx hb dL_areCuttings_130 (by decide) ?_
    exact fin_z (v := 1) hx hb hr hlk hP hS rfl (⟨rfl, _, _, _, rfl, hW23⟩) (ad_app rfl (hW23.ads.trans hW.ads.symm)) hQ dL_areCuttings_134
