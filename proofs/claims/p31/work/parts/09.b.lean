/-! the law's told, isGreedy -/
def CutsOK (v : Nat → Int32) (n : Nat) (pn : Int32) (w : CuS) : Prop := (n = 0 → w.2.1 = 0 ∧ w.2.2.1 = 0) ∧ (0 < n → ∃ k P, CutOK v n pn w k P)
theorem BestOK.cuts {v : Nat → Int32} {n : Nat} {pn : Int32} {w : CuS} (h : BestOK v n pn w) : CutsOK v n pn w := ⟨h.1, fun z => by obtain ⟨k, P, h1, -⟩ := h.2 z; exact ⟨k, P, h1⟩⟩
theorem GreedyOK.cuts {v : Nat → Int32} {n : Nat} {pn : Int32} {w : CuS} (h : GreedyOK v n pn w) : CutsOK v n pn w := ⟨h.1, fun z => by obtain ⟨k, P, h1, -⟩ := h.2 z; exact ⟨k, P, h1⟩⟩
theorem PW.pv {cI cZ : ClassId} {q : Nat → Nat} {v : Nat → Int32} {n : Nat} {pn : Int32} {al : AlS} {cs : CsS} {ph : PhS} {tm : Nat → Bool} {bx bg : CuS} {wb : va_W} (h : PW cI cZ q v n pn al cs ph tm bx bg wb) : PV v n pn al cs ph tm := h.1
theorem PW.best {cI cZ : ClassId} {q : Nat → Nat} {v : Nat → Int32} {n : Nat} {pn : Int32} {al : AlS} {cs : CsS} {ph : PhS} {tm : Nat → Bool} {bx bg : CuS} {wb : va_W} (h : PW cI cZ q v n pn al cs ph tm bx bg wb) (hs : bx.2.2.2 = true) : BestOK v n pn bx := by
  obtain ⟨hv, sc, lc, bs, tr, h1, h2, hc⟩ := h
  exact hc.2.1 hs
theorem PW.greedy {cI cZ : ClassId} {q : Nat → Nat} {v : Nat → Int32} {n : Nat} {pn : Int32} {al : AlS} {cs : CsS} {ph : PhS} {tm : Nat → Bool} {bx bg : CuS} {wb : va_W} (h : PW cI cZ q v n pn al cs ph tm bx bg wb) (hs : bg.2.2.2 = true) : GreedyOK v n pn bg := by
  obtain ⟨hv, sc, lc, bs, tr, h1, h2, hc⟩ := h
  exact hc.2.2 hs
/-- what the law's loop over a cutting's changes needs -/
def TF (v : Nat → Int32) (n : Nat) (pn : Int32) (w : CuS) (k : Nat) (P : Nat → Nat) : Prop :=
  w.2.1 = nI k ∧ k ≤ 120 ∧ P 0 = 0 ∧ (∀ j, j < k → naL w.1 (nI j) 120 0 0 = nI (P (j + 1)) ∧ P j < P (j + 1) ∧ P (j + 1) < n) ∧ (n = 0 → k = 0 ∧ w.2.2.1 = 0) ∧ (0 < n → P k < n ∧ w.2.2.1.toInt = sX v P k 0 + (k : Int) * pn.toInt ∧ Chn P k n)
theorem TF_ex {v : Nat → Int32} {n : Nat} {pn : Int32} {w : CuS} (hn : n ≤ 120) (h : CutsOK v n pn w) : ∃ k P, TF v n pn w k P := by
  by_cases h0 : n = 0
  · obtain ⟨h1, h2⟩ := h.1 h0
    exact ⟨0, fun _ => 0, h1, Nat.zero_le _, rfl, fun j hj => absurd hj (Nat.not_lt_zero _), fun _ => ⟨rfl, h2⟩, fun z => absurd h0 (by omega)⟩
  · obtain ⟨k, P, hC, h1, h2, h3⟩ := h.2 (by omega)
    have hk := Chn_lt hC
    have hl := hC.2.2 k (Nat.le_refl _)
    rw [hC.2.1] at hl
    refine ⟨k, P, h1, by omega, hC.1, fun j hj => ⟨h2 j hj, hC.2.2 j (by omega), ?_⟩, fun z => absurd z h0, fun _ => ⟨hl, h3, hC⟩⟩
    have := Chn_mono hC (k - (j + 1)) (j + 1) (by omega)
    rw [show j + 1 + (k - (j + 1)) = k by omega] at this
    omega
/-- the sum so far and what is still to come -/
def TI (v : Nat → Int32) (n : Nat) (pn : Int32) (w : CuS) (k : Nat) (P : Nat → Nat) (i : Nat) (sm : Int32) : Prop :=
  0 < n → sm.toInt + (sX v P (k - i) i + ((k - i : Nat) : Int) * pn.toInt) = w.2.2.1.toInt ∧ 0 ≤ sm.toInt ∧ sm.toInt ≤ 340000 * (i : Int)
theorem TI_0 {v : Nat → Int32} {n : Nat} {pn : Int32} {w : CuS} {k : Nat} {P : Nat → Nat} (h : TF v n pn w k P) : TI v n pn w k P 0 0 := fun z => by
  have e := (h.2.2.2.2.2 z).2.1
  rw [i00, Nat.sub_zero]
  omega
theorem TI_step {v : Nat → Int32} {n : Nat} {pn : Int32} {w : CuS} {k : Nat} {P : Nat → Nat} {i : Nat} {sm : Int32} (hv : VB v) (hn : n ≤ 120) (hp : 0 ≤ pn.toInt ∧ pn.toInt ≤ 100000) (h : TF v n pn w k P) (hi : i < k) (H : TI v n pn w k P i sm) : TI v n pn w k P (i + 1) (sm + (cF v (P i) (P (i + 1)) + pn)) := fun z => by
  obtain ⟨a1, a2, a3⟩ := H z
  obtain ⟨-, hk, -, h4, -, -⟩ := h
  obtain ⟨-, h5, h6⟩ := h4 i hi
  have hb := cI_bd hv h5 (by omega)
  have e1 : (cF v (P i) (P (i + 1)) + pn).toInt = cI v (P i) (P (i + 1)) + pn.toInt := by
    unfold cI at *
    exact ti_add (by omega) (by omega)
  have e2 : (sm + (cF v (P i) (P (i + 1)) + pn)).toInt = sm.toInt + (cI v (P i) (P (i + 1)) + pn.toInt) := by rw [ti_add (by omega) (by omega), e1]
  have e3 : sX v P (k - i) i = cI v (P i) (P (i + 1)) + sX v P (k - (i + 1)) (i + 1) := by
    rw [show k - i = k - (i + 1) + 1 by omega]; rfl
  have e4 : ((k - i : Nat) : Int) * pn.toInt = ((k - (i + 1) : Nat) : Int) * pn.toInt + pn.toInt := by
    rw [show k - i = k - (i + 1) + 1 by omega, Int.natCast_succ, Int.add_mul, Int.one_mul]
  rw [e2]
  rw [e3, e4] at a1
  omega
theorem TI_end {v : Nat → Int32} {n : Nat} {pn : Int32} {w : CuS} {k : Nat} {P : Nat → Nat} {sm : Int32} (hv : VB v) (hn : n ≤ 120) (h : TF v n pn w k P) (H : TI v n pn w k P k sm) (h0 : 0 < n) : sm + cF v (P k) n = w.2.2.1 := by
  obtain ⟨a1, a2, a3⟩ := H h0
  obtain ⟨-, hk, -, -, -, h6⟩ := h
  obtain ⟨b1, -, hC⟩ := h6 h0
  have hb := cI_bd hv b1 hn
  rw [Nat.sub_self] at a1
  have e0 : sX v P 0 k = cI v (P k) n := by
    show cI v (P k) (P (k + 1)) = _
    rw [hC.2.1]
  have e00 : ((0 : Nat) : Int) * pn.toInt = 0 := Int.zero_mul _
  rw [e0, e00] at a1
  apply (i_eq _ _).mpr
  unfold cI at *
  rw [ti_add (by omega) (by omega)]
  omega
set_option maxHeartbeats 4000000 in
set_option maxRecDepth 100000 in
theorem cl_told0 (l : Launch) (hl0 : l.stackTraces = false) (D : va_G) (cI cZ : ClassId) (q : Nat → Nat) {v : Nat → Int32} {n : Nat} {pn : Int32} {al : AlS} {cs : CsS} {ph : PhS} {tm : Nat → Bool} {bx bg : CuS} {gq : Nat} {g : Nat → Int32} {wb : va_W} (hW : PW cI cZ q v n pn al cs ph tm bx bg wb) (hG : GK g n pn tm) (hst : bx.2.2.2 = true) : Cz l yL_told (aw yL_told cL_told 8 (some .int)) ({ frames := 11, cells := 0, slots := 0, locals := 220 }) D cI cZ [.ref (q 0), .ref gq, .int 0] (([gC cI gq g] ++ wb)) (fun rr ww => rr = bx.2.2.1 ∧ ∃ wb', ww = [gC cI gq g] ++ wb' ∧ PW cI cZ q v n pn al cs ph tm bx bg wb') 0 0 := by
  refine mk_z (y := yL_told) (av := [.ref (q 0), .ref gq, .int 0]) (cc := cL_told) (maxL := 8) (ret := (some .int)) (plainFor_of_name (by decide)) (Nat.le_of_ble_eq_true rfl) ?_
  intro p e s m args below meth c A Q R hR hQ hx hb hr hml hAW hown hlk hN hT hNc hA hP hK hD hS ls hl
  have hl : lv_has ls 8 [(0, .ref (q 0)), (1, .ref gq), (2, .int 0)] := hl
  have hn := hW.pv.1
  obtain ⟨k, P, hF⟩ := TF_ex hn (hW.best hst).cuts
  obtain ⟨hk, hk1, hP0, hst2, hn0, hn1⟩ := id hF
  have hpv := hW.pv
  refine lv_iload_n hx hb dL_told_0 rfl (lv_at hl 2 rfl) ?_
  refine n_if_eq (x := 0) (tgt := 11) hx hb (by omega) dL_told_1 (by decide) (fun c1 => ?_) (fun c1 => absurd c1 (by omega))
  refine lv_aload_n hx hb dL_told_11 rfl (lv_at hl 0 rfl) ?_
  obtain ⟨wb1, bx1, hW1, hM1, hs1, hk1, hB1⟩ := sp_changes l D cI cZ q hW
  obtain rfl : bx = bx1 := (hk1 hst).symm
  refine call_Pi (wa := [(gq, .inl (cI, 3, .inl g))]) (w0 := wb) (w1 := wb1) (As := []) (rest := []) hx hb hml hown hAW hN hM1 q715 q716 q717 q22 q718 hd_X9_changes (by rw [hR]; exact Nat.le_of_ble_eq_true rfl) (by rw [hR]; exact Nat.le_of_ble_eq_true rfl) hK hP hD hS hA hW.hd (hW1.ads.trans hW.ads.symm) rfl hl.1 rfl (lv_room (Nat.le_of_ble_eq_true rfl)) dL_told_12 (by rw [hR]; show 0 ≤ 0; omega) (by rw [hR]; show 0 ≤ 0; omega) (fun H locs hP hD hS => ?_)
  refine lv_topi (fun y9 ey9 => ?_)
  have ey9 : (nI k) = y9 := (ey9.trans hk).symm
  subst ey9
  refine lv_istore_n (lv' := [(3, .int (nI k)), (0, .ref (q 0)), (1, .ref gq), (2, .int 0)]) hx hb dL_told_15 rfl hl (by decide) rfl (fun ls hl => ?_)
  refine lv_iconst (v := 0) hx hb dL_told_16 (by decide) ?_
  refine lv_topi (fun y9 ey9 => ?_)
  have ey9 : (nI (P 0)) = y9 := (ey9.trans (by rw [hP0]; rfl)).symm
  subst ey9
  refine lv_istore (lv' := [(4, .int (nI (P 0))), (3, .int (nI k)), (0, .ref (q 0)), (1, .ref gq), (2, .int 0)]) hx hb dL_told_17 hl (by decide) rfl (fun ls hl => ?_)
  refine lv_iconst (v := 0) hx hb dL_told_19 (by decide) ?_
  refine lv_istore (lv' := [(5, .int 0), (4, .int (nI (P 0))), (3, .int (nI k)), (0, .ref (q 0)), (1, .ref gq), (2, .int 0)]) hx hb dL_told_20 hl (by decide) rfl (fun ls hl => ?_)
  refine lv_iconst (v := 0) hx hb dL_told_22 (by decide) ?_
  refine lv_istore (lv' := [(6, .int 0), (5, .int 0), (4, .int (nI (P 0))), (3, .int (nI k)), (0, .ref (q 0)), (1, .ref gq), (2, .int 0)]) hx hb dL_told_23 hl (by decide) rfl (fun ls hl => ?_)
  have J25 : ∀ (mz : Nat) (i : Nat) (sm : Int32) (wL25 : va_W), (i ≤ k) → (TI v n pn bx k P i sm) → k - i < mz → PW cI cZ q v n pn al cs ph tm bx bg wL25 → ∀ (H : Heap) (locs : List Loc), va_P D vwCl ([(gq, .inl (cI, 3, .inl g))] ++ wL25) H → va_D A ([(gq, .inl (cI, 3, .inl g))] ++ wL25) → va_S A s.heap H locs → ∀ (ls : Array Slot), lv_has ls 8 [(0, .ref (q 0)), (1, .ref gq), (2, .int 0), (3, .int (nI k)), (4, .int (nI (P i))), (5, .int sm), (6, .int (nI i))] → W p l e R s m args below meth c H locs (0) (0) Q (F0 m 25 ls []) := by
    intro mz
    induction mz with
    | zero => intro i sm wL25 hi hsm hmu; exact absurd (by assumption) (Nat.not_lt_zero _)
    | succ mz ih25 =>
      intro i sm wL25 hi hsm hmu hWL25 H locs hP hD hS ls hl
      refine lv_iload hx hb dL_told_25 (lv_at hl 6 rfl) ?_
      refine lv_iload_n hx hb dL_told_27 rfl (lv_at hl 3 rfl) ?_
      refine n_icmp_ge (x := i) (y := k) (tgt := 96) hx hb (by omega) (by omega) dL_told_28 (by decide) (fun c28 => ?_) (fun c28 => ?_)
      · skip
        obtain rfl : i = k := by omega
        refine lv_aload_n hx hb dL_told_96 rfl (lv_at hl 1 rfl) ?_
        refine lv_iconst (v := 0) hx hb dL_told_97 (by decide) ?_
        refine n_iald (D := D) (f := g) (i := 0) hx hb hK hP 0 0 rfl rfl (by decide) (by decide) dL_told_98 ?_
        refine lv_topi (fun y9 ey9 => ?_)
        have ey9 : (nI n) = y9 := (ey9.trans hG.1).symm
        subst ey9
        refine n_if_ne (x := n) (tgt := 106) hx hb (by omega) dL_told_99 (by decide) (fun c99 => ?_) (fun c99 => ?_)
        · skip
          refine lv_iload hx hb dL_told_106 (lv_at hl 5 rfl) ?_
          refine lv_aload_n hx hb dL_told_108 rfl (lv_at hl 0 rfl) ?_
          refine lv_iload hx hb dL_told_109 (lv_at hl 4 rfl) ?_
          refine lv_aload_n hx hb dL_told_111 rfl (lv_at hl 1 rfl) ?_
          refine lv_iconst (v := 0) hx hb dL_told_112 (by decide) ?_
          refine n_iald (D := D) (f := g) (i := 0) hx hb hK hP 0 0 rfl rfl (by decide) (by decide) dL_told_113 ?_
          refine lv_topi (fun y9 ey9 => ?_)
          have ey9 : (nI n) = y9 := (ey9.trans hG.1).symm
          subst ey9
          obtain ⟨wb2, hW2, hM2⟩ := sp_cost l D cI cZ q hWL25 (f := (P i)) (t := n) (hn1 (by omega)).1 (Nat.le_refl _)
          refine call_Pi (wa := [(gq, .inl (cI, 3, .inl g))]) (w0 := wL25) (w1 := wb2) (As := [.int (nI (P i)), .int (nI n)]) (rest := [.int sm]) hx hb hml hown hAW hN hM2 q508 q509 q510 q22 q511 hd_X9_cost (by rw [hR]; exact Nat.le_of_ble_eq_true rfl) (by rw [hR]; exact Nat.le_of_ble_eq_true rfl) hK hP hD hS hA hWL25.hd (hW2.ads.trans hWL25.ads.symm) rfl hl.1 rfl (lv_room (Nat.le_of_ble_eq_true rfl)) dL_told_114 (by rw [hR]; show 0 ≤ 0; omega) (by rw [hR]; show 0 ≤ 0; omega) (fun H locs hP hD hS => ?_)
          refine lv_iadd hx hb dL_told_117 ?_
          exact fin_z (v := (sm + (cF v (P i) n))) hx hb hr hlk hP hS rfl (⟨TI_end hpv.2.1 hn hF hsm (by omega), _, rfl, hW2⟩) (ad_app rfl (hW2.ads.trans hW.ads.symm)) hQ dL_told_118
        · skip
          refine lv_iconst (v := 0) hx hb dL_told_102 (by decide) ?_
          refine lv_goto (tgt := 118) hx hb dL_told_103 (by decide) ?_
          exact fin_z (v := 0) hx hb hr hlk hP hS rfl (⟨(hn0 (by omega)).2.symm, _, rfl, hWL25⟩) (ad_app rfl (hWL25.ads.trans hW.ads.symm)) hQ dL_told_118
      · skip
        obtain ⟨hs1, hs2, hs3⟩ := hst2 i (by omega)
        refine lv_iload_n hx hb dL_told_31 rfl (lv_at hl 2 rfl) ?_
        refine n_if_eq (x := 0) (tgt := 44) hx hb (by omega) dL_told_32 (by decide) (fun c32 => ?_) (fun c32 => absurd c32 (by omega))
        refine lv_aload_n hx hb dL_told_44 rfl (lv_at hl 0 rfl) ?_
        refine lv_iload hx hb dL_told_45 (lv_at hl 6 rfl) ?_
        obtain ⟨wb3, hW3, hM3⟩ := sp_change l D cI cZ q hWL25 hst (x := (nI i)) ⟨nI_pos' (by omega), by rw [hk]; exact (nI_ltI (by omega) (by omega)).mpr (by omega)⟩
        refine call_Pi (wa := [(gq, .inl (cI, 3, .inl g))]) (w0 := wL25) (w1 := wb3) (As := [.int (nI i)]) (rest := []) hx hb hml hown hAW hN hM3 q548 q549 q550 q22 q551 hd_X9_change (by rw [hR]; exact Nat.le_of_ble_eq_true rfl) (by rw [hR]; exact Nat.le_of_ble_eq_true rfl) hK hP hD hS hA hWL25.hd (hW3.ads.trans hWL25.ads.symm) rfl hl.1 rfl (lv_room (Nat.le_of_ble_eq_true rfl)) dL_told_47 (by rw [hR]; show 0 ≤ 0; omega) (by rw [hR]; show 0 ≤ 0; omega) (fun H locs hP hD hS => ?_)
        refine lv_topi (fun y9 ey9 => ?_)
        have ey9 : (nI (P (i + 1))) = y9 := (ey9.trans hs1).symm
        subst ey9
        refine lv_istore (lv' := [(7, .int (nI (P (i + 1)))), (0, .ref (q 0)), (1, .ref gq), (2, .int 0), (3, .int (nI k)), (4, .int (nI (P i))), (5, .int sm), (6, .int (nI i))]) hx hb dL_told_50 hl (by decide) rfl (fun ls hl => ?_)
        refine lv_iload hx hb dL_told_52 (lv_at hl 0 rfl) ?_
        refine lv_iload hx hb dL_told_54 (lv_at hl 5 rfl) ?_
        refine n_icmp_le (x := (P (i + 1))) (y := (P i)) (tgt := 67) hx hb (by omega) (by omega) dL_told_56 (by decide) (fun c56 => absurd c56 (by omega)) (fun c56 => ?_)
        refine lv_iload hx hb dL_told_59 (lv_at hl 0 rfl) ?_
        refine lv_aload_n hx hb dL_told_61 rfl (lv_at hl 2 rfl) ?_
        refine lv_iconst (v := 0) hx hb dL_told_62 (by decide) ?_
        refine n_iald (D := D) (f := g) (i := 0) hx hb hK hP 0 0 rfl rfl (by decide) (by decide) dL_told_63 ?_
        refine lv_topi (fun y9 ey9 => ?_)
        have ey9 : (nI n) = y9 := (ey9.trans hG.1).symm
        subst ey9
        refine n_icmp_lt (x := (P (i + 1))) (y := n) (tgt := 69) hx hb (by omega) (by omega) dL_told_64 (by decide) (fun c64 => ?_) (fun c64 => absurd c64 (by omega))
        refine lv_iload hx hb dL_told_69 (lv_at hl 6 rfl) ?_
        refine lv_aload_n hx hb dL_told_71 rfl (lv_at hl 1 rfl) ?_
        refine lv_iload hx hb dL_told_72 (lv_at hl 5 rfl) ?_
        refine lv_iload hx hb dL_told_74 (lv_at hl 0 rfl) ?_
        obtain ⟨wb4, hW4, hM4⟩ := sp_cost l D cI cZ q hW3 (f := (P i)) (t := (P (i + 1))) hs2 (by omega)
        refine call_Pi (wa := [(gq, .inl (cI, 3, .inl g))]) (w0 := wb3) (w1 := wb4) (As := [.int (nI (P i)), .int (nI (P (i + 1)))]) (rest := [.int sm]) hx hb hml hown hAW hN hM4 q508 q509 q510 q22 q511 hd_X9_cost (by rw [hR]; exact Nat.le_of_ble_eq_true rfl) (by rw [hR]; exact Nat.le_of_ble_eq_true rfl) hK hP hD hS hA hW3.hd (hW4.ads.trans hW3.ads.symm) rfl hl.1 rfl (lv_room (Nat.le_of_ble_eq_true rfl)) dL_told_76 (by rw [hR]; show 0 ≤ 0; omega) (by rw [hR]; show 0 ≤ 0; omega) (fun H locs hP hD hS => ?_)
        refine lv_aload_n hx hb dL_told_79 rfl (lv_at hl 2 rfl) ?_
        refine lv_iconst (v := 1) hx hb dL_told_80 (by decide) ?_
        refine n_iald (D := D) (f := g) (i := 1) hx hb hK hP 0 0 rfl rfl (by decide) (by decide) dL_told_81 ?_
        refine lv_topi (fun y9 ey9 => ?_)
        have ey9 : pn = y9 := (ey9.trans hG.2.1).symm
        subst ey9
        refine lv_iadd hx hb dL_told_82 ?_
        refine lv_iadd hx hb dL_told_83 ?_
        refine lv_istore (lv' := [(5, .int (sm + ((cF v (P i) (P (i + 1))) + pn))), (7, .int (nI (P (i + 1)))), (0, .ref (q 0)), (1, .ref gq), (2, .int 0), (3, .int (nI k)), (4, .int (nI (P i))), (6, .int (nI i))]) hx hb dL_told_84 hl (by decide) rfl (fun ls hl => ?_)
        refine lv_iload hx hb dL_told_86 (lv_at hl 1 rfl) ?_
        refine lv_istore (lv' := [(4, .int (nI (P (i + 1)))), (5, .int (sm + ((cF v (P i) (P (i + 1))) + pn))), (7, .int (nI (P (i + 1)))), (0, .ref (q 0)), (1, .ref gq), (2, .int 0), (3, .int (nI k)), (6, .int (nI i))]) hx hb dL_told_88 hl (by decide) rfl (fun ls hl => ?_)
        refine lv_iinc (v := (nI (i + 1))) (lv' := [(6, .int (nI (i + 1))), (4, .int (nI (P (i + 1)))), (5, .int (sm + ((cF v (P i) (P (i + 1))) + pn))), (7, .int (nI (P (i + 1)))), (0, .ref (q 0)), (1, .ref gq), (2, .int 0), (3, .int (nI k))]) hx hb dL_told_90 hl (k := 7) rfl (nI_inc i 1) (by decide) rfl (fun ls hl => ?_)
        refine lv_goto (tgt := 25) hx hb dL_told_93 (by decide) ?_
        exact ih25 (i + 1) (sm + (cF v (P i) (P (i + 1)) + pn)) wb4 (by first | assumption | omega | rfl) (TI_step hpv.2.1 hn hpv.2.2.1 hF (by omega) hsm) (by omega) hW4 _ _ hP hD hS ls (lv_sub hl [4, 5, 6, 7, 1, 2, 0] rfl)
  exact J25 (k - 0 + 1) 0 0 wb1 (Nat.zero_le _) (TI_0 hF) (Nat.lt_succ_self _) hW1 _ _ hP hD hS ls (lv_sub hl [4, 5, 6, 3, 2, 1, 0] rfl)

set_option maxHeartbeats 4000000 in
set_option maxRecDepth 100000 in
theorem cl_told1 (l : Launch) (hl0 : l.stackTraces = false) (D : va_G) (cI cZ : ClassId) (q : Nat → Nat) {v : Nat → Int32} {n : Nat} {pn : Int32} {al : AlS} {cs : CsS} {ph : PhS} {tm : Nat → Bool} {bx bg : CuS} {gq : Nat} {g : Nat → Int32} {wb : va_W} (hW : PW cI cZ q v n pn al cs ph tm bx bg wb) (hG : GK g n pn tm) (hst : bg.2.2.2 = true) : Cz l yL_told (aw yL_told cL_told 8 (some .int)) ({ frames := 11, cells := 0, slots := 0, locals := 220 }) D cI cZ [.ref (q 0), .ref gq, .int 1] (([gC cI gq g] ++ wb)) (fun rr ww => rr = bg.2.2.1 ∧ ∃ wb', ww = [gC cI gq g] ++ wb' ∧ PW cI cZ q v n pn al cs ph tm bx bg wb') 0 0 := by
  refine mk_z (y := yL_told) (av := [.ref (q 0), .ref gq, .int 1]) (cc := cL_told) (maxL := 8) (ret := (some .int)) (plainFor_of_name (by decide)) (Nat.le_of_ble_eq_true rfl) ?_
  intro p e s m args below meth c A Q R hR hQ hx hb hr hml hAW hown hlk hN hT hNc hA hP hK hD hS ls hl
  have hl : lv_has ls 8 [(0, .ref (q 0)), (1, .ref gq), (2, .int 1)] := hl
  have hn := hW.pv.1
  obtain ⟨k, P, hF⟩ := TF_ex hn (hW.greedy hst).cuts
  obtain ⟨hk, hk1, hP0, hst2, hn0, hn1⟩ := id hF
  have hpv := hW.pv
  refine lv_iload_n hx hb dL_told_0 rfl (lv_at hl 2 rfl) ?_
  refine n_if_eq (x := 1) (tgt := 11) hx hb (by omega) dL_told_1 (by decide) (fun c1 => absurd c1 (by omega)) (fun c1 => ?_)
  refine lv_aload_n hx hb dL_told_4 rfl (lv_at hl 0 rfl) ?_
  obtain ⟨wb1, bg1, hW1, hM1, hs1, hk1, hB1⟩ := sp_greedyChanges l D cI cZ q hW
  obtain rfl : bg = bg1 := (hk1 hst).symm
  refine call_Pi (wa := [(gq, .inl (cI, 3, .inl g))]) (w0 := wb) (w1 := wb1) (As := []) (rest := []) hx hb hml hown hAW hN hM1 q711 q712 q713 q22 q714 hd_X9_greedyChanges (by rw [hR]; exact Nat.le_of_ble_eq_true rfl) (by rw [hR]; exact Nat.le_of_ble_eq_true rfl) hK hP hD hS hA hW.hd (hW1.ads.trans hW.ads.symm) rfl hl.1 rfl (lv_room (Nat.le_of_ble_eq_true rfl)) dL_told_5 (by rw [hR]; show 0 ≤ 0; omega) (by rw [hR]; show 0 ≤ 0; omega) (fun H locs hP hD hS => ?_)
  refine lv_topi (fun y9 ey9 => ?_)
  have ey9 : (nI k) = y9 := (ey9.trans hk).symm
  subst ey9
  refine lv_goto (tgt := 15) hx hb dL_told_8 (by decide) ?_
  refine lv_istore_n (lv' := [(3, .int (nI k)), (0, .ref (q 0)), (1, .ref gq), (2, .int 1)]) hx hb dL_told_15 rfl hl (by decide) rfl (fun ls hl => ?_)
  refine lv_iconst (v := 0) hx hb dL_told_16 (by decide) ?_
  refine lv_topi (fun y9 ey9 => ?_)
  have ey9 : (nI (P 0)) = y9 := (ey9.trans (by rw [hP0]; rfl)).symm
  subst ey9
  refine lv_istore (lv' := [(4, .int (nI (P 0))), (3, .int (nI k)), (0, .ref (q 0)), (1, .ref gq), (2, .int 1)]) hx hb dL_told_17 hl (by decide) rfl (fun ls hl => ?_)
  refine lv_iconst (v := 0) hx hb dL_told_19 (by decide) ?_
  refine lv_istore (lv' := [(5, .int 0), (4, .int (nI (P 0))), (3, .int (nI k)), (0, .ref (q 0)), (1, .ref gq), (2, .int 1)]) hx hb dL_told_20 hl (by decide) rfl (fun ls hl => ?_)
  refine lv_iconst (v := 0) hx hb dL_told_22 (by decide) ?_
  refine lv_istore (lv' := [(6, .int 0), (5, .int 0), (4, .int (nI (P 0))), (3, .int (nI k)), (0, .ref (q 0)), (1, .ref gq), (2, .int 1)]) hx hb dL_told_23 hl (by decide) rfl (fun ls hl => ?_)
  have J25 : ∀ (mz : Nat) (i : Nat) (sm : Int32) (wL25 : va_W), (i ≤ k) → (TI v n pn bg k P i sm) → k - i < mz → PW cI cZ q v n pn al cs ph tm bx bg wL25 → ∀ (H : Heap) (locs : List Loc), va_P D vwCl ([(gq, .inl (cI, 3, .inl g))] ++ wL25) H → va_D A ([(gq, .inl (cI, 3, .inl g))] ++ wL25) → va_S A s.heap H locs → ∀ (ls : Array Slot), lv_has ls 8 [(0, .ref (q 0)), (1, .ref gq), (2, .int 1), (3, .int (nI k)), (4, .int (nI (P i))), (5, .int sm), (6, .int (nI i))] → W p l e R s m args below meth c H locs (0) (0) Q (F0 m 25 ls []) := by
    intro mz
    induction mz with
    | zero => intro i sm wL25 hi hsm hmu; exact absurd (by assumption) (Nat.not_lt_zero _)
    | succ mz ih25 =>
      intro i sm wL25 hi hsm hmu hWL25 H locs hP hD hS ls hl
      refine lv_iload hx hb dL_told_25 (lv_at hl 6 rfl) ?_
      refine lv_iload_n hx hb dL_told_27 rfl (lv_at hl 3 rfl) ?_
      refine n_icmp_ge (x := i) (y := k) (tgt := 96) hx hb (by omega) (by omega) dL_told_28 (by decide) (fun c28 => ?_) (fun c28 => ?_)
      · skip
        obtain rfl : i = k := by omega
        refine lv_aload_n hx hb dL_told_96 rfl (lv_at hl 1 rfl) ?_
        refine lv_iconst (v := 0) hx hb dL_told_97 (by decide) ?_
        refine n_iald (D := D) (f := g) (i := 0) hx hb hK hP 0 0 rfl rfl (by decide) (by decide) dL_told_98 ?_
        refine lv_topi (fun y9 ey9 => ?_)
        have ey9 : (nI n) = y9 := (ey9.trans hG.1).symm
        subst ey9
        refine n_if_ne (x := n) (tgt := 106) hx hb (by omega) dL_told_99 (by decide) (fun c99 => ?_) (fun c99 => ?_)
        · skip
          refine lv_iload hx hb dL_told_106 (lv_at hl 5 rfl) ?_
          refine lv_aload_n hx hb dL_told_108 rfl (lv_at hl 0 rfl) ?_
          refine lv_iload hx hb dL_told_109 (lv_at hl 4 rfl) ?_
          refine lv_aload_n hx hb dL_told_111 rfl (lv_at hl 1 rfl) ?_
          refine lv_iconst (v := 0) hx hb dL_told_112 (by decide) ?_
          refine n_iald (D := D) (f := g) (i := 0) hx hb hK hP 0 0 rfl rfl (by decide) (by decide) dL_told_113 ?_
          refine lv_topi (fun y9 ey9 => ?_)
          have ey9 : (nI n) = y9 := (ey9.trans hG.1).symm
          subst ey9
          obtain ⟨wb2, hW2, hM2⟩ := sp_cost l D cI cZ q hWL25 (f := (P i)) (t := n) (hn1 (by omega)).1 (Nat.le_refl _)
          refine call_Pi (wa := [(gq, .inl (cI, 3, .inl g))]) (w0 := wL25) (w1 := wb2) (As := [.int (nI (P i)), .int (nI n)]) (rest := [.int sm]) hx hb hml hown hAW hN hM2 q508 q509 q510 q22 q511 hd_X9_cost (by rw [hR]; exact Nat.le_of_ble_eq_true rfl) (by rw [hR]; exact Nat.le_of_ble_eq_true rfl) hK hP hD hS hA hWL25.hd (hW2.ads.trans hWL25.ads.symm) rfl hl.1 rfl (lv_room (Nat.le_of_ble_eq_true rfl)) dL_told_114 (by rw [hR]; show 0 ≤ 0; omega) (by rw [hR]; show 0 ≤ 0; omega) (fun H locs hP hD hS => ?_)
          refine lv_iadd hx hb dL_told_117 ?_
          exact fin_z (v := (sm + (cF v (P i) n))) hx hb hr hlk hP hS rfl (⟨TI_end hpv.2.1 hn hF hsm (by omega), _, rfl, hW2⟩) (ad_app rfl (hW2.ads.trans hW.ads.symm)) hQ dL_told_118
        · skip
          refine lv_iconst (v := 0) hx hb dL_told_102 (by decide) ?_
          refine lv_goto (tgt := 118) hx hb dL_told_103 (by decide) ?_
          exact fin_z (v := 0) hx hb hr hlk hP hS rfl (⟨(hn0 (by omega)).2.symm, _, rfl, hWL25⟩) (ad_app rfl (hWL25.ads.trans hW.ads.symm)) hQ dL_told_118
      · skip
        obtain ⟨hs1, hs2, hs3⟩ := hst2 i (by omega)
        refine lv_iload_n hx hb dL_told_31 rfl (lv_at hl 2 rfl) ?_
        refine n_if_eq (x := 1) (tgt := 44) hx hb (by omega) dL_told_32 (by decide) (fun c32 => absurd c32 (by omega)) (fun c32 => ?_)
        refine lv_aload_n hx hb dL_told_35 rfl (lv_at hl 0 rfl) ?_
        refine lv_iload hx hb dL_told_36 (lv_at hl 6 rfl) ?_
        obtain ⟨wb3, hW3, hM3⟩ := sp_greedyChange l D cI cZ q hWL25 hst (x := (nI i)) ⟨nI_pos' (by omega), by rw [hk]; exact (nI_ltI (by omega) (by omega)).mpr (by omega)⟩
        refine call_Pi (wa := [(gq, .inl (cI, 3, .inl g))]) (w0 := wL25) (w1 := wb3) (As := [.int (nI i)]) (rest := []) hx hb hml hown hAW hN hM3 q586 q587 q588 q22 q589 hd_X9_greedyChange (by rw [hR]; exact Nat.le_of_ble_eq_true rfl) (by rw [hR]; exact Nat.le_of_ble_eq_true rfl) hK hP hD hS hA hWL25.hd (hW3.ads.trans hWL25.ads.symm) rfl hl.1 rfl (lv_room (Nat.le_of_ble_eq_true rfl)) dL_told_38 (by rw [hR]; show 0 ≤ 0; omega) (by rw [hR]; show 0 ≤ 0; omega) (fun H locs hP hD hS => ?_)
        refine lv_topi (fun y9 ey9 => ?_)
        have ey9 : (nI (P (i + 1))) = y9 := (ey9.trans hs1).symm
        subst ey9
        refine lv_goto (tgt := 50) hx hb dL_told_41 (by decide) ?_
        refine lv_istore (lv' := [(7, .int (nI (P (i + 1)))), (0, .ref (q 0)), (1, .ref gq), (2, .int 1), (3, .int (nI k)), (4, .int (nI (P i))), (5, .int sm), (6, .int (nI i))]) hx hb dL_told_50 hl (by decide) rfl (fun ls hl => ?_)
        refine lv_iload hx hb dL_told_52 (lv_at hl 0 rfl) ?_
        refine lv_iload hx hb dL_told_54 (lv_at hl 5 rfl) ?_
        refine n_icmp_le (x := (P (i + 1))) (y := (P i)) (tgt := 67) hx hb (by omega) (by omega) dL_told_56 (by decide) (fun c56 => absurd c56 (by omega)) (fun c56 => ?_)
        refine lv_iload hx hb dL_told_59 (lv_at hl 0 rfl) ?_
        refine lv_aload_n hx hb dL_told_61 rfl (lv_at hl 2 rfl) ?_
        refine lv_iconst (v := 0) hx hb dL_told_62 (by decide) ?_
        refine n_iald (D := D) (f := g) (i := 0) hx hb hK hP 0 0 rfl rfl (by decide) (by decide) dL_told_63 ?_
        refine lv_topi (fun y9 ey9 => ?_)
        have ey9 : (nI n) = y9 := (ey9.trans hG.1).symm
        subst ey9
        refine n_icmp_lt (x := (P (i + 1))) (y := n) (tgt := 69) hx hb (by omega) (by omega) dL_told_64 (by decide) (fun c64 => ?_) (fun c64 => absurd c64 (by omega))
        refine lv_iload hx hb dL_told_69 (lv_at hl 6 rfl) ?_
        refine lv_aload_n hx hb dL_told_71 rfl (lv_at hl 1 rfl) ?_
        refine lv_iload hx hb dL_told_72 (lv_at hl 5 rfl) ?_
        refine lv_iload hx hb dL_told_74 (lv_at hl 0 rfl) ?_
        obtain ⟨wb4, hW4, hM4⟩ := sp_cost l D cI cZ q hW3 (f := (P i)) (t := (P (i + 1))) hs2 (by omega)
        refine call_Pi (wa := [(gq, .inl (cI, 3, .inl g))]) (w0 := wb3) (w1 := wb4) (As := [.int (nI (P i)), .int (nI (P (i + 1)))]) (rest := [.int sm]) hx hb hml hown hAW hN hM4 q508 q509 q510 q22 q511 hd_X9_cost (by rw [hR]; exact Nat.le_of_ble_eq_true rfl) (by rw [hR]; exact Nat.le_of_ble_eq_true rfl) hK hP hD hS hA hW3.hd (hW4.ads.trans hW3.ads.symm) rfl hl.1 rfl (lv_room (Nat.le_of_ble_eq_true rfl)) dL_told_76 (by rw [hR]; show 0 ≤ 0; omega) (by rw [hR]; show 0 ≤ 0; omega) (fun H locs hP hD hS => ?_)
        refine lv_aload_n hx hb dL_told_79 rfl (lv_at hl 2 rfl) ?_
        refine lv_iconst (v := 1) hx hb dL_told_80 (by decide) ?_
        refine n_iald (D := D) (f := g) (i := 1) hx hb hK hP 0 0 rfl rfl (by decide) (by decide) dL_told_81 ?_
        refine lv_topi (fun y9 ey9 => ?_)
        have ey9 : pn = y9 := (ey9.trans hG.2.1).symm
        subst ey9
        refine lv_iadd hx hb dL_told_82 ?_
        refine lv_iadd hx hb dL_told_83 ?_
        refine lv_istore (lv' := [(5, .int (sm + ((cF v (P i) (P (i + 1))) + pn))), (7, .int (nI (P (i + 1)))), (0, .ref (q 0)), (1, .ref gq), (2, .int 1), (3, .int (nI k)), (4, .int (nI (P i))), (6, .int (nI i))]) hx hb dL_told_84 hl (by decide) rfl (fun ls hl => ?_)
        refine lv_iload hx hb dL_told_86 (lv_at hl 1 rfl) ?_
        refine lv_istore (lv' := [(4, .int (nI (P (i + 1)))), (5, .int (sm + ((cF v (P i) (P (i + 1))) + pn))), (7, .int (nI (P (i + 1)))), (0, .ref (q 0)), (1, .ref gq), (2, .int 1), (3, .int (nI k)), (6, .int (nI i))]) hx hb dL_told_88 hl (by decide) rfl (fun ls hl => ?_)
        refine lv_iinc (v := (nI (i + 1))) (lv' := [(6, .int (nI (i + 1))), (4, .int (nI (P (i + 1)))), (5, .int (sm + ((cF v (P i) (P (i + 1))) + pn))), (7, .int (nI (P (i + 1)))), (0, .ref (q 0)), (1, .ref gq), (2, .int 1), (3, .int (nI k))]) hx hb dL_told_90 hl (k := 7) rfl (nI_inc i 1) (by decide) rfl (fun ls hl => ?_)
        refine lv_goto (tgt := 25) hx hb dL_told_93 (by decide) ?_
        exact ih25 (i + 1) (sm + (cF v (P i) (P (i + 1)) + pn)) wb4 (by first | assumption | omega | rfl) (TI_step hpv.2.1 hn hpv.2.2.1 hF (by omega) hsm) (by omega) hW4 _ _ hP hD hS ls (lv_sub hl [4, 5, 6, 7, 1, 2, 0] rfl)
  exact J25 (k - 0 + 1) 0 0 wb1 (Nat.zero_le _) (TI_0 hF) (Nat.lt_succ_self _) hW1 _ _ hP hD hS ls (lv_sub hl [4, 5, 6, 3, 2, 1, 0] rfl)
