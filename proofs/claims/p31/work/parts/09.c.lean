/-! the law's isGreedy, isSegment -/
def GF (v : Nat → Int32) (n : Nat) (pn : Int32) (w : CuS) (k : Nat) (P : Nat → Nat) : Prop :=
  w.2.1 = nI k ∧ k ≤ 120 ∧ P 0 = 0 ∧ (∀ j, j < k → naL w.1 (nI j) 120 0 0 = nI (P (j + 1))) ∧ (0 < n → Chn P k n ∧ ∀ i, i ≤ k → ∀ j, P i < j → j < P (i + 1) → cF v (P i) (P (i + 1)) - cF v (P i) j - cF v j (P (i + 1)) ≤ pn)
theorem GF_ex {v : Nat → Int32} {n : Nat} {pn : Int32} {w : CuS} (hn : n ≤ 120) (h : GreedyOK v n pn w) : ∃ k P, GF v n pn w k P := by
  by_cases h0 : n = 0
  · obtain ⟨h1, h2⟩ := h.1 h0
    exact ⟨0, fun _ => 0, h1, Nat.zero_le _, rfl, fun j hj => absurd hj (Nat.not_lt_zero _), fun z => absurd h0 (by omega)⟩
  · obtain ⟨k, P, ⟨hC, h1, h2, h3⟩, h4⟩ := h.2 (by omega)
    have hk := Chn_lt hC
    exact ⟨k, P, h1, by omega, hC.1, h2, fun _ => ⟨hC, h4⟩⟩
/-- the loop over a segment's values -/
def SI (v : Nat → Int32) (fr : Nat) (mid : Int32) (j L Mo : Nat) (co : Int32) (ob : Bool) : Prop :=
  (L : Int) = rs (gL mid) v fr (j - fr) ∧ (Mo : Int) = rs (gM mid) v fr (j - fr) ∧ co.toInt = rs (ab mid.toInt) v fr (j - fr) ∧ (0 ≤ co.toInt ∧ co.toInt ≤ 2000 * ((j - fr : Nat) : Int)) ∧ (ob = false → rs (gE mid) v fr (j - fr) = 0)
theorem SI_0 (v : Nat → Int32) (fr : Nat) (mid : Int32) : SI v fr mid fr 0 0 0 false := by
  unfold SI
  rw [Nat.sub_self]
  exact ⟨rfl, rfl, rfl, ⟨by decide, by decide⟩, fun _ => rfl⟩
theorem SI_step {v : Nat → Int32} {fr : Nat} {mid : Int32} {j L Mo lz mz : Nat} {co dz : Int32} {ob oc : Bool} (hj : fr ≤ j) (hj2 : j < 120) (hv : VB v) (hm : bd mid) (h : SI v fr mid j L Mo co ob) (h1 : (lz : Int) = gL mid (v j)) (h2 : (mz : Int) = gM mid (v j)) (h3 : dz.toInt = ab mid.toInt (v j)) (h4 : oc = false → ob = false ∧ gE mid (v j) = 0) : SI v fr mid (j + 1) (L + lz) (Mo + mz) (co + dz) oc := by
  obtain ⟨a1, a2, a3, ⟨a4, a5⟩, a6⟩ := h
  have e : ∀ g : Int32 → Int, rs g v fr (j + 1 - fr) = rs g v fr (j - fr) + g (v j) := fun g => by
    rw [show j + 1 - fr = j - fr + 1 by omega, rs_back, show fr + (j - fr) = j by omega]
  have hb := hv j
  have hp := ab_pos mid.toInt (v j)
  have hu : ab mid.toInt (v j) ≤ 2000 := by unfold bd at hb hm; unfold ab; split <;> omega
  have ec : (co + dz).toInt = co.toInt + dz.toInt := ti_add (by omega) (by omega)
  unfold SI
  rw [e, e, e, e, ec, Int.natCast_add, Int.natCast_add]
  refine ⟨by omega, by omega, by omega, by omega, fun z => ?_⟩
  obtain ⟨z1, z2⟩ := h4 z
  rw [a6 z1, z2]
  rfl
theorem dz_lt {v : Nat → Int32} {mid : Int32} {j : Nat} (hv : VB v) (hm : bd mid) (c : ¬ mid ≤ v j) : (mid - v j).toInt = ab mid.toInt (v j) := by
  have hb := hv j
  rw [i_le] at c
  unfold bd at hb hm
  rw [ti_sub (by omega) (by omega)]
  unfold ab
  rw [if_pos (by omega)]
theorem dz_ge {v : Nat → Int32} {mid : Int32} {j : Nat} (hv : VB v) (hm : bd mid) (c : mid ≤ v j) : (v j - mid).toInt = ab mid.toInt (v j) := by
  have hb := hv j
  rw [i_le] at c
  unfold bd at hb hm
  rw [ti_sub (by omega) (by omega)]
  unfold ab
  split <;> omega
set_option maxHeartbeats 4000000 in
set_option maxRecDepth 100000 in
theorem cl_isGreedy (l : Launch) (hl0 : l.stackTraces = false) (D : va_G) (cI cZ : ClassId) (q : Nat → Nat) {v : Nat → Int32} {n : Nat} {pn : Int32} {al : AlS} {cs : CsS} {ph : PhS} {tm : Nat → Bool} {bx bg : CuS} {gq : Nat} {g : Nat → Int32} {wb : va_W} (hW : PW cI cZ q v n pn al cs ph tm bx bg wb) (hG : GK g n pn tm) : Cz l yL_isGreedy (aw yL_isGreedy cL_isGreedy 7 (some .boolean)) ({ frames := 11, cells := 0, slots := 0, locals := 220 }) D cI cZ [.ref (q 0), .ref gq] (([gC cI gq g] ++ wb)) (fun rr ww => rr = 1 ∧ ∃ bg' wb', ww = [gC cI gq g] ++ wb' ∧ PW cI cZ q v n pn al cs ph tm bx bg' wb') 0 0 := by
  refine mk_z (y := yL_isGreedy) (av := [.ref (q 0), .ref gq]) (cc := cL_isGreedy) (maxL := 7) (ret := (some .boolean)) (plainFor_of_name (by decide)) (Nat.le_of_ble_eq_true rfl) ?_
  intro p e s m args below meth c A Q R hR hQ hx hb hr hml hAW hown hlk hN hT hNc hA hP hK hD hS ls hl
  have hl : lv_has ls 7 [(0, .ref (q 0)), (1, .ref gq)] := hl
  have hn := hW.pv.1
  have hpv := hW.pv
  refine lv_iconst (v := 0) hx hb dL_isGreedy_0 (by decide) ?_
  refine lv_istore_n (lv' := [(2, .int 0), (0, .ref (q 0)), (1, .ref gq)]) hx hb dL_isGreedy_1 rfl hl (by decide) rfl (fun ls hl => ?_)
  refine lv_iconst (v := 1) hx hb dL_isGreedy_2 (by decide) ?_
  refine lv_istore_n (lv' := [(3, .int 1), (2, .int 0), (0, .ref (q 0)), (1, .ref gq)]) hx hb dL_isGreedy_3 rfl hl (by decide) rfl (fun ls hl => ?_)
  refine lv_iconst (v := 0) hx hb dL_isGreedy_4 (by decide) ?_
  refine lv_istore (lv' := [(4, .int 0), (3, .int 1), (2, .int 0), (0, .ref (q 0)), (1, .ref gq)]) hx hb dL_isGreedy_5 hl (by decide) rfl (fun ls hl => ?_)
  refine lv_iload hx hb dL_isGreedy_7 (lv_at hl 0 rfl) ?_
  refine lv_aload_n hx hb dL_isGreedy_9 rfl (lv_at hl 3 rfl) ?_
  obtain ⟨wb1, bz, hW1, hM1, hs1, hk1, hB1⟩ := sp_greedyChanges l D cI cZ q hW
  refine call_Pi (wa := [(gq, .inl (cI, 3, .inl g))]) (w0 := wb) (w1 := wb1) (As := []) (rest := [.int 0]) hx hb hml hown hAW hN hM1 q711 q712 q713 q22 q714 hd_X9_greedyChanges (by rw [hR]; exact Nat.le_of_ble_eq_true rfl) (by rw [hR]; exact Nat.le_of_ble_eq_true rfl) hK hP hD hS hA hW.hd (hW1.ads.trans hW.ads.symm) rfl hl.1 rfl (lv_room (Nat.le_of_ble_eq_true rfl)) dL_isGreedy_10 (by rw [hR]; show 0 ≤ 0; omega) (by rw [hR]; show 0 ≤ 0; omega) (fun H locs hP hD hS => ?_)
  obtain ⟨k, P, hk, hk1, hP0, hst2, hn1⟩ := GF_ex hn hB1
  refine lv_topi (fun y9 ey9 => ?_)
  have ey9 : (nI k) = y9 := (ey9.trans hk).symm
  subst ey9
  have J13 : ∀ (mz : Nat) (i : Nat) (wL13 : va_W), (i ≤ k + 1) → k + 1 - i < mz → PW cI cZ q v n pn al cs ph tm bx bz wL13 → ∀ (H : Heap) (locs : List Loc), va_P D vwCl ([(gq, .inl (cI, 3, .inl g))] ++ wL13) H → va_D A ([(gq, .inl (cI, 3, .inl g))] ++ wL13) → va_S A s.heap H locs → ∀ (ls : Array Slot), lv_has ls 7 [(0, .ref (q 0)), (1, .ref gq), (2, .int (nI (P i))), (3, .int 1), (4, .int (nI i))] → W p l e R s m args below meth c H locs (0) (0) Q (F0 m 13 ls [.int (nI k), .int (nI i)]) := by
    intro mz
    induction mz with
    | zero => intro i wL13 hi hmu; exact absurd (by assumption) (Nat.not_lt_zero _)
    | succ mz ih13 =>
      intro i wL13 hi hmu hWL13 H locs hP hD hS ls hl
      refine n_icmp_gt (x := i) (y := k) (tgt := 116) hx hb (by omega) (by omega) dL_isGreedy_13 (by decide) (fun c13 => ?_) (fun c13 => ?_)
      · skip
        refine lv_iload_n hx hb dL_isGreedy_116 rfl (lv_at hl 3 rfl) ?_
        exact fin_z (v := 1) hx hb hr hlk hP hS rfl (⟨rfl, _, _, rfl, hWL13⟩) (ad_app rfl (hWL13.ads.trans hW.ads.symm)) hQ dL_isGreedy_117
      · skip
        refine lv_iload_n hx hb dL_isGreedy_16 rfl (lv_at hl 3 rfl) ?_
        refine n_if_eq (x := 1) (tgt := 116) hx hb (by omega) dL_isGreedy_17 (by decide) (fun c17 => absurd c17 (by decide)) (fun c17 => ?_)
        refine lv_aload_n hx hb dL_isGreedy_20 rfl (lv_at hl 1 rfl) ?_
        refine lv_iconst (v := 0) hx hb dL_isGreedy_21 (by decide) ?_
        refine n_iald (D := D) (f := g) (i := 0) hx hb hK hP 0 0 rfl rfl (by decide) (by decide) dL_isGreedy_22 ?_
        refine lv_topi (fun y9 ey9 => ?_)
        have ey9 : (nI n) = y9 := (ey9.trans hG.1).symm
        subst ey9
        refine n_if_le (x := n) (tgt := 116) hx hb (by omega) dL_isGreedy_23 (by decide) (fun c23 => ?_) (fun c23 => ?_)
        · skip
          refine lv_iload_n hx hb dL_isGreedy_116 rfl (lv_at hl 3 rfl) ?_
          exact fin_z (v := 1) hx hb hr hlk hP hS rfl (⟨rfl, _, _, rfl, hWL13⟩) (ad_app rfl (hWL13.ads.trans hW.ads.symm)) hQ dL_isGreedy_117
        · skip
          obtain ⟨hC, hgn⟩ := hn1 (by omega)
          have hl1 := hC.2.2 i (by omega)
          have hl2 := Chn_le hC (show i + 1 ≤ k + 1 by omega)
          refine lv_iload hx hb dL_isGreedy_26 (lv_at hl 4 rfl) ?_
          refine lv_aload_n hx hb dL_isGreedy_28 rfl (lv_at hl 0 rfl) ?_
          obtain ⟨wb2, bg2, hW2, hM2, hs2, hk2, hB2⟩ := sp_greedyChanges l D cI cZ q hWL13
          obtain rfl : bz = bg2 := (hk2 hs1).symm
          refine call_Pi (wa := [(gq, .inl (cI, 3, .inl g))]) (w0 := wL13) (w1 := wb2) (As := []) (rest := [.int (nI i)]) hx hb hml hown hAW hN hM2 q711 q712 q713 q22 q714 hd_X9_greedyChanges (by rw [hR]; exact Nat.le_of_ble_eq_true rfl) (by rw [hR]; exact Nat.le_of_ble_eq_true rfl) hK hP hD hS hA hWL13.hd (hW2.ads.trans hWL13.ads.symm) rfl hl.1 rfl (lv_room (Nat.le_of_ble_eq_true rfl)) dL_isGreedy_29 (by rw [hR]; show 0 ≤ 0; omega) (by rw [hR]; show 0 ≤ 0; omega) (fun H locs hP hD hS => ?_)
          refine lv_topi (fun y9 ey9 => ?_)
          have ey9 : (nI k) = y9 := (ey9.trans hk).symm
          subst ey9
          have J47 : ∀ (wL47 : va_W), PW cI cZ q v n pn al cs ph tm bx bz wL47 → ∀ (H : Heap) (locs : List Loc), va_P D vwCl ([(gq, .inl (cI, 3, .inl g))] ++ wL47) H → va_D A ([(gq, .inl (cI, 3, .inl g))] ++ wL47) → va_S A s.heap H locs → ∀ (ls : Array Slot), lv_has ls 7 [(0, .ref (q 0)), (1, .ref gq), (2, .int (nI (P i))), (3, .int 1), (4, .int (nI i))] → W p l e R s m args below meth c H locs (0) (0) Q (F0 m 47 ls [.int (nI (P (i + 1)))]) := by
            intro wL47 hWL47 H locs hP hD hS ls hl
            refine lv_istore (lv' := [(5, .int (nI (P (i + 1)))), (0, .ref (q 0)), (1, .ref gq), (2, .int (nI (P i))), (3, .int 1), (4, .int (nI i))]) hx hb dL_isGreedy_47 hl (by decide) rfl (fun ls hl => ?_)
            refine lv_iload_n hx hb dL_isGreedy_49 rfl (lv_at hl 3 rfl) ?_
            refine lv_iconst (v := 1) hx hb dL_isGreedy_50 (by decide) ?_
            refine n_iadd (x := (P i)) (y := 1) hx hb dL_isGreedy_51 ?_
            refine lv_istore (lv' := [(6, .int (nI ((P i) + 1))), (5, .int (nI (P (i + 1)))), (0, .ref (q 0)), (1, .ref gq), (2, .int (nI (P i))), (3, .int 1), (4, .int (nI i))]) hx hb dL_isGreedy_52 hl (by decide) rfl (fun ls hl => ?_)
            have J54 : ∀ (mz : Nat) (j : Nat) (wL54 : va_W), (P i < j) → (j ≤ P (i + 1)) → P (i + 1) - j < mz → PW cI cZ q v n pn al cs ph tm bx bz wL54 → ∀ (H : Heap) (locs : List Loc), va_P D vwCl ([(gq, .inl (cI, 3, .inl g))] ++ wL54) H → va_D A ([(gq, .inl (cI, 3, .inl g))] ++ wL54) → va_S A s.heap H locs → ∀ (ls : Array Slot), lv_has ls 7 [(0, .ref (q 0)), (1, .ref gq), (2, .int (nI (P i))), (3, .int 1), (4, .int (nI i)), (5, .int (nI (P (i + 1)))), (6, .int (nI j))] → W p l e R s m args below meth c H locs (0) (0) Q (F0 m 54 ls []) := by
              intro mz
              induction mz with
              | zero => intro j wL54 hj1 hj2 hmu; exact absurd (by assumption) (Nat.not_lt_zero _)
              | succ mz ih54 =>
                intro j wL54 hj1 hj2 hmu hWL54 H locs hP hD hS ls hl
                refine lv_iload hx hb dL_isGreedy_54 (lv_at hl 6 rfl) ?_
                refine lv_iload hx hb dL_isGreedy_56 (lv_at hl 5 rfl) ?_
                refine n_icmp_ge (x := j) (y := (P (i + 1))) (tgt := 107) hx hb (by omega) (by omega) dL_isGreedy_58 (by decide) (fun c58 => ?_) (fun c58 => ?_)
                · skip
                  refine lv_iload hx hb dL_isGreedy_107 (lv_at hl 5 rfl) ?_
                  refine lv_istore_n (lv' := [(2, .int (nI (P (i + 1)))), (0, .ref (q 0)), (1, .ref gq), (3, .int 1), (4, .int (nI i)), (5, .int (nI (P (i + 1)))), (6, .int (nI j))]) hx hb dL_isGreedy_109 rfl hl (by decide) rfl (fun ls hl => ?_)
                  refine lv_iinc (v := (nI (i + 1))) (lv' := [(4, .int (nI (i + 1))), (2, .int (nI (P (i + 1)))), (0, .ref (q 0)), (1, .ref gq), (3, .int 1), (5, .int (nI (P (i + 1)))), (6, .int (nI j))]) hx hb dL_isGreedy_110 hl (k := 4) rfl (nI_inc i 1) (by decide) rfl (fun ls hl => ?_)
                  refine lv_goto (tgt := 7) hx hb dL_isGreedy_113 (by decide) ?_
                  refine lv_iload hx hb dL_isGreedy_7 (lv_at hl 0 rfl) ?_
                  refine lv_aload_n hx hb dL_isGreedy_9 rfl (lv_at hl 2 rfl) ?_
                  obtain ⟨wb3, bg3, hW3, hM3, hs3, hk3, hB3⟩ := sp_greedyChanges l D cI cZ q hWL54
                  obtain rfl : bz = bg3 := (hk3 hs1).symm
                  refine call_Pi (wa := [(gq, .inl (cI, 3, .inl g))]) (w0 := wL54) (w1 := wb3) (As := []) (rest := [.int (nI (i + 1))]) hx hb hml hown hAW hN hM3 q711 q712 q713 q22 q714 hd_X9_greedyChanges (by rw [hR]; exact Nat.le_of_ble_eq_true rfl) (by rw [hR]; exact Nat.le_of_ble_eq_true rfl) hK hP hD hS hA hWL54.hd (hW3.ads.trans hWL54.ads.symm) rfl hl.1 rfl (lv_room (Nat.le_of_ble_eq_true rfl)) dL_isGreedy_10 (by rw [hR]; show 0 ≤ 0; omega) (by rw [hR]; show 0 ≤ 0; omega) (fun H locs hP hD hS => ?_)
                  refine lv_topi (fun y9 ey9 => ?_)
                  have ey9 : (nI k) = y9 := (ey9.trans hk).symm
                  subst ey9
                  exact ih13 (i + 1) wb3 (by first | assumption | omega | rfl) (by omega) hW3 _ _ hP hD hS ls (lv_sub hl [2, 3, 1, 4, 0] rfl)
                · skip
                  refine lv_iload_n hx hb dL_isGreedy_61 rfl (lv_at hl 3 rfl) ?_
                  refine n_if_eq (x := 1) (tgt := 107) hx hb (by omega) dL_isGreedy_62 (by decide) (fun c62 => absurd c62 (by decide)) (fun c62 => ?_)
                  refine lv_aload_n hx hb dL_isGreedy_65 rfl (lv_at hl 0 rfl) ?_
                  refine lv_iload_n hx hb dL_isGreedy_66 rfl (lv_at hl 2 rfl) ?_
                  refine lv_iload hx hb dL_isGreedy_67 (lv_at hl 5 rfl) ?_
                  obtain ⟨wb4, hW4, hM4⟩ := sp_cost l D cI cZ q hWL54 (f := (P i)) (t := (P (i + 1))) hl1 hl2
                  refine call_Pi (wa := [(gq, .inl (cI, 3, .inl g))]) (w0 := wL54) (w1 := wb4) (As := [.int (nI (P i)), .int (nI (P (i + 1)))]) (rest := []) hx hb hml hown hAW hN hM4 q508 q509 q510 q22 q511 hd_X9_cost (by rw [hR]; exact Nat.le_of_ble_eq_true rfl) (by rw [hR]; exact Nat.le_of_ble_eq_true rfl) hK hP hD hS hA hWL54.hd (hW4.ads.trans hWL54.ads.symm) rfl hl.1 rfl (lv_room (Nat.le_of_ble_eq_true rfl)) dL_isGreedy_69 (by rw [hR]; show 0 ≤ 0; omega) (by rw [hR]; show 0 ≤ 0; omega) (fun H locs hP hD hS => ?_)
                  refine lv_aload_n hx hb dL_isGreedy_72 rfl (lv_at hl 0 rfl) ?_
                  refine lv_iload_n hx hb dL_isGreedy_73 rfl (lv_at hl 2 rfl) ?_
                  refine lv_iload hx hb dL_isGreedy_74 (lv_at hl 6 rfl) ?_
                  obtain ⟨wb5, hW5, hM5⟩ := sp_cost l D cI cZ q hW4 (f := (P i)) (t := j) hj1 (by omega)
                  refine call_Pi (wa := [(gq, .inl (cI, 3, .inl g))]) (w0 := wb4) (w1 := wb5) (As := [.int (nI (P i)), .int (nI j)]) (rest := [.int (cF v (P i) (P (i + 1)))]) hx hb hml hown hAW hN hM5 q508 q509 q510 q22 q511 hd_X9_cost (by rw [hR]; exact Nat.le_of_ble_eq_true rfl) (by rw [hR]; exact Nat.le_of_ble_eq_true rfl) hK hP hD hS hA hW4.hd (hW5.ads.trans hW4.ads.symm) rfl hl.1 rfl (lv_room (Nat.le_of_ble_eq_true rfl)) dL_isGreedy_76 (by rw [hR]; show 0 ≤ 0; omega) (by rw [hR]; show 0 ≤ 0; omega) (fun H locs hP hD hS => ?_)
                  refine lv_isub hx hb dL_isGreedy_79 ?_
                  refine lv_aload_n hx hb dL_isGreedy_80 rfl (lv_at hl 0 rfl) ?_
                  refine lv_iload hx hb dL_isGreedy_81 (lv_at hl 6 rfl) ?_
                  refine lv_iload hx hb dL_isGreedy_83 (lv_at hl 5 rfl) ?_
                  obtain ⟨wb6, hW6, hM6⟩ := sp_cost l D cI cZ q hW5 (f := j) (t := (P (i + 1))) (by omega) hl2
                  refine call_Pi (wa := [(gq, .inl (cI, 3, .inl g))]) (w0 := wb5) (w1 := wb6) (As := [.int (nI j), .int (nI (P (i + 1)))]) (rest := [.int ((cF v (P i) (P (i + 1))) - (cF v (P i) j))]) hx hb hml hown hAW hN hM6 q508 q509 q510 q22 q511 hd_X9_cost (by rw [hR]; exact Nat.le_of_ble_eq_true rfl) (by rw [hR]; exact Nat.le_of_ble_eq_true rfl) hK hP hD hS hA hW5.hd (hW6.ads.trans hW5.ads.symm) rfl hl.1 rfl (lv_room (Nat.le_of_ble_eq_true rfl)) dL_isGreedy_85 (by rw [hR]; show 0 ≤ 0; omega) (by rw [hR]; show 0 ≤ 0; omega) (fun H locs hP hD hS => ?_)
                  refine lv_isub hx hb dL_isGreedy_88 ?_
                  refine lv_aload_n hx hb dL_isGreedy_89 rfl (lv_at hl 1 rfl) ?_
                  refine lv_iconst (v := 1) hx hb dL_isGreedy_90 (by decide) ?_
                  refine n_iald (D := D) (f := g) (i := 1) hx hb hK hP 0 0 rfl rfl (by decide) (by decide) dL_isGreedy_91 ?_
                  refine lv_topi (fun y9 ey9 => ?_)
                  have ey9 : pn = y9 := (ey9.trans hG.2.1).symm
                  subst ey9
                  refine lv_icmp_gt (tgt := 99) hx hb dL_isGreedy_92 (by decide) (fun c92 => absurd c92 (Int32.not_lt.mpr (hgn i (by omega) j hj1 (by omega)))) (fun c92 => ?_)
                  refine lv_iconst (v := 1) hx hb dL_isGreedy_95 (by decide) ?_
                  refine lv_goto (tgt := 100) hx hb dL_isGreedy_96 (by decide) ?_
                  refine lv_istore_n (lv' := [(3, .int 1), (0, .ref (q 0)), (1, .ref gq), (2, .int (nI (P i))), (4, .int (nI i)), (5, .int (nI (P (i + 1)))), (6, .int (nI j))]) hx hb dL_isGreedy_100 rfl hl (by decide) rfl (fun ls hl => ?_)
                  refine lv_iinc (v := (nI (j + 1))) (lv' := [(6, .int (nI (j + 1))), (3, .int 1), (0, .ref (q 0)), (1, .ref gq), (2, .int (nI (P i))), (4, .int (nI i)), (5, .int (nI (P (i + 1))))]) hx hb dL_isGreedy_101 hl (k := 6) rfl (nI_inc j 1) (by decide) rfl (fun ls hl => ?_)
                  refine lv_goto (tgt := 54) hx hb dL_isGreedy_104 (by decide) ?_
                  exact ih54 (j + 1) wb6 (by first | assumption | omega | rfl) (by first | assumption | omega | rfl) (by omega) hW6 _ _ hP hD hS ls (lv_sub hl [2, 3, 4, 1, 5, 6, 0] rfl)
            exact J54 (P (i + 1) - (P i + 1) + 1) (P i + 1) wL47 (by first | assumption | omega | rfl) (by first | assumption | omega | rfl) (Nat.lt_succ_self _) hWL47 _ _ hP hD hS ls (lv_sub hl [2, 3, 4, 5, 6, 1, 0] rfl)
          refine n_icmp_ge (x := i) (y := k) (tgt := 44) hx hb (by omega) (by omega) dL_isGreedy_32 (by decide) (fun c32 => ?_) (fun c32 => ?_)
          · skip
            refine lv_aload_n hx hb dL_isGreedy_44 rfl (lv_at hl 1 rfl) ?_
            refine lv_iconst (v := 0) hx hb dL_isGreedy_45 (by decide) ?_
            refine n_iald (D := D) (f := g) (i := 0) hx hb hK hP 0 0 rfl rfl (by decide) (by decide) dL_isGreedy_46 ?_
            refine lv_topi (fun y9 ey9 => ?_)
            have ey9 : (nI n) = y9 := (ey9.trans hG.1).symm
            subst ey9
            have e9 : P (i + 1) = n := by rw [show i + 1 = k + 1 by omega]; exact hC.2.1
            rw [← e9]
            exact J47  wb2  hW2 _ _ hP hD hS ls hl
          · skip
            refine lv_aload_n hx hb dL_isGreedy_35 rfl (lv_at hl 0 rfl) ?_
            refine lv_iload hx hb dL_isGreedy_36 (lv_at hl 4 rfl) ?_
            obtain ⟨wb7, hW7, hM7⟩ := sp_greedyChange l D cI cZ q hW2 hs1 (x := (nI i)) ⟨nI_pos' (by omega), by rw [hk]; exact (nI_ltI (by omega) (by omega)).mpr (by omega)⟩
            refine call_Pi (wa := [(gq, .inl (cI, 3, .inl g))]) (w0 := wb2) (w1 := wb7) (As := [.int (nI i)]) (rest := []) hx hb hml hown hAW hN hM7 q586 q587 q588 q22 q589 hd_X9_greedyChange (by rw [hR]; exact Nat.le_of_ble_eq_true rfl) (by rw [hR]; exact Nat.le_of_ble_eq_true rfl) hK hP hD hS hA hW2.hd (hW7.ads.trans hW2.ads.symm) rfl hl.1 rfl (lv_room (Nat.le_of_ble_eq_true rfl)) dL_isGreedy_38 (by rw [hR]; show 0 ≤ 0; omega) (by rw [hR]; show 0 ≤ 0; omega) (fun H locs hP hD hS => ?_)
            refine lv_topi (fun y9 ey9 => ?_)
            have ey9 : (nI (P (i + 1))) = y9 := (ey9.trans (hst2 i (by omega))).symm
            subst ey9
            refine lv_goto (tgt := 47) hx hb dL_isGreedy_41 (by decide) ?_
            exact J47  wb7  hW7 _ _ hP hD hS ls hl
  have hl : lv_has ls 7 [(4, .int (nI 0)), (3, .int 1), (2, .int (nI (P 0))), (0, .ref (q 0)), (1, .ref gq)] := by rw [hP0]; exact hl
  exact J13 (k + 1 - 0 + 1) 0 wb1 (by omega) (Nat.lt_succ_self _) hW1 _ _ hP hD hS ls (lv_sub hl [3, 4, 2, 1, 0] rfl)

set_option maxHeartbeats 4000000 in
set_option maxRecDepth 100000 in
theorem cl_isSegment (l : Launch) (hl0 : l.stackTraces = false) (D : va_G) (cI cZ : ClassId) (q : Nat → Nat) {v : Nat → Int32} {n : Nat} {pn : Int32} {al : AlS} {cs : CsS} {ph : PhS} {tm : Nat → Bool} {bx bg : CuS} {gq : Nat} {g : Nat → Int32} {wb : va_W} {a b : Nat} (hW : PW cI cZ q v n pn al cs ph tm bx bg wb) (hG : GK g n pn tm) (ha : a < 10000) (hb9 : b < 10000) : Cz l yL_isSegment (aw yL_isSegment cL_isSegment 13 (some .boolean)) ({ frames := 11, cells := 3, slots := 18, locals := 220 }) D cI cZ [.ref (q 0), .ref gq, .int (nI a), .int (nI b)] (([gC cI gq g] ++ wb)) (fun rr ww => rr = 1 ∧ ∃ wb', ww = [gC cI gq g] ++ wb' ∧ PW cI cZ q v n pn al cs ph tm bx bg wb') 3 18 := by
  refine mk_z (y := yL_isSegment) (av := [.ref (q 0), .ref gq, .int (nI a), .int (nI b)]) (cc := cL_isSegment) (maxL := 13) (ret := (some .boolean)) (plainFor_of_name (by decide)) (Nat.le_of_ble_eq_true rfl) ?_
  intro p e s m args below meth c A Q R hR hQ hx hb hr hml hAW hown hlk hN hT hNc hA hP hK hD hS ls hl
  have hl : lv_has ls 13 [(0, .ref (q 0)), (1, .ref gq), (2, .int (nI a)), (3, .int (nI b))] := hl
  have hn := hW.pv.1
  have hpv := hW.pv
  refine lv_aload_n hx hb dL_isSegment_0 rfl (lv_at hl 1 rfl) ?_
  refine lv_iconst (v := 0) hx hb dL_isSegment_1 (by decide) ?_
  refine n_iald (D := D) (f := g) (i := 0) hx hb hK hP 0 0 rfl rfl (by decide) (by decide) dL_isSegment_2 ?_
  refine lv_topi (fun y9 ey9 => ?_)
  have ey9 : (nI n) = y9 := (ey9.trans hG.1).symm
  subst ey9
  refine n_if_ne (x := n) (tgt := 38) hx hb (by omega) dL_isSegment_3 (by decide) (fun c3 => ?_) (fun c3 => ?_)
  · skip
    have h0 : 0 < n := by omega
    refine lv_iload_n hx hb dL_isSegment_38 rfl (lv_at hl 2 rfl) ?_
    refine lv_aload_n hx hb dL_isSegment_39 rfl (lv_at hl 1 rfl) ?_
    refine lv_iconst (v := 0) hx hb dL_isSegment_40 (by decide) ?_
    refine n_iald (D := D) (f := g) (i := 0) hx hb hK hP 0 0 rfl rfl (by decide) (by decide) dL_isSegment_41 ?_
    refine lv_topi (fun y9 ey9 => ?_)
    have ey9 : (nI n) = y9 := (ey9.trans hG.1).symm
    subst ey9
    refine n_irem (x := a) (y := n) hx hb (by omega) h0 (by omega) dL_isSegment_42 ?_
    obtain ⟨fr, efr⟩ : ∃ z, z = a % n := ⟨_, rfl⟩
    rw [← efr]
    have hfr : fr < n := by rw [efr]; exact Nat.mod_lt _ h0
    refine lv_istore (lv' := [(4, .int (nI fr)), (0, .ref (q 0)), (1, .ref gq), (2, .int (nI a)), (3, .int (nI b))]) hx hb dL_isSegment_43 hl (by decide) rfl (fun ls hl => ?_)
    refine lv_iload hx hb dL_isSegment_45 (lv_at hl 0 rfl) ?_
    refine lv_iconst (v := 1) hx hb dL_isSegment_47 (by decide) ?_
    refine n_iadd (x := fr) (y := 1) hx hb dL_isSegment_48 ?_
    refine lv_iload_n hx hb dL_isSegment_49 rfl (lv_at hl 4 rfl) ?_
    refine lv_aload_n hx hb dL_isSegment_50 rfl (lv_at hl 2 rfl) ?_
    refine lv_iconst (v := 0) hx hb dL_isSegment_51 (by decide) ?_
    refine n_iald (D := D) (f := g) (i := 0) hx hb hK hP 0 0 rfl rfl (by decide) (by decide) dL_isSegment_52 ?_
    refine lv_topi (fun y9 ey9 => ?_)
    have ey9 : (nI n) = y9 := (ey9.trans hG.1).symm
    subst ey9
    refine lv_iload hx hb dL_isSegment_53 (lv_at hl 0 rfl) ?_
    refine n_isub (x := n) (y := fr) hx hb (by omega) dL_isSegment_55 ?_
    refine n_irem (x := b) (y := (n - fr)) hx hb (by omega) (by omega) (by omega) dL_isSegment_56 ?_
    obtain ⟨rr, err⟩ : ∃ z, z = b % (n - fr) := ⟨_, rfl⟩
    rw [← err]
    have hrr : rr < n - fr := by rw [err]; exact Nat.mod_lt _ (by omega)
    refine n_iadd (x := (fr + 1)) (y := rr) hx hb dL_isSegment_57 ?_
    refine lv_istore (lv' := [(5, .int (nI ((fr + 1) + rr))), (4, .int (nI fr)), (0, .ref (q 0)), (1, .ref gq), (2, .int (nI a)), (3, .int (nI b))]) hx hb dL_isSegment_58 hl (by decide) rfl (fun ls hl => ?_)
    refine lv_aload_n hx hb dL_isSegment_60 rfl (lv_at hl 2 rfl) ?_
    refine lv_iload hx hb dL_isSegment_61 (lv_at hl 1 rfl) ?_
    refine lv_iload hx hb dL_isSegment_63 (lv_at hl 0 rfl) ?_
    obtain ⟨wb1, mid, hW1, hM1, hmid⟩ := sp_middle l D cI cZ q hW (f := fr) (t := ((fr + 1) + rr)) (by omega) (by omega)
    refine call_Pi (wa := [(gq, .inl (cI, 3, .inl g))]) (w0 := wb) (w1 := wb1) (As := [.int (nI fr), .int (nI ((fr + 1) + rr))]) (rest := []) hx hb hml hown hAW hN hM1 q540 q541 q542 q22 q543 hd_X9_middle (by rw [hR]; exact Nat.le_of_ble_eq_true rfl) (by rw [hR]; exact Nat.le_of_ble_eq_true rfl) hK hP hD hS hA hW.hd (hW1.ads.trans hW.ads.symm) rfl hl.1 rfl (lv_room (Nat.le_of_ble_eq_true rfl)) dL_isSegment_65 (by rw [hR]; show 0 ≤ 3; omega) (by rw [hR]; show 0 ≤ 18; omega) (fun H locs hP hD hS => ?_)
    obtain ⟨m1, m2, m3, m4, m5⟩ := hmid
    refine lv_istore (lv' := [(6, .int mid), (5, .int (nI ((fr + 1) + rr))), (4, .int (nI fr)), (0, .ref (q 0)), (1, .ref gq), (2, .int (nI a)), (3, .int (nI b))]) hx hb dL_isSegment_68 hl (by decide) rfl (fun ls hl => ?_)
    refine lv_iconst (v := 0) hx hb dL_isSegment_70 (by decide) ?_
    refine lv_istore (lv' := [(7, .int 0), (6, .int mid), (5, .int (nI ((fr + 1) + rr))), (4, .int (nI fr)), (0, .ref (q 0)), (1, .ref gq), (2, .int (nI a)), (3, .int (nI b))]) hx hb dL_isSegment_71 hl (by decide) rfl (fun ls hl => ?_)
    refine lv_iconst (v := 0) hx hb dL_isSegment_73 (by decide) ?_
    refine lv_istore (lv' := [(8, .int 0), (7, .int 0), (6, .int mid), (5, .int (nI ((fr + 1) + rr))), (4, .int (nI fr)), (0, .ref (q 0)), (1, .ref gq), (2, .int (nI a)), (3, .int (nI b))]) hx hb dL_isSegment_74 hl (by decide) rfl (fun ls hl => ?_)
    refine lv_iconst (v := 0) hx hb dL_isSegment_76 (by decide) ?_
    refine lv_istore (lv' := [(9, .int 0), (8, .int 0), (7, .int 0), (6, .int mid), (5, .int (nI ((fr + 1) + rr))), (4, .int (nI fr)), (0, .ref (q 0)), (1, .ref gq), (2, .int (nI a)), (3, .int (nI b))]) hx hb dL_isSegment_77 hl (by decide) rfl (fun ls hl => ?_)
    refine lv_iconst (v := 0) hx hb dL_isSegment_79 (by decide) ?_
    refine lv_istore (lv' := [(10, .int 0), (9, .int 0), (8, .int 0), (7, .int 0), (6, .int mid), (5, .int (nI ((fr + 1) + rr))), (4, .int (nI fr)), (0, .ref (q 0)), (1, .ref gq), (2, .int (nI a)), (3, .int (nI b))]) hx hb dL_isSegment_80 hl (by decide) rfl (fun ls hl => ?_)
    refine lv_iload hx hb dL_isSegment_82 (lv_at hl 6 rfl) ?_
    refine lv_istore (lv' := [(11, .int (nI fr)), (10, .int 0), (9, .int 0), (8, .int 0), (7, .int 0), (6, .int mid), (5, .int (nI ((fr + 1) + rr))), (4, .int (nI fr)), (0, .ref (q 0)), (1, .ref gq), (2, .int (nI a)), (3, .int (nI b))]) hx hb dL_isSegment_84 hl (by decide) rfl (fun ls hl => ?_)
    have J86 : ∀ (mz : Nat) (j L Mo : Nat) (co : Int32) (ob : Bool) (wL86 : va_W), (fr ≤ j) → (j ≤ fr + 1 + rr) → (SI v fr mid j L Mo co ob) → (L ≤ j - fr ∧ Mo ≤ j - fr) → (fr + 1) + rr - j < mz → PW cI cZ q v n pn al cs ph tm bx bg wL86 → ∀ (H : Heap) (locs : List Loc), va_P D vwCl ([(gq, .inl (cI, 3, .inl g))] ++ wL86) H → va_D A ([(gq, .inl (cI, 3, .inl g))] ++ wL86) → va_S A s.heap H locs → ∀ (ls : Array Slot), lv_has ls 13 [(0, .ref (q 0)), (1, .ref gq), (4, .int (nI fr)), (5, .int (nI ((fr + 1) + rr))), (6, .int mid), (7, .int (nI L)), (8, .int (nI Mo)), (9, .int co), (10, .int (zb ob)), (11, .int (nI j))] → W p l e R s m args below meth c H locs (0) (0) Q (F0 m 86 ls []) := by
      intro mz
      induction mz with
      | zero => intro j L Mo co ob wL86 hj1 hj2 hSI hLM hmu; exact absurd (by assumption) (Nat.not_lt_zero _)
      | succ mz ih86 =>
        intro j L Mo co ob wL86 hj1 hj2 hSI hLM hmu hWL86 H locs hP hD hS ls hl
        refine lv_iload hx hb dL_isSegment_86 (lv_at hl 9 rfl) ?_
        refine lv_iload hx hb dL_isSegment_88 (lv_at hl 3 rfl) ?_
        refine n_icmp_ge (x := j) (y := ((fr + 1) + rr)) (tgt := 185) hx hb (by omega) (by omega) dL_isSegment_90 (by decide) (fun c90 => ?_) (fun c90 => ?_)
        · skip
          obtain rfl : j = fr + 1 + rr := by omega
          refine lv_iload hx hb dL_isSegment_185 (lv_at hl 3 rfl) ?_
          refine lv_iload hx hb dL_isSegment_187 (lv_at hl 2 rfl) ?_
          obtain ⟨s1, s2, s3, s4, s5⟩ := hSI
          rw [show fr + 1 + rr - fr = fr + 1 + rr - fr from rfl] at s1
          refine n_isub (x := ((fr + 1) + rr)) (y := fr) hx hb (by omega) dL_isSegment_189 ?_
          refine lv_istore (lv' := [(11, .int (nI (((fr + 1) + rr) - fr))), (0, .ref (q 0)), (1, .ref gq), (4, .int (nI fr)), (5, .int (nI ((fr + 1) + rr))), (6, .int mid), (7, .int (nI L)), (8, .int (nI Mo)), (9, .int co), (10, .int (zb ob))]) hx hb dL_isSegment_190 hl (by decide) rfl (fun ls hl => ?_)
          refine lv_iload hx hb dL_isSegment_192 (lv_at hl 9 rfl) ?_
          have hob : ob = true := by cases ob with
      | true => rfl
      | false => exact absurd (s5 rfl) (by omega)
          refine z_if_eq (x := ob) (tgt := 281) hx hb dL_isSegment_194 (by decide) (fun c194 => absurd c194 (by rw [hob]; decide)) (fun c194 => ?_)
          refine lv_aload_n hx hb dL_isSegment_197 rfl (lv_at hl 1 rfl) ?_
          refine lv_iload hx hb dL_isSegment_198 (lv_at hl 3 rfl) ?_
          refine lv_iload hx hb dL_isSegment_200 (lv_at hl 4 rfl) ?_
          obtain ⟨wb2, hW2, hM2⟩ := sp_cost l D cI cZ q hWL86 (f := fr) (t := ((fr + 1) + rr)) (by omega) (by omega)
          refine call_Pi (wa := [(gq, .inl (cI, 3, .inl g))]) (w0 := wL86) (w1 := wb2) (As := [.int (nI fr), .int (nI ((fr + 1) + rr))]) (rest := []) hx hb hml hown hAW hN hM2 q508 q509 q510 q22 q511 hd_X9_cost (by rw [hR]; exact Nat.le_of_ble_eq_true rfl) (by rw [hR]; exact Nat.le_of_ble_eq_true rfl) hK hP hD hS hA hWL86.hd (hW2.ads.trans hWL86.ads.symm) rfl hl.1 rfl (lv_room (Nat.le_of_ble_eq_true rfl)) dL_isSegment_202 (by rw [hR]; show 0 ≤ 3; omega) (by rw [hR]; show 0 ≤ 18; omega) (fun H locs hP hD hS => ?_)
          refine lv_iload hx hb dL_isSegment_205 (lv_at hl 8 rfl) ?_
          refine lv_icmp_ne (tgt := 281) hx hb dL_isSegment_207 (by decide) (fun c207 => absurd c207 (fun z => z ((i_eq _ _).mpr (by rw [m4, s3])))) (fun c207 => ?_)
          refine lv_iload hx hb dL_isSegment_210 (lv_at hl 6 rfl) ?_
          refine lv_iload hx hb dL_isSegment_212 (lv_at hl 0 rfl) ?_
          refine lv_iconst (v := 1) hx hb dL_isSegment_214 (by decide) ?_
          refine n_isub (x := (((fr + 1) + rr) - fr)) (y := 1) hx hb (by omega) dL_isSegment_215 ?_
          refine lv_iconst (v := 2) hx hb dL_isSegment_216 (by decide) ?_
          refine n_idiv (x := ((((fr + 1) + rr) - fr) - 1)) (y := 2) hx hb (by omega) (by omega) (by omega) dL_isSegment_217 ?_
          refine n_icmp_gt (x := L) (y := (((((fr + 1) + rr) - fr) - 1) / 2)) (tgt := 281) hx hb (by omega) (by omega) dL_isSegment_218 (by decide) (fun c218 => absurd c218 (by omega)) (fun c218 => ?_)
          refine lv_iload hx hb dL_isSegment_221 (lv_at hl 7 rfl) ?_
          refine lv_iload hx hb dL_isSegment_223 (lv_at hl 0 rfl) ?_
          refine lv_iconst (v := 2) hx hb dL_isSegment_225 (by decide) ?_
          refine n_idiv (x := (((fr + 1) + rr) - fr)) (y := 2) hx hb (by omega) (by omega) (by omega) dL_isSegment_226 ?_
          refine n_icmp_gt (x := Mo) (y := ((((fr + 1) + rr) - fr) / 2)) (tgt := 281) hx hb (by omega) (by omega) dL_isSegment_227 (by decide) (fun c227 => absurd c227 (by omega)) (fun c227 => ?_)
          refine lv_aload_n hx hb dL_isSegment_230 rfl (lv_at hl 1 rfl) ?_
          refine lv_iconst (v := 4) hx hb dL_isSegment_231 (by decide) ?_
          refine lv_iload hx hb dL_isSegment_232 (lv_at hl 3 rfl) ?_
          refine lv_iload hx hb dL_isSegment_234 (lv_at hl 3 rfl) ?_
          refine call_Hi (wa := [(gq, .inl (cI, 3, .inl g))]) (w0 := wb2) (w1 := wb2) (As := [.ref (q 0), .int 4, .int (nI fr), .int (nI fr)]) (rest := []) hx hb hml hown hAW hN hT hNc (sh_asks4x l hl0 D cI cZ q hW2 (fun z => absurd z.2.1 (Int32.lt_irrefl))) q461 q462 q21 qw_asks hd_L_asks (by rw [hR]; exact Nat.le_of_ble_eq_true rfl) (by rw [hR]; exact Nat.le_of_ble_eq_true rfl) hK hP hD hS hA rfl rfl hl.1 rfl (lv_room (Nat.le_of_ble_eq_true rfl)) dL_isSegment_236 (by rw [hR]; show 1 ≤ 3; omega) (by rw [hR]; show 6 ≤ 18; omega) (fun H locs hP hD hS => ?_)
          refine lv_sipush (v := (-3000)) hx hb dL_isSegment_239 (by decide) ?_
          refine lv_icmp_ne (tgt := 281) hx hb dL_isSegment_242 (by decide) (fun c242 => absurd c242 (fun z => z rfl)) (fun c242 => ?_)
          refine lv_aload_n hx hb dL_isSegment_245 rfl (lv_at hl 1 rfl) ?_
          refine lv_iconst (v := 4) hx hb dL_isSegment_246 (by decide) ?_
          refine lv_iload hx hb dL_isSegment_247 (lv_at hl 3 rfl) ?_
          refine lv_aload_n hx hb dL_isSegment_249 rfl (lv_at hl 2 rfl) ?_
          refine lv_iconst (v := 0) hx hb dL_isSegment_250 (by decide) ?_
          refine n_iald (D := D) (f := g) (i := 0) hx hb hK hP 0 0 rfl rfl (by decide) (by decide) dL_isSegment_251 ?_
          refine lv_topi (fun y9 ey9 => ?_)
          have ey9 : (nI n) = y9 := (ey9.trans hG.1).symm
          subst ey9
          refine lv_iconst (v := 1) hx hb dL_isSegment_252 (by decide) ?_
          refine n_iadd (x := n) (y := 1) hx hb dL_isSegment_253 ?_
          refine call_Hi (wa := [(gq, .inl (cI, 3, .inl g))]) (w0 := wb2) (w1 := wb2) (As := [.ref (q 0), .int 4, .int (nI fr), .int (nI (n + 1))]) (rest := []) hx hb hml hown hAW hN hT hNc (sh_asks4x l hl0 D cI cZ q hW2 (fun z => nI_ge (Nat.lt_succ_self n) (by omega) z.2.2)) q461 q462 q21 qw_asks hd_L_asks (by rw [hR]; exact Nat.le_of_ble_eq_true rfl) (by rw [hR]; exact Nat.le_of_ble_eq_true rfl) hK hP hD hS hA rfl rfl hl.1 rfl (lv_room (Nat.le_of_ble_eq_true rfl)) dL_isSegment_254 (by rw [hR]; show 2 ≤ 3; omega) (by rw [hR]; show 12 ≤ 18; omega) (fun H locs hP hD hS => ?_)
          refine lv_sipush (v := (-3000)) hx hb dL_isSegment_257 (by decide) ?_
          refine lv_icmp_ne (tgt := 281) hx hb dL_isSegment_260 (by decide) (fun c260 => absurd c260 (fun z => z rfl)) (fun c260 => ?_)
          refine lv_aload_n hx hb dL_isSegment_263 rfl (lv_at hl 1 rfl) ?_
          refine lv_iconst (v := 5) hx hb dL_isSegment_264 (by decide) ?_
          refine lv_iconst (v := (-1)) hx hb dL_isSegment_265 (by decide) ?_
          refine lv_iload hx hb dL_isSegment_266 (lv_at hl 4 rfl) ?_
          refine call_Hi (wa := [(gq, .inl (cI, 3, .inl g))]) (w0 := wb2) (w1 := wb2) (As := [.ref (q 0), .int 5, .int (-1), .int (nI ((fr + 1) + rr))]) (rest := []) hx hb hml hown hAW hN hT hNc (sh_asks5x l hl0 D cI cZ q hW2 (fun z => absurd z.1 (by decide))) q461 q462 q21 qw_asks hd_L_asks (by rw [hR]; exact Nat.le_of_ble_eq_true rfl) (by rw [hR]; exact Nat.le_of_ble_eq_true rfl) hK hP hD hS hA rfl rfl hl.1 rfl (lv_room (Nat.le_of_ble_eq_true rfl)) dL_isSegment_268 (by rw [hR]; show 3 ≤ 3; omega) (by rw [hR]; show 18 ≤ 18; omega) (fun H locs hP hD hS => ?_)
          refine lv_sipush (v := (-3000)) hx hb dL_isSegment_271 (by decide) ?_
          refine lv_icmp_ne (tgt := 281) hx hb dL_isSegment_274 (by decide) (fun c274 => absurd c274 (fun z => z rfl)) (fun c274 => ?_)
          refine lv_iconst (v := 1) hx hb dL_isSegment_277 (by decide) ?_
          refine lv_goto (tgt := 282) hx hb dL_isSegment_278 (by decide) ?_
          exact fin_z (v := 1) hx hb hr hlk hP hS rfl (⟨rfl, _, rfl, hW2⟩) (ad_app rfl (hW2.ads.trans hW.ads.symm)) hQ dL_isSegment_282
        · skip
          refine lv_aload_n hx hb dL_isSegment_93 rfl (lv_at hl 0 rfl) ?_
          refine lv_iload hx hb dL_isSegment_94 (lv_at hl 9 rfl) ?_
          refine call_Pi (wa := [(gq, .inl (cI, 3, .inl g))]) (w0 := wL86) (w1 := wL86) (As := [.int (nI j)]) (rest := []) hx hb hml hown hAW hN (sp_value l D cI cZ q hWL86 (by omega)) q465 q466 q467 q22 q468 hd_X9_value (by rw [hR]; exact Nat.le_of_ble_eq_true rfl) (by rw [hR]; exact Nat.le_of_ble_eq_true rfl) hK hP hD hS hA hWL86.hd rfl rfl hl.1 rfl (lv_room (Nat.le_of_ble_eq_true rfl)) dL_isSegment_96 (by rw [hR]; show 0 ≤ 3; omega) (by rw [hR]; show 0 ≤ 18; omega) (fun H locs hP hD hS => ?_)
          refine lv_istore (lv' := [(12, .int (v j)), (0, .ref (q 0)), (1, .ref gq), (4, .int (nI fr)), (5, .int (nI ((fr + 1) + rr))), (6, .int mid), (7, .int (nI L)), (8, .int (nI Mo)), (9, .int co), (10, .int (zb ob)), (11, .int (nI j))]) hx hb dL_isSegment_99 hl (by decide) rfl (fun ls hl => ?_)
          refine lv_iload hx hb dL_isSegment_101 (lv_at hl 6 rfl) ?_
          refine lv_iload hx hb dL_isSegment_103 (lv_at hl 0 rfl) ?_
          refine lv_iload hx hb dL_isSegment_105 (lv_at hl 5 rfl) ?_
          have J115 : ∀ (lz : Nat) (wL115 : va_W), ((lz : Int) = gL mid (v j)) → (lz ≤ 1) → PW cI cZ q v n pn al cs ph tm bx bg wL115 → ∀ (H : Heap) (locs : List Loc), va_P D vwCl ([(gq, .inl (cI, 3, .inl g))] ++ wL115) H → va_D A ([(gq, .inl (cI, 3, .inl g))] ++ wL115) → va_S A s.heap H locs → ∀ (ls : Array Slot), lv_has ls 13 [(0, .ref (q 0)), (1, .ref gq), (4, .int (nI fr)), (5, .int (nI ((fr + 1) + rr))), (6, .int mid), (7, .int (nI L)), (8, .int (nI Mo)), (9, .int co), (10, .int (zb ob)), (11, .int (nI j)), (12, .int (v j))] → W p l e R s m args below meth c H locs (0) (0) Q (F0 m 115 ls [.int (nI lz), .int (nI L)]) := by
            intro lz wL115 hlz hlz2 hWL115 H locs hP hD hS ls hl
            refine n_iadd (x := L) (y := lz) hx hb dL_isSegment_115 ?_
            refine lv_istore (lv' := [(7, .int (nI (L + lz))), (0, .ref (q 0)), (1, .ref gq), (4, .int (nI fr)), (5, .int (nI ((fr + 1) + rr))), (6, .int mid), (8, .int (nI Mo)), (9, .int co), (10, .int (zb ob)), (11, .int (nI j)), (12, .int (v j))]) hx hb dL_isSegment_116 hl (by decide) rfl (fun ls hl => ?_)
            refine lv_iload hx hb dL_isSegment_118 (lv_at hl 6 rfl) ?_
            refine lv_iload hx hb dL_isSegment_120 (lv_at hl 10 rfl) ?_
            refine lv_iload hx hb dL_isSegment_122 (lv_at hl 5 rfl) ?_
            have J132 : ∀ (mo : Nat) (wL132 : va_W), ((mo : Int) = gM mid (v j)) → (mo ≤ 1) → PW cI cZ q v n pn al cs ph tm bx bg wL132 → ∀ (H : Heap) (locs : List Loc), va_P D vwCl ([(gq, .inl (cI, 3, .inl g))] ++ wL132) H → va_D A ([(gq, .inl (cI, 3, .inl g))] ++ wL132) → va_S A s.heap H locs → ∀ (ls : Array Slot), lv_has ls 13 [(0, .ref (q 0)), (1, .ref gq), (4, .int (nI fr)), (5, .int (nI ((fr + 1) + rr))), (6, .int mid), (7, .int (nI (L + lz))), (8, .int (nI Mo)), (9, .int co), (10, .int (zb ob)), (11, .int (nI j)), (12, .int (v j))] → W p l e R s m args below meth c H locs (0) (0) Q (F0 m 132 ls [.int (nI mo), .int (nI Mo)]) := by
              intro mo wL132 hmo hmo2 hWL132 H locs hP hD hS ls hl
              refine n_iadd (x := Mo) (y := mo) hx hb dL_isSegment_132 ?_
              refine lv_istore (lv' := [(8, .int (nI (Mo + mo))), (0, .ref (q 0)), (1, .ref gq), (4, .int (nI fr)), (5, .int (nI ((fr + 1) + rr))), (6, .int mid), (7, .int (nI (L + lz))), (9, .int co), (10, .int (zb ob)), (11, .int (nI j)), (12, .int (v j))]) hx hb dL_isSegment_133 hl (by decide) rfl (fun ls hl => ?_)
              refine lv_iload hx hb dL_isSegment_135 (lv_at hl 7 rfl) ?_
              refine lv_iload hx hb dL_isSegment_137 (lv_at hl 10 rfl) ?_
              refine lv_iload hx hb dL_isSegment_139 (lv_at hl 5 rfl) ?_
              have J157 : ∀ (dz : Int32) (wL157 : va_W), (dz.toInt = ab mid.toInt (v j)) → PW cI cZ q v n pn al cs ph tm bx bg wL157 → ∀ (H : Heap) (locs : List Loc), va_P D vwCl ([(gq, .inl (cI, 3, .inl g))] ++ wL157) H → va_D A ([(gq, .inl (cI, 3, .inl g))] ++ wL157) → va_S A s.heap H locs → ∀ (ls : Array Slot), lv_has ls 13 [(0, .ref (q 0)), (1, .ref gq), (4, .int (nI fr)), (5, .int (nI ((fr + 1) + rr))), (6, .int mid), (7, .int (nI (L + lz))), (8, .int (nI (Mo + mo))), (9, .int co), (10, .int (zb ob)), (11, .int (nI j)), (12, .int (v j))] → W p l e R s m args below meth c H locs (0) (0) Q (F0 m 157 ls [.int dz, .int co]) := by
                intro dz wL157 hdz hWL157 H locs hP hD hS ls hl
                refine lv_iadd hx hb dL_isSegment_157 ?_
                refine lv_istore (lv' := [(9, .int (co + dz)), (0, .ref (q 0)), (1, .ref gq), (4, .int (nI fr)), (5, .int (nI ((fr + 1) + rr))), (6, .int mid), (7, .int (nI (L + lz))), (8, .int (nI (Mo + mo))), (10, .int (zb ob)), (11, .int (nI j)), (12, .int (v j))]) hx hb dL_isSegment_158 hl (by decide) rfl (fun ls hl => ?_)
                refine lv_iload hx hb dL_isSegment_160 (lv_at hl 8 rfl) ?_
                have J177 : ∀ (oc : Bool) (wL177 : va_W), (oc = false → ob = false ∧ gE mid (v j) = 0) → PW cI cZ q v n pn al cs ph tm bx bg wL177 → ∀ (H : Heap) (locs : List Loc), va_P D vwCl ([(gq, .inl (cI, 3, .inl g))] ++ wL177) H → va_D A ([(gq, .inl (cI, 3, .inl g))] ++ wL177) → va_S A s.heap H locs → ∀ (ls : Array Slot), lv_has ls 13 [(0, .ref (q 0)), (1, .ref gq), (4, .int (nI fr)), (5, .int (nI ((fr + 1) + rr))), (6, .int mid), (7, .int (nI (L + lz))), (8, .int (nI (Mo + mo))), (9, .int (co + dz)), (10, .int (zb ob)), (11, .int (nI j)), (12, .int (v j))] → W p l e R s m args below meth c H locs (0) (0) Q (F0 m 177 ls [.int (zb oc)]) := by
                  intro oc wL177 hoc hWL177 H locs hP hD hS ls hl
                  refine lv_istore (lv' := [(10, .int (zb oc)), (0, .ref (q 0)), (1, .ref gq), (4, .int (nI fr)), (5, .int (nI ((fr + 1) + rr))), (6, .int mid), (7, .int (nI (L + lz))), (8, .int (nI (Mo + mo))), (9, .int (co + dz)), (11, .int (nI j)), (12, .int (v j))]) hx hb dL_isSegment_177 hl (by decide) rfl (fun ls hl => ?_)
                  refine lv_iinc (v := (nI (j + 1))) (lv' := [(11, .int (nI (j + 1))), (10, .int (zb oc)), (0, .ref (q 0)), (1, .ref gq), (4, .int (nI fr)), (5, .int (nI ((fr + 1) + rr))), (6, .int mid), (7, .int (nI (L + lz))), (8, .int (nI (Mo + mo))), (9, .int (co + dz)), (12, .int (v j))]) hx hb dL_isSegment_179 hl (k := 9) rfl (nI_inc j 1) (by decide) rfl (fun ls hl => ?_)
                  refine lv_goto (tgt := 86) hx hb dL_isSegment_182 (by decide) ?_
                  exact ih86 (j + 1) (L + lz) (Mo + mo) (co + dz) oc wL177 (by first | assumption | omega | rfl) (by first | assumption | omega | rfl) (SI_step hj1 (by omega) hpv.2.1 m5 hSI hlz hmo hdz hoc) ⟨by omega, by omega⟩ (by omega) hWL177 _ _ hP hD hS ls (lv_sub hl [2, 3, 4, 5, 6, 7, 8, 9, 1, 0] rfl)
                refine z_if_ne (x := ob) (tgt := 172) hx hb dL_isSegment_162 (by decide) (fun c162 => ?_) (fun c162 => ?_)
                · skip
                  refine lv_iconst (v := 1) hx hb dL_isSegment_172 (by decide) ?_
                  refine lv_goto (tgt := 177) hx hb dL_isSegment_173 (by decide) ?_
                  exact J177 true wL157 (fun z => Bool.noConfusion z) hWL157 _ _ hP hD hS ls (lv_sub hl [1, 2, 3, 4, 5, 6, 7, 0, 8, 9, 10] rfl)
                · skip
                  refine lv_iload hx hb dL_isSegment_165 (lv_at hl 10 rfl) ?_
                  refine lv_iload hx hb dL_isSegment_167 (lv_at hl 5 rfl) ?_
                  refine lv_icmp_ne (tgt := 176) hx hb dL_isSegment_169 (by decide) (fun c169 => ?_) (fun c169 => ?_)
                  · skip
                    refine lv_iconst (v := 0) hx hb dL_isSegment_176 (by decide) ?_
                    exact J177 false wL157 (fun _ => ⟨c162, by unfold gE; rw [if_neg (fun z => c169 ((i_eq _ _).mpr z))]⟩) hWL157 _ _ hP hD hS ls (lv_sub hl [1, 2, 3, 4, 5, 6, 7, 0, 8, 9, 10] rfl)
                  · skip
                    refine lv_iconst (v := 1) hx hb dL_isSegment_172 (by decide) ?_
                    refine lv_goto (tgt := 177) hx hb dL_isSegment_173 (by decide) ?_
                    exact J177 true wL157 (fun z => Bool.noConfusion z) hWL157 _ _ hP hD hS ls (lv_sub hl [1, 2, 3, 4, 5, 6, 7, 0, 8, 9, 10] rfl)
              refine lv_icmp_ge (tgt := 152) hx hb dL_isSegment_141 (by decide) (fun c141 => ?_) (fun c141 => ?_)
              · skip
                refine lv_iload hx hb dL_isSegment_152 (lv_at hl 10 rfl) ?_
                refine lv_iload hx hb dL_isSegment_154 (lv_at hl 5 rfl) ?_
                refine lv_isub hx hb dL_isSegment_156 ?_
                exact J157 ((v j) - mid) wL132 (dz_ge hpv.2.1 m5 c141) hWL132 _ _ hP hD hS ls (lv_sub hl [1, 2, 3, 4, 5, 6, 0, 7, 8, 9, 10] rfl)
              · skip
                refine lv_iload hx hb dL_isSegment_144 (lv_at hl 5 rfl) ?_
                refine lv_iload hx hb dL_isSegment_146 (lv_at hl 10 rfl) ?_
                refine lv_isub hx hb dL_isSegment_148 ?_
                refine lv_goto (tgt := 157) hx hb dL_isSegment_149 (by decide) ?_
                exact J157 (mid - (v j)) wL132 (dz_lt hpv.2.1 m5 c141) hWL132 _ _ hP hD hS ls (lv_sub hl [1, 2, 3, 4, 5, 6, 0, 7, 8, 9, 10] rfl)
            refine lv_icmp_le (tgt := 131) hx hb dL_isSegment_124 (by decide) (fun c124 => ?_) (fun c124 => ?_)
            · skip
              refine lv_iconst (v := 0) hx hb dL_isSegment_131 (by decide) ?_
              exact J132 0 wL115 (by unfold gM; rw [if_neg (by rw [i_le] at c124; omega)]; rfl) (by omega) hWL115 _ _ hP hD hS ls (lv_sub hl [1, 2, 3, 4, 5, 0, 6, 7, 8, 9, 10] rfl)
            · skip
              refine lv_iconst (v := 1) hx hb dL_isSegment_127 (by decide) ?_
              refine lv_goto (tgt := 132) hx hb dL_isSegment_128 (by decide) ?_
              exact J132 1 wL115 (by unfold gM; rw [if_pos (by rw [i_le] at c124; omega)]; rfl) (by omega) hWL115 _ _ hP hD hS ls (lv_sub hl [1, 2, 3, 4, 5, 0, 6, 7, 8, 9, 10] rfl)
          refine lv_icmp_ge (tgt := 114) hx hb dL_isSegment_107 (by decide) (fun c107 => ?_) (fun c107 => ?_)
          · skip
            refine lv_iconst (v := 0) hx hb dL_isSegment_114 (by decide) ?_
            exact J115 0 wL86 (by unfold gL; rw [if_neg (by rw [i_le] at c107; omega)]; rfl) (by omega) hWL86 _ _ hP hD hS ls (lv_sub hl [1, 2, 3, 4, 5, 6, 7, 8, 9, 10, 0] rfl)
          · skip
            refine lv_iconst (v := 1) hx hb dL_isSegment_110 (by decide) ?_
            refine lv_goto (tgt := 115) hx hb dL_isSegment_111 (by decide) ?_
            exact J115 1 wL86 (by unfold gL; rw [if_pos (by rw [i_le] at c107; omega)]; rfl) (by omega) hWL86 _ _ hP hD hS ls (lv_sub hl [1, 2, 3, 4, 5, 6, 7, 8, 9, 10, 0] rfl)
    exact J86 ((fr + 1) + rr - fr + 1) fr 0 0 0 false wb1 (Nat.le_refl _) (by first | assumption | omega | rfl) (SI_0 v fr mid) ⟨Nat.zero_le _, Nat.zero_le _⟩ (Nat.lt_succ_self _) hW1 _ _ hP hD hS ls (lv_sub hl [8, 9, 7, 6, 5, 4, 3, 2, 1, 0] rfl)
  · skip
    have h0 : n = 0 := by omega
    refine lv_aload_n hx hb dL_isSegment_6 rfl (lv_at hl 0 rfl) ?_
    refine lv_iconst (v := 4) hx hb dL_isSegment_7 (by decide) ?_
    refine lv_iconst (v := 0) hx hb dL_isSegment_8 (by decide) ?_
    refine lv_iconst (v := 1) hx hb dL_isSegment_9 (by decide) ?_
    refine call_Hi (wa := [(gq, .inl (cI, 3, .inl g))]) (w0 := wb) (w1 := wb) (As := [.ref (q 0), .int 4, .int 0, .int 1]) (rest := []) hx hb hml hown hAW hN hT hNc (sh_asks4x l hl0 D cI cZ q hW (by rw [h0]; decide)) q461 q462 q21 qw_asks hd_L_asks (by rw [hR]; exact Nat.le_of_ble_eq_true rfl) (by rw [hR]; exact Nat.le_of_ble_eq_true rfl) hK hP hD hS hA rfl rfl hl.1 rfl (lv_room (Nat.le_of_ble_eq_true rfl)) dL_isSegment_10 (by rw [hR]; show 1 ≤ 3; omega) (by rw [hR]; show 6 ≤ 18; omega) (fun H locs hP hD hS => ?_)
    refine lv_sipush (v := (-3000)) hx hb dL_isSegment_13 (by decide) ?_
    refine lv_icmp_ne (tgt := 36) hx hb dL_isSegment_16 (by decide) (fun c16 => absurd c16 (fun z => z rfl)) (fun c16 => ?_)
    refine lv_aload_n hx hb dL_isSegment_19 rfl (lv_at hl 0 rfl) ?_
    refine lv_iconst (v := 5) hx hb dL_isSegment_20 (by decide) ?_
    refine lv_iconst (v := 0) hx hb dL_isSegment_21 (by decide) ?_
    refine lv_iconst (v := 0) hx hb dL_isSegment_22 (by decide) ?_
    refine call_Hi (wa := [(gq, .inl (cI, 3, .inl g))]) (w0 := wb) (w1 := wb) (As := [.ref (q 0), .int 5, .int 0, .int 0]) (rest := []) hx hb hml hown hAW hN hT hNc (sh_asks5x l hl0 D cI cZ q hW (fun z => absurd z.2.1 (Int32.lt_irrefl))) q461 q462 q21 qw_asks hd_L_asks (by rw [hR]; exact Nat.le_of_ble_eq_true rfl) (by rw [hR]; exact Nat.le_of_ble_eq_true rfl) hK hP hD hS hA rfl rfl hl.1 rfl (lv_room (Nat.le_of_ble_eq_true rfl)) dL_isSegment_23 (by rw [hR]; show 2 ≤ 3; omega) (by rw [hR]; show 12 ≤ 18; omega) (fun H locs hP hD hS => ?_)
    refine lv_sipush (v := (-3000)) hx hb dL_isSegment_26 (by decide) ?_
    refine lv_icmp_ne (tgt := 36) hx hb dL_isSegment_29 (by decide) (fun c29 => absurd c29 (fun z => z rfl)) (fun c29 => ?_)
    refine lv_iconst (v := 1) hx hb dL_isSegment_32 (by decide) ?_
    refine lv_goto (tgt := 37) hx hb dL_isSegment_33 (by decide) ?_
    refine W.widen (k := 3) (n := 18) (by omega) (by omega) ?_
    exact fin_z (v := 1) hx hb hr hlk hP hS rfl (⟨rfl, _, rfl, hW⟩) (ad_app rfl (hW.ads.trans hW.ads.symm)) hQ dL_isSegment_37
