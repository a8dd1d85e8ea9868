/-! the law's isAdded -/
theorem GK_n {g : Nat → Int32} {n : Nat} {pn : Int32} {tm : Nat → Bool} (h : GK g n pn tm) (m : Nat) : GK (upd g 0 (nI m)) m pn tm :=
  ⟨up_at _ _ _, by rw [up_ne (by decide)]; exact h.2.1, by rw [up_ne (by decide)]; exact h.2.2⟩
theorem run_first {v : Nat → Int32} {n ct : Nat} {x y : Int32} (h : ∀ k, k < ct → v (n + k) = x + y * nI k) (h0 : 0 < ct) : v n = x := by
  have := h 0 h0
  rw [Nat.add_zero] at this
  rw [this, show nI 0 = 0 from rfl, Int32.mul_zero, Int32.add_zero]
theorem run_last {v : Nat → Int32} {n ct : Nat} {x y : Int32} (h : ∀ k, k < ct → v (n + k) = x + y * nI k) (h0 : 0 < ct) : v (n + ct - 1) = x + y * (nI ct - 1) := by
  have := h (ct - 1) (by omega)
  rw [show n + (ct - 1) = n + ct - 1 by omega] at this
  rw [this, show (1 : Int32) = nI 1 from rfl, pk_sub (show 1 ≤ ct by omega)]
theorem ct_pos {ct : Nat} (h : 1 ≤ nI ct) (hc : ct < 2 ^ 31) : 1 ≤ ct := (nI_leI (a := 1) (by decide) hc).mp h
set_option maxHeartbeats 4000000 in
set_option maxRecDepth 100000 in
theorem cl_isAdded1 (l : Launch) (hl0 : l.stackTraces = false) (D : va_G) (cI cZ : ClassId) (q : Nat → Nat) {v : Nat → Int32} {n : Nat} {pn : Int32} {al : AlS} {cs : CsS} {ph : PhS} {tm : Nat → Bool} {bx bg : CuS} {gq : Nat} {g : Nat → Int32} {wb : va_W} {a b c9 : Nat} (hW : PW cI cZ q v n pn al cs ph tm bx bg wb) (hG : GK g n pn tm) (ha : a < 10000) (hb9 : b < 10000) (hc9 : c9 < 10000) (hc3 : c9 % 3 = 0) : Cz l yL_isAdded (aw yL_isAdded cL_isAdded 16 (some .boolean)) ({ frames := 11, cells := 1, slots := 6, locals := 220 }) D cI cZ [.ref (q 0), .ref gq, .int (nI a), .int (nI b), .int (nI c9)] (([gC cI gq g] ++ wb)) (fun rr ww => rr = 1 ∧ LI cI cZ q gq ww) 1 6 := by
  refine mk_z (y := yL_isAdded) (av := [.ref (q 0), .ref gq, .int (nI a), .int (nI b), .int (nI c9)]) (cc := cL_isAdded) (maxL := 16) (ret := (some .boolean)) (plainFor_of_name (by decide)) (Nat.le_of_ble_eq_true rfl) ?_
  intro p e s m args below meth c A Q R hR hQ hx hb hr hml hAW hown hlk hN hT hNc hA hP hK hD hS ls hl
  have hl : lv_has ls 16 [(0, .ref (q 0)), (1, .ref gq), (2, .int (nI a)), (3, .int (nI b)), (4, .int (nI c9))] := hl
  have hn := hW.pv.1
  have hpv := hW.pv
  have h3n := hpv.2.2.2.1
  refine lv_iload hx hb dL_isAdded_0 (lv_at hl 4 rfl) ?_
  refine lv_iconst (v := 3) hx hb dL_isAdded_2 (by decide) ?_
  refine n_irem (x := c9) (y := 3) hx hb (by omega) (by omega) (by omega) dL_isAdded_3 ?_
  refine n_if_ne (x := (c9 % 3)) (tgt := 11) hx hb (by omega) dL_isAdded_4 (by decide) (fun c4 => absurd c4 (by omega)) (fun c4 => ?_)
  refine lv_iconst (v := 1) hx hb dL_isAdded_7 (by decide) ?_
  refine lv_goto (tgt := 12) hx hb dL_isAdded_8 (by decide) ?_
  refine lv_istore (lv' := [(5, .int 1), (0, .ref (q 0)), (1, .ref gq), (2, .int (nI a)), (3, .int (nI b)), (4, .int (nI c9))]) hx hb dL_isAdded_12 hl (by decide) rfl (fun ls hl => ?_)
  refine lv_iload hx hb dL_isAdded_14 (lv_at hl 0 rfl) ?_
  refine n_if_eq (x := 1) (tgt := 31) hx hb (by omega) dL_isAdded_16 (by decide) (fun c16 => absurd c16 (by decide)) (fun c16 => ?_)
  refine lv_iload_n hx hb dL_isAdded_19 rfl (lv_at hl 3 rfl) ?_
  refine lv_sipush (v := 2100) hx hb dL_isAdded_20 (by decide) ?_
  refine n_irem (x := a) (y := 2100) hx hb (by omega) (by omega) (by omega) dL_isAdded_23 ?_
  refine lv_sipush (v := 1050) hx hb dL_isAdded_24 (by decide) ?_
  refine lv_isub hx hb dL_isAdded_27 ?_
  refine lv_goto (tgt := 53) hx hb dL_isAdded_28 (by decide) ?_
  refine lv_topi (fun fi efi => ?_)
  refine lv_istore (lv' := [(6, .int fi), (5, .int 1), (0, .ref (q 0)), (1, .ref gq), (2, .int (nI a)), (3, .int (nI b)), (4, .int (nI c9))]) hx hb dL_isAdded_53 hl (by decide) rfl (fun ls hl => ?_)
  refine lv_iload hx hb dL_isAdded_55 (lv_at hl 6 rfl) ?_
  refine lv_bipush (v := 6) hx hb dL_isAdded_57 (by decide) ?_
  refine n_irem (x := c9) (y := 6) hx hb (by omega) (by omega) (by omega) dL_isAdded_59 ?_
  have J81 : ∀ (sp : Int32) (wL81 : va_W), PW cI cZ q v n pn al cs ph tm bx bg wL81 → ∀ (H : Heap) (locs : List Loc), va_P D vwCl ([(gq, .inl (cI, 3, .inl g))] ++ wL81) H → va_D A ([(gq, .inl (cI, 3, .inl g))] ++ wL81) → va_S A s.heap H locs → ∀ (ls : Array Slot), lv_has ls 16 [(0, .ref (q 0)), (1, .ref gq), (4, .int (nI c9)), (5, .int 1), (6, .int fi)] → W p l e R s m args below meth c H locs (0) (0) Q (F0 m 81 ls [.int sp]) := by
    intro sp wL81 hWL81 H locs hP hD hS ls hl
    refine lv_istore (lv' := [(7, .int sp), (0, .ref (q 0)), (1, .ref gq), (4, .int (nI c9)), (5, .int 1), (6, .int fi)]) hx hb dL_isAdded_81 hl (by decide) rfl (fun ls hl => ?_)
    refine lv_iload hx hb dL_isAdded_83 (lv_at hl 4 rfl) ?_
    refine n_if_eq (x := 1) (tgt := 99) hx hb (by omega) dL_isAdded_85 (by decide) (fun c85 => absurd c85 (by decide)) (fun c85 => ?_)
    refine lv_iload hx hb dL_isAdded_88 (lv_at hl 3 rfl) ?_
    refine lv_bipush (v := 6) hx hb dL_isAdded_90 (by decide) ?_
    refine n_idiv (x := c9) (y := 6) hx hb (by omega) (by omega) (by omega) dL_isAdded_92 ?_
    refine lv_bipush (v := 12) hx hb dL_isAdded_93 (by decide) ?_
    refine n_irem (x := (c9 / 6)) (y := 12) hx hb (by omega) (by omega) (by omega) dL_isAdded_95 ?_
    obtain ⟨ct, ect⟩ : ∃ z, z = (c9 / 6) % 12 := ⟨_, rfl⟩
    rw [← ect]
    have hct : ct < 12 := by rw [ect]; exact Nat.mod_lt _ (by decide)
    refine lv_goto (tgt := 100) hx hb dL_isAdded_96 (by decide) ?_
    refine lv_istore (lv' := [(8, .int (nI ct)), (7, .int sp), (0, .ref (q 0)), (1, .ref gq), (4, .int (nI c9)), (5, .int 1), (6, .int fi)]) hx hb dL_isAdded_100 hl (by decide) rfl (fun ls hl => ?_)
    refine lv_iload hx hb dL_isAdded_102 (lv_at hl 6 rfl) ?_
    refine lv_iload hx hb dL_isAdded_104 (lv_at hl 1 rfl) ?_
    refine lv_iload hx hb dL_isAdded_106 (lv_at hl 0 rfl) ?_
    refine lv_iconst (v := 1) hx hb dL_isAdded_108 (by decide) ?_
    refine lv_isub hx hb dL_isAdded_109 ?_
    refine lv_imul hx hb dL_isAdded_110 ?_
    refine lv_iadd hx hb dL_isAdded_111 ?_
    refine lv_istore (lv' := [(9, .int (fi + (sp * ((nI ct) - 1)))), (8, .int (nI ct)), (7, .int sp), (0, .ref (q 0)), (1, .ref gq), (4, .int (nI c9)), (5, .int 1), (6, .int fi)]) hx hb dL_isAdded_112 hl (by decide) rfl (fun ls hl => ?_)
    refine lv_iload hx hb dL_isAdded_114 (lv_at hl 7 rfl) ?_
    refine lv_sipush (v := (-1000)) hx hb dL_isAdded_116 (by decide) ?_
    have J177 : ∀ (rt : Bool) (wL177 : va_W), ((rt = true → ((-1000) ≤ fi ∧ fi ≤ 1000) ∧ ((-1000) ≤ sp ∧ sp ≤ 1000) ∧ 1 ≤ ct ∧ ((-1000) ≤ (fi + (sp * ((nI ct) - 1))) ∧ (fi + (sp * ((nI ct) - 1))) ≤ 1000)) ∧ (rt = false → ¬ (((-1000) ≤ fi ∧ fi ≤ 1000) ∧ ((-1000) ≤ sp ∧ sp ≤ 1000) ∧ 1 ≤ ct ∧ ((-1000) ≤ (fi + (sp * ((nI ct) - 1))) ∧ (fi + (sp * ((nI ct) - 1))) ≤ 1000)))) → PW cI cZ q v n pn al cs ph tm bx bg wL177 → ∀ (H : Heap) (locs : List Loc), va_P D vwCl ([(gq, .inl (cI, 3, .inl g))] ++ wL177) H → va_D A ([(gq, .inl (cI, 3, .inl g))] ++ wL177) → va_S A s.heap H locs → ∀ (ls : Array Slot), lv_has ls 16 [(0, .ref (q 0)), (1, .ref gq), (5, .int 1), (6, .int fi), (7, .int sp), (8, .int (nI ct)), (9, .int (fi + (sp * ((nI ct) - 1))))] → W p l e R s m args below meth c H locs (0) (0) Q (F0 m 177 ls [.int (zb rt)]) := by
      intro rt wL177 hrt hWL177 H locs hP hD hS ls hl
      refine lv_istore (lv' := [(10, .int (zb rt)), (0, .ref (q 0)), (1, .ref gq), (5, .int 1), (6, .int fi), (7, .int sp), (8, .int (nI ct)), (9, .int (fi + (sp * ((nI ct) - 1))))]) hx hb dL_isAdded_177 hl (by decide) rfl (fun ls hl => ?_)
      refine lv_aload_n hx hb dL_isAdded_179 rfl (lv_at hl 1 rfl) ?_
      refine call_Pi (wa := [(gq, .inl (cI, 3, .inl g))]) (w0 := wL177) (w1 := wL177) (As := []) (rest := []) hx hb hml hown hAW hN (sp_alarms l D cI cZ q hWL177) q643 q644 q645 q22 q646 hd_X9_alarms (by rw [hR]; exact Nat.le_of_ble_eq_true rfl) (by rw [hR]; exact Nat.le_of_ble_eq_true rfl) hK hP hD hS hA hWL177.hd rfl rfl hl.1 rfl (lv_room (Nat.le_of_ble_eq_true rfl)) dL_isAdded_180 (by rw [hR]; show 0 ≤ 1; omega) (by rw [hR]; show 0 ≤ 6; omega) (fun H locs hP hD hS => ?_)
      refine lv_istore (lv' := [(11, .int (nI al.2.2.2)), (10, .int (zb rt)), (0, .ref (q 0)), (1, .ref gq), (5, .int 1), (6, .int fi), (7, .int sp), (8, .int (nI ct)), (9, .int (fi + (sp * ((nI ct) - 1))))]) hx hb dL_isAdded_183 hl (by decide) rfl (fun ls hl => ?_)
      refine lv_aload_n hx hb dL_isAdded_185 rfl (lv_at hl 2 rfl) ?_
      refine lv_iload hx hb dL_isAdded_186 (lv_at hl 4 rfl) ?_
      refine lv_iload hx hb dL_isAdded_188 (lv_at hl 5 rfl) ?_
      refine lv_iload hx hb dL_isAdded_190 (lv_at hl 6 rfl) ?_
      refine lv_iload hx hb dL_isAdded_192 (lv_at hl 7 rfl) ?_
      rcases (show rt = false ∨ (rt = true ∧ 120 < n + ct) ∨ (rt = true ∧ n + ct ≤ 120) by cases rt with
      | false => exact Or.inl rfl
      | true => rcases Nat.lt_or_ge 120 (n + ct) with z | z
                · exact Or.inr (Or.inl ⟨rfl, z⟩)
                · exact Or.inr (Or.inr ⟨rfl, z⟩)) with z9 | ⟨z8, z9⟩ | ⟨z8, z9⟩
      · skip
        refine call_Hi (wa := [(gq, .inl (cI, 3, .inl g))]) (w0 := wL177) (w1 := wL177) (As := [.ref (q 0), .int 1, .int fi, .int sp, .int (nI ct)]) (rest := []) hx hb hml hown hAW hN hT hNc (sh_adds1x1 l hl0 D cI cZ q hWL177 (x := fi) (y := sp) (z := nI ct) (fun hz => hrt.2 z9 ⟨hz.1, hz.2.1, ct_pos hz.2.2.1.1 (by omega), hz.2.2.2⟩)) q391 q392 q21 qw_adds hd_L_adds (by rw [hR]; exact Nat.le_of_ble_eq_true rfl) (by rw [hR]; exact Nat.le_of_ble_eq_true rfl) hK hP hD hS hA rfl rfl hl.1 rfl (lv_room (Nat.le_of_ble_eq_true rfl)) dL_isAdded_194 (by rw [hR]; show 1 ≤ 1; omega) (by rw [hR]; show 6 ≤ 6; omega) (fun H locs hP hD hS => ?_)
        refine lv_istore (lv' := [(12, .int (-20)), (11, .int (nI al.2.2.2)), (10, .int (zb rt)), (0, .ref (q 0)), (1, .ref gq), (5, .int 1), (6, .int fi), (7, .int sp), (8, .int (nI ct)), (9, .int (fi + (sp * ((nI ct) - 1))))]) hx hb dL_isAdded_197 hl (by decide) rfl (fun ls hl => ?_)
        refine lv_iload hx hb dL_isAdded_199 (lv_at hl 2 rfl) ?_
        refine z_if_eq (x := rt) (tgt := 215) hx hb dL_isAdded_201 (by decide) (fun c201 => ?_) (fun c201 => absurd c201 (by rw [z9]; decide))
        refine lv_iload hx hb dL_isAdded_215 (lv_at hl 0 rfl) ?_
        refine lv_iload hx hb dL_isAdded_217 (lv_at hl 2 rfl) ?_
        refine z_if_eq (x := rt) (tgt := 227) hx hb dL_isAdded_219 (by decide) (fun c219 => ?_) (fun c219 => absurd c219 (by rw [z9]; decide))
        refine lv_bipush (v := (-20)) hx hb dL_isAdded_227 (by decide) ?_
        refine lv_icmp_ne (tgt := 246) hx hb dL_isAdded_229 (by decide) (fun c229 => absurd c229 (fun z => z rfl)) (fun c229 => ?_)
        refine lv_aload_n hx hb dL_isAdded_232 rfl (lv_at hl 3 rfl) ?_
        refine call_Pi (wa := [(gq, .inl (cI, 3, .inl g))]) (w0 := wL177) (w1 := wL177) (As := []) (rest := []) hx hb hml hown hAW hN (sp_size l D cI cZ q hWL177) q729 q730 q731 q22 q732 hd_X9_size (by rw [hR]; exact Nat.le_of_ble_eq_true rfl) (by rw [hR]; exact Nat.le_of_ble_eq_true rfl) hK hP hD hS hA hWL177.hd rfl rfl hl.1 rfl (lv_room (Nat.le_of_ble_eq_true rfl)) dL_isAdded_233 (by rw [hR]; show 1 ≤ 1; omega) (by rw [hR]; show 6 ≤ 6; omega) (fun H locs hP hD hS => ?_)
        refine lv_aload_n hx hb dL_isAdded_236 rfl (lv_at hl 4 rfl) ?_
        refine lv_iconst (v := 0) hx hb dL_isAdded_237 (by decide) ?_
        refine n_iald (D := D) (f := g) (i := 0) hx hb hK hP 0 0 rfl rfl (by decide) (by decide) dL_isAdded_238 ?_
        refine lv_topi (fun y9 ey9 => ?_)
        have ey9 : (nI n) = y9 := (ey9.trans hG.1).symm
        subst ey9
        refine n_icmp_ne (x := n) (y := n) (tgt := 246) hx hb (by omega) (by omega) dL_isAdded_239 (by decide) (fun c239 => absurd c239 (by omega)) (fun c239 => ?_)
        refine lv_iconst (v := 1) hx hb dL_isAdded_242 (by decide) ?_
        refine lv_goto (tgt := 247) hx hb dL_isAdded_243 (by decide) ?_
        exact fin_z (v := 1) hx hb hr hlk hP hS rfl (⟨rfl, _, _, _, _, _, _, _, _, _, _, _, rfl, hWL177, hG⟩) (ad_app rfl (hWL177.ads.trans hW.ads.symm)) hQ dL_isAdded_247
      · skip
        refine call_Hi (wa := [(gq, .inl (cI, 3, .inl g))]) (w0 := wL177) (w1 := wL177) (As := [.ref (q 0), .int 1, .int fi, .int sp, .int (nI ct)]) (rest := []) hx hb hml hown hAW hN hT hNc (sh_adds1x2 l hl0 D cI cZ q hWL177 (x := fi) (y := sp) (ct := ct) ⟨(hrt.1 z8).1, (hrt.1 z8).2.1, ⟨(hrt.1 z8).2.2.1, by omega⟩, (hrt.1 z8).2.2.2⟩ z9) q391 q392 q21 qw_adds hd_L_adds (by rw [hR]; exact Nat.le_of_ble_eq_true rfl) (by rw [hR]; exact Nat.le_of_ble_eq_true rfl) hK hP hD hS hA rfl rfl hl.1 rfl (lv_room (Nat.le_of_ble_eq_true rfl)) dL_isAdded_194 (by rw [hR]; show 1 ≤ 1; omega) (by rw [hR]; show 6 ≤ 6; omega) (fun H locs hP hD hS => ?_)
        refine lv_istore (lv' := [(12, .int (-10)), (11, .int (nI al.2.2.2)), (10, .int (zb rt)), (0, .ref (q 0)), (1, .ref gq), (5, .int 1), (6, .int fi), (7, .int sp), (8, .int (nI ct)), (9, .int (fi + (sp * ((nI ct) - 1))))]) hx hb dL_isAdded_197 hl (by decide) rfl (fun ls hl => ?_)
        refine lv_iload hx hb dL_isAdded_199 (lv_at hl 2 rfl) ?_
        refine z_if_eq (x := rt) (tgt := 215) hx hb dL_isAdded_201 (by decide) (fun c201 => absurd c201 (by rw [z8]; decide)) (fun c201 => ?_)
        refine lv_aload_n hx hb dL_isAdded_204 rfl (lv_at hl 4 rfl) ?_
        refine lv_iconst (v := 0) hx hb dL_isAdded_205 (by decide) ?_
        refine n_iald (D := D) (f := g) (i := 0) hx hb hK hP 0 0 rfl rfl (by decide) (by decide) dL_isAdded_206 ?_
        refine lv_topi (fun y9 ey9 => ?_)
        have ey9 : (nI n) = y9 := (ey9.trans hG.1).symm
        subst ey9
        refine lv_iload hx hb dL_isAdded_207 (lv_at hl 8 rfl) ?_
        refine n_iadd (x := n) (y := ct) hx hb dL_isAdded_209 ?_
        refine lv_bipush (v := 120) hx hb dL_isAdded_210 (by decide) ?_
        refine n_icmp_le (x := (n + ct)) (y := 120) (tgt := 248) hx hb (by omega) (by omega) dL_isAdded_212 (by decide) (fun c212 => absurd c212 (by omega)) (fun c212 => ?_)
        refine lv_iload hx hb dL_isAdded_215 (lv_at hl 0 rfl) ?_
        refine lv_iload hx hb dL_isAdded_217 (lv_at hl 2 rfl) ?_
        refine z_if_eq (x := rt) (tgt := 227) hx hb dL_isAdded_219 (by decide) (fun c219 => absurd c219 (by rw [z8]; decide)) (fun c219 => ?_)
        refine lv_bipush (v := (-10)) hx hb dL_isAdded_222 (by decide) ?_
        refine lv_goto (tgt := 229) hx hb dL_isAdded_224 (by decide) ?_
        refine lv_icmp_ne (tgt := 246) hx hb dL_isAdded_229 (by decide) (fun c229 => absurd c229 (fun z => z rfl)) (fun c229 => ?_)
        refine lv_aload_n hx hb dL_isAdded_232 rfl (lv_at hl 3 rfl) ?_
        refine call_Pi (wa := [(gq, .inl (cI, 3, .inl g))]) (w0 := wL177) (w1 := wL177) (As := []) (rest := []) hx hb hml hown hAW hN (sp_size l D cI cZ q hWL177) q729 q730 q731 q22 q732 hd_X9_size (by rw [hR]; exact Nat.le_of_ble_eq_true rfl) (by rw [hR]; exact Nat.le_of_ble_eq_true rfl) hK hP hD hS hA hWL177.hd rfl rfl hl.1 rfl (lv_room (Nat.le_of_ble_eq_true rfl)) dL_isAdded_233 (by rw [hR]; show 1 ≤ 1; omega) (by rw [hR]; show 6 ≤ 6; omega) (fun H locs hP hD hS => ?_)
        refine lv_aload_n hx hb dL_isAdded_236 rfl (lv_at hl 4 rfl) ?_
        refine lv_iconst (v := 0) hx hb dL_isAdded_237 (by decide) ?_
        refine n_iald (D := D) (f := g) (i := 0) hx hb hK hP 0 0 rfl rfl (by decide) (by decide) dL_isAdded_238 ?_
        refine lv_topi (fun y9 ey9 => ?_)
        have ey9 : (nI n) = y9 := (ey9.trans hG.1).symm
        subst ey9
        refine n_icmp_ne (x := n) (y := n) (tgt := 246) hx hb (by omega) (by omega) dL_isAdded_239 (by decide) (fun c239 => absurd c239 (by omega)) (fun c239 => ?_)
        refine lv_iconst (v := 1) hx hb dL_isAdded_242 (by decide) ?_
        refine lv_goto (tgt := 247) hx hb dL_isAdded_243 (by decide) ?_
        exact fin_z (v := 1) hx hb hr hlk hP hS rfl (⟨rfl, _, _, _, _, _, _, _, _, _, _, _, rfl, hWL177, hG⟩) (ad_app rfl (hWL177.ads.trans hW.ads.symm)) hQ dL_isAdded_247
      · skip
        have hct1 := (hrt.1 z8).2.2.1
        obtain ⟨wb6, v6, al6, cs6, ph6, bx6, bg6, hW6, hM6, f1, f2, f3⟩ := sh_adds1 l hl0 D cI cZ q hWL177 (x := fi) (y := sp) (ct := ct) ⟨(hrt.1 z8).1, (hrt.1 z8).2.1, ⟨(hrt.1 z8).2.2.1, by omega⟩, (hrt.1 z8).2.2.2⟩ z9
        have h360b := hW6.pv.al360
        refine call_Hi (wa := [(gq, .inl (cI, 3, .inl g))]) (w0 := wL177) (w1 := wb6) (As := [.ref (q 0), .int 1, .int fi, .int sp, .int (nI ct)]) (rest := []) hx hb hml hown hAW hN hT hNc hM6 q391 q392 q21 qw_adds hd_L_adds (by rw [hR]; exact Nat.le_of_ble_eq_true rfl) (by rw [hR]; exact Nat.le_of_ble_eq_true rfl) hK hP hD hS hA (hW6.ads.trans hWL177.ads.symm) rfl hl.1 rfl (lv_room (Nat.le_of_ble_eq_true rfl)) dL_isAdded_194 (by rw [hR]; show 0 ≤ 1; omega) (by rw [hR]; show 0 ≤ 6; omega) (fun H locs hP hD hS => ?_)
        refine lv_topi (fun y9 ey9 => ?_)
        have ey9 : (nI (al6.2.2.2 - al.2.2.2)) = y9 := (ey9.trans (pk_sub f1)).symm
        subst ey9
        refine lv_istore (lv' := [(12, .int (nI (al6.2.2.2 - al.2.2.2))), (11, .int (nI al.2.2.2)), (10, .int (zb rt)), (0, .ref (q 0)), (1, .ref gq), (5, .int 1), (6, .int fi), (7, .int sp), (8, .int (nI ct)), (9, .int (fi + (sp * ((nI ct) - 1))))]) hx hb dL_isAdded_197 hl (by decide) rfl (fun ls hl => ?_)
        refine lv_iload hx hb dL_isAdded_199 (lv_at hl 2 rfl) ?_
        refine z_if_eq (x := rt) (tgt := 215) hx hb dL_isAdded_201 (by decide) (fun c201 => absurd c201 (by rw [z8]; decide)) (fun c201 => ?_)
        refine lv_aload_n hx hb dL_isAdded_204 rfl (lv_at hl 4 rfl) ?_
        refine lv_iconst (v := 0) hx hb dL_isAdded_205 (by decide) ?_
        refine n_iald (D := D) (f := g) (i := 0) hx hb hK hP 0 0 rfl rfl (by decide) (by decide) dL_isAdded_206 ?_
        refine lv_topi (fun y9 ey9 => ?_)
        have ey9 : (nI n) = y9 := (ey9.trans hG.1).symm
        subst ey9
        refine lv_iload hx hb dL_isAdded_207 (lv_at hl 8 rfl) ?_
        refine n_iadd (x := n) (y := ct) hx hb dL_isAdded_209 ?_
        refine lv_bipush (v := 120) hx hb dL_isAdded_210 (by decide) ?_
        refine n_icmp_le (x := (n + ct)) (y := 120) (tgt := 248) hx hb (by omega) (by omega) dL_isAdded_212 (by decide) (fun c212 => ?_) (fun c212 => absurd c212 (by omega))
        refine lv_aload_n hx hb dL_isAdded_248 rfl (lv_at hl 4 rfl) ?_
        refine lv_iconst (v := 0) hx hb dL_isAdded_249 (by decide) ?_
        refine n_iald (D := D) (f := g) (i := 0) hx hb hK hP 0 0 rfl rfl (by decide) (by decide) dL_isAdded_250 ?_
        refine lv_topi (fun y9 ey9 => ?_)
        have ey9 : (nI n) = y9 := (ey9.trans hG.1).symm
        subst ey9
        refine lv_istore (lv' := [(13, .int (nI n)), (12, .int (nI (al6.2.2.2 - al.2.2.2))), (11, .int (nI al.2.2.2)), (10, .int (zb rt)), (0, .ref (q 0)), (1, .ref gq), (5, .int 1), (6, .int fi), (7, .int sp), (8, .int (nI ct)), (9, .int (fi + (sp * ((nI ct) - 1))))]) hx hb dL_isAdded_251 hl (by decide) rfl (fun ls hl => ?_)
        refine lv_aload_n hx hb dL_isAdded_253 rfl (lv_at hl 5 rfl) ?_
        refine lv_iconst (v := 0) hx hb dL_isAdded_254 (by decide) ?_
        refine lv_dup2_11 hx hb dL_isAdded_255 rfl rfl ?_
        refine n_iald (D := D) (f := g) (i := 0) hx hb hK hP 0 0 rfl rfl (by decide) (by decide) dL_isAdded_256 ?_
        refine lv_topi (fun y9 ey9 => ?_)
        have ey9 : (nI n) = y9 := (ey9.trans hG.1).symm
        subst ey9
        refine lv_iload hx hb dL_isAdded_257 (lv_at hl 9 rfl) ?_
        refine n_iadd (x := n) (y := ct) hx hb dL_isAdded_259 ?_
        refine n_iast (D := D) (f := g) (i := 0) (x := (nI (n + ct))) hx hb hK hP hD hS 0 0 rfl rfl (by decide) (by decide) dL_isAdded_260 (fun H locs hP hD hS => ?_)
        have hP : va_P D vwCl ([(gq, .inl (cI, 3, .inl (upd g 0 (nI (n + ct)))))] ++ wb6) H := hP
        have hD : va_D A ([(gq, .inl (cI, 3, .inl (upd g 0 (nI (n + ct)))))] ++ wb6) := hD
        have hG2 := GK_n hG (n + ct)
        refine lv_aload_n hx hb dL_isAdded_261 rfl (lv_at hl 4 rfl) ?_
        refine call_Pi (wa := [(gq, .inl (cI, 3, .inl (upd g 0 (nI (n + ct)))))]) (w0 := wb6) (w1 := wb6) (As := []) (rest := []) hx hb hml hown hAW hN (sp_size l D cI cZ q hW6) q729 q730 q731 q22 q732 hd_X9_size (by rw [hR]; exact Nat.le_of_ble_eq_true rfl) (by rw [hR]; exact Nat.le_of_ble_eq_true rfl) hK hP hD hS hA hW6.hd rfl rfl hl.1 rfl (lv_room (Nat.le_of_ble_eq_true rfl)) dL_isAdded_262 (by rw [hR]; show 0 ≤ 1; omega) (by rw [hR]; show 0 ≤ 6; omega) (fun H locs hP hD hS => ?_)
        refine lv_aload_n hx hb dL_isAdded_265 rfl (lv_at hl 5 rfl) ?_
        refine lv_iconst (v := 0) hx hb dL_isAdded_266 (by decide) ?_
        refine n_iald (D := D) (f := (upd g 0 (nI (n + ct)))) (i := 0) hx hb hK hP 0 0 rfl rfl (by decide) (by decide) dL_isAdded_267 ?_
        refine lv_topi (fun y9 ey9 => ?_)
        have ey9 : (nI (n + ct)) = y9 := (ey9.trans hG2.1).symm
        subst ey9
        refine n_icmp_ne (x := (n + ct)) (y := (n + ct)) (tgt := 310) hx hb (by omega) (by omega) dL_isAdded_268 (by decide) (fun c268 => absurd c268 (by omega)) (fun c268 => ?_)
        refine lv_aload_n hx hb dL_isAdded_271 rfl (lv_at hl 4 rfl) ?_
        refine lv_iload hx hb dL_isAdded_272 (lv_at hl 0 rfl) ?_
        refine call_Pi (wa := [(gq, .inl (cI, 3, .inl (upd g 0 (nI (n + ct)))))]) (w0 := wb6) (w1 := wb6) (As := [.int (nI n)]) (rest := []) hx hb hml hown hAW hN (sp_value l D cI cZ q hW6 (by omega)) q465 q466 q467 q22 q468 hd_X9_value (by rw [hR]; exact Nat.le_of_ble_eq_true rfl) (by rw [hR]; exact Nat.le_of_ble_eq_true rfl) hK hP hD hS hA hW6.hd rfl rfl hl.1 rfl (lv_room (Nat.le_of_ble_eq_true rfl)) dL_isAdded_274 (by rw [hR]; show 0 ≤ 1; omega) (by rw [hR]; show 0 ≤ 6; omega) (fun H locs hP hD hS => ?_)
        refine lv_iload hx hb dL_isAdded_277 (lv_at hl 7 rfl) ?_
        refine lv_icmp_ne (tgt := 310) hx hb dL_isAdded_279 (by decide) (fun c279 => absurd c279 (fun z => z (run_first f3 (by omega)))) (fun c279 => ?_)
        refine lv_aload_n hx hb dL_isAdded_282 rfl (lv_at hl 4 rfl) ?_
        refine lv_aload_n hx hb dL_isAdded_283 rfl (lv_at hl 5 rfl) ?_
        refine lv_iconst (v := 0) hx hb dL_isAdded_284 (by decide) ?_
        refine n_iald (D := D) (f := (upd g 0 (nI (n + ct)))) (i := 0) hx hb hK hP 0 0 rfl rfl (by decide) (by decide) dL_isAdded_285 ?_
        refine lv_topi (fun y9 ey9 => ?_)
        have ey9 : (nI (n + ct)) = y9 := (ey9.trans hG2.1).symm
        subst ey9
        refine lv_iconst (v := 1) hx hb dL_isAdded_286 (by decide) ?_
        refine n_isub (x := (n + ct)) (y := 1) hx hb (by omega) dL_isAdded_287 ?_
        refine call_Pi (wa := [(gq, .inl (cI, 3, .inl (upd g 0 (nI (n + ct)))))]) (w0 := wb6) (w1 := wb6) (As := [.int (nI ((n + ct) - 1))]) (rest := []) hx hb hml hown hAW hN (sp_value l D cI cZ q hW6 (by omega)) q465 q466 q467 q22 q468 hd_X9_value (by rw [hR]; exact Nat.le_of_ble_eq_true rfl) (by rw [hR]; exact Nat.le_of_ble_eq_true rfl) hK hP hD hS hA hW6.hd rfl rfl hl.1 rfl (lv_room (Nat.le_of_ble_eq_true rfl)) dL_isAdded_288 (by rw [hR]; show 0 ≤ 1; omega) (by rw [hR]; show 0 ≤ 6; omega) (fun H locs hP hD hS => ?_)
        refine lv_iload hx hb dL_isAdded_291 (lv_at hl 6 rfl) ?_
        refine n_if_eq (x := 1) (tgt := 301) hx hb (by omega) dL_isAdded_293 (by decide) (fun c293 => absurd c293 (by decide)) (fun c293 => ?_)
        refine lv_iload hx hb dL_isAdded_296 (lv_at hl 10 rfl) ?_
        refine lv_goto (tgt := 303) hx hb dL_isAdded_298 (by decide) ?_
        refine lv_icmp_ne (tgt := 310) hx hb dL_isAdded_303 (by decide) (fun c303 => absurd c303 (fun z => z (run_last f3 (by omega)))) (fun c303 => ?_)
        refine lv_iconst (v := 1) hx hb dL_isAdded_306 (by decide) ?_
        refine lv_goto (tgt := 311) hx hb dL_isAdded_307 (by decide) ?_
        refine lv_istore (lv' := [(14, .int 1), (13, .int (nI n)), (12, .int (nI (al6.2.2.2 - al.2.2.2))), (11, .int (nI al.2.2.2)), (10, .int (zb rt)), (0, .ref (q 0)), (1, .ref gq), (5, .int 1), (6, .int fi), (7, .int sp), (8, .int (nI ct)), (9, .int (fi + (sp * ((nI ct) - 1))))]) hx hb dL_isAdded_311 hl (by decide) rfl (fun ls hl => ?_)
        refine lv_aload_n hx hb dL_isAdded_313 rfl (lv_at hl 5 rfl) ?_
        refine call_Pi (wa := [(gq, .inl (cI, 3, .inl (upd g 0 (nI (n + ct)))))]) (w0 := wb6) (w1 := wb6) (As := []) (rest := []) hx hb hml hown hAW hN (sp_alarms l D cI cZ q hW6) q643 q644 q645 q22 q646 hd_X9_alarms (by rw [hR]; exact Nat.le_of_ble_eq_true rfl) (by rw [hR]; exact Nat.le_of_ble_eq_true rfl) hK hP hD hS hA hW6.hd rfl rfl hl.1 rfl (lv_room (Nat.le_of_ble_eq_true rfl)) dL_isAdded_314 (by rw [hR]; show 0 ≤ 1; omega) (by rw [hR]; show 0 ≤ 6; omega) (fun H locs hP hD hS => ?_)
        refine lv_iload hx hb dL_isAdded_317 (lv_at hl 3 rfl) ?_
        refine n_isub (x := al6.2.2.2) (y := al.2.2.2) hx hb f1 dL_isAdded_319 ?_
        refine lv_istore (lv' := [(15, .int (nI (al6.2.2.2 - al.2.2.2))), (14, .int 1), (13, .int (nI n)), (12, .int (nI (al6.2.2.2 - al.2.2.2))), (11, .int (nI al.2.2.2)), (10, .int (zb rt)), (0, .ref (q 0)), (1, .ref gq), (5, .int 1), (6, .int fi), (7, .int sp), (8, .int (nI ct)), (9, .int (fi + (sp * ((nI ct) - 1))))]) hx hb dL_isAdded_320 hl (by decide) rfl (fun ls hl => ?_)
        refine lv_iload hx hb dL_isAdded_322 (lv_at hl 1 rfl) ?_
        refine n_if_eq (x := 1) (tgt := 399) hx hb (by omega) dL_isAdded_324 (by decide) (fun c324 => absurd c324 (by decide)) (fun c324 => ?_)
        refine lv_iload hx hb dL_isAdded_327 (lv_at hl 8 rfl) ?_
        refine n_if_eq (x := 1) (tgt := 342) hx hb (by omega) dL_isAdded_329 (by decide) (fun c329 => absurd c329 (by decide)) (fun c329 => ?_)
        refine lv_iload hx hb dL_isAdded_332 (lv_at hl 3 rfl) ?_
        refine lv_iload hx hb dL_isAdded_334 (lv_at hl 0 rfl) ?_
        refine n_icmp_ne (x := (al6.2.2.2 - al.2.2.2)) (y := (al6.2.2.2 - al.2.2.2)) (tgt := 399) hx hb (by omega) (by omega) dL_isAdded_336 (by decide) (fun c336 => absurd c336 (by omega)) (fun c336 => ?_)
        refine lv_goto (tgt := 375) hx hb dL_isAdded_339 (by decide) ?_
        refine lv_iload hx hb dL_isAdded_375 (lv_at hl 0 rfl) ?_
        refine n_if_eq (x := (al6.2.2.2 - al.2.2.2)) (tgt := 395) hx hb (by omega) dL_isAdded_377 (by decide) (fun c377 => ?_) (fun c377 => ?_)
        · skip
          refine lv_iconst (v := 1) hx hb dL_isAdded_395 (by decide) ?_
          refine lv_goto (tgt := 400) hx hb dL_isAdded_396 (by decide) ?_
          refine W.widen (k := 1) (n := 6) (by omega) (by omega) ?_
          exact fin_z (v := 1) hx hb hr hlk hP hS rfl (⟨rfl, _, _, _, _, _, _, _, _, _, _, _, rfl, hW6, hG2⟩) (ad_app rfl (hW6.ads.trans hW.ads.symm)) hQ dL_isAdded_400
        · skip
          refine lv_aload_n hx hb dL_isAdded_380 rfl (lv_at hl 6 rfl) ?_
          refine lv_aload_n hx hb dL_isAdded_381 rfl (lv_at hl 6 rfl) ?_
          refine call_Pi (wa := [(gq, .inl (cI, 3, .inl (upd g 0 (nI (n + ct)))))]) (w0 := wb6) (w1 := wb6) (As := []) (rest := [.ref (q 0)]) hx hb hml hown hAW hN (sp_alarms l D cI cZ q hW6) q643 q644 q645 q22 q646 hd_X9_alarms (by rw [hR]; exact Nat.le_of_ble_eq_true rfl) (by rw [hR]; exact Nat.le_of_ble_eq_true rfl) hK hP hD hS hA hW6.hd rfl rfl hl.1 rfl (lv_room (Nat.le_of_ble_eq_true rfl)) dL_isAdded_382 (by rw [hR]; show 0 ≤ 1; omega) (by rw [hR]; show 0 ≤ 6; omega) (fun H locs hP hD hS => ?_)
          refine lv_iconst (v := 1) hx hb dL_isAdded_385 (by decide) ?_
          refine n_isub (x := al6.2.2.2) (y := 1) hx hb (by omega) dL_isAdded_386 ?_
          refine call_Pi (wa := [(gq, .inl (cI, 3, .inl (upd g 0 (nI (n + ct)))))]) (w0 := wb6) (w1 := wb6) (As := [.int (nI (al6.2.2.2 - 1))]) (rest := []) hx hb hml hown hAW hN (sp_alarmNumber l D cI cZ q hW6 (by omega)) q500 q501 q502 q22 q503 hd_X9_alarmNumber (by rw [hR]; exact Nat.le_of_ble_eq_true rfl) (by rw [hR]; exact Nat.le_of_ble_eq_true rfl) hK hP hD hS hA hW6.hd rfl rfl hl.1 rfl (lv_room (Nat.le_of_ble_eq_true rfl)) dL_isAdded_387 (by rw [hR]; show 0 ≤ 1; omega) (by rw [hR]; show 0 ≤ 6; omega) (fun H locs hP hD hS => ?_)
          refine lv_iload hx hb dL_isAdded_390 (lv_at hl 2 rfl) ?_
          have hnb := hW6.pv.num (al6.2.2.2 - 1) (by omega)
          refine n_icmp_lt (x := (al6.2.1 (al6.2.2.2 - 1))) (y := n) (tgt := 399) hx hb (by omega) (by omega) dL_isAdded_392 (by decide) (fun c392 => absurd c392 (Nat.not_lt.mpr (f2 _ (by omega) (by omega)))) (fun c392 => ?_)
          refine lv_iconst (v := 1) hx hb dL_isAdded_395 (by decide) ?_
          refine lv_goto (tgt := 400) hx hb dL_isAdded_396 (by decide) ?_
          refine W.widen (k := 1) (n := 6) (by omega) (by omega) ?_
          exact fin_z (v := 1) hx hb hr hlk hP hS rfl (⟨rfl, _, _, _, _, _, _, _, _, _, _, _, rfl, hW6, hG2⟩) (ad_app rfl (hW6.ads.trans hW.ads.symm)) hQ dL_isAdded_400
    refine lv_icmp_lt (tgt := 176) hx hb dL_isAdded_119 (by decide) (fun c119 => ?_) (fun c119 => ?_)
    · skip
      refine lv_iconst (v := 0) hx hb dL_isAdded_176 (by decide) ?_
      exact J177 false wL81 ⟨fun z => Bool.noConfusion z, fun _ z => absurd c119 (Int32.not_lt.mpr z.1.1)⟩ hWL81 _ _ hP hD hS ls (lv_sub hl [3, 4, 6, 7, 2, 1, 0] rfl)
    · skip
      refine lv_iload hx hb dL_isAdded_122 (lv_at hl 7 rfl) ?_
      refine lv_sipush (v := 1000) hx hb dL_isAdded_124 (by decide) ?_
      refine lv_icmp_gt (tgt := 176) hx hb dL_isAdded_127 (by decide) (fun c127 => ?_) (fun c127 => ?_)
      · skip
        refine lv_iconst (v := 0) hx hb dL_isAdded_176 (by decide) ?_
        exact J177 false wL81 ⟨fun z => Bool.noConfusion z, fun _ z => absurd c127 (Int32.not_lt.mpr z.1.2)⟩ hWL81 _ _ hP hD hS ls (lv_sub hl [3, 4, 6, 7, 2, 1, 0] rfl)
      · skip
        refine lv_iload hx hb dL_isAdded_130 (lv_at hl 6 rfl) ?_
        refine n_if_eq (x := 1) (tgt := 172) hx hb (by omega) dL_isAdded_132 (by decide) (fun c132 => absurd c132 (by decide)) (fun c132 => ?_)
        refine lv_iload hx hb dL_isAdded_135 (lv_at hl 2 rfl) ?_
        refine lv_sipush (v := (-1000)) hx hb dL_isAdded_137 (by decide) ?_
        refine lv_icmp_lt (tgt := 176) hx hb dL_isAdded_140 (by decide) (fun c140 => ?_) (fun c140 => ?_)
        · skip
          refine lv_iconst (v := 0) hx hb dL_isAdded_176 (by decide) ?_
          exact J177 false wL81 ⟨fun z => Bool.noConfusion z, fun _ z => absurd c140 (Int32.not_lt.mpr z.2.1.1)⟩ hWL81 _ _ hP hD hS ls (lv_sub hl [3, 4, 6, 7, 2, 1, 0] rfl)
        · skip
          refine lv_iload hx hb dL_isAdded_143 (lv_at hl 2 rfl) ?_
          refine lv_sipush (v := 1000) hx hb dL_isAdded_145 (by decide) ?_
          refine lv_icmp_gt (tgt := 176) hx hb dL_isAdded_148 (by decide) (fun c148 => ?_) (fun c148 => ?_)
          · skip
            refine lv_iconst (v := 0) hx hb dL_isAdded_176 (by decide) ?_
            exact J177 false wL81 ⟨fun z => Bool.noConfusion z, fun _ z => absurd c148 (Int32.not_lt.mpr z.2.1.2)⟩ hWL81 _ _ hP hD hS ls (lv_sub hl [3, 4, 6, 7, 2, 1, 0] rfl)
          · skip
            refine lv_iload hx hb dL_isAdded_151 (lv_at hl 1 rfl) ?_
            refine n_if_le (x := ct) (tgt := 176) hx hb (by omega) dL_isAdded_153 (by decide) (fun c153 => ?_) (fun c153 => ?_)
            · skip
              refine lv_iconst (v := 0) hx hb dL_isAdded_176 (by decide) ?_
              exact J177 false wL81 ⟨fun z => Bool.noConfusion z, fun _ z => absurd z.2.2.1 (by omega)⟩ hWL81 _ _ hP hD hS ls (lv_sub hl [3, 4, 6, 7, 2, 1, 0] rfl)
            · skip
              refine lv_iload hx hb dL_isAdded_156 (lv_at hl 0 rfl) ?_
              refine lv_sipush (v := (-1000)) hx hb dL_isAdded_158 (by decide) ?_
              refine lv_icmp_lt (tgt := 176) hx hb dL_isAdded_161 (by decide) (fun c161 => ?_) (fun c161 => ?_)
              · skip
                refine lv_iconst (v := 0) hx hb dL_isAdded_176 (by decide) ?_
                exact J177 false wL81 ⟨fun z => Bool.noConfusion z, fun _ z => absurd c161 (Int32.not_lt.mpr z.2.2.2.1)⟩ hWL81 _ _ hP hD hS ls (lv_sub hl [3, 4, 6, 7, 2, 1, 0] rfl)
              · skip
                refine lv_iload hx hb dL_isAdded_164 (lv_at hl 0 rfl) ?_
                refine lv_sipush (v := 1000) hx hb dL_isAdded_166 (by decide) ?_
                refine lv_icmp_gt (tgt := 176) hx hb dL_isAdded_169 (by decide) (fun c169 => ?_) (fun c169 => ?_)
                · skip
                  refine lv_iconst (v := 0) hx hb dL_isAdded_176 (by decide) ?_
                  exact J177 false wL81 ⟨fun z => Bool.noConfusion z, fun _ z => absurd c169 (Int32.not_lt.mpr z.2.2.2.2)⟩ hWL81 _ _ hP hD hS ls (lv_sub hl [3, 4, 6, 7, 2, 1, 0] rfl)
                · skip
                  refine lv_iconst (v := 1) hx hb dL_isAdded_172 (by decide) ?_
                  refine lv_goto (tgt := 177) hx hb dL_isAdded_173 (by decide) ?_
                  exact J177 true wL81 ⟨fun _ => ⟨⟨Int32.not_lt.mp c119, Int32.not_lt.mp c127⟩, ⟨Int32.not_lt.mp c140, Int32.not_lt.mp c148⟩, c153, Int32.not_lt.mp c161, Int32.not_lt.mp c169⟩, fun z => Bool.noConfusion z⟩ hWL81 _ _ hP hD hS ls (lv_sub hl [3, 4, 6, 7, 2, 1, 0] rfl)
  refine n_if_ne (x := (c9 % 6)) (tgt := 75) hx hb (by omega) dL_isAdded_60 (by decide) (fun c60 => ?_) (fun c60 => ?_)
  · skip
    refine lv_iload_n hx hb dL_isAdded_75 rfl (lv_at hl 5 rfl) ?_
    refine lv_bipush (v := 9) hx hb dL_isAdded_76 (by decide) ?_
    refine n_irem (x := b) (y := 9) hx hb (by omega) (by omega) (by omega) dL_isAdded_78 ?_
    refine lv_iconst (v := 4) hx hb dL_isAdded_79 (by decide) ?_
    refine lv_isub hx hb dL_isAdded_80 ?_
    exact J81 ((nI (b % 9)) - 4) wb  hW _ _ hP hD hS ls (lv_sub hl [2, 3, 6, 1, 0] rfl)
  · skip
    refine lv_iload_n hx hb dL_isAdded_63 rfl (lv_at hl 5 rfl) ?_
    refine lv_sipush (v := 2005) hx hb dL_isAdded_64 (by decide) ?_
    refine n_irem (x := b) (y := 2005) hx hb (by omega) (by omega) (by omega) dL_isAdded_67 ?_
    refine lv_sipush (v := 1002) hx hb dL_isAdded_68 (by decide) ?_
    refine lv_isub hx hb dL_isAdded_71 ?_
    refine lv_goto (tgt := 81) hx hb dL_isAdded_72 (by decide) ?_
    exact J81 ((nI (b % 2005)) - 1002) wb  hW _ _ hP hD hS ls (lv_sub hl [2, 3, 6, 1, 0] rfl)

set_option maxHeartbeats 4000000 in
set_option maxRecDepth 100000 in
theorem cl_isAdded0 (l : Launch) (hl0 : l.stackTraces = false) (D : va_G) (cI cZ : ClassId) (q : Nat → Nat) {v : Nat → Int32} {n : Nat} {pn : Int32} {al : AlS} {cs : CsS} {ph : PhS} {tm : Nat → Bool} {bx bg : CuS} {gq : Nat} {g : Nat → Int32} {wb : va_W} {a b c9 : Nat} (hW : PW cI cZ q v n pn al cs ph tm bx bg wb) (hG : GK g n pn tm) (ha : a < 10000) (hb9 : b < 10000) (hc9 : c9 < 10000) (hc3 : 0 < c9 % 3) : Cz l yL_isAdded (aw yL_isAdded cL_isAdded 16 (some .boolean)) ({ frames := 11, cells := 1, slots := 6, locals := 220 }) D cI cZ [.ref (q 0), .ref gq, .int (nI a), .int (nI b), .int (nI c9)] (([gC cI gq g] ++ wb)) (fun rr ww => rr = 1 ∧ LI cI cZ q gq ww) 1 6 := by
  refine mk_z (y := yL_isAdded) (av := [.ref (q 0), .ref gq, .int (nI a), .int (nI b), .int (nI c9)]) (cc := cL_isAdded) (maxL := 16) (ret := (some .boolean)) (plainFor_of_name (by decide)) (Nat.le_of_ble_eq_true rfl) ?_
  intro p e s m args below meth c A Q R hR hQ hx hb hr hml hAW hown hlk hN hT hNc hA hP hK hD hS ls hl
  have hl : lv_has ls 16 [(0, .ref (q 0)), (1, .ref gq), (2, .int (nI a)), (3, .int (nI b)), (4, .int (nI c9))] := hl
  have hn := hW.pv.1
  have hpv := hW.pv
  have h3n := hpv.2.2.2.1
  refine lv_iload hx hb dL_isAdded_0 (lv_at hl 4 rfl) ?_
  refine lv_iconst (v := 3) hx hb dL_isAdded_2 (by decide) ?_
  refine n_irem (x := c9) (y := 3) hx hb (by omega) (by omega) (by omega) dL_isAdded_3 ?_
  refine n_if_ne (x := (c9 % 3)) (tgt := 11) hx hb (by omega) dL_isAdded_4 (by decide) (fun c4 => ?_) (fun c4 => absurd c4 (by omega))
  refine lv_iconst (v := 0) hx hb dL_isAdded_11 (by decide) ?_
  refine lv_istore (lv' := [(5, .int 0), (0, .ref (q 0)), (1, .ref gq), (2, .int (nI a)), (3, .int (nI b)), (4, .int (nI c9))]) hx hb dL_isAdded_12 hl (by decide) rfl (fun ls hl => ?_)
  refine lv_iload hx hb dL_isAdded_14 (lv_at hl 0 rfl) ?_
  refine n_if_eq (x := 0) (tgt := 31) hx hb (by omega) dL_isAdded_16 (by decide) (fun c16 => ?_) (fun c16 => absurd c16 (by decide))
  refine lv_iload_n hx hb dL_isAdded_31 rfl (lv_at hl 4 rfl) ?_
  refine lv_iconst (v := 4) hx hb dL_isAdded_32 (by decide) ?_
  refine n_irem (x := b) (y := 4) hx hb (by omega) (by omega) (by omega) dL_isAdded_33 ?_
  have J53 : ∀ (fi : Int32) (wL53 : va_W), PW cI cZ q v n pn al cs ph tm bx bg wL53 → ∀ (H : Heap) (locs : List Loc), va_P D vwCl ([(gq, .inl (cI, 3, .inl g))] ++ wL53) H → va_D A ([(gq, .inl (cI, 3, .inl g))] ++ wL53) → va_S A s.heap H locs → ∀ (ls : Array Slot), lv_has ls 16 [(0, .ref (q 0)), (1, .ref gq), (2, .int (nI a)), (3, .int (nI b)), (4, .int (nI c9)), (5, .int 0)] → W p l e R s m args below meth c H locs (0) (0) Q (F0 m 53 ls [.int fi]) := by
    intro fi wL53 hWL53 H locs hP hD hS ls hl
    refine lv_istore (lv' := [(6, .int fi), (0, .ref (q 0)), (1, .ref gq), (2, .int (nI a)), (3, .int (nI b)), (4, .int (nI c9)), (5, .int 0)]) hx hb dL_isAdded_53 hl (by decide) rfl (fun ls hl => ?_)
    refine lv_iload hx hb dL_isAdded_55 (lv_at hl 5 rfl) ?_
    refine lv_bipush (v := 6) hx hb dL_isAdded_57 (by decide) ?_
    refine n_irem (x := c9) (y := 6) hx hb (by omega) (by omega) (by omega) dL_isAdded_59 ?_
    refine n_if_ne (x := (c9 % 6)) (tgt := 75) hx hb (by omega) dL_isAdded_60 (by decide) (fun c60 => ?_) (fun c60 => absurd c60 (by omega))
    refine lv_iload_n hx hb dL_isAdded_75 rfl (lv_at hl 4 rfl) ?_
    refine lv_bipush (v := 9) hx hb dL_isAdded_76 (by decide) ?_
    refine n_irem (x := b) (y := 9) hx hb (by omega) (by omega) (by omega) dL_isAdded_78 ?_
    refine lv_iconst (v := 4) hx hb dL_isAdded_79 (by decide) ?_
    refine lv_isub hx hb dL_isAdded_80 ?_
    refine lv_topi (fun sp esp => ?_)
    refine lv_istore (lv' := [(7, .int sp), (6, .int fi), (0, .ref (q 0)), (1, .ref gq), (2, .int (nI a)), (3, .int (nI b)), (4, .int (nI c9)), (5, .int 0)]) hx hb dL_isAdded_81 hl (by decide) rfl (fun ls hl => ?_)
    refine lv_iload hx hb dL_isAdded_83 (lv_at hl 7 rfl) ?_
    refine n_if_eq (x := 0) (tgt := 99) hx hb (by omega) dL_isAdded_85 (by decide) (fun c85 => ?_) (fun c85 => absurd c85 (by decide))
    refine lv_iconst (v := 1) hx hb dL_isAdded_99 (by decide) ?_
    refine lv_istore (lv' := [(8, .int 1), (7, .int sp), (6, .int fi), (0, .ref (q 0)), (1, .ref gq), (2, .int (nI a)), (3, .int (nI b)), (4, .int (nI c9)), (5, .int 0)]) hx hb dL_isAdded_100 hl (by decide) rfl (fun ls hl => ?_)
    refine lv_iload hx hb dL_isAdded_102 (lv_at hl 2 rfl) ?_
    refine lv_iload hx hb dL_isAdded_104 (lv_at hl 1 rfl) ?_
    refine lv_iload hx hb dL_isAdded_106 (lv_at hl 0 rfl) ?_
    refine lv_iconst (v := 1) hx hb dL_isAdded_108 (by decide) ?_
    refine n_isub (x := 1) (y := 1) hx hb (by omega) dL_isAdded_109 ?_
    refine lv_imul hx hb dL_isAdded_110 ?_
    refine lv_iadd hx hb dL_isAdded_111 ?_
    refine lv_topi (fun la ela => ?_)
    refine lv_istore (lv' := [(9, .int la), (8, .int 1), (7, .int sp), (6, .int fi), (0, .ref (q 0)), (1, .ref gq), (2, .int (nI a)), (3, .int (nI b)), (4, .int (nI c9)), (5, .int 0)]) hx hb dL_isAdded_112 hl (by decide) rfl (fun ls hl => ?_)
    refine lv_iload hx hb dL_isAdded_114 (lv_at hl 3 rfl) ?_
    refine lv_sipush (v := (-1000)) hx hb dL_isAdded_116 (by decide) ?_
    have J177 : ∀ (rt : Bool) (wL177 : va_W), ((rt = true → (-1000) ≤ fi ∧ fi ≤ 1000) ∧ (rt = false → ¬ ((-1000) ≤ fi ∧ fi ≤ 1000))) → PW cI cZ q v n pn al cs ph tm bx bg wL177 → ∀ (H : Heap) (locs : List Loc), va_P D vwCl ([(gq, .inl (cI, 3, .inl g))] ++ wL177) H → va_D A ([(gq, .inl (cI, 3, .inl g))] ++ wL177) → va_S A s.heap H locs → ∀ (ls : Array Slot), lv_has ls 16 [(0, .ref (q 0)), (1, .ref gq), (5, .int 0), (6, .int fi), (7, .int sp), (8, .int 1), (9, .int la)] → W p l e R s m args below meth c H locs (0) (0) Q (F0 m 177 ls [.int (zb rt)]) := by
      intro rt wL177 hrt hWL177 H locs hP hD hS ls hl
      refine lv_istore (lv' := [(10, .int (zb rt)), (0, .ref (q 0)), (1, .ref gq), (5, .int 0), (6, .int fi), (7, .int sp), (8, .int 1), (9, .int la)]) hx hb dL_isAdded_177 hl (by decide) rfl (fun ls hl => ?_)
      refine lv_aload_n hx hb dL_isAdded_179 rfl (lv_at hl 1 rfl) ?_
      refine call_Pi (wa := [(gq, .inl (cI, 3, .inl g))]) (w0 := wL177) (w1 := wL177) (As := []) (rest := []) hx hb hml hown hAW hN (sp_alarms l D cI cZ q hWL177) q643 q644 q645 q22 q646 hd_X9_alarms (by rw [hR]; exact Nat.le_of_ble_eq_true rfl) (by rw [hR]; exact Nat.le_of_ble_eq_true rfl) hK hP hD hS hA hWL177.hd rfl rfl hl.1 rfl (lv_room (Nat.le_of_ble_eq_true rfl)) dL_isAdded_180 (by rw [hR]; show 0 ≤ 1; omega) (by rw [hR]; show 0 ≤ 6; omega) (fun H locs hP hD hS => ?_)
      refine lv_istore (lv' := [(11, .int (nI al.2.2.2)), (10, .int (zb rt)), (0, .ref (q 0)), (1, .ref gq), (5, .int 0), (6, .int fi), (7, .int sp), (8, .int 1), (9, .int la)]) hx hb dL_isAdded_183 hl (by decide) rfl (fun ls hl => ?_)
      refine lv_aload_n hx hb dL_isAdded_185 rfl (lv_at hl 2 rfl) ?_
      refine lv_iload hx hb dL_isAdded_186 (lv_at hl 4 rfl) ?_
      refine lv_iload hx hb dL_isAdded_188 (lv_at hl 5 rfl) ?_
      refine lv_iload hx hb dL_isAdded_190 (lv_at hl 6 rfl) ?_
      refine lv_iload hx hb dL_isAdded_192 (lv_at hl 7 rfl) ?_
      rcases (show rt = false ∨ (rt = true ∧ 120 < n + 1) ∨ (rt = true ∧ n + 1 ≤ 120) by cases rt with
      | false => exact Or.inl rfl
      | true => rcases Nat.lt_or_ge 120 (n + 1) with z | z
                · exact Or.inr (Or.inl ⟨rfl, z⟩)
                · exact Or.inr (Or.inr ⟨rfl, z⟩)) with z9 | ⟨z8, z9⟩ | ⟨z8, z9⟩
      · skip
        refine call_Hi (wa := [(gq, .inl (cI, 3, .inl g))]) (w0 := wL177) (w1 := wL177) (As := [.ref (q 0), .int 0, .int fi, .int sp, .int 1]) (rest := []) hx hb hml hown hAW hN hT hNc (sh_adds0x1 l hl0 D cI cZ q hWL177 (x := fi) sp 1 (hrt.2 z9)) q391 q392 q21 qw_adds hd_L_adds (by rw [hR]; exact Nat.le_of_ble_eq_true rfl) (by rw [hR]; exact Nat.le_of_ble_eq_true rfl) hK hP hD hS hA rfl rfl hl.1 rfl (lv_room (Nat.le_of_ble_eq_true rfl)) dL_isAdded_194 (by rw [hR]; show 1 ≤ 1; omega) (by rw [hR]; show 6 ≤ 6; omega) (fun H locs hP hD hS => ?_)
        refine lv_istore (lv' := [(12, .int (-20)), (11, .int (nI al.2.2.2)), (10, .int (zb rt)), (0, .ref (q 0)), (1, .ref gq), (5, .int 0), (6, .int fi), (7, .int sp), (8, .int 1), (9, .int la)]) hx hb dL_isAdded_197 hl (by decide) rfl (fun ls hl => ?_)
        refine lv_iload hx hb dL_isAdded_199 (lv_at hl 2 rfl) ?_
        refine z_if_eq (x := rt) (tgt := 215) hx hb dL_isAdded_201 (by decide) (fun c201 => ?_) (fun c201 => absurd c201 (by rw [z9]; decide))
        refine lv_iload hx hb dL_isAdded_215 (lv_at hl 0 rfl) ?_
        refine lv_iload hx hb dL_isAdded_217 (lv_at hl 2 rfl) ?_
        refine z_if_eq (x := rt) (tgt := 227) hx hb dL_isAdded_219 (by decide) (fun c219 => ?_) (fun c219 => absurd c219 (by rw [z9]; decide))
        refine lv_bipush (v := (-20)) hx hb dL_isAdded_227 (by decide) ?_
        refine lv_icmp_ne (tgt := 246) hx hb dL_isAdded_229 (by decide) (fun c229 => absurd c229 (fun z => z rfl)) (fun c229 => ?_)
        refine lv_aload_n hx hb dL_isAdded_232 rfl (lv_at hl 3 rfl) ?_
        refine call_Pi (wa := [(gq, .inl (cI, 3, .inl g))]) (w0 := wL177) (w1 := wL177) (As := []) (rest := []) hx hb hml hown hAW hN (sp_size l D cI cZ q hWL177) q729 q730 q731 q22 q732 hd_X9_size (by rw [hR]; exact Nat.le_of_ble_eq_true rfl) (by rw [hR]; exact Nat.le_of_ble_eq_true rfl) hK hP hD hS hA hWL177.hd rfl rfl hl.1 rfl (lv_room (Nat.le_of_ble_eq_true rfl)) dL_isAdded_233 (by rw [hR]; show 1 ≤ 1; omega) (by rw [hR]; show 6 ≤ 6; omega) (fun H locs hP hD hS => ?_)
        refine lv_aload_n hx hb dL_isAdded_236 rfl (lv_at hl 4 rfl) ?_
        refine lv_iconst (v := 0) hx hb dL_isAdded_237 (by decide) ?_
        refine n_iald (D := D) (f := g) (i := 0) hx hb hK hP 0 0 rfl rfl (by decide) (by decide) dL_isAdded_238 ?_
        refine lv_topi (fun y9 ey9 => ?_)
        have ey9 : (nI n) = y9 := (ey9.trans hG.1).symm
        subst ey9
        refine n_icmp_ne (x := n) (y := n) (tgt := 246) hx hb (by omega) (by omega) dL_isAdded_239 (by decide) (fun c239 => absurd c239 (by omega)) (fun c239 => ?_)
        refine lv_iconst (v := 1) hx hb dL_isAdded_242 (by decide) ?_
        refine lv_goto (tgt := 247) hx hb dL_isAdded_243 (by decide) ?_
        exact fin_z (v := 1) hx hb hr hlk hP hS rfl (⟨rfl, _, _, _, _, _, _, _, _, _, _, _, rfl, hWL177, hG⟩) (ad_app rfl (hWL177.ads.trans hW.ads.symm)) hQ dL_isAdded_247
      · skip
        refine call_Hi (wa := [(gq, .inl (cI, 3, .inl g))]) (w0 := wL177) (w1 := wL177) (As := [.ref (q 0), .int 0, .int fi, .int sp, .int 1]) (rest := []) hx hb hml hown hAW hN hT hNc (sh_adds0x2 l hl0 D cI cZ q hWL177 (x := fi) sp 1 (hrt.1 z8) (by omega)) q391 q392 q21 qw_adds hd_L_adds (by rw [hR]; exact Nat.le_of_ble_eq_true rfl) (by rw [hR]; exact Nat.le_of_ble_eq_true rfl) hK hP hD hS hA rfl rfl hl.1 rfl (lv_room (Nat.le_of_ble_eq_true rfl)) dL_isAdded_194 (by rw [hR]; show 1 ≤ 1; omega) (by rw [hR]; show 6 ≤ 6; omega) (fun H locs hP hD hS => ?_)
        refine lv_istore (lv' := [(12, .int (-10)), (11, .int (nI al.2.2.2)), (10, .int (zb rt)), (0, .ref (q 0)), (1, .ref gq), (5, .int 0), (6, .int fi), (7, .int sp), (8, .int 1), (9, .int la)]) hx hb dL_isAdded_197 hl (by decide) rfl (fun ls hl => ?_)
        refine lv_iload hx hb dL_isAdded_199 (lv_at hl 2 rfl) ?_
        refine z_if_eq (x := rt) (tgt := 215) hx hb dL_isAdded_201 (by decide) (fun c201 => absurd c201 (by rw [z8]; decide)) (fun c201 => ?_)
        refine lv_aload_n hx hb dL_isAdded_204 rfl (lv_at hl 4 rfl) ?_
        refine lv_iconst (v := 0) hx hb dL_isAdded_205 (by decide) ?_
        refine n_iald (D := D) (f := g) (i := 0) hx hb hK hP 0 0 rfl rfl (by decide) (by decide) dL_isAdded_206 ?_
        refine lv_topi (fun y9 ey9 => ?_)
        have ey9 : (nI n) = y9 := (ey9.trans hG.1).symm
        subst ey9
        refine lv_iload hx hb dL_isAdded_207 (lv_at hl 8 rfl) ?_
        refine n_iadd (x := n) (y := 1) hx hb dL_isAdded_209 ?_
        refine lv_bipush (v := 120) hx hb dL_isAdded_210 (by decide) ?_
        refine n_icmp_le (x := (n + 1)) (y := 120) (tgt := 248) hx hb (by omega) (by omega) dL_isAdded_212 (by decide) (fun c212 => absurd c212 (by omega)) (fun c212 => ?_)
        refine lv_iload hx hb dL_isAdded_215 (lv_at hl 0 rfl) ?_
        refine lv_iload hx hb dL_isAdded_217 (lv_at hl 2 rfl) ?_
        refine z_if_eq (x := rt) (tgt := 227) hx hb dL_isAdded_219 (by decide) (fun c219 => absurd c219 (by rw [z8]; decide)) (fun c219 => ?_)
        refine lv_bipush (v := (-10)) hx hb dL_isAdded_222 (by decide) ?_
        refine lv_goto (tgt := 229) hx hb dL_isAdded_224 (by decide) ?_
        refine lv_icmp_ne (tgt := 246) hx hb dL_isAdded_229 (by decide) (fun c229 => absurd c229 (fun z => z rfl)) (fun c229 => ?_)
        refine lv_aload_n hx hb dL_isAdded_232 rfl (lv_at hl 3 rfl) ?_
        refine call_Pi (wa := [(gq, .inl (cI, 3, .inl g))]) (w0 := wL177) (w1 := wL177) (As := []) (rest := []) hx hb hml hown hAW hN (sp_size l D cI cZ q hWL177) q729 q730 q731 q22 q732 hd_X9_size (by rw [hR]; exact Nat.le_of_ble_eq_true rfl) (by rw [hR]; exact Nat.le_of_ble_eq_true rfl) hK hP hD hS hA hWL177.hd rfl rfl hl.1 rfl (lv_room (Nat.le_of_ble_eq_true rfl)) dL_isAdded_233 (by rw [hR]; show 1 ≤ 1; omega) (by rw [hR]; show 6 ≤ 6; omega) (fun H locs hP hD hS => ?_)
        refine lv_aload_n hx hb dL_isAdded_236 rfl (lv_at hl 4 rfl) ?_
        refine lv_iconst (v := 0) hx hb dL_isAdded_237 (by decide) ?_
        refine n_iald (D := D) (f := g) (i := 0) hx hb hK hP 0 0 rfl rfl (by decide) (by decide) dL_isAdded_238 ?_
        refine lv_topi (fun y9 ey9 => ?_)
        have ey9 : (nI n) = y9 := (ey9.trans hG.1).symm
        subst ey9
        refine n_icmp_ne (x := n) (y := n) (tgt := 246) hx hb (by omega) (by omega) dL_isAdded_239 (by decide) (fun c239 => absurd c239 (by omega)) (fun c239 => ?_)
        refine lv_iconst (v := 1) hx hb dL_isAdded_242 (by decide) ?_
        refine lv_goto (tgt := 247) hx hb dL_isAdded_243 (by decide) ?_
        exact fin_z (v := 1) hx hb hr hlk hP hS rfl (⟨rfl, _, _, _, _, _, _, _, _, _, _, _, rfl, hWL177, hG⟩) (ad_app rfl (hWL177.ads.trans hW.ads.symm)) hQ dL_isAdded_247
      · skip
        obtain ⟨wb6, v6, al6, cs6, ph6, bx6, bg6, bn, hW6, hM6, b8, f1, f2, f3⟩ := sh_adds0 l hl0 D cI cZ q hWL177 (x := fi) sp 1 (hrt.1 z8) (by omega)
        have h360b := hW6.pv.al360
        refine call_Hi (wa := [(gq, .inl (cI, 3, .inl g))]) (w0 := wL177) (w1 := wb6) (As := [.ref (q 0), .int 0, .int fi, .int sp, .int 1]) (rest := []) hx hb hml hown hAW hN hT hNc hM6 q391 q392 q21 qw_adds hd_L_adds (by rw [hR]; exact Nat.le_of_ble_eq_true rfl) (by rw [hR]; exact Nat.le_of_ble_eq_true rfl) hK hP hD hS hA (hW6.ads.trans hWL177.ads.symm) rfl hl.1 rfl (lv_room (Nat.le_of_ble_eq_true rfl)) dL_isAdded_194 (by rw [hR]; show 0 ≤ 1; omega) (by rw [hR]; show 0 ≤ 6; omega) (fun H locs hP hD hS => ?_)
        refine lv_istore (lv' := [(12, .int (nI bn)), (11, .int (nI al.2.2.2)), (10, .int (zb rt)), (0, .ref (q 0)), (1, .ref gq), (5, .int 0), (6, .int fi), (7, .int sp), (8, .int 1), (9, .int la)]) hx hb dL_isAdded_197 hl (by decide) rfl (fun ls hl => ?_)
        refine lv_iload hx hb dL_isAdded_199 (lv_at hl 2 rfl) ?_
        refine z_if_eq (x := rt) (tgt := 215) hx hb dL_isAdded_201 (by decide) (fun c201 => absurd c201 (by rw [z8]; decide)) (fun c201 => ?_)
        refine lv_aload_n hx hb dL_isAdded_204 rfl (lv_at hl 4 rfl) ?_
        refine lv_iconst (v := 0) hx hb dL_isAdded_205 (by decide) ?_
        refine n_iald (D := D) (f := g) (i := 0) hx hb hK hP 0 0 rfl rfl (by decide) (by decide) dL_isAdded_206 ?_
        refine lv_topi (fun y9 ey9 => ?_)
        have ey9 : (nI n) = y9 := (ey9.trans hG.1).symm
        subst ey9
        refine lv_iload hx hb dL_isAdded_207 (lv_at hl 8 rfl) ?_
        refine n_iadd (x := n) (y := 1) hx hb dL_isAdded_209 ?_
        refine lv_bipush (v := 120) hx hb dL_isAdded_210 (by decide) ?_
        refine n_icmp_le (x := (n + 1)) (y := 120) (tgt := 248) hx hb (by omega) (by omega) dL_isAdded_212 (by decide) (fun c212 => ?_) (fun c212 => absurd c212 (by omega))
        refine lv_aload_n hx hb dL_isAdded_248 rfl (lv_at hl 4 rfl) ?_
        refine lv_iconst (v := 0) hx hb dL_isAdded_249 (by decide) ?_
        refine n_iald (D := D) (f := g) (i := 0) hx hb hK hP 0 0 rfl rfl (by decide) (by decide) dL_isAdded_250 ?_
        refine lv_topi (fun y9 ey9 => ?_)
        have ey9 : (nI n) = y9 := (ey9.trans hG.1).symm
        subst ey9
        refine lv_istore (lv' := [(13, .int (nI n)), (12, .int (nI bn)), (11, .int (nI al.2.2.2)), (10, .int (zb rt)), (0, .ref (q 0)), (1, .ref gq), (5, .int 0), (6, .int fi), (7, .int sp), (8, .int 1), (9, .int la)]) hx hb dL_isAdded_251 hl (by decide) rfl (fun ls hl => ?_)
        refine lv_aload_n hx hb dL_isAdded_253 rfl (lv_at hl 5 rfl) ?_
        refine lv_iconst (v := 0) hx hb dL_isAdded_254 (by decide) ?_
        refine lv_dup2_11 hx hb dL_isAdded_255 rfl rfl ?_
        refine n_iald (D := D) (f := g) (i := 0) hx hb hK hP 0 0 rfl rfl (by decide) (by decide) dL_isAdded_256 ?_
        refine lv_topi (fun y9 ey9 => ?_)
        have ey9 : (nI n) = y9 := (ey9.trans hG.1).symm
        subst ey9
        refine lv_iload hx hb dL_isAdded_257 (lv_at hl 9 rfl) ?_
        refine n_iadd (x := n) (y := 1) hx hb dL_isAdded_259 ?_
        refine n_iast (D := D) (f := g) (i := 0) (x := (nI (n + 1))) hx hb hK hP hD hS 0 0 rfl rfl (by decide) (by decide) dL_isAdded_260 (fun H locs hP hD hS => ?_)
        have hP : va_P D vwCl ([(gq, .inl (cI, 3, .inl (upd g 0 (nI (n + 1)))))] ++ wb6) H := hP
        have hD : va_D A ([(gq, .inl (cI, 3, .inl (upd g 0 (nI (n + 1)))))] ++ wb6) := hD
        have hG2 := GK_n hG (n + 1)
        refine lv_aload_n hx hb dL_isAdded_261 rfl (lv_at hl 4 rfl) ?_
        refine call_Pi (wa := [(gq, .inl (cI, 3, .inl (upd g 0 (nI (n + 1)))))]) (w0 := wb6) (w1 := wb6) (As := []) (rest := []) hx hb hml hown hAW hN (sp_size l D cI cZ q hW6) q729 q730 q731 q22 q732 hd_X9_size (by rw [hR]; exact Nat.le_of_ble_eq_true rfl) (by rw [hR]; exact Nat.le_of_ble_eq_true rfl) hK hP hD hS hA hW6.hd rfl rfl hl.1 rfl (lv_room (Nat.le_of_ble_eq_true rfl)) dL_isAdded_262 (by rw [hR]; show 0 ≤ 1; omega) (by rw [hR]; show 0 ≤ 6; omega) (fun H locs hP hD hS => ?_)
        refine lv_aload_n hx hb dL_isAdded_265 rfl (lv_at hl 5 rfl) ?_
        refine lv_iconst (v := 0) hx hb dL_isAdded_266 (by decide) ?_
        refine n_iald (D := D) (f := (upd g 0 (nI (n + 1)))) (i := 0) hx hb hK hP 0 0 rfl rfl (by decide) (by decide) dL_isAdded_267 ?_
        refine lv_topi (fun y9 ey9 => ?_)
        have ey9 : (nI (n + 1)) = y9 := (ey9.trans hG2.1).symm
        subst ey9
        refine n_icmp_ne (x := (n + 1)) (y := (n + 1)) (tgt := 310) hx hb (by omega) (by omega) dL_isAdded_268 (by decide) (fun c268 => absurd c268 (by omega)) (fun c268 => ?_)
        refine lv_aload_n hx hb dL_isAdded_271 rfl (lv_at hl 4 rfl) ?_
        refine lv_iload hx hb dL_isAdded_272 (lv_at hl 0 rfl) ?_
        refine call_Pi (wa := [(gq, .inl (cI, 3, .inl (upd g 0 (nI (n + 1)))))]) (w0 := wb6) (w1 := wb6) (As := [.int (nI n)]) (rest := []) hx hb hml hown hAW hN (sp_value l D cI cZ q hW6 (by omega)) q465 q466 q467 q22 q468 hd_X9_value (by rw [hR]; exact Nat.le_of_ble_eq_true rfl) (by rw [hR]; exact Nat.le_of_ble_eq_true rfl) hK hP hD hS hA hW6.hd rfl rfl hl.1 rfl (lv_room (Nat.le_of_ble_eq_true rfl)) dL_isAdded_274 (by rw [hR]; show 0 ≤ 1; omega) (by rw [hR]; show 0 ≤ 6; omega) (fun H locs hP hD hS => ?_)
        refine lv_iload hx hb dL_isAdded_277 (lv_at hl 7 rfl) ?_
        refine lv_icmp_ne (tgt := 310) hx hb dL_isAdded_279 (by decide) (fun c279 => absurd c279 (fun z => z f3)) (fun c279 => ?_)
        refine lv_aload_n hx hb dL_isAdded_282 rfl (lv_at hl 4 rfl) ?_
        refine lv_aload_n hx hb dL_isAdded_283 rfl (lv_at hl 5 rfl) ?_
        refine lv_iconst (v := 0) hx hb dL_isAdded_284 (by decide) ?_
        refine n_iald (D := D) (f := (upd g 0 (nI (n + 1)))) (i := 0) hx hb hK hP 0 0 rfl rfl (by decide) (by decide) dL_isAdded_285 ?_
        refine lv_topi (fun y9 ey9 => ?_)
        have ey9 : (nI (n + 1)) = y9 := (ey9.trans hG2.1).symm
        subst ey9
        refine lv_iconst (v := 1) hx hb dL_isAdded_286 (by decide) ?_
        refine n_isub (x := (n + 1)) (y := 1) hx hb (by omega) dL_isAdded_287 ?_
        refine call_Pi (wa := [(gq, .inl (cI, 3, .inl (upd g 0 (nI (n + 1)))))]) (w0 := wb6) (w1 := wb6) (As := [.int (nI ((n + 1) - 1))]) (rest := []) hx hb hml hown hAW hN (sp_value l D cI cZ q hW6 (by omega)) q465 q466 q467 q22 q468 hd_X9_value (by rw [hR]; exact Nat.le_of_ble_eq_true rfl) (by rw [hR]; exact Nat.le_of_ble_eq_true rfl) hK hP hD hS hA hW6.hd rfl rfl hl.1 rfl (lv_room (Nat.le_of_ble_eq_true rfl)) dL_isAdded_288 (by rw [hR]; show 0 ≤ 1; omega) (by rw [hR]; show 0 ≤ 6; omega) (fun H locs hP hD hS => ?_)
        refine lv_iload hx hb dL_isAdded_291 (lv_at hl 6 rfl) ?_
        refine n_if_eq (x := 0) (tgt := 301) hx hb (by omega) dL_isAdded_293 (by decide) (fun c293 => ?_) (fun c293 => absurd c293 (by decide))
        refine lv_iload hx hb dL_isAdded_301 (lv_at hl 7 rfl) ?_
        refine lv_icmp_ne (tgt := 310) hx hb dL_isAdded_303 (by decide) (fun c303 => absurd c303 (fun z => z (by rw [Nat.add_sub_cancel]; exact f3))) (fun c303 => ?_)
        refine lv_iconst (v := 1) hx hb dL_isAdded_306 (by decide) ?_
        refine lv_goto (tgt := 311) hx hb dL_isAdded_307 (by decide) ?_
        refine lv_istore (lv' := [(14, .int 1), (13, .int (nI n)), (12, .int (nI bn)), (11, .int (nI al.2.2.2)), (10, .int (zb rt)), (0, .ref (q 0)), (1, .ref gq), (5, .int 0), (6, .int fi), (7, .int sp), (8, .int 1), (9, .int la)]) hx hb dL_isAdded_311 hl (by decide) rfl (fun ls hl => ?_)
        refine lv_aload_n hx hb dL_isAdded_313 rfl (lv_at hl 5 rfl) ?_
        refine call_Pi (wa := [(gq, .inl (cI, 3, .inl (upd g 0 (nI (n + 1)))))]) (w0 := wb6) (w1 := wb6) (As := []) (rest := []) hx hb hml hown hAW hN (sp_alarms l D cI cZ q hW6) q643 q644 q645 q22 q646 hd_X9_alarms (by rw [hR]; exact Nat.le_of_ble_eq_true rfl) (by rw [hR]; exact Nat.le_of_ble_eq_true rfl) hK hP hD hS hA hW6.hd rfl rfl hl.1 rfl (lv_room (Nat.le_of_ble_eq_true rfl)) dL_isAdded_314 (by rw [hR]; show 0 ≤ 1; omega) (by rw [hR]; show 0 ≤ 6; omega) (fun H locs hP hD hS => ?_)
        refine lv_iload hx hb dL_isAdded_317 (lv_at hl 3 rfl) ?_
        refine n_isub (x := al6.2.2.2) (y := al.2.2.2) hx hb (by omega) dL_isAdded_319 ?_
        refine lv_istore (lv' := [(15, .int (nI (al6.2.2.2 - al.2.2.2))), (14, .int 1), (13, .int (nI n)), (12, .int (nI bn)), (11, .int (nI al.2.2.2)), (10, .int (zb rt)), (0, .ref (q 0)), (1, .ref gq), (5, .int 0), (6, .int fi), (7, .int sp), (8, .int 1), (9, .int la)]) hx hb dL_isAdded_320 hl (by decide) rfl (fun ls hl => ?_)
        refine lv_iload hx hb dL_isAdded_322 (lv_at hl 1 rfl) ?_
        refine n_if_eq (x := 1) (tgt := 399) hx hb (by omega) dL_isAdded_324 (by decide) (fun c324 => absurd c324 (by decide)) (fun c324 => ?_)
        refine lv_iload hx hb dL_isAdded_327 (lv_at hl 8 rfl) ?_
        refine n_if_eq (x := 0) (tgt := 342) hx hb (by omega) dL_isAdded_329 (by decide) (fun c329 => ?_) (fun c329 => absurd c329 (by decide))
        refine lv_iload hx hb dL_isAdded_342 (lv_at hl 3 rfl) ?_
        refine n_if_lt (x := bn) (tgt := 399) hx hb (by omega) dL_isAdded_344 (by decide) ?_
        refine lv_iload hx hb dL_isAdded_347 (lv_at hl 3 rfl) ?_
        refine lv_bipush (v := 8) hx hb dL_isAdded_349 (by decide) ?_
        refine n_icmp_ge (x := bn) (y := 8) (tgt := 399) hx hb (by omega) (by omega) dL_isAdded_351 (by decide) (fun c351 => absurd c351 (by omega)) (fun c351 => ?_)
        refine lv_iload hx hb dL_isAdded_354 (lv_at hl 0 rfl) ?_
        refine lv_iload hx hb dL_isAdded_356 (lv_at hl 3 rfl) ?_
        refine lv_iconst (v := 1) hx hb dL_isAdded_358 (by decide) ?_
        refine lv_iand hx hb dL_isAdded_359 ?_
        refine lv_iload hx hb dL_isAdded_360 (lv_at hl 3 rfl) ?_
        refine lv_iconst (v := 1) hx hb dL_isAdded_362 (by decide) ?_
        refine lv_ishr hx hb dL_isAdded_363 ?_
        refine lv_iconst (v := 1) hx hb dL_isAdded_364 (by decide) ?_
        refine lv_iand hx hb dL_isAdded_365 ?_
        refine lv_iadd hx hb dL_isAdded_366 ?_
        refine lv_iload hx hb dL_isAdded_367 (lv_at hl 3 rfl) ?_
        refine lv_iconst (v := 2) hx hb dL_isAdded_369 (by decide) ?_
        refine lv_ishr hx hb dL_isAdded_370 ?_
        refine lv_iadd hx hb dL_isAdded_371 ?_
        refine lv_topi (fun y9 ey9 => ?_)
        have ey9 : (nI (bn % 2 + bn / 2 % 2 + bn / 4)) = y9 := (ey9.trans (pop_ok bn b8)).symm
        subst ey9
        refine n_icmp_ne (x := (al6.2.2.2 - al.2.2.2)) (y := (bn % 2 + bn / 2 % 2 + bn / 4)) (tgt := 399) hx hb (by omega) (by omega) dL_isAdded_372 (by decide) (fun c372 => absurd c372 (by omega)) (fun c372 => ?_)
        refine lv_iload hx hb dL_isAdded_375 (lv_at hl 0 rfl) ?_
        refine n_if_eq (x := (al6.2.2.2 - al.2.2.2)) (tgt := 395) hx hb (by omega) dL_isAdded_377 (by decide) (fun c377 => ?_) (fun c377 => ?_)
        · skip
          refine lv_iconst (v := 1) hx hb dL_isAdded_395 (by decide) ?_
          refine lv_goto (tgt := 400) hx hb dL_isAdded_396 (by decide) ?_
          refine W.widen (k := 1) (n := 6) (by omega) (by omega) ?_
          exact fin_z (v := 1) hx hb hr hlk hP hS rfl (⟨rfl, _, _, _, _, _, _, _, _, _, _, _, rfl, hW6, hG2⟩) (ad_app rfl (hW6.ads.trans hW.ads.symm)) hQ dL_isAdded_400
        · skip
          refine lv_aload_n hx hb dL_isAdded_380 rfl (lv_at hl 6 rfl) ?_
          refine lv_aload_n hx hb dL_isAdded_381 rfl (lv_at hl 6 rfl) ?_
          refine call_Pi (wa := [(gq, .inl (cI, 3, .inl (upd g 0 (nI (n + 1)))))]) (w0 := wb6) (w1 := wb6) (As := []) (rest := [.ref (q 0)]) hx hb hml hown hAW hN (sp_alarms l D cI cZ q hW6) q643 q644 q645 q22 q646 hd_X9_alarms (by rw [hR]; exact Nat.le_of_ble_eq_true rfl) (by rw [hR]; exact Nat.le_of_ble_eq_true rfl) hK hP hD hS hA hW6.hd rfl rfl hl.1 rfl (lv_room (Nat.le_of_ble_eq_true rfl)) dL_isAdded_382 (by rw [hR]; show 0 ≤ 1; omega) (by rw [hR]; show 0 ≤ 6; omega) (fun H locs hP hD hS => ?_)
          refine lv_iconst (v := 1) hx hb dL_isAdded_385 (by decide) ?_
          refine n_isub (x := al6.2.2.2) (y := 1) hx hb (by omega) dL_isAdded_386 ?_
          refine call_Pi (wa := [(gq, .inl (cI, 3, .inl (upd g 0 (nI (n + 1)))))]) (w0 := wb6) (w1 := wb6) (As := [.int (nI (al6.2.2.2 - 1))]) (rest := []) hx hb hml hown hAW hN (sp_alarmNumber l D cI cZ q hW6 (by omega)) q500 q501 q502 q22 q503 hd_X9_alarmNumber (by rw [hR]; exact Nat.le_of_ble_eq_true rfl) (by rw [hR]; exact Nat.le_of_ble_eq_true rfl) hK hP hD hS hA hW6.hd rfl rfl hl.1 rfl (lv_room (Nat.le_of_ble_eq_true rfl)) dL_isAdded_387 (by rw [hR]; show 0 ≤ 1; omega) (by rw [hR]; show 0 ≤ 6; omega) (fun H locs hP hD hS => ?_)
          refine lv_iload hx hb dL_isAdded_390 (lv_at hl 2 rfl) ?_
          have hnb := hW6.pv.num (al6.2.2.2 - 1) (by omega)
          refine n_icmp_lt (x := (al6.2.1 (al6.2.2.2 - 1))) (y := n) (tgt := 399) hx hb (by omega) (by omega) dL_isAdded_392 (by decide) (fun c392 => absurd c392 (Nat.not_lt.mpr (f2 _ (by omega) (by omega)))) (fun c392 => ?_)
          refine lv_iconst (v := 1) hx hb dL_isAdded_395 (by decide) ?_
          refine lv_goto (tgt := 400) hx hb dL_isAdded_396 (by decide) ?_
          refine W.widen (k := 1) (n := 6) (by omega) (by omega) ?_
          exact fin_z (v := 1) hx hb hr hlk hP hS rfl (⟨rfl, _, _, _, _, _, _, _, _, _, _, _, rfl, hW6, hG2⟩) (ad_app rfl (hW6.ads.trans hW.ads.symm)) hQ dL_isAdded_400
    refine lv_icmp_lt (tgt := 176) hx hb dL_isAdded_119 (by decide) (fun c119 => ?_) (fun c119 => ?_)
    · skip
      refine lv_iconst (v := 0) hx hb dL_isAdded_176 (by decide) ?_
      exact J177 false wL53 ⟨fun z => Bool.noConfusion z, fun _ z => absurd c119 (Int32.not_lt.mpr z.1)⟩ hWL53 _ _ hP hD hS ls (lv_sub hl [4, 5, 9, 3, 2, 1, 0] rfl)
    · skip
      refine lv_iload hx hb dL_isAdded_122 (lv_at hl 3 rfl) ?_
      refine lv_sipush (v := 1000) hx hb dL_isAdded_124 (by decide) ?_
      refine lv_icmp_gt (tgt := 176) hx hb dL_isAdded_127 (by decide) (fun c127 => ?_) (fun c127 => ?_)
      · skip
        refine lv_iconst (v := 0) hx hb dL_isAdded_176 (by decide) ?_
        exact J177 false wL53 ⟨fun z => Bool.noConfusion z, fun _ z => absurd c127 (Int32.not_lt.mpr z.2)⟩ hWL53 _ _ hP hD hS ls (lv_sub hl [4, 5, 9, 3, 2, 1, 0] rfl)
      · skip
        refine lv_iload hx hb dL_isAdded_130 (lv_at hl 9 rfl) ?_
        refine n_if_eq (x := 0) (tgt := 172) hx hb (by omega) dL_isAdded_132 (by decide) (fun c132 => ?_) (fun c132 => absurd c132 (by decide))
        refine lv_iconst (v := 1) hx hb dL_isAdded_172 (by decide) ?_
        refine lv_goto (tgt := 177) hx hb dL_isAdded_173 (by decide) ?_
        exact J177 true wL53 ⟨fun _ => ⟨Int32.not_lt.mp c119, Int32.not_lt.mp c127⟩, fun z => Bool.noConfusion z⟩ hWL53 _ _ hP hD hS ls (lv_sub hl [4, 5, 9, 3, 2, 1, 0] rfl)
  refine n_if_ne (x := (b % 4)) (tgt := 49) hx hb (by omega) dL_isAdded_34 (by decide) (fun c34 => ?_) (fun c34 => ?_)
  · skip
    refine lv_iload_n hx hb dL_isAdded_49 rfl (lv_at hl 3 rfl) ?_
    refine lv_bipush (v := 60) hx hb dL_isAdded_50 (by decide) ?_
    refine n_irem (x := a) (y := 60) hx hb (by omega) (by omega) (by omega) dL_isAdded_52 ?_
    exact J53 (nI (a % 60)) wb  hW _ _ hP hD hS ls (lv_sub hl [1, 2, 3, 4, 5, 0] rfl)
  · skip
    refine lv_iload_n hx hb dL_isAdded_37 rfl (lv_at hl 3 rfl) ?_
    refine lv_sipush (v := 2004) hx hb dL_isAdded_38 (by decide) ?_
    refine n_irem (x := a) (y := 2004) hx hb (by omega) (by omega) (by omega) dL_isAdded_41 ?_
    refine lv_sipush (v := 1002) hx hb dL_isAdded_42 (by decide) ?_
    refine lv_isub hx hb dL_isAdded_45 ?_
    refine lv_goto (tgt := 53) hx hb dL_isAdded_46 (by decide) ?_
    exact J53 ((nI (a % 2004)) - 1002) wb  hW _ _ hP hD hS ls (lv_sub hl [1, 2, 3, 4, 5, 0] rfl)
