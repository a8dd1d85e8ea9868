/-! the law's areAlarms -/
theorem kc_upd {al : AlS} {k : Nat} {f : Nat → Nat} (h : ∀ kd, kd < 3 → f kd = kc al kd k) (hk : al.1 k < 3) : ∀ kd, kd < 3 → updN f (al.1 k) (f (al.1 k) + 1) kd = kc al kd (k + 1) := fun kd hkd => by
  show _ = kc al kd k + (if al.1 k = kd then 1 else 0)
  by_cases e : kd = al.1 k
  · rw [e, upN_at, if_pos rfl, h _ hk]
  · rw [upN_ne e, if_neg (fun z => e z.symm), h kd hkd]; rfl
/-- the alarm ahead -/
def BF (al : AlS) (k : Nat) (bf la : Int32) : Prop := (k = 0 ∧ bf = -1 ∧ la = -1) ∨ ∃ j, k = j + 1 ∧ bf = nI (al.2.1 j) ∧ la = nI (al.1 j)
theorem BF_ok {al : AlS} {n k : Nat} {bf la : Int32} (hA : Alp al n) (hn : n ≤ 120) (hk : k < al.2.2.2) (h : BF al k bf la) (c : ¬ bf < nI (al.2.1 k)) : nI (al.2.1 k) = bf ∧ la < nI (al.1 k) := by
  have hk2 := hA.1 k hk
  rcases h with ⟨rfl, rfl, rfl⟩ | ⟨j, rfl, rfl, rfl⟩
  · exact absurd ((i_lt _ _).mpr (by rw [nI_toInt (by omega)]; have e : (-1 : Int32).toInt = -1 := by decide
                                     omega)) c
  · have hj := hA.1 j (by omega)
    rcases hA.2 j hk with h | ⟨h1, h2⟩
    · exact absurd ((nI_ltI (by omega) (by omega)).mpr h) c
    · exact ⟨by rw [h1], (nI_ltI (by omega) (by omega)).mpr h2⟩
set_option maxHeartbeats 4000000 in
set_option maxRecDepth 100000 in
theorem cl_areAlarms (l : Launch) (hl0 : l.stackTraces = false) (D : va_G) (cI cZ : ClassId) (q : Nat → Nat) {v : Nat → Int32} {n : Nat} {pn : Int32} {al : AlS} {cs : CsS} {ph : PhS} {tm : Nat → Bool} {bx bg : CuS} {gq : Nat} {g : Nat → Int32} {wb : va_W} (hW : PW cI cZ q v n pn al cs ph tm bx bg wb) (hG : GK g n pn tm) : Cz l yL_areAlarms (aw yL_areAlarms cL_areAlarms 10 (some .boolean)) ({ frames := 12, cells := 9, slots := 51, locals := 300 }) D cI cZ [.ref (q 0), .ref gq] (([gC cI gq g] ++ wb)) (fun rr ww => rr = 1 ∧ ∃ wb', ww = [gC cI gq g] ++ wb' ∧ PW cI cZ q v n pn al cs ph tm bx bg wb') 9 51 := by
  refine mk_z (y := yL_areAlarms) (av := [.ref (q 0), .ref gq]) (cc := cL_areAlarms) (maxL := 10) (ret := (some .boolean)) (plainFor_of_name (by decide)) (Nat.le_of_ble_eq_true rfl) ?_
  intro p e s m args below meth c A Q R hR hQ hx hb hr hml hAW hown hlk hN hT hNc hA hP hK hD hS ls hl
  have hl : lv_has ls 10 [(0, .ref (q 0)), (1, .ref gq)] := hl
  have hn := hW.pv.1
  have hpv := hW.pv
  have h360 := hpv.al360
  have h3n := hpv.2.2.2.1
  have hA2 := hpv.2.2.2.2.1
  have hcl := cnL_le tm 120 0
  refine lv_iconst (v := (-1)) hx hb dL_areAlarms_0 (by decide) ?_
  refine lv_istore_n (lv' := [(2, .int (-1)), (0, .ref (q 0)), (1, .ref gq)]) hx hb dL_areAlarms_1 rfl hl (by decide) rfl (fun ls hl => ?_)
  refine lv_aload_n hx hb dL_areAlarms_2 rfl (lv_at hl 1 rfl) ?_
  refine call_Pi (wa := [(gq, .inl (cI, 3, .inl g))]) (w0 := wb) (w1 := wb) (As := []) (rest := []) hx hb hml hown hAW hN (sp_alarms l D cI cZ q hW) q643 q644 q645 q22 q646 hd_X9_alarms (by rw [hR]; exact Nat.le_of_ble_eq_true rfl) (by rw [hR]; exact Nat.le_of_ble_eq_true rfl) hK hP hD hS hA hW.hd rfl rfl hl.1 rfl (lv_room (Nat.le_of_ble_eq_true rfl)) dL_areAlarms_3 (by rw [hR]; show 0 ≤ 9; omega) (by rw [hR]; show 0 ≤ 51; omega) (fun H locs hP hD hS => ?_)
  refine n_if_lt (x := al.2.2.2) (tgt := 54) hx hb (by omega) dL_areAlarms_6 (by decide) ?_
  refine lv_aload_n hx hb dL_areAlarms_9 rfl (lv_at hl 1 rfl) ?_
  refine call_Pi (wa := [(gq, .inl (cI, 3, .inl g))]) (w0 := wb) (w1 := wb) (As := []) (rest := []) hx hb hml hown hAW hN (sp_alarms l D cI cZ q hW) q643 q644 q645 q22 q646 hd_X9_alarms (by rw [hR]; exact Nat.le_of_ble_eq_true rfl) (by rw [hR]; exact Nat.le_of_ble_eq_true rfl) hK hP hD hS hA hW.hd rfl rfl hl.1 rfl (lv_room (Nat.le_of_ble_eq_true rfl)) dL_areAlarms_10 (by rw [hR]; show 0 ≤ 9; omega) (by rw [hR]; show 0 ≤ 51; omega) (fun H locs hP hD hS => ?_)
  refine lv_iconst (v := 3) hx hb dL_areAlarms_13 (by decide) ?_
  refine lv_aload_n hx hb dL_areAlarms_14 rfl (lv_at hl 2 rfl) ?_
  refine lv_iconst (v := 0) hx hb dL_areAlarms_15 (by decide) ?_
  refine n_iald (D := D) (f := g) (i := 0) hx hb hK hP 0 0 rfl rfl (by decide) (by decide) dL_areAlarms_16 ?_
  refine lv_topi (fun y9 ey9 => ?_)
  have ey9 : (nI n) = y9 := (ey9.trans hG.1).symm
  subst ey9
  refine n_imul (x := 3) (y := n) hx hb dL_areAlarms_17 ?_
  refine n_icmp_gt (x := al.2.2.2) (y := (3 * n)) (tgt := 54) hx hb (by omega) (by omega) dL_areAlarms_18 (by decide) (fun c18 => absurd c18 (by omega)) (fun c18 => ?_)
  refine lv_aload_n hx hb dL_areAlarms_21 rfl (lv_at hl 1 rfl) ?_
  refine lv_iconst (v := 1) hx hb dL_areAlarms_22 (by decide) ?_
  refine lv_aload_n hx hb dL_areAlarms_23 rfl (lv_at hl 1 rfl) ?_
  refine call_Pi (wa := [(gq, .inl (cI, 3, .inl g))]) (w0 := wb) (w1 := wb) (As := []) (rest := [.int 1, .ref (q 0)]) hx hb hml hown hAW hN (sp_alarms l D cI cZ q hW) q643 q644 q645 q22 q646 hd_X9_alarms (by rw [hR]; exact Nat.le_of_ble_eq_true rfl) (by rw [hR]; exact Nat.le_of_ble_eq_true rfl) hK hP hD hS hA hW.hd rfl rfl hl.1 rfl (lv_room (Nat.le_of_ble_eq_true rfl)) dL_areAlarms_24 (by rw [hR]; show 0 ≤ 9; omega) (by rw [hR]; show 0 ≤ 51; omega) (fun H locs hP hD hS => ?_)
  refine lv_iconst (v := 0) hx hb dL_areAlarms_27 (by decide) ?_
  refine call_Hi (wa := [(gq, .inl (cI, 3, .inl g))]) (w0 := wb) (w1 := wb) (As := [.ref (q 0), .int 1, .int (nI al.2.2.2), .int 0]) (rest := []) hx hb hml hown hAW hN hT hNc (sh_asks1x l hl0 D cI cZ q hW 0 (fun z => absurd z.2 (Int32.lt_irrefl))) q461 q462 q21 qw_asks hd_L_asks (by rw [hR]; exact Nat.le_of_ble_eq_true rfl) (by rw [hR]; exact Nat.le_of_ble_eq_true rfl) hK hP hD hS hA rfl rfl hl.1 rfl (lv_room (Nat.le_of_ble_eq_true rfl)) dL_areAlarms_28 (by rw [hR]; show 1 ≤ 9; omega) (by rw [hR]; show 6 ≤ 51; omega) (fun H locs hP hD hS => ?_)
  refine lv_sipush (v := (-3000)) hx hb dL_areAlarms_31 (by decide) ?_
  refine lv_icmp_ne (tgt := 54) hx hb dL_areAlarms_34 (by decide) (fun c34 => absurd c34 (fun z => z rfl)) (fun c34 => ?_)
  refine lv_aload_n hx hb dL_areAlarms_37 rfl (lv_at hl 1 rfl) ?_
  refine lv_iconst (v := 2) hx hb dL_areAlarms_38 (by decide) ?_
  refine lv_iconst (v := (-1)) hx hb dL_areAlarms_39 (by decide) ?_
  refine lv_iconst (v := 0) hx hb dL_areAlarms_40 (by decide) ?_
  refine call_Hi (wa := [(gq, .inl (cI, 3, .inl g))]) (w0 := wb) (w1 := wb) (As := [.ref (q 0), .int 2, .int (-1), .int 0]) (rest := []) hx hb hml hown hAW hN hT hNc (sh_asks2x l hl0 D cI cZ q hW 0 (fun z => absurd z.1 (by decide))) q461 q462 q21 qw_asks hd_L_asks (by rw [hR]; exact Nat.le_of_ble_eq_true rfl) (by rw [hR]; exact Nat.le_of_ble_eq_true rfl) hK hP hD hS hA rfl rfl hl.1 rfl (lv_room (Nat.le_of_ble_eq_true rfl)) dL_areAlarms_41 (by rw [hR]; show 2 ≤ 9; omega) (by rw [hR]; show 12 ≤ 51; omega) (fun H locs hP hD hS => ?_)
  refine lv_sipush (v := (-3000)) hx hb dL_areAlarms_44 (by decide) ?_
  refine lv_icmp_ne (tgt := 54) hx hb dL_areAlarms_47 (by decide) (fun c47 => absurd c47 (fun z => z rfl)) (fun c47 => ?_)
  refine lv_iconst (v := 1) hx hb dL_areAlarms_50 (by decide) ?_
  refine lv_goto (tgt := 55) hx hb dL_areAlarms_51 (by decide) ?_
  refine lv_istore_n (lv' := [(3, .int 1), (2, .int (-1)), (0, .ref (q 0)), (1, .ref gq)]) hx hb dL_areAlarms_55 rfl hl (by decide) rfl (fun ls hl => ?_)
  refine lv_iconst (v := 3) hx hb dL_areAlarms_56 (by decide) ?_
  refine new_i (f := (nIf (fun _ => 0))) (N' := 3) hx hb hAW hK hP hD hS hA (fun _ => nI_0) (by decide +kernel) (by decide +kernel) (Nat.le_of_ble_eq_true rfl) (by rw [hR]; show 3 ≤ 9; omega) (by rw [hR]; show 15 ≤ 51; omega) dL_areAlarms_57 (fun nq H hP hD hS => ?_)
  have hP : va_P D vwCl ([(nq, .inl (cI, 3, .inl (nIf (fun _ => 0)))), (gq, .inl (cI, 3, .inl g))] ++ wb) H := vaP_rot hP
  have hD : va_D A ([(nq, .inl (cI, 3, .inl (nIf (fun _ => 0)))), (gq, .inl (cI, 3, .inl g))] ++ wb) := vaD_rot hD
  refine lv_astore (lv' := [(4, .ref nq), (3, .int 1), (2, .int (-1)), (0, .ref (q 0)), (1, .ref gq)]) hx hb dL_areAlarms_59 hl (by decide) rfl (fun ls hl => ?_)
  refine lv_iconst (v := (-1)) hx hb dL_areAlarms_61 (by decide) ?_
  refine lv_istore (lv' := [(5, .int (-1)), (4, .ref nq), (3, .int 1), (2, .int (-1)), (0, .ref (q 0)), (1, .ref gq)]) hx hb dL_areAlarms_62 hl (by decide) rfl (fun ls hl => ?_)
  refine lv_iconst (v := 0) hx hb dL_areAlarms_64 (by decide) ?_
  refine lv_istore (lv' := [(6, .int 0), (5, .int (-1)), (4, .ref nq), (3, .int 1), (2, .int (-1)), (0, .ref (q 0)), (1, .ref gq)]) hx hb dL_areAlarms_65 hl (by decide) rfl (fun ls hl => ?_)
  have J67 : ∀ (mz : Nat) (k : Nat) (bf la : Int32) (f : Nat → Nat) (wL67 : va_W), (k ≤ al.2.2.2) → (BF al k bf la) → (∀ kd, kd < 3 → f kd = kc al kd k) → al.2.2.2 - k < mz → PW cI cZ q v n pn al cs ph tm bx bg wL67 → ∀ (H : Heap) (locs : List Loc), va_P D vwCl ([(nq, .inl (cI, 3, .inl (nIf f))), (gq, .inl (cI, 3, .inl g))] ++ wL67) H → va_D A ([(nq, .inl (cI, 3, .inl (nIf f))), (gq, .inl (cI, 3, .inl g))] ++ wL67) → va_S A s.heap H locs → ∀ (ls : Array Slot), lv_has ls 10 [(0, .ref (q 0)), (1, .ref gq), (2, .int bf), (3, .int 1), (4, .ref nq), (5, .int la), (6, .int (nI k))] → W p l e R s m args below meth c H locs (3) (15) Q (F0 m 67 ls []) := by
    intro mz
    induction mz with
    | zero => intro k bf la f wL67 hk hbf hf hmu; exact absurd (by assumption) (Nat.not_lt_zero _)
    | succ mz ih67 =>
      intro k bf la f wL67 hk hbf hf hmu hWL67 H locs hP hD hS ls hl
      refine lv_iload hx hb dL_areAlarms_67 (lv_at hl 6 rfl) ?_
      refine lv_aload_n hx hb dL_areAlarms_69 rfl (lv_at hl 0 rfl) ?_
      refine call_Pi (wa := [(nq, .inl (cI, 3, .inl (nIf f))), (gq, .inl (cI, 3, .inl g))]) (w0 := wL67) (w1 := wL67) (As := []) (rest := [.int (nI k)]) hx hb hml hown hAW hN (sp_alarms l D cI cZ q hWL67) q643 q644 q645 q22 q646 hd_X9_alarms (by rw [hR]; exact Nat.le_of_ble_eq_true rfl) (by rw [hR]; exact Nat.le_of_ble_eq_true rfl) hK hP hD hS hA hWL67.hd rfl rfl hl.1 rfl (lv_room (Nat.le_of_ble_eq_true rfl)) dL_areAlarms_70 (by rw [hR]; show 3 ≤ 9; omega) (by rw [hR]; show 15 ≤ 51; omega) (fun H locs hP hD hS => ?_)
      refine n_icmp_ge (x := k) (y := al.2.2.2) (tgt := 195) hx hb (by omega) (by omega) dL_areAlarms_73 (by decide) (fun c73 => ?_) (fun c73 => ?_)
      · skip
        obtain rfl : k = al.2.2.2 := (by omega)
        refine lv_iconst (v := 0) hx hb dL_areAlarms_195 (by decide) ?_
        refine lv_istore (lv' := [(6, .int 0), (0, .ref (q 0)), (1, .ref gq), (2, .int bf), (3, .int 1), (4, .ref nq), (5, .int la)]) hx hb dL_areAlarms_196 hl (by decide) rfl (fun ls hl => ?_)
        have J198 : ∀ (mz : Nat) (kd : Nat) (wL198 : va_W), (kd ≤ 3) → 3 - kd < mz → PW cI cZ q v n pn al cs ph tm bx bg wL198 → ∀ (H : Heap) (locs : List Loc), va_P D vwCl ([(nq, .inl (cI, 3, .inl (nIf f))), (gq, .inl (cI, 3, .inl g))] ++ wL198) H → va_D A ([(nq, .inl (cI, 3, .inl (nIf f))), (gq, .inl (cI, 3, .inl g))] ++ wL198) → va_S A s.heap H locs → ∀ (ls : Array Slot), lv_has ls 10 [(0, .ref (q 0)), (1, .ref gq), (3, .int 1), (4, .ref nq), (6, .int (nI kd))] → W p l e R s m args below meth c H locs (3 + kd) (15 + 6 * kd) Q (F0 m 198 ls []) := by
          intro mz
          induction mz with
          | zero => intro kd wL198 hkd hmu; exact absurd (by assumption) (Nat.not_lt_zero _)
          | succ mz ih198 =>
            intro kd wL198 hkd hmu hWL198 H locs hP hD hS ls hl
            refine lv_iload hx hb dL_areAlarms_198 (lv_at hl 4 rfl) ?_
            refine lv_iconst (v := 3) hx hb dL_areAlarms_200 (by decide) ?_
            refine n_icmp_ge (x := kd) (y := 3) (tgt := 353) hx hb (by omega) (by omega) dL_areAlarms_201 (by decide) (fun c201 => ?_) (fun c201 => ?_)
            · skip
              have hkd3 : kd = 3 := (by omega)
              refine lv_iload_n hx hb dL_areAlarms_353 rfl (lv_at hl 2 rfl) ?_
              refine n_if_eq (x := 1) (tgt := 419) hx hb (by omega) dL_areAlarms_354 (by decide) (fun c354 => absurd c354 (by decide)) (fun c354 => ?_)
              refine lv_aload_n hx hb dL_areAlarms_357 rfl (lv_at hl 0 rfl) ?_
              refine lv_iconst (v := 0) hx hb dL_areAlarms_358 (by decide) ?_
              refine lv_iconst (v := 3) hx hb dL_areAlarms_359 (by decide) ?_
              refine lv_iconst (v := 0) hx hb dL_areAlarms_360 (by decide) ?_
              refine call_Hi (wa := [(nq, .inl (cI, 3, .inl (nIf f))), (gq, .inl (cI, 3, .inl g))]) (w0 := wL198) (w1 := wL198) (As := [.ref (q 0), .int 0, .int 3, .int 0]) (rest := []) hx hb hml hown hAW hN hT hNc (sh_matched0x l hl0 D cI cZ q hWL198 (fun z => absurd z.1.2 (by decide))) q647 q648 q21 qw_matched hd_L_matched (by rw [hR]; exact Nat.le_of_ble_eq_true rfl) (by rw [hR]; exact Nat.le_of_ble_eq_true rfl) hK hP hD hS hA rfl rfl hl.1 rfl (lv_room (Nat.le_of_ble_eq_true rfl)) dL_areAlarms_361 (by rw [hR]; show 3 + kd + 1 ≤ 9; omega) (by rw [hR]; show 15 + 6 * kd + 6 ≤ 51; omega) (fun H locs hP hD hS => ?_)
              refine lv_bipush (v := (-20)) hx hb dL_areAlarms_364 (by decide) ?_
              refine lv_icmp_ne (tgt := 419) hx hb dL_areAlarms_366 (by decide) (fun c366 => absurd c366 (fun z => z rfl)) (fun c366 => ?_)
              refine lv_aload_n hx hb dL_areAlarms_369 rfl (lv_at hl 0 rfl) ?_
              refine lv_iconst (v := 1) hx hb dL_areAlarms_370 (by decide) ?_
              refine lv_iconst (v := 0) hx hb dL_areAlarms_371 (by decide) ?_
              refine lv_bipush (v := 121) hx hb dL_areAlarms_372 (by decide) ?_
              refine call_Hi (wa := [(nq, .inl (cI, 3, .inl (nIf f))), (gq, .inl (cI, 3, .inl g))]) (w0 := wL198) (w1 := wL198) (As := [.ref (q 0), .int 1, .int 0, .int 121]) (rest := []) hx hb hml hown hAW hN hT hNc (sh_matched1x l hl0 D cI cZ q hWL198 (fun z => absurd z.2.2 (by decide))) q647 q648 q21 qw_matched hd_L_matched (by rw [hR]; exact Nat.le_of_ble_eq_true rfl) (by rw [hR]; exact Nat.le_of_ble_eq_true rfl) hK hP hD hS hA rfl rfl hl.1 rfl (lv_room (Nat.le_of_ble_eq_true rfl)) dL_areAlarms_374 (by rw [hR]; show 3 + kd + 2 ≤ 9; omega) (by rw [hR]; show 15 + 6 * kd + 12 ≤ 51; omega) (fun H locs hP hD hS => ?_)
              refine lv_bipush (v := (-20)) hx hb dL_areAlarms_377 (by decide) ?_
              refine lv_icmp_ne (tgt := 419) hx hb dL_areAlarms_379 (by decide) (fun c379 => absurd c379 (fun z => z rfl)) (fun c379 => ?_)
              refine lv_aload_n hx hb dL_areAlarms_382 rfl (lv_at hl 0 rfl) ?_
              refine lv_iconst (v := (-1)) hx hb dL_areAlarms_383 (by decide) ?_
              refine lv_iconst (v := 0) hx hb dL_areAlarms_384 (by decide) ?_
              refine call_Hfi (wa := [(nq, .inl (cI, 3, .inl (nIf f))), (gq, .inl (cI, 3, .inl g))]) (w0 := wL198) (w1 := wL198) (As := [.ref (q 0), .int (-1), .int 0]) (rest := []) hx hb hml hown hAW hN hT hNc (sh_delayx1 l hl0 D cI cZ q hWL198 (fun z => absurd z.1.1 (by decide))) q675 q676 q21 qw_delay hd_L_delay (by rw [hR]; exact Nat.le_of_ble_eq_true rfl) (by rw [hR]; exact Nat.le_of_ble_eq_true rfl) hK hP hD hS hA rfl rfl hl.1 rfl (lv_room (Nat.le_of_ble_eq_true rfl)) dL_areAlarms_385 (by rw [hR]; show 3 + kd + 3 ≤ 9; omega) (by rw [hR]; show 15 + 6 * kd + 18 ≤ 51; omega) (fun H locs hP hD hS => ?_)
              refine lv_ldcf (v := 3248488448) hx hb hown (hAW _ qf82) dL_areAlarms_388 ?_
              refine lv_fcmp hx hb dL_areAlarms_390 ?_
              refine lv_if_ne (tgt := 419) hx hb dL_areAlarms_391 (by decide) (fun c391 => absurd c391 (fun z => z (by decide +kernel))) (fun c391 => ?_)
              refine lv_aload_n hx hb dL_areAlarms_394 rfl (lv_at hl 0 rfl) ?_
              refine call_Pi (wa := [(nq, .inl (cI, 3, .inl (nIf f))), (gq, .inl (cI, 3, .inl g))]) (w0 := wL198) (w1 := wL198) (As := []) (rest := []) hx hb hml hown hAW hN (sp_highSum l D cI cZ q hWL198) q685 q686 q687 q22 q688 hd_X9_highSum (by rw [hR]; exact Nat.le_of_ble_eq_true rfl) (by rw [hR]; exact Nat.le_of_ble_eq_true rfl) hK hP hD hS hA hWL198.hd rfl rfl hl.1 rfl (lv_room (Nat.le_of_ble_eq_true rfl)) dL_areAlarms_395 (by rw [hR]; show 3 + kd + 3 ≤ 9; omega) (by rw [hR]; show 15 + 6 * kd + 18 ≤ 51; omega) (fun H locs hP hD hS => ?_)
              refine lv_if_lt (tgt := 419) hx hb dL_areAlarms_398 (by decide) (fun c398 => absurd c398 (Int32.not_lt.mpr ((i_le _ _).mpr (by rw [i00]; exact hpv.2.2.2.2.2.1.2.1)))) (fun c398 => ?_)
              refine lv_aload_n hx hb dL_areAlarms_401 rfl (lv_at hl 0 rfl) ?_
              refine call_Pi (wa := [(nq, .inl (cI, 3, .inl (nIf f))), (gq, .inl (cI, 3, .inl g))]) (w0 := wL198) (w1 := wL198) (As := []) (rest := []) hx hb hml hown hAW hN (sp_lowSum l D cI cZ q hWL198) q689 q690 q691 q22 q692 hd_X9_lowSum (by rw [hR]; exact Nat.le_of_ble_eq_true rfl) (by rw [hR]; exact Nat.le_of_ble_eq_true rfl) hK hP hD hS hA hWL198.hd rfl rfl hl.1 rfl (lv_room (Nat.le_of_ble_eq_true rfl)) dL_areAlarms_402 (by rw [hR]; show 3 + kd + 3 ≤ 9; omega) (by rw [hR]; show 15 + 6 * kd + 18 ≤ 51; omega) (fun H locs hP hD hS => ?_)
              refine lv_if_lt (tgt := 419) hx hb dL_areAlarms_405 (by decide) (fun c405 => absurd c405 (Int32.not_lt.mpr ((i_le _ _).mpr (by rw [i00]; exact hpv.2.2.2.2.2.1.2.2.1)))) (fun c405 => ?_)
              refine lv_aload_n hx hb dL_areAlarms_408 rfl (lv_at hl 0 rfl) ?_
              refine call_Pi (wa := [(nq, .inl (cI, 3, .inl (nIf f))), (gq, .inl (cI, 3, .inl g))]) (w0 := wL198) (w1 := wL198) (As := []) (rest := []) hx hb hml hown hAW hN (sp_testSum l D cI cZ q hWL198) q693 q694 q695 q22 q696 hd_X9_testSum (by rw [hR]; exact Nat.le_of_ble_eq_true rfl) (by rw [hR]; exact Nat.le_of_ble_eq_true rfl) hK hP hD hS hA hWL198.hd rfl rfl hl.1 rfl (lv_room (Nat.le_of_ble_eq_true rfl)) dL_areAlarms_409 (by rw [hR]; show 3 + kd + 3 ≤ 9; omega) (by rw [hR]; show 15 + 6 * kd + 18 ≤ 51; omega) (fun H locs hP hD hS => ?_)
              refine lv_if_lt (tgt := 419) hx hb dL_areAlarms_412 (by decide) (fun c412 => absurd c412 (Int32.not_lt.mpr ((i_le _ _).mpr (by rw [i00]; exact Php_diff hpv.2.2.2.2.2.2.1 hn)))) (fun c412 => ?_)
              refine lv_iconst (v := 1) hx hb dL_areAlarms_415 (by decide) ?_
              refine lv_goto (tgt := 420) hx hb dL_areAlarms_416 (by decide) ?_
              have hP := vaP_drop hP
              have hD := vaD_drop hD
              have hP : va_P D vwCl ([(gq, .inl (cI, 3, .inl g))] ++ wL198) H := hP
              have hD : va_D A ([(gq, .inl (cI, 3, .inl g))] ++ wL198) := hD
              refine W.widen (k := 9) (n := 51) (by omega) (by omega) ?_
              exact fin_z (v := 1) hx hb hr hlk hP hS rfl (⟨rfl, _, rfl, hWL198⟩) (ad_app rfl (hWL198.ads.trans hW.ads.symm)) hQ dL_areAlarms_420
            · skip
              obtain ⟨h1n, m1n, d1n, e1, s1, c1, w1⟩ := mtc_ok hA2 hn tm (kd := kd) (by omega) 120
              obtain ⟨h2n, m2n, d2n, e2, s2, c2, w2⟩ := mtc_ok hA2 hn tm (kd := kd) (by omega) 3
              have hfk := hf kd (by omega)
              have hkl := kc_le al kd al.2.2.2
              refine lv_iload_n hx hb dL_areAlarms_204 rfl (lv_at hl 2 rfl) ?_
              refine n_if_eq (x := 1) (tgt := 353) hx hb (by omega) dL_areAlarms_205 (by decide) (fun c205 => absurd c205 (by decide)) (fun c205 => ?_)
              refine lv_aload_n hx hb dL_areAlarms_208 rfl (lv_at hl 0 rfl) ?_
              refine lv_iconst (v := 0) hx hb dL_areAlarms_209 (by decide) ?_
              refine lv_iload hx hb dL_areAlarms_210 (lv_at hl 4 rfl) ?_
              refine lv_bipush (v := 120) hx hb dL_areAlarms_212 (by decide) ?_
              obtain ⟨wb13, hW13, hM13⟩ := sh_matched0 l hl0 D cI cZ q hWL198 (kd := kd) (w := 120) (by omega) (by decide)
              refine call_Hi (wa := [(nq, .inl (cI, 3, .inl (nIf f))), (gq, .inl (cI, 3, .inl g))]) (w0 := wL198) (w1 := wb13) (As := [.ref (q 0), .int 0, .int (nI kd), .int 120]) (rest := []) hx hb hml hown hAW hN hT hNc hM13 q647 q648 q21 qw_matched hd_L_matched (by rw [hR]; exact Nat.le_of_ble_eq_true rfl) (by rw [hR]; exact Nat.le_of_ble_eq_true rfl) hK hP hD hS hA (hW13.ads.trans hWL198.ads.symm) rfl hl.1 rfl (lv_room (Nat.le_of_ble_eq_true rfl)) dL_areAlarms_214 (by rw [hR]; show 3 + kd ≤ 9; omega) (by rw [hR]; show 15 + 6 * kd ≤ 51; omega) (fun H locs hP hD hS => ?_)
              refine lv_topi (fun y9 ey9 => ?_)
              have ey9 : (nI h1n) = y9 := (ey9.trans (congrArg Prod.fst e1)).symm
              subst ey9
              refine lv_istore (lv' := [(7, .int (nI h1n)), (0, .ref (q 0)), (1, .ref gq), (3, .int 1), (4, .ref nq), (6, .int (nI kd))]) hx hb dL_areAlarms_217 hl (by decide) rfl (fun ls hl => ?_)
              refine lv_aload_n hx hb dL_areAlarms_219 rfl (lv_at hl 1 rfl) ?_
              refine lv_iconst (v := 0) hx hb dL_areAlarms_220 (by decide) ?_
              refine lv_iload hx hb dL_areAlarms_221 (lv_at hl 5 rfl) ?_
              refine lv_iconst (v := 3) hx hb dL_areAlarms_223 (by decide) ?_
              obtain ⟨wb14, hW14, hM14⟩ := sh_matched0 l hl0 D cI cZ q hW13 (kd := kd) (w := 3) (by omega) (by decide)
              refine call_Hi (wa := [(nq, .inl (cI, 3, .inl (nIf f))), (gq, .inl (cI, 3, .inl g))]) (w0 := wb13) (w1 := wb14) (As := [.ref (q 0), .int 0, .int (nI kd), .int 3]) (rest := []) hx hb hml hown hAW hN hT hNc hM14 q647 q648 q21 qw_matched hd_L_matched (by rw [hR]; exact Nat.le_of_ble_eq_true rfl) (by rw [hR]; exact Nat.le_of_ble_eq_true rfl) hK hP hD hS hA (hW14.ads.trans hW13.ads.symm) rfl hl.1 rfl (lv_room (Nat.le_of_ble_eq_true rfl)) dL_areAlarms_224 (by rw [hR]; show 3 + kd ≤ 9; omega) (by rw [hR]; show 15 + 6 * kd ≤ 51; omega) (fun H locs hP hD hS => ?_)
              refine lv_topi (fun y9 ey9 => ?_)
              have ey9 : (nI h2n) = y9 := (ey9.trans (congrArg Prod.fst e2)).symm
              subst ey9
              refine lv_istore (lv' := [(8, .int (nI h2n)), (7, .int (nI h1n)), (0, .ref (q 0)), (1, .ref gq), (3, .int 1), (4, .ref nq), (6, .int (nI kd))]) hx hb dL_areAlarms_227 hl (by decide) rfl (fun ls hl => ?_)
              refine lv_iload hx hb dL_areAlarms_229 (lv_at hl 1 rfl) ?_
              refine lv_aload_n hx hb dL_areAlarms_231 rfl (lv_at hl 2 rfl) ?_
              refine lv_iconst (v := 1) hx hb dL_areAlarms_232 (by decide) ?_
              refine lv_iload hx hb dL_areAlarms_233 (lv_at hl 6 rfl) ?_
              refine lv_bipush (v := 120) hx hb dL_areAlarms_235 (by decide) ?_
              obtain ⟨wb15, hW15, hM15⟩ := sh_matched1 l hl0 D cI cZ q hW14 (kd := kd) (w := 120) (by omega) (by decide)
              refine call_Hi (wa := [(nq, .inl (cI, 3, .inl (nIf f))), (gq, .inl (cI, 3, .inl g))]) (w0 := wb14) (w1 := wb15) (As := [.ref (q 0), .int 1, .int (nI kd), .int 120]) (rest := [.int (nI h1n)]) hx hb hml hown hAW hN hT hNc hM15 q647 q648 q21 qw_matched hd_L_matched (by rw [hR]; exact Nat.le_of_ble_eq_true rfl) (by rw [hR]; exact Nat.le_of_ble_eq_true rfl) hK hP hD hS hA (hW15.ads.trans hW14.ads.symm) rfl hl.1 rfl (lv_room (Nat.le_of_ble_eq_true rfl)) dL_areAlarms_237 (by rw [hR]; show 3 + kd ≤ 9; omega) (by rw [hR]; show 15 + 6 * kd ≤ 51; omega) (fun H locs hP hD hS => ?_)
              refine lv_topi (fun y9 ey9 => ?_)
              have ey9 : (nI m1n) = y9 := (ey9.trans (congrArg (fun z => z.2.1) e1)).symm
              subst ey9
              refine n_iadd (x := h1n) (y := m1n) hx hb dL_areAlarms_240 ?_
              refine lv_aload hx hb dL_areAlarms_241 (lv_at hl 5 rfl) ?_
              refine lv_iload hx hb dL_areAlarms_243 (lv_at hl 6 rfl) ?_
              refine m_load (D := D) (f := f) (i := kd) hx hb hK hP 0 0 rfl rfl (by omega) (by decide) dL_areAlarms_245 ?_
              refine n_icmp_ne (x := (h1n + m1n)) (y := (f kd)) (tgt := 295) hx hb (by omega) (by omega) dL_areAlarms_246 (by decide) (fun c246 => absurd c246 (by omega)) (fun c246 => ?_)
              refine lv_iload hx hb dL_areAlarms_249 (lv_at hl 0 rfl) ?_
              refine lv_aload_n hx hb dL_areAlarms_251 rfl (lv_at hl 2 rfl) ?_
              refine lv_iconst (v := 1) hx hb dL_areAlarms_252 (by decide) ?_
              refine lv_iload hx hb dL_areAlarms_253 (lv_at hl 6 rfl) ?_
              refine lv_iconst (v := 3) hx hb dL_areAlarms_255 (by decide) ?_
              obtain ⟨wb16, hW16, hM16⟩ := sh_matched1 l hl0 D cI cZ q hW15 (kd := kd) (w := 3) (by omega) (by decide)
              refine call_Hi (wa := [(nq, .inl (cI, 3, .inl (nIf f))), (gq, .inl (cI, 3, .inl g))]) (w0 := wb15) (w1 := wb16) (As := [.ref (q 0), .int 1, .int (nI kd), .int 3]) (rest := [.int (nI h2n)]) hx hb hml hown hAW hN hT hNc hM16 q647 q648 q21 qw_matched hd_L_matched (by rw [hR]; exact Nat.le_of_ble_eq_true rfl) (by rw [hR]; exact Nat.le_of_ble_eq_true rfl) hK hP hD hS hA (hW16.ads.trans hW15.ads.symm) rfl hl.1 rfl (lv_room (Nat.le_of_ble_eq_true rfl)) dL_areAlarms_256 (by rw [hR]; show 3 + kd ≤ 9; omega) (by rw [hR]; show 15 + 6 * kd ≤ 51; omega) (fun H locs hP hD hS => ?_)
              refine lv_topi (fun y9 ey9 => ?_)
              have ey9 : (nI m2n) = y9 := (ey9.trans (congrArg (fun z => z.2.1) e2)).symm
              subst ey9
              refine n_iadd (x := h2n) (y := m2n) hx hb dL_areAlarms_259 ?_
              refine lv_aload hx hb dL_areAlarms_260 (lv_at hl 5 rfl) ?_
              refine lv_iload hx hb dL_areAlarms_262 (lv_at hl 6 rfl) ?_
              refine m_load (D := D) (f := f) (i := kd) hx hb hK hP 0 0 rfl rfl (by omega) (by decide) dL_areAlarms_264 ?_
              refine n_icmp_ne (x := (h2n + m2n)) (y := (f kd)) (tgt := 295) hx hb (by omega) (by omega) dL_areAlarms_265 (by decide) (fun c265 => absurd c265 (by omega)) (fun c265 => ?_)
              refine lv_iload hx hb dL_areAlarms_268 (lv_at hl 1 rfl) ?_
              refine lv_aload_n hx hb dL_areAlarms_270 rfl (lv_at hl 3 rfl) ?_
              refine lv_iconst (v := 2) hx hb dL_areAlarms_271 (by decide) ?_
              refine n_iald (D := D) (f := g) (i := 2) hx hb hK hP 1 0 rfl rfl (by decide) (by decide) dL_areAlarms_272 ?_
              refine lv_topi (fun y9 ey9 => ?_)
              have ey9 : (nI (cnL tm 120 0)) = y9 := (ey9.trans hG.2.2).symm
              subst ey9
              refine n_icmp_gt (x := h1n) (y := (cnL tm 120 0)) (tgt := 295) hx hb (by omega) (by omega) dL_areAlarms_273 (by decide) (fun c273 => absurd c273 (by omega)) (fun c273 => ?_)
              refine lv_iload hx hb dL_areAlarms_276 (lv_at hl 0 rfl) ?_
              refine n_if_lt (x := h2n) (tgt := 295) hx hb (by omega) dL_areAlarms_278 (by decide) ?_
              refine lv_iload hx hb dL_areAlarms_281 (lv_at hl 0 rfl) ?_
              refine lv_aload hx hb dL_areAlarms_283 (lv_at hl 5 rfl) ?_
              refine lv_iload hx hb dL_areAlarms_285 (lv_at hl 6 rfl) ?_
              refine m_load (D := D) (f := f) (i := kd) hx hb hK hP 0 0 rfl rfl (by omega) (by decide) dL_areAlarms_287 ?_
              refine n_icmp_gt (x := h2n) (y := (f kd)) (tgt := 295) hx hb (by omega) (by omega) dL_areAlarms_288 (by decide) (fun c288 => absurd c288 (by omega)) (fun c288 => ?_)
              refine lv_iconst (v := 1) hx hb dL_areAlarms_291 (by decide) ?_
              refine lv_goto (tgt := 296) hx hb dL_areAlarms_292 (by decide) ?_
              refine lv_istore_n (lv' := [(3, .int 1), (8, .int (nI h2n)), (7, .int (nI h1n)), (0, .ref (q 0)), (1, .ref gq), (4, .ref nq), (6, .int (nI kd))]) hx hb dL_areAlarms_296 rfl hl (by decide) rfl (fun ls hl => ?_)
              refine lv_aload_n hx hb dL_areAlarms_297 rfl (lv_at hl 3 rfl) ?_
              refine lv_iload hx hb dL_areAlarms_298 (lv_at hl 6 rfl) ?_
              refine lv_iconst (v := 3) hx hb dL_areAlarms_300 (by decide) ?_
              rcases Nat.eq_zero_or_pos h2n with z9 | z9
              · skip
                obtain ⟨wb17, hW17, hM17⟩ := sh_delayx2 l hl0 D cI cZ q hW16 (kd := kd) (w := 3) (dl := d2n) (z := nI m2n) (by omega) (by decide) (by rw [e2, z9])
                refine call_Hfi (wa := [(nq, .inl (cI, 3, .inl (nIf f))), (gq, .inl (cI, 3, .inl g))]) (w0 := wb16) (w1 := wb17) (As := [.ref (q 0), .int (nI kd), .int 3]) (rest := []) hx hb hml hown hAW hN hT hNc hM17 q675 q676 q21 qw_delay hd_L_delay (by rw [hR]; exact Nat.le_of_ble_eq_true rfl) (by rw [hR]; exact Nat.le_of_ble_eq_true rfl) hK hP hD hS hA (hW17.ads.trans hW16.ads.symm) rfl hl.1 rfl (lv_room (Nat.le_of_ble_eq_true rfl)) dL_areAlarms_301 (by rw [hR]; show 3 + kd + 1 ≤ 9; omega) (by rw [hR]; show 15 + 6 * kd + 6 ≤ 51; omega) (fun H locs hP hD hS => ?_)
                refine lv_fstore (lv' := [(9, .float 3240099840), (3, .int 1), (8, .int (nI h2n)), (7, .int (nI h1n)), (0, .ref (q 0)), (1, .ref gq), (4, .ref nq), (6, .int (nI kd))]) hx hb dL_areAlarms_304 hl (by decide) rfl (fun ls hl => ?_)
                refine lv_iload_n hx hb dL_areAlarms_306 rfl (lv_at hl 1 rfl) ?_
                refine n_if_eq (x := 1) (tgt := 345) hx hb (by omega) dL_areAlarms_307 (by decide) (fun c307 => absurd c307 (by decide)) (fun c307 => ?_)
                refine lv_iload hx hb dL_areAlarms_310 (lv_at hl 2 rfl) ?_
                refine n_if_ne (x := h2n) (tgt := 326) hx hb (by omega) dL_areAlarms_312 (by decide) (fun c312 => absurd c312 (by omega)) (fun c312 => ?_)
                refine lv_fload hx hb dL_areAlarms_315 (lv_at hl 0 rfl) ?_
                refine lv_ldcf (v := 3240099840) hx hb hown (hAW _ qf83) dL_areAlarms_317 ?_
                refine lv_fcmp hx hb dL_areAlarms_319 ?_
                refine lv_if_ne (tgt := 345) hx hb dL_areAlarms_320 (by decide) (fun c320 => absurd c320 (fun z => z (by decide +kernel))) (fun c320 => ?_)
                refine lv_goto (tgt := 341) hx hb dL_areAlarms_323 (by decide) ?_
                refine lv_iconst (v := 1) hx hb dL_areAlarms_341 (by decide) ?_
                refine lv_goto (tgt := 346) hx hb dL_areAlarms_342 (by decide) ?_
                refine lv_istore_n (lv' := [(3, .int 1), (9, .float 3240099840), (8, .int (nI h2n)), (7, .int (nI h1n)), (0, .ref (q 0)), (1, .ref gq), (4, .ref nq), (6, .int (nI kd))]) hx hb dL_areAlarms_346 rfl hl (by decide) rfl (fun ls hl => ?_)
                refine lv_iinc (v := (nI (kd + 1))) (lv' := [(6, .int (nI (kd + 1))), (3, .int 1), (9, .float 3240099840), (8, .int (nI h2n)), (7, .int (nI h1n)), (0, .ref (q 0)), (1, .ref gq), (4, .ref nq)]) hx hb dL_areAlarms_347 hl (k := 7) rfl (nI_inc kd 1) (by decide) rfl (fun ls hl => ?_)
                refine lv_goto (tgt := 198) hx hb dL_areAlarms_350 (by decide) ?_
                refine W.widen (k := 3 + (kd + 1)) (n := 15 + 6 * (kd + 1)) (by omega) (by omega) ?_
                exact ih198 (kd + 1) wb17 (by omega) (by omega) hW17 _ _ hP hD hS ls (lv_sub hl [5, 6, 1, 7, 0] rfl)
              · skip
                obtain ⟨wb18, hW18, hM18⟩ := sh_delay l hl0 D cI cZ q hW16 (kd := kd) (w := 3) (by omega) (by decide) e2 z9 (by omega)
                refine call_Hfi (wa := [(nq, .inl (cI, 3, .inl (nIf f))), (gq, .inl (cI, 3, .inl g))]) (w0 := wb16) (w1 := wb18) (As := [.ref (q 0), .int (nI kd), .int 3]) (rest := []) hx hb hml hown hAW hN hT hNc hM18 q675 q676 q21 qw_delay hd_L_delay (by rw [hR]; exact Nat.le_of_ble_eq_true rfl) (by rw [hR]; exact Nat.le_of_ble_eq_true rfl) hK hP hD hS hA (hW18.ads.trans hW16.ads.symm) rfl hl.1 rfl (lv_room (Nat.le_of_ble_eq_true rfl)) dL_areAlarms_301 (by rw [hR]; show 3 + kd ≤ 9; omega) (by rw [hR]; show 15 + 6 * kd ≤ 51; omega) (fun H locs hP hD hS => ?_)
                refine lv_fstore (lv' := [(9, .float (FP.fdiv (FP.i2f (nI d2n)) (FP.i2f (nI h2n)))), (3, .int 1), (8, .int (nI h2n)), (7, .int (nI h1n)), (0, .ref (q 0)), (1, .ref gq), (4, .ref nq), (6, .int (nI kd))]) hx hb dL_areAlarms_304 hl (by decide) rfl (fun ls hl => ?_)
                refine lv_iload_n hx hb dL_areAlarms_306 rfl (lv_at hl 1 rfl) ?_
                refine n_if_eq (x := 1) (tgt := 345) hx hb (by omega) dL_areAlarms_307 (by decide) (fun c307 => absurd c307 (by decide)) (fun c307 => ?_)
                refine lv_iload hx hb dL_areAlarms_310 (lv_at hl 2 rfl) ?_
                refine n_if_ne (x := h2n) (tgt := 326) hx hb (by omega) dL_areAlarms_312 (by decide) (fun c312 => ?_) (fun c312 => absurd c312 (by omega))
                refine lv_fload hx hb dL_areAlarms_326 (lv_at hl 0 rfl) ?_
                refine lv_fconst0 hx hb dL_areAlarms_328 ?_
                refine lv_fcmp hx hb dL_areAlarms_329 ?_
                refine lv_if_lt (tgt := 345) hx hb dL_areAlarms_330 (by decide) (fun c330 => absurd c330 (fdv_ge (by omega) z9 (by omega))) (fun c330 => ?_)
                refine lv_fload hx hb dL_areAlarms_333 (lv_at hl 0 rfl) ?_
                refine lv_ldcf (v := 1077936128) hx hb hown (hAW _ qf99) dL_areAlarms_335 ?_
                refine lv_fcmp hx hb dL_areAlarms_337 ?_
                refine lv_if_gt (tgt := 345) hx hb dL_areAlarms_338 (by decide) (fun c338 => absurd c338 (fdv_le (by omega) z9 (by omega))) (fun c338 => ?_)
                refine lv_iconst (v := 1) hx hb dL_areAlarms_341 (by decide) ?_
                refine lv_goto (tgt := 346) hx hb dL_areAlarms_342 (by decide) ?_
                refine lv_istore_n (lv' := [(3, .int 1), (9, .float (FP.fdiv (FP.i2f (nI d2n)) (FP.i2f (nI h2n)))), (8, .int (nI h2n)), (7, .int (nI h1n)), (0, .ref (q 0)), (1, .ref gq), (4, .ref nq), (6, .int (nI kd))]) hx hb dL_areAlarms_346 rfl hl (by decide) rfl (fun ls hl => ?_)
                refine lv_iinc (v := (nI (kd + 1))) (lv' := [(6, .int (nI (kd + 1))), (3, .int 1), (9, .float (FP.fdiv (FP.i2f (nI d2n)) (FP.i2f (nI h2n)))), (8, .int (nI h2n)), (7, .int (nI h1n)), (0, .ref (q 0)), (1, .ref gq), (4, .ref nq)]) hx hb dL_areAlarms_347 hl (k := 7) rfl (nI_inc kd 1) (by decide) rfl (fun ls hl => ?_)
                refine lv_goto (tgt := 198) hx hb dL_areAlarms_350 (by decide) ?_
                refine W.widen (k := 3 + (kd + 1)) (n := 15 + 6 * (kd + 1)) (by omega) (by omega) ?_
                exact ih198 (kd + 1) wb18 (by omega) (by omega) hW18 _ _ hP hD hS ls (lv_sub hl [5, 6, 1, 7, 0] rfl)
        refine W.widen (k := 3 + 0) (n := 15 + 6 * 0) (by omega) (by omega) ?_
        exact J198 (3 - 0 + 1) 0 wL67 (Nat.zero_le _) (Nat.lt_succ_self _) hWL67 _ _ hP hD hS ls (lv_sub hl [1, 2, 4, 5, 0] rfl)
      · skip
        obtain ⟨a1, a2, a3⟩ := hA2.1 k (by omega)
        refine lv_iload_n hx hb dL_areAlarms_76 rfl (lv_at hl 3 rfl) ?_
        refine n_if_eq (x := 1) (tgt := 195) hx hb (by omega) dL_areAlarms_77 (by decide) (fun c77 => absurd c77 (by decide)) (fun c77 => ?_)
        refine lv_aload_n hx hb dL_areAlarms_80 rfl (lv_at hl 0 rfl) ?_
        refine lv_iload hx hb dL_areAlarms_81 (lv_at hl 6 rfl) ?_
        refine call_Pi (wa := [(nq, .inl (cI, 3, .inl (nIf f))), (gq, .inl (cI, 3, .inl g))]) (w0 := wL67) (w1 := wL67) (As := [.int (nI k)]) (rest := []) hx hb hml hown hAW hN (sp_alarmKind l D cI cZ q hWL67 (by omega)) q492 q493 q494 q22 q495 hd_X9_alarmKind (by rw [hR]; exact Nat.le_of_ble_eq_true rfl) (by rw [hR]; exact Nat.le_of_ble_eq_true rfl) hK hP hD hS hA hWL67.hd rfl rfl hl.1 rfl (lv_room (Nat.le_of_ble_eq_true rfl)) dL_areAlarms_83 (by rw [hR]; show 3 ≤ 9; omega) (by rw [hR]; show 15 ≤ 51; omega) (fun H locs hP hD hS => ?_)
        refine lv_istore (lv' := [(7, .int (nI (al.1 k))), (0, .ref (q 0)), (1, .ref gq), (2, .int bf), (3, .int 1), (4, .ref nq), (5, .int la), (6, .int (nI k))]) hx hb dL_areAlarms_86 hl (by decide) rfl (fun ls hl => ?_)
        refine lv_aload_n hx hb dL_areAlarms_88 rfl (lv_at hl 1 rfl) ?_
        refine lv_iload hx hb dL_areAlarms_89 (lv_at hl 7 rfl) ?_
        refine call_Pi (wa := [(nq, .inl (cI, 3, .inl (nIf f))), (gq, .inl (cI, 3, .inl g))]) (w0 := wL67) (w1 := wL67) (As := [.int (nI k)]) (rest := []) hx hb hml hown hAW hN (sp_alarmNumber l D cI cZ q hWL67 (by omega)) q500 q501 q502 q22 q503 hd_X9_alarmNumber (by rw [hR]; exact Nat.le_of_ble_eq_true rfl) (by rw [hR]; exact Nat.le_of_ble_eq_true rfl) hK hP hD hS hA hWL67.hd rfl rfl hl.1 rfl (lv_room (Nat.le_of_ble_eq_true rfl)) dL_areAlarms_91 (by rw [hR]; show 3 ≤ 9; omega) (by rw [hR]; show 15 ≤ 51; omega) (fun H locs hP hD hS => ?_)
        refine lv_istore (lv' := [(8, .int (nI (al.2.1 k))), (7, .int (nI (al.1 k))), (0, .ref (q 0)), (1, .ref gq), (2, .int bf), (3, .int 1), (4, .ref nq), (5, .int la), (6, .int (nI k))]) hx hb dL_areAlarms_94 hl (by decide) rfl (fun ls hl => ?_)
        refine lv_iload hx hb dL_areAlarms_96 (lv_at hl 1 rfl) ?_
        refine n_if_lt (x := (al.1 k)) (tgt := 163) hx hb (by omega) dL_areAlarms_98 (by decide) ?_
        refine lv_iload hx hb dL_areAlarms_101 (lv_at hl 1 rfl) ?_
        refine lv_iconst (v := 3) hx hb dL_areAlarms_103 (by decide) ?_
        refine n_icmp_ge (x := (al.1 k)) (y := 3) (tgt := 163) hx hb (by omega) (by omega) dL_areAlarms_104 (by decide) (fun c104 => absurd c104 (by omega)) (fun c104 => ?_)
        refine lv_iload hx hb dL_areAlarms_107 (lv_at hl 0 rfl) ?_
        refine n_if_lt (x := (al.2.1 k)) (tgt := 163) hx hb (by omega) dL_areAlarms_109 (by decide) ?_
        refine lv_iload hx hb dL_areAlarms_112 (lv_at hl 0 rfl) ?_
        refine lv_aload_n hx hb dL_areAlarms_114 rfl (lv_at hl 3 rfl) ?_
        refine lv_iconst (v := 0) hx hb dL_areAlarms_115 (by decide) ?_
        refine n_iald (D := D) (f := g) (i := 0) hx hb hK hP 1 0 rfl rfl (by decide) (by decide) dL_areAlarms_116 ?_
        refine lv_topi (fun y9 ey9 => ?_)
        have ey9 : (nI n) = y9 := (ey9.trans hG.1).symm
        subst ey9
        refine n_icmp_ge (x := (al.2.1 k)) (y := n) (tgt := 163) hx hb (by omega) (by omega) dL_areAlarms_117 (by decide) (fun c117 => absurd c117 (by omega)) (fun c117 => ?_)
        refine lv_iload hx hb dL_areAlarms_120 (lv_at hl 0 rfl) ?_
        refine lv_iload_n hx hb dL_areAlarms_122 rfl (lv_at hl 4 rfl) ?_
        have J139 : ∀ (wL139 : va_W), PW cI cZ q v n pn al cs ph tm bx bg wL139 → ∀ (H : Heap) (locs : List Loc), va_P D vwCl ([(nq, .inl (cI, 3, .inl (nIf f))), (gq, .inl (cI, 3, .inl g))] ++ wL139) H → va_D A ([(nq, .inl (cI, 3, .inl (nIf f))), (gq, .inl (cI, 3, .inl g))] ++ wL139) → va_S A s.heap H locs → ∀ (ls : Array Slot), lv_has ls 10 [(0, .ref (q 0)), (1, .ref gq), (4, .ref nq), (6, .int (nI k)), (7, .int (nI (al.1 k))), (8, .int (nI (al.2.1 k)))] → W p l e R s m args below meth c H locs (3) (15) Q (F0 m 139 ls []) := by
          intro wL139 hWL139 H locs hP hD hS ls hl
          refine lv_aload_n hx hb dL_areAlarms_139 rfl (lv_at hl 0 rfl) ?_
          refine lv_iload hx hb dL_areAlarms_140 (lv_at hl 3 rfl) ?_
          refine call_Pi (wa := [(nq, .inl (cI, 3, .inl (nIf f))), (gq, .inl (cI, 3, .inl g))]) (w0 := wL139) (w1 := wL139) (As := [.int (nI k)]) (rest := []) hx hb hml hown hAW hN (sp_alarmStart l D cI cZ q hWL139 (by omega)) q504 q505 q506 q22 q507 hd_X9_alarmStart (by rw [hR]; exact Nat.le_of_ble_eq_true rfl) (by rw [hR]; exact Nat.le_of_ble_eq_true rfl) hK hP hD hS hA hWL139.hd rfl rfl hl.1 rfl (lv_room (Nat.le_of_ble_eq_true rfl)) dL_areAlarms_142 (by rw [hR]; show 3 ≤ 9; omega) (by rw [hR]; show 15 ≤ 51; omega) (fun H locs hP hD hS => ?_)
          refine n_if_lt (x := (al.2.2.1 k)) (tgt := 163) hx hb (by omega) dL_areAlarms_145 (by decide) ?_
          refine lv_aload_n hx hb dL_areAlarms_148 rfl (lv_at hl 0 rfl) ?_
          refine lv_iload hx hb dL_areAlarms_149 (lv_at hl 3 rfl) ?_
          refine call_Pi (wa := [(nq, .inl (cI, 3, .inl (nIf f))), (gq, .inl (cI, 3, .inl g))]) (w0 := wL139) (w1 := wL139) (As := [.int (nI k)]) (rest := []) hx hb hml hown hAW hN (sp_alarmStart l D cI cZ q hWL139 (by omega)) q504 q505 q506 q22 q507 hd_X9_alarmStart (by rw [hR]; exact Nat.le_of_ble_eq_true rfl) (by rw [hR]; exact Nat.le_of_ble_eq_true rfl) hK hP hD hS hA hWL139.hd rfl rfl hl.1 rfl (lv_room (Nat.le_of_ble_eq_true rfl)) dL_areAlarms_151 (by rw [hR]; show 3 ≤ 9; omega) (by rw [hR]; show 15 ≤ 51; omega) (fun H locs hP hD hS => ?_)
          refine lv_iload hx hb dL_areAlarms_154 (lv_at hl 5 rfl) ?_
          refine n_icmp_gt (x := (al.2.2.1 k)) (y := (al.2.1 k)) (tgt := 163) hx hb (by omega) (by omega) dL_areAlarms_156 (by decide) (fun c156 => absurd c156 (by omega)) (fun c156 => ?_)
          refine lv_iconst (v := 1) hx hb dL_areAlarms_159 (by decide) ?_
          refine lv_goto (tgt := 164) hx hb dL_areAlarms_160 (by decide) ?_
          refine lv_istore_n (lv' := [(3, .int 1), (0, .ref (q 0)), (1, .ref gq), (4, .ref nq), (6, .int (nI k)), (7, .int (nI (al.1 k))), (8, .int (nI (al.2.1 k)))]) hx hb dL_areAlarms_164 rfl hl (by decide) rfl (fun ls hl => ?_)
          refine lv_iload hx hb dL_areAlarms_165 (lv_at hl 6 rfl) ?_
          refine lv_istore_n (lv' := [(2, .int (nI (al.2.1 k))), (3, .int 1), (0, .ref (q 0)), (1, .ref gq), (4, .ref nq), (6, .int (nI k)), (7, .int (nI (al.1 k))), (8, .int (nI (al.2.1 k)))]) hx hb dL_areAlarms_167 rfl hl (by decide) rfl (fun ls hl => ?_)
          refine lv_iload hx hb dL_areAlarms_168 (lv_at hl 6 rfl) ?_
          refine lv_istore (lv' := [(5, .int (nI (al.1 k))), (2, .int (nI (al.2.1 k))), (3, .int 1), (0, .ref (q 0)), (1, .ref gq), (4, .ref nq), (6, .int (nI k)), (7, .int (nI (al.1 k))), (8, .int (nI (al.2.1 k)))]) hx hb dL_areAlarms_170 hl (by decide) rfl (fun ls hl => ?_)
          refine lv_aload hx hb dL_areAlarms_172 (lv_at hl 5 rfl) ?_
          refine lv_iload_n hx hb dL_areAlarms_174 rfl (lv_at hl 2 rfl) ?_
          refine n_if_eq (x := 1) (tgt := 183) hx hb (by omega) dL_areAlarms_175 (by decide) (fun c175 => absurd c175 (by decide)) (fun c175 => ?_)
          refine lv_iload hx hb dL_areAlarms_178 (lv_at hl 7 rfl) ?_
          refine lv_goto (tgt := 184) hx hb dL_areAlarms_180 (by decide) ?_
          refine lv_dup2_11 hx hb dL_areAlarms_184 rfl rfl ?_
          refine m_load (D := D) (f := f) (i := (al.1 k)) hx hb hK hP 0 0 rfl rfl (by omega) (by decide) dL_areAlarms_185 ?_
          refine lv_iconst (v := 1) hx hb dL_areAlarms_186 (by decide) ?_
          refine n_iadd (x := (f (al.1 k))) (y := 1) hx hb dL_areAlarms_187 ?_
          refine m_store (D := D) (f := f) (i := (al.1 k)) (x := ((f (al.1 k)) + 1)) hx hb hK hP hD hS 0 0 rfl rfl (by omega) (by decide) dL_areAlarms_188 (fun H locs hP hD hS => ?_)
          have hP : va_P D vwCl ([(nq, .inl (cI, 3, .inl (nIf (updN f (al.1 k) ((f (al.1 k)) + 1))))), (gq, .inl (cI, 3, .inl g))] ++ wL139) H := hP
          have hD : va_D A ([(nq, .inl (cI, 3, .inl (nIf (updN f (al.1 k) ((f (al.1 k)) + 1))))), (gq, .inl (cI, 3, .inl g))] ++ wL139) := hD
          refine lv_iinc (v := (nI (k + 1))) (lv' := [(6, .int (nI (k + 1))), (5, .int (nI (al.1 k))), (2, .int (nI (al.2.1 k))), (3, .int 1), (0, .ref (q 0)), (1, .ref gq), (4, .ref nq), (7, .int (nI (al.1 k))), (8, .int (nI (al.2.1 k)))]) hx hb dL_areAlarms_189 hl (k := 6) rfl (nI_inc k 1) (by decide) rfl (fun ls hl => ?_)
          refine lv_goto (tgt := 67) hx hb dL_areAlarms_192 (by decide) ?_
          exact ih67 (k + 1) (nI (al.2.1 k)) (nI (al.1 k)) (updN f (al.1 k) ((f (al.1 k)) + 1)) wL139 (by omega) (Or.inr ⟨k, rfl, rfl, rfl⟩) (kc_upd hf (by omega)) (by omega) hWL139 _ _ hP hD hS ls (lv_sub hl [4, 5, 2, 3, 6, 1, 0] rfl)
        refine lv_icmp_gt (tgt := 139) hx hb dL_areAlarms_123 (by decide) (fun c123 => ?_) (fun c123 => ?_)
        · skip
          exact J139  wL67  hWL67 _ _ hP hD hS ls (lv_sub hl [2, 3, 6, 8, 1, 0] rfl)
        · skip
          obtain ⟨o1, o2⟩ := BF_ok hA2 hn (by omega) hbf c123
          refine lv_iload hx hb dL_areAlarms_126 (lv_at hl 0 rfl) ?_
          refine lv_iload_n hx hb dL_areAlarms_128 rfl (lv_at hl 4 rfl) ?_
          refine lv_icmp_ne (tgt := 163) hx hb dL_areAlarms_129 (by decide) (fun c129 => absurd c129 (fun z => z o1)) (fun c129 => ?_)
          refine lv_iload hx hb dL_areAlarms_132 (lv_at hl 1 rfl) ?_
          refine lv_iload hx hb dL_areAlarms_134 (lv_at hl 7 rfl) ?_
          refine lv_icmp_le (tgt := 163) hx hb dL_areAlarms_136 (by decide) (fun c136 => absurd c136 (Int32.not_le.mpr o2)) (fun c136 => ?_)
          exact J139  wL67  hWL67 _ _ hP hD hS ls (lv_sub hl [2, 3, 6, 8, 1, 0] rfl)
  exact J67 (al.2.2.2 - 0 + 1) 0 (-1) (-1) (fun _ => 0) wb (Nat.zero_le _) (Or.inl ⟨rfl, rfl, rfl⟩) (fun _ _ => rfl) (Nat.lt_succ_self _) hW _ _ hP hD hS ls (lv_sub hl [5, 6, 4, 3, 2, 1, 0] rfl)
