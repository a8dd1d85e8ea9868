/-! the law's isDone -/
theorem GK_pn {g : Nat → Int32} {n : Nat} {pn : Int32} {tm : Nat → Bool} (h : GK g n pn tm) (x : Int32) : GK (upd g 1 x) n x tm :=
  ⟨by rw [up_ne (by decide)]; exact h.1, up_at _ _ _, by rw [up_ne (by decide)]; exact h.2.2⟩
theorem GK_m {g : Nat → Int32} {n : Nat} {pn : Int32} {tm tm' : Nat → Bool} {x : Int32} (h : GK g n pn tm) (e : x = nI (cnL tm' 120 0)) : GK (upd g 2 x) n pn tm' :=
  ⟨by rw [up_ne (by decide)]; exact h.1, by rw [up_ne (by decide)]; exact h.2.1, by rw [up_at]; exact e⟩
theorem cn_off (tm : Nat → Bool) (d : Nat) (h : d ≤ 120) : cnL (offL 120 0 tm) d 0 = 0 := cnL_0 d 0 (fun j _ j2 => (offL_at 120 0 tm).1 j (Nat.zero_le _) (by omega))
theorem GK_clear {g : Nat → Int32} {n : Nat} {pn : Int32} {tm : Nat → Bool} (h : GK g n pn tm) : GK (upd (upd g 0 0) 2 0) 0 pn (offL 120 0 tm) :=
  ⟨by rw [up_ne (by decide), up_at]; rfl, by rw [up_ne (by decide), up_ne (by decide)]; exact h.2.1, by rw [up_at, cn_off tm 120 (Nat.le_refl _)]; rfl⟩
theorem mk_up {tm : Nat → Bool} {i : Nat} (hi : i < 120) (h : tm i = false) : nI (cnL tm 120 0 + 1) = nI (cnL (updB tm i (!(tm i))) 120 0) := by
  have := cnL_tog (G := tm) hi
  rw [h] at this ⊢
  rw [if_neg (by decide), if_neg (by decide)] at this
  exact congrArg nI (by omega)
theorem mk_dn {tm : Nat → Bool} {i : Nat} (hi : i < 120) (h : tm i = true) : nI (cnL tm 120 0) + (-1) = nI (cnL (updB tm i (!(tm i))) 120 0) := by
  have := cnL_tog (G := tm) hi
  rw [h] at this ⊢
  rw [if_pos rfl, if_pos rfl] at this
  have e : cnL tm 120 0 = cnL (updB tm i (!true)) 120 0 + 1 := by omega
  rw [e]
  exact pk_m1 _
theorem s13 {m : Nat} (hm : m < 2003) : ((-1000) ≤ nI m - 1000 ∧ nI m - 1000 ≤ 1000) ↔ m < 2001 := by
  have e : (nI m - 1000).toInt = (m : Int) - 1000 := by
    have e1 := nI_toInt (n := m) (by omega)
    have e2 : (1000 : Int32).toInt = 1000 := by decide
    rw [ti_sub (by omega) (by omega), e1, e2]
  rw [i_le, i_le, e, show (-1000 : Int32).toInt = -1000 by decide, show (1000 : Int32).toInt = 1000 by decide]
  omega
theorem in_k {m k : Nat} (h : m ≤ k) (hk : k < 2 ^ 31) : 0 ≤ nI m ∧ nI m ≤ nI k := in_ok h hk
theorem cl_isAdded (l : Launch) (hl0 : l.stackTraces = false) (D : va_G) (cI cZ : ClassId) (q : Nat → Nat) {v : Nat → Int32} {n : Nat} {pn : Int32} {al : AlS} {cs : CsS} {ph : PhS} {tm : Nat → Bool} {bx bg : CuS} {gq : Nat} {g : Nat → Int32} {wb : va_W} {a b c9 : Nat} (hW : PW cI cZ q v n pn al cs ph tm bx bg wb) (hG : GK g n pn tm) (ha : a < 10000) (hb9 : b < 10000) (hc9 : c9 < 10000) : Cz l yL_isAdded (aw yL_isAdded cL_isAdded 16 (some .boolean)) ({ frames := 11, cells := 1, slots := 6, locals := 220 }) D cI cZ [.ref (q 0), .ref gq, .int (nI a), .int (nI b), .int (nI c9)] ([gC cI gq g] ++ wb) (fun rr ww => rr = 1 ∧ LI cI cZ q gq ww) 1 6 := by
  rcases Nat.eq_zero_or_pos (c9 % 3) with h | h
  · exact cl_isAdded1 l hl0 D cI cZ q hW hG ha hb9 hc9 h
  · exact cl_isAdded0 l hl0 D cI cZ q hW hG ha hb9 hc9 h
set_option maxHeartbeats 4000000 in
set_option maxRecDepth 100000 in
theorem cl_isDone (l : Launch) (hl0 : l.stackTraces = false) (D : va_G) (cI cZ : ClassId) (q : Nat → Nat) {v : Nat → Int32} {n : Nat} {pn : Int32} {al : AlS} {cs : CsS} {ph : PhS} {tm : Nat → Bool} {bx bg : CuS} {gq : Nat} {g : Nat → Int32} {wb : va_W} {b L : Nat} {xs : Nat → Int32} {i4 : Nat} (hW : PW cI cZ q v n pn al cs ph tm bx bg wb) (hG : GK g n pn tm) (hL : L ≤ 260) (hi4 : i4 < 100000) : Cs l yL_isDone (aw yL_isDone cL_isDone 10 (some .boolean)) ({ frames := 12, cells := 3, slots := 18, locals := 300 }) D cI cZ [.ref (q 0), .ref b, .int (nI i4), .ref gq] (([gC cI gq g] ++ wb)) b L xs (fun rr ww => rr = 1 ∧ LI cI cZ q gq ww) 3 18 := by
  refine mk_s (y := yL_isDone) (av := [.ref (q 0), .ref b, .int (nI i4), .ref gq]) (cc := cL_isDone) (maxL := 10) (ret := (some .boolean)) (plainFor_of_name (by decide)) (Nat.le_of_ble_eq_true rfl) ?_
  intro p e s m args below meth c A Q R hR hQ hx hb hr hml hAW hown hlk hN hT hNc hA hP hK hD hS hX hbA ls hl
  have hbl : b < s.heap.size := Nat.not_le.mp (fun z => hbA (hA b z))
  have hl : lv_has ls 10 [(0, .ref (q 0)), (1, .ref b), (2, .int (nI i4)), (3, .ref gq)] := hl
  have hn := hW.pv.1
  have hpv := hW.pv
  refine lv_aload_n hx hb dL_isDone_0 rfl (lv_at hl 1 rfl) ?_
  refine lv_iload_n hx hb dL_isDone_1 rfl (lv_at hl 2 rfl) ?_
  refine lv_bipush (v := 24) hx hb dL_isDone_2 (by decide) ?_
  refine call_part (b := b) (k := i4) (n := 24) (rest := []) hx hb hml hown hAW hL hX hbl hbA q722 q723 q21 q724 (by rw [hR]; exact Nat.le_of_ble_eq_true rfl) (by rw [hR]; exact Nat.le_of_ble_eq_true rfl) hP hS (by omega) (by decide) (by decide) hl.1 rfl (lv_room (Nat.le_of_ble_eq_true rfl)) dL_isDone_4 (by rw [hR]; show 0 ≤ 3; omega) (by rw [hR]; show 0 ≤ 18; omega) (fun what H locs hwhat hP hS => ?_)
  refine lv_istore (lv' := [(4, .int (nI what)), (0, .ref (q 0)), (1, .ref b), (2, .int (nI i4)), (3, .ref gq)]) hx hb dL_isDone_7 hl (by decide) rfl (fun ls hl => ?_)
  refine lv_aload_n hx hb dL_isDone_9 rfl (lv_at hl 2 rfl) ?_
  refine lv_iload_n hx hb dL_isDone_10 rfl (lv_at hl 3 rfl) ?_
  refine lv_iconst (v := 1) hx hb dL_isDone_11 (by decide) ?_
  refine n_iadd (x := i4) (y := 1) hx hb dL_isDone_12 ?_
  refine lv_sipush (v := 6000) hx hb dL_isDone_13 (by decide) ?_
  refine call_part (b := b) (k := (i4 + 1)) (n := 6000) (rest := []) hx hb hml hown hAW hL hX hbl hbA q722 q723 q21 q724 (by rw [hR]; exact Nat.le_of_ble_eq_true rfl) (by rw [hR]; exact Nat.le_of_ble_eq_true rfl) hP hS (by omega) (by decide) (by decide) hl.1 rfl (lv_room (Nat.le_of_ble_eq_true rfl)) dL_isDone_16 (by rw [hR]; show 0 ≤ 3; omega) (by rw [hR]; show 0 ≤ 18; omega) (fun a H locs ha hP hS => ?_)
  refine lv_istore (lv' := [(5, .int (nI a)), (4, .int (nI what)), (0, .ref (q 0)), (1, .ref b), (2, .int (nI i4)), (3, .ref gq)]) hx hb dL_isDone_19 hl (by decide) rfl (fun ls hl => ?_)
  refine lv_aload_n hx hb dL_isDone_21 rfl (lv_at hl 3 rfl) ?_
  refine lv_iload_n hx hb dL_isDone_22 rfl (lv_at hl 4 rfl) ?_
  refine lv_iconst (v := 2) hx hb dL_isDone_23 (by decide) ?_
  refine n_iadd (x := i4) (y := 2) hx hb dL_isDone_24 ?_
  refine lv_sipush (v := 7000) hx hb dL_isDone_25 (by decide) ?_
  refine call_part (b := b) (k := (i4 + 2)) (n := 7000) (rest := []) hx hb hml hown hAW hL hX hbl hbA q722 q723 q21 q724 (by rw [hR]; exact Nat.le_of_ble_eq_true rfl) (by rw [hR]; exact Nat.le_of_ble_eq_true rfl) hP hS (by omega) (by decide) (by decide) hl.1 rfl (lv_room (Nat.le_of_ble_eq_true rfl)) dL_isDone_28 (by rw [hR]; show 0 ≤ 3; omega) (by rw [hR]; show 0 ≤ 18; omega) (fun b9 H locs hb9 hP hS => ?_)
  refine lv_istore (lv' := [(6, .int (nI b9)), (5, .int (nI a)), (4, .int (nI what)), (0, .ref (q 0)), (1, .ref b), (2, .int (nI i4)), (3, .ref gq)]) hx hb dL_isDone_31 hl (by decide) rfl (fun ls hl => ?_)
  refine lv_aload_n hx hb dL_isDone_33 rfl (lv_at hl 4 rfl) ?_
  refine lv_iload_n hx hb dL_isDone_34 rfl (lv_at hl 5 rfl) ?_
  refine lv_iconst (v := 3) hx hb dL_isDone_35 (by decide) ?_
  refine n_iadd (x := i4) (y := 3) hx hb dL_isDone_36 ?_
  refine lv_sipush (v := 8000) hx hb dL_isDone_37 (by decide) ?_
  refine call_part (b := b) (k := (i4 + 3)) (n := 8000) (rest := []) hx hb hml hown hAW hL hX hbl hbA q722 q723 q21 q724 (by rw [hR]; exact Nat.le_of_ble_eq_true rfl) (by rw [hR]; exact Nat.le_of_ble_eq_true rfl) hP hS (by omega) (by decide) (by decide) hl.1 rfl (lv_room (Nat.le_of_ble_eq_true rfl)) dL_isDone_40 (by rw [hR]; show 0 ≤ 3; omega) (by rw [hR]; show 0 ≤ 18; omega) (fun c9 H locs hc9 hP hS => ?_)
  refine lv_istore (lv' := [(7, .int (nI c9)), (6, .int (nI b9)), (5, .int (nI a)), (4, .int (nI what)), (0, .ref (q 0)), (1, .ref b), (2, .int (nI i4)), (3, .ref gq)]) hx hb dL_isDone_43 hl (by decide) rfl (fun ls hl => ?_)
  refine lv_iload hx hb dL_isDone_45 (lv_at hl 3 rfl) ?_
  refine lv_bipush (v := 13) hx hb dL_isDone_47 (by decide) ?_
  refine n_icmp_ge (x := what) (y := 13) (tgt := 64) hx hb (by omega) (by omega) dL_isDone_49 (by decide) (fun c49 => ?_) (fun c49 => ?_)
  · skip
    refine lv_iload hx hb dL_isDone_64 (lv_at hl 3 rfl) ?_
    refine lv_bipush (v := 15) hx hb dL_isDone_66 (by decide) ?_
    refine n_icmp_ge (x := what) (y := 15) (tgt := 239) hx hb (by omega) (by omega) dL_isDone_68 (by decide) (fun c68 => ?_) (fun c68 => ?_)
    · skip
      refine lv_iload hx hb dL_isDone_239 (lv_at hl 3 rfl) ?_
      refine lv_bipush (v := 15) hx hb dL_isDone_241 (by decide) ?_
      refine n_icmp_ne (x := what) (y := 15) (tgt := 320) hx hb (by omega) (by omega) dL_isDone_243 (by decide) (fun c243 => ?_) (fun c243 => ?_)
      · skip
        refine lv_iload hx hb dL_isDone_320 (lv_at hl 3 rfl) ?_
        refine lv_bipush (v := 19) hx hb dL_isDone_322 (by decide) ?_
        refine n_icmp_ge (x := what) (y := 19) (tgt := 409) hx hb (by omega) (by omega) dL_isDone_324 (by decide) (fun c324 => ?_) (fun c324 => ?_)
        · skip
          refine lv_iload hx hb dL_isDone_409 (lv_at hl 3 rfl) ?_
          refine lv_bipush (v := 19) hx hb dL_isDone_411 (by decide) ?_
          refine n_icmp_ne (x := what) (y := 19) (tgt := 486) hx hb (by omega) (by omega) dL_isDone_413 (by decide) (fun c413 => ?_) (fun c413 => ?_)
          · skip
            refine lv_iload hx hb dL_isDone_486 (lv_at hl 3 rfl) ?_
            refine lv_bipush (v := 22) hx hb dL_isDone_488 (by decide) ?_
            refine n_icmp_ge (x := what) (y := 22) (tgt := 505) hx hb (by omega) (by omega) dL_isDone_490 (by decide) (fun c490 => ?_) (fun c490 => ?_)
            · skip
              refine lv_aload_n hx hb dL_isDone_505 rfl (lv_at hl 4 rfl) ?_
              refine lv_aload_n hx hb dL_isDone_506 rfl (lv_at hl 7 rfl) ?_
              have hP : va_P D vwCl ([] ++ ([(gq, .inl (cI, 3, .inl g))] ++ wb)) H := hP
              have hD : va_D A ([] ++ ([(gq, .inl (cI, 3, .inl g))] ++ wb)) := hD
              have hc9 := cl_isGreedy (gq := gq) l hl0 D cI cZ q hW hG
              refine call_Zw (mc := 0) (ms := 0) (rm := { frames := 11, cells := 0, slots := 0, locals := 220 }) (wa := []) (w0 := ([(gq, .inl (cI, 3, .inl g))] ++ wb)) (As := [.ref (q 0), .ref gq]) (rest := []) hx hb hml hown hAW hN hT hNc hc9 q760 q761 q21 q762 hd_L_isGreedy (by rw [hR]; exact Nat.le_of_ble_eq_true rfl) (by rw [hR]; exact Nat.le_of_ble_eq_true rfl) rfl rfl hK hP hD hS hA rfl hl.1 rfl (lv_room (Nat.le_of_ble_eq_true rfl)) dL_isDone_507 (by rw [hR]; show 0 ≤ 3; omega) (by rw [hR]; show 0 ≤ 18; omega) (fun x9 w9 H locs hz9 hw9 hP hD hS => ?_)
              obtain ⟨e9, bg9, wb5, rfl, hW5⟩ := hz9
              subst e9
              have hP : va_P D vwCl ([(gq, .inl (cI, 3, .inl g))] ++ wb5) H := hP
              have hD : va_D A ([(gq, .inl (cI, 3, .inl g))] ++ wb5) := hD
              refine W.widen (k := 3) (n := 18) (by omega) (by omega) ?_
              exact fin_z (v := 1) hx hb hr hlk hP hS rfl (⟨rfl, _, _, _, _, _, _, _, _, _, _, _, rfl, hW5, hG⟩) (ad_app rfl (hW5.ads.trans hW.ads.symm)) hQ dL_isDone_510
            · skip
              refine lv_aload_n hx hb dL_isDone_493 rfl (lv_at hl 4 rfl) ?_
              refine lv_aload_n hx hb dL_isDone_494 rfl (lv_at hl 7 rfl) ?_
              refine lv_iload hx hb dL_isDone_495 (lv_at hl 2 rfl) ?_
              refine lv_iload hx hb dL_isDone_497 (lv_at hl 1 rfl) ?_
              have hP : va_P D vwCl ([] ++ ([(gq, .inl (cI, 3, .inl g))] ++ wb)) H := hP
              have hD : va_D A ([] ++ ([(gq, .inl (cI, 3, .inl g))] ++ wb)) := hD
              have hc9 := cl_isSegment (gq := gq) l hl0 D cI cZ q hW hG (a := a) (b := b9) (by omega) (by omega)
              refine call_Zw (mc := 3) (ms := 18) (rm := { frames := 11, cells := 3, slots := 18, locals := 220 }) (wa := []) (w0 := ([(gq, .inl (cI, 3, .inl g))] ++ wb)) (As := [.ref (q 0), .ref gq, .int (nI a), .int (nI b9)]) (rest := []) hx hb hml hown hAW hN hT hNc hc9 q757 q758 q21 q759 hd_L_isSegment (by rw [hR]; exact Nat.le_of_ble_eq_true rfl) (by rw [hR]; exact Nat.le_of_ble_eq_true rfl) rfl rfl hK hP hD hS hA rfl hl.1 rfl (lv_room (Nat.le_of_ble_eq_true rfl)) dL_isDone_499 (by rw [hR]; show 3 ≤ 3; omega) (by rw [hR]; show 18 ≤ 18; omega) (fun x9 w9 H locs hz9 hw9 hP hD hS => ?_)
              obtain ⟨e9, wb6, rfl, hW6⟩ := hz9
              subst e9
              have hP : va_P D vwCl ([(gq, .inl (cI, 3, .inl g))] ++ wb6) H := hP
              have hD : va_D A ([(gq, .inl (cI, 3, .inl g))] ++ wb6) := hD
              refine lv_goto (tgt := 510) hx hb dL_isDone_502 (by decide) ?_
              exact fin_z (v := 1) hx hb hr hlk hP hS rfl (⟨rfl, _, _, _, _, _, _, _, _, _, _, _, rfl, hW6, hG⟩) (ad_app rfl (hW6.ads.trans hW.ads.symm)) hQ dL_isDone_510
          · skip
            refine lv_iload hx hb dL_isDone_416 (lv_at hl 2 rfl) ?_
            refine lv_iconst (v := 5) hx hb dL_isDone_418 (by decide) ?_
            refine n_irem (x := a) (y := 5) hx hb (by omega) (by omega) (by omega) dL_isDone_419 ?_
            refine n_if_ne (x := (a % 5)) (tgt := 486) hx hb (by omega) dL_isDone_420 (by decide) (fun c420 => ?_) (fun c420 => ?_)
            · skip
              refine lv_iload hx hb dL_isDone_486 (lv_at hl 3 rfl) ?_
              refine lv_bipush (v := 22) hx hb dL_isDone_488 (by decide) ?_
              refine n_icmp_ge (x := what) (y := 22) (tgt := 505) hx hb (by omega) (by omega) dL_isDone_490 (by decide) (fun c490 => ?_) (fun c490 => ?_)
              · skip
                refine lv_aload_n hx hb dL_isDone_505 rfl (lv_at hl 4 rfl) ?_
                refine lv_aload_n hx hb dL_isDone_506 rfl (lv_at hl 7 rfl) ?_
                have hP : va_P D vwCl ([] ++ ([(gq, .inl (cI, 3, .inl g))] ++ wb)) H := hP
                have hD : va_D A ([] ++ ([(gq, .inl (cI, 3, .inl g))] ++ wb)) := hD
                have hc9 := cl_isGreedy (gq := gq) l hl0 D cI cZ q hW hG
                refine call_Zw (mc := 0) (ms := 0) (rm := { frames := 11, cells := 0, slots := 0, locals := 220 }) (wa := []) (w0 := ([(gq, .inl (cI, 3, .inl g))] ++ wb)) (As := [.ref (q 0), .ref gq]) (rest := []) hx hb hml hown hAW hN hT hNc hc9 q760 q761 q21 q762 hd_L_isGreedy (by rw [hR]; exact Nat.le_of_ble_eq_true rfl) (by rw [hR]; exact Nat.le_of_ble_eq_true rfl) rfl rfl hK hP hD hS hA rfl hl.1 rfl (lv_room (Nat.le_of_ble_eq_true rfl)) dL_isDone_507 (by rw [hR]; show 0 ≤ 3; omega) (by rw [hR]; show 0 ≤ 18; omega) (fun x9 w9 H locs hz9 hw9 hP hD hS => ?_)
                obtain ⟨e9, bg9, wb7, rfl, hW7⟩ := hz9
                subst e9
                have hP : va_P D vwCl ([(gq, .inl (cI, 3, .inl g))] ++ wb7) H := hP
                have hD : va_D A ([(gq, .inl (cI, 3, .inl g))] ++ wb7) := hD
                refine W.widen (k := 3) (n := 18) (by omega) (by omega) ?_
                exact fin_z (v := 1) hx hb hr hlk hP hS rfl (⟨rfl, _, _, _, _, _, _, _, _, _, _, _, rfl, hW7, hG⟩) (ad_app rfl (hW7.ads.trans hW.ads.symm)) hQ dL_isDone_510
              · skip
                refine lv_aload_n hx hb dL_isDone_493 rfl (lv_at hl 4 rfl) ?_
                refine lv_aload_n hx hb dL_isDone_494 rfl (lv_at hl 7 rfl) ?_
                refine lv_iload hx hb dL_isDone_495 (lv_at hl 2 rfl) ?_
                refine lv_iload hx hb dL_isDone_497 (lv_at hl 1 rfl) ?_
                have hP : va_P D vwCl ([] ++ ([(gq, .inl (cI, 3, .inl g))] ++ wb)) H := hP
                have hD : va_D A ([] ++ ([(gq, .inl (cI, 3, .inl g))] ++ wb)) := hD
                have hc9 := cl_isSegment (gq := gq) l hl0 D cI cZ q hW hG (a := a) (b := b9) (by omega) (by omega)
                refine call_Zw (mc := 3) (ms := 18) (rm := { frames := 11, cells := 3, slots := 18, locals := 220 }) (wa := []) (w0 := ([(gq, .inl (cI, 3, .inl g))] ++ wb)) (As := [.ref (q 0), .ref gq, .int (nI a), .int (nI b9)]) (rest := []) hx hb hml hown hAW hN hT hNc hc9 q757 q758 q21 q759 hd_L_isSegment (by rw [hR]; exact Nat.le_of_ble_eq_true rfl) (by rw [hR]; exact Nat.le_of_ble_eq_true rfl) rfl rfl hK hP hD hS hA rfl hl.1 rfl (lv_room (Nat.le_of_ble_eq_true rfl)) dL_isDone_499 (by rw [hR]; show 3 ≤ 3; omega) (by rw [hR]; show 18 ≤ 18; omega) (fun x9 w9 H locs hz9 hw9 hP hD hS => ?_)
                obtain ⟨e9, wb8, rfl, hW8⟩ := hz9
                subst e9
                have hP : va_P D vwCl ([(gq, .inl (cI, 3, .inl g))] ++ wb8) H := hP
                have hD : va_D A ([(gq, .inl (cI, 3, .inl g))] ++ wb8) := hD
                refine lv_goto (tgt := 510) hx hb dL_isDone_502 (by decide) ?_
                exact fin_z (v := 1) hx hb hr hlk hP hS rfl (⟨rfl, _, _, _, _, _, _, _, _, _, _, _, rfl, hW8, hG⟩) (ad_app rfl (hW8.ads.trans hW.ads.symm)) hQ dL_isDone_510
            · skip
              refine lv_aload_n hx hb dL_isDone_423 rfl (lv_at hl 7 rfl) ?_
              refine lv_iconst (v := 0) hx hb dL_isDone_424 (by decide) ?_
              refine n_iald (D := D) (f := g) (i := 0) hx hb hK hP 0 0 rfl rfl (by decide) (by decide) dL_isDone_425 ?_
              refine lv_topi (fun y9 ey9 => ?_)
              have ey9 : (nI n) = y9 := (ey9.trans hG.1).symm
              subst ey9
              refine lv_istore (lv' := [(8, .int (nI n)), (7, .int (nI c9)), (6, .int (nI b9)), (5, .int (nI a)), (4, .int (nI what)), (0, .ref (q 0)), (1, .ref b), (2, .int (nI i4)), (3, .ref gq)]) hx hb dL_isDone_426 hl (by decide) rfl (fun ls hl => ?_)
              refine lv_aload_n hx hb dL_isDone_428 rfl (lv_at hl 8 rfl) ?_
              refine lv_iconst (v := 0) hx hb dL_isDone_429 (by decide) ?_
              refine lv_iconst (v := 0) hx hb dL_isDone_430 (by decide) ?_
              refine n_iast (D := D) (f := g) (i := 0) (x := 0) hx hb hK hP hD hS 0 0 rfl rfl (by decide) (by decide) dL_isDone_431 (fun H locs hP hD hS => ?_)
              have hP : va_P D vwCl ([(gq, .inl (cI, 3, .inl (upd g 0 0)))] ++ wb) H := hP
              have hD : va_D A ([(gq, .inl (cI, 3, .inl (upd g 0 0)))] ++ wb) := hD
              refine lv_aload_n hx hb dL_isDone_432 rfl (lv_at hl 8 rfl) ?_
              refine lv_iconst (v := 2) hx hb dL_isDone_433 (by decide) ?_
              refine lv_iconst (v := 0) hx hb dL_isDone_434 (by decide) ?_
              refine n_iast (D := D) (f := (upd g 0 0)) (i := 2) (x := 0) hx hb hK hP hD hS 0 0 rfl rfl (by decide) (by decide) dL_isDone_435 (fun H locs hP hD hS => ?_)
              have hP : va_P D vwCl ([(gq, .inl (cI, 3, .inl (upd (upd g 0 0) 2 0)))] ++ wb) H := hP
              have hD : va_D A ([(gq, .inl (cI, 3, .inl (upd (upd g 0 0) 2 0)))] ++ wb) := hD
              have hG2 := GK_clear hG
              refine lv_aload_n hx hb dL_isDone_436 rfl (lv_at hl 5 rfl) ?_
              obtain ⟨wb9, hW9, hM9⟩ := sp_clear l D cI cZ q hW
              refine call_Pi (wa := [(gq, .inl (cI, 3, .inl (upd (upd g 0 0) 2 0)))]) (w0 := wb) (w1 := wb9) (As := []) (rest := []) hx hb hml hown hAW hN hM9 q735 q736 q737 q22 q738 hd_X9_clear (by rw [hR]; exact Nat.le_of_ble_eq_true rfl) (by rw [hR]; exact Nat.le_of_ble_eq_true rfl) hK hP hD hS hA hW.hd (hW9.ads.trans hW.ads.symm) rfl hl.1 rfl (lv_room (Nat.le_of_ble_eq_true rfl)) dL_isDone_437 (by rw [hR]; show 0 ≤ 3; omega) (by rw [hR]; show 0 ≤ 18; omega) (fun H locs hP hD hS => ?_)
              refine lv_iload hx hb dL_isDone_440 (lv_at hl 0 rfl) ?_
              refine n_icmp_ne (x := n) (y := n) (tgt := 484) hx hb (by omega) (by omega) dL_isDone_442 (by decide) (fun c442 => absurd c442 (by omega)) (fun c442 => ?_)
              refine lv_aload_n hx hb dL_isDone_445 rfl (lv_at hl 5 rfl) ?_
              refine call_Pi (wa := [(gq, .inl (cI, 3, .inl (upd (upd g 0 0) 2 0)))]) (w0 := wb9) (w1 := wb9) (As := []) (rest := []) hx hb hml hown hAW hN (sp_size l D cI cZ q hW9) q729 q730 q731 q22 q732 hd_X9_size (by rw [hR]; exact Nat.le_of_ble_eq_true rfl) (by rw [hR]; exact Nat.le_of_ble_eq_true rfl) hK hP hD hS hA hW9.hd rfl rfl hl.1 rfl (lv_room (Nat.le_of_ble_eq_true rfl)) dL_isDone_446 (by rw [hR]; show 0 ≤ 3; omega) (by rw [hR]; show 0 ≤ 18; omega) (fun H locs hP hD hS => ?_)
              refine n_if_ne (x := 0) (tgt := 484) hx hb (by omega) dL_isDone_449 (by decide) (fun c449 => absurd c449 (by omega)) (fun c449 => ?_)
              refine lv_aload_n hx hb dL_isDone_452 rfl (lv_at hl 5 rfl) ?_
              refine call_Pi (wa := [(gq, .inl (cI, 3, .inl (upd (upd g 0 0) 2 0)))]) (w0 := wb9) (w1 := wb9) (As := []) (rest := []) hx hb hml hown hAW hN (sp_alarms l D cI cZ q hW9) q643 q644 q645 q22 q646 hd_X9_alarms (by rw [hR]; exact Nat.le_of_ble_eq_true rfl) (by rw [hR]; exact Nat.le_of_ble_eq_true rfl) hK hP hD hS hA hW9.hd rfl rfl hl.1 rfl (lv_room (Nat.le_of_ble_eq_true rfl)) dL_isDone_453 (by rw [hR]; show 0 ≤ 3; omega) (by rw [hR]; show 0 ≤ 18; omega) (fun H locs hP hD hS => ?_)
              refine n_if_ne (x := (((al.1, al.2.1, al.2.2.1, 0) : AlS).2.2.2)) (tgt := 484) hx hb (by show (0 : Nat) < 2 ^ 31; decide) dL_isDone_456 (by decide) (fun c456 => absurd c456 (Nat.lt_irrefl 0)) (fun c456 => ?_)
              refine lv_aload_n hx hb dL_isDone_459 rfl (lv_at hl 5 rfl) ?_
              refine call_Pi (wa := [(gq, .inl (cI, 3, .inl (upd (upd g 0 0) 2 0)))]) (w0 := wb9) (w1 := wb9) (As := []) (rest := []) hx hb hml hown hAW hN (sp_highSum l D cI cZ q hW9) q685 q686 q687 q22 q688 hd_X9_highSum (by rw [hR]; exact Nat.le_of_ble_eq_true rfl) (by rw [hR]; exact Nat.le_of_ble_eq_true rfl) hK hP hD hS hA hW9.hd rfl rfl hl.1 rfl (lv_room (Nat.le_of_ble_eq_true rfl)) dL_isDone_460 (by rw [hR]; show 0 ≤ 3; omega) (by rw [hR]; show 0 ≤ 18; omega) (fun H locs hP hD hS => ?_)
              refine lv_if_ne (tgt := 484) hx hb dL_isDone_463 (by decide) (fun c463 => absurd c463 (fun z => z rfl)) (fun c463 => ?_)
              refine lv_aload_n hx hb dL_isDone_466 rfl (lv_at hl 5 rfl) ?_
              refine call_Pi (wa := [(gq, .inl (cI, 3, .inl (upd (upd g 0 0) 2 0)))]) (w0 := wb9) (w1 := wb9) (As := []) (rest := []) hx hb hml hown hAW hN (sp_lowSum l D cI cZ q hW9) q689 q690 q691 q22 q692 hd_X9_lowSum (by rw [hR]; exact Nat.le_of_ble_eq_true rfl) (by rw [hR]; exact Nat.le_of_ble_eq_true rfl) hK hP hD hS hA hW9.hd rfl rfl hl.1 rfl (lv_room (Nat.le_of_ble_eq_true rfl)) dL_isDone_467 (by rw [hR]; show 0 ≤ 3; omega) (by rw [hR]; show 0 ≤ 18; omega) (fun H locs hP hD hS => ?_)
              refine lv_if_ne (tgt := 484) hx hb dL_isDone_470 (by decide) (fun c470 => absurd c470 (fun z => z rfl)) (fun c470 => ?_)
              refine lv_aload_n hx hb dL_isDone_473 rfl (lv_at hl 5 rfl) ?_
              refine call_Pi (wa := [(gq, .inl (cI, 3, .inl (upd (upd g 0 0) 2 0)))]) (w0 := wb9) (w1 := wb9) (As := []) (rest := []) hx hb hml hown hAW hN (sp_testSum l D cI cZ q hW9) q693 q694 q695 q22 q696 hd_X9_testSum (by rw [hR]; exact Nat.le_of_ble_eq_true rfl) (by rw [hR]; exact Nat.le_of_ble_eq_true rfl) hK hP hD hS hA hW9.hd rfl rfl hl.1 rfl (lv_room (Nat.le_of_ble_eq_true rfl)) dL_isDone_474 (by rw [hR]; show 0 ≤ 3; omega) (by rw [hR]; show 0 ≤ 18; omega) (fun H locs hP hD hS => ?_)
              refine lv_if_ne (tgt := 484) hx hb dL_isDone_477 (by decide) (fun c477 => absurd c477 (fun z => z (by show (0 : Int32) - 0 = 0; decide))) (fun c477 => ?_)
              refine lv_iconst (v := 1) hx hb dL_isDone_480 (by decide) ?_
              refine lv_goto (tgt := 485) hx hb dL_isDone_481 (by decide) ?_
              refine W.widen (k := 3) (n := 18) (by omega) (by omega) ?_
              exact fin_z (v := 1) hx hb hr hlk hP hS rfl (⟨rfl, _, _, _, _, _, _, _, _, _, _, _, rfl, hW9, hG2⟩) (ad_app rfl (hW9.ads.trans hW.ads.symm)) hQ dL_isDone_485
        · skip
          refine lv_iload hx hb dL_isDone_327 (lv_at hl 2 rfl) ?_
          refine lv_aload_n hx hb dL_isDone_329 rfl (lv_at hl 7 rfl) ?_
          refine lv_iconst (v := 0) hx hb dL_isDone_330 (by decide) ?_
          refine n_iald (D := D) (f := g) (i := 0) hx hb hK hP 0 0 rfl rfl (by decide) (by decide) dL_isDone_331 ?_
          refine lv_topi (fun y9 ey9 => ?_)
          have ey9 : (nI n) = y9 := (ey9.trans hG.1).symm
          subst ey9
          refine lv_iconst (v := 1) hx hb dL_isDone_332 (by decide) ?_
          refine n_iadd (x := n) (y := 1) hx hb dL_isDone_333 ?_
          refine n_irem (x := a) (y := (n + 1)) hx hb (by omega) (by omega) (by omega) dL_isDone_334 ?_
          obtain ⟨its, eits⟩ : ∃ z, z = a % (n + 1) := ⟨_, rfl⟩
          rw [← eits]
          have hits : its < n + 1 := by rw [eits]; exact Nat.mod_lt _ (by omega)
          refine lv_istore (lv' := [(8, .int (nI its)), (7, .int (nI c9)), (6, .int (nI b9)), (5, .int (nI a)), (4, .int (nI what)), (0, .ref (q 0)), (1, .ref b), (2, .int (nI i4)), (3, .ref gq)]) hx hb dL_isDone_335 hl (by decide) rfl (fun ls hl => ?_)
          refine lv_aload_n hx hb dL_isDone_337 rfl (lv_at hl 5 rfl) ?_
          refine lv_bipush (v := 8) hx hb dL_isDone_338 (by decide) ?_
          refine lv_iload hx hb dL_isDone_340 (lv_at hl 0 rfl) ?_
          refine lv_iconst (v := 0) hx hb dL_isDone_342 (by decide) ?_
          rcases (show its = n ∨ (its < n ∧ tm its = false) ∨ (its < n ∧ tm its = true) by
      rcases Nat.lt_or_ge its n with z | z
      · cases hz : tm its with
        | false => exact Or.inr (Or.inl ⟨z, rfl⟩)
        | true => exact Or.inr (Or.inr ⟨z, rfl⟩)
      · exact Or.inl (by omega)) with z9 | ⟨z9, z8⟩ | ⟨z9, z8⟩
          · skip
            refine call_Hi (wa := [(gq, .inl (cI, 3, .inl g))]) (w0 := wb) (w1 := wb) (As := [.ref (q 0), .int 8, .int (nI its), .int 0]) (rest := []) hx hb hml hown hAW hN hT hNc (sh_asks8x l hl0 D cI cZ q hW (x := nI its) 0 (fun z => absurd z.2 (by rw [z9]; exact Int32.lt_irrefl))) q461 q462 q21 qw_asks hd_L_asks (by rw [hR]; exact Nat.le_of_ble_eq_true rfl) (by rw [hR]; exact Nat.le_of_ble_eq_true rfl) hK hP hD hS hA rfl rfl hl.1 rfl (lv_room (Nat.le_of_ble_eq_true rfl)) dL_isDone_343 (by rw [hR]; show 1 ≤ 3; omega) (by rw [hR]; show 6 ≤ 18; omega) (fun H locs hP hD hS => ?_)
            refine lv_istore (lv' := [(9, .int (-3000)), (8, .int (nI its)), (7, .int (nI c9)), (6, .int (nI b9)), (5, .int (nI a)), (4, .int (nI what)), (0, .ref (q 0)), (1, .ref b), (2, .int (nI i4)), (3, .ref gq)]) hx hb dL_isDone_346 hl (by decide) rfl (fun ls hl => ?_)
            refine lv_aload_n hx hb dL_isDone_348 rfl (lv_at hl 9 rfl) ?_
            refine lv_iconst (v := 2) hx hb dL_isDone_349 (by decide) ?_
            refine lv_dup2_11 hx hb dL_isDone_350 rfl rfl ?_
            refine n_iald (D := D) (f := g) (i := 2) hx hb hK hP 0 0 rfl rfl (by decide) (by decide) dL_isDone_351 ?_
            refine lv_topi (fun y9 ey9 => ?_)
            have ey9 : (nI (cnL tm 120 0)) = y9 := (ey9.trans hG.2.2).symm
            subst ey9
            refine lv_iload hx hb dL_isDone_352 (lv_at hl 0 rfl) ?_
            refine lv_if_ge (tgt := 361) hx hb dL_isDone_354 (by decide) (fun c354 => absurd c354 (by decide)) (fun c354 => ?_)
            refine lv_iconst (v := 0) hx hb dL_isDone_357 (by decide) ?_
            refine lv_goto (tgt := 372) hx hb dL_isDone_358 (by decide) ?_
            refine n_iadd (x := (cnL tm 120 0)) (y := 0) hx hb dL_isDone_372 ?_
            refine n_iast (D := D) (f := g) (i := 2) (x := (nI ((cnL tm 120 0) + 0))) hx hb hK hP hD hS 0 0 rfl rfl (by decide) (by decide) dL_isDone_373 (fun H locs hP hD hS => ?_)
            have hP : va_P D vwCl ([(gq, .inl (cI, 3, .inl (upd g 2 (nI ((cnL tm 120 0) + 0)))))] ++ wb) H := hP
            have hD : va_D A ([(gq, .inl (cI, 3, .inl (upd g 2 (nI ((cnL tm 120 0) + 0)))))] ++ wb) := hD
            have hG2 := GK_m (tm' := tm) hG (x := nI (cnL tm 120 0 + 0)) (by rw [Nat.add_zero])
            refine lv_iload hx hb dL_isDone_374 (lv_at hl 1 rfl) ?_
            refine lv_aload_n hx hb dL_isDone_376 rfl (lv_at hl 9 rfl) ?_
            refine lv_iconst (v := 0) hx hb dL_isDone_377 (by decide) ?_
            refine n_iald (D := D) (f := (upd g 2 (nI ((cnL tm 120 0) + 0)))) (i := 0) hx hb hK hP 0 0 rfl rfl (by decide) (by decide) dL_isDone_378 ?_
            refine lv_topi (fun y9 ey9 => ?_)
            have ey9 : (nI n) = y9 := (ey9.trans hG2.1).symm
            subst ey9
            refine n_icmp_ne (x := its) (y := n) (tgt := 398) hx hb (by omega) (by omega) dL_isDone_379 (by decide) (fun c379 => absurd c379 (by omega)) (fun c379 => ?_)
            refine lv_iload hx hb dL_isDone_382 (lv_at hl 0 rfl) ?_
            refine lv_sipush (v := (-3000)) hx hb dL_isDone_384 (by decide) ?_
            refine lv_icmp_ne (tgt := 394) hx hb dL_isDone_387 (by decide) (fun c387 => absurd c387 (fun z => z rfl)) (fun c387 => ?_)
            refine lv_iconst (v := 1) hx hb dL_isDone_390 (by decide) ?_
            refine lv_goto (tgt := 408) hx hb dL_isDone_391 (by decide) ?_
            refine W.widen (k := 3) (n := 18) (by omega) (by omega) ?_
            exact fin_z (v := 1) hx hb hr hlk hP hS rfl (⟨rfl, _, _, _, _, _, _, _, _, _, _, _, rfl, hW, hG2⟩) (ad_app rfl (hW.ads.trans hW.ads.symm)) hQ dL_isDone_408
          · skip
            obtain ⟨wb16, hW16, hM16⟩ := sh_asks8 l hl0 D cI cZ q hW (nu := its) 0 z9
            have hM16 := hM16
            refine call_Hi (wa := [(gq, .inl (cI, 3, .inl g))]) (w0 := wb) (w1 := wb16) (As := [.ref (q 0), .int 8, .int (nI its), .int 0]) (rest := []) hx hb hml hown hAW hN hT hNc hM16 q461 q462 q21 qw_asks hd_L_asks (by rw [hR]; exact Nat.le_of_ble_eq_true rfl) (by rw [hR]; exact Nat.le_of_ble_eq_true rfl) hK hP hD hS hA (hW16.ads.trans hW.ads.symm) rfl hl.1 rfl (lv_room (Nat.le_of_ble_eq_true rfl)) dL_isDone_343 (by rw [hR]; show 0 ≤ 3; omega) (by rw [hR]; show 0 ≤ 18; omega) (fun H locs hP hD hS => ?_)
            refine lv_topi (fun y9 ey9 => ?_)
            have ey9 : 1 = y9 := (ey9.trans (by rw [z8]; rfl)).symm
            subst ey9
            refine lv_istore (lv' := [(9, .int 1), (8, .int (nI its)), (7, .int (nI c9)), (6, .int (nI b9)), (5, .int (nI a)), (4, .int (nI what)), (0, .ref (q 0)), (1, .ref b), (2, .int (nI i4)), (3, .ref gq)]) hx hb dL_isDone_346 hl (by decide) rfl (fun ls hl => ?_)
            refine lv_aload_n hx hb dL_isDone_348 rfl (lv_at hl 9 rfl) ?_
            refine lv_iconst (v := 2) hx hb dL_isDone_349 (by decide) ?_
            refine lv_dup2_11 hx hb dL_isDone_350 rfl rfl ?_
            refine n_iald (D := D) (f := g) (i := 2) hx hb hK hP 0 0 rfl rfl (by decide) (by decide) dL_isDone_351 ?_
            refine lv_topi (fun y9 ey9 => ?_)
            have ey9 : (nI (cnL tm 120 0)) = y9 := (ey9.trans hG.2.2).symm
            subst ey9
            refine lv_iload hx hb dL_isDone_352 (lv_at hl 0 rfl) ?_
            refine n_if_ge (x := 1) (tgt := 361) hx hb (by omega) dL_isDone_354 (by decide) ?_
            refine lv_iload hx hb dL_isDone_361 (lv_at hl 0 rfl) ?_
            refine lv_iconst (v := 1) hx hb dL_isDone_363 (by decide) ?_
            refine n_icmp_ne (x := 1) (y := 1) (tgt := 371) hx hb (by omega) (by omega) dL_isDone_364 (by decide) (fun c364 => absurd c364 (by omega)) (fun c364 => ?_)
            refine lv_iconst (v := 1) hx hb dL_isDone_367 (by decide) ?_
            refine lv_goto (tgt := 372) hx hb dL_isDone_368 (by decide) ?_
            refine n_iadd (x := (cnL tm 120 0)) (y := 1) hx hb dL_isDone_372 ?_
            refine n_iast (D := D) (f := g) (i := 2) (x := (nI ((cnL tm 120 0) + 1))) hx hb hK hP hD hS 0 0 rfl rfl (by decide) (by decide) dL_isDone_373 (fun H locs hP hD hS => ?_)
            have hP : va_P D vwCl ([(gq, .inl (cI, 3, .inl (upd g 2 (nI ((cnL tm 120 0) + 1)))))] ++ wb16) H := hP
            have hD : va_D A ([(gq, .inl (cI, 3, .inl (upd g 2 (nI ((cnL tm 120 0) + 1)))))] ++ wb16) := hD
            have hG2 := GK_m (tm' := updB tm its (!(tm its))) hG (mk_up (show its < 120 by omega) z8)
            refine lv_iload hx hb dL_isDone_374 (lv_at hl 1 rfl) ?_
            refine lv_aload_n hx hb dL_isDone_376 rfl (lv_at hl 9 rfl) ?_
            refine lv_iconst (v := 0) hx hb dL_isDone_377 (by decide) ?_
            refine n_iald (D := D) (f := (upd g 2 (nI ((cnL tm 120 0) + 1)))) (i := 0) hx hb hK hP 0 0 rfl rfl (by decide) (by decide) dL_isDone_378 ?_
            refine lv_topi (fun y9 ey9 => ?_)
            have ey9 : (nI n) = y9 := (ey9.trans hG2.1).symm
            subst ey9
            refine n_icmp_ne (x := its) (y := n) (tgt := 398) hx hb (by omega) (by omega) dL_isDone_379 (by decide) (fun c379 => ?_) (fun c379 => absurd c379 (by omega))
            refine lv_iload hx hb dL_isDone_398 (lv_at hl 0 rfl) ?_
            refine n_if_lt (x := 1) (tgt := 407) hx hb (by omega) dL_isDone_400 (by decide) ?_
            refine lv_iconst (v := 1) hx hb dL_isDone_403 (by decide) ?_
            refine lv_goto (tgt := 408) hx hb dL_isDone_404 (by decide) ?_
            refine W.widen (k := 3) (n := 18) (by omega) (by omega) ?_
            exact fin_z (v := 1) hx hb hr hlk hP hS rfl (⟨rfl, _, _, _, _, _, _, _, _, _, _, _, rfl, hW16, hG2⟩) (ad_app rfl (hW16.ads.trans hW.ads.symm)) hQ dL_isDone_408
          · skip
            obtain ⟨wb17, hW17, hM17⟩ := sh_asks8 l hl0 D cI cZ q hW (nu := its) 0 z9
            have hM17 := hM17
            refine call_Hi (wa := [(gq, .inl (cI, 3, .inl g))]) (w0 := wb) (w1 := wb17) (As := [.ref (q 0), .int 8, .int (nI its), .int 0]) (rest := []) hx hb hml hown hAW hN hT hNc hM17 q461 q462 q21 qw_asks hd_L_asks (by rw [hR]; exact Nat.le_of_ble_eq_true rfl) (by rw [hR]; exact Nat.le_of_ble_eq_true rfl) hK hP hD hS hA (hW17.ads.trans hW.ads.symm) rfl hl.1 rfl (lv_room (Nat.le_of_ble_eq_true rfl)) dL_isDone_343 (by rw [hR]; show 0 ≤ 3; omega) (by rw [hR]; show 0 ≤ 18; omega) (fun H locs hP hD hS => ?_)
            refine lv_topi (fun y9 ey9 => ?_)
            have ey9 : 0 = y9 := (ey9.trans (by rw [z8]; rfl)).symm
            subst ey9
            refine lv_istore (lv' := [(9, .int 0), (8, .int (nI its)), (7, .int (nI c9)), (6, .int (nI b9)), (5, .int (nI a)), (4, .int (nI what)), (0, .ref (q 0)), (1, .ref b), (2, .int (nI i4)), (3, .ref gq)]) hx hb dL_isDone_346 hl (by decide) rfl (fun ls hl => ?_)
            refine lv_aload_n hx hb dL_isDone_348 rfl (lv_at hl 9 rfl) ?_
            refine lv_iconst (v := 2) hx hb dL_isDone_349 (by decide) ?_
            refine lv_dup2_11 hx hb dL_isDone_350 rfl rfl ?_
            refine n_iald (D := D) (f := g) (i := 2) hx hb hK hP 0 0 rfl rfl (by decide) (by decide) dL_isDone_351 ?_
            refine lv_topi (fun y9 ey9 => ?_)
            have ey9 : (nI (cnL tm 120 0)) = y9 := (ey9.trans hG.2.2).symm
            subst ey9
            refine lv_iload hx hb dL_isDone_352 (lv_at hl 0 rfl) ?_
            refine n_if_ge (x := 0) (tgt := 361) hx hb (by omega) dL_isDone_354 (by decide) ?_
            refine lv_iload hx hb dL_isDone_361 (lv_at hl 0 rfl) ?_
            refine lv_iconst (v := 1) hx hb dL_isDone_363 (by decide) ?_
            refine n_icmp_ne (x := 0) (y := 1) (tgt := 371) hx hb (by omega) (by omega) dL_isDone_364 (by decide) (fun c364 => ?_) (fun c364 => absurd c364 (by omega))
            refine lv_iconst (v := (-1)) hx hb dL_isDone_371 (by decide) ?_
            refine lv_iadd hx hb dL_isDone_372 ?_
            refine n_iast (D := D) (f := g) (i := 2) (x := ((nI (cnL tm 120 0)) + (-1))) hx hb hK hP hD hS 0 0 rfl rfl (by decide) (by decide) dL_isDone_373 (fun H locs hP hD hS => ?_)
            have hP : va_P D vwCl ([(gq, .inl (cI, 3, .inl (upd g 2 ((nI (cnL tm 120 0)) + (-1)))))] ++ wb17) H := hP
            have hD : va_D A ([(gq, .inl (cI, 3, .inl (upd g 2 ((nI (cnL tm 120 0)) + (-1)))))] ++ wb17) := hD
            have hG2 := GK_m (tm' := updB tm its (!(tm its))) hG (mk_dn (show its < 120 by omega) z8)
            refine lv_iload hx hb dL_isDone_374 (lv_at hl 1 rfl) ?_
            refine lv_aload_n hx hb dL_isDone_376 rfl (lv_at hl 9 rfl) ?_
            refine lv_iconst (v := 0) hx hb dL_isDone_377 (by decide) ?_
            refine n_iald (D := D) (f := (upd g 2 ((nI (cnL tm 120 0)) + (-1)))) (i := 0) hx hb hK hP 0 0 rfl rfl (by decide) (by decide) dL_isDone_378 ?_
            refine lv_topi (fun y9 ey9 => ?_)
            have ey9 : (nI n) = y9 := (ey9.trans hG2.1).symm
            subst ey9
            refine n_icmp_ne (x := its) (y := n) (tgt := 398) hx hb (by omega) (by omega) dL_isDone_379 (by decide) (fun c379 => ?_) (fun c379 => absurd c379 (by omega))
            refine lv_iload hx hb dL_isDone_398 (lv_at hl 0 rfl) ?_
            refine n_if_lt (x := 0) (tgt := 407) hx hb (by omega) dL_isDone_400 (by decide) ?_
            refine lv_iconst (v := 1) hx hb dL_isDone_403 (by decide) ?_
            refine lv_goto (tgt := 408) hx hb dL_isDone_404 (by decide) ?_
            refine W.widen (k := 3) (n := 18) (by omega) (by omega) ?_
            exact fin_z (v := 1) hx hb hr hlk hP hS rfl (⟨rfl, _, _, _, _, _, _, _, _, _, _, _, rfl, hW17, hG2⟩) (ad_app rfl (hW17.ads.trans hW.ads.symm)) hQ dL_isDone_408
      · skip
        refine lv_iload hx hb dL_isDone_246 (lv_at hl 2 rfl) ?_
        refine lv_iconst (v := 5) hx hb dL_isDone_248 (by decide) ?_
        refine n_irem (x := a) (y := 5) hx hb (by omega) (by omega) (by omega) dL_isDone_249 ?_
        refine n_if_ne (x := (a % 5)) (tgt := 258) hx hb (by omega) dL_isDone_250 (by decide) (fun c250 => ?_) (fun c250 => ?_)
        · skip
          refine lv_iload hx hb dL_isDone_258 (lv_at hl 0 rfl) ?_
          refine lv_sipush (v := 300) hx hb dL_isDone_260 (by decide) ?_
          refine n_irem (x := c9) (y := 300) hx hb (by omega) (by omega) (by omega) dL_isDone_263 ?_
          refine lv_istore (lv' := [(8, .int (nI (c9 % 300))), (7, .int (nI c9)), (6, .int (nI b9)), (5, .int (nI a)), (4, .int (nI what)), (0, .ref (q 0)), (1, .ref b), (2, .int (nI i4)), (3, .ref gq)]) hx hb dL_isDone_264 hl (by decide) rfl (fun ls hl => ?_)
          refine lv_aload_n hx hb dL_isDone_266 rfl (lv_at hl 8 rfl) ?_
          refine lv_iconst (v := 1) hx hb dL_isDone_267 (by decide) ?_
          refine n_iald (D := D) (f := g) (i := 1) hx hb hK hP 0 0 rfl rfl (by decide) (by decide) dL_isDone_268 ?_
          refine lv_topi (fun y9 ey9 => ?_)
          have ey9 : pn = y9 := (ey9.trans hG.2.1).symm
          subst ey9
          refine lv_istore (lv' := [(9, .int pn), (8, .int (nI (c9 % 300))), (7, .int (nI c9)), (6, .int (nI b9)), (5, .int (nI a)), (4, .int (nI what)), (0, .ref (q 0)), (1, .ref b), (2, .int (nI i4)), (3, .ref gq)]) hx hb dL_isDone_269 hl (by decide) rfl (fun ls hl => ?_)
          refine lv_aload_n hx hb dL_isDone_271 rfl (lv_at hl 9 rfl) ?_
          refine lv_iconst (v := 1) hx hb dL_isDone_272 (by decide) ?_
          refine lv_iload hx hb dL_isDone_273 (lv_at hl 1 rfl) ?_
          refine lv_ldc (v := 100000) hx hb hown (hAW _ q734) dL_isDone_275 ?_
          refine n_icmp_le (x := (c9 % 300)) (y := 100000) (tgt := 285) hx hb (by omega) (by omega) dL_isDone_277 (by decide) (fun c277 => ?_) (fun c277 => absurd c277 (by omega))
          refine lv_iload hx hb dL_isDone_285 (lv_at hl 1 rfl) ?_
          refine n_iast (D := D) (f := g) (i := 1) (x := (nI (c9 % 300))) hx hb hK hP hD hS 0 0 rfl rfl (by decide) (by decide) dL_isDone_287 (fun H locs hP hD hS => ?_)
          have hP : va_P D vwCl ([(gq, .inl (cI, 3, .inl (upd g 1 (nI (c9 % 300)))))] ++ wb) H := hP
          have hD : va_D A ([(gq, .inl (cI, 3, .inl (upd g 1 (nI (c9 % 300)))))] ++ wb) := hD
          have hG2 := GK_pn hG (nI (c9 % 300))
          refine lv_aload_n hx hb dL_isDone_288 rfl (lv_at hl 6 rfl) ?_
          refine lv_iconst (v := 2) hx hb dL_isDone_289 (by decide) ?_
          refine lv_iload hx hb dL_isDone_290 (lv_at hl 1 rfl) ?_
          refine lv_iconst (v := 0) hx hb dL_isDone_292 (by decide) ?_
          refine lv_iconst (v := 0) hx hb dL_isDone_293 (by decide) ?_
          obtain ⟨wb18, hW18, hM18⟩ := sh_sets2 l hl0 D cI cZ q hW (x := nI (c9 % 300)) 0 0 (in_k (k := 100000) (by omega) (by decide))
          refine call_Hi (wa := [(gq, .inl (cI, 3, .inl (upd g 1 (nI (c9 % 300)))))]) (w0 := wb) (w1 := wb18) (As := [.ref (q 0), .int 2, .int (nI (c9 % 300)), .int 0, .int 0]) (rest := []) hx hb hml hown hAW hN hT hNc hM18 q288 q289 q21 qw_sets hd_L_sets (by rw [hR]; exact Nat.le_of_ble_eq_true rfl) (by rw [hR]; exact Nat.le_of_ble_eq_true rfl) hK hP hD hS hA (hW18.ads.trans hW.ads.symm) rfl hl.1 rfl (lv_room (Nat.le_of_ble_eq_true rfl)) dL_isDone_294 (by rw [hR]; show 0 ≤ 3; omega) (by rw [hR]; show 0 ≤ 18; omega) (fun H locs hP hD hS => ?_)
          refine lv_iload hx hb dL_isDone_297 (lv_at hl 1 rfl) ?_
          refine lv_ldc (v := 100000) hx hb hown (hAW _ q734) dL_isDone_299 ?_
          refine n_icmp_le (x := (c9 % 300)) (y := 100000) (tgt := 309) hx hb (by omega) (by omega) dL_isDone_301 (by decide) (fun c301 => ?_) (fun c301 => absurd c301 (by omega))
          refine lv_iload hx hb dL_isDone_309 (lv_at hl 0 rfl) ?_
          refine lv_icmp_ne (tgt := 318) hx hb dL_isDone_311 (by decide) (fun c311 => absurd c311 (fun z => z rfl)) (fun c311 => ?_)
          refine lv_iconst (v := 1) hx hb dL_isDone_314 (by decide) ?_
          refine lv_goto (tgt := 319) hx hb dL_isDone_315 (by decide) ?_
          refine W.widen (k := 3) (n := 18) (by omega) (by omega) ?_
          exact fin_z (v := 1) hx hb hr hlk hP hS rfl (⟨rfl, _, _, _, _, _, _, _, _, _, _, _, rfl, hW18, hG2⟩) (ad_app rfl (hW18.ads.trans hW.ads.symm)) hQ dL_isDone_319
        · skip
          refine lv_ldc (v := 100001) hx hb hown (hAW _ q733) dL_isDone_253 ?_
          refine lv_goto (tgt := 264) hx hb dL_isDone_255 (by decide) ?_
          refine lv_istore (lv' := [(8, .int 100001), (7, .int (nI c9)), (6, .int (nI b9)), (5, .int (nI a)), (4, .int (nI what)), (0, .ref (q 0)), (1, .ref b), (2, .int (nI i4)), (3, .ref gq)]) hx hb dL_isDone_264 hl (by decide) rfl (fun ls hl => ?_)
          refine lv_aload_n hx hb dL_isDone_266 rfl (lv_at hl 8 rfl) ?_
          refine lv_iconst (v := 1) hx hb dL_isDone_267 (by decide) ?_
          refine n_iald (D := D) (f := g) (i := 1) hx hb hK hP 0 0 rfl rfl (by decide) (by decide) dL_isDone_268 ?_
          refine lv_topi (fun y9 ey9 => ?_)
          have ey9 : pn = y9 := (ey9.trans hG.2.1).symm
          subst ey9
          refine lv_istore (lv' := [(9, .int pn), (8, .int 100001), (7, .int (nI c9)), (6, .int (nI b9)), (5, .int (nI a)), (4, .int (nI what)), (0, .ref (q 0)), (1, .ref b), (2, .int (nI i4)), (3, .ref gq)]) hx hb dL_isDone_269 hl (by decide) rfl (fun ls hl => ?_)
          refine lv_aload_n hx hb dL_isDone_271 rfl (lv_at hl 9 rfl) ?_
          refine lv_iconst (v := 1) hx hb dL_isDone_272 (by decide) ?_
          refine lv_iload hx hb dL_isDone_273 (lv_at hl 1 rfl) ?_
          refine lv_ldc (v := 100000) hx hb hown (hAW _ q734) dL_isDone_275 ?_
          refine n_icmp_le (x := 100001) (y := 100000) (tgt := 285) hx hb (by omega) (by omega) dL_isDone_277 (by decide) (fun c277 => absurd c277 (by omega)) (fun c277 => ?_)
          refine lv_iload hx hb dL_isDone_280 (lv_at hl 0 rfl) ?_
          refine lv_goto (tgt := 287) hx hb dL_isDone_282 (by decide) ?_
          refine n_iast (D := D) (f := g) (i := 1) (x := pn) hx hb hK hP hD hS 0 0 rfl rfl (by decide) (by decide) dL_isDone_287 (fun H locs hP hD hS => ?_)
          have hP : va_P D vwCl ([(gq, .inl (cI, 3, .inl (upd g 1 pn)))] ++ wb) H := hP
          have hD : va_D A ([(gq, .inl (cI, 3, .inl (upd g 1 pn)))] ++ wb) := hD
          have hG2 := GK_pn hG pn
          refine lv_aload_n hx hb dL_isDone_288 rfl (lv_at hl 6 rfl) ?_
          refine lv_iconst (v := 2) hx hb dL_isDone_289 (by decide) ?_
          refine lv_iload hx hb dL_isDone_290 (lv_at hl 1 rfl) ?_
          refine lv_iconst (v := 0) hx hb dL_isDone_292 (by decide) ?_
          refine lv_iconst (v := 0) hx hb dL_isDone_293 (by decide) ?_
          refine call_Hi (wa := [(gq, .inl (cI, 3, .inl (upd g 1 pn)))]) (w0 := wb) (w1 := wb) (As := [.ref (q 0), .int 2, .int 100001, .int 0, .int 0]) (rest := []) hx hb hml hown hAW hN hT hNc (sh_sets2x l hl0 D cI cZ q hW (x := 100001) 0 0 (by decide)) q288 q289 q21 qw_sets hd_L_sets (by rw [hR]; exact Nat.le_of_ble_eq_true rfl) (by rw [hR]; exact Nat.le_of_ble_eq_true rfl) hK hP hD hS hA rfl rfl hl.1 rfl (lv_room (Nat.le_of_ble_eq_true rfl)) dL_isDone_294 (by rw [hR]; show 1 ≤ 3; omega) (by rw [hR]; show 6 ≤ 18; omega) (fun H locs hP hD hS => ?_)
          refine lv_iload hx hb dL_isDone_297 (lv_at hl 1 rfl) ?_
          refine lv_ldc (v := 100000) hx hb hown (hAW _ q734) dL_isDone_299 ?_
          refine n_icmp_le (x := 100001) (y := 100000) (tgt := 309) hx hb (by omega) (by omega) dL_isDone_301 (by decide) (fun c301 => absurd c301 (by omega)) (fun c301 => ?_)
          refine lv_bipush (v := (-20)) hx hb dL_isDone_304 (by decide) ?_
          refine lv_goto (tgt := 311) hx hb dL_isDone_306 (by decide) ?_
          refine lv_icmp_ne (tgt := 318) hx hb dL_isDone_311 (by decide) (fun c311 => absurd c311 (fun z => z rfl)) (fun c311 => ?_)
          refine lv_iconst (v := 1) hx hb dL_isDone_314 (by decide) ?_
          refine lv_goto (tgt := 319) hx hb dL_isDone_315 (by decide) ?_
          refine W.widen (k := 3) (n := 18) (by omega) (by omega) ?_
          exact fin_z (v := 1) hx hb hr hlk hP hS rfl (⟨rfl, _, _, _, _, _, _, _, _, _, _, _, rfl, hW, hG2⟩) (ad_app rfl (hW.ads.trans hW.ads.symm)) hQ dL_isDone_319
    · skip
      rcases (show what = 13 ∨ what = 14 by omega) with w9 | w9
      · skip
        refine lv_iload hx hb dL_isDone_71 (lv_at hl 3 rfl) ?_
        refine lv_bipush (v := 13) hx hb dL_isDone_73 (by decide) ?_
        refine n_icmp_ne (x := what) (y := 13) (tgt := 98) hx hb (by omega) (by omega) dL_isDone_75 (by decide) (fun c75 => absurd c75 (by omega)) (fun c75 => ?_)
        refine lv_iload hx hb dL_isDone_78 (lv_at hl 2 rfl) ?_
        refine lv_sipush (v := 2003) hx hb dL_isDone_80 (by decide) ?_
        refine n_irem (x := a) (y := 2003) hx hb (by omega) (by omega) (by omega) dL_isDone_83 ?_
        refine lv_sipush (v := 2001) hx hb dL_isDone_84 (by decide) ?_
        refine n_icmp_ge (x := (a % 2003)) (y := 2001) (tgt := 94) hx hb (by omega) (by omega) dL_isDone_87 (by decide) (fun c87 => ?_) (fun c87 => ?_)
        · skip
          refine lv_iconst (v := 0) hx hb dL_isDone_94 (by decide) ?_
          refine lv_goto (tgt := 115) hx hb dL_isDone_95 (by decide) ?_
          refine lv_istore (lv' := [(8, .int 0), (7, .int (nI c9)), (6, .int (nI b9)), (5, .int (nI a)), (4, .int (nI what)), (0, .ref (q 0)), (1, .ref b), (2, .int (nI i4)), (3, .ref gq)]) hx hb dL_isDone_115 hl (by decide) rfl (fun ls hl => ?_)
          refine lv_iload hx hb dL_isDone_117 (lv_at hl 4 rfl) ?_
          refine lv_bipush (v := 13) hx hb dL_isDone_119 (by decide) ?_
          refine n_icmp_ne (x := what) (y := 13) (tgt := 153) hx hb (by omega) (by omega) dL_isDone_121 (by decide) (fun c121 => absurd c121 (by omega)) (fun c121 => ?_)
          refine lv_aload_n hx hb dL_isDone_124 rfl (lv_at hl 5 rfl) ?_
          refine lv_iconst (v := 0) hx hb dL_isDone_125 (by decide) ?_
          refine lv_iload hx hb dL_isDone_126 (lv_at hl 3 rfl) ?_
          refine lv_sipush (v := 2003) hx hb dL_isDone_128 (by decide) ?_
          refine n_irem (x := a) (y := 2003) hx hb (by omega) (by omega) (by omega) dL_isDone_131 ?_
          refine lv_sipush (v := 1000) hx hb dL_isDone_132 (by decide) ?_
          refine lv_isub hx hb dL_isDone_135 ?_
          refine lv_iload hx hb dL_isDone_136 (lv_at hl 2 rfl) ?_
          refine lv_bipush (v := 20) hx hb dL_isDone_138 (by decide) ?_
          refine n_irem (x := b9) (y := 20) hx hb (by omega) (by omega) (by omega) dL_isDone_140 ?_
          refine lv_iload hx hb dL_isDone_141 (lv_at hl 1 rfl) ?_
          refine lv_sipush (v := 200) hx hb dL_isDone_143 (by decide) ?_
          refine n_irem (x := c9) (y := 200) hx hb (by omega) (by omega) (by omega) dL_isDone_146 ?_
          refine call_Hi (wa := [(gq, .inl (cI, 3, .inl g))]) (w0 := wb) (w1 := wb) (As := [.ref (q 0), .int 0, .int ((nI (a % 2003)) - 1000), .int (nI (b9 % 20)), .int (nI (c9 % 200))]) (rest := []) hx hb hml hown hAW hN hT hNc (sh_sets0x l hl0 D cI cZ q hW (x := ((nI (a % 2003)) - 1000)) (y := (nI (b9 % 20))) (z := (nI (c9 % 200))) (fun z => absurd ((s13 (Nat.mod_lt _ (by decide))).mp z.1) (by omega))) q288 q289 q21 qw_sets hd_L_sets (by rw [hR]; exact Nat.le_of_ble_eq_true rfl) (by rw [hR]; exact Nat.le_of_ble_eq_true rfl) hK hP hD hS hA rfl rfl hl.1 rfl (lv_room (Nat.le_of_ble_eq_true rfl)) dL_isDone_147 (by rw [hR]; show 1 ≤ 3; omega) (by rw [hR]; show 6 ≤ 18; omega) (fun H locs hP hD hS => ?_)
          refine lv_goto (tgt := 175) hx hb dL_isDone_150 (by decide) ?_
          refine lv_istore (lv' := [(9, .int (-20)), (8, .int 0), (7, .int (nI c9)), (6, .int (nI b9)), (5, .int (nI a)), (4, .int (nI what)), (0, .ref (q 0)), (1, .ref b), (2, .int (nI i4)), (3, .ref gq)]) hx hb dL_isDone_175 hl (by decide) rfl (fun ls hl => ?_)
          refine lv_iload hx hb dL_isDone_177 (lv_at hl 0 rfl) ?_
          refine lv_iload hx hb dL_isDone_179 (lv_at hl 1 rfl) ?_
          refine n_if_eq (x := 0) (tgt := 188) hx hb (by omega) dL_isDone_181 (by decide) (fun c181 => ?_) (fun c181 => absurd c181 (by decide))
          refine lv_bipush (v := (-20)) hx hb dL_isDone_188 (by decide) ?_
          refine lv_icmp_ne (tgt := 237) hx hb dL_isDone_190 (by decide) (fun c190 => absurd c190 (fun z => z rfl)) (fun c190 => ?_)
          refine lv_iload hx hb dL_isDone_193 (lv_at hl 1 rfl) ?_
          refine n_if_eq (x := 0) (tgt := 233) hx hb (by omega) dL_isDone_195 (by decide) (fun c195 => ?_) (fun c195 => absurd c195 (by decide))
          refine lv_iconst (v := 1) hx hb dL_isDone_233 (by decide) ?_
          refine lv_goto (tgt := 238) hx hb dL_isDone_234 (by decide) ?_
          refine W.widen (k := 3) (n := 18) (by omega) (by omega) ?_
          exact fin_z (v := 1) hx hb hr hlk hP hS rfl (⟨rfl, _, _, _, _, _, _, _, _, _, _, _, rfl, hW, hG⟩) (ad_app rfl (hW.ads.trans hW.ads.symm)) hQ dL_isDone_238
        · skip
          refine lv_iconst (v := 1) hx hb dL_isDone_90 (by decide) ?_
          refine lv_goto (tgt := 115) hx hb dL_isDone_91 (by decide) ?_
          refine lv_istore (lv' := [(8, .int 1), (7, .int (nI c9)), (6, .int (nI b9)), (5, .int (nI a)), (4, .int (nI what)), (0, .ref (q 0)), (1, .ref b), (2, .int (nI i4)), (3, .ref gq)]) hx hb dL_isDone_115 hl (by decide) rfl (fun ls hl => ?_)
          refine lv_iload hx hb dL_isDone_117 (lv_at hl 4 rfl) ?_
          refine lv_bipush (v := 13) hx hb dL_isDone_119 (by decide) ?_
          refine n_icmp_ne (x := what) (y := 13) (tgt := 153) hx hb (by omega) (by omega) dL_isDone_121 (by decide) (fun c121 => absurd c121 (by omega)) (fun c121 => ?_)
          refine lv_aload_n hx hb dL_isDone_124 rfl (lv_at hl 5 rfl) ?_
          refine lv_iconst (v := 0) hx hb dL_isDone_125 (by decide) ?_
          refine lv_iload hx hb dL_isDone_126 (lv_at hl 3 rfl) ?_
          refine lv_sipush (v := 2003) hx hb dL_isDone_128 (by decide) ?_
          refine n_irem (x := a) (y := 2003) hx hb (by omega) (by omega) (by omega) dL_isDone_131 ?_
          refine lv_sipush (v := 1000) hx hb dL_isDone_132 (by decide) ?_
          refine lv_isub hx hb dL_isDone_135 ?_
          refine lv_iload hx hb dL_isDone_136 (lv_at hl 2 rfl) ?_
          refine lv_bipush (v := 20) hx hb dL_isDone_138 (by decide) ?_
          refine n_irem (x := b9) (y := 20) hx hb (by omega) (by omega) (by omega) dL_isDone_140 ?_
          refine lv_iload hx hb dL_isDone_141 (lv_at hl 1 rfl) ?_
          refine lv_sipush (v := 200) hx hb dL_isDone_143 (by decide) ?_
          refine n_irem (x := c9) (y := 200) hx hb (by omega) (by omega) (by omega) dL_isDone_146 ?_
          obtain ⟨wb21, hW21, hM21⟩ := sh_sets0 l hl0 D cI cZ q hW (x := ((nI (a % 2003)) - 1000)) (y := (nI (b9 % 20))) (z := (nI (c9 % 200))) ⟨(s13 (Nat.mod_lt _ (by decide))).mpr c87, in_k (k := 1000) (by omega) (by decide), in_k (k := 100000) (by omega) (by decide)⟩
          refine call_Hi (wa := [(gq, .inl (cI, 3, .inl g))]) (w0 := wb) (w1 := wb21) (As := [.ref (q 0), .int 0, .int ((nI (a % 2003)) - 1000), .int (nI (b9 % 20)), .int (nI (c9 % 200))]) (rest := []) hx hb hml hown hAW hN hT hNc hM21 q288 q289 q21 qw_sets hd_L_sets (by rw [hR]; exact Nat.le_of_ble_eq_true rfl) (by rw [hR]; exact Nat.le_of_ble_eq_true rfl) hK hP hD hS hA (hW21.ads.trans hW.ads.symm) rfl hl.1 rfl (lv_room (Nat.le_of_ble_eq_true rfl)) dL_isDone_147 (by rw [hR]; show 0 ≤ 3; omega) (by rw [hR]; show 0 ≤ 18; omega) (fun H locs hP hD hS => ?_)
          refine lv_goto (tgt := 175) hx hb dL_isDone_150 (by decide) ?_
          refine lv_istore (lv' := [(9, .int 0), (8, .int 1), (7, .int (nI c9)), (6, .int (nI b9)), (5, .int (nI a)), (4, .int (nI what)), (0, .ref (q 0)), (1, .ref b), (2, .int (nI i4)), (3, .ref gq)]) hx hb dL_isDone_175 hl (by decide) rfl (fun ls hl => ?_)
          refine lv_iload hx hb dL_isDone_177 (lv_at hl 0 rfl) ?_
          refine lv_iload hx hb dL_isDone_179 (lv_at hl 1 rfl) ?_
          refine n_if_eq (x := 1) (tgt := 188) hx hb (by omega) dL_isDone_181 (by decide) (fun c181 => absurd c181 (by decide)) (fun c181 => ?_)
          refine lv_iconst (v := 0) hx hb dL_isDone_184 (by decide) ?_
          refine lv_goto (tgt := 190) hx hb dL_isDone_185 (by decide) ?_
          refine n_icmp_ne (x := 0) (y := 0) (tgt := 237) hx hb (by omega) (by omega) dL_isDone_190 (by decide) (fun c190 => absurd c190 (fun z => z rfl)) (fun c190 => ?_)
          refine lv_iload hx hb dL_isDone_193 (lv_at hl 1 rfl) ?_
          refine n_if_eq (x := 1) (tgt := 233) hx hb (by omega) dL_isDone_195 (by decide) (fun c195 => absurd c195 (by decide)) (fun c195 => ?_)
          refine lv_iload hx hb dL_isDone_198 (lv_at hl 5 rfl) ?_
          refine lv_bipush (v := 13) hx hb dL_isDone_200 (by decide) ?_
          refine n_icmp_ne (x := what) (y := 13) (tgt := 219) hx hb (by omega) (by omega) dL_isDone_202 (by decide) (fun c202 => absurd c202 (by omega)) (fun c202 => ?_)
          refine lv_aload_n hx hb dL_isDone_205 rfl (lv_at hl 6 rfl) ?_
          refine call_Pi (wa := [(gq, .inl (cI, 3, .inl g))]) (w0 := wb21) (w1 := wb21) (As := []) (rest := []) hx hb hml hown hAW hN (sp_highSum l D cI cZ q hW21) q685 q686 q687 q22 q688 hd_X9_highSum (by rw [hR]; exact Nat.le_of_ble_eq_true rfl) (by rw [hR]; exact Nat.le_of_ble_eq_true rfl) hK hP hD hS hA hW21.hd rfl rfl hl.1 rfl (lv_room (Nat.le_of_ble_eq_true rfl)) dL_isDone_206 (by rw [hR]; show 0 ≤ 3; omega) (by rw [hR]; show 0 ≤ 18; omega) (fun H locs hP hD hS => ?_)
          refine lv_if_ne (tgt := 219) hx hb dL_isDone_209 (by decide) (fun c209 => absurd c209 (fun z => z rfl)) (fun c209 => ?_)
          refine lv_aload_n hx hb dL_isDone_212 rfl (lv_at hl 6 rfl) ?_
          refine call_Pi (wa := [(gq, .inl (cI, 3, .inl g))]) (w0 := wb21) (w1 := wb21) (As := []) (rest := []) hx hb hml hown hAW hN (sp_lowSum l D cI cZ q hW21) q689 q690 q691 q22 q692 hd_X9_lowSum (by rw [hR]; exact Nat.le_of_ble_eq_true rfl) (by rw [hR]; exact Nat.le_of_ble_eq_true rfl) hK hP hD hS hA hW21.hd rfl rfl hl.1 rfl (lv_room (Nat.le_of_ble_eq_true rfl)) dL_isDone_213 (by rw [hR]; show 0 ≤ 3; omega) (by rw [hR]; show 0 ≤ 18; omega) (fun H locs hP hD hS => ?_)
          refine lv_if_eq (tgt := 233) hx hb dL_isDone_216 (by decide) (fun c216 => ?_) (fun c216 => absurd c216 (fun z => z rfl))
          refine lv_iconst (v := 1) hx hb dL_isDone_233 (by decide) ?_
          refine lv_goto (tgt := 238) hx hb dL_isDone_234 (by decide) ?_
          refine W.widen (k := 3) (n := 18) (by omega) (by omega) ?_
          exact fin_z (v := 1) hx hb hr hlk hP hS rfl (⟨rfl, _, _, _, _, _, _, _, _, _, _, _, rfl, hW21, hG⟩) (ad_app rfl (hW21.ads.trans hW.ads.symm)) hQ dL_isDone_238
      · skip
        refine lv_iload hx hb dL_isDone_71 (lv_at hl 3 rfl) ?_
        refine lv_bipush (v := 13) hx hb dL_isDone_73 (by decide) ?_
        refine n_icmp_ne (x := what) (y := 13) (tgt := 98) hx hb (by omega) (by omega) dL_isDone_75 (by decide) (fun c75 => ?_) (fun c75 => absurd c75 (by omega))
        refine lv_iload hx hb dL_isDone_98 (lv_at hl 1 rfl) ?_
        refine lv_sipush (v := 1002) hx hb dL_isDone_100 (by decide) ?_
        refine n_irem (x := b9) (y := 1002) hx hb (by omega) (by omega) (by omega) dL_isDone_103 ?_
        refine lv_sipush (v := 1001) hx hb dL_isDone_104 (by decide) ?_
        refine n_icmp_ge (x := (b9 % 1002)) (y := 1001) (tgt := 114) hx hb (by omega) (by omega) dL_isDone_107 (by decide) (fun c107 => ?_) (fun c107 => ?_)
        · skip
          refine lv_iconst (v := 0) hx hb dL_isDone_114 (by decide) ?_
          refine lv_istore (lv' := [(8, .int 0), (7, .int (nI c9)), (6, .int (nI b9)), (5, .int (nI a)), (4, .int (nI what)), (0, .ref (q 0)), (1, .ref b), (2, .int (nI i4)), (3, .ref gq)]) hx hb dL_isDone_115 hl (by decide) rfl (fun ls hl => ?_)
          refine lv_iload hx hb dL_isDone_117 (lv_at hl 4 rfl) ?_
          refine lv_bipush (v := 13) hx hb dL_isDone_119 (by decide) ?_
          refine n_icmp_ne (x := what) (y := 13) (tgt := 153) hx hb (by omega) (by omega) dL_isDone_121 (by decide) (fun c121 => ?_) (fun c121 => absurd c121 (by omega))
          refine lv_aload_n hx hb dL_isDone_153 rfl (lv_at hl 5 rfl) ?_
          refine lv_iconst (v := 1) hx hb dL_isDone_154 (by decide) ?_
          refine lv_iload hx hb dL_isDone_155 (lv_at hl 3 rfl) ?_
          refine lv_bipush (v := 20) hx hb dL_isDone_157 (by decide) ?_
          refine n_irem (x := a) (y := 20) hx hb (by omega) (by omega) (by omega) dL_isDone_159 ?_
          refine lv_iload hx hb dL_isDone_160 (lv_at hl 2 rfl) ?_
          refine lv_sipush (v := 1002) hx hb dL_isDone_162 (by decide) ?_
          refine n_irem (x := b9) (y := 1002) hx hb (by omega) (by omega) (by omega) dL_isDone_165 ?_
          refine lv_iload hx hb dL_isDone_166 (lv_at hl 1 rfl) ?_
          refine lv_sipush (v := 200) hx hb dL_isDone_168 (by decide) ?_
          refine n_irem (x := c9) (y := 200) hx hb (by omega) (by omega) (by omega) dL_isDone_171 ?_
          refine call_Hi (wa := [(gq, .inl (cI, 3, .inl g))]) (w0 := wb) (w1 := wb) (As := [.ref (q 0), .int 1, .int (nI (a % 20)), .int (nI (b9 % 1002)), .int (nI (c9 % 200))]) (rest := []) hx hb hml hown hAW hN hT hNc (sh_sets1x l hl0 D cI cZ q hW (x := (nI (a % 20))) (y := (nI (b9 % 1002))) (z := (nI (c9 % 200))) (fun z => absurd ((nI_leI (b := 1000) (by omega) (by decide)).mp z.2.1.2) (by omega))) q288 q289 q21 qw_sets hd_L_sets (by rw [hR]; exact Nat.le_of_ble_eq_true rfl) (by rw [hR]; exact Nat.le_of_ble_eq_true rfl) hK hP hD hS hA rfl rfl hl.1 rfl (lv_room (Nat.le_of_ble_eq_true rfl)) dL_isDone_172 (by rw [hR]; show 1 ≤ 3; omega) (by rw [hR]; show 6 ≤ 18; omega) (fun H locs hP hD hS => ?_)
          refine lv_istore (lv' := [(9, .int (-20)), (8, .int 0), (7, .int (nI c9)), (6, .int (nI b9)), (5, .int (nI a)), (4, .int (nI what)), (0, .ref (q 0)), (1, .ref b), (2, .int (nI i4)), (3, .ref gq)]) hx hb dL_isDone_175 hl (by decide) rfl (fun ls hl => ?_)
          refine lv_iload hx hb dL_isDone_177 (lv_at hl 0 rfl) ?_
          refine lv_iload hx hb dL_isDone_179 (lv_at hl 1 rfl) ?_
          refine n_if_eq (x := 0) (tgt := 188) hx hb (by omega) dL_isDone_181 (by decide) (fun c181 => ?_) (fun c181 => absurd c181 (by decide))
          refine lv_bipush (v := (-20)) hx hb dL_isDone_188 (by decide) ?_
          refine lv_icmp_ne (tgt := 237) hx hb dL_isDone_190 (by decide) (fun c190 => absurd c190 (fun z => z rfl)) (fun c190 => ?_)
          refine lv_iload hx hb dL_isDone_193 (lv_at hl 1 rfl) ?_
          refine n_if_eq (x := 0) (tgt := 233) hx hb (by omega) dL_isDone_195 (by decide) (fun c195 => ?_) (fun c195 => absurd c195 (by decide))
          refine lv_iconst (v := 1) hx hb dL_isDone_233 (by decide) ?_
          refine lv_goto (tgt := 238) hx hb dL_isDone_234 (by decide) ?_
          refine W.widen (k := 3) (n := 18) (by omega) (by omega) ?_
          exact fin_z (v := 1) hx hb hr hlk hP hS rfl (⟨rfl, _, _, _, _, _, _, _, _, _, _, _, rfl, hW, hG⟩) (ad_app rfl (hW.ads.trans hW.ads.symm)) hQ dL_isDone_238
        · skip
          refine lv_iconst (v := 1) hx hb dL_isDone_110 (by decide) ?_
          refine lv_goto (tgt := 115) hx hb dL_isDone_111 (by decide) ?_
          refine lv_istore (lv' := [(8, .int 1), (7, .int (nI c9)), (6, .int (nI b9)), (5, .int (nI a)), (4, .int (nI what)), (0, .ref (q 0)), (1, .ref b), (2, .int (nI i4)), (3, .ref gq)]) hx hb dL_isDone_115 hl (by decide) rfl (fun ls hl => ?_)
          refine lv_iload hx hb dL_isDone_117 (lv_at hl 4 rfl) ?_
          refine lv_bipush (v := 13) hx hb dL_isDone_119 (by decide) ?_
          refine n_icmp_ne (x := what) (y := 13) (tgt := 153) hx hb (by omega) (by omega) dL_isDone_121 (by decide) (fun c121 => ?_) (fun c121 => absurd c121 (by omega))
          refine lv_aload_n hx hb dL_isDone_153 rfl (lv_at hl 5 rfl) ?_
          refine lv_iconst (v := 1) hx hb dL_isDone_154 (by decide) ?_
          refine lv_iload hx hb dL_isDone_155 (lv_at hl 3 rfl) ?_
          refine lv_bipush (v := 20) hx hb dL_isDone_157 (by decide) ?_
          refine n_irem (x := a) (y := 20) hx hb (by omega) (by omega) (by omega) dL_isDone_159 ?_
          refine lv_iload hx hb dL_isDone_160 (lv_at hl 2 rfl) ?_
          refine lv_sipush (v := 1002) hx hb dL_isDone_162 (by decide) ?_
          refine n_irem (x := b9) (y := 1002) hx hb (by omega) (by omega) (by omega) dL_isDone_165 ?_
          refine lv_iload hx hb dL_isDone_166 (lv_at hl 1 rfl) ?_
          refine lv_sipush (v := 200) hx hb dL_isDone_168 (by decide) ?_
          refine n_irem (x := c9) (y := 200) hx hb (by omega) (by omega) (by omega) dL_isDone_171 ?_
          obtain ⟨wb25, hW25, hM25⟩ := sh_sets1 l hl0 D cI cZ q hW (x := (nI (a % 20))) (y := (nI (b9 % 1002))) (z := (nI (c9 % 200))) ⟨in_k (k := 1000) (by omega) (by decide), in_k (k := 1000) (by omega) (by decide), in_k (k := 100000) (by omega) (by decide)⟩
          refine call_Hi (wa := [(gq, .inl (cI, 3, .inl g))]) (w0 := wb) (w1 := wb25) (As := [.ref (q 0), .int 1, .int (nI (a % 20)), .int (nI (b9 % 1002)), .int (nI (c9 % 200))]) (rest := []) hx hb hml hown hAW hN hT hNc hM25 q288 q289 q21 qw_sets hd_L_sets (by rw [hR]; exact Nat.le_of_ble_eq_true rfl) (by rw [hR]; exact Nat.le_of_ble_eq_true rfl) hK hP hD hS hA (hW25.ads.trans hW.ads.symm) rfl hl.1 rfl (lv_room (Nat.le_of_ble_eq_true rfl)) dL_isDone_172 (by rw [hR]; show 0 ≤ 3; omega) (by rw [hR]; show 0 ≤ 18; omega) (fun H locs hP hD hS => ?_)
          refine lv_istore (lv' := [(9, .int 0), (8, .int 1), (7, .int (nI c9)), (6, .int (nI b9)), (5, .int (nI a)), (4, .int (nI what)), (0, .ref (q 0)), (1, .ref b), (2, .int (nI i4)), (3, .ref gq)]) hx hb dL_isDone_175 hl (by decide) rfl (fun ls hl => ?_)
          refine lv_iload hx hb dL_isDone_177 (lv_at hl 0 rfl) ?_
          refine lv_iload hx hb dL_isDone_179 (lv_at hl 1 rfl) ?_
          refine n_if_eq (x := 1) (tgt := 188) hx hb (by omega) dL_isDone_181 (by decide) (fun c181 => absurd c181 (by decide)) (fun c181 => ?_)
          refine lv_iconst (v := 0) hx hb dL_isDone_184 (by decide) ?_
          refine lv_goto (tgt := 190) hx hb dL_isDone_185 (by decide) ?_
          refine n_icmp_ne (x := 0) (y := 0) (tgt := 237) hx hb (by omega) (by omega) dL_isDone_190 (by decide) (fun c190 => absurd c190 (fun z => z rfl)) (fun c190 => ?_)
          refine lv_iload hx hb dL_isDone_193 (lv_at hl 1 rfl) ?_
          refine n_if_eq (x := 1) (tgt := 233) hx hb (by omega) dL_isDone_195 (by decide) (fun c195 => absurd c195 (by decide)) (fun c195 => ?_)
          refine lv_iload hx hb dL_isDone_198 (lv_at hl 5 rfl) ?_
          refine lv_bipush (v := 13) hx hb dL_isDone_200 (by decide) ?_
          refine n_icmp_ne (x := what) (y := 13) (tgt := 219) hx hb (by omega) (by omega) dL_isDone_202 (by decide) (fun c202 => ?_) (fun c202 => absurd c202 (by omega))
          refine lv_iload hx hb dL_isDone_219 (lv_at hl 5 rfl) ?_
          refine lv_bipush (v := 14) hx hb dL_isDone_221 (by decide) ?_
          refine n_icmp_ne (x := what) (y := 14) (tgt := 237) hx hb (by omega) (by omega) dL_isDone_223 (by decide) (fun c223 => absurd c223 (by omega)) (fun c223 => ?_)
          refine lv_aload_n hx hb dL_isDone_226 rfl (lv_at hl 6 rfl) ?_
          refine call_Pi (wa := [(gq, .inl (cI, 3, .inl g))]) (w0 := wb25) (w1 := wb25) (As := []) (rest := []) hx hb hml hown hAW hN (sp_testSum l D cI cZ q hW25) q693 q694 q695 q22 q696 hd_X9_testSum (by rw [hR]; exact Nat.le_of_ble_eq_true rfl) (by rw [hR]; exact Nat.le_of_ble_eq_true rfl) hK hP hD hS hA hW25.hd rfl rfl hl.1 rfl (lv_room (Nat.le_of_ble_eq_true rfl)) dL_isDone_227 (by rw [hR]; show 0 ≤ 3; omega) (by rw [hR]; show 0 ≤ 18; omega) (fun H locs hP hD hS => ?_)
          refine lv_if_ne (tgt := 237) hx hb dL_isDone_230 (by decide) (fun c230 => absurd c230 (fun z => z (by show (0 : Int32) - 0 = 0; decide))) (fun c230 => ?_)
          refine lv_iconst (v := 1) hx hb dL_isDone_233 (by decide) ?_
          refine lv_goto (tgt := 238) hx hb dL_isDone_234 (by decide) ?_
          refine W.widen (k := 3) (n := 18) (by omega) (by omega) ?_
          exact fin_z (v := 1) hx hb hr hlk hP hS rfl (⟨rfl, _, _, _, _, _, _, _, _, _, _, _, rfl, hW25, hG⟩) (ad_app rfl (hW25.ads.trans hW.ads.symm)) hQ dL_isDone_238
  · skip
    refine lv_aload_n hx hb dL_isDone_52 rfl (lv_at hl 4 rfl) ?_
    refine lv_aload_n hx hb dL_isDone_53 rfl (lv_at hl 7 rfl) ?_
    refine lv_iload hx hb dL_isDone_54 (lv_at hl 2 rfl) ?_
    refine lv_iload hx hb dL_isDone_56 (lv_at hl 1 rfl) ?_
    refine lv_iload hx hb dL_isDone_58 (lv_at hl 0 rfl) ?_
    have hP : va_P D vwCl ([] ++ ([(gq, .inl (cI, 3, .inl g))] ++ wb)) H := hP
    have hD : va_D A ([] ++ ([(gq, .inl (cI, 3, .inl g))] ++ wb)) := hD
    have hc9 := cl_isAdded (gq := gq) l hl0 D cI cZ q hW hG (a := a) (b := b9) (c9 := c9) (by omega) (by omega) (by omega)
    refine call_Zw (mc := 1) (ms := 6) (rm := { frames := 11, cells := 1, slots := 6, locals := 220 }) (wa := []) (w0 := ([(gq, .inl (cI, 3, .inl g))] ++ wb)) (As := [.ref (q 0), .ref gq, .int (nI a), .int (nI b9), .int (nI c9)]) (rest := []) hx hb hml hown hAW hN hT hNc hc9 q726 q727 q21 q728 hd_L_isAdded (by rw [hR]; exact Nat.le_of_ble_eq_true rfl) (by rw [hR]; exact Nat.le_of_ble_eq_true rfl) rfl rfl hK hP hD hS hA rfl hl.1 rfl (lv_room (Nat.le_of_ble_eq_true rfl)) dL_isDone_60 (by rw [hR]; show 1 ≤ 3; omega) (by rw [hR]; show 6 ≤ 18; omega) (fun x9 w9 H locs hz9 hw9 hP hD hS => ?_)
    obtain ⟨e9, g9, v9, n9, pn9, al9, cs9, ph9, tm9, bx9, bg9, wb9, rfl, hW9, hG9⟩ := hz9
    subst e9
    have hP : va_P D vwCl ([(gq, .inl (cI, 3, .inl g9))] ++ wb9) H := hP
    have hD : va_D A ([(gq, .inl (cI, 3, .inl g9))] ++ wb9) := hD
    refine W.widen (k := 3) (n := 18) (by omega) (by omega) ?_
    exact fin_z (v := 1) hx hb hr hlk hP hS rfl (⟨rfl, _, _, _, _, _, _, _, _, _, _, _, rfl, hW9, hG9⟩) (ad_app rfl (hW9.ads.trans hW.ads.symm)) hQ dL_isDone_63
