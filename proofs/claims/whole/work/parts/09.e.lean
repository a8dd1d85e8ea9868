set_option maxHeartbeats 4000000 in
set_option maxRecDepth 100000 in
/-- from the entry, for every script of at most 2048 ints, the law comes to its end with true -/
theorem whole_start {p : Program} {e : Env} {s : State} {m : MethodId} {below : List Frame} {meth : Method} {c : Code} (l : Launch) (hflags : l.flags = flags0) {b L : Nat} {xs : Nat → Int32} (hL : L ≤ 2048) (C0 : lw_At p s m meth c b L xs) : W p l e room_1 s m #[Value.ref b] below meth c s.heap [] 0 0 (lw_Z below #[Value.ref b] s) (entryFrame m ([Value.ref b] : List Value).toArray 8) := by
  obtain ⟨hx, hb, hr, hml, hown, hts, hX, hbl, hlk, hgv⟩ := id C0
  have hAW : ∀ w ∈ AW, w.before #[Value.ref b] s = true := fun w hw => hts w (aw_tbl hw)
  have hN := nw_of hts
  have hl0 : l.stackTraces = false := by unfold Launch.stackTraces; rw [hflags]; decide +kernel
  have hA : ∀ q : Nat, s.heap.size ≤ q → (fun q : Nat => s.heap.size ≤ q) q := fun _ h => h
  obtain ⟨c0, i0, k0⟩ := u_known hAW iwX0 (hAW _ q68)
  obtain ⟨c1, i1, k1⟩ := u_known hAW iwX1 (hAW _ q207)
  obtain ⟨c2, i2, k2⟩ := u_known hAW iwX2 (hAW _ q95)
  obtain ⟨c3, i3, k3⟩ := u_known hAW iwX3 (hAW _ q223)
  obtain ⟨c4, i4, k4⟩ := u_known hAW iwX5 (hAW _ q193)
  obtain ⟨c5, i5, k5⟩ := u_known hAW iwX6 (hAW _ q133)
  obtain ⟨c6, i6, k6⟩ := u_known hAW iwX7 (hAW _ q174)
  obtain ⟨c7, i7, k7⟩ := u_known hAW iwX8 (hAW _ q246)
  obtain ⟨c8, i8, k8⟩ := u_known hAW iwX9 (hAW _ q60)
  obtain ⟨c9, i9, k9⟩ := u_known hAW iwX10 (hAW _ q787)
  obtain ⟨D, hKc⟩ : ∃ D : va_G, ∀ (k : Nat) (q : vw_C), vwCl[k]? = some q → u_Kn s q.1 q.2.1 q.2.2 (D.1 k) (D.2 k) := by
    refine ⟨(fun k => match k with | 0 => c0 | 1 => c1 | 2 => c2 | 3 => c3 | 4 => c4 | 5 => c5 | 6 => c6 | 7 => c7 | 8 => c8 | _ => c9, fun k => match k with | 0 => i0 | 1 => i1 | 2 => i2 | 3 => i3 | 4 => i4 | 5 => i5 | 6 => i6 | 7 => i7 | 8 => i8 | _ => i9), ?_⟩
    intro k q hq
    match k, hq with
    | 0, hq => cases hq; exact k0
    | 1, hq => cases hq; exact k1
    | 2, hq => cases hq; exact k2
    | 3, hq => cases hq; exact k3
    | 4, hq => cases hq; exact k4
    | 5, hq => cases hq; exact k5
    | 6, hq => cases hq; exact k6
    | 7, hq => cases hq; exact k7
    | 8, hq => cases hq; exact k8
    | 9, hq => cases hq; exact k9
    | k + 10, hq => simp [vwCl] at hq
  obtain ⟨cI, acI⟩ := arr_known_i (hAW _ q93)
  obtain ⟨cZ, acZ⟩ := arr_known_z (hAW _ q244)
  obtain ⟨cJ, acJ⟩ := arr_known_j (hAW _ q1097)
  obtain ⟨cD, acD⟩ := arr_known_d (hAW _ q1098)
  have hK : va_K D vwCl (ty4 cI cZ cJ cD) s := by
    refine ⟨hKc, ?_⟩
    intro k q hq
    match k, hq with
    | 0, hq => cases hq; exact acI
    | 1, hq => cases hq; exact acZ
    | 2, hq => cases hq; exact acJ
    | 3, hq => cases hq; exact acD
    | k + 4, hq => simp [ty4] at hq
  have hK2 : va_K D vwCl (ty2 cI cZ) s := hK.sub [0, 1] rfl
  obtain ⟨hT, hNc⟩ := thr_known k8.2.1 hts hgv
  have C : LwE p l s m meth c b L xs D cI cZ cJ cD := ⟨hx, hb, hr, hml, hown, hAW, hN, hT, hNc, hX, hbl, hlk, hK, hL, hl0⟩
  have hS : va_S (fun q : Nat => s.heap.size ≤ q) s.heap s.heap [] := va_S.rf
  have hP : va_P D vwCl [] s.heap := fun k q h => by simp at h
  have hD : va_D (fun q : Nat => s.heap.size ≤ q) [] := ⟨fun i j p q h => by simp at h, fun k q h => by simp at h⟩
  have hl := lv_entry ([.ref b]) (n := 8) (Nat.le_of_ble_eq_true rfl)
  rw [lg_entry_eq]
  generalize (lg_sl ([.ref b]) ++ List.replicate (8 - (lg_sl ([.ref b])).length) Slot.unset).toArray = ls at hl ⊢
  have hl : lv_has ls 8 [(0, .ref b)] := hl
  refine va_new (D := D) (ci := 8) (fs := [.null, .null, .null, .null, .null, .null, .null, .null, .null, .null, .int (nI 0), .int 0]) (C := RX9) (T := TX9) (N := 12) hx hb hAW iwX9 tyX9 tyX9_ok hown (hAW _ q59) (hAW _ q60) (hAW _ q41) hK hP hD hS hA rfl (by decide +kernel) (Nat.le_of_ble_eq_true rfl) (Nat.le_of_ble_eq_true rfl) dL_law_0 (fun q0 H hP hD hS => ?_)
  refine W.widen (k := 1) (n := 12) (Nat.le_of_ble_eq_true rfl) (Nat.le_of_ble_eq_true rfl) ?_
  refine lv_dup hx hb dL_law_3 rfl ?_
  refine call_I (D := D) (ci := 8) (b := q0) (rest := [.ref q0]) (isR := []) hx hb hml hown hAW hN (c_X9_init l D cI cZ q0) (cwIA hAW q61 q62 q41 q63 rfl (by decide +kernel) (Nat.le_of_ble_eq_true rfl) (Nat.le_of_ble_eq_true rfl) rfl rfl) hK2 (ws := []) hP hD hS hA rfl rfl (kL := 0) rfl (by decide) hl.1 rfl (lv_room (Nat.le_of_ble_eq_true rfl)) dL_law_4 (Nat.le_of_ble_eq_true rfl) (Nat.le_of_ble_eq_true rfl) (fun u9 H locs hP hD hS => ?_)
  refine W.widen (k := 24) (n := 16732) (Nat.le_of_ble_eq_true rfl) (Nat.le_of_ble_eq_true rfl) ?_
  obtain ⟨q, hq⟩ : ∃ q : Nat → Nat, q = fun k => ([q0, u9.1, u9.2.1, u9.2.2.1, u9.2.2.2.1, u9.2.2.2.2.1, u9.2.2.2.2.2.1, u9.2.2.2.2.2.2.1, u9.2.2.2.2.2.2.2.1, u9.2.2.2.2.2.2.2.2.1, u9.2.2.2.2.2.2.2.2.2.1, u9.2.2.2.2.2.2.2.2.2.2.1, u9.2.2.2.2.2.2.2.2.2.2.2.1, u9.2.2.2.2.2.2.2.2.2.2.2.2.1, u9.2.2.2.2.2.2.2.2.2.2.2.2.2.1, u9.2.2.2.2.2.2.2.2.2.2.2.2.2.2.1, u9.2.2.2.2.2.2.2.2.2.2.2.2.2.2.2.1, u9.2.2.2.2.2.2.2.2.2.2.2.2.2.2.2.2.1, u9.2.2.2.2.2.2.2.2.2.2.2.2.2.2.2.2.2.1, u9.2.2.2.2.2.2.2.2.2.2.2.2.2.2.2.2.2.2.1, u9.2.2.2.2.2.2.2.2.2.2.2.2.2.2.2.2.2.2.2.1, u9.2.2.2.2.2.2.2.2.2.2.2.2.2.2.2.2.2.2.2.2.1, u9.2.2.2.2.2.2.2.2.2.2.2.2.2.2.2.2.2.2.2.2.2.1, u9.2.2.2.2.2.2.2.2.2.2.2.2.2.2.2.2.2.2.2.2.2.2] : List Nat).getD k 0 := ⟨_, rfl⟩
  have hP : va_P D vwCl (wB cI cZ q (fun _ => 0) 0 20 (((fun _ => 0), (fun _ => 0), (fun _ => 0), 0) : AlS) (cs_set ((0, 0, 0, 0, 0, 0, 0) : CsS) 0 5 50) (ph_set ((0, 0, 0, 0, 0, 0, 0, 0) : PhS) 5 1000 50) (((fun _ => 0), (fun _ => 0), 0) : ScS) (((fun _ => 0), 0) : LcS) (((fun _ => 0), (fun _ => 0), (fun _ => 0)) : BsS) (((fun _ => false), 0, 0, false) : CuS) (((fun _ => false), 0, 0, false) : CuS) (((fun _ => false), (fun _ => false), 0, 0, 0) : TrS)) H := by rw [hq]; exact hP
  have hD : va_D (fun q : Nat => s.heap.size ≤ q) (wB cI cZ q (fun _ => 0) 0 20 (((fun _ => 0), (fun _ => 0), (fun _ => 0), 0) : AlS) (cs_set ((0, 0, 0, 0, 0, 0, 0) : CsS) 0 5 50) (ph_set ((0, 0, 0, 0, 0, 0, 0, 0) : PhS) 5 1000 50) (((fun _ => 0), (fun _ => 0), 0) : ScS) (((fun _ => 0), 0) : LcS) (((fun _ => 0), (fun _ => 0), (fun _ => 0)) : BsS) (((fun _ => false), 0, 0, false) : CuS) (((fun _ => false), 0, 0, false) : CuS) (((fun _ => false), (fun _ => false), 0, 0, 0) : TrS)) := by rw [hq]; exact hD
  have eq0 : q0 = q 0 := by rw [hq]; rfl
  refine lv_astore_n (lv' := [(1, .ref q0), (0, .ref b)]) hx hb dL_law_7 rfl hl (by decide) rfl (fun ls hl => ?_)
  have hl : lv_has ls 8 [(1, .ref (q 0)), (0, .ref b)] := by rw [← eq0]; exact hl
  clear hq eq0
  refine va_new (D := D) (ci := 9) (fs := [.int 0, .int 0, .int 0, .int 0, .int 0, .int 0, .int 0, .int (nI 0), .null, .null, .int 0, .int 0, .int (nI 0), .int (nI 0), .int (nI 0), .int 0, .int 0, .int 0, .int 0, .int (nI 0), .null, .null, .null, .int 0, .int (zb false), .null, .null, .null, .null, .null, .null, .null, .null, .int 0]) (C := RX10) (T := TX10) (N := 34) hx hb hAW iwX10 tyX10 tyX10_ok hown (hAW _ q786) (hAW _ q787) (hAW _ q50) hK hP hD hS hA rfl (by decide +kernel) (Nat.le_of_ble_eq_true rfl) (Nat.le_of_ble_eq_true rfl) dL_law_8 (fun u0 H hP hD hS => ?_)
  refine W.widen (k := 25) (n := 16766) (Nat.le_of_ble_eq_true rfl) (Nat.le_of_ble_eq_true rfl) ?_
  refine lv_dup hx hb dL_law_11 rfl ?_
  refine call_I (D := D) (ci := 9) (b := u0) (rest := [.ref u0]) (isR := [0, 1, 2, 3, 4, 5, 6, 7, 8, 9, 10, 11, 12, 13, 14, 15, 16, 17, 18, 19, 20, 21, 22, 23]) hx hb hml hown hAW hN (c_X10_init l D cI cZ u0) (cwIA hAW q788 q789 q50 q790 rfl (by decide +kernel) (Nat.le_of_ble_eq_true rfl) (Nat.le_of_ble_eq_true rfl) rfl rfl) hK2 (ws := wB cI cZ q (fun _ => 0) 0 20 (((fun _ => 0), (fun _ => 0), (fun _ => 0), 0) : AlS) (cs_set ((0, 0, 0, 0, 0, 0, 0) : CsS) 0 5 50) (ph_set ((0, 0, 0, 0, 0, 0, 0, 0) : PhS) 5 1000 50) (((fun _ => 0), (fun _ => 0), 0) : ScS) (((fun _ => 0), 0) : LcS) (((fun _ => 0), (fun _ => 0), (fun _ => 0)) : BsS) (((fun _ => false), 0, 0, false) : CuS) (((fun _ => false), 0, 0, false) : CuS) (((fun _ => false), (fun _ => false), 0, 0, 0) : TrS)) hP hD hS hA rfl (by decide +kernel) (kL := 24) rfl (by decide) hl.1 rfl (lv_room (Nat.le_of_ble_eq_true rfl)) dL_law_12 (Nat.le_of_ble_eq_true rfl) (Nat.le_of_ble_eq_true rfl) (fun u9 H locs hP hD hS => ?_)
  refine W.widen (k := 38) (n := 33572) (Nat.le_of_ble_eq_true rfl) (Nat.le_of_ble_eq_true rfl) ?_
  obtain ⟨u, hu⟩ : ∃ u : Nat → Nat, u = fun k => ([u0, u9.1, u9.2.1, u9.2.2.1, u9.2.2.2.1, u9.2.2.2.2.1, u9.2.2.2.2.2.1, u9.2.2.2.2.2.2.1, u9.2.2.2.2.2.2.2.1, u9.2.2.2.2.2.2.2.2.1, u9.2.2.2.2.2.2.2.2.2.1, u9.2.2.2.2.2.2.2.2.2.2.1, u9.2.2.2.2.2.2.2.2.2.2.2.1, u9.2.2.2.2.2.2.2.2.2.2.2.2] : List Nat).getD k 0 := ⟨_, rfl⟩
  have hP : va_P D vwCl (wB cI cZ q (fun _ => 0) 0 20 (((fun _ => 0), (fun _ => 0), (fun _ => 0), 0) : AlS) (cs_set ((0, 0, 0, 0, 0, 0, 0) : CsS) 0 5 50) (ph_set ((0, 0, 0, 0, 0, 0, 0, 0) : PhS) 5 1000 50) (((fun _ => 0), (fun _ => 0), 0) : ScS) (((fun _ => 0), 0) : LcS) (((fun _ => 0), (fun _ => 0), (fun _ => 0)) : BsS) (((fun _ => false), 0, 0, false) : CuS) (((fun _ => false), 0, 0, false) : CuS) (((fun _ => false), (fun _ => false), 0, 0, 0) : TrS) ++ wM cI cZ u (cs_set ((0, 0, 0, 0, 0, 0, 0) : CsS) 0 5 50) ((5, 1000, 50, 0, 0, 0, 0, 0) : PmS) 20 0 (fun _ => 0) (fun _ => false) (((fun _ => 0), (fun _ => 0), (fun _ => 0), 0) : AlS) 0 false (fun _ => 0) (fun _ => 0) (fun _ => 0) (fun _ => 0) (fun _ => 0) (fun _ => 0) (fun _ => false) (fun _ => false) 0) H := by rw [hu]; exact hP
  have hD : va_D (fun q : Nat => s.heap.size ≤ q) (wB cI cZ q (fun _ => 0) 0 20 (((fun _ => 0), (fun _ => 0), (fun _ => 0), 0) : AlS) (cs_set ((0, 0, 0, 0, 0, 0, 0) : CsS) 0 5 50) (ph_set ((0, 0, 0, 0, 0, 0, 0, 0) : PhS) 5 1000 50) (((fun _ => 0), (fun _ => 0), 0) : ScS) (((fun _ => 0), 0) : LcS) (((fun _ => 0), (fun _ => 0), (fun _ => 0)) : BsS) (((fun _ => false), 0, 0, false) : CuS) (((fun _ => false), 0, 0, false) : CuS) (((fun _ => false), (fun _ => false), 0, 0, 0) : TrS) ++ wM cI cZ u (cs_set ((0, 0, 0, 0, 0, 0, 0) : CsS) 0 5 50) ((5, 1000, 50, 0, 0, 0, 0, 0) : PmS) 20 0 (fun _ => 0) (fun _ => false) (((fun _ => 0), (fun _ => 0), (fun _ => 0), 0) : AlS) 0 false (fun _ => 0) (fun _ => 0) (fun _ => 0) (fun _ => 0) (fun _ => 0) (fun _ => 0) (fun _ => false) (fun _ => false) 0) := by rw [hu]; exact hD
  have eu0 : u0 = u 0 := by rw [hu]; rfl
  refine lv_astore_n (lv' := [(2, .ref u0), (1, .ref (q 0)), (0, .ref b)]) hx hb dL_law_15 rfl hl (by decide) rfl (fun ls hl => ?_)
  have hl : lv_has ls 8 [(2, .ref (u 0)), (1, .ref (q 0)), (0, .ref b)] := by rw [← eu0]; exact hl
  clear hu eu0
  have hRW : RW cI cZ q u 0 (wB cI cZ q (fun _ => 0) 0 20 (((fun _ => 0), (fun _ => 0), (fun _ => 0), 0) : AlS) (cs_set ((0, 0, 0, 0, 0, 0, 0) : CsS) 0 5 50) (ph_set ((0, 0, 0, 0, 0, 0, 0, 0) : PhS) 5 1000 50) (((fun _ => 0), (fun _ => 0), 0) : ScS) (((fun _ => 0), 0) : LcS) (((fun _ => 0), (fun _ => 0), (fun _ => 0)) : BsS) (((fun _ => false), 0, 0, false) : CuS) (((fun _ => false), 0, 0, false) : CuS) (((fun _ => false), (fun _ => false), 0, 0, 0) : TrS)) (wM cI cZ u (cs_set ((0, 0, 0, 0, 0, 0, 0) : CsS) 0 5 50) ((5, 1000, 50, 0, 0, 0, 0, 0) : PmS) 20 0 (fun _ => 0) (fun _ => false) (((fun _ => 0), (fun _ => 0), (fun _ => 0), 0) : AlS) 0 false (fun _ => 0) (fun _ => 0) (fun _ => 0) (fun _ => 0) (fun _ => 0) (fun _ => 0) (fun _ => false) (fun _ => false) 0) := ⟨(fun _ => 0), 0, 20, (((fun _ => 0), (fun _ => 0), (fun _ => 0), 0) : AlS), (cs_set ((0, 0, 0, 0, 0, 0, 0) : CsS) 0 5 50), (ph_set ((0, 0, 0, 0, 0, 0, 0, 0) : PhS) 5 1000 50), (((fun _ => 0), (fun _ => 0), 0) : ScS), (((fun _ => 0), 0) : LcS), (((fun _ => 0), (fun _ => 0), (fun _ => 0)) : BsS), (((fun _ => false), 0, 0, false) : CuS), (((fun _ => false), 0, 0, false) : CuS), (((fun _ => false), (fun _ => false), 0, 0, 0) : TrS), ((5, 1000, 50, 0, 0, 0, 0, 0) : PmS), (fun _ => false), false, (fun _ => 0), (fun _ => 0), (fun _ => 0), (fun _ => 0), (fun _ => 0), (fun _ => 0), (fun _ => false), (fun _ => false), 0, rfl, rfl, RR_init⟩
  refine lv_iconst (v := 1) hx hb dL_law_16 (by decide) ?_
  refine new_j hx hb hAW hK hP hD hS hA (Nat.le_of_ble_eq_true rfl) (Nat.le_of_ble_eq_true rfl) dL_law_17 (fun qo H hP hD hS => ?_)
  refine lv_astore_n (lv' := [(3, .ref qo), (2, .ref (u 0)), (1, .ref (q 0)), (0, .ref b)]) hx hb dL_law_19 rfl hl (by decide) rfl (fun ls hl => ?_)
  refine lv_iconst (v := 1) hx hb dL_law_20 (by decide) ?_
  refine new_d hx hb hAW hK hP hD hS hA (Nat.le_of_ble_eq_true rfl) (Nat.le_of_ble_eq_true rfl) dL_law_21 (fun qd H hP hD hS => ?_)
  refine lv_astore (lv' := [(4, .ref qd), (3, .ref qo), (2, .ref (u 0)), (1, .ref (q 0)), (0, .ref b)]) hx hb dL_law_23 hl (by decide) rfl (fun ls hl => ?_)
  have hP := hP.sub (ws' := [oD cD qd (fun _ => 0), oJ cJ qo (fun _ => 0)] ++ (wB cI cZ q (fun _ => 0) 0 20 (((fun _ => 0), (fun _ => 0), (fun _ => 0), 0) : AlS) (cs_set ((0, 0, 0, 0, 0, 0, 0) : CsS) 0 5 50) (ph_set ((0, 0, 0, 0, 0, 0, 0, 0) : PhS) 5 1000 50) (((fun _ => 0), (fun _ => 0), 0) : ScS) (((fun _ => 0), 0) : LcS) (((fun _ => 0), (fun _ => 0), (fun _ => 0)) : BsS) (((fun _ => false), 0, 0, false) : CuS) (((fun _ => false), 0, 0, false) : CuS) (((fun _ => false), (fun _ => false), 0, 0, 0) : TrS) ++ wM cI cZ u (cs_set ((0, 0, 0, 0, 0, 0, 0) : CsS) 0 5 50) ((5, 1000, 50, 0, 0, 0, 0, 0) : PmS) 20 0 (fun _ => 0) (fun _ => false) (((fun _ => 0), (fun _ => 0), (fun _ => 0), 0) : AlS) 0 false (fun _ => 0) (fun _ => 0) (fun _ => 0) (fun _ => 0) (fun _ => 0) (fun _ => 0) (fun _ => false) (fun _ => false) 0)) [39, 38, 0, 1, 2, 3, 4, 5, 6, 7, 8, 9, 10, 11, 12, 13, 14, 15, 16, 17, 18, 19, 20, 21, 22, 23, 24, 25, 26, 27, 28, 29, 30, 31, 32, 33, 34, 35, 36, 37] rfl
  have hD := hD.sub (ws' := [oD cD qd (fun _ => 0), oJ cJ qo (fun _ => 0)] ++ (wB cI cZ q (fun _ => 0) 0 20 (((fun _ => 0), (fun _ => 0), (fun _ => 0), 0) : AlS) (cs_set ((0, 0, 0, 0, 0, 0, 0) : CsS) 0 5 50) (ph_set ((0, 0, 0, 0, 0, 0, 0, 0) : PhS) 5 1000 50) (((fun _ => 0), (fun _ => 0), 0) : ScS) (((fun _ => 0), 0) : LcS) (((fun _ => 0), (fun _ => 0), (fun _ => 0)) : BsS) (((fun _ => false), 0, 0, false) : CuS) (((fun _ => false), 0, 0, false) : CuS) (((fun _ => false), (fun _ => false), 0, 0, 0) : TrS) ++ wM cI cZ u (cs_set ((0, 0, 0, 0, 0, 0, 0) : CsS) 0 5 50) ((5, 1000, 50, 0, 0, 0, 0, 0) : PmS) 20 0 (fun _ => 0) (fun _ => false) (((fun _ => 0), (fun _ => 0), (fun _ => 0), 0) : AlS) 0 false (fun _ => 0) (fun _ => 0) (fun _ => 0) (fun _ => 0) (fun _ => 0) (fun _ => 0) (fun _ => false) (fun _ => false) 0)) [39, 38, 0, 1, 2, 3, 4, 5, 6, 7, 8, 9, 10, 11, 12, 13, 14, 15, 16, 17, 18, 19, 20, 21, 22, 23, 24, 25, 26, 27, 28, 29, 30, 31, 32, 33, 34, 35, 36, 37] (by decide +kernel) rfl
  generalize wB cI cZ q (fun _ => 0) 0 20 (((fun _ => 0), (fun _ => 0), (fun _ => 0), 0) : AlS) (cs_set ((0, 0, 0, 0, 0, 0, 0) : CsS) 0 5 50) (ph_set ((0, 0, 0, 0, 0, 0, 0, 0) : PhS) 5 1000 50) (((fun _ => 0), (fun _ => 0), 0) : ScS) (((fun _ => 0), 0) : LcS) (((fun _ => 0), (fun _ => 0), (fun _ => 0)) : BsS) (((fun _ => false), 0, 0, false) : CuS) (((fun _ => false), 0, 0, false) : CuS) (((fun _ => false), (fun _ => false), 0, 0, 0) : TrS) = wb at hP hD hRW
  generalize wM cI cZ u (cs_set ((0, 0, 0, 0, 0, 0, 0) : CsS) 0 5 50) ((5, 1000, 50, 0, 0, 0, 0, 0) : PmS) 20 0 (fun _ => 0) (fun _ => false) (((fun _ => 0), (fun _ => 0), (fun _ => 0), 0) : AlS) 0 false (fun _ => 0) (fun _ => 0) (fun _ => 0) (fun _ => 0) (fun _ => 0) (fun _ => 0) (fun _ => false) (fun _ => false) 0 = wm at hP hD hRW
  refine lv_iconst (v := 0) hx hb dL_law_25 (by decide) ?_
  refine lv_istore (lv' := [(5, .int 0), (4, .ref qd), (3, .ref qo), (2, .ref (u 0)), (1, .ref (q 0)), (0, .ref b)]) hx hb dL_law_26 hl (by decide) rfl (fun ls hl => ?_)
  exact law_loop C 513 0 (Nat.zero_le _) (by omega) 0 (fun _ => 0) (fun _ => 0) wb wm H locs ls _ _ (Nat.le_of_ble_eq_true rfl) (Nat.le_of_ble_eq_true rfl) ⟨hRW, hP, hD, hS, lv_sub hl [0, 5, 4, 3, 2, 1] rfl⟩
