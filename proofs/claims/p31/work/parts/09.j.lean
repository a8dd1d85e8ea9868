/-! the law from its entry -/
theorem PV_init : PV (fun _ => 0) 0 20 (((fun _ => 0), (fun _ => 0), (fun _ => 0), 0) : AlS) (cs_set ((0, 0, 0, 0, 0, 0, 0) : CsS) 0 5 50) (ph_set ((0, 0, 0, 0, 0, 0, 0, 0) : PhS) 5 1000 50) (fun _ => false) := by
  refine ⟨Nat.zero_le _, fun k => (show bd 0 by unfold bd; decide), by decide, Nat.zero_le _, ⟨fun j hj => absurd hj (Nat.not_lt_zero j), fun j hj => absurd hj (Nat.not_lt_zero _)⟩, Csp_set _ _ _ _ _ (by decide), Php_zero (by decide) (by decide) (by decide) 0, fun k _ => rfl⟩
theorem PC_init : PC (fun _ => 0) 0 20 (((fun _ => 0), (fun _ => 0), 0) : ScS) (((fun _ => 0), 0) : LcS) (((fun _ => false), 0, 0, false) : CuS) (((fun _ => false), 0, 0, false) : CuS) := by
  refine ⟨⟨Nat.le_refl _, fun f t h1 h2 => absurd h2 (by show ¬ t ≤ 0; omega), Nat.le_refl _, fun c t h1 h2 => absurd h2 (by show ¬ t ≤ 0; omega)⟩, (fun z => by cases z), (fun z => by cases z)⟩
theorem GK_init : GK (upd (fun _ => 0) 1 20) 0 20 (fun _ => false) :=
  ⟨by rw [up_ne (by decide)]; rfl, up_at _ _ _, by rw [up_ne (by decide), cnL_0 120 0 (fun _ _ _ => rfl)]; rfl⟩
set_option maxHeartbeats 4000000 in
set_option maxRecDepth 100000 in
/-- from the entry, for every script of at most 260 ints, the law comes to its end with true -/
theorem whole_start {p : Program} {e : Env} {s : State} {m : MethodId} {below : List Frame} {meth : Method} {c : Code} (l : Launch) (hflags : l.flags = flags0) {b L : Nat} {xs : Nat → Int32} (hL : L ≤ 260) (C0 : lw_At p s m meth c b L xs) : W p l e room_1 s m #[Value.ref b] below meth c s.heap [] 0 0 (lw_Z below #[Value.ref b] s) (entryFrame m ([Value.ref b] : List Value).toArray 5) := by
  obtain ⟨hx, hb, hr, hml, hown, hts, hX, hbl, hlk, hgv⟩ := id C0
  have hAW : ∀ w ∈ AW, w.before #[Value.ref b] s = true := fun w hw => hts w (aw_tbl hw)
  have hN := nw_of hts
  have hl0 : l.stackTraces = false := by unfold Launch.stackTraces; rw [hflags]; decide +kernel
  have hA : ∀ q : Nat, s.heap.size ≤ q → (fun q : Nat => s.heap.size ≤ q) q := fun _ h => h
  obtain ⟨c0, i0, k0⟩ := u_known hAW iwX0 (hAW _ q48)
  obtain ⟨c1, i1, k1⟩ := u_known hAW iwX1 (hAW _ q187)
  obtain ⟨c2, i2, k2⟩ := u_known hAW iwX2 (hAW _ q75)
  obtain ⟨c3, i3, k3⟩ := u_known hAW iwX3 (hAW _ q203)
  obtain ⟨c4, i4, k4⟩ := u_known hAW iwX5 (hAW _ q173)
  obtain ⟨c5, i5, k5⟩ := u_known hAW iwX6 (hAW _ q113)
  obtain ⟨c6, i6, k6⟩ := u_known hAW iwX7 (hAW _ q154)
  obtain ⟨c7, i7, k7⟩ := u_known hAW iwX8 (hAW _ q226)
  obtain ⟨c8, i8, k8⟩ := u_known hAW iwX9 (hAW _ q40)
  obtain ⟨D, hKc⟩ : ∃ D : va_G, ∀ (k : Nat) (q : vw_C), vwCl[k]? = some q → u_Kn s q.1 q.2.1 q.2.2 (D.1 k) (D.2 k) := by
    refine ⟨(fun k => match k with | 0 => c0 | 1 => c1 | 2 => c2 | 3 => c3 | 4 => c4 | 5 => c5 | 6 => c6 | 7 => c7 | _ => c8, fun k => match k with | 0 => i0 | 1 => i1 | 2 => i2 | 3 => i3 | 4 => i4 | 5 => i5 | 6 => i6 | 7 => i7 | _ => i8), ?_⟩
    intro k q hq
    match k, hq with
    | 0, hq => cases hq; exact k0
    | 1, hq => cases hq; exact k1
    | 2, hq => cases hq; exact k2
    | 3, hq => cases hq; exact k3
    | 4, hq => cases hq; exact k4
    | 5, hq => cases hq; exact k5
    | 6, hq => cases hq; exact k6
    | 7, hq => cases hq; exact k7
    | 8, hq => cases hq; exact k8
    | k + 9, hq => simp [vwCl] at hq
  obtain ⟨cI, acI⟩ := arr_known_i (hAW _ q73)
  obtain ⟨cZ, acZ⟩ := arr_known_z (hAW _ q224)
  have hK : va_K D vwCl (ty2 cI cZ) s := by
    refine ⟨hKc, ?_⟩
    intro k q hq
    match k, hq with
    | 0, hq => cases hq; exact acI
    | 1, hq => cases hq; exact acZ
    | k + 2, hq => simp [ty2] at hq
  obtain ⟨hT, hNc⟩ := thr_known k8.2.1 hts hgv
  have hS : va_S (fun q : Nat => s.heap.size ≤ q) s.heap s.heap [] := va_S.rf
  have hP : va_P D vwCl [] s.heap := fun k q h => by simp at h
  have hD : va_D (fun q : Nat => s.heap.size ≤ q) [] := ⟨fun i j p q h => by simp at h, fun k q h => by simp at h⟩
  have hl := lv_entry ([.ref b]) (n := 5) (Nat.le_of_ble_eq_true rfl)
  rw [lg_entry_eq]
  generalize (lg_sl ([.ref b]) ++ List.replicate (5 - (lg_sl ([.ref b])).length) Slot.unset).toArray = ls at hl ⊢
  have hl : lv_has ls 5 [(0, .ref b)] := hl
  refine va_new (D := D) (ci := 8) (fs := [.null, .null, .null, .null, .null, .null, .null, .null, .null, .null, .int (nI 0), .int 0]) (C := RX9) (T := TX9) (N := 12) hx hb hAW iwX9 tyX9 tyX9_ok hown (hAW _ q39) (hAW _ q40) (hAW _ q22) hK hP hD hS hA rfl (by decide +kernel) (Nat.le_of_ble_eq_true rfl) (Nat.le_of_ble_eq_true rfl) dL_law_0 (fun q0 H hP hD hS => ?_)
  refine W.widen (k := 1) (n := 12) (Nat.le_of_ble_eq_true rfl) (Nat.le_of_ble_eq_true rfl) ?_
  refine lv_dup hx hb dL_law_3 rfl ?_
  refine call_I (D := D) (ci := 8) (b := q0) (rest := [.ref q0]) (isR := []) hx hb hml hown hAW hN (c_X9_init l D cI cZ q0) (cwIA hAW q41 q42 q22 q43 rfl (by decide +kernel) (Nat.le_of_ble_eq_true rfl) (Nat.le_of_ble_eq_true rfl) rfl rfl) hK (ws := []) hP hD hS hA rfl rfl (kL := 0) rfl (by decide) hl.1 rfl (lv_room (Nat.le_of_ble_eq_true rfl)) dL_law_4 (Nat.le_of_ble_eq_true rfl) (Nat.le_of_ble_eq_true rfl) (fun u9 H locs hP hD hS => ?_)
  refine W.widen (k := 24) (n := 16732) (Nat.le_of_ble_eq_true rfl) (Nat.le_of_ble_eq_true rfl) ?_
  obtain ⟨q, hq⟩ : ∃ q : Nat → Nat, q = fun k => ([q0, u9.1, u9.2.1, u9.2.2.1, u9.2.2.2.1, u9.2.2.2.2.1, u9.2.2.2.2.2.1, u9.2.2.2.2.2.2.1, u9.2.2.2.2.2.2.2.1, u9.2.2.2.2.2.2.2.2.1, u9.2.2.2.2.2.2.2.2.2.1, u9.2.2.2.2.2.2.2.2.2.2.1, u9.2.2.2.2.2.2.2.2.2.2.2.1, u9.2.2.2.2.2.2.2.2.2.2.2.2.1, u9.2.2.2.2.2.2.2.2.2.2.2.2.2.1, u9.2.2.2.2.2.2.2.2.2.2.2.2.2.2.1, u9.2.2.2.2.2.2.2.2.2.2.2.2.2.2.2.1, u9.2.2.2.2.2.2.2.2.2.2.2.2.2.2.2.2.1, u9.2.2.2.2.2.2.2.2.2.2.2.2.2.2.2.2.2.1, u9.2.2.2.2.2.2.2.2.2.2.2.2.2.2.2.2.2.2.1, u9.2.2.2.2.2.2.2.2.2.2.2.2.2.2.2.2.2.2.2.1, u9.2.2.2.2.2.2.2.2.2.2.2.2.2.2.2.2.2.2.2.2.1, u9.2.2.2.2.2.2.2.2.2.2.2.2.2.2.2.2.2.2.2.2.2.1, u9.2.2.2.2.2.2.2.2.2.2.2.2.2.2.2.2.2.2.2.2.2.2] : List Nat).getD k 0 := ⟨_, rfl⟩
  have hP : va_P D vwCl (wB cI cZ q (fun _ => 0) 0 20 (((fun _ => 0), (fun _ => 0), (fun _ => 0), 0) : AlS) (cs_set ((0, 0, 0, 0, 0, 0, 0) : CsS) 0 5 50) (ph_set ((0, 0, 0, 0, 0, 0, 0, 0) : PhS) 5 1000 50) (((fun _ => 0), (fun _ => 0), 0) : ScS) (((fun _ => 0), 0) : LcS) (((fun _ => 0), (fun _ => 0), (fun _ => 0)) : BsS) (((fun _ => false), 0, 0, false) : CuS) (((fun _ => false), 0, 0, false) : CuS) (((fun _ => false), (fun _ => false), 0, 0, 0) : TrS)) H := by rw [hq]; exact hP
  have hD : va_D (fun q : Nat => s.heap.size ≤ q) (wB cI cZ q (fun _ => 0) 0 20 (((fun _ => 0), (fun _ => 0), (fun _ => 0), 0) : AlS) (cs_set ((0, 0, 0, 0, 0, 0, 0) : CsS) 0 5 50) (ph_set ((0, 0, 0, 0, 0, 0, 0, 0) : PhS) 5 1000 50) (((fun _ => 0), (fun _ => 0), 0) : ScS) (((fun _ => 0), 0) : LcS) (((fun _ => 0), (fun _ => 0), (fun _ => 0)) : BsS) (((fun _ => false), 0, 0, false) : CuS) (((fun _ => false), 0, 0, false) : CuS) (((fun _ => false), (fun _ => false), 0, 0, 0) : TrS)) := by rw [hq]; exact hD
  have eq0 : q0 = q 0 := by rw [hq]; rfl
  refine lv_astore_n (lv' := [(1, .ref q0), (0, .ref b)]) hx hb dL_law_7 rfl hl (by decide) rfl (fun ls hl => ?_)
  have hl : lv_has ls 5 [(1, .ref (q 0)), (0, .ref b)] := by rw [← eq0]; exact hl
  clear hq eq0
  have hW : PW cI cZ q (fun _ => 0) 0 20 (((fun _ => 0), (fun _ => 0), (fun _ => 0), 0) : AlS) (cs_set ((0, 0, 0, 0, 0, 0, 0) : CsS) 0 5 50) (ph_set ((0, 0, 0, 0, 0, 0, 0, 0) : PhS) 5 1000 50) (fun _ => false) (((fun _ => false), 0, 0, false) : CuS) (((fun _ => false), 0, 0, false) : CuS) (wB cI cZ q (fun _ => 0) 0 20 (((fun _ => 0), (fun _ => 0), (fun _ => 0), 0) : AlS) (cs_set ((0, 0, 0, 0, 0, 0, 0) : CsS) 0 5 50) (ph_set ((0, 0, 0, 0, 0, 0, 0, 0) : PhS) 5 1000 50) (((fun _ => 0), (fun _ => 0), 0) : ScS) (((fun _ => 0), 0) : LcS) (((fun _ => 0), (fun _ => 0), (fun _ => 0)) : BsS) (((fun _ => false), 0, 0, false) : CuS) (((fun _ => false), 0, 0, false) : CuS) (((fun _ => false), (fun _ => false), 0, 0, 0) : TrS)) := ⟨PV_init, (((fun _ => 0), (fun _ => 0), 0) : ScS), (((fun _ => 0), 0) : LcS), (((fun _ => 0), (fun _ => 0), (fun _ => 0)) : BsS), (((fun _ => false), (fun _ => false), 0, 0, 0) : TrS), rfl, rfl, PC_init⟩
  generalize wB cI cZ q (fun _ => 0) 0 20 (((fun _ => 0), (fun _ => 0), (fun _ => 0), 0) : AlS) (cs_set ((0, 0, 0, 0, 0, 0, 0) : CsS) 0 5 50) (ph_set ((0, 0, 0, 0, 0, 0, 0, 0) : PhS) 5 1000 50) (((fun _ => 0), (fun _ => 0), 0) : ScS) (((fun _ => 0), 0) : LcS) (((fun _ => 0), (fun _ => 0), (fun _ => 0)) : BsS) (((fun _ => false), 0, 0, false) : CuS) (((fun _ => false), 0, 0, false) : CuS) (((fun _ => false), (fun _ => false), 0, 0, 0) : TrS) = wb at hP hD hW
  refine lv_iconst (v := 3) hx hb dL_law_8 (by decide) ?_
  refine new_i (f := fun _ => 0) (N' := 3) hx hb hAW hK hP hD hS hA (fun _ => rfl) (by decide +kernel) (by decide +kernel) (Nat.le_of_ble_eq_true rfl) (Nat.le_of_ble_eq_true rfl) (Nat.le_of_ble_eq_true rfl) dL_law_9 (fun gq H hP hD hS => ?_)
  have hP : va_P D vwCl ([gC cI gq (fun _ => 0)] ++ wb) H := vaP_rot hP
  have hD : va_D (fun q : Nat => s.heap.size ≤ q) ([gC cI gq (fun _ => 0)] ++ wb) := vaD_rot hD
  refine lv_astore_n (lv' := [(2, .ref gq), (1, .ref (q 0)), (0, .ref b)]) hx hb dL_law_11 rfl hl (by decide) rfl (fun ls hl => ?_)
  refine lv_aload_n hx hb dL_law_12 rfl (lv_at hl 0 rfl) ?_
  refine lv_iconst (v := 1) hx hb dL_law_13 (by decide) ?_
  refine lv_bipush (v := 20) hx hb dL_law_14 (by decide) ?_
  refine n_iast (D := D) (f := fun _ => 0) (i := 1) (x := 20) hx hb hK hP hD hS 0 0 rfl rfl (by decide) (by decide) dL_law_16 (fun H locs hP hD hS => ?_)
  have hP : va_P D vwCl ([gC cI gq (upd (fun _ => 0) 1 20)] ++ wb) H := hP
  have hD : va_D (fun q : Nat => s.heap.size ≤ q) ([gC cI gq (upd (fun _ => 0) 1 20)] ++ wb) := hD
  refine law_go (b := b) (L := L) (xs := xs) hl0 rfl hx hb hml hown hAW hN hT hNc hK hX hbl (Nat.not_le.mpr hbl) hA hL (fun H locs ls hS => ?_) hW GK_init hP hD hS hl
  refine va_forget (fun q hq => hS.2.2 q hq) ?_
  refine W.base ?_
  exact lw_ret (Drawn.sameBut.refl s.drawn lw_cs) hx hb hr hlk dL_law_253
