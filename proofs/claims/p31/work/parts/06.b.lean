/-! the small helpers of the law: a call of the finder, or the number of what it threw -/
theorem qw_sets : Cond.codeWith yL_sets cL_sets 6 (some .int) [(0, 22, 23, 27)] ∈ AW := aw_in 290 (by decide +kernel) rfl
theorem qw_adds : Cond.codeWith yL_adds cL_adds 6 (some .int) [(0, 20, 21, 27), (0, 20, 26, 36)] ∈ AW := aw_in 393 (by decide +kernel) rfl
theorem qw_asks : Cond.codeWith yL_asks cL_asks 5 (some .int) [(0, 120, 121, 67)] ∈ AW := aw_in 463 (by decide +kernel) rfl
theorem qw_leastCost : Cond.codeWith yL_leastCost cL_leastCost 3 (some .int) [(0, 5, 6, 27), (0, 5, 10, 36)] ∈ AW := aw_in 613 (by decide +kernel) rfl
theorem qw_matched : Cond.codeWith yL_matched cL_matched 5 (some .int) [(0, 19, 20, 27)] ∈ AW := aw_in 649 (by decide +kernel) rfl
theorem qw_delay : Cond.codeWith yL_delay cL_delay 4 (some .float) [(0, 6, 7, 27), (0, 6, 11, 36)] ∈ AW := aw_in 677 (by decide +kernel) rfl
theorem qf82 : Cond.constantFloat RL 82 3248488448 ∈ AW := aw_in 682 (by decide +kernel) rfl
theorem qf83 : Cond.constantFloat RL 83 3240099840 ∈ AW := aw_in 683 (by decide +kernel) rfl
theorem qf99 : Cond.constantFloat RL 99 1077936128 ∈ AW := aw_in 684 (by decide +kernel) rfl
theorem hd_L_sets : yL_sets.cls = RL ∧ yL_sets.cls ≠ "java/lang/invoke/MethodHandle" ∧ yL_sets.cls ≠ "java/lang/invoke/VarHandle" ∧ (parseMethodDescriptor yL_sets.desc).map (fun d => d.parameters.length) = some 5 := by decide +kernel
theorem hd_L_adds : yL_adds.cls = RL ∧ yL_adds.cls ≠ "java/lang/invoke/MethodHandle" ∧ yL_adds.cls ≠ "java/lang/invoke/VarHandle" ∧ (parseMethodDescriptor yL_adds.desc).map (fun d => d.parameters.length) = some 5 := by decide +kernel
theorem hd_L_asks : yL_asks.cls = RL ∧ yL_asks.cls ≠ "java/lang/invoke/MethodHandle" ∧ yL_asks.cls ≠ "java/lang/invoke/VarHandle" ∧ (parseMethodDescriptor yL_asks.desc).map (fun d => d.parameters.length) = some 4 := by decide +kernel
theorem hd_L_leastCost : yL_leastCost.cls = RL ∧ yL_leastCost.cls ≠ "java/lang/invoke/MethodHandle" ∧ yL_leastCost.cls ≠ "java/lang/invoke/VarHandle" ∧ (parseMethodDescriptor yL_leastCost.desc).map (fun d => d.parameters.length) = some 2 := by decide +kernel
theorem hd_L_matched : yL_matched.cls = RL ∧ yL_matched.cls ≠ "java/lang/invoke/MethodHandle" ∧ yL_matched.cls ≠ "java/lang/invoke/VarHandle" ∧ (parseMethodDescriptor yL_matched.desc).map (fun d => d.parameters.length) = some 4 := by decide +kernel
theorem hd_L_delay : yL_delay.cls = RL ∧ yL_delay.cls ≠ "java/lang/invoke/MethodHandle" ∧ yL_delay.cls ≠ "java/lang/invoke/VarHandle" ∧ (parseMethodDescriptor yL_delay.desc).map (fun d => d.parameters.length) = some 3 := by decide +kernel
set_option maxHeartbeats 1000000 in
set_option maxRecDepth 100000 in
theorem c_L_set_0 (l : Launch) (hl0 : l.stackTraces = false) (D : va_G) (cI cZ : ClassId) (qz : Nat) (x y z : Int32) (w0 w1 : va_W) (hM : Cv l yX9_setSums (aw yX9_setSums cX9_setSums 4 none) ({ frames := 2, cells := 0, slots := 0, locals := 43 }) D cI cZ [.ref qz, .int x, .int y, .int z] w0 w1) (hq : ∃ fs, w0[0]? = some (qz, .inr (8, fs))) (hw : w1.map (·.1) = w0.map (·.1)) : Ci l yL_set (aw yL_set cL_set 5 (some .int)) ({ frames := 3, cells := 0, slots := 0, locals := 66 }) D cI cZ [.ref qz, .int 0, .int x, .int y, .int z] w0 w1 0 := by
  refine mk_any (y := yL_set) (av := [.ref qz, .int 0, .int x, .int y, .int z]) (cc := cL_set) (maxL := 5) (ret := (some .int)) (Qc := fun A => va_Qi (fun rr9 (_ : Unit) => rr9 = 0) (cb D w1) A) (plainFor_of_name (by decide)) (Nat.le_of_ble_eq_true rfl) ?_
  intro p e s m args below meth c A Q R hR hQ hx hb hr hml hAW hown hlk hN hA hP hK hD hS ls hl
  have hl : lv_has ls 5 [(0, .ref qz), (1, .int 0), (2, .int x), (3, .int y), (4, .int z)] := hl
  have hP : va_P D vwCl ([] ++ (w0 ++ [])) s.heap := by rw [List.append_nil]; exact hP
  have hD : va_D A ([] ++ (w0 ++ [])) := by rw [List.append_nil]; exact hD
  refine lv_iload_n hx hb dL_set_0 rfl (lv_at hl 1 rfl) ?_
  refine lv_if_ne (tgt := 15) hx hb dL_set_1 (by decide) (fun h9 => absurd h9 (by decide)) (fun _ => ?_)
  refine lv_aload_n hx hb dL_set_4 rfl (lv_at hl 0 rfl) ?_
  refine lv_iload_n hx hb dL_set_5 rfl (lv_at hl 2 rfl) ?_
  refine lv_iload_n hx hb dL_set_6 rfl (lv_at hl 3 rfl) ?_
  refine lv_iload hx hb dL_set_7 (lv_at hl 4 rfl) ?_
  refine call_Rv (wa := []) (wb := []) (As := [.int x, .int y, .int z]) (rest := []) hx hb hml hown hAW hN hM (cwVAx 3 hAW q295 q296 q297 q22 q298 hd_X9_setSums (by rw [hR]; exact Nat.le_of_ble_eq_true rfl) (by rw [hR]; exact Nat.le_of_ble_eq_true rfl) rfl rfl) hK hP hD hS hA hq hw rfl rfl rfl hl.1 rfl (lv_room (Nat.le_of_ble_eq_true rfl)) dL_set_9 (Nat.zero_le _) (Nat.zero_le _) (fun H locs hP hD hS => ?_)
  have hP : va_P D vwCl w1 H := by rw [List.append_nil] at hP; exact hP
  refine lv_goto (tgt := 23) hx hb dL_set_12 (by decide) ?_
  refine lv_iconst (v := 0) hx hb dL_set_23 (by decide) ?_
  exact fin_i (v := 0) hx hb hr hlk hP hS rfl rfl rfl hQ dL_set_24

set_option maxHeartbeats 1000000 in
set_option maxRecDepth 100000 in
theorem c_L_set_0x (l : Launch) (hl0 : l.stackTraces = false) (D : va_G) (cI cZ : ClassId) (qz : Nat) (x y z : Int32) (w0 w1 : va_W) (hM : Cx "java/lang/IllegalArgumentException" l yX9_setSums (aw yX9_setSums cX9_setSums 4 none) ({ frames := 7, cells := 1, slots := 6, locals := 102 }) D cI cZ [.ref qz, .int x, .int y, .int z] w0 w1) (hq : ∃ fs, w0[0]? = some (qz, .inr (8, fs))) (hw : w1.map (·.1) = w0.map (·.1)) : Cx "java/lang/IllegalArgumentException" l yL_set (aw yL_set cL_set 5 (some .int)) ({ frames := 8, cells := 1, slots := 6, locals := 125 }) D cI cZ [.ref qz, .int 0, .int x, .int y, .int z] w0 w1 := by
  refine mk_x (y := yL_set) (av := [.ref qz, .int 0, .int x, .int y, .int z]) (cc := cL_set) (maxL := 5) (ret := (some .int)) (by decide +kernel) (Nat.le_of_ble_eq_true rfl) ?_
  intro p e s m args below meth c A Q R hR hQ hx hb hml hAW hown hlk htab hN hT hA hP hK hD hS ls hl
  have hl : lv_has ls 5 [(0, .ref qz), (1, .int 0), (2, .int x), (3, .int y), (4, .int z)] := hl
  have hP : va_P D vwCl ([] ++ (w0 ++ [])) s.heap := by rw [List.append_nil]; exact hP
  have hD : va_D A ([] ++ (w0 ++ [])) := by rw [List.append_nil]; exact hD
  refine lv_iload_n hx hb dL_set_0 rfl (lv_at hl 1 rfl) ?_
  refine lv_if_ne (tgt := 15) hx hb dL_set_1 (by decide) (fun h9 => absurd h9 (by decide)) (fun _ => ?_)
  refine lv_aload_n hx hb dL_set_4 rfl (lv_at hl 0 rfl) ?_
  refine lv_iload_n hx hb dL_set_5 rfl (lv_at hl 2 rfl) ?_
  refine lv_iload_n hx hb dL_set_6 rfl (lv_at hl 3 rfl) ?_
  refine lv_iload hx hb dL_set_7 (lv_at hl 4 rfl) ?_
  refine call_Rx (wa := []) (wb := []) (As := [.int x, .int y, .int z]) (rest := []) hx hb hml hown hAW hN hT hM (cwVAx 3 hAW q295 q296 q297 q22 q298 hd_X9_setSums (by rw [hR]; exact Nat.le_of_ble_eq_true rfl) (by rw [hR]; exact Nat.le_of_ble_eq_true rfl) rfl rfl) hK hP hD hS hA hq hw rfl rfl rfl hl.1 rfl (lv_room (Nat.le_of_ble_eq_true rfl)) dL_set_9 (by rw [hR]; exact Nat.le_of_ble_eq_true rfl) (by rw [hR]; exact Nat.le_of_ble_eq_true rfl) (fun ce q9 H locs hP hD hS h1 h2 h3 => ?_)
  have hP : va_P D vwCl w1 H := by rw [List.append_nil] at hP; exact hP
  exact out_x htab hlk h1 h2 h3 hP hS rfl hQ (Nat.le_of_ble_eq_true rfl) (Nat.le_of_ble_eq_true rfl)

set_option maxHeartbeats 1000000 in
set_option maxRecDepth 100000 in
theorem c_L_sets_0 (l : Launch) (hl0 : l.stackTraces = false) (D : va_G) (cI cZ : ClassId) (qz : Nat) (x y z : Int32) (w0 w1 : va_W) (r : Int32) (hM : Ci l yL_set (aw yL_set cL_set 5 (some .int)) ({ frames := 3, cells := 0, slots := 0, locals := 66 }) D cI cZ [.ref qz, .int 0, .int x, .int y, .int z] w0 w1 r) (hq : ∃ fs, w0[0]? = some (qz, .inr (8, fs))) (hw : w1.map (·.1) = w0.map (·.1)) : Ch l yL_sets (awh yL_sets cL_sets 6 (some .int) [(0, 22, 23, 27)]) ({ frames := 4, cells := 0, slots := 0, locals := 90 }) D cI cZ [.ref qz, .int 0, .int x, .int y, .int z] w0 w1 r 0 0 := by
  refine mk_h (y := yL_sets) (av := [.ref qz, .int 0, .int x, .int y, .int z]) (cc := cL_sets) (maxL := 6) (hh := [(0, 22, 23, 27)]) (by decide +kernel) (Nat.le_of_ble_eq_true rfl) ?_
  intro p e s m args below meth c A Q R hR hQ hx hb hr hml hAW hown hlk htab hN hT hNc hA hP hK hD hS ls hl
  have hl : lv_has ls 6 [(0, .ref qz), (1, .int 0), (2, .int x), (3, .int y), (4, .int z)] := hl
  have hP : va_P D vwCl ([] ++ (w0 ++ [])) s.heap := by rw [List.append_nil]; exact hP
  have hD : va_D A ([] ++ (w0 ++ [])) := by rw [List.append_nil]; exact hD
  refine lv_iload_n hx hb dL_sets_0 rfl (lv_at hl 1 rfl) ?_
  refine lv_iconst (v := 2) hx hb dL_sets_1 (by decide) ?_
  refine lv_icmp_ge (tgt := 17) hx hb dL_sets_2 (by decide) (fun h9 => absurd h9 (by decide)) (fun _ => ?_)
  refine lv_aload_n hx hb dL_sets_5 rfl (lv_at hl 0 rfl) ?_
  refine lv_iload_n hx hb dL_sets_6 rfl (lv_at hl 1 rfl) ?_
  refine lv_iload_n hx hb dL_sets_7 rfl (lv_at hl 2 rfl) ?_
  refine lv_iload_n hx hb dL_sets_8 rfl (lv_at hl 3 rfl) ?_
  refine lv_iload hx hb dL_sets_9 (lv_at hl 4 rfl) ?_
  refine call_Zi (wa := []) (wb := []) (As := [.ref qz, .int 0, .int x, .int y, .int z]) (rest := []) hx hb hml hown hAW hN hM (cwSAx 5 hAW q292 q293 q21 q294 hd_L_set (by rw [hR]; exact Nat.le_of_ble_eq_true rfl) (by rw [hR]; exact Nat.le_of_ble_eq_true rfl) rfl rfl) hK hP hD hS hA hw rfl hl.1 rfl (lv_room (Nat.le_of_ble_eq_true rfl)) dL_sets_11 (Nat.zero_le _) (Nat.zero_le _) (fun H locs hP hD hS => ?_)
  have hP : va_P D vwCl w1 H := by rw [List.append_nil] at hP; exact hP
  refine lv_goto (tgt := 22) hx hb dL_sets_14 (by decide) ?_
  exact fin_h (v := r) hx hb hr hlk hP hS rfl rfl hQ dL_sets_22

set_option maxHeartbeats 1000000 in
set_option maxRecDepth 100000 in
theorem c_L_sets_0x (l : Launch) (hl0 : l.stackTraces = false) (D : va_G) (cI cZ : ClassId) (qz : Nat) (x y z : Int32) (w0 w1 : va_W) (hM : Cx "java/lang/IllegalArgumentException" l yL_set (aw yL_set cL_set 5 (some .int)) ({ frames := 8, cells := 1, slots := 6, locals := 125 }) D cI cZ [.ref qz, .int 0, .int x, .int y, .int z] w0 w1) (hq : ∃ fs, w0[0]? = some (qz, .inr (8, fs))) (hw : w1.map (·.1) = w0.map (·.1)) : Ch l yL_sets (awh yL_sets cL_sets 6 (some .int) [(0, 22, 23, 27)]) ({ frames := 9, cells := 1, slots := 6, locals := 149 }) D cI cZ [.ref qz, .int 0, .int x, .int y, .int z] w0 w1 (-20) 1 6 := by
  refine mk_h (y := yL_sets) (av := [.ref qz, .int 0, .int x, .int y, .int z]) (cc := cL_sets) (maxL := 6) (hh := [(0, 22, 23, 27)]) (by decide +kernel) (Nat.le_of_ble_eq_true rfl) ?_
  intro p e s m args below meth c A Q R hR hQ hx hb hr hml hAW hown hlk htab hN hT hNc hA hP hK hD hS ls hl
  have hl : lv_has ls 6 [(0, .ref qz), (1, .int 0), (2, .int x), (3, .int y), (4, .int z)] := hl
  have hP : va_P D vwCl ([] ++ (w0 ++ [])) s.heap := by rw [List.append_nil]; exact hP
  have hD : va_D A ([] ++ (w0 ++ [])) := by rw [List.append_nil]; exact hD
  refine lv_iload_n hx hb dL_sets_0 rfl (lv_at hl 1 rfl) ?_
  refine lv_iconst (v := 2) hx hb dL_sets_1 (by decide) ?_
  refine lv_icmp_ge (tgt := 17) hx hb dL_sets_2 (by decide) (fun h9 => absurd h9 (by decide)) (fun _ => ?_)
  refine lv_aload_n hx hb dL_sets_5 rfl (lv_at hl 0 rfl) ?_
  refine lv_iload_n hx hb dL_sets_6 rfl (lv_at hl 1 rfl) ?_
  refine lv_iload_n hx hb dL_sets_7 rfl (lv_at hl 2 rfl) ?_
  refine lv_iload_n hx hb dL_sets_8 rfl (lv_at hl 3 rfl) ?_
  refine lv_iload hx hb dL_sets_9 (lv_at hl 4 rfl) ?_
  refine call_Zx (wa := []) (wb := []) (As := [.ref qz, .int 0, .int x, .int y, .int z]) (rest := []) hx hb hml hown hAW hN hT hM (cwSAx 5 hAW q292 q293 q21 q294 hd_L_set (by rw [hR]; exact Nat.le_of_ble_eq_true rfl) (by rw [hR]; exact Nat.le_of_ble_eq_true rfl) rfl rfl) hK hP hD hS hA hw rfl hl.1 rfl (lv_room (Nat.le_of_ble_eq_true rfl)) dL_sets_11 (by rw [hR]; exact Nat.le_of_ble_eq_true rfl) (by rw [hR]; exact Nat.le_of_ble_eq_true rfl) (fun ce q9 H locs hP hD hS h1 h2 h3 => ?_)
  have hP : va_P D vwCl w1 H := by rw [List.append_nil] at hP; exact hP
  refine vx_catch (own := RL) (name := "java/lang/IllegalArgumentException") hown [] ⟨0, 22, 23, 27⟩ [] (by rw [htab]; rfl) (fun z hz => by cases hz) (by decide) (by decide) (hAW _ q291) (va_Nw.use rfl hT.2.2.2.2.2.2.2.2.1) h1 h2 h3 ?_
  show W p l e R s m args below meth c H locs _ _ Q (F0 m 23 ls [.ref q9])
  refine lv_astore (lv' := [(5, .ref q9), (0, .ref qz), (1, .int 0), (2, .int x), (3, .int y), (4, .int z)]) hx hb dL_sets_23 hl (by decide) rfl (fun ls hl => ?_)
  refine lv_bipush (v := (-20)) hx hb dL_sets_25 (by decide) ?_
  exact fin_h (v := (-20)) hx hb hr hlk hP hS rfl rfl hQ dL_sets_27

set_option maxHeartbeats 1000000 in
set_option maxRecDepth 100000 in
theorem c_L_set_1 (l : Launch) (hl0 : l.stackTraces = false) (D : va_G) (cI cZ : ClassId) (qz : Nat) (x y z : Int32) (w0 w1 : va_W) (hM : Cv l yX9_setTest (aw yX9_setTest cX9_setTest 4 none) ({ frames := 2, cells := 0, slots := 0, locals := 43 }) D cI cZ [.ref qz, .int x, .int y, .int z] w0 w1) (hq : ∃ fs, w0[0]? = some (qz, .inr (8, fs))) (hw : w1.map (·.1) = w0.map (·.1)) : Ci l yL_set (aw yL_set cL_set 5 (some .int)) ({ frames := 3, cells := 0, slots := 0, locals := 66 }) D cI cZ [.ref qz, .int 1, .int x, .int y, .int z] w0 w1 0 := by
  refine mk_any (y := yL_set) (av := [.ref qz, .int 1, .int x, .int y, .int z]) (cc := cL_set) (maxL := 5) (ret := (some .int)) (Qc := fun A => va_Qi (fun rr9 (_ : Unit) => rr9 = 0) (cb D w1) A) (plainFor_of_name (by decide)) (Nat.le_of_ble_eq_true rfl) ?_
  intro p e s m args below meth c A Q R hR hQ hx hb hr hml hAW hown hlk hN hA hP hK hD hS ls hl
  have hl : lv_has ls 5 [(0, .ref qz), (1, .int 1), (2, .int x), (3, .int y), (4, .int z)] := hl
  have hP : va_P D vwCl ([] ++ (w0 ++ [])) s.heap := by rw [List.append_nil]; exact hP
  have hD : va_D A ([] ++ (w0 ++ [])) := by rw [List.append_nil]; exact hD
  refine lv_iload_n hx hb dL_set_0 rfl (lv_at hl 1 rfl) ?_
  refine lv_if_ne (tgt := 15) hx hb dL_set_1 (by decide) (fun _ => ?_) (fun h9 => absurd h9 (by decide))
  refine lv_aload_n hx hb dL_set_15 rfl (lv_at hl 0 rfl) ?_
  refine lv_iload_n hx hb dL_set_16 rfl (lv_at hl 2 rfl) ?_
  refine lv_iload_n hx hb dL_set_17 rfl (lv_at hl 3 rfl) ?_
  refine lv_iload hx hb dL_set_18 (lv_at hl 4 rfl) ?_
  refine call_Rv (wa := []) (wb := []) (As := [.int x, .int y, .int z]) (rest := []) hx hb hml hown hAW hN hM (cwVAx 3 hAW q378 q379 q380 q22 q381 hd_X9_setTest (by rw [hR]; exact Nat.le_of_ble_eq_true rfl) (by rw [hR]; exact Nat.le_of_ble_eq_true rfl) rfl rfl) hK hP hD hS hA hq hw rfl rfl rfl hl.1 rfl (lv_room (Nat.le_of_ble_eq_true rfl)) dL_set_20 (Nat.zero_le _) (Nat.zero_le _) (fun H locs hP hD hS => ?_)
  have hP : va_P D vwCl w1 H := by rw [List.append_nil] at hP; exact hP
  refine lv_iconst (v := 0) hx hb dL_set_23 (by decide) ?_
  exact fin_i (v := 0) hx hb hr hlk hP hS rfl rfl rfl hQ dL_set_24

set_option maxHeartbeats 1000000 in
set_option maxRecDepth 100000 in
theorem c_L_set_1x (l : Launch) (hl0 : l.stackTraces = false) (D : va_G) (cI cZ : ClassId) (qz : Nat) (x y z : Int32) (w0 w1 : va_W) (hM : Cx "java/lang/IllegalArgumentException" l yX9_setTest (aw yX9_setTest cX9_setTest 4 none) ({ frames := 7, cells := 1, slots := 6, locals := 102 }) D cI cZ [.ref qz, .int x, .int y, .int z] w0 w1) (hq : ∃ fs, w0[0]? = some (qz, .inr (8, fs))) (hw : w1.map (·.1) = w0.map (·.1)) : Cx "java/lang/IllegalArgumentException" l yL_set (aw yL_set cL_set 5 (some .int)) ({ frames := 8, cells := 1, slots := 6, locals := 125 }) D cI cZ [.ref qz, .int 1, .int x, .int y, .int z] w0 w1 := by
  refine mk_x (y := yL_set) (av := [.ref qz, .int 1, .int x, .int y, .int z]) (cc := cL_set) (maxL := 5) (ret := (some .int)) (by decide +kernel) (Nat.le_of_ble_eq_true rfl) ?_
  intro p e s m args below meth c A Q R hR hQ hx hb hml hAW hown hlk htab hN hT hA hP hK hD hS ls hl
  have hl : lv_has ls 5 [(0, .ref qz), (1, .int 1), (2, .int x), (3, .int y), (4, .int z)] := hl
  have hP : va_P D vwCl ([] ++ (w0 ++ [])) s.heap := by rw [List.append_nil]; exact hP
  have hD : va_D A ([] ++ (w0 ++ [])) := by rw [List.append_nil]; exact hD
  refine lv_iload_n hx hb dL_set_0 rfl (lv_at hl 1 rfl) ?_
  refine lv_if_ne (tgt := 15) hx hb dL_set_1 (by decide) (fun _ => ?_) (fun h9 => absurd h9 (by decide))
  refine lv_aload_n hx hb dL_set_15 rfl (lv_at hl 0 rfl) ?_
  refine lv_iload_n hx hb dL_set_16 rfl (lv_at hl 2 rfl) ?_
  refine lv_iload_n hx hb dL_set_17 rfl (lv_at hl 3 rfl) ?_
  refine lv_iload hx hb dL_set_18 (lv_at hl 4 rfl) ?_
  refine call_Rx (wa := []) (wb := []) (As := [.int x, .int y, .int z]) (rest := []) hx hb hml hown hAW hN hT hM (cwVAx 3 hAW q378 q379 q380 q22 q381 hd_X9_setTest (by rw [hR]; exact Nat.le_of_ble_eq_true rfl) (by rw [hR]; exact Nat.le_of_ble_eq_true rfl) rfl rfl) hK hP hD hS hA hq hw rfl rfl rfl hl.1 rfl (lv_room (Nat.le_of_ble_eq_true rfl)) dL_set_20 (by rw [hR]; exact Nat.le_of_ble_eq_true rfl) (by rw [hR]; exact Nat.le_of_ble_eq_true rfl) (fun ce q9 H locs hP hD hS h1 h2 h3 => ?_)
  have hP : va_P D vwCl w1 H := by rw [List.append_nil] at hP; exact hP
  exact out_x htab hlk h1 h2 h3 hP hS rfl hQ (Nat.le_of_ble_eq_true rfl) (Nat.le_of_ble_eq_true rfl)

set_option maxHeartbeats 1000000 in
set_option maxRecDepth 100000 in
theorem c_L_sets_1 (l : Launch) (hl0 : l.stackTraces = false) (D : va_G) (cI cZ : ClassId) (qz : Nat) (x y z : Int32) (w0 w1 : va_W) (r : Int32) (hM : Ci l yL_set (aw yL_set cL_set 5 (some .int)) ({ frames := 3, cells := 0, slots := 0, locals := 66 }) D cI cZ [.ref qz, .int 1, .int x, .int y, .int z] w0 w1 r) (hq : ∃ fs, w0[0]? = some (qz, .inr (8, fs))) (hw : w1.map (·.1) = w0.map (·.1)) : Ch l yL_sets (awh yL_sets cL_sets 6 (some .int) [(0, 22, 23, 27)]) ({ frames := 4, cells := 0, slots := 0, locals := 90 }) D cI cZ [.ref qz, .int 1, .int x, .int y, .int z] w0 w1 r 0 0 := by
  refine mk_h (y := yL_sets) (av := [.ref qz, .int 1, .int x, .int y, .int z]) (cc := cL_sets) (maxL := 6) (hh := [(0, 22, 23, 27)]) (by decide +kernel) (Nat.le_of_ble_eq_true rfl) ?_
  intro p e s m args below meth c A Q R hR hQ hx hb hr hml hAW hown hlk htab hN hT hNc hA hP hK hD hS ls hl
  have hl : lv_has ls 6 [(0, .ref qz), (1, .int 1), (2, .int x), (3, .int y), (4, .int z)] := hl
  have hP : va_P D vwCl ([] ++ (w0 ++ [])) s.heap := by rw [List.append_nil]; exact hP
  have hD : va_D A ([] ++ (w0 ++ [])) := by rw [List.append_nil]; exact hD
  refine lv_iload_n hx hb dL_sets_0 rfl (lv_at hl 1 rfl) ?_
  refine lv_iconst (v := 2) hx hb dL_sets_1 (by decide) ?_
  refine lv_icmp_ge (tgt := 17) hx hb dL_sets_2 (by decide) (fun h9 => absurd h9 (by decide)) (fun _ => ?_)
  refine lv_aload_n hx hb dL_sets_5 rfl (lv_at hl 0 rfl) ?_
  refine lv_iload_n hx hb dL_sets_6 rfl (lv_at hl 1 rfl) ?_
  refine lv_iload_n hx hb dL_sets_7 rfl (lv_at hl 2 rfl) ?_
  refine lv_iload_n hx hb dL_sets_8 rfl (lv_at hl 3 rfl) ?_
  refine lv_iload hx hb dL_sets_9 (lv_at hl 4 rfl) ?_
  refine call_Zi (wa := []) (wb := []) (As := [.ref qz, .int 1, .int x, .int y, .int z]) (rest := []) hx hb hml hown hAW hN hM (cwSAx 5 hAW q292 q293 q21 q294 hd_L_set (by rw [hR]; exact Nat.le_of_ble_eq_true rfl) (by rw [hR]; exact Nat.le_of_ble_eq_true rfl) rfl rfl) hK hP hD hS hA hw rfl hl.1 rfl (lv_room (Nat.le_of_ble_eq_true rfl)) dL_sets_11 (Nat.zero_le _) (Nat.zero_le _) (fun H locs hP hD hS => ?_)
  have hP : va_P D vwCl w1 H := by rw [List.append_nil] at hP; exact hP
  refine lv_goto (tgt := 22) hx hb dL_sets_14 (by decide) ?_
  exact fin_h (v := r) hx hb hr hlk hP hS rfl rfl hQ dL_sets_22

set_option maxHeartbeats 1000000 in
set_option maxRecDepth 100000 in
theorem c_L_sets_1x (l : Launch) (hl0 : l.stackTraces = false) (D : va_G) (cI cZ : ClassId) (qz : Nat) (x y z : Int32) (w0 w1 : va_W) (hM : Cx "java/lang/IllegalArgumentException" l yL_set (aw yL_set cL_set 5 (some .int)) ({ frames := 8, cells := 1, slots := 6, locals := 125 }) D cI cZ [.ref qz, .int 1, .int x, .int y, .int z] w0 w1) (hq : ∃ fs, w0[0]? = some (qz, .inr (8, fs))) (hw : w1.map (·.1) = w0.map (·.1)) : Ch l yL_sets (awh yL_sets cL_sets 6 (some .int) [(0, 22, 23, 27)]) ({ frames := 9, cells := 1, slots := 6, locals := 149 }) D cI cZ [.ref qz, .int 1, .int x, .int y, .int z] w0 w1 (-20) 1 6 := by
  refine mk_h (y := yL_sets) (av := [.ref qz, .int 1, .int x, .int y, .int z]) (cc := cL_sets) (maxL := 6) (hh := [(0, 22, 23, 27)]) (by decide +kernel) (Nat.le_of_ble_eq_true rfl) ?_
  intro p e s m args below meth c A Q R hR hQ hx hb hr hml hAW hown hlk htab hN hT hNc hA hP hK hD hS ls hl
  have hl : lv_has ls 6 [(0, .ref qz), (1, .int 1), (2, .int x), (3, .int y), (4, .int z)] := hl
  have hP : va_P D vwCl ([] ++ (w0 ++ [])) s.heap := by rw [List.append_nil]; exact hP
  have hD : va_D A ([] ++ (w0 ++ [])) := by rw [List.append_nil]; exact hD
  refine lv_iload_n hx hb dL_sets_0 rfl (lv_at hl 1 rfl) ?_
  refine lv_iconst (v := 2) hx hb dL_sets_1 (by decide) ?_
  refine lv_icmp_ge (tgt := 17) hx hb dL_sets_2 (by decide) (fun h9 => absurd h9 (by decide)) (fun _ => ?_)
  refine lv_aload_n hx hb dL_sets_5 rfl (lv_at hl 0 rfl) ?_
  refine lv_iload_n hx hb dL_sets_6 rfl (lv_at hl 1 rfl) ?_
  refine lv_iload_n hx hb dL_sets_7 rfl (lv_at hl 2 rfl) ?_
  refine lv_iload_n hx hb dL_sets_8 rfl (lv_at hl 3 rfl) ?_
  refine lv_iload hx hb dL_sets_9 (lv_at hl 4 rfl) ?_
  refine call_Zx (wa := []) (wb := []) (As := [.ref qz, .int 1, .int x, .int y, .int z]) (rest := []) hx hb hml hown hAW hN hT hM (cwSAx 5 hAW q292 q293 q21 q294 hd_L_set (by rw [hR]; exact Nat.le_of_ble_eq_true rfl) (by rw [hR]; exact Nat.le_of_ble_eq_true rfl) rfl rfl) hK hP hD hS hA hw rfl hl.1 rfl (lv_room (Nat.le_of_ble_eq_true rfl)) dL_sets_11 (by rw [hR]; exact Nat.le_of_ble_eq_true rfl) (by rw [hR]; exact Nat.le_of_ble_eq_true rfl) (fun ce q9 H locs hP hD hS h1 h2 h3 => ?_)
  have hP : va_P D vwCl w1 H := by rw [List.append_nil] at hP; exact hP
  refine vx_catch (own := RL) (name := "java/lang/IllegalArgumentException") hown [] ⟨0, 22, 23, 27⟩ [] (by rw [htab]; rfl) (fun z hz => by cases hz) (by decide) (by decide) (hAW _ q291) (va_Nw.use rfl hT.2.2.2.2.2.2.2.2.1) h1 h2 h3 ?_
  show W p l e R s m args below meth c H locs _ _ Q (F0 m 23 ls [.ref q9])
  refine lv_astore (lv' := [(5, .ref q9), (0, .ref qz), (1, .int 1), (2, .int x), (3, .int y), (4, .int z)]) hx hb dL_sets_23 hl (by decide) rfl (fun ls hl => ?_)
  refine lv_bipush (v := (-20)) hx hb dL_sets_25 (by decide) ?_
  exact fin_h (v := (-20)) hx hb hr hlk hP hS rfl rfl hQ dL_sets_27

set_option maxHeartbeats 1000000 in
set_option maxRecDepth 100000 in
theorem c_L_sets_2 (l : Launch) (hl0 : l.stackTraces = false) (D : va_G) (cI cZ : ClassId) (qz : Nat) (x y z : Int32) (w0 w1 : va_W) (r : Int32) (hM : Ci l yX9_setPenalty (aw yX9_setPenalty cX9_setPenalty 3 (some .int)) ({ frames := 1, cells := 0, slots := 0, locals := 22 }) D cI cZ [.ref qz, .int x] w0 w1 r) (hq : ∃ fs, w0[0]? = some (qz, .inr (8, fs))) (hw : w1.map (·.1) = w0.map (·.1)) : Ch l yL_sets (awh yL_sets cL_sets 6 (some .int) [(0, 22, 23, 27)]) ({ frames := 2, cells := 0, slots := 0, locals := 44 }) D cI cZ [.ref qz, .int 2, .int x, .int y, .int z] w0 w1 r 0 0 := by
  refine mk_h (y := yL_sets) (av := [.ref qz, .int 2, .int x, .int y, .int z]) (cc := cL_sets) (maxL := 6) (hh := [(0, 22, 23, 27)]) (by decide +kernel) (Nat.le_of_ble_eq_true rfl) ?_
  intro p e s m args below meth c A Q R hR hQ hx hb hr hml hAW hown hlk htab hN hT hNc hA hP hK hD hS ls hl
  have hl : lv_has ls 6 [(0, .ref qz), (1, .int 2), (2, .int x), (3, .int y), (4, .int z)] := hl
  have hP : va_P D vwCl ([] ++ (w0 ++ [])) s.heap := by rw [List.append_nil]; exact hP
  have hD : va_D A ([] ++ (w0 ++ [])) := by rw [List.append_nil]; exact hD
  refine lv_iload_n hx hb dL_sets_0 rfl (lv_at hl 1 rfl) ?_
  refine lv_iconst (v := 2) hx hb dL_sets_1 (by decide) ?_
  refine lv_icmp_ge (tgt := 17) hx hb dL_sets_2 (by decide) (fun _ => ?_) (fun h9 => absurd h9 (by decide))
  refine lv_aload_n hx hb dL_sets_17 rfl (lv_at hl 0 rfl) ?_
  refine lv_iload_n hx hb dL_sets_18 rfl (lv_at hl 2 rfl) ?_
  refine call_Ri (wa := []) (wb := []) (As := [.int x]) (rest := []) hx hb hml hown hAW hN hM (cwVAx 1 hAW q383 q384 q385 q22 q386 hd_X9_setPenalty (by rw [hR]; exact Nat.le_of_ble_eq_true rfl) (by rw [hR]; exact Nat.le_of_ble_eq_true rfl) rfl rfl) hK hP hD hS hA hq hw rfl rfl rfl hl.1 rfl (lv_room (Nat.le_of_ble_eq_true rfl)) dL_sets_19 (Nat.zero_le _) (Nat.zero_le _) (fun H locs hP hD hS => ?_)
  have hP : va_P D vwCl w1 H := by rw [List.append_nil] at hP; exact hP
  exact fin_h (v := r) hx hb hr hlk hP hS rfl rfl hQ dL_sets_22

set_option maxHeartbeats 1000000 in
set_option maxRecDepth 100000 in
theorem c_L_sets_2x (l : Launch) (hl0 : l.stackTraces = false) (D : va_G) (cI cZ : ClassId) (qz : Nat) (x y z : Int32) (w0 w1 : va_W) (hM : Cx "java/lang/IllegalArgumentException" l yX9_setPenalty (aw yX9_setPenalty cX9_setPenalty 3 (some .int)) ({ frames := 7, cells := 1, slots := 6, locals := 102 }) D cI cZ [.ref qz, .int x] w0 w1) (hq : ∃ fs, w0[0]? = some (qz, .inr (8, fs))) (hw : w1.map (·.1) = w0.map (·.1)) : Ch l yL_sets (awh yL_sets cL_sets 6 (some .int) [(0, 22, 23, 27)]) ({ frames := 8, cells := 1, slots := 6, locals := 124 }) D cI cZ [.ref qz, .int 2, .int x, .int y, .int z] w0 w1 (-20) 1 6 := by
  refine mk_h (y := yL_sets) (av := [.ref qz, .int 2, .int x, .int y, .int z]) (cc := cL_sets) (maxL := 6) (hh := [(0, 22, 23, 27)]) (by decide +kernel) (Nat.le_of_ble_eq_true rfl) ?_
  intro p e s m args below meth c A Q R hR hQ hx hb hr hml hAW hown hlk htab hN hT hNc hA hP hK hD hS ls hl
  have hl : lv_has ls 6 [(0, .ref qz), (1, .int 2), (2, .int x), (3, .int y), (4, .int z)] := hl
  have hP : va_P D vwCl ([] ++ (w0 ++ [])) s.heap := by rw [List.append_nil]; exact hP
  have hD : va_D A ([] ++ (w0 ++ [])) := by rw [List.append_nil]; exact hD
  refine lv_iload_n hx hb dL_sets_0 rfl (lv_at hl 1 rfl) ?_
  refine lv_iconst (v := 2) hx hb dL_sets_1 (by decide) ?_
  refine lv_icmp_ge (tgt := 17) hx hb dL_sets_2 (by decide) (fun _ => ?_) (fun h9 => absurd h9 (by decide))
  refine lv_aload_n hx hb dL_sets_17 rfl (lv_at hl 0 rfl) ?_
  refine lv_iload_n hx hb dL_sets_18 rfl (lv_at hl 2 rfl) ?_
  refine call_Rx (wa := []) (wb := []) (As := [.int x]) (rest := []) hx hb hml hown hAW hN hT hM (cwVAx 1 hAW q383 q384 q385 q22 q386 hd_X9_setPenalty (by rw [hR]; exact Nat.le_of_ble_eq_true rfl) (by rw [hR]; exact Nat.le_of_ble_eq_true rfl) rfl rfl) hK hP hD hS hA hq hw rfl rfl rfl hl.1 rfl (lv_room (Nat.le_of_ble_eq_true rfl)) dL_sets_19 (by rw [hR]; exact Nat.le_of_ble_eq_true rfl) (by rw [hR]; exact Nat.le_of_ble_eq_true rfl) (fun ce q9 H locs hP hD hS h1 h2 h3 => ?_)
  have hP : va_P D vwCl w1 H := by rw [List.append_nil] at hP; exact hP
  refine vx_catch (own := RL) (name := "java/lang/IllegalArgumentException") hown [] ⟨0, 22, 23, 27⟩ [] (by rw [htab]; rfl) (fun z hz => by cases hz) (by decide) (by decide) (hAW _ q291) (va_Nw.use rfl hT.2.2.2.2.2.2.2.2.1) h1 h2 h3 ?_
  show W p l e R s m args below meth c H locs _ _ Q (F0 m 23 ls [.ref q9])
  refine lv_astore (lv' := [(5, .ref q9), (0, .ref qz), (1, .int 2), (2, .int x), (3, .int y), (4, .int z)]) hx hb dL_sets_23 hl (by decide) rfl (fun ls hl => ?_)
  refine lv_bipush (v := (-20)) hx hb dL_sets_25 (by decide) ?_
  exact fin_h (v := (-20)) hx hb hr hlk hP hS rfl rfl hQ dL_sets_27

set_option maxHeartbeats 1000000 in
set_option maxRecDepth 100000 in
theorem c_L_adds_1 (l : Launch) (hl0 : l.stackTraces = false) (D : va_G) (cI cZ : ClassId) (qz : Nat) (x y z : Int32) (w0 w1 : va_W) (r : Int32) (hM : Ci l yX9_addRun (aw yX9_addRun cX9_addRun 6 (some .int)) ({ frames := 5, cells := 0, slots := 0, locals := 111 }) D cI cZ [.ref qz, .int x, .int y, .int z] w0 w1 r) (hq : ∃ fs, w0[0]? = some (qz, .inr (8, fs))) (hw : w1.map (·.1) = w0.map (·.1)) : Ch l yL_adds (awh yL_adds cL_adds 6 (some .int) [(0, 20, 21, 27), (0, 20, 26, 36)]) ({ frames := 6, cells := 0, slots := 0, locals := 136 }) D cI cZ [.ref qz, .int 1, .int x, .int y, .int z] w0 w1 r 0 0 := by
  refine mk_h (y := yL_adds) (av := [.ref qz, .int 1, .int x, .int y, .int z]) (cc := cL_adds) (maxL := 6) (hh := [(0, 20, 21, 27), (0, 20, 26, 36)]) (by decide +kernel) (Nat.le_of_ble_eq_true rfl) ?_
  intro p e s m args below meth c A Q R hR hQ hx hb hr hml hAW hown hlk htab hN hT hNc hA hP hK hD hS ls hl
  have hl : lv_has ls 6 [(0, .ref qz), (1, .int 1), (2, .int x), (3, .int y), (4, .int z)] := hl
  have hP : va_P D vwCl ([] ++ (w0 ++ [])) s.heap := by rw [List.append_nil]; exact hP
  have hD : va_D A ([] ++ (w0 ++ [])) := by rw [List.append_nil]; exact hD
  refine lv_iload_n hx hb dL_adds_0 rfl (lv_at hl 1 rfl) ?_
  refine lv_if_eq (tgt := 15) hx hb dL_adds_1 (by decide) (fun h9 => absurd h9 (by decide)) (fun _ => ?_)
  refine lv_aload_n hx hb dL_adds_4 rfl (lv_at hl 0 rfl) ?_
  refine lv_iload_n hx hb dL_adds_5 rfl (lv_at hl 2 rfl) ?_
  refine lv_iload_n hx hb dL_adds_6 rfl (lv_at hl 3 rfl) ?_
  refine lv_iload hx hb dL_adds_7 (lv_at hl 4 rfl) ?_
  refine call_Ri (wa := []) (wb := []) (As := [.int x, .int y, .int z]) (rest := []) hx hb hml hown hAW hN hM (cwVAx 3 hAW q395 q396 q397 q22 q398 hd_X9_addRun (by rw [hR]; exact Nat.le_of_ble_eq_true rfl) (by rw [hR]; exact Nat.le_of_ble_eq_true rfl) rfl rfl) hK hP hD hS hA hq hw rfl rfl rfl hl.1 rfl (lv_room (Nat.le_of_ble_eq_true rfl)) dL_adds_9 (Nat.zero_le _) (Nat.zero_le _) (fun H locs hP hD hS => ?_)
  have hP : va_P D vwCl w1 H := by rw [List.append_nil] at hP; exact hP
  refine lv_goto (tgt := 20) hx hb dL_adds_12 (by decide) ?_
  exact fin_h (v := r) hx hb hr hlk hP hS rfl rfl hQ dL_adds_20

set_option maxHeartbeats 1000000 in
set_option maxRecDepth 100000 in
theorem c_L_adds_1x1 (l : Launch) (hl0 : l.stackTraces = false) (D : va_G) (cI cZ : ClassId) (qz : Nat) (x y z : Int32) (w0 w1 : va_W) (hM : Cx "java/lang/IllegalArgumentException" l yX9_addRun (aw yX9_addRun cX9_addRun 6 (some .int)) ({ frames := 7, cells := 1, slots := 6, locals := 102 }) D cI cZ [.ref qz, .int x, .int y, .int z] w0 w1) (hq : ∃ fs, w0[0]? = some (qz, .inr (8, fs))) (hw : w1.map (·.1) = w0.map (·.1)) : Ch l yL_adds (awh yL_adds cL_adds 6 (some .int) [(0, 20, 21, 27), (0, 20, 26, 36)]) ({ frames := 8, cells := 1, slots := 6, locals := 127 }) D cI cZ [.ref qz, .int 1, .int x, .int y, .int z] w0 w1 (-20) 1 6 := by
  refine mk_h (y := yL_adds) (av := [.ref qz, .int 1, .int x, .int y, .int z]) (cc := cL_adds) (maxL := 6) (hh := [(0, 20, 21, 27), (0, 20, 26, 36)]) (by decide +kernel) (Nat.le_of_ble_eq_true rfl) ?_
  intro p e s m args below meth c A Q R hR hQ hx hb hr hml hAW hown hlk htab hN hT hNc hA hP hK hD hS ls hl
  have hl : lv_has ls 6 [(0, .ref qz), (1, .int 1), (2, .int x), (3, .int y), (4, .int z)] := hl
  have hP : va_P D vwCl ([] ++ (w0 ++ [])) s.heap := by rw [List.append_nil]; exact hP
  have hD : va_D A ([] ++ (w0 ++ [])) := by rw [List.append_nil]; exact hD
  refine lv_iload_n hx hb dL_adds_0 rfl (lv_at hl 1 rfl) ?_
  refine lv_if_eq (tgt := 15) hx hb dL_adds_1 (by decide) (fun h9 => absurd h9 (by decide)) (fun _ => ?_)
  refine lv_aload_n hx hb dL_adds_4 rfl (lv_at hl 0 rfl) ?_
  refine lv_iload_n hx hb dL_adds_5 rfl (lv_at hl 2 rfl) ?_
  refine lv_iload_n hx hb dL_adds_6 rfl (lv_at hl 3 rfl) ?_
  refine lv_iload hx hb dL_adds_7 (lv_at hl 4 rfl) ?_
  refine call_Rx (wa := []) (wb := []) (As := [.int x, .int y, .int z]) (rest := []) hx hb hml hown hAW hN hT hM (cwVAx 3 hAW q395 q396 q397 q22 q398 hd_X9_addRun (by rw [hR]; exact Nat.le_of_ble_eq_true rfl) (by rw [hR]; exact Nat.le_of_ble_eq_true rfl) rfl rfl) hK hP hD hS hA hq hw rfl rfl rfl hl.1 rfl (lv_room (Nat.le_of_ble_eq_true rfl)) dL_adds_9 (by rw [hR]; exact Nat.le_of_ble_eq_true rfl) (by rw [hR]; exact Nat.le_of_ble_eq_true rfl) (fun ce q9 H locs hP hD hS h1 h2 h3 => ?_)
  have hP : va_P D vwCl w1 H := by rw [List.append_nil] at hP; exact hP
  refine vx_catch (own := RL) (name := "java/lang/IllegalArgumentException") hown [] ⟨0, 20, 21, 27⟩ [⟨0, 20, 26, 36⟩] (by rw [htab]; rfl) (fun z hz => by cases hz) (by decide) (by decide) (hAW _ q291) (va_Nw.use rfl hT.2.2.2.2.2.2.2.2.1) h1 h2 h3 ?_
  show W p l e R s m args below meth c H locs _ _ Q (F0 m 21 ls [.ref q9])
  refine lv_astore (lv' := [(5, .ref q9), (0, .ref qz), (1, .int 1), (2, .int x), (3, .int y), (4, .int z)]) hx hb dL_adds_21 hl (by decide) rfl (fun ls hl => ?_)
  refine lv_bipush (v := (-20)) hx hb dL_adds_23 (by decide) ?_
  exact fin_h (v := (-20)) hx hb hr hlk hP hS rfl rfl hQ dL_adds_25

set_option maxHeartbeats 1000000 in
set_option maxRecDepth 100000 in
theorem c_L_adds_1x2 (l : Launch) (hl0 : l.stackTraces = false) (D : va_G) (cI cZ : ClassId) (qz : Nat) (x y z : Int32) (w0 w1 : va_W) (hM : Cx "java/lang/IllegalStateException" l yX9_addRun (aw yX9_addRun cX9_addRun 6 (some .int)) ({ frames := 7, cells := 1, slots := 6, locals := 102 }) D cI cZ [.ref qz, .int x, .int y, .int z] w0 w1) (hq : ∃ fs, w0[0]? = some (qz, .inr (8, fs))) (hw : w1.map (·.1) = w0.map (·.1)) : Ch l yL_adds (awh yL_adds cL_adds 6 (some .int) [(0, 20, 21, 27), (0, 20, 26, 36)]) ({ frames := 8, cells := 1, slots := 6, locals := 127 }) D cI cZ [.ref qz, .int 1, .int x, .int y, .int z] w0 w1 (-10) 1 6 := by
  refine mk_h (y := yL_adds) (av := [.ref qz, .int 1, .int x, .int y, .int z]) (cc := cL_adds) (maxL := 6) (hh := [(0, 20, 21, 27), (0, 20, 26, 36)]) (by decide +kernel) (Nat.le_of_ble_eq_true rfl) ?_
  intro p e s m args below meth c A Q R hR hQ hx hb hr hml hAW hown hlk htab hN hT hNc hA hP hK hD hS ls hl
  have hl : lv_has ls 6 [(0, .ref qz), (1, .int 1), (2, .int x), (3, .int y), (4, .int z)] := hl
  have hP : va_P D vwCl ([] ++ (w0 ++ [])) s.heap := by rw [List.append_nil]; exact hP
  have hD : va_D A ([] ++ (w0 ++ [])) := by rw [List.append_nil]; exact hD
  refine lv_iload_n hx hb dL_adds_0 rfl (lv_at hl 1 rfl) ?_
  refine lv_if_eq (tgt := 15) hx hb dL_adds_1 (by decide) (fun h9 => absurd h9 (by decide)) (fun _ => ?_)
  refine lv_aload_n hx hb dL_adds_4 rfl (lv_at hl 0 rfl) ?_
  refine lv_iload_n hx hb dL_adds_5 rfl (lv_at hl 2 rfl) ?_
  refine lv_iload_n hx hb dL_adds_6 rfl (lv_at hl 3 rfl) ?_
  refine lv_iload hx hb dL_adds_7 (lv_at hl 4 rfl) ?_
  refine call_Rx (wa := []) (wb := []) (As := [.int x, .int y, .int z]) (rest := []) hx hb hml hown hAW hN hT hM (cwVAx 3 hAW q395 q396 q397 q22 q398 hd_X9_addRun (by rw [hR]; exact Nat.le_of_ble_eq_true rfl) (by rw [hR]; exact Nat.le_of_ble_eq_true rfl) rfl rfl) hK hP hD hS hA hq hw rfl rfl rfl hl.1 rfl (lv_room (Nat.le_of_ble_eq_true rfl)) dL_adds_9 (by rw [hR]; exact Nat.le_of_ble_eq_true rfl) (by rw [hR]; exact Nat.le_of_ble_eq_true rfl) (fun ce q9 H locs hP hD hS h1 h2 h3 => ?_)
  have hP : va_P D vwCl w1 H := by rw [List.append_nil] at hP; exact hP
  refine vx_catch (own := RL) (name := "java/lang/IllegalStateException") hown [⟨0, 20, 21, 27⟩] ⟨0, 20, 26, 36⟩ [] (by rw [htab]; rfl) (fun z hz => by rcases List.mem_singleton.mp hz with rfl; exact Or.inr ⟨by decide, "java/lang/IllegalArgumentException", hAW _ q291, hNc⟩) (by decide) (by decide) (hAW _ q394) (va_Nw.use rfl hT.2.2.2.2.2.2.2.2.2.2) h1 h2 h3 ?_
  show W p l e R s m args below meth c H locs _ _ Q (F0 m 26 ls [.ref q9])
  refine lv_astore (lv' := [(5, .ref q9), (0, .ref qz), (1, .int 1), (2, .int x), (3, .int y), (4, .int z)]) hx hb dL_adds_26 hl (by decide) rfl (fun ls hl => ?_)
  refine lv_bipush (v := (-10)) hx hb dL_adds_28 (by decide) ?_
  exact fin_h (v := (-10)) hx hb hr hlk hP hS rfl rfl hQ dL_adds_30

set_option maxHeartbeats 1000000 in
set_option maxRecDepth 100000 in
theorem c_L_adds_0 (l : Launch) (hl0 : l.stackTraces = false) (D : va_G) (cI cZ : ClassId) (qz : Nat) (x y z : Int32) (w0 w1 : va_W) (r : Int32) (hM : Ci l yX9_add (aw yX9_add cX9_add 2 (some .int)) ({ frames := 5, cells := 0, slots := 0, locals := 111 }) D cI cZ [.ref qz, .int x] w0 w1 r) (hq : ∃ fs, w0[0]? = some (qz, .inr (8, fs))) (hw : w1.map (·.1) = w0.map (·.1)) : Ch l yL_adds (awh yL_adds cL_adds 6 (some .int) [(0, 20, 21, 27), (0, 20, 26, 36)]) ({ frames := 6, cells := 0, slots := 0, locals := 132 }) D cI cZ [.ref qz, .int 0, .int x, .int y, .int z] w0 w1 r 0 0 := by
  refine mk_h (y := yL_adds) (av := [.ref qz, .int 0, .int x, .int y, .int z]) (cc := cL_adds) (maxL := 6) (hh := [(0, 20, 21, 27), (0, 20, 26, 36)]) (by decide +kernel) (Nat.le_of_ble_eq_true rfl) ?_
  intro p e s m args below meth c A Q R hR hQ hx hb hr hml hAW hown hlk htab hN hT hNc hA hP hK hD hS ls hl
  have hl : lv_has ls 6 [(0, .ref qz), (1, .int 0), (2, .int x), (3, .int y), (4, .int z)] := hl
  have hP : va_P D vwCl ([] ++ (w0 ++ [])) s.heap := by rw [List.append_nil]; exact hP
  have hD : va_D A ([] ++ (w0 ++ [])) := by rw [List.append_nil]; exact hD
  refine lv_iload_n hx hb dL_adds_0 rfl (lv_at hl 1 rfl) ?_
  refine lv_if_eq (tgt := 15) hx hb dL_adds_1 (by decide) (fun _ => ?_) (fun h9 => absurd h9 (by decide))
  refine lv_aload_n hx hb dL_adds_15 rfl (lv_at hl 0 rfl) ?_
  refine lv_iload_n hx hb dL_adds_16 rfl (lv_at hl 2 rfl) ?_
  refine call_Ri (wa := []) (wb := []) (As := [.int x]) (rest := []) hx hb hml hown hAW hN hM (cwVAx 1 hAW q457 q458 q459 q22 q460 hd_X9_add (by rw [hR]; exact Nat.le_of_ble_eq_true rfl) (by rw [hR]; exact Nat.le_of_ble_eq_true rfl) rfl rfl) hK hP hD hS hA hq hw rfl rfl rfl hl.1 rfl (lv_room (Nat.le_of_ble_eq_true rfl)) dL_adds_17 (Nat.zero_le _) (Nat.zero_le _) (fun H locs hP hD hS => ?_)
  have hP : va_P D vwCl w1 H := by rw [List.append_nil] at hP; exact hP
  exact fin_h (v := r) hx hb hr hlk hP hS rfl rfl hQ dL_adds_20

set_option maxHeartbeats 1000000 in
set_option maxRecDepth 100000 in
theorem c_L_adds_0x1 (l : Launch) (hl0 : l.stackTraces = false) (D : va_G) (cI cZ : ClassId) (qz : Nat) (x y z : Int32) (w0 w1 : va_W) (hM : Cx "java/lang/IllegalArgumentException" l yX9_add (aw yX9_add cX9_add 2 (some .int)) ({ frames := 7, cells := 1, slots := 6, locals := 102 }) D cI cZ [.ref qz, .int x] w0 w1) (hq : ∃ fs, w0[0]? = some (qz, .inr (8, fs))) (hw : w1.map (·.1) = w0.map (·.1)) : Ch l yL_adds (awh yL_adds cL_adds 6 (some .int) [(0, 20, 21, 27), (0, 20, 26, 36)]) ({ frames := 8, cells := 1, slots := 6, locals := 123 }) D cI cZ [.ref qz, .int 0, .int x, .int y, .int z] w0 w1 (-20) 1 6 := by
  refine mk_h (y := yL_adds) (av := [.ref qz, .int 0, .int x, .int y, .int z]) (cc := cL_adds) (maxL := 6) (hh := [(0, 20, 21, 27), (0, 20, 26, 36)]) (by decide +kernel) (Nat.le_of_ble_eq_true rfl) ?_
  intro p e s m args below meth c A Q R hR hQ hx hb hr hml hAW hown hlk htab hN hT hNc hA hP hK hD hS ls hl
  have hl : lv_has ls 6 [(0, .ref qz), (1, .int 0), (2, .int x), (3, .int y), (4, .int z)] := hl
  have hP : va_P D vwCl ([] ++ (w0 ++ [])) s.heap := by rw [List.append_nil]; exact hP
  have hD : va_D A ([] ++ (w0 ++ [])) := by rw [List.append_nil]; exact hD
  refine lv_iload_n hx hb dL_adds_0 rfl (lv_at hl 1 rfl) ?_
  refine lv_if_eq (tgt := 15) hx hb dL_adds_1 (by decide) (fun _ => ?_) (fun h9 => absurd h9 (by decide))
  refine lv_aload_n hx hb dL_adds_15 rfl (lv_at hl 0 rfl) ?_
  refine lv_iload_n hx hb dL_adds_16 rfl (lv_at hl 2 rfl) ?_
  refine call_Rx (wa := []) (wb := []) (As := [.int x]) (rest := []) hx hb hml hown hAW hN hT hM (cwVAx 1 hAW q457 q458 q459 q22 q460 hd_X9_add (by rw [hR]; exact Nat.le_of_ble_eq_true rfl) (by rw [hR]; exact Nat.le_of_ble_eq_true rfl) rfl rfl) hK hP hD hS hA hq hw rfl rfl rfl hl.1 rfl (lv_room (Nat.le_of_ble_eq_true rfl)) dL_adds_17 (by rw [hR]; exact Nat.le_of_ble_eq_true rfl) (by rw [hR]; exact Nat.le_of_ble_eq_true rfl) (fun ce q9 H locs hP hD hS h1 h2 h3 => ?_)
  have hP : va_P D vwCl w1 H := by rw [List.append_nil] at hP; exact hP
  refine vx_catch (own := RL) (name := "java/lang/IllegalArgumentException") hown [] ⟨0, 20, 21, 27⟩ [⟨0, 20, 26, 36⟩] (by rw [htab]; rfl) (fun z hz => by cases hz) (by decide) (by decide) (hAW _ q291) (va_Nw.use rfl hT.2.2.2.2.2.2.2.2.1) h1 h2 h3 ?_
  show W p l e R s m args below meth c H locs _ _ Q (F0 m 21 ls [.ref q9])
  refine lv_astore (lv' := [(5, .ref q9), (0, .ref qz), (1, .int 0), (2, .int x), (3, .int y), (4, .int z)]) hx hb dL_adds_21 hl (by decide) rfl (fun ls hl => ?_)
  refine lv_bipush (v := (-20)) hx hb dL_adds_23 (by decide) ?_
  exact fin_h (v := (-20)) hx hb hr hlk hP hS rfl rfl hQ dL_adds_25

set_option maxHeartbeats 1000000 in
set_option maxRecDepth 100000 in
theorem c_L_adds_0x2 (l : Launch) (hl0 : l.stackTraces = false) (D : va_G) (cI cZ : ClassId) (qz : Nat) (x y z : Int32) (w0 w1 : va_W) (hM : Cx "java/lang/IllegalStateException" l yX9_add (aw yX9_add cX9_add 2 (some .int)) ({ frames := 7, cells := 1, slots := 6, locals := 102 }) D cI cZ [.ref qz, .int x] w0 w1) (hq : ∃ fs, w0[0]? = some (qz, .inr (8, fs))) (hw : w1.map (·.1) = w0.map (·.1)) : Ch l yL_adds (awh yL_adds cL_adds 6 (some .int) [(0, 20, 21, 27), (0, 20, 26, 36)]) ({ frames := 8, cells := 1, slots := 6, locals := 123 }) D cI cZ [.ref qz, .int 0, .int x, .int y, .int z] w0 w1 (-10) 1 6 := by
  refine mk_h (y := yL_adds) (av := [.ref qz, .int 0, .int x, .int y, .int z]) (cc := cL_adds) (maxL := 6) (hh := [(0, 20, 21, 27), (0, 20, 26, 36)]) (by decide +kernel) (Nat.le_of_ble_eq_true rfl) ?_
  intro p e s m args below meth c A Q R hR hQ hx hb hr hml hAW hown hlk htab hN hT hNc hA hP hK hD hS ls hl
  have hl : lv_has ls 6 [(0, .ref qz), (1, .int 0), (2, .int x), (3, .int y), (4, .int z)] := hl
  have hP : va_P D vwCl ([] ++ (w0 ++ [])) s.heap := by rw [List.append_nil]; exact hP
  have hD : va_D A ([] ++ (w0 ++ [])) := by rw [List.append_nil]; exact hD
  refine lv_iload_n hx hb dL_adds_0 rfl (lv_at hl 1 rfl) ?_
  refine lv_if_eq (tgt := 15) hx hb dL_adds_1 (by decide) (fun _ => ?_) (fun h9 => absurd h9 (by decide))
  refine lv_aload_n hx hb dL_adds_15 rfl (lv_at hl 0 rfl) ?_
  refine lv_iload_n hx hb dL_adds_16 rfl (lv_at hl 2 rfl) ?_
  refine call_Rx (wa := []) (wb := []) (As := [.int x]) (rest := []) hx hb hml hown hAW hN hT hM (cwVAx 1 hAW q457 q458 q459 q22 q460 hd_X9_add (by rw [hR]; exact Nat.le_of_ble_eq_true rfl) (by rw [hR]; exact Nat.le_of_ble_eq_true rfl) rfl rfl) hK hP hD hS hA hq hw rfl rfl rfl hl.1 rfl (lv_room (Nat.le_of_ble_eq_true rfl)) dL_adds_17 (by rw [hR]; exact Nat.le_of_ble_eq_true rfl) (by rw [hR]; exact Nat.le_of_ble_eq_true rfl) (fun ce q9 H locs hP hD hS h1 h2 h3 => ?_)
  have hP : va_P D vwCl w1 H := by rw [List.append_nil] at hP; exact hP
  refine vx_catch (own := RL) (name := "java/lang/IllegalStateException") hown [⟨0, 20, 21, 27⟩] ⟨0, 20, 26, 36⟩ [] (by rw [htab]; rfl) (fun z hz => by rcases List.mem_singleton.mp hz with rfl; exact Or.inr ⟨by decide, "java/lang/IllegalArgumentException", hAW _ q291, hNc⟩) (by decide) (by decide) (hAW _ q394) (va_Nw.use rfl hT.2.2.2.2.2.2.2.2.2.2) h1 h2 h3 ?_
  show W p l e R s m args below meth c H locs _ _ Q (F0 m 26 ls [.ref q9])
  refine lv_astore (lv' := [(5, .ref q9), (0, .ref qz), (1, .int 0), (2, .int x), (3, .int y), (4, .int z)]) hx hb dL_adds_26 hl (by decide) rfl (fun ls hl => ?_)
  refine lv_bipush (v := (-10)) hx hb dL_adds_28 (by decide) ?_
  exact fin_h (v := (-10)) hx hb hr hlk hP hS rfl rfl hQ dL_adds_30

set_option maxHeartbeats 1000000 in
set_option maxRecDepth 100000 in
theorem c_L_asks_0x (l : Launch) (hl0 : l.stackTraces = false) (D : va_G) (cI cZ : ClassId) (qz : Nat) (x y : Int32) (w0 w1 : va_W) (hM : Cx "java/lang/IndexOutOfBoundsException" l yX9_value (aw yX9_value cX9_value 2 (some .int)) ({ frames := 7, cells := 1, slots := 6, locals := 102 }) D cI cZ [.ref qz, .int x] w0 w1) (hq : ∃ fs, w0[0]? = some (qz, .inr (8, fs))) (hw : w1.map (·.1) = w0.map (·.1)) : Ch l yL_asks (awh yL_asks cL_asks 5 (some .int) [(0, 120, 121, 67)]) ({ frames := 8, cells := 1, slots := 6, locals := 123 }) D cI cZ [.ref qz, .int 0, .int x, .int y] w0 w1 (-3000) 1 6 := by
  refine mk_h (y := yL_asks) (av := [.ref qz, .int 0, .int x, .int y]) (cc := cL_asks) (maxL := 5) (hh := [(0, 120, 121, 67)]) (by decide +kernel) (Nat.le_of_ble_eq_true rfl) ?_
  intro p e s m args below meth c A Q R hR hQ hx hb hr hml hAW hown hlk htab hN hT hNc hA hP hK hD hS ls hl
  have hl : lv_has ls 5 [(0, .ref qz), (1, .int 0), (2, .int x), (3, .int y)] := hl
  have hP : va_P D vwCl ([] ++ (w0 ++ [])) s.heap := by rw [List.append_nil]; exact hP
  have hD : va_D A ([] ++ (w0 ++ [])) := by rw [List.append_nil]; exact hD
  refine lv_iload_n hx hb dL_asks_0 rfl (lv_at hl 1 rfl) ?_
  refine lv_if_ne (tgt := 12) hx hb dL_asks_1 (by decide) (fun h9 => absurd h9 (by decide)) (fun _ => ?_)
  refine lv_aload_n hx hb dL_asks_4 rfl (lv_at hl 0 rfl) ?_
  refine lv_iload_n hx hb dL_asks_5 rfl (lv_at hl 2 rfl) ?_
  refine call_Rx (wa := []) (wb := []) (As := [.int x]) (rest := []) hx hb hml hown hAW hN hT hM (cwVAx 1 hAW q465 q466 q467 q22 q468 hd_X9_value (by rw [hR]; exact Nat.le_of_ble_eq_true rfl) (by rw [hR]; exact Nat.le_of_ble_eq_true rfl) rfl rfl) hK hP hD hS hA hq hw rfl rfl rfl hl.1 rfl (lv_room (Nat.le_of_ble_eq_true rfl)) dL_asks_6 (by rw [hR]; exact Nat.le_of_ble_eq_true rfl) (by rw [hR]; exact Nat.le_of_ble_eq_true rfl) (fun ce q9 H locs hP hD hS h1 h2 h3 => ?_)
  have hP : va_P D vwCl w1 H := by rw [List.append_nil] at hP; exact hP
  refine vx_catch (own := RL) (name := "java/lang/IndexOutOfBoundsException") hown [] ⟨0, 120, 121, 67⟩ [] (by rw [htab]; rfl) (fun z hz => by cases hz) (by decide) (by decide) (hAW _ q464) (va_Nw.use rfl hT.2.2.2.2.2.2.2.2.2.1) h1 h2 h3 ?_
  show W p l e R s m args below meth c H locs _ _ Q (F0 m 121 ls [.ref q9])
  refine lv_astore (lv' := [(4, .ref q9), (0, .ref qz), (1, .int 0), (2, .int x), (3, .int y)]) hx hb dL_asks_121 hl (by decide) rfl (fun ls hl => ?_)
  refine lv_sipush (v := (-3000)) hx hb dL_asks_123 (by decide) ?_
  exact fin_h (v := (-3000)) hx hb hr hlk hP hS rfl rfl hQ dL_asks_126

set_option maxHeartbeats 1000000 in
set_option maxRecDepth 100000 in
theorem c_L_asks_1x (l : Launch) (hl0 : l.stackTraces = false) (D : va_G) (cI cZ : ClassId) (qz : Nat) (x y : Int32) (w0 w1 : va_W) (hM : Cx "java/lang/IndexOutOfBoundsException" l yX9_alarmKind (aw yX9_alarmKind cX9_alarmKind 2 (some .int)) ({ frames := 7, cells := 1, slots := 6, locals := 102 }) D cI cZ [.ref qz, .int x] w0 w1) (hq : ∃ fs, w0[0]? = some (qz, .inr (8, fs))) (hw : w1.map (·.1) = w0.map (·.1)) : Ch l yL_asks (awh yL_asks cL_asks 5 (some .int) [(0, 120, 121, 67)]) ({ frames := 8, cells := 1, slots := 6, locals := 123 }) D cI cZ [.ref qz, .int 1, .int x, .int y] w0 w1 (-3000) 1 6 := by
  refine mk_h (y := yL_asks) (av := [.ref qz, .int 1, .int x, .int y]) (cc := cL_asks) (maxL := 5) (hh := [(0, 120, 121, 67)]) (by decide +kernel) (Nat.le_of_ble_eq_true rfl) ?_
  intro p e s m args below meth c A Q R hR hQ hx hb hr hml hAW hown hlk htab hN hT hNc hA hP hK hD hS ls hl
  have hl : lv_has ls 5 [(0, .ref qz), (1, .int 1), (2, .int x), (3, .int y)] := hl
  have hP : va_P D vwCl ([] ++ (w0 ++ [])) s.heap := by rw [List.append_nil]; exact hP
  have hD : va_D A ([] ++ (w0 ++ [])) := by rw [List.append_nil]; exact hD
  refine lv_iload_n hx hb dL_asks_0 rfl (lv_at hl 1 rfl) ?_
  refine lv_if_ne (tgt := 12) hx hb dL_asks_1 (by decide) (fun _ => ?_) (fun h9 => absurd h9 (by decide))
  refine lv_iload_n hx hb dL_asks_12 rfl (lv_at hl 1 rfl) ?_
  refine lv_iconst (v := 1) hx hb dL_asks_13 (by decide) ?_
  refine lv_icmp_ne (tgt := 25) hx hb dL_asks_14 (by decide) (fun h9 => absurd h9 (by decide)) (fun _ => ?_)
  refine lv_aload_n hx hb dL_asks_17 rfl (lv_at hl 0 rfl) ?_
  refine lv_iload_n hx hb dL_asks_18 rfl (lv_at hl 2 rfl) ?_
  refine call_Rx (wa := []) (wb := []) (As := [.int x]) (rest := []) hx hb hml hown hAW hN hT hM (cwVAx 1 hAW q492 q493 q494 q22 q495 hd_X9_alarmKind (by rw [hR]; exact Nat.le_of_ble_eq_true rfl) (by rw [hR]; exact Nat.le_of_ble_eq_true rfl) rfl rfl) hK hP hD hS hA hq hw rfl rfl rfl hl.1 rfl (lv_room (Nat.le_of_ble_eq_true rfl)) dL_asks_19 (by rw [hR]; exact Nat.le_of_ble_eq_true rfl) (by rw [hR]; exact Nat.le_of_ble_eq_true rfl) (fun ce q9 H locs hP hD hS h1 h2 h3 => ?_)
  have hP : va_P D vwCl w1 H := by rw [List.append_nil] at hP; exact hP
  refine vx_catch (own := RL) (name := "java/lang/IndexOutOfBoundsException") hown [] ⟨0, 120, 121, 67⟩ [] (by rw [htab]; rfl) (fun z hz => by cases hz) (by decide) (by decide) (hAW _ q464) (va_Nw.use rfl hT.2.2.2.2.2.2.2.2.2.1) h1 h2 h3 ?_
  show W p l e R s m args below meth c H locs _ _ Q (F0 m 121 ls [.ref q9])
  refine lv_astore (lv' := [(4, .ref q9), (0, .ref qz), (1, .int 1), (2, .int x), (3, .int y)]) hx hb dL_asks_121 hl (by decide) rfl (fun ls hl => ?_)
  refine lv_sipush (v := (-3000)) hx hb dL_asks_123 (by decide) ?_
  exact fin_h (v := (-3000)) hx hb hr hlk hP hS rfl rfl hQ dL_asks_126

set_option maxHeartbeats 1000000 in
set_option maxRecDepth 100000 in
theorem c_L_asks_2x (l : Launch) (hl0 : l.stackTraces = false) (D : va_G) (cI cZ : ClassId) (qz : Nat) (x y : Int32) (w0 w1 : va_W) (hM : Cx "java/lang/IndexOutOfBoundsException" l yX9_alarmNumber (aw yX9_alarmNumber cX9_alarmNumber 2 (some .int)) ({ frames := 7, cells := 1, slots := 6, locals := 102 }) D cI cZ [.ref qz, .int x] w0 w1) (hq : ∃ fs, w0[0]? = some (qz, .inr (8, fs))) (hw : w1.map (·.1) = w0.map (·.1)) : Ch l yL_asks (awh yL_asks cL_asks 5 (some .int) [(0, 120, 121, 67)]) ({ frames := 8, cells := 1, slots := 6, locals := 123 }) D cI cZ [.ref qz, .int 2, .int x, .int y] w0 w1 (-3000) 1 6 := by
  refine mk_h (y := yL_asks) (av := [.ref qz, .int 2, .int x, .int y]) (cc := cL_asks) (maxL := 5) (hh := [(0, 120, 121, 67)]) (by decide +kernel) (Nat.le_of_ble_eq_true rfl) ?_
  intro p e s m args below meth c A Q R hR hQ hx hb hr hml hAW hown hlk htab hN hT hNc hA hP hK hD hS ls hl
  have hl : lv_has ls 5 [(0, .ref qz), (1, .int 2), (2, .int x), (3, .int y)] := hl
  have hP : va_P D vwCl ([] ++ (w0 ++ [])) s.heap := by rw [List.append_nil]; exact hP
  have hD : va_D A ([] ++ (w0 ++ [])) := by rw [List.append_nil]; exact hD
  refine lv_iload_n hx hb dL_asks_0 rfl (lv_at hl 1 rfl) ?_
  refine lv_if_ne (tgt := 12) hx hb dL_asks_1 (by decide) (fun _ => ?_) (fun h9 => absurd h9 (by decide))
  refine lv_iload_n hx hb dL_asks_12 rfl (lv_at hl 1 rfl) ?_
  refine lv_iconst (v := 1) hx hb dL_asks_13 (by decide) ?_
  refine lv_icmp_ne (tgt := 25) hx hb dL_asks_14 (by decide) (fun _ => ?_) (fun h9 => absurd h9 (by decide))
  refine lv_iload_n hx hb dL_asks_25 rfl (lv_at hl 1 rfl) ?_
  refine lv_iconst (v := 2) hx hb dL_asks_26 (by decide) ?_
  refine lv_icmp_ne (tgt := 38) hx hb dL_asks_27 (by decide) (fun h9 => absurd h9 (by decide)) (fun _ => ?_)
  refine lv_aload_n hx hb dL_asks_30 rfl (lv_at hl 0 rfl) ?_
  refine lv_iload_n hx hb dL_asks_31 rfl (lv_at hl 2 rfl) ?_
  refine call_Rx (wa := []) (wb := []) (As := [.int x]) (rest := []) hx hb hml hown hAW hN hT hM (cwVAx 1 hAW q500 q501 q502 q22 q503 hd_X9_alarmNumber (by rw [hR]; exact Nat.le_of_ble_eq_true rfl) (by rw [hR]; exact Nat.le_of_ble_eq_true rfl) rfl rfl) hK hP hD hS hA hq hw rfl rfl rfl hl.1 rfl (lv_room (Nat.le_of_ble_eq_true rfl)) dL_asks_32 (by rw [hR]; exact Nat.le_of_ble_eq_true rfl) (by rw [hR]; exact Nat.le_of_ble_eq_true rfl) (fun ce q9 H locs hP hD hS h1 h2 h3 => ?_)
  have hP : va_P D vwCl w1 H := by rw [List.append_nil] at hP; exact hP
  refine vx_catch (own := RL) (name := "java/lang/IndexOutOfBoundsException") hown [] ⟨0, 120, 121, 67⟩ [] (by rw [htab]; rfl) (fun z hz => by cases hz) (by decide) (by decide) (hAW _ q464) (va_Nw.use rfl hT.2.2.2.2.2.2.2.2.2.1) h1 h2 h3 ?_
  show W p l e R s m args below meth c H locs _ _ Q (F0 m 121 ls [.ref q9])
  refine lv_astore (lv' := [(4, .ref q9), (0, .ref qz), (1, .int 2), (2, .int x), (3, .int y)]) hx hb dL_asks_121 hl (by decide) rfl (fun ls hl => ?_)
  refine lv_sipush (v := (-3000)) hx hb dL_asks_123 (by decide) ?_
  exact fin_h (v := (-3000)) hx hb hr hlk hP hS rfl rfl hQ dL_asks_126

set_option maxHeartbeats 1000000 in
set_option maxRecDepth 100000 in
theorem c_L_asks_4x (l : Launch) (hl0 : l.stackTraces = false) (D : va_G) (cI cZ : ClassId) (qz : Nat) (x y : Int32) (w0 w1 : va_W) (hM : Cx "java/lang/IndexOutOfBoundsException" l yX9_cost (aw yX9_cost cX9_cost 3 (some .int)) ({ frames := 7, cells := 1, slots := 6, locals := 102 }) D cI cZ [.ref qz, .int x, .int y] w0 w1) (hq : ∃ fs, w0[0]? = some (qz, .inr (8, fs))) (hw : w1.map (·.1) = w0.map (·.1)) : Ch l yL_asks (awh yL_asks cL_asks 5 (some .int) [(0, 120, 121, 67)]) ({ frames := 8, cells := 1, slots := 6, locals := 124 }) D cI cZ [.ref qz, .int 4, .int x, .int y] w0 w1 (-3000) 1 6 := by
  refine mk_h (y := yL_asks) (av := [.ref qz, .int 4, .int x, .int y]) (cc := cL_asks) (maxL := 5) (hh := [(0, 120, 121, 67)]) (by decide +kernel) (Nat.le_of_ble_eq_true rfl) ?_
  intro p e s m args below meth c A Q R hR hQ hx hb hr hml hAW hown hlk htab hN hT hNc hA hP hK hD hS ls hl
  have hl : lv_has ls 5 [(0, .ref qz), (1, .int 4), (2, .int x), (3, .int y)] := hl
  have hP : va_P D vwCl ([] ++ (w0 ++ [])) s.heap := by rw [List.append_nil]; exact hP
  have hD : va_D A ([] ++ (w0 ++ [])) := by rw [List.append_nil]; exact hD
  refine lv_iload_n hx hb dL_asks_0 rfl (lv_at hl 1 rfl) ?_
  refine lv_if_ne (tgt := 12) hx hb dL_asks_1 (by decide) (fun _ => ?_) (fun h9 => absurd h9 (by decide))
  refine lv_iload_n hx hb dL_asks_12 rfl (lv_at hl 1 rfl) ?_
  refine lv_iconst (v := 1) hx hb dL_asks_13 (by decide) ?_
  refine lv_icmp_ne (tgt := 25) hx hb dL_asks_14 (by decide) (fun _ => ?_) (fun h9 => absurd h9 (by decide))
  refine lv_iload_n hx hb dL_asks_25 rfl (lv_at hl 1 rfl) ?_
  refine lv_iconst (v := 2) hx hb dL_asks_26 (by decide) ?_
  refine lv_icmp_ne (tgt := 38) hx hb dL_asks_27 (by decide) (fun _ => ?_) (fun h9 => absurd h9 (by decide))
  refine lv_iload_n hx hb dL_asks_38 rfl (lv_at hl 1 rfl) ?_
  refine lv_iconst (v := 3) hx hb dL_asks_39 (by decide) ?_
  refine lv_icmp_ne (tgt := 51) hx hb dL_asks_40 (by decide) (fun _ => ?_) (fun h9 => absurd h9 (by decide))
  refine lv_iload_n hx hb dL_asks_51 rfl (lv_at hl 1 rfl) ?_
  refine lv_iconst (v := 4) hx hb dL_asks_52 (by decide) ?_
  refine lv_icmp_ne (tgt := 65) hx hb dL_asks_53 (by decide) (fun h9 => absurd h9 (by decide)) (fun _ => ?_)
  refine lv_aload_n hx hb dL_asks_56 rfl (lv_at hl 0 rfl) ?_
  refine lv_iload_n hx hb dL_asks_57 rfl (lv_at hl 2 rfl) ?_
  refine lv_iload_n hx hb dL_asks_58 rfl (lv_at hl 3 rfl) ?_
  refine call_Rx (wa := []) (wb := []) (As := [.int x, .int y]) (rest := []) hx hb hml hown hAW hN hT hM (cwVAx 2 hAW q508 q509 q510 q22 q511 hd_X9_cost (by rw [hR]; exact Nat.le_of_ble_eq_true rfl) (by rw [hR]; exact Nat.le_of_ble_eq_true rfl) rfl rfl) hK hP hD hS hA hq hw rfl rfl rfl hl.1 rfl (lv_room (Nat.le_of_ble_eq_true rfl)) dL_asks_59 (by rw [hR]; exact Nat.le_of_ble_eq_true rfl) (by rw [hR]; exact Nat.le_of_ble_eq_true rfl) (fun ce q9 H locs hP hD hS h1 h2 h3 => ?_)
  have hP : va_P D vwCl w1 H := by rw [List.append_nil] at hP; exact hP
  refine vx_catch (own := RL) (name := "java/lang/IndexOutOfBoundsException") hown [] ⟨0, 120, 121, 67⟩ [] (by rw [htab]; rfl) (fun z hz => by cases hz) (by decide) (by decide) (hAW _ q464) (va_Nw.use rfl hT.2.2.2.2.2.2.2.2.2.1) h1 h2 h3 ?_
  show W p l e R s m args below meth c H locs _ _ Q (F0 m 121 ls [.ref q9])
  refine lv_astore (lv' := [(4, .ref q9), (0, .ref qz), (1, .int 4), (2, .int x), (3, .int y)]) hx hb dL_asks_121 hl (by decide) rfl (fun ls hl => ?_)
  refine lv_sipush (v := (-3000)) hx hb dL_asks_123 (by decide) ?_
  exact fin_h (v := (-3000)) hx hb hr hlk hP hS rfl rfl hQ dL_asks_126

set_option maxHeartbeats 1000000 in
set_option maxRecDepth 100000 in
theorem c_L_asks_5x (l : Launch) (hl0 : l.stackTraces = false) (D : va_G) (cI cZ : ClassId) (qz : Nat) (x y : Int32) (w0 w1 : va_W) (hM : Cx "java/lang/IndexOutOfBoundsException" l yX9_middle (aw yX9_middle cX9_middle 3 (some .int)) ({ frames := 7, cells := 1, slots := 6, locals := 102 }) D cI cZ [.ref qz, .int x, .int y] w0 w1) (hq : ∃ fs, w0[0]? = some (qz, .inr (8, fs))) (hw : w1.map (·.1) = w0.map (·.1)) : Ch l yL_asks (awh yL_asks cL_asks 5 (some .int) [(0, 120, 121, 67)]) ({ frames := 8, cells := 1, slots := 6, locals := 124 }) D cI cZ [.ref qz, .int 5, .int x, .int y] w0 w1 (-3000) 1 6 := by
  refine mk_h (y := yL_asks) (av := [.ref qz, .int 5, .int x, .int y]) (cc := cL_asks) (maxL := 5) (hh := [(0, 120, 121, 67)]) (by decide +kernel) (Nat.le_of_ble_eq_true rfl) ?_
  intro p e s m args below meth c A Q R hR hQ hx hb hr hml hAW hown hlk htab hN hT hNc hA hP hK hD hS ls hl
  have hl : lv_has ls 5 [(0, .ref qz), (1, .int 5), (2, .int x), (3, .int y)] := hl
  have hP : va_P D vwCl ([] ++ (w0 ++ [])) s.heap := by rw [List.append_nil]; exact hP
  have hD : va_D A ([] ++ (w0 ++ [])) := by rw [List.append_nil]; exact hD
  refine lv_iload_n hx hb dL_asks_0 rfl (lv_at hl 1 rfl) ?_
  refine lv_if_ne (tgt := 12) hx hb dL_asks_1 (by decide) (fun _ => ?_) (fun h9 => absurd h9 (by decide))
  refine lv_iload_n hx hb dL_asks_12 rfl (lv_at hl 1 rfl) ?_
  refine lv_iconst (v := 1) hx hb dL_asks_13 (by decide) ?_
  refine lv_icmp_ne (tgt := 25) hx hb dL_asks_14 (by decide) (fun _ => ?_) (fun h9 => absurd h9 (by decide))
  refine lv_iload_n hx hb dL_asks_25 rfl (lv_at hl 1 rfl) ?_
  refine lv_iconst (v := 2) hx hb dL_asks_26 (by decide) ?_
  refine lv_icmp_ne (tgt := 38) hx hb dL_asks_27 (by decide) (fun _ => ?_) (fun h9 => absurd h9 (by decide))
  refine lv_iload_n hx hb dL_asks_38 rfl (lv_at hl 1 rfl) ?_
  refine lv_iconst (v := 3) hx hb dL_asks_39 (by decide) ?_
  refine lv_icmp_ne (tgt := 51) hx hb dL_asks_40 (by decide) (fun _ => ?_) (fun h9 => absurd h9 (by decide))
  refine lv_iload_n hx hb dL_asks_51 rfl (lv_at hl 1 rfl) ?_
  refine lv_iconst (v := 4) hx hb dL_asks_52 (by decide) ?_
  refine lv_icmp_ne (tgt := 65) hx hb dL_asks_53 (by decide) (fun _ => ?_) (fun h9 => absurd h9 (by decide))
  refine lv_iload_n hx hb dL_asks_65 rfl (lv_at hl 1 rfl) ?_
  refine lv_iconst (v := 5) hx hb dL_asks_66 (by decide) ?_
  refine lv_icmp_ne (tgt := 79) hx hb dL_asks_67 (by decide) (fun h9 => absurd h9 (by decide)) (fun _ => ?_)
  refine lv_aload_n hx hb dL_asks_70 rfl (lv_at hl 0 rfl) ?_
  refine lv_iload_n hx hb dL_asks_71 rfl (lv_at hl 2 rfl) ?_
  refine lv_iload_n hx hb dL_asks_72 rfl (lv_at hl 3 rfl) ?_
  refine call_Rx (wa := []) (wb := []) (As := [.int x, .int y]) (rest := []) hx hb hml hown hAW hN hT hM (cwVAx 2 hAW q540 q541 q542 q22 q543 hd_X9_middle (by rw [hR]; exact Nat.le_of_ble_eq_true rfl) (by rw [hR]; exact Nat.le_of_ble_eq_true rfl) rfl rfl) hK hP hD hS hA hq hw rfl rfl rfl hl.1 rfl (lv_room (Nat.le_of_ble_eq_true rfl)) dL_asks_73 (by rw [hR]; exact Nat.le_of_ble_eq_true rfl) (by rw [hR]; exact Nat.le_of_ble_eq_true rfl) (fun ce q9 H locs hP hD hS h1 h2 h3 => ?_)
  have hP : va_P D vwCl w1 H := by rw [List.append_nil] at hP; exact hP
  refine vx_catch (own := RL) (name := "java/lang/IndexOutOfBoundsException") hown [] ⟨0, 120, 121, 67⟩ [] (by rw [htab]; rfl) (fun z hz => by cases hz) (by decide) (by decide) (hAW _ q464) (va_Nw.use rfl hT.2.2.2.2.2.2.2.2.2.1) h1 h2 h3 ?_
  show W p l e R s m args below meth c H locs _ _ Q (F0 m 121 ls [.ref q9])
  refine lv_astore (lv' := [(4, .ref q9), (0, .ref qz), (1, .int 5), (2, .int x), (3, .int y)]) hx hb dL_asks_121 hl (by decide) rfl (fun ls hl => ?_)
  refine lv_sipush (v := (-3000)) hx hb dL_asks_123 (by decide) ?_
  exact fin_h (v := (-3000)) hx hb hr hlk hP hS rfl rfl hQ dL_asks_126

set_option maxHeartbeats 1000000 in
set_option maxRecDepth 100000 in
theorem c_L_asks_6x (l : Launch) (hl0 : l.stackTraces = false) (D : va_G) (cI cZ : ClassId) (qz : Nat) (x y : Int32) (w0 w1 : va_W) (hM : Cx "java/lang/IndexOutOfBoundsException" l yX9_change (aw yX9_change cX9_change 3 (some .int)) ({ frames := 7, cells := 1, slots := 6, locals := 119 }) D cI cZ [.ref qz, .int x] w0 w1) (hq : ∃ fs, w0[0]? = some (qz, .inr (8, fs))) (hw : w1.map (·.1) = w0.map (·.1)) : Ch l yL_asks (awh yL_asks cL_asks 5 (some .int) [(0, 120, 121, 67)]) ({ frames := 8, cells := 1, slots := 6, locals := 141 }) D cI cZ [.ref qz, .int 6, .int x, .int y] w0 w1 (-3000) 1 6 := by
  refine mk_h (y := yL_asks) (av := [.ref qz, .int 6, .int x, .int y]) (cc := cL_asks) (maxL := 5) (hh := [(0, 120, 121, 67)]) (by decide +kernel) (Nat.le_of_ble_eq_true rfl) ?_
  intro p e s m args below meth c A Q R hR hQ hx hb hr hml hAW hown hlk htab hN hT hNc hA hP hK hD hS ls hl
  have hl : lv_has ls 5 [(0, .ref qz), (1, .int 6), (2, .int x), (3, .int y)] := hl
  have hP : va_P D vwCl ([] ++ (w0 ++ [])) s.heap := by rw [List.append_nil]; exact hP
  have hD : va_D A ([] ++ (w0 ++ [])) := by rw [List.append_nil]; exact hD
  refine lv_iload_n hx hb dL_asks_0 rfl (lv_at hl 1 rfl) ?_
  refine lv_if_ne (tgt := 12) hx hb dL_asks_1 (by decide) (fun _ => ?_) (fun h9 => absurd h9 (by decide))
  refine lv_iload_n hx hb dL_asks_12 rfl (lv_at hl 1 rfl) ?_
  refine lv_iconst (v := 1) hx hb dL_asks_13 (by decide) ?_
  refine lv_icmp_ne (tgt := 25) hx hb dL_asks_14 (by decide) (fun _ => ?_) (fun h9 => absurd h9 (by decide))
  refine lv_iload_n hx hb dL_asks_25 rfl (lv_at hl 1 rfl) ?_
  refine lv_iconst (v := 2) hx hb dL_asks_26 (by decide) ?_
  refine lv_icmp_ne (tgt := 38) hx hb dL_asks_27 (by decide) (fun _ => ?_) (fun h9 => absurd h9 (by decide))
  refine lv_iload_n hx hb dL_asks_38 rfl (lv_at hl 1 rfl) ?_
  refine lv_iconst (v := 3) hx hb dL_asks_39 (by decide) ?_
  refine lv_icmp_ne (tgt := 51) hx hb dL_asks_40 (by decide) (fun _ => ?_) (fun h9 => absurd h9 (by decide))
  refine lv_iload_n hx hb dL_asks_51 rfl (lv_at hl 1 rfl) ?_
  refine lv_iconst (v := 4) hx hb dL_asks_52 (by decide) ?_
  refine lv_icmp_ne (tgt := 65) hx hb dL_asks_53 (by decide) (fun _ => ?_) (fun h9 => absurd h9 (by decide))
  refine lv_iload_n hx hb dL_asks_65 rfl (lv_at hl 1 rfl) ?_
  refine lv_iconst (v := 5) hx hb dL_asks_66 (by decide) ?_
  refine lv_icmp_ne (tgt := 79) hx hb dL_asks_67 (by decide) (fun _ => ?_) (fun h9 => absurd h9 (by decide))
  refine lv_iload_n hx hb dL_asks_79 rfl (lv_at hl 1 rfl) ?_
  refine lv_bipush (v := 6) hx hb dL_asks_80 (by decide) ?_
  refine lv_icmp_ne (tgt := 93) hx hb dL_asks_82 (by decide) (fun h9 => absurd h9 (by decide)) (fun _ => ?_)
  refine lv_aload_n hx hb dL_asks_85 rfl (lv_at hl 0 rfl) ?_
  refine lv_iload_n hx hb dL_asks_86 rfl (lv_at hl 2 rfl) ?_
  refine call_Rx (wa := []) (wb := []) (As := [.int x]) (rest := []) hx hb hml hown hAW hN hT hM (cwVAx 1 hAW q548 q549 q550 q22 q551 hd_X9_change (by rw [hR]; exact Nat.le_of_ble_eq_true rfl) (by rw [hR]; exact Nat.le_of_ble_eq_true rfl) rfl rfl) hK hP hD hS hA hq hw rfl rfl rfl hl.1 rfl (lv_room (Nat.le_of_ble_eq_true rfl)) dL_asks_87 (by rw [hR]; exact Nat.le_of_ble_eq_true rfl) (by rw [hR]; exact Nat.le_of_ble_eq_true rfl) (fun ce q9 H locs hP hD hS h1 h2 h3 => ?_)
  have hP : va_P D vwCl w1 H := by rw [List.append_nil] at hP; exact hP
  refine vx_catch (own := RL) (name := "java/lang/IndexOutOfBoundsException") hown [] ⟨0, 120, 121, 67⟩ [] (by rw [htab]; rfl) (fun z hz => by cases hz) (by decide) (by decide) (hAW _ q464) (va_Nw.use rfl hT.2.2.2.2.2.2.2.2.2.1) h1 h2 h3 ?_
  show W p l e R s m args below meth c H locs _ _ Q (F0 m 121 ls [.ref q9])
  refine lv_astore (lv' := [(4, .ref q9), (0, .ref qz), (1, .int 6), (2, .int x), (3, .int y)]) hx hb dL_asks_121 hl (by decide) rfl (fun ls hl => ?_)
  refine lv_sipush (v := (-3000)) hx hb dL_asks_123 (by decide) ?_
  exact fin_h (v := (-3000)) hx hb hr hlk hP hS rfl rfl hQ dL_asks_126

set_option maxHeartbeats 1000000 in
set_option maxRecDepth 100000 in
theorem c_L_asks_7x (l : Launch) (hl0 : l.stackTraces = false) (D : va_G) (cI cZ : ClassId) (qz : Nat) (x y : Int32) (w0 w1 : va_W) (hM : Cx "java/lang/IndexOutOfBoundsException" l yX9_greedyChange (aw yX9_greedyChange cX9_greedyChange 3 (some .int)) ({ frames := 7, cells := 1, slots := 6, locals := 117 }) D cI cZ [.ref qz, .int x] w0 w1) (hq : ∃ fs, w0[0]? = some (qz, .inr (8, fs))) (hw : w1.map (·.1) = w0.map (·.1)) : Ch l yL_asks (awh yL_asks cL_asks 5 (some .int) [(0, 120, 121, 67)]) ({ frames := 8, cells := 1, slots := 6, locals := 139 }) D cI cZ [.ref qz, .int 7, .int x, .int y] w0 w1 (-3000) 1 6 := by
  refine mk_h (y := yL_asks) (av := [.ref qz, .int 7, .int x, .int y]) (cc := cL_asks) (maxL := 5) (hh := [(0, 120, 121, 67)]) (by decide +kernel) (Nat.le_of_ble_eq_true rfl) ?_
  intro p e s m args below meth c A Q R hR hQ hx hb hr hml hAW hown hlk htab hN hT hNc hA hP hK hD hS ls hl
  have hl : lv_has ls 5 [(0, .ref qz), (1, .int 7), (2, .int x), (3, .int y)] := hl
  have hP : va_P D vwCl ([] ++ (w0 ++ [])) s.heap := by rw [List.append_nil]; exact hP
  have hD : va_D A ([] ++ (w0 ++ [])) := by rw [List.append_nil]; exact hD
  refine lv_iload_n hx hb dL_asks_0 rfl (lv_at hl 1 rfl) ?_
  refine lv_if_ne (tgt := 12) hx hb dL_asks_1 (by decide) (fun _ => ?_) (fun h9 => absurd h9 (by decide))
  refine lv_iload_n hx hb dL_asks_12 rfl (lv_at hl 1 rfl) ?_
  refine lv_iconst (v := 1) hx hb dL_asks_13 (by decide) ?_
  refine lv_icmp_ne (tgt := 25) hx hb dL_asks_14 (by decide) (fun _ => ?_) (fun h9 => absurd h9 (by decide))
  refine lv_iload_n hx hb dL_asks_25 rfl (lv_at hl 1 rfl) ?_
  refine lv_iconst (v := 2) hx hb dL_asks_26 (by decide) ?_
  refine lv_icmp_ne (tgt := 38) hx hb dL_asks_27 (by decide) (fun _ => ?_) (fun h9 => absurd h9 (by decide))
  refine lv_iload_n hx hb dL_asks_38 rfl (lv_at hl 1 rfl) ?_
  refine lv_iconst (v := 3) hx hb dL_asks_39 (by decide) ?_
  refine lv_icmp_ne (tgt := 51) hx hb dL_asks_40 (by decide) (fun _ => ?_) (fun h9 => absurd h9 (by decide))
  refine lv_iload_n hx hb dL_asks_51 rfl (lv_at hl 1 rfl) ?_
  refine lv_iconst (v := 4) hx hb dL_asks_52 (by decide) ?_
  refine lv_icmp_ne (tgt := 65) hx hb dL_asks_53 (by decide) (fun _ => ?_) (fun h9 => absurd h9 (by decide))
  refine lv_iload_n hx hb dL_asks_65 rfl (lv_at hl 1 rfl) ?_
  refine lv_iconst (v := 5) hx hb dL_asks_66 (by decide) ?_
  refine lv_icmp_ne (tgt := 79) hx hb dL_asks_67 (by decide) (fun _ => ?_) (fun h9 => absurd h9 (by decide))
  refine lv_iload_n hx hb dL_asks_79 rfl (lv_at hl 1 rfl) ?_
  refine lv_bipush (v := 6) hx hb dL_asks_80 (by decide) ?_
  refine lv_icmp_ne (tgt := 93) hx hb dL_asks_82 (by decide) (fun _ => ?_) (fun h9 => absurd h9 (by decide))
  refine lv_iload_n hx hb dL_asks_93 rfl (lv_at hl 1 rfl) ?_
  refine lv_bipush (v := 7) hx hb dL_asks_94 (by decide) ?_
  refine lv_icmp_ne (tgt := 107) hx hb dL_asks_96 (by decide) (fun h9 => absurd h9 (by decide)) (fun _ => ?_)
  refine lv_aload_n hx hb dL_asks_99 rfl (lv_at hl 0 rfl) ?_
  refine lv_iload_n hx hb dL_asks_100 rfl (lv_at hl 2 rfl) ?_
  refine call_Rx (wa := []) (wb := []) (As := [.int x]) (rest := []) hx hb hml hown hAW hN hT hM (cwVAx 1 hAW q586 q587 q588 q22 q589 hd_X9_greedyChange (by rw [hR]; exact Nat.le_of_ble_eq_true rfl) (by rw [hR]; exact Nat.le_of_ble_eq_true rfl) rfl rfl) hK hP hD hS hA hq hw rfl rfl rfl hl.1 rfl (lv_room (Nat.le_of_ble_eq_true rfl)) dL_asks_101 (by rw [hR]; exact Nat.le_of_ble_eq_true rfl) (by rw [hR]; exact Nat.le_of_ble_eq_true rfl) (fun ce q9 H locs hP hD hS h1 h2 h3 => ?_)
  have hP : va_P D vwCl w1 H := by rw [List.append_nil] at hP; exact hP
  refine vx_catch (own := RL) (name := "java/lang/IndexOutOfBoundsException") hown [] ⟨0, 120, 121, 67⟩ [] (by rw [htab]; rfl) (fun z hz => by cases hz) (by decide) (by decide) (hAW _ q464) (va_Nw.use rfl hT.2.2.2.2.2.2.2.2.2.1) h1 h2 h3 ?_
  show W p l e R s m args below meth c H locs _ _ Q (F0 m 121 ls [.ref q9])
  refine lv_astore (lv' := [(4, .ref q9), (0, .ref qz), (1, .int 7), (2, .int x), (3, .int y)]) hx hb dL_asks_121 hl (by decide) rfl (fun ls hl => ?_)
  refine lv_sipush (v := (-3000)) hx hb dL_asks_123 (by decide) ?_
  exact fin_h (v := (-3000)) hx hb hr hlk hP hS rfl rfl hQ dL_asks_126

set_option maxHeartbeats 1000000 in
set_option maxRecDepth 100000 in
theorem c_L_asks_8x (l : Launch) (hl0 : l.stackTraces = false) (D : va_G) (cI cZ : ClassId) (qz : Nat) (x y : Int32) (w0 w1 : va_W) (hM : Cx "java/lang/IndexOutOfBoundsException" l yX9_toggleTruth (aw yX9_toggleTruth cX9_toggleTruth 2 (some .boolean)) ({ frames := 7, cells := 1, slots := 6, locals := 102 }) D cI cZ [.ref qz, .int x] w0 w1) (hq : ∃ fs, w0[0]? = some (qz, .inr (8, fs))) (hw : w1.map (·.1) = w0.map (·.1)) : Ch l yL_asks (awh yL_asks cL_asks 5 (some .int) [(0, 120, 121, 67)]) ({ frames := 8, cells := 1, slots := 6, locals := 123 }) D cI cZ [.ref qz, .int 8, .int x, .int y] w0 w1 (-3000) 1 6 := by
  refine mk_h (y := yL_asks) (av := [.ref qz, .int 8, .int x, .int y]) (cc := cL_asks) (maxL := 5) (hh := [(0, 120, 121, 67)]) (by decide +kernel) (Nat.le_of_ble_eq_true rfl) ?_
  intro p e s m args below meth c A Q R hR hQ hx hb hr hml hAW hown hlk htab hN hT hNc hA hP hK hD hS ls hl
  have hl : lv_has ls 5 [(0, .ref qz), (1, .int 8), (2, .int x), (3, .int y)] := hl
  have hP : va_P D vwCl ([] ++ (w0 ++ [])) s.heap := by rw [List.append_nil]; exact hP
  have hD : va_D A ([] ++ (w0 ++ [])) := by rw [List.append_nil]; exact hD
  refine lv_iload_n hx hb dL_asks_0 rfl (lv_at hl 1 rfl) ?_
  refine lv_if_ne (tgt := 12) hx hb dL_asks_1 (by decide) (fun _ => ?_) (fun h9 => absurd h9 (by decide))
  refine lv_iload_n hx hb dL_asks_12 rfl (lv_at hl 1 rfl) ?_
  refine lv_iconst (v := 1) hx hb dL_asks_13 (by decide) ?_
  refine lv_icmp_ne (tgt := 25) hx hb dL_asks_14 (by decide) (fun _ => ?_) (fun h9 => absurd h9 (by decide))
  refine lv_iload_n hx hb dL_asks_25 rfl (lv_at hl 1 rfl) ?_
  refine lv_iconst (v := 2) hx hb dL_asks_26 (by decide) ?_
  refine lv_icmp_ne (tgt := 38) hx hb dL_asks_27 (by decide) (fun _ => ?_) (fun h9 => absurd h9 (by decide))
  refine lv_iload_n hx hb dL_asks_38 rfl (lv_at hl 1 rfl) ?_
  refine lv_iconst (v := 3) hx hb dL_asks_39 (by decide) ?_
  refine lv_icmp_ne (tgt := 51) hx hb dL_asks_40 (by decide) (fun _ => ?_) (fun h9 => absurd h9 (by decide))
  refine lv_iload_n hx hb dL_asks_51 rfl (lv_at hl 1 rfl) ?_
  refine lv_iconst (v := 4) hx hb dL_asks_52 (by decide) ?_
  refine lv_icmp_ne (tgt := 65) hx hb dL_asks_53 (by decide) (fun _ => ?_) (fun h9 => absurd h9 (by decide))
  refine lv_iload_n hx hb dL_asks_65 rfl (lv_at hl 1 rfl) ?_
  refine lv_iconst (v := 5) hx hb dL_asks_66 (by decide) ?_
  refine lv_icmp_ne (tgt := 79) hx hb dL_asks_67 (by decide) (fun _ => ?_) (fun h9 => absurd h9 (by decide))
  refine lv_iload_n hx hb dL_asks_79 rfl (lv_at hl 1 rfl) ?_
  refine lv_bipush (v := 6) hx hb dL_asks_80 (by decide) ?_
  refine lv_icmp_ne (tgt := 93) hx hb dL_asks_82 (by decide) (fun _ => ?_) (fun h9 => absurd h9 (by decide))
  refine lv_iload_n hx hb dL_asks_93 rfl (lv_at hl 1 rfl) ?_
  refine lv_bipush (v := 7) hx hb dL_asks_94 (by decide) ?_
  refine lv_icmp_ne (tgt := 107) hx hb dL_asks_96 (by decide) (fun _ => ?_) (fun h9 => absurd h9 (by decide))
  refine lv_aload_n hx hb dL_asks_107 rfl (lv_at hl 0 rfl) ?_
  refine lv_iload_n hx hb dL_asks_108 rfl (lv_at hl 2 rfl) ?_
  refine call_Rx (wa := []) (wb := []) (As := [.int x]) (rest := []) hx hb hml hown hAW hN hT hM (cwVAx 1 hAW q607 q608 q609 q22 q610 hd_X9_toggleTruth (by rw [hR]; exact Nat.le_of_ble_eq_true rfl) (by rw [hR]; exact Nat.le_of_ble_eq_true rfl) rfl rfl) hK hP hD hS hA hq hw rfl rfl rfl hl.1 rfl (lv_room (Nat.le_of_ble_eq_true rfl)) dL_asks_109 (by rw [hR]; exact Nat.le_of_ble_eq_true rfl) (by rw [hR]; exact Nat.le_of_ble_eq_true rfl) (fun ce q9 H locs hP hD hS h1 h2 h3 => ?_)
  have hP : va_P D vwCl w1 H := by rw [List.append_nil] at hP; exact hP
  refine vx_catch (own := RL) (name := "java/lang/IndexOutOfBoundsException") hown [] ⟨0, 120, 121, 67⟩ [] (by rw [htab]; rfl) (fun z hz => by cases hz) (by decide) (by decide) (hAW _ q464) (va_Nw.use rfl hT.2.2.2.2.2.2.2.2.2.1) h1 h2 h3 ?_
  show W p l e R s m args below meth c H locs _ _ Q (F0 m 121 ls [.ref q9])
  refine lv_astore (lv' := [(4, .ref q9), (0, .ref qz), (1, .int 8), (2, .int x), (3, .int y)]) hx hb dL_asks_121 hl (by decide) rfl (fun ls hl => ?_)
  refine lv_sipush (v := (-3000)) hx hb dL_asks_123 (by decide) ?_
  exact fin_h (v := (-3000)) hx hb hr hlk hP hS rfl rfl hQ dL_asks_126

set_option maxHeartbeats 1000000 in
set_option maxRecDepth 100000 in
theorem c_L_asks_8 (l : Launch) (hl0 : l.stackTraces = false) (D : va_G) (cI cZ : ClassId) (qz : Nat) (x y : Int32) (w0 w1 : va_W) (r : Bool) (hM : Ci l yX9_toggleTruth (aw yX9_toggleTruth cX9_toggleTruth 2 (some .boolean)) ({ frames := 1, cells := 0, slots := 0, locals := 21 }) D cI cZ [.ref qz, .int x] w0 w1 (zb r)) (hq : ∃ fs, w0[0]? = some (qz, .inr (8, fs))) (hw : w1.map (·.1) = w0.map (·.1)) : Ch l yL_asks (awh yL_asks cL_asks 5 (some .int) [(0, 120, 121, 67)]) ({ frames := 2, cells := 0, slots := 0, locals := 42 }) D cI cZ [.ref qz, .int 8, .int x, .int y] w0 w1 (zb r) 0 0 := by
  refine mk_h (y := yL_asks) (av := [.ref qz, .int 8, .int x, .int y]) (cc := cL_asks) (maxL := 5) (hh := [(0, 120, 121, 67)]) (by decide +kernel) (Nat.le_of_ble_eq_true rfl) ?_
  intro p e s m args below meth c A Q R hR hQ hx hb hr hml hAW hown hlk htab hN hT hNc hA hP hK hD hS ls hl
  have hl : lv_has ls 5 [(0, .ref qz), (1, .int 8), (2, .int x), (3, .int y)] := hl
  have hP : va_P D vwCl ([] ++ (w0 ++ [])) s.heap := by rw [List.append_nil]; exact hP
  have hD : va_D A ([] ++ (w0 ++ [])) := by rw [List.append_nil]; exact hD
  refine lv_iload_n hx hb dL_asks_0 rfl (lv_at hl 1 rfl) ?_
  refine lv_if_ne (tgt := 12) hx hb dL_asks_1 (by decide) (fun _ => ?_) (fun h9 => absurd h9 (by decide))
  refine lv_iload_n hx hb dL_asks_12 rfl (lv_at hl 1 rfl) ?_
  refine lv_iconst (v := 1) hx hb dL_asks_13 (by decide) ?_
  refine lv_icmp_ne (tgt := 25) hx hb dL_asks_14 (by decide) (fun _ => ?_) (fun h9 => absurd h9 (by decide))
  refine lv_iload_n hx hb dL_asks_25 rfl (lv_at hl 1 rfl) ?_
  refine lv_iconst (v := 2) hx hb dL_asks_26 (by decide) ?_
  refine lv_icmp_ne (tgt := 38) hx hb dL_asks_27 (by decide) (fun _ => ?_) (fun h9 => absurd h9 (by decide))
  refine lv_iload_n hx hb dL_asks_38 rfl (lv_at hl 1 rfl) ?_
  refine lv_iconst (v := 3) hx hb dL_asks_39 (by decide) ?_
  refine lv_icmp_ne (tgt := 51) hx hb dL_asks_40 (by decide) (fun _ => ?_) (fun h9 => absurd h9 (by decide))
  refine lv_iload_n hx hb dL_asks_51 rfl (lv_at hl 1 rfl) ?_
  refine lv_iconst (v := 4) hx hb dL_asks_52 (by decide) ?_
  refine lv_icmp_ne (tgt := 65) hx hb dL_asks_53 (by decide) (fun _ => ?_) (fun h9 => absurd h9 (by decide))
  refine lv_iload_n hx hb dL_asks_65 rfl (lv_at hl 1 rfl) ?_
  refine lv_iconst (v := 5) hx hb dL_asks_66 (by decide) ?_
  refine lv_icmp_ne (tgt := 79) hx hb dL_asks_67 (by decide) (fun _ => ?_) (fun h9 => absurd h9 (by decide))
  refine lv_iload_n hx hb dL_asks_79 rfl (lv_at hl 1 rfl) ?_
  refine lv_bipush (v := 6) hx hb dL_asks_80 (by decide) ?_
  refine lv_icmp_ne (tgt := 93) hx hb dL_asks_82 (by decide) (fun _ => ?_) (fun h9 => absurd h9 (by decide))
  refine lv_iload_n hx hb dL_asks_93 rfl (lv_at hl 1 rfl) ?_
  refine lv_bipush (v := 7) hx hb dL_asks_94 (by decide) ?_
  refine lv_icmp_ne (tgt := 107) hx hb dL_asks_96 (by decide) (fun _ => ?_) (fun h9 => absurd h9 (by decide))
  refine lv_aload_n hx hb dL_asks_107 rfl (lv_at hl 0 rfl) ?_
  refine lv_iload_n hx hb dL_asks_108 rfl (lv_at hl 2 rfl) ?_
  refine call_Ri (wa := []) (wb := []) (As := [.int x]) (rest := []) hx hb hml hown hAW hN hM (cwVAx 1 hAW q607 q608 q609 q22 q610 hd_X9_toggleTruth (by rw [hR]; exact Nat.le_of_ble_eq_true rfl) (by rw [hR]; exact Nat.le_of_ble_eq_true rfl) rfl rfl) hK hP hD hS hA hq hw rfl rfl rfl hl.1 rfl (lv_room (Nat.le_of_ble_eq_true rfl)) dL_asks_109 (Nat.zero_le _) (Nat.zero_le _) (fun H locs hP hD hS => ?_)
  have hP : va_P D vwCl w1 H := by rw [List.append_nil] at hP; exact hP
  refine z_if_eq (x := r) (tgt := 119) hx hb dL_asks_112 (by decide) (fun c7 => ?_) (fun c7 => ?_)
  · subst c7
    refine lv_iconst (v := 0) hx hb dL_asks_119 (by decide) ?_
    exact fin_h (v := 0) hx hb hr hlk hP hS rfl rfl hQ dL_asks_120
  · subst c7
    refine lv_iconst (v := 1) hx hb dL_asks_115 (by decide) ?_
    refine lv_goto (tgt := 120) hx hb dL_asks_116 (by decide) ?_
    exact fin_h (v := 1) hx hb hr hlk hP hS rfl rfl hQ dL_asks_120

set_option maxHeartbeats 1000000 in
set_option maxRecDepth 100000 in
theorem c_L_leastCost_ok (l : Launch) (hl0 : l.stackTraces = false) (D : va_G) (cI cZ : ClassId) (qz : Nat) (x : Int32) (w0 w1 : va_W) (r : Int32) (hM : Ci l yX9_leastCost (aw yX9_leastCost cX9_leastCost 2 (some .int)) ({ frames := 5, cells := 0, slots := 0, locals := 114 }) D cI cZ [.ref qz, .int x] w0 w1 r) (hq : ∃ fs, w0[0]? = some (qz, .inr (8, fs))) (hw : w1.map (·.1) = w0.map (·.1)) : Ch l yL_leastCost (awh yL_leastCost cL_leastCost 3 (some .int) [(0, 5, 6, 27), (0, 5, 10, 36)]) ({ frames := 6, cells := 0, slots := 0, locals := 135 }) D cI cZ [.ref qz, .int x] w0 w1 r 0 0 := by
  refine mk_h (y := yL_leastCost) (av := [.ref qz, .int x]) (cc := cL_leastCost) (maxL := 3) (hh := [(0, 5, 6, 27), (0, 5, 10, 36)]) (by decide +kernel) (Nat.le_of_ble_eq_true rfl) ?_
  intro p e s m args below meth c A Q R hR hQ hx hb hr hml hAW hown hlk htab hN hT hNc hA hP hK hD hS ls hl
  have hl : lv_has ls 3 [(0, .ref qz), (1, .int x)] := hl
  have hP : va_P D vwCl ([] ++ (w0 ++ [])) s.heap := by rw [List.append_nil]; exact hP
  have hD : va_D A ([] ++ (w0 ++ [])) := by rw [List.append_nil]; exact hD
  refine lv_aload_n hx hb dL_leastCost_0 rfl (lv_at hl 0 rfl) ?_
  refine lv_iload_n hx hb dL_leastCost_1 rfl (lv_at hl 1 rfl) ?_
  refine call_Ri (wa := []) (wb := []) (As := [.int x]) (rest := []) hx hb hml hown hAW hN hM (cwVAx 1 hAW q614 q615 q616 q22 q617 hd_X9_leastCost (by rw [hR]; exact Nat.le_of_ble_eq_true rfl) (by rw [hR]; exact Nat.le_of_ble_eq_true rfl) rfl rfl) hK hP hD hS hA hq hw rfl rfl rfl hl.1 rfl (lv_room (Nat.le_of_ble_eq_true rfl)) dL_leastCost_2 (Nat.zero_le _) (Nat.zero_le _) (fun H locs hP hD hS => ?_)
  have hP : va_P D vwCl w1 H := by rw [List.append_nil] at hP; exact hP
  exact fin_h (v := r) hx hb hr hlk hP hS rfl rfl hQ dL_leastCost_5

set_option maxHeartbeats 1000000 in
set_option maxRecDepth 100000 in
theorem c_L_leastCost_x1 (l : Launch) (hl0 : l.stackTraces = false) (D : va_G) (cI cZ : ClassId) (qz : Nat) (x : Int32) (w0 w1 : va_W) (hM : Cx "java/lang/IllegalArgumentException" l yX9_leastCost (aw yX9_leastCost cX9_leastCost 2 (some .int)) ({ frames := 7, cells := 1, slots := 6, locals := 102 }) D cI cZ [.ref qz, .int x] w0 w1) (hq : ∃ fs, w0[0]? = some (qz, .inr (8, fs))) (hw : w1.map (·.1) = w0.map (·.1)) : Ch l yL_leastCost (awh yL_leastCost cL_leastCost 3 (some .int) [(0, 5, 6, 27), (0, 5, 10, 36)]) ({ frames := 8, cells := 1, slots := 6, locals := 123 }) D cI cZ [.ref qz, .int x] w0 w1 (-20) 1 6 := by
  refine mk_h (y := yL_leastCost) (av := [.ref qz, .int x]) (cc := cL_leastCost) (maxL := 3) (hh := [(0, 5, 6, 27), (0, 5, 10, 36)]) (by decide +kernel) (Nat.le_of_ble_eq_true rfl) ?_
  intro p e s m args below meth c A Q R hR hQ hx hb hr hml hAW hown hlk htab hN hT hNc hA hP hK hD hS ls hl
  have hl : lv_has ls 3 [(0, .ref qz), (1, .int x)] := hl
  have hP : va_P D vwCl ([] ++ (w0 ++ [])) s.heap := by rw [List.append_nil]; exact hP
  have hD : va_D A ([] ++ (w0 ++ [])) := by rw [List.append_nil]; exact hD
  refine lv_aload_n hx hb dL_leastCost_0 rfl (lv_at hl 0 rfl) ?_
  refine lv_iload_n hx hb dL_leastCost_1 rfl (lv_at hl 1 rfl) ?_
  refine call_Rx (wa := []) (wb := []) (As := [.int x]) (rest := []) hx hb hml hown hAW hN hT hM (cwVAx 1 hAW q614 q615 q616 q22 q617 hd_X9_leastCost (by rw [hR]; exact Nat.le_of_ble_eq_true rfl) (by rw [hR]; exact Nat.le_of_ble_eq_true rfl) rfl rfl) hK hP hD hS hA hq hw rfl rfl rfl hl.1 rfl (lv_room (Nat.le_of_ble_eq_true rfl)) dL_leastCost_2 (by rw [hR]; exact Nat.le_of_ble_eq_true rfl) (by rw [hR]; exact Nat.le_of_ble_eq_true rfl) (fun ce q9 H locs hP hD hS h1 h2 h3 => ?_)
  have hP : va_P D vwCl w1 H := by rw [List.append_nil] at hP; exact hP
  refine vx_catch (own := RL) (name := "java/lang/IllegalArgumentException") hown [] ⟨0, 5, 6, 27⟩ [⟨0, 5, 10, 36⟩] (by rw [htab]; rfl) (fun z hz => by cases hz) (by decide) (by decide) (hAW _ q291) (va_Nw.use rfl hT.2.2.2.2.2.2.2.2.1) h1 h2 h3 ?_
  show W p l e R s m args below meth c H locs _ _ Q (F0 m 6 ls [.ref q9])
  refine lv_astore_n (lv' := [(2, .ref q9), (0, .ref qz), (1, .int x)]) hx hb dL_leastCost_6 rfl hl (by decide) rfl (fun ls hl => ?_)
  refine lv_bipush (v := (-20)) hx hb dL_leastCost_7 (by decide) ?_
  exact fin_h (v := (-20)) hx hb hr hlk hP hS rfl rfl hQ dL_leastCost_9

set_option maxHeartbeats 1000000 in
set_option maxRecDepth 100000 in
theorem c_L_leastCost_x2 (l : Launch) (hl0 : l.stackTraces = false) (D : va_G) (cI cZ : ClassId) (qz : Nat) (x : Int32) (w0 w1 : va_W) (hM : Cx "java/lang/IllegalStateException" l yX9_leastCost (aw yX9_leastCost cX9_leastCost 2 (some .int)) ({ frames := 7, cells := 1, slots := 6, locals := 102 }) D cI cZ [.ref qz, .int x] w0 w1) (hq : ∃ fs, w0[0]? = some (qz, .inr (8, fs))) (hw : w1.map (·.1) = w0.map (·.1)) : Ch l yL_leastCost (awh yL_leastCost cL_leastCost 3 (some .int) [(0, 5, 6, 27), (0, 5, 10, 36)]) ({ frames := 8, cells := 1, slots := 6, locals := 123 }) D cI cZ [.ref qz, .int x] w0 w1 (-10) 1 6 := by
  refine mk_h (y := yL_leastCost) (av := [.ref qz, .int x]) (cc := cL_leastCost) (maxL := 3) (hh := [(0, 5, 6, 27), (0, 5, 10, 36)]) (by decide +kernel) (Nat.le_of_ble_eq_true rfl) ?_
  intro p e s m args below meth c A Q R hR hQ hx hb hr hml hAW hown hlk htab hN hT hNc hA hP hK hD hS ls hl
  have hl : lv_has ls 3 [(0, .ref qz), (1, .int x)] := hl
  have hP : va_P D vwCl ([] ++ (w0 ++ [])) s.heap := by rw [List.append_nil]; exact hP
  have hD : va_D A ([] ++ (w0 ++ [])) := by rw [List.append_nil]; exact hD
  refine lv_aload_n hx hb dL_leastCost_0 rfl (lv_at hl 0 rfl) ?_
  refine lv_iload_n hx hb dL_leastCost_1 rfl (lv_at hl 1 rfl) ?_
  refine call_Rx (wa := []) (wb := []) (As := [.int x]) (rest := []) hx hb hml hown hAW hN hT hM (cwVAx 1 hAW q614 q615 q616 q22 q617 hd_X9_leastCost (by rw [hR]; exact Nat.le_of_ble_eq_true rfl) (by rw [hR]; exact Nat.le_of_ble_eq_true rfl) rfl rfl) hK hP hD hS hA hq hw rfl rfl rfl hl.1 rfl (lv_room (Nat.le_of_ble_eq_true rfl)) dL_leastCost_2 (by rw [hR]; exact Nat.le_of_ble_eq_true rfl) (by rw [hR]; exact Nat.le_of_ble_eq_true rfl) (fun ce q9 H locs hP hD hS h1 h2 h3 => ?_)
  have hP : va_P D vwCl w1 H := by rw [List.append_nil] at hP; exact hP
  refine vx_catch (own := RL) (name := "java/lang/IllegalStateException") hown [⟨0, 5, 6, 27⟩] ⟨0, 5, 10, 36⟩ [] (by rw [htab]; rfl) (fun z hz => by rcases List.mem_singleton.mp hz with rfl; exact Or.inr ⟨by decide, "java/lang/IllegalArgumentException", hAW _ q291, hNc⟩) (by decide) (by decide) (hAW _ q394) (va_Nw.use rfl hT.2.2.2.2.2.2.2.2.2.2) h1 h2 h3 ?_
  show W p l e R s m args below meth c H locs _ _ Q (F0 m 10 ls [.ref q9])
  refine lv_astore_n (lv' := [(2, .ref q9), (0, .ref qz), (1, .int x)]) hx hb dL_leastCost_10 rfl hl (by decide) rfl (fun ls hl => ?_)
  refine lv_bipush (v := (-10)) hx hb dL_leastCost_11 (by decide) ?_
  exact fin_h (v := (-10)) hx hb hr hlk hP hS rfl rfl hQ dL_leastCost_13

set_option maxHeartbeats 1000000 in
set_option maxRecDepth 100000 in
theorem c_L_matched_0 (l : Launch) (hl0 : l.stackTraces = false) (D : va_G) (cI cZ : ClassId) (qz : Nat) (x y : Int32) (w0 w1 : va_W) (r : Int32) (hM : Ci l yX9_matched (aw yX9_matched cX9_matched 3 (some .int)) ({ frames := 4, cells := 0, slots := 0, locals := 83 }) D cI cZ [.ref qz, .int x, .int y] w0 w1 r) (hq : ∃ fs, w0[0]? = some (qz, .inr (8, fs))) (hw : w1.map (·.1) = w0.map (·.1)) : Ch l yL_matched (awh yL_matched cL_matched 5 (some .int) [(0, 19, 20, 27)]) ({ frames := 5, cells := 0, slots := 0, locals := 105 }) D cI cZ [.ref qz, .int 0, .int x, .int y] w0 w1 r 0 0 := by
  refine mk_h (y := yL_matched) (av := [.ref qz, .int 0, .int x, .int y]) (cc := cL_matched) (maxL := 5) (hh := [(0, 19, 20, 27)]) (by decide +kernel) (Nat.le_of_ble_eq_true rfl) ?_
  intro p e s m args below meth c A Q R hR hQ hx hb hr hml hAW hown hlk htab hN hT hNc hA hP hK hD hS ls hl
  have hl : lv_has ls 5 [(0, .ref qz), (1, .int 0), (2, .int x), (3, .int y)] := hl
  have hP : va_P D vwCl ([] ++ (w0 ++ [])) s.heap := by rw [List.append_nil]; exact hP
  have hD : va_D A ([] ++ (w0 ++ [])) := by rw [List.append_nil]; exact hD
  refine lv_iload_n hx hb dL_matched_0 rfl (lv_at hl 1 rfl) ?_
  refine lv_if_eq (tgt := 13) hx hb dL_matched_1 (by decide) (fun _ => ?_) (fun h9 => absurd h9 (by decide))
  refine lv_aload_n hx hb dL_matched_13 rfl (lv_at hl 0 rfl) ?_
  refine lv_iload_n hx hb dL_matched_14 rfl (lv_at hl 2 rfl) ?_
  refine lv_iload_n hx hb dL_matched_15 rfl (lv_at hl 3 rfl) ?_
  refine call_Ri (wa := []) (wb := []) (As := [.int x, .int y]) (rest := []) hx hb hml hown hAW hN hM (cwVAx 2 hAW q671 q672 q673 q22 q674 hd_X9_matched (by rw [hR]; exact Nat.le_of_ble_eq_true rfl) (by rw [hR]; exact Nat.le_of_ble_eq_true rfl) rfl rfl) hK hP hD hS hA hq hw rfl rfl rfl hl.1 rfl (lv_room (Nat.le_of_ble_eq_true rfl)) dL_matched_16 (Nat.zero_le _) (Nat.zero_le _) (fun H locs hP hD hS => ?_)
  have hP : va_P D vwCl w1 H := by rw [List.append_nil] at hP; exact hP
  exact fin_h (v := r) hx hb hr hlk hP hS rfl rfl hQ dL_matched_19

set_option maxHeartbeats 1000000 in
set_option maxRecDepth 100000 in
theorem c_L_matched_0x (l : Launch) (hl0 : l.stackTraces = false) (D : va_G) (cI cZ : ClassId) (qz : Nat) (x y : Int32) (w0 w1 : va_W) (hM : Cx "java/lang/IllegalArgumentException" l yX9_matched (aw yX9_matched cX9_matched 3 (some .int)) ({ frames := 8, cells := 1, slots := 6, locals := 124 }) D cI cZ [.ref qz, .int x, .int y] w0 w1) (hq : ∃ fs, w0[0]? = some (qz, .inr (8, fs))) (hw : w1.map (·.1) = w0.map (·.1)) : Ch l yL_matched (awh yL_matched cL_matched 5 (some .int) [(0, 19, 20, 27)]) ({ frames := 9, cells := 1, slots := 6, locals := 146 }) D cI cZ [.ref qz, .int 0, .int x, .int y] w0 w1 (-20) 1 6 := by
  refine mk_h (y := yL_matched) (av := [.ref qz, .int 0, .int x, .int y]) (cc := cL_matched) (maxL := 5) (hh := [(0, 19, 20, 27)]) (by decide +kernel) (Nat.le_of_ble_eq_true rfl) ?_
  intro p e s m args below meth c A Q R hR hQ hx hb hr hml hAW hown hlk htab hN hT hNc hA hP hK hD hS ls hl
  have hl : lv_has ls 5 [(0, .ref qz), (1, .int 0), (2, .int x), (3, .int y)] := hl
  have hP : va_P D vwCl ([] ++ (w0 ++ [])) s.heap := by rw [List.append_nil]; exact hP
  have hD : va_D A ([] ++ (w0 ++ [])) := by rw [List.append_nil]; exact hD
  refine lv_iload_n hx hb dL_matched_0 rfl (lv_at hl 1 rfl) ?_
  refine lv_if_eq (tgt := 13) hx hb dL_matched_1 (by decide) (fun _ => ?_) (fun h9 => absurd h9 (by decide))
  refine lv_aload_n hx hb dL_matched_13 rfl (lv_at hl 0 rfl) ?_
  refine lv_iload_n hx hb dL_matched_14 rfl (lv_at hl 2 rfl) ?_
  refine lv_iload_n hx hb dL_matched_15 rfl (lv_at hl 3 rfl) ?_
  refine call_Rx (wa := []) (wb := []) (As := [.int x, .int y]) (rest := []) hx hb hml hown hAW hN hT hM (cwVAx 2 hAW q671 q672 q673 q22 q674 hd_X9_matched (by rw [hR]; exact Nat.le_of_ble_eq_true rfl) (by rw [hR]; exact Nat.le_of_ble_eq_true rfl) rfl rfl) hK hP hD hS hA hq hw rfl rfl rfl hl.1 rfl (lv_room (Nat.le_of_ble_eq_true rfl)) dL_matched_16 (by rw [hR]; exact Nat.le_of_ble_eq_true rfl) (by rw [hR]; exact Nat.le_of_ble_eq_true rfl) (fun ce q9 H locs hP hD hS h1 h2 h3 => ?_)
  have hP : va_P D vwCl w1 H := by rw [List.append_nil] at hP; exact hP
  refine vx_catch (own := RL) (name := "java/lang/IllegalArgumentException") hown [] ⟨0, 19, 20, 27⟩ [] (by rw [htab]; rfl) (fun z hz => by cases hz) (by decide) (by decide) (hAW _ q291) (va_Nw.use rfl hT.2.2.2.2.2.2.2.2.1) h1 h2 h3 ?_
  show W p l e R s m args below meth c H locs _ _ Q (F0 m 20 ls [.ref q9])
  refine lv_astore (lv' := [(4, .ref q9), (0, .ref qz), (1, .int 0), (2, .int x), (3, .int y)]) hx hb dL_matched_20 hl (by decide) rfl (fun ls hl => ?_)
  refine lv_bipush (v := (-20)) hx hb dL_matched_22 (by decide) ?_
  exact fin_h (v := (-20)) hx hb hr hlk hP hS rfl rfl hQ dL_matched_24

set_option maxHeartbeats 1000000 in
set_option maxRecDepth 100000 in
theorem c_L_matched_1 (l : Launch) (hl0 : l.stackTraces = false) (D : va_G) (cI cZ : ClassId) (qz : Nat) (x y : Int32) (w0 w1 : va_W) (r : Int32) (hM : Ci l yX9_falseAlarms (aw yX9_falseAlarms cX9_falseAlarms 3 (some .int)) ({ frames := 4, cells := 0, slots := 0, locals := 83 }) D cI cZ [.ref qz, .int x, .int y] w0 w1 r) (hq : ∃ fs, w0[0]? = some (qz, .inr (8, fs))) (hw : w1.map (·.1) = w0.map (·.1)) : Ch l yL_matched (awh yL_matched cL_matched 5 (some .int) [(0, 19, 20, 27)]) ({ frames := 5, cells := 0, slots := 0, locals := 105 }) D cI cZ [.ref qz, .int 1, .int x, .int y] w0 w1 r 0 0 := by
  refine mk_h (y := yL_matched) (av := [.ref qz, .int 1, .int x, .int y]) (cc := cL_matched) (maxL := 5) (hh := [(0, 19, 20, 27)]) (by decide +kernel) (Nat.le_of_ble_eq_true rfl) ?_
  intro p e s m args below meth c A Q R hR hQ hx hb hr hml hAW hown hlk htab hN hT hNc hA hP hK hD hS ls hl
  have hl : lv_has ls 5 [(0, .ref qz), (1, .int 1), (2, .int x), (3, .int y)] := hl
  have hP : va_P D vwCl ([] ++ (w0 ++ [])) s.heap := by rw [List.append_nil]; exact hP
  have hD : va_D A ([] ++ (w0 ++ [])) := by rw [List.append_nil]; exact hD
  refine lv_iload_n hx hb dL_matched_0 rfl (lv_at hl 1 rfl) ?_
  refine lv_if_eq (tgt := 13) hx hb dL_matched_1 (by decide) (fun h9 => absurd h9 (by decide)) (fun _ => ?_)
  refine lv_aload_n hx hb dL_matched_4 rfl (lv_at hl 0 rfl) ?_
  refine lv_iload_n hx hb dL_matched_5 rfl (lv_at hl 2 rfl) ?_
  refine lv_iload_n hx hb dL_matched_6 rfl (lv_at hl 3 rfl) ?_
  refine call_Ri (wa := []) (wb := []) (As := [.int x, .int y]) (rest := []) hx hb hml hown hAW hN hM (cwVAx 2 hAW q650 q651 q652 q22 q653 hd_X9_falseAlarms (by rw [hR]; exact Nat.le_of_ble_eq_true rfl) (by rw [hR]; exact Nat.le_of_ble_eq_true rfl) rfl rfl) hK hP hD hS hA hq hw rfl rfl rfl hl.1 rfl (lv_room (Nat.le_of_ble_eq_true rfl)) dL_matched_7 (Nat.zero_le _) (Nat.zero_le _) (fun H locs hP hD hS => ?_)
  have hP : va_P D vwCl w1 H := by rw [List.append_nil] at hP; exact hP
  refine lv_goto (tgt := 19) hx hb dL_matched_10 (by decide) ?_
  exact fin_h (v := r) hx hb hr hlk hP hS rfl rfl hQ dL_matched_19

set_option maxHeartbeats 1000000 in
set_option maxRecDepth 100000 in
theorem c_L_matched_1x (l : Launch) (hl0 : l.stackTraces = false) (D : va_G) (cI cZ : ClassId) (qz : Nat) (x y : Int32) (w0 w1 : va_W) (hM : Cx "java/lang/IllegalArgumentException" l yX9_falseAlarms (aw yX9_falseAlarms cX9_falseAlarms 3 (some .int)) ({ frames := 8, cells := 1, slots := 6, locals := 124 }) D cI cZ [.ref qz, .int x, .int y] w0 w1) (hq : ∃ fs, w0[0]? = some (qz, .inr (8, fs))) (hw : w1.map (·.1) = w0.map (·.1)) : Ch l yL_matched (awh yL_matched cL_matched 5 (some .int) [(0, 19, 20, 27)]) ({ frames := 9, cells := 1, slots := 6, locals := 146 }) D cI cZ [.ref qz, .int 1, .int x, .int y] w0 w1 (-20) 1 6 := by
  refine mk_h (y := yL_matched) (av := [.ref qz, .int 1, .int x, .int y]) (cc := cL_matched) (maxL := 5) (hh := [(0, 19, 20, 27)]) (by decide +kernel) (Nat.le_of_ble_eq_true rfl) ?_
  intro p e s m args below meth c A Q R hR hQ hx hb hr hml hAW hown hlk htab hN hT hNc hA hP hK hD hS ls hl
  have hl : lv_has ls 5 [(0, .ref qz), (1, .int 1), (2, .int x), (3, .int y)] := hl
  have hP : va_P D vwCl ([] ++ (w0 ++ [])) s.heap := by rw [List.append_nil]; exact hP
  have hD : va_D A ([] ++ (w0 ++ [])) := by rw [List.append_nil]; exact hD
  refine lv_iload_n hx hb dL_matched_0 rfl (lv_at hl 1 rfl) ?_
  refine lv_if_eq (tgt := 13) hx hb dL_matched_1 (by decide) (fun h9 => absurd h9 (by decide)) (fun _ => ?_)
  refine lv_aload_n hx hb dL_matched_4 rfl (lv_at hl 0 rfl) ?_
  refine lv_iload_n hx hb dL_matched_5 rfl (lv_at hl 2 rfl) ?_
  refine lv_iload_n hx hb dL_matched_6 rfl (lv_at hl 3 rfl) ?_
  refine call_Rx (wa := []) (wb := []) (As := [.int x, .int y]) (rest := []) hx hb hml hown hAW hN hT hM (cwVAx 2 hAW q650 q651 q652 q22 q653 hd_X9_falseAlarms (by rw [hR]; exact Nat.le_of_ble_eq_true rfl) (by rw [hR]; exact Nat.le_of_ble_eq_true rfl) rfl rfl) hK hP hD hS hA hq hw rfl rfl rfl hl.1 rfl (lv_room (Nat.le_of_ble_eq_true rfl)) dL_matched_7 (by rw [hR]; exact Nat.le_of_ble_eq_true rfl) (by rw [hR]; exact Nat.le_of_ble_eq_true rfl) (fun ce q9 H locs hP hD hS h1 h2 h3 => ?_)
  have hP : va_P D vwCl w1 H := by rw [List.append_nil] at hP; exact hP
  refine vx_catch (own := RL) (name := "java/lang/IllegalArgumentException") hown [] ⟨0, 19, 20, 27⟩ [] (by rw [htab]; rfl) (fun z hz => by cases hz) (by decide) (by decide) (hAW _ q291) (va_Nw.use rfl hT.2.2.2.2.2.2.2.2.1) h1 h2 h3 ?_
  show W p l e R s m args below meth c H locs _ _ Q (F0 m 20 ls [.ref q9])
  refine lv_astore (lv' := [(4, .ref q9), (0, .ref qz), (1, .int 1), (2, .int x), (3, .int y)]) hx hb dL_matched_20 hl (by decide) rfl (fun ls hl => ?_)
  refine lv_bipush (v := (-20)) hx hb dL_matched_22 (by decide) ?_
  exact fin_h (v := (-20)) hx hb hr hlk hP hS rfl rfl hQ dL_matched_24

set_option maxHeartbeats 1000000 in
set_option maxRecDepth 100000 in
theorem c_L_delay_ok (l : Launch) (hl0 : l.stackTraces = false) (D : va_G) (cI cZ : ClassId) (qz : Nat) (x y : Int32) (w0 w1 : va_W) (r : UInt32) (hM : Cf l yX9_averageDelay (aw yX9_averageDelay cX9_averageDelay 3 (some .float)) ({ frames := 4, cells := 0, slots := 0, locals := 83 }) D cI cZ [.ref qz, .int x, .int y] w0 w1 r) (hq : ∃ fs, w0[0]? = some (qz, .inr (8, fs))) (hw : w1.map (·.1) = w0.map (·.1)) : Chf l yL_delay (awh yL_delay cL_delay 4 (some .float) [(0, 6, 7, 27), (0, 6, 11, 36)]) ({ frames := 5, cells := 0, slots := 0, locals := 105 }) D cI cZ [.ref qz, .int x, .int y] w0 w1 r 0 0 := by
  refine mk_hf (y := yL_delay) (av := [.ref qz, .int x, .int y]) (cc := cL_delay) (maxL := 4) (hh := [(0, 6, 7, 27), (0, 6, 11, 36)]) (by decide +kernel) (Nat.le_of_ble_eq_true rfl) ?_
  intro p e s m args below meth c A Q R hR hQ hx hb hr hml hAW hown hlk htab hN hT hNc hA hP hK hD hS ls hl
  have hl : lv_has ls 4 [(0, .ref qz), (1, .int x), (2, .int y)] := hl
  have hP : va_P D vwCl ([] ++ (w0 ++ [])) s.heap := by rw [List.append_nil]; exact hP
  have hD : va_D A ([] ++ (w0 ++ [])) := by rw [List.append_nil]; exact hD
  refine lv_aload_n hx hb dL_delay_0 rfl (lv_at hl 0 rfl) ?_
  refine lv_iload_n hx hb dL_delay_1 rfl (lv_at hl 1 rfl) ?_
  refine lv_iload_n hx hb dL_delay_2 rfl (lv_at hl 2 rfl) ?_
  refine call_Rf (wa := []) (wb := []) (As := [.int x, .int y]) (rest := []) hx hb hml hown hAW hN hM (cwVAx 2 hAW q678 q679 q680 q22 q681 hd_X9_averageDelay (by rw [hR]; exact Nat.le_of_ble_eq_true rfl) (by rw [hR]; exact Nat.le_of_ble_eq_true rfl) rfl rfl) hK hP hD hS hA hq hw rfl rfl rfl hl.1 rfl (lv_room (Nat.le_of_ble_eq_true rfl)) dL_delay_3 (Nat.zero_le _) (Nat.zero_le _) (fun H locs hP hD hS => ?_)
  have hP : va_P D vwCl w1 H := by rw [List.append_nil] at hP; exact hP
  exact fin_hf (v := r) hx hb hr hlk hP hS rfl rfl hQ dL_delay_6

set_option maxHeartbeats 1000000 in
set_option maxRecDepth 100000 in
theorem c_L_delay_x1 (l : Launch) (hl0 : l.stackTraces = false) (D : va_G) (cI cZ : ClassId) (qz : Nat) (x y : Int32) (w0 w1 : va_W) (hM : Cx "java/lang/IllegalArgumentException" l yX9_averageDelay (aw yX9_averageDelay cX9_averageDelay 3 (some .float)) ({ frames := 8, cells := 1, slots := 6, locals := 124 }) D cI cZ [.ref qz, .int x, .int y] w0 w1) (hq : ∃ fs, w0[0]? = some (qz, .inr (8, fs))) (hw : w1.map (·.1) = w0.map (·.1)) : Chf l yL_delay (awh yL_delay cL_delay 4 (some .float) [(0, 6, 7, 27), (0, 6, 11, 36)]) ({ frames := 9, cells := 1, slots := 6, locals := 146 }) D cI cZ [.ref qz, .int x, .int y] w0 w1 3248488448 1 6 := by
  refine mk_hf (y := yL_delay) (av := [.ref qz, .int x, .int y]) (cc := cL_delay) (maxL := 4) (hh := [(0, 6, 7, 27), (0, 6, 11, 36)]) (by decide +kernel) (Nat.le_of_ble_eq_true rfl) ?_
  intro p e s m args below meth c A Q R hR hQ hx hb hr hml hAW hown hlk htab hN hT hNc hA hP hK hD hS ls hl
  have hl : lv_has ls 4 [(0, .ref qz), (1, .int x), (2, .int y)] := hl
  have hP : va_P D vwCl ([] ++ (w0 ++ [])) s.heap := by rw [List.append_nil]; exact hP
  have hD : va_D A ([] ++ (w0 ++ [])) := by rw [List.append_nil]; exact hD
  refine lv_aload_n hx hb dL_delay_0 rfl (lv_at hl 0 rfl) ?_
  refine lv_iload_n hx hb dL_delay_1 rfl (lv_at hl 1 rfl) ?_
  refine lv_iload_n hx hb dL_delay_2 rfl (lv_at hl 2 rfl) ?_
  refine call_Rx (wa := []) (wb := []) (As := [.int x, .int y]) (rest := []) hx hb hml hown hAW hN hT hM (cwVAx 2 hAW q678 q679 q680 q22 q681 hd_X9_averageDelay (by rw [hR]; exact Nat.le_of_ble_eq_true rfl) (by rw [hR]; exact Nat.le_of_ble_eq_true rfl) rfl rfl) hK hP hD hS hA hq hw rfl rfl rfl hl.1 rfl (lv_room (Nat.le_of_ble_eq_true rfl)) dL_delay_3 (by rw [hR]; exact Nat.le_of_ble_eq_true rfl) (by rw [hR]; exact Nat.le_of_ble_eq_true rfl) (fun ce q9 H locs hP hD hS h1 h2 h3 => ?_)
  have hP : va_P D vwCl w1 H := by rw [List.append_nil] at hP; exact hP
  refine vx_catch (own := RL) (name := "java/lang/IllegalArgumentException") hown [] ⟨0, 6, 7, 27⟩ [⟨0, 6, 11, 36⟩] (by rw [htab]; rfl) (fun z hz => by cases hz) (by decide) (by decide) (hAW _ q291) (va_Nw.use rfl hT.2.2.2.2.2.2.2.2.1) h1 h2 h3 ?_
  show W p l e R s m args below meth c H locs _ _ Q (F0 m 7 ls [.ref q9])
  refine lv_astore_n (lv' := [(3, .ref q9), (0, .ref qz), (1, .int x), (2, .int y)]) hx hb dL_delay_7 rfl hl (by decide) rfl (fun ls hl => ?_)
  refine lv_ldcf (v := 3248488448) hx hb hown (hAW _ qf82) dL_delay_8 ?_
  exact fin_hf (v := 3248488448) hx hb hr hlk hP hS rfl rfl hQ dL_delay_10

set_option maxHeartbeats 1000000 in
set_option maxRecDepth 100000 in
theorem c_L_delay_x2 (l : Launch) (hl0 : l.stackTraces = false) (D : va_G) (cI cZ : ClassId) (qz : Nat) (x y : Int32) (w0 w1 : va_W) (hM : Cx "java/lang/IllegalStateException" l yX9_averageDelay (aw yX9_averageDelay cX9_averageDelay 3 (some .float)) ({ frames := 7, cells := 1, slots := 6, locals := 102 }) D cI cZ [.ref qz, .int x, .int y] w0 w1) (hq : ∃ fs, w0[0]? = some (qz, .inr (8, fs))) (hw : w1.map (·.1) = w0.map (·.1)) : Chf l yL_delay (awh yL_delay cL_delay 4 (some .float) [(0, 6, 7, 27), (0, 6, 11, 36)]) ({ frames := 8, cells := 1, slots := 6, locals := 124 }) D cI cZ [.ref qz, .int x, .int y] w0 w1 3240099840 1 6 := by
  refine mk_hf (y := yL_delay) (av := [.ref qz, .int x, .int y]) (cc := cL_delay) (maxL := 4) (hh := [(0, 6, 7, 27), (0, 6, 11, 36)]) (by decide +kernel) (Nat.le_of_ble_eq_true rfl) ?_
  intro p e s m args below meth c A Q R hR hQ hx hb hr hml hAW hown hlk htab hN hT hNc hA hP hK hD hS ls hl
  have hl : lv_has ls 4 [(0, .ref qz), (1, .int x), (2, .int y)] := hl
  have hP : va_P D vwCl ([] ++ (w0 ++ [])) s.heap := by rw [List.append_nil]; exact hP
  have hD : va_D A ([] ++ (w0 ++ [])) := by rw [List.append_nil]; exact hD
  refine lv_aload_n hx hb dL_delay_0 rfl (lv_at hl 0 rfl) ?_
  refine lv_iload_n hx hb dL_delay_1 rfl (lv_at hl 1 rfl) ?_
  refine lv_iload_n hx hb dL_delay_2 rfl (lv_at hl 2 rfl) ?_
  refine call_Rx (wa := []) (wb := []) (As := [.int x, .int y]) (rest := []) hx hb hml hown hAW hN hT hM (cwVAx 2 hAW q678 q679 q680 q22 q681 hd_X9_averageDelay (by rw [hR]; exact Nat.le_of_ble_eq_true rfl) (by rw [hR]; exact Nat.le_of_ble_eq_true rfl) rfl rfl) hK hP hD hS hA hq hw rfl rfl rfl hl.1 rfl (lv_room (Nat.le_of_ble_eq_true rfl)) dL_delay_3 (by rw [hR]; exact Nat.le_of_ble_eq_true rfl) (by rw [hR]; exact Nat.le_of_ble_eq_true rfl) (fun ce q9 H locs hP hD hS h1 h2 h3 => ?_)
  have hP : va_P D vwCl w1 H := by rw [List.append_nil] at hP; exact hP
  refine vx_catch (own := RL) (name := "java/lang/IllegalStateException") hown [⟨0, 6, 7, 27⟩] ⟨0, 6, 11, 36⟩ [] (by rw [htab]; rfl) (fun z hz => by rcases List.mem_singleton.mp hz with rfl; exact Or.inr ⟨by decide, "java/lang/IllegalArgumentException", hAW _ q291, hNc⟩) (by decide) (by decide) (hAW _ q394) (va_Nw.use rfl hT.2.2.2.2.2.2.2.2.2.2) h1 h2 h3 ?_
  show W p l e R s m args below meth c H locs _ _ Q (F0 m 11 ls [.ref q9])
  refine lv_astore_n (lv' := [(3, .ref q9), (0, .ref qz), (1, .int x), (2, .int y)]) hx hb dL_delay_11 rfl hl (by decide) rfl (fun ls hl => ?_)
  refine lv_ldcf (v := 3240099840) hx hb hown (hAW _ qf83) dL_delay_12 ?_
  exact fin_hf (v := 3240099840) hx hb hr hlk hP hS rfl rfl hQ dL_delay_14

