/-! the states of the parts, as tuples -/
abbrev AlS : Type := (Nat → Nat) × (Nat → Nat) × (Nat → Nat) × Nat
abbrev al_raise (a : AlS) (k n f : Nat) : AlS := (updN a.1 a.2.2.2 k, updN a.2.1 a.2.2.2 n, updN a.2.2.1 a.2.2.2 f, a.2.2.2 + 1)
abbrev CsS : Type := Int32 × Int32 × Int32 × Int32 × Int32 × Nat × Nat
abbrev cs_anew (c : CsS) : CsS := (c.1, c.2.1, c.2.2.1, 0, 0, c.2.2.2.2.2.1, c.2.2.2.2.2.2)
abbrev cs_set (c : CsS) (x y z : Int32) : CsS := (x, y, z, 0, 0, c.2.2.2.2.2.1, c.2.2.2.2.2.2)
/-- a value comes: the sums move -/
def cs_mv (c : CsS) (x : Int32) (n : Nat) : CsS := (c.1, c.2.1, c.2.2.1, (if 0 < c.2.2.2.1 + x - c.1 - c.2.1 then c.2.2.2.1 + x - c.1 - c.2.1 else 0), (if 0 < c.2.2.2.2.1 + c.1 - c.2.1 - x then c.2.2.2.2.1 + c.1 - c.2.1 - x else 0), (if c.2.2.2.1 = 0 then n else c.2.2.2.2.2.1), (if c.2.2.2.2.1 = 0 then n else c.2.2.2.2.2.2))
def cs_bits (c : CsS) : Int32 := if c.2.2.2.1 ≤ c.2.2.1 then (if c.2.2.2.2.1 ≤ c.2.2.1 then 0 else 2) else (if c.2.2.2.2.1 ≤ c.2.2.1 then 1 else 3)
def cs_al (c : CsS) (a : AlS) (n : Nat) : AlS := if c.2.2.2.1 ≤ c.2.2.1 then (if c.2.2.2.2.1 ≤ c.2.2.1 then a else al_raise a 1 n c.2.2.2.2.2.2) else (if c.2.2.2.2.1 ≤ c.2.2.1 then al_raise a 0 n c.2.2.2.2.2.1 else al_raise (al_raise a 0 n c.2.2.2.2.2.1) 1 n c.2.2.2.2.2.2)
def cs_end (c : CsS) : CsS := if c.2.2.2.1 ≤ c.2.2.1 then (if c.2.2.2.2.1 ≤ c.2.2.1 then c else cs_anew c) else cs_anew c
def jfd (x y : Int32) : Int32 := if 0 ≤ x ^^^ y then x / y else if x / y * y = x then x / y else x / y - 1
abbrev PhS : Type := Int32 × Int32 × Int32 × Nat × Int32 × Int32 × Int32 × Nat
abbrev ph_anew (c : PhS) : PhS := (c.1, c.2.1, c.2.2.1, 0, 0, 0, 0, 0)
abbrev ph_set (_c : PhS) (x y z : Int32) : PhS := (x, y, z, 0, 0, 0, 0, 0)
def ph_sum (c : PhS) (x : Int32) : Int32 := c.2.2.2.2.2.1 * c.2.1 / 1000 + x - jfd (c.2.2.2.2.1 + x) (nI (c.2.2.2.1 + 1)) - c.1
def ph_mv (c : PhS) (x : Int32) (n : Nat) : PhS := (c.1, c.2.1, c.2.2.1, c.2.2.2.1 + 1, c.2.2.2.2.1 + x, ph_sum c x, (if c.2.2.2.2.2.2.1 ≤ ph_sum c x then c.2.2.2.2.2.2.1 else ph_sum c x), (if c.2.2.2.2.2.2.1 ≤ ph_sum c x then c.2.2.2.2.2.2.2 else n))
def ph_start (c : PhS) (n : Nat) : Nat := if c.2.2.2.2.2.2.1 < 0 then c.2.2.2.2.2.2.2 + 1 else n + 1 - c.2.2.2.1
def ph_bits (c : PhS) : Int32 := if c.2.2.1 < c.2.2.2.2.2.1 - c.2.2.2.2.2.2.1 then 4 else 0
def ph_al (c : PhS) (a : AlS) (n : Nat) : AlS := if c.2.2.1 < c.2.2.2.2.2.1 - c.2.2.2.2.2.2.1 then al_raise a 2 n (ph_start c n) else a
def ph_end (c : PhS) : PhS := if c.2.2.1 < c.2.2.2.2.2.1 - c.2.2.2.2.2.2.1 then ph_anew c else c
theorem zb_t {P : Prop} [Decidable P] (h : P) : (1 : Int32) = zb (decide P) := by rw [decide_eq_true h]; rfl
theorem zb_f {P : Prop} [Decidable P] (h : ¬ P) : (0 : Int32) = zb (decide P) := by rw [decide_eq_false h]; rfl
set_option maxHeartbeats 4000000 in
set_option maxRecDepth 100000 in
theorem c_X0_raise (l : Launch) (D : va_G) (cI cZ : ClassId) (qa qk qn qs : Nat) (al : AlS) (k nu fr : Nat) (h360 : al.2.2.2 < 360) : Cv l yX0_raise (aw yX0_raise cX0_raise 4 none) ({ frames := 0, cells := 0, slots := 0, locals := 0 }) D cI cZ [.ref qa, .int (nI k), .int (nI nu), .int (nI fr)] [(qa, .inr (0, [.ref qk, .ref qn, .ref qs, .int (nI al.2.2.2)])), (qk, .inl (cI, 360, .inl (nIf al.1))), (qn, .inl (cI, 360, .inl (nIf al.2.1))), (qs, .inl (cI, 360, .inl (nIf al.2.2.1)))] [(qa, .inr (0, [.ref qk, .ref qn, .ref qs, .int (nI ((al_raise al k nu fr).2.2.2))])), (qk, .inl (cI, 360, .inl (nIf ((al_raise al k nu fr).1)))), (qn, .inl (cI, 360, .inl (nIf ((al_raise al k nu fr).2.1)))), (qs, .inl (cI, 360, .inl (nIf ((al_raise al k nu fr).2.2.1))))] := by
  refine mk_any (y := yX0_raise) (av := [.ref qa, .int (nI k), .int (nI nu), .int (nI fr)]) (cc := cX0_raise) (maxL := 4) (ret := none) (Qc := fun A => va_Qv (fun (_ : Unit) => True) (cb D [(qa, .inr (0, [.ref qk, .ref qn, .ref qs, .int (nI ((al_raise al k nu fr).2.2.2))])), (qk, .inl (cI, 360, .inl (nIf ((al_raise al k nu fr).1)))), (qn, .inl (cI, 360, .inl (nIf ((al_raise al k nu fr).2.1)))), (qs, .inl (cI, 360, .inl (nIf ((al_raise al k nu fr).2.2.1))))]) A) (plainFor_of_name (by decide)) (Nat.le_of_ble_eq_true rfl) ?_
  intro p e s m args below meth c A Q R hR hQ hx hb hr hml hAW hown hlk hN hA hP hK hD hS ls hl
  have hl : lv_has ls 4 [(0, .ref qa), (1, .int (nI k)), (2, .int (nI nu)), (3, .int (nI fr))] := hl
  refine lv_aload_n hx hb dX0_raise_0 rfl (lv_at hl 0 rfl) ?_
  refine va_get (D := D) (ci := 0) (v := .int (nI al.2.2.2)) (C := RX0) (T := TX0) (N := 4) hx hb hAW iwX0 hown hK hP 0 rfl rfl 3 (by decide) (hAW _ q61) (fun _ h9 => h9) rfl dX0_raise_1 ?_
  refine lv_sipush (v := 360) hx hb dX0_raise_4 (by decide) ?_
  refine n_icmp_ge (x := al.2.2.2) (y := 360) (tgt := 50) hx hb (by omega) (by omega) dX0_raise_7 (by decide) (fun c7 => absurd c7 (by omega)) (fun c7 => ?_)
  refine lv_aload_n hx hb dX0_raise_10 rfl (lv_at hl 0 rfl) ?_
  refine va_get (D := D) (ci := 0) (v := .ref qk) (C := RX0) (T := TX0) (N := 4) hx hb hAW iwX0 hown hK hP 0 rfl rfl 0 (by decide) (hAW _ q53) (fun _ h9 => h9) rfl dX0_raise_11 ?_
  refine lv_aload_n hx hb dX0_raise_14 rfl (lv_at hl 0 rfl) ?_
  refine va_get (D := D) (ci := 0) (v := .int (nI al.2.2.2)) (C := RX0) (T := TX0) (N := 4) hx hb hAW iwX0 hown hK hP 0 rfl rfl 3 (by decide) (hAW _ q61) (fun _ h9 => h9) rfl dX0_raise_15 ?_
  refine lv_iload_n hx hb dX0_raise_18 rfl (lv_at hl 1 rfl) ?_
  refine m_store (D := D) (f := al.1) (i := al.2.2.2) (x := k) hx hb hK hP hD hS 1 0 rfl rfl (by omega) (by decide) dX0_raise_19 (fun H locs hP hD hS => ?_)
  have hP : va_P D vwCl [(qa, .inr (0, [.ref qk, .ref qn, .ref qs, .int (nI al.2.2.2)])), (qk, .inl (cI, 360, .inl (nIf (updN al.1 al.2.2.2 k)))), (qn, .inl (cI, 360, .inl (nIf al.2.1))), (qs, .inl (cI, 360, .inl (nIf al.2.2.1)))] H := hP
  have hD : va_D A [(qa, .inr (0, [.ref qk, .ref qn, .ref qs, .int (nI al.2.2.2)])), (qk, .inl (cI, 360, .inl (nIf (updN al.1 al.2.2.2 k)))), (qn, .inl (cI, 360, .inl (nIf al.2.1))), (qs, .inl (cI, 360, .inl (nIf al.2.2.1)))] := hD
  refine lv_aload_n hx hb dX0_raise_20 rfl (lv_at hl 0 rfl) ?_
  refine va_get (D := D) (ci := 0) (v := .ref qn) (C := RX0) (T := TX0) (N := 4) hx hb hAW iwX0 hown hK hP 0 rfl rfl 1 (by decide) (hAW _ q56) (fun _ h9 => h9) rfl dX0_raise_21 ?_
  refine lv_aload_n hx hb dX0_raise_24 rfl (lv_at hl 0 rfl) ?_
  refine va_get (D := D) (ci := 0) (v := .int (nI al.2.2.2)) (C := RX0) (T := TX0) (N := 4) hx hb hAW iwX0 hown hK hP 0 rfl rfl 3 (by decide) (hAW _ q61) (fun _ h9 => h9) rfl dX0_raise_25 ?_
  refine lv_iload_n hx hb dX0_raise_28 rfl (lv_at hl 2 rfl) ?_
  refine m_store (D := D) (f := al.2.1) (i := al.2.2.2) (x := nu) hx hb hK hP hD hS 2 0 rfl rfl (by omega) (by decide) dX0_raise_29 (fun H locs hP hD hS => ?_)
  have hP : va_P D vwCl [(qa, .inr (0, [.ref qk, .ref qn, .ref qs, .int (nI al.2.2.2)])), (qk, .inl (cI, 360, .inl (nIf (updN al.1 al.2.2.2 k)))), (qn, .inl (cI, 360, .inl (nIf (updN al.2.1 al.2.2.2 nu)))), (qs, .inl (cI, 360, .inl (nIf al.2.2.1)))] H := hP
  have hD : va_D A [(qa, .inr (0, [.ref qk, .ref qn, .ref qs, .int (nI al.2.2.2)])), (qk, .inl (cI, 360, .inl (nIf (updN al.1 al.2.2.2 k)))), (qn, .inl (cI, 360, .inl (nIf (updN al.2.1 al.2.2.2 nu)))), (qs, .inl (cI, 360, .inl (nIf al.2.2.1)))] := hD
  refine lv_aload_n hx hb dX0_raise_30 rfl (lv_at hl 0 rfl) ?_
  refine va_get (D := D) (ci := 0) (v := .ref qs) (C := RX0) (T := TX0) (N := 4) hx hb hAW iwX0 hown hK hP 0 rfl rfl 2 (by decide) (hAW _ q59) (fun _ h9 => h9) rfl dX0_raise_31 ?_
  refine lv_aload_n hx hb dX0_raise_34 rfl (lv_at hl 0 rfl) ?_
  refine va_get (D := D) (ci := 0) (v := .int (nI al.2.2.2)) (C := RX0) (T := TX0) (N := 4) hx hb hAW iwX0 hown hK hP 0 rfl rfl 3 (by decide) (hAW _ q61) (fun _ h9 => h9) rfl dX0_raise_35 ?_
  refine lv_iload_n hx hb dX0_raise_38 rfl (lv_at hl 3 rfl) ?_
  refine m_store (D := D) (f := al.2.2.1) (i := al.2.2.2) (x := fr) hx hb hK hP hD hS 3 0 rfl rfl (by omega) (by decide) dX0_raise_39 (fun H locs hP hD hS => ?_)
  have hP : va_P D vwCl [(qa, .inr (0, [.ref qk, .ref qn, .ref qs, .int (nI al.2.2.2)])), (qk, .inl (cI, 360, .inl (nIf (updN al.1 al.2.2.2 k)))), (qn, .inl (cI, 360, .inl (nIf (updN al.2.1 al.2.2.2 nu)))), (qs, .inl (cI, 360, .inl (nIf (updN al.2.2.1 al.2.2.2 fr))))] H := hP
  have hD : va_D A [(qa, .inr (0, [.ref qk, .ref qn, .ref qs, .int (nI al.2.2.2)])), (qk, .inl (cI, 360, .inl (nIf (updN al.1 al.2.2.2 k)))), (qn, .inl (cI, 360, .inl (nIf (updN al.2.1 al.2.2.2 nu)))), (qs, .inl (cI, 360, .inl (nIf (updN al.2.2.1 al.2.2.2 fr))))] := hD
  refine lv_aload_n hx hb dX0_raise_40 rfl (lv_at hl 0 rfl) ?_
  refine lv_dup hx hb dX0_raise_41 rfl ?_
  refine va_get (D := D) (ci := 0) (v := .int (nI al.2.2.2)) (C := RX0) (T := TX0) (N := 4) hx hb hAW iwX0 hown hK hP 0 rfl rfl 3 (by decide) (hAW _ q61) (fun _ h9 => h9) rfl dX0_raise_42 ?_
  refine lv_iconst (v := 1) hx hb dX0_raise_45 (by decide) ?_
  refine n_iadd (x := al.2.2.2) (y := 1) hx hb dX0_raise_46 ?_
  refine va_put (D := D) (ci := 0) (v := .int (nI (al.2.2.2 + 1))) (ty := .int) (C := RX0) (T := TX0) (N := 4) hx hb hAW iwX0 tyX0 tyX0_ok nmX0 hown hK hP hD hS 0 rfl rfl 3 (by decide) (hAW _ q61) (fun _ h9 => h9) rfl (tyX0_ok 3 (by decide)) rfl rfl (Nat.le_of_ble_eq_true rfl) dX0_raise_47 (fun H locs hP hD hS => ?_)
  have hP : va_P D vwCl [(qa, .inr (0, [.ref qk, .ref qn, .ref qs, .int (nI (al.2.2.2 + 1))])), (qk, .inl (cI, 360, .inl (nIf (updN al.1 al.2.2.2 k)))), (qn, .inl (cI, 360, .inl (nIf (updN al.2.1 al.2.2.2 nu)))), (qs, .inl (cI, 360, .inl (nIf (updN al.2.2.1 al.2.2.2 fr))))] H := hP
  have hD : va_D A [(qa, .inr (0, [.ref qk, .ref qn, .ref qs, .int (nI (al.2.2.2 + 1))])), (qk, .inl (cI, 360, .inl (nIf (updN al.1 al.2.2.2 k)))), (qn, .inl (cI, 360, .inl (nIf (updN al.2.1 al.2.2.2 nu)))), (qs, .inl (cI, 360, .inl (nIf (updN al.2.2.1 al.2.2.2 fr))))] := hD
  exact fin_v hx hb hr hlk hP hS rfl hQ dX0_raise_50

set_option maxHeartbeats 4000000 in
set_option maxRecDepth 100000 in
theorem c_X0_has (l : Launch) (D : va_G) (cI cZ : ClassId) (qa qk qn qs n : Nat) (x : Int32) (hn : n < 2 ^ 31) : Ci l yX0_has (aw yX0_has cX0_has 2 (some .boolean)) ({ frames := 0, cells := 0, slots := 0, locals := 0 }) D cI cZ [.ref qa, .int x] [(qa, .inr (0, [.ref qk, .ref qn, .ref qs, .int (nI n)]))] [(qa, .inr (0, [.ref qk, .ref qn, .ref qs, .int (nI n)]))] (zb (decide (0 ≤ x ∧ x < nI n))) := by
  refine mk_any (y := yX0_has) (av := [.ref qa, .int x]) (cc := cX0_has) (maxL := 2) (ret := (some .boolean)) (Qc := fun A => va_Qi (fun rr9 (_ : Unit) => rr9 = (zb (decide (0 ≤ x ∧ x < nI n)))) (cb D [(qa, .inr (0, [.ref qk, .ref qn, .ref qs, .int (nI n)]))]) A) (plainFor_of_name (by decide)) (Nat.le_of_ble_eq_true rfl) ?_
  intro p e s m args below meth c A Q R hR hQ hx hb hr hml hAW hown hlk hN hA hP hK hD hS ls hl
  have hl : lv_has ls 2 [(0, .ref qa), (1, .int x)] := hl
  refine lv_iload_n hx hb dX0_has_0 rfl (lv_at hl 1 rfl) ?_
  refine lv_if_lt (tgt := 16) hx hb dX0_has_1 (by decide) (fun c1 => ?_) (fun c1 => ?_)
  · skip
    refine lv_iconst (v := 0) hx hb dX0_has_16 (by decide) ?_
    exact fin_i (v := 0) hx hb hr hlk hP hS rfl (zb_f (fun h => absurd h.1 (Int32.not_le.mpr c1))) rfl hQ dX0_has_17
  · skip
    refine lv_iload_n hx hb dX0_has_4 rfl (lv_at hl 1 rfl) ?_
    refine lv_aload_n hx hb dX0_has_5 rfl (lv_at hl 0 rfl) ?_
    refine va_get (D := D) (ci := 0) (v := .int (nI n)) (C := RX0) (T := TX0) (N := 4) hx hb hAW iwX0 hown hK hP 0 rfl rfl 3 (by decide) (hAW _ q61) (fun _ h9 => h9) rfl dX0_has_6 ?_
    refine lv_icmp_ge (tgt := 16) hx hb dX0_has_9 (by decide) (fun c9 => ?_) (fun c9 => ?_)
    · skip
      refine lv_iconst (v := 0) hx hb dX0_has_16 (by decide) ?_
      exact fin_i (v := 0) hx hb hr hlk hP hS rfl (zb_f (fun h => absurd h.2 (Int32.not_lt.mpr c9))) rfl hQ dX0_has_17
    · skip
      refine lv_iconst (v := 1) hx hb dX0_has_12 (by decide) ?_
      refine lv_goto (tgt := 17) hx hb dX0_has_13 (by decide) ?_
      exact fin_i (v := 1) hx hb hr hlk hP hS rfl (zb_t ⟨Int32.not_lt.mp c1, Int32.not_le.mp c9⟩) rfl hQ dX0_has_17

set_option maxHeartbeats 4000000 in
set_option maxRecDepth 100000 in
theorem c_X0_removeAll (l : Launch) (D : va_G) (cI cZ : ClassId) (qa qk qn qs n : Nat) : Cv l yX0_removeAll (aw yX0_removeAll cX0_removeAll 1 none) ({ frames := 0, cells := 0, slots := 0, locals := 0 }) D cI cZ [.ref qa] [(qa, .inr (0, [.ref qk, .ref qn, .ref qs, .int (nI n)]))] [(qa, .inr (0, [.ref qk, .ref qn, .ref qs, .int (nI 0)]))] := by
  refine mk_any (y := yX0_removeAll) (av := [.ref qa]) (cc := cX0_removeAll) (maxL := 1) (ret := none) (Qc := fun A => va_Qv (fun (_ : Unit) => True) (cb D [(qa, .inr (0, [.ref qk, .ref qn, .ref qs, .int (nI 0)]))]) A) (plainFor_of_name (by decide)) (Nat.le_of_ble_eq_true rfl) ?_
  intro p e s m args below meth c A Q R hR hQ hx hb hr hml hAW hown hlk hN hA hP hK hD hS ls hl
  have hl : lv_has ls 1 [(0, .ref qa)] := hl
  refine lv_aload_n hx hb dX0_removeAll_0 rfl (lv_at hl 0 rfl) ?_
  refine lv_iconst (v := 0) hx hb dX0_removeAll_1 (by decide) ?_
  refine va_put (D := D) (ci := 0) (v := .int 0) (ty := .int) (C := RX0) (T := TX0) (N := 4) hx hb hAW iwX0 tyX0 tyX0_ok nmX0 hown hK hP hD hS 0 rfl rfl 3 (by decide) (hAW _ q61) (fun _ h9 => h9) rfl (tyX0_ok 3 (by decide)) rfl rfl (Nat.le_of_ble_eq_true rfl) dX0_removeAll_2 (fun H locs hP hD hS => ?_)
  have hP : va_P D vwCl [(qa, .inr (0, [.ref qk, .ref qn, .ref qs, .int 0]))] H := hP
  have hD : va_D A [(qa, .inr (0, [.ref qk, .ref qn, .ref qs, .int 0]))] := hD
  exact fin_v hx hb hr hlk hP hS rfl hQ dX0_removeAll_5

set_option maxHeartbeats 4000000 in
set_option maxRecDepth 100000 in
theorem c_X2_beginAnew (l : Launch) (D : va_G) (cI cZ : ClassId) (qc : Nat) (cs : CsS) : Cv l yX2_beginAnew (aw yX2_beginAnew cX2_beginAnew 1 none) ({ frames := 0, cells := 0, slots := 0, locals := 0 }) D cI cZ [.ref qc] [(qc, .inr (2, [.int cs.1, .int cs.2.1, .int cs.2.2.1, .int cs.2.2.2.1, .int cs.2.2.2.2.1, .int (nI cs.2.2.2.2.2.1), .int (nI cs.2.2.2.2.2.2)]))] [(qc, .inr (2, [.int ((cs_anew cs).1), .int ((cs_anew cs).2.1), .int ((cs_anew cs).2.2.1), .int ((cs_anew cs).2.2.2.1), .int ((cs_anew cs).2.2.2.2.1), .int (nI ((cs_anew cs).2.2.2.2.2.1)), .int (nI ((cs_anew cs).2.2.2.2.2.2))]))] := by
  refine mk_any (y := yX2_beginAnew) (av := [.ref qc]) (cc := cX2_beginAnew) (maxL := 1) (ret := none) (Qc := fun A => va_Qv (fun (_ : Unit) => True) (cb D [(qc, .inr (2, [.int ((cs_anew cs).1), .int ((cs_anew cs).2.1), .int ((cs_anew cs).2.2.1), .int ((cs_anew cs).2.2.2.1), .int ((cs_anew cs).2.2.2.2.1), .int (nI ((cs_anew cs).2.2.2.2.2.1)), .int (nI ((cs_anew cs).2.2.2.2.2.2))]))]) A) (plainFor_of_name (by decide)) (Nat.le_of_ble_eq_true rfl) ?_
  intro p e s m args below meth c A Q R hR hQ hx hb hr hml hAW hown hlk hN hA hP hK hD hS ls hl
  have hl : lv_has ls 1 [(0, .ref qc)] := hl
  refine lv_aload_n hx hb dX2_beginAnew_0 rfl (lv_at hl 0 rfl) ?_
  refine lv_iconst (v := 0) hx hb dX2_beginAnew_1 (by decide) ?_
  refine va_put (D := D) (ci := 2) (v := .int 0) (ty := .int) (C := RX2) (T := TX2) (N := 7) hx hb hAW iwX2 tyX2 tyX2_ok nmX2 hown hK hP hD hS 0 rfl rfl 3 (by decide) (hAW _ q91) (fun _ h9 => h9) rfl (tyX2_ok 3 (by decide)) rfl rfl (Nat.le_of_ble_eq_true rfl) dX2_beginAnew_2 (fun H locs hP hD hS => ?_)
  have hP : va_P D vwCl [(qc, .inr (2, [.int cs.1, .int cs.2.1, .int cs.2.2.1, .int 0, .int cs.2.2.2.2.1, .int (nI cs.2.2.2.2.2.1), .int (nI cs.2.2.2.2.2.2)]))] H := hP
  have hD : va_D A [(qc, .inr (2, [.int cs.1, .int cs.2.1, .int cs.2.2.1, .int 0, .int cs.2.2.2.2.1, .int (nI cs.2.2.2.2.2.1), .int (nI cs.2.2.2.2.2.2)]))] := hD
  refine lv_aload_n hx hb dX2_beginAnew_5 rfl (lv_at hl 0 rfl) ?_
  refine lv_iconst (v := 0) hx hb dX2_beginAnew_6 (by decide) ?_
  refine va_put (D := D) (ci := 2) (v := .int 0) (ty := .int) (C := RX2) (T := TX2) (N := 7) hx hb hAW iwX2 tyX2 tyX2_ok nmX2 hown hK hP hD hS 0 rfl rfl 4 (by decide) (hAW _ q93) (fun _ h9 => h9) rfl (tyX2_ok 4 (by decide)) rfl rfl (Nat.le_of_ble_eq_true rfl) dX2_beginAnew_7 (fun H locs hP hD hS => ?_)
  have hP : va_P D vwCl [(qc, .inr (2, [.int cs.1, .int cs.2.1, .int cs.2.2.1, .int 0, .int 0, .int (nI cs.2.2.2.2.2.1), .int (nI cs.2.2.2.2.2.2)]))] H := hP
  have hD : va_D A [(qc, .inr (2, [.int cs.1, .int cs.2.1, .int cs.2.2.1, .int 0, .int 0, .int (nI cs.2.2.2.2.2.1), .int (nI cs.2.2.2.2.2.2)]))] := hD
  exact fin_v hx hb hr hlk hP hS rfl hQ dX2_beginAnew_10

set_option maxHeartbeats 4000000 in
set_option maxRecDepth 100000 in
theorem c_X2_setUp (l : Launch) (D : va_G) (cI cZ : ClassId) (qc : Nat) (cs : CsS) (x y z : Int32) : Cv l yX2_setUp (aw yX2_setUp cX2_setUp 4 none) ({ frames := 1, cells := 0, slots := 0, locals := 20 }) D cI cZ [.ref qc, .int x, .int y, .int z] [(qc, .inr (2, [.int cs.1, .int cs.2.1, .int cs.2.2.1, .int cs.2.2.2.1, .int cs.2.2.2.2.1, .int (nI cs.2.2.2.2.2.1), .int (nI cs.2.2.2.2.2.2)]))] [(qc, .inr (2, [.int ((cs_set cs x y z).1), .int ((cs_set cs x y z).2.1), .int ((cs_set cs x y z).2.2.1), .int ((cs_set cs x y z).2.2.2.1), .int ((cs_set cs x y z).2.2.2.2.1), .int (nI ((cs_set cs x y z).2.2.2.2.2.1)), .int (nI ((cs_set cs x y z).2.2.2.2.2.2))]))] := by
  refine mk_any (y := yX2_setUp) (av := [.ref qc, .int x, .int y, .int z]) (cc := cX2_setUp) (maxL := 4) (ret := none) (Qc := fun A => va_Qv (fun (_ : Unit) => True) (cb D [(qc, .inr (2, [.int ((cs_set cs x y z).1), .int ((cs_set cs x y z).2.1), .int ((cs_set cs x y z).2.2.1), .int ((cs_set cs x y z).2.2.2.1), .int ((cs_set cs x y z).2.2.2.2.1), .int (nI ((cs_set cs x y z).2.2.2.2.2.1)), .int (nI ((cs_set cs x y z).2.2.2.2.2.2))]))]) A) (plainFor_of_name (by decide)) (Nat.le_of_ble_eq_true rfl) ?_
  intro p e s m args below meth c A Q R hR hQ hx hb hr hml hAW hown hlk hN hA hP hK hD hS ls hl
  have hl : lv_has ls 4 [(0, .ref qc), (1, .int x), (2, .int y), (3, .int z)] := hl
  refine lv_aload_n hx hb dX2_setUp_0 rfl (lv_at hl 0 rfl) ?_
  refine lv_iload_n hx hb dX2_setUp_1 rfl (lv_at hl 1 rfl) ?_
  refine va_put (D := D) (ci := 2) (v := .int x) (ty := .int) (C := RX2) (T := TX2) (N := 7) hx hb hAW iwX2 tyX2 tyX2_ok nmX2 hown hK hP hD hS 0 rfl rfl 0 (by decide) (hAW _ q88) (fun _ h9 => h9) rfl (tyX2_ok 0 (by decide)) rfl rfl (Nat.le_of_ble_eq_true rfl) dX2_setUp_2 (fun H locs hP hD hS => ?_)
  have hP : va_P D vwCl [(qc, .inr (2, [.int x, .int cs.2.1, .int cs.2.2.1, .int cs.2.2.2.1, .int cs.2.2.2.2.1, .int (nI cs.2.2.2.2.2.1), .int (nI cs.2.2.2.2.2.2)]))] H := hP
  have hD : va_D A [(qc, .inr (2, [.int x, .int cs.2.1, .int cs.2.2.1, .int cs.2.2.2.1, .int cs.2.2.2.2.1, .int (nI cs.2.2.2.2.2.1), .int (nI cs.2.2.2.2.2.2)]))] := hD
  refine lv_aload_n hx hb dX2_setUp_5 rfl (lv_at hl 0 rfl) ?_
  refine lv_iload_n hx hb dX2_setUp_6 rfl (lv_at hl 2 rfl) ?_
  refine va_put (D := D) (ci := 2) (v := .int y) (ty := .int) (C := RX2) (T := TX2) (N := 7) hx hb hAW iwX2 tyX2 tyX2_ok nmX2 hown hK hP hD hS 0 rfl rfl 1 (by decide) (hAW _ q89) (fun _ h9 => h9) rfl (tyX2_ok 1 (by decide)) rfl rfl (Nat.le_of_ble_eq_true rfl) dX2_setUp_7 (fun H locs hP hD hS => ?_)
  have hP : va_P D vwCl [(qc, .inr (2, [.int x, .int y, .int cs.2.2.1, .int cs.2.2.2.1, .int cs.2.2.2.2.1, .int (nI cs.2.2.2.2.2.1), .int (nI cs.2.2.2.2.2.2)]))] H := hP
  have hD : va_D A [(qc, .inr (2, [.int x, .int y, .int cs.2.2.1, .int cs.2.2.2.1, .int cs.2.2.2.2.1, .int (nI cs.2.2.2.2.2.1), .int (nI cs.2.2.2.2.2.2)]))] := hD
  refine lv_aload_n hx hb dX2_setUp_10 rfl (lv_at hl 0 rfl) ?_
  refine lv_iload_n hx hb dX2_setUp_11 rfl (lv_at hl 3 rfl) ?_
  refine va_put (D := D) (ci := 2) (v := .int z) (ty := .int) (C := RX2) (T := TX2) (N := 7) hx hb hAW iwX2 tyX2 tyX2_ok nmX2 hown hK hP hD hS 0 rfl rfl 2 (by decide) (hAW _ q90) (fun _ h9 => h9) rfl (tyX2_ok 2 (by decide)) rfl rfl (Nat.le_of_ble_eq_true rfl) dX2_setUp_12 (fun H locs hP hD hS => ?_)
  have hP : va_P D vwCl [(qc, .inr (2, [.int x, .int y, .int z, .int cs.2.2.2.1, .int cs.2.2.2.2.1, .int (nI cs.2.2.2.2.2.1), .int (nI cs.2.2.2.2.2.2)]))] H := hP
  have hD : va_D A [(qc, .inr (2, [.int x, .int y, .int z, .int cs.2.2.2.1, .int cs.2.2.2.2.1, .int (nI cs.2.2.2.2.2.1), .int (nI cs.2.2.2.2.2.2)]))] := hD
  refine lv_aload_n hx hb dX2_setUp_15 rfl (lv_at hl 0 rfl) ?_
  refine call_Vv (D := D) (rest := []) (ws' := [(qc, .inr (2, [.int ((cs_anew ((x, y, z, cs.2.2.2.1, cs.2.2.2.2.1, cs.2.2.2.2.2.1, cs.2.2.2.2.2.2) : CsS)).1), .int ((cs_anew ((x, y, z, cs.2.2.2.1, cs.2.2.2.2.1, cs.2.2.2.2.2.1, cs.2.2.2.2.2.2) : CsS)).2.1), .int ((cs_anew ((x, y, z, cs.2.2.2.1, cs.2.2.2.2.1, cs.2.2.2.2.2.1, cs.2.2.2.2.2.2) : CsS)).2.2.1), .int ((cs_anew ((x, y, z, cs.2.2.2.1, cs.2.2.2.2.1, cs.2.2.2.2.2.1, cs.2.2.2.2.2.2) : CsS)).2.2.2.1), .int ((cs_anew ((x, y, z, cs.2.2.2.1, cs.2.2.2.2.1, cs.2.2.2.2.2.1, cs.2.2.2.2.2.2) : CsS)).2.2.2.2.1), .int (nI ((cs_anew ((x, y, z, cs.2.2.2.1, cs.2.2.2.2.1, cs.2.2.2.2.2.1, cs.2.2.2.2.2.2) : CsS)).2.2.2.2.2.1)), .int (nI ((cs_anew ((x, y, z, cs.2.2.2.1, cs.2.2.2.2.1, cs.2.2.2.2.2.1, cs.2.2.2.2.2.2) : CsS)).2.2.2.2.2.2))]))]) (ad := [qc]) (ad2 := [qc]) hx hb hml hown hAW hN (c_X2_beginAnew l D cI cZ qc ((x, y, z, cs.2.2.2.1, cs.2.2.2.2.1, cs.2.2.2.2.2.1, cs.2.2.2.2.2.2) : CsS) ) (cwVA 0 hAW q84 q85 q86 q24 q87 hd_X2_beginAnew (by rw [hR]; exact Nat.le_of_ble_eq_true rfl) (by rw [hR]; exact Nat.le_of_ble_eq_true rfl) rfl rfl) hK hP hD hS hA [0] rfl rfl rfl rfl rfl rfl (by decide +kernel) (ci := 2) (q0 := 0) rfl rfl rfl rfl hl.1 rfl (lv_room (Nat.le_of_ble_eq_true rfl)) dX2_setUp_16 (Nat.zero_le _) (Nat.zero_le _) (fun H locs hP hD hS => ?_)
  exact fin_v hx hb hr hlk hP hS rfl hQ dX2_setUp_19

set_option maxHeartbeats 4000000 in
set_option maxRecDepth 100000 in
theorem c_X2_moveSums (l : Launch) (D : va_G) (cI cZ : ClassId) (qc : Nat) (cs : CsS) (x : Int32) (nu : Nat) : Cv l yX2_moveSums (aw yX2_moveSums cX2_moveSums 3 none) ({ frames := 1, cells := 0, slots := 0, locals := 14 }) D cI cZ [.ref qc, .int x, .int (nI nu)] [(qc, .inr (2, [.int cs.1, .int cs.2.1, .int cs.2.2.1, .int cs.2.2.2.1, .int cs.2.2.2.2.1, .int (nI cs.2.2.2.2.2.1), .int (nI cs.2.2.2.2.2.2)]))] [(qc, .inr (2, [.int ((cs_mv cs x nu).1), .int ((cs_mv cs x nu).2.1), .int ((cs_mv cs x nu).2.2.1), .int ((cs_mv cs x nu).2.2.2.1), .int ((cs_mv cs x nu).2.2.2.2.1), .int (nI ((cs_mv cs x nu).2.2.2.2.2.1)), .int (nI ((cs_mv cs x nu).2.2.2.2.2.2))]))] := by
  refine mk_any (y := yX2_moveSums) (av := [.ref qc, .int x, .int (nI nu)]) (cc := cX2_moveSums) (maxL := 3) (ret := none) (Qc := fun A => va_Qv (fun (_ : Unit) => True) (cb D [(qc, .inr (2, [.int ((cs_mv cs x nu).1), .int ((cs_mv cs x nu).2.1), .int ((cs_mv cs x nu).2.2.1), .int ((cs_mv cs x nu).2.2.2.1), .int ((cs_mv cs x nu).2.2.2.2.1), .int (nI ((cs_mv cs x nu).2.2.2.2.2.1)), .int (nI ((cs_mv cs x nu).2.2.2.2.2.2))]))]) A) (plainFor_of_name (by decide)) (Nat.le_of_ble_eq_true rfl) ?_
  intro p e s m args below meth c A Q R hR hQ hx hb hr hml hAW hown hlk hN hA hP hK hD hS ls hl
  have hl : lv_has ls 3 [(0, .ref qc), (1, .int x), (2, .int (nI nu))] := hl
  refine lv_aload_n hx hb dX2_moveSums_0 rfl (lv_at hl 0 rfl) ?_
  refine va_get (D := D) (ci := 2) (v := .int cs.2.2.2.1) (C := RX2) (T := TX2) (N := 7) hx hb hAW iwX2 hown hK hP 0 rfl rfl 3 (by decide) (hAW _ q91) (fun _ h9 => h9) rfl dX2_moveSums_1 ?_
  refine lv_if_ne (tgt := 12) hx hb dX2_moveSums_4 (by decide) (fun c4 => ?_) (fun c4 => ?_)
  · skip
    refine lv_aload_n hx hb dX2_moveSums_12 rfl (lv_at hl 0 rfl) ?_
    refine va_get (D := D) (ci := 2) (v := .int cs.2.2.2.2.1) (C := RX2) (T := TX2) (N := 7) hx hb hAW iwX2 hown hK hP 0 rfl rfl 4 (by decide) (hAW _ q93) (fun _ h9 => h9) rfl dX2_moveSums_13 ?_
    refine lv_if_ne (tgt := 24) hx hb dX2_moveSums_16 (by decide) (fun c16 => ?_) (fun c16 => ?_)
    · skip
      refine lv_aload_n hx hb dX2_moveSums_24 rfl (lv_at hl 0 rfl) ?_
      refine lv_iconst (v := 0) hx hb dX2_moveSums_25 (by decide) ?_
      refine lv_aload_n hx hb dX2_moveSums_26 rfl (lv_at hl 0 rfl) ?_
      refine va_get (D := D) (ci := 2) (v := .int cs.2.2.2.1) (C := RX2) (T := TX2) (N := 7) hx hb hAW iwX2 hown hK hP 0 rfl rfl 3 (by decide) (hAW _ q91) (fun _ h9 => h9) rfl dX2_moveSums_27 ?_
      refine lv_iload_n hx hb dX2_moveSums_30 rfl (lv_at hl 1 rfl) ?_
      refine lv_iadd hx hb dX2_moveSums_31 ?_
      refine lv_aload_n hx hb dX2_moveSums_32 rfl (lv_at hl 0 rfl) ?_
      refine va_get (D := D) (ci := 2) (v := .int cs.1) (C := RX2) (T := TX2) (N := 7) hx hb hAW iwX2 hown hK hP 0 rfl rfl 0 (by decide) (hAW _ q88) (fun _ h9 => h9) rfl dX2_moveSums_33 ?_
      refine lv_isub hx hb dX2_moveSums_36 ?_
      refine lv_aload_n hx hb dX2_moveSums_37 rfl (lv_at hl 0 rfl) ?_
      refine va_get (D := D) (ci := 2) (v := .int cs.2.1) (C := RX2) (T := TX2) (N := 7) hx hb hAW iwX2 hown hK hP 0 rfl rfl 1 (by decide) (hAW _ q89) (fun _ h9 => h9) rfl dX2_moveSums_38 ?_
      refine lv_isub hx hb dX2_moveSums_41 ?_
      refine va_mmax (x := 0) (y := (((cs.2.2.2.1 + x) - cs.1) - cs.2.1)) hx hb (hml.trans hl.1.symm) hown (hAW _ q430) (hAW _ q431) (hAW _ q37) (hAW _ q432) (by rw [hR]; exact Nat.le_of_ble_eq_true rfl) (by rw [hR]; exact Nat.le_of_ble_eq_true rfl) (Nat.zero_le _) (Nat.zero_le _) dX2_moveSums_42 ?_
      refine va_put (D := D) (ci := 2) (v := .int (if 0 < (((cs.2.2.2.1 + x) - cs.1) - cs.2.1) then (((cs.2.2.2.1 + x) - cs.1) - cs.2.1) else 0)) (ty := .int) (C := RX2) (T := TX2) (N := 7) hx hb hAW iwX2 tyX2 tyX2_ok nmX2 hown hK hP hD hS 0 rfl rfl 3 (by decide) (hAW _ q91) (fun _ h9 => h9) rfl (tyX2_ok 3 (by decide)) rfl rfl (Nat.le_of_ble_eq_true rfl) dX2_moveSums_45 (fun H locs hP hD hS => ?_)
      have hP : va_P D vwCl [(qc, .inr (2, [.int cs.1, .int cs.2.1, .int cs.2.2.1, .int (if 0 < (((cs.2.2.2.1 + x) - cs.1) - cs.2.1) then (((cs.2.2.2.1 + x) - cs.1) - cs.2.1) else 0), .int cs.2.2.2.2.1, .int (nI cs.2.2.2.2.2.1), .int (nI cs.2.2.2.2.2.2)]))] H := hP
      have hD : va_D A [(qc, .inr (2, [.int cs.1, .int cs.2.1, .int cs.2.2.1, .int (if 0 < (((cs.2.2.2.1 + x) - cs.1) - cs.2.1) then (((cs.2.2.2.1 + x) - cs.1) - cs.2.1) else 0), .int cs.2.2.2.2.1, .int (nI cs.2.2.2.2.2.1), .int (nI cs.2.2.2.2.2.2)]))] := hD
      refine lv_aload_n hx hb dX2_moveSums_48 rfl (lv_at hl 0 rfl) ?_
      refine lv_iconst (v := 0) hx hb dX2_moveSums_49 (by decide) ?_
      refine lv_aload_n hx hb dX2_moveSums_50 rfl (lv_at hl 0 rfl) ?_
      refine va_get (D := D) (ci := 2) (v := .int cs.2.2.2.2.1) (C := RX2) (T := TX2) (N := 7) hx hb hAW iwX2 hown hK hP 0 rfl rfl 4 (by decide) (hAW _ q93) (fun _ h9 => h9) rfl dX2_moveSums_51 ?_
      refine lv_aload_n hx hb dX2_moveSums_54 rfl (lv_at hl 0 rfl) ?_
      refine va_get (D := D) (ci := 2) (v := .int cs.1) (C := RX2) (T := TX2) (N := 7) hx hb hAW iwX2 hown hK hP 0 rfl rfl 0 (by decide) (hAW _ q88) (fun _ h9 => h9) rfl dX2_moveSums_55 ?_
      refine lv_iadd hx hb dX2_moveSums_58 ?_
      refine lv_aload_n hx hb dX2_moveSums_59 rfl (lv_at hl 0 rfl) ?_
      refine va_get (D := D) (ci := 2) (v := .int cs.2.1) (C := RX2) (T := TX2) (N := 7) hx hb hAW iwX2 hown hK hP 0 rfl rfl 1 (by decide) (hAW _ q89) (fun _ h9 => h9) rfl dX2_moveSums_60 ?_
      refine lv_isub hx hb dX2_moveSums_63 ?_
      refine lv_iload_n hx hb dX2_moveSums_64 rfl (lv_at hl 1 rfl) ?_
      refine lv_isub hx hb dX2_moveSums_65 ?_
      refine va_mmax (x := 0) (y := (((cs.2.2.2.2.1 + cs.1) - cs.2.1) - x)) hx hb (hml.trans hl.1.symm) hown (hAW _ q430) (hAW _ q431) (hAW _ q37) (hAW _ q432) (by rw [hR]; exact Nat.le_of_ble_eq_true rfl) (by rw [hR]; exact Nat.le_of_ble_eq_true rfl) (Nat.zero_le _) (Nat.zero_le _) dX2_moveSums_66 ?_
      refine va_put (D := D) (ci := 2) (v := .int (if 0 < (((cs.2.2.2.2.1 + cs.1) - cs.2.1) - x) then (((cs.2.2.2.2.1 + cs.1) - cs.2.1) - x) else 0)) (ty := .int) (C := RX2) (T := TX2) (N := 7) hx hb hAW iwX2 tyX2 tyX2_ok nmX2 hown hK hP hD hS 0 rfl rfl 4 (by decide) (hAW _ q93) (fun _ h9 => h9) rfl (tyX2_ok 4 (by decide)) rfl rfl (Nat.le_of_ble_eq_true rfl) dX2_moveSums_69 (fun H locs hP hD hS => ?_)
      have hP : va_P D vwCl [(qc, .inr (2, [.int cs.1, .int cs.2.1, .int cs.2.2.1, .int (if 0 < (((cs.2.2.2.1 + x) - cs.1) - cs.2.1) then (((cs.2.2.2.1 + x) - cs.1) - cs.2.1) else 0), .int (if 0 < (((cs.2.2.2.2.1 + cs.1) - cs.2.1) - x) then (((cs.2.2.2.2.1 + cs.1) - cs.2.1) - x) else 0), .int (nI cs.2.2.2.2.2.1), .int (nI cs.2.2.2.2.2.2)]))] H := hP
      have hD : va_D A [(qc, .inr (2, [.int cs.1, .int cs.2.1, .int cs.2.2.1, .int (if 0 < (((cs.2.2.2.1 + x) - cs.1) - cs.2.1) then (((cs.2.2.2.1 + x) - cs.1) - cs.2.1) else 0), .int (if 0 < (((cs.2.2.2.2.1 + cs.1) - cs.2.1) - x) then (((cs.2.2.2.2.1 + cs.1) - cs.2.1) - x) else 0), .int (nI cs.2.2.2.2.2.1), .int (nI cs.2.2.2.2.2.2)]))] := hD
      exact fin_v hx hb hr hlk hP hS (by simp only [cs_mv, c4, c16, ↓reduceIte]) hQ dX2_moveSums_72
    · skip
      refine lv_aload_n hx hb dX2_moveSums_19 rfl (lv_at hl 0 rfl) ?_
      refine lv_iload_n hx hb dX2_moveSums_20 rfl (lv_at hl 2 rfl) ?_
      refine va_put (D := D) (ci := 2) (v := .int (nI nu)) (ty := .int) (C := RX2) (T := TX2) (N := 7) hx hb hAW iwX2 tyX2 tyX2_ok nmX2 hown hK hP hD hS 0 rfl rfl 6 (by decide) (hAW _ q96) (fun _ h9 => h9) rfl (tyX2_ok 6 (by decide)) rfl rfl (Nat.le_of_ble_eq_true rfl) dX2_moveSums_21 (fun H locs hP hD hS => ?_)
      have hP : va_P D vwCl [(qc, .inr (2, [.int cs.1, .int cs.2.1, .int cs.2.2.1, .int cs.2.2.2.1, .int cs.2.2.2.2.1, .int (nI cs.2.2.2.2.2.1), .int (nI nu)]))] H := hP
      have hD : va_D A [(qc, .inr (2, [.int cs.1, .int cs.2.1, .int cs.2.2.1, .int cs.2.2.2.1, .int cs.2.2.2.2.1, .int (nI cs.2.2.2.2.2.1), .int (nI nu)]))] := hD
      refine lv_aload_n hx hb dX2_moveSums_24 rfl (lv_at hl 0 rfl) ?_
      refine lv_iconst (v := 0) hx hb dX2_moveSums_25 (by decide) ?_
      refine lv_aload_n hx hb dX2_moveSums_26 rfl (lv_at hl 0 rfl) ?_
      refine va_get (D := D) (ci := 2) (v := .int cs.2.2.2.1) (C := RX2) (T := TX2) (N := 7) hx hb hAW iwX2 hown hK hP 0 rfl rfl 3 (by decide) (hAW _ q91) (fun _ h9 => h9) rfl dX2_moveSums_27 ?_
      refine lv_iload_n hx hb dX2_moveSums_30 rfl (lv_at hl 1 rfl) ?_
      refine lv_iadd hx hb dX2_moveSums_31 ?_
      refine lv_aload_n hx hb dX2_moveSums_32 rfl (lv_at hl 0 rfl) ?_
      refine va_get (D := D) (ci := 2) (v := .int cs.1) (C := RX2) (T := TX2) (N := 7) hx hb hAW iwX2 hown hK hP 0 rfl rfl 0 (by decide) (hAW _ q88) (fun _ h9 => h9) rfl dX2_moveSums_33 ?_
      refine lv_isub hx hb dX2_moveSums_36 ?_
      refine lv_aload_n hx hb dX2_moveSums_37 rfl (lv_at hl 0 rfl) ?_
      refine va_get (D := D) (ci := 2) (v := .int cs.2.1) (C := RX2) (T := TX2) (N := 7) hx hb hAW iwX2 hown hK hP 0 rfl rfl 1 (by decide) (hAW _ q89) (fun _ h9 => h9) rfl dX2_moveSums_38 ?_
      refine lv_isub hx hb dX2_moveSums_41 ?_
      refine va_mmax (x := 0) (y := (((cs.2.2.2.1 + x) - cs.1) - cs.2.1)) hx hb (hml.trans hl.1.symm) hown (hAW _ q430) (hAW _ q431) (hAW _ q37) (hAW _ q432) (by rw [hR]; exact Nat.le_of_ble_eq_true rfl) (by rw [hR]; exact Nat.le_of_ble_eq_true rfl) (Nat.zero_le _) (Nat.zero_le _) dX2_moveSums_42 ?_
      refine va_put (D := D) (ci := 2) (v := .int (if 0 < (((cs.2.2.2.1 + x) - cs.1) - cs.2.1) then (((cs.2.2.2.1 + x) - cs.1) - cs.2.1) else 0)) (ty := .int) (C := RX2) (T := TX2) (N := 7) hx hb hAW iwX2 tyX2 tyX2_ok nmX2 hown hK hP hD hS 0 rfl rfl 3 (by decide) (hAW _ q91) (fun _ h9 => h9) rfl (tyX2_ok 3 (by decide)) rfl rfl (Nat.le_of_ble_eq_true rfl) dX2_moveSums_45 (fun H locs hP hD hS => ?_)
      have hP : va_P D vwCl [(qc, .inr (2, [.int cs.1, .int cs.2.1, .int cs.2.2.1, .int (if 0 < (((cs.2.2.2.1 + x) - cs.1) - cs.2.1) then (((cs.2.2.2.1 + x) - cs.1) - cs.2.1) else 0), .int cs.2.2.2.2.1, .int (nI cs.2.2.2.2.2.1), .int (nI nu)]))] H := hP
      have hD : va_D A [(qc, .inr (2, [.int cs.1, .int cs.2.1, .int cs.2.2.1, .int (if 0 < (((cs.2.2.2.1 + x) - cs.1) - cs.2.1) then (((cs.2.2.2.1 + x) - cs.1) - cs.2.1) else 0), .int cs.2.2.2.2.1, .int (nI cs.2.2.2.2.2.1), .int (nI nu)]))] := hD
      refine lv_aload_n hx hb dX2_moveSums_48 rfl (lv_at hl 0 rfl) ?_
      refine lv_iconst (v := 0) hx hb dX2_moveSums_49 (by decide) ?_
      refine lv_aload_n hx hb dX2_moveSums_50 rfl (lv_at hl 0 rfl) ?_
      refine va_get (D := D) (ci := 2) (v := .int cs.2.2.2.2.1) (C := RX2) (T := TX2) (N := 7) hx hb hAW iwX2 hown hK hP 0 rfl rfl 4 (by decide) (hAW _ q93) (fun _ h9 => h9) rfl dX2_moveSums_51 ?_
      refine lv_aload_n hx hb dX2_moveSums_54 rfl (lv_at hl 0 rfl) ?_
      refine va_get (D := D) (ci := 2) (v := .int cs.1) (C := RX2) (T := TX2) (N := 7) hx hb hAW iwX2 hown hK hP 0 rfl rfl 0 (by decide) (hAW _ q88) (fun _ h9 => h9) rfl dX2_moveSums_55 ?_
      refine lv_iadd hx hb dX2_moveSums_58 ?_
      refine lv_aload_n hx hb dX2_moveSums_59 rfl (lv_at hl 0 rfl) ?_
      refine va_get (D := D) (ci := 2) (v := .int cs.2.1) (C := RX2) (T := TX2) (N := 7) hx hb hAW iwX2 hown hK hP 0 rfl rfl 1 (by decide) (hAW _ q89) (fun _ h9 => h9) rfl dX2_moveSums_60 ?_
      refine lv_isub hx hb dX2_moveSums_63 ?_
      refine lv_iload_n hx hb dX2_moveSums_64 rfl (lv_at hl 1 rfl) ?_
      refine lv_isub hx hb dX2_moveSums_65 ?_
      refine va_mmax (x := 0) (y := (((cs.2.2.2.2.1 + cs.1) - cs.2.1) - x)) hx hb (hml.trans hl.1.symm) hown (hAW _ q430) (hAW _ q431) (hAW _ q37) (hAW _ q432) (by rw [hR]; exact Nat.le_of_ble_eq_true rfl) (by rw [hR]; exact Nat.le_of_ble_eq_true rfl) (Nat.zero_le _) (Nat.zero_le _) dX2_moveSums_66 ?_
      refine va_put (D := D) (ci := 2) (v := .int (if 0 < (((cs.2.2.2.2.1 + cs.1) - cs.2.1) - x) then (((cs.2.2.2.2.1 + cs.1) - cs.2.1) - x) else 0)) (ty := .int) (C := RX2) (T := TX2) (N := 7) hx hb hAW iwX2 tyX2 tyX2_ok nmX2 hown hK hP hD hS 0 rfl rfl 4 (by decide) (hAW _ q93) (fun _ h9 => h9) rfl (tyX2_ok 4 (by decide)) rfl rfl (Nat.le_of_ble_eq_true rfl) dX2_moveSums_69 (fun H locs hP hD hS => ?_)
      have hP : va_P D vwCl [(qc, .inr (2, [.int cs.1, .int cs.2.1, .int cs.2.2.1, .int (if 0 < (((cs.2.2.2.1 + x) - cs.1) - cs.2.1) then (((cs.2.2.2.1 + x) - cs.1) - cs.2.1) else 0), .int (if 0 < (((cs.2.2.2.2.1 + cs.1) - cs.2.1) - x) then (((cs.2.2.2.2.1 + cs.1) - cs.2.1) - x) else 0), .int (nI cs.2.2.2.2.2.1), .int (nI nu)]))] H := hP
      have hD : va_D A [(qc, .inr (2, [.int cs.1, .int cs.2.1, .int cs.2.2.1, .int (if 0 < (((cs.2.2.2.1 + x) - cs.1) - cs.2.1) then (((cs.2.2.2.1 + x) - cs.1) - cs.2.1) else 0), .int (if 0 < (((cs.2.2.2.2.1 + cs.1) - cs.2.1) - x) then (((cs.2.2.2.2.1 + cs.1) - cs.2.1) - x) else 0), .int (nI cs.2.2.2.2.2.1), .int (nI nu)]))] := hD
      exact fin_v hx hb hr hlk hP hS (by simp only [cs_mv, c4, c16, ↓reduceIte]) hQ dX2_moveSums_72
  · skip
    refine lv_aload_n hx hb dX2_moveSums_7 rfl (lv_at hl 0 rfl) ?_
    refine lv_iload_n hx hb dX2_moveSums_8 rfl (lv_at hl 2 rfl) ?_
    refine va_put (D := D) (ci := 2) (v := .int (nI nu)) (ty := .int) (C := RX2) (T := TX2) (N := 7) hx hb hAW iwX2 tyX2 tyX2_ok nmX2 hown hK hP hD hS 0 rfl rfl 5 (by decide) (hAW _ q95) (fun _ h9 => h9) rfl (tyX2_ok 5 (by decide)) rfl rfl (Nat.le_of_ble_eq_true rfl) dX2_moveSums_9 (fun H locs hP hD hS => ?_)
    have hP : va_P D vwCl [(qc, .inr (2, [.int cs.1, .int cs.2.1, .int cs.2.2.1, .int cs.2.2.2.1, .int cs.2.2.2.2.1, .int (nI nu), .int (nI cs.2.2.2.2.2.2)]))] H := hP
    have hD : va_D A [(qc, .inr (2, [.int cs.1, .int cs.2.1, .int cs.2.2.1, .int cs.2.2.2.1, .int cs.2.2.2.2.1, .int (nI nu), .int (nI cs.2.2.2.2.2.2)]))] := hD
    refine lv_aload_n hx hb dX2_moveSums_12 rfl (lv_at hl 0 rfl) ?_
    refine va_get (D := D) (ci := 2) (v := .int cs.2.2.2.2.1) (C := RX2) (T := TX2) (N := 7) hx hb hAW iwX2 hown hK hP 0 rfl rfl 4 (by decide) (hAW _ q93) (fun _ h9 => h9) rfl dX2_moveSums_13 ?_
    refine lv_if_ne (tgt := 24) hx hb dX2_moveSums_16 (by decide) (fun c16 => ?_) (fun c16 => ?_)
    · skip
      refine lv_aload_n hx hb dX2_moveSums_24 rfl (lv_at hl 0 rfl) ?_
      refine lv_iconst (v := 0) hx hb dX2_moveSums_25 (by decide) ?_
      refine lv_aload_n hx hb dX2_moveSums_26 rfl (lv_at hl 0 rfl) ?_
      refine va_get (D := D) (ci := 2) (v := .int cs.2.2.2.1) (C := RX2) (T := TX2) (N := 7) hx hb hAW iwX2 hown hK hP 0 rfl rfl 3 (by decide) (hAW _ q91) (fun _ h9 => h9) rfl dX2_moveSums_27 ?_
      refine lv_iload_n hx hb dX2_moveSums_30 rfl (lv_at hl 1 rfl) ?_
      refine lv_iadd hx hb dX2_moveSums_31 ?_
      refine lv_aload_n hx hb dX2_moveSums_32 rfl (lv_at hl 0 rfl) ?_
      refine va_get (D := D) (ci := 2) (v := .int cs.1) (C := RX2) (T := TX2) (N := 7) hx hb hAW iwX2 hown hK hP 0 rfl rfl 0 (by decide) (hAW _ q88) (fun _ h9 => h9) rfl dX2_moveSums_33 ?_
      refine lv_isub hx hb dX2_moveSums_36 ?_
      refine lv_aload_n hx hb dX2_moveSums_37 rfl (lv_at hl 0 rfl) ?_
      refine va_get (D := D) (ci := 2) (v := .int cs.2.1) (C := RX2) (T := TX2) (N := 7) hx hb hAW iwX2 hown hK hP 0 rfl rfl 1 (by decide) (hAW _ q89) (fun _ h9 => h9) rfl dX2_moveSums_38 ?_
      refine lv_isub hx hb dX2_moveSums_41 ?_
      refine va_mmax (x := 0) (y := (((cs.2.2.2.1 + x) - cs.1) - cs.2.1)) hx hb (hml.trans hl.1.symm) hown (hAW _ q430) (hAW _ q431) (hAW _ q37) (hAW _ q432) (by rw [hR]; exact Nat.le_of_ble_eq_true rfl) (by rw [hR]; exact Nat.le_of_ble_eq_true rfl) (Nat.zero_le _) (Nat.zero_le _) dX2_moveSums_42 ?_
      refine va_put (D := D) (ci := 2) (v := .int (if 0 < (((cs.2.2.2.1 + x) - cs.1) - cs.2.1) then (((cs.2.2.2.1 + x) - cs.1) - cs.2.1) else 0)) (ty := .int) (C := RX2) (T := TX2) (N := 7) hx hb hAW iwX2 tyX2 tyX2_ok nmX2 hown hK hP hD hS 0 rfl rfl 3 (by decide) (hAW _ q91) (fun _ h9 => h9) rfl (tyX2_ok 3 (by decide)) rfl rfl (Nat.le_of_ble_eq_true rfl) dX2_moveSums_45 (fun H locs hP hD hS => ?_)
      have hP : va_P D vwCl [(qc, .inr (2, [.int cs.1, .int cs.2.1, .int cs.2.2.1, .int (if 0 < (((cs.2.2.2.1 + x) - cs.1) - cs.2.1) then (((cs.2.2.2.1 + x) - cs.1) - cs.2.1) else 0), .int cs.2.2.2.2.1, .int (nI nu), .int (nI cs.2.2.2.2.2.2)]))] H := hP
      have hD : va_D A [(qc, .inr (2, [.int cs.1, .int cs.2.1, .int cs.2.2.1, .int (if 0 < (((cs.2.2.2.1 + x) - cs.1) - cs.2.1) then (((cs.2.2.2.1 + x) - cs.1) - cs.2.1) else 0), .int cs.2.2.2.2.1, .int (nI nu), .int (nI cs.2.2.2.2.2.2)]))] := hD
      refine lv_aload_n hx hb dX2_moveSums_48 rfl (lv_at hl 0 rfl) ?_
      refine lv_iconst (v := 0) hx hb dX2_moveSums_49 (by decide) ?_
      refine lv_aload_n hx hb dX2_moveSums_50 rfl (lv_at hl 0 rfl) ?_
      refine va_get (D := D) (ci := 2) (v := .int cs.2.2.2.2.1) (C := RX2) (T := TX2) (N := 7) hx hb hAW iwX2 hown hK hP 0 rfl rfl 4 (by decide) (hAW _ q93) (fun _ h9 => h9) rfl dX2_moveSums_51 ?_
      refine lv_aload_n hx hb dX2_moveSums_54 rfl (lv_at hl 0 rfl) ?_
      refine va_get (D := D) (ci := 2) (v := .int cs.1) (C := RX2) (T := TX2) (N := 7) hx hb hAW iwX2 hown hK hP 0 rfl rfl 0 (by decide) (hAW _ q88) (fun _ h9 => h9) rfl dX2_moveSums_55 ?_
      refine lv_iadd hx hb dX2_moveSums_58 ?_
      refine lv_aload_n hx hb dX2_moveSums_59 rfl (lv_at hl 0 rfl) ?_
      refine va_get (D := D) (ci := 2) (v := .int cs.2.1) (C := RX2) (T := TX2) (N := 7) hx hb hAW iwX2 hown hK hP 0 rfl rfl 1 (by decide) (hAW _ q89) (fun _ h9 => h9) rfl dX2_moveSums_60 ?_
      refine lv_isub hx hb dX2_moveSums_63 ?_
      refine lv_iload_n hx hb dX2_moveSums_64 rfl (lv_at hl 1 rfl) ?_
      refine lv_isub hx hb dX2_moveSums_65 ?_
      refine va_mmax (x := 0) (y := (((cs.2.2.2.2.1 + cs.1) - cs.2.1) - x)) hx hb (hml.trans hl.1.symm) hown (hAW _ q430) (hAW _ q431) (hAW _ q37) (hAW _ q432) (by rw [hR]; exact Nat.le_of_ble_eq_true rfl) (by rw [hR]; exact Nat.le_of_ble_eq_true rfl) (Nat.zero_le _) (Nat.zero_le _) dX2_moveSums_66 ?_
      refine va_put (D := D) (ci := 2) (v := .int (if 0 < (((cs.2.2.2.2.1 + cs.1) - cs.2.1) - x) then (((cs.2.2.2.2.1 + cs.1) - cs.2.1) - x) else 0)) (ty := .int) (C := RX2) (T := TX2) (N := 7) hx hb hAW iwX2 tyX2 tyX2_ok nmX2 hown hK hP hD hS 0 rfl rfl 4 (by decide) (hAW _ q93) (fun _ h9 => h9) rfl (tyX2_ok 4 (by decide)) rfl rfl (Nat.le_of_ble_eq_true rfl) dX2_moveSums_69 (fun H locs hP hD hS => ?_)
      have hP : va_P D vwCl [(qc, .inr (2, [.int cs.1, .int cs.2.1, .int cs.2.2.1, .int (if 0 < (((cs.2.2.2.1 + x) - cs.1) - cs.2.1) then (((cs.2.2.2.1 + x) - cs.1) - cs.2.1) else 0), .int (if 0 < (((cs.2.2.2.2.1 + cs.1) - cs.2.1) - x) then (((cs.2.2.2.2.1 + cs.1) - cs.2.1) - x) else 0), .int (nI nu), .int (nI cs.2.2.2.2.2.2)]))] H := hP
      have hD : va_D A [(qc, .inr (2, [.int cs.1, .int cs.2.1, .int cs.2.2.1, .int (if 0 < (((cs.2.2.2.1 + x) - cs.1) - cs.2.1) then (((cs.2.2.2.1 + x) - cs.1) - cs.2.1) else 0), .int (if 0 < (((cs.2.2.2.2.1 + cs.1) - cs.2.1) - x) then (((cs.2.2.2.2.1 + cs.1) - cs.2.1) - x) else 0), .int (nI nu), .int (nI cs.2.2.2.2.2.2)]))] := hD
      exact fin_v hx hb hr hlk hP hS (by simp only [cs_mv, c4, c16, ↓reduceIte]) hQ dX2_moveSums_72
    · skip
      refine lv_aload_n hx hb dX2_moveSums_19 rfl (lv_at hl 0 rfl) ?_
      refine lv_iload_n hx hb dX2_moveSums_20 rfl (lv_at hl 2 rfl) ?_
      refine va_put (D := D) (ci := 2) (v := .int (nI nu)) (ty := .int) (C := RX2) (T := TX2) (N := 7) hx hb hAW iwX2 tyX2 tyX2_ok nmX2 hown hK hP hD hS 0 rfl rfl 6 (by decide) (hAW _ q96) (fun _ h9 => h9) rfl (tyX2_ok 6 (by decide)) rfl rfl (Nat.le_of_ble_eq_true rfl) dX2_moveSums_21 (fun H locs hP hD hS => ?_)
      have hP : va_P D vwCl [(qc, .inr (2, [.int cs.1, .int cs.2.1, .int cs.2.2.1, .int cs.2.2.2.1, .int cs.2.2.2.2.1, .int (nI nu), .int (nI nu)]))] H := hP
      have hD : va_D A [(qc, .inr (2, [.int cs.1, .int cs.2.1, .int cs.2.2.1, .int cs.2.2.2.1, .int cs.2.2.2.2.1, .int (nI nu), .int (nI nu)]))] := hD
      refine lv_aload_n hx hb dX2_moveSums_24 rfl (lv_at hl 0 rfl) ?_
      refine lv_iconst (v := 0) hx hb dX2_moveSums_25 (by decide) ?_
      refine lv_aload_n hx hb dX2_moveSums_26 rfl (lv_at hl 0 rfl) ?_
      refine va_get (D := D) (ci := 2) (v := .int cs.2.2.2.1) (C := RX2) (T := TX2) (N := 7) hx hb hAW iwX2 hown hK hP 0 rfl rfl 3 (by decide) (hAW _ q91) (fun _ h9 => h9) rfl dX2_moveSums_27 ?_
      refine lv_iload_n hx hb dX2_moveSums_30 rfl (lv_at hl 1 rfl) ?_
      refine lv_iadd hx hb dX2_moveSums_31 ?_
      refine lv_aload_n hx hb dX2_moveSums_32 rfl (lv_at hl 0 rfl) ?_
      refine va_get (D := D) (ci := 2) (v := .int cs.1) (C := RX2) (T := TX2) (N := 7) hx hb hAW iwX2 hown hK hP 0 rfl rfl 0 (by decide) (hAW _ q88) (fun _ h9 => h9) rfl dX2_moveSums_33 ?_
      refine lv_isub hx hb dX2_moveSums_36 ?_
      refine lv_aload_n hx hb dX2_moveSums_37 rfl (lv_at hl 0 rfl) ?_
      refine va_get (D := D) (ci := 2) (v := .int cs.2.1) (C := RX2) (T := TX2) (N := 7) hx hb hAW iwX2 hown hK hP 0 rfl rfl 1 (by decide) (hAW _ q89) (fun _ h9 => h9) rfl dX2_moveSums_38 ?_
      refine lv_isub hx hb dX2_moveSums_41 ?_
      refine va_mmax (x := 0) (y := (((cs.2.2.2.1 + x) - cs.1) - cs.2.1)) hx hb (hml.trans hl.1.symm) hown (hAW _ q430) (hAW _ q431) (hAW _ q37) (hAW _ q432) (by rw [hR]; exact Nat.le_of_ble_eq_true rfl) (by rw [hR]; exact Nat.le_of_ble_eq_true rfl) (Nat.zero_le _) (Nat.zero_le _) dX2_moveSums_42 ?_
      refine va_put (D := D) (ci := 2) (v := .int (if 0 < (((cs.2.2.2.1 + x) - cs.1) - cs.2.1) then (((cs.2.2.2.1 + x) - cs.1) - cs.2.1) else 0)) (ty := .int) (C := RX2) (T := TX2) (N := 7) hx hb hAW iwX2 tyX2 tyX2_ok nmX2 hown hK hP hD hS 0 rfl rfl 3 (by decide) (hAW _ q91) (fun _ h9 => h9) rfl (tyX2_ok 3 (by decide)) rfl rfl (Nat.le_of_ble_eq_true rfl) dX2_moveSums_45 (fun H locs hP hD hS => ?_)
      have hP : va_P D vwCl [(qc, .inr (2, [.int cs.1, .int cs.2.1, .int cs.2.2.1, .int (if 0 < (((cs.2.2.2.1 + x) - cs.1) - cs.2.1) then (((cs.2.2.2.1 + x) - cs.1) - cs.2.1) else 0), .int cs.2.2.2.2.1, .int (nI nu), .int (nI nu)]))] H := hP
      have hD : va_D A [(qc, .inr (2, [.int cs.1, .int cs.2.1, .int cs.2.2.1, .int (if 0 < (((cs.2.2.2.1 + x) - cs.1) - cs.2.1) then (((cs.2.2.2.1 + x) - cs.1) - cs.2.1) else 0), .int cs.2.2.2.2.1, .int (nI nu), .int (nI nu)]))] := hD
      refine lv_aload_n hx hb dX2_moveSums_48 rfl (lv_at hl 0 rfl) ?_
      refine lv_iconst (v := 0) hx hb dX2_moveSums_49 (by decide) ?_
      refine lv_aload_n hx hb dX2_moveSums_50 rfl (lv_at hl 0 rfl) ?_
      refine va_get (D := D) (ci := 2) (v := .int cs.2.2.2.2.1) (C := RX2) (T := TX2) (N := 7) hx hb hAW iwX2 hown hK hP 0 rfl rfl 4 (by decide) (hAW _ q93) (fun _ h9 => h9) rfl dX2_moveSums_51 ?_
      refine lv_aload_n hx hb dX2_moveSums_54 rfl (lv_at hl 0 rfl) ?_
      refine va_get (D := D) (ci := 2) (v := .int cs.1) (C := RX2) (T := TX2) (N := 7) hx hb hAW iwX2 hown hK hP 0 rfl rfl 0 (by decide) (hAW _ q88) (fun _ h9 => h9) rfl dX2_moveSums_55 ?_
      refine lv_iadd hx hb dX2_moveSums_58 ?_
      refine lv_aload_n hx hb dX2_moveSums_59 rfl (lv_at hl 0 rfl) ?_
      refine va_get (D := D) (ci := 2) (v := .int cs.2.1) (C := RX2) (T := TX2) (N := 7) hx hb hAW iwX2 hown hK hP 0 rfl rfl 1 (by decide) (hAW _ q89) (fun _ h9 => h9) rfl dX2_moveSums_60 ?_
      refine lv_isub hx hb dX2_moveSums_63 ?_
      refine lv_iload_n hx hb dX2_moveSums_64 rfl (lv_at hl 1 rfl) ?_
      refine lv_isub hx hb dX2_moveSums_65 ?_
      refine va_mmax (x := 0) (y := (((cs.2.2.2.2.1 + cs.1) - cs.2.1) - x)) hx hb (hml.trans hl.1.symm) hown (hAW _ q430) (hAW _ q431) (hAW _ q37) (hAW _ q432) (by rw [hR]; exact Nat.le_of_ble_eq_true rfl) (by rw [hR]; exact Nat.le_of_ble_eq_true rfl) (Nat.zero_le _) (Nat.zero_le _) dX2_moveSums_66 ?_
      refine va_put (D := D) (ci := 2) (v := .int (if 0 < (((cs.2.2.2.2.1 + cs.1) - cs.2.1) - x) then (((cs.2.2.2.2.1 + cs.1) - cs.2.1) - x) else 0)) (ty := .int) (C := RX2) (T := TX2) (N := 7) hx hb hAW iwX2 tyX2 tyX2_ok nmX2 hown hK hP hD hS 0 rfl rfl 4 (by decide) (hAW _ q93) (fun _ h9 => h9) rfl (tyX2_ok 4 (by decide)) rfl rfl (Nat.le_of_ble_eq_true rfl) dX2_moveSums_69 (fun H locs hP hD hS => ?_)
      have hP : va_P D vwCl [(qc, .inr (2, [.int cs.1, .int cs.2.1, .int cs.2.2.1, .int (if 0 < (((cs.2.2.2.1 + x) - cs.1) - cs.2.1) then (((cs.2.2.2.1 + x) - cs.1) - cs.2.1) else 0), .int (if 0 < (((cs.2.2.2.2.1 + cs.1) - cs.2.1) - x) then (((cs.2.2.2.2.1 + cs.1) - cs.2.1) - x) else 0), .int (nI nu), .int (nI nu)]))] H := hP
      have hD : va_D A [(qc, .inr (2, [.int cs.1, .int cs.2.1, .int cs.2.2.1, .int (if 0 < (((cs.2.2.2.1 + x) - cs.1) - cs.2.1) then (((cs.2.2.2.1 + x) - cs.1) - cs.2.1) else 0), .int (if 0 < (((cs.2.2.2.2.1 + cs.1) - cs.2.1) - x) then (((cs.2.2.2.2.1 + cs.1) - cs.2.1) - x) else 0), .int (nI nu), .int (nI nu)]))] := hD
      exact fin_v hx hb hr hlk hP hS (by simp only [cs_mv, c4, c16, ↓reduceIte]) hQ dX2_moveSums_72

set_option maxHeartbeats 4000000 in
set_option maxRecDepth 100000 in
theorem c_X2_watch (l : Launch) (D : va_G) (cI cZ : ClassId) (qc : Nat) (cs : CsS) (qa qk qn qs : Nat) (al : AlS) (x : Int32) (nu : Nat) (h360 : al.2.2.2 + 1 < 360) : Ci l yX2_watch (aw yX2_watch cX2_watch 5 (some .int)) ({ frames := 2, cells := 0, slots := 0, locals := 36 }) D cI cZ [.ref qc, .int x, .int (nI nu), .ref qa] [(qc, .inr (2, [.int cs.1, .int cs.2.1, .int cs.2.2.1, .int cs.2.2.2.1, .int cs.2.2.2.2.1, .int (nI cs.2.2.2.2.2.1), .int (nI cs.2.2.2.2.2.2)])), (qa, .inr (0, [.ref qk, .ref qn, .ref qs, .int (nI al.2.2.2)])), (qk, .inl (cI, 360, .inl (nIf al.1))), (qn, .inl (cI, 360, .inl (nIf al.2.1))), (qs, .inl (cI, 360, .inl (nIf al.2.2.1)))] [(qc, .inr (2, [.int ((cs_end (cs_mv cs x nu)).1), .int ((cs_end (cs_mv cs x nu)).2.1), .int ((cs_end (cs_mv cs x nu)).2.2.1), .int ((cs_end (cs_mv cs x nu)).2.2.2.1), .int ((cs_end (cs_mv cs x nu)).2.2.2.2.1), .int (nI ((cs_end (cs_mv cs x nu)).2.2.2.2.2.1)), .int (nI ((cs_end (cs_mv cs x nu)).2.2.2.2.2.2))])), (qa, .inr (0, [.ref qk, .ref qn, .ref qs, .int (nI ((cs_al (cs_mv cs x nu) al nu).2.2.2))])), (qk, .inl (cI, 360, .inl (nIf ((cs_al (cs_mv cs x nu) al nu).1)))), (qn, .inl (cI, 360, .inl (nIf ((cs_al (cs_mv cs x nu) al nu).2.1)))), (qs, .inl (cI, 360, .inl (nIf ((cs_al (cs_mv cs x nu) al nu).2.2.1))))] (cs_bits (cs_mv cs x nu)) := by
  refine mk_any (y := yX2_watch) (av := [.ref qc, .int x, .int (nI nu), .ref qa]) (cc := cX2_watch) (maxL := 5) (ret := (some .int)) (Qc := fun A => va_Qi (fun rr9 (_ : Unit) => rr9 = cs_bits (cs_mv cs x nu)) (cb D [(qc, .inr (2, [.int ((cs_end (cs_mv cs x nu)).1), .int ((cs_end (cs_mv cs x nu)).2.1), .int ((cs_end (cs_mv cs x nu)).2.2.1), .int ((cs_end (cs_mv cs x nu)).2.2.2.1), .int ((cs_end (cs_mv cs x nu)).2.2.2.2.1), .int (nI ((cs_end (cs_mv cs x nu)).2.2.2.2.2.1)), .int (nI ((cs_end (cs_mv cs x nu)).2.2.2.2.2.2))])), (qa, .inr (0, [.ref qk, .ref qn, .ref qs, .int (nI ((cs_al (cs_mv cs x nu) al nu).2.2.2))])), (qk, .inl (cI, 360, .inl (nIf ((cs_al (cs_mv cs x nu) al nu).1)))), (qn, .inl (cI, 360, .inl (nIf ((cs_al (cs_mv cs x nu) al nu).2.1)))), (qs, .inl (cI, 360, .inl (nIf ((cs_al (cs_mv cs x nu) al nu).2.2.1))))]) A) (plainFor_of_name (by decide)) (Nat.le_of_ble_eq_true rfl) ?_
  intro p e s m args below meth c A Q R hR hQ hx hb hr hml hAW hown hlk hN hA hP hK hD hS ls hl
  have hl : lv_has ls 5 [(0, .ref qc), (1, .int x), (2, .int (nI nu)), (3, .ref qa)] := hl
  refine lv_aload_n hx hb dX2_watch_0 rfl (lv_at hl 0 rfl) ?_
  refine lv_iload_n hx hb dX2_watch_1 rfl (lv_at hl 1 rfl) ?_
  refine lv_iload_n hx hb dX2_watch_2 rfl (lv_at hl 2 rfl) ?_
  refine call_Vv (D := D) (rest := []) (ws' := [(qc, .inr (2, [.int ((cs_mv cs x nu).1), .int ((cs_mv cs x nu).2.1), .int ((cs_mv cs x nu).2.2.1), .int ((cs_mv cs x nu).2.2.2.1), .int ((cs_mv cs x nu).2.2.2.2.1), .int (nI ((cs_mv cs x nu).2.2.2.2.2.1)), .int (nI ((cs_mv cs x nu).2.2.2.2.2.2))])), (qa, .inr (0, [.ref qk, .ref qn, .ref qs, .int (nI al.2.2.2)])), (qk, .inl (cI, 360, .inl (nIf al.1))), (qn, .inl (cI, 360, .inl (nIf al.2.1))), (qs, .inl (cI, 360, .inl (nIf al.2.2.1)))]) (ad := [qc]) (ad2 := [qc, qa, qk, qn, qs]) hx hb hml hown hAW hN (c_X2_moveSums l D cI cZ qc cs x nu) (cwVA 2 hAW q426 q428 q3 q24 q429 hd_X2_moveSums (by rw [hR]; exact Nat.le_of_ble_eq_true rfl) (by rw [hR]; exact Nat.le_of_ble_eq_true rfl) rfl rfl) hK hP hD hS hA [0] rfl rfl rfl rfl rfl rfl (by decide +kernel) (ci := 2) (q0 := 0) rfl rfl rfl rfl hl.1 rfl (lv_room (Nat.le_of_ble_eq_true rfl)) dX2_watch_3 (Nat.zero_le _) (Nat.zero_le _) (fun H locs hP hD hS => ?_)
  refine lv_iconst (v := 0) hx hb dX2_watch_6 (by decide) ?_
  refine lv_istore (lv' := [(4, .int 0), (0, .ref qc), (1, .int x), (2, .int (nI nu)), (3, .ref qa)]) hx hb dX2_watch_7 hl (by decide) rfl (fun ls hl => ?_)
  refine lv_aload_n hx hb dX2_watch_9 rfl (lv_at hl 1 rfl) ?_
  refine va_get (D := D) (ci := 2) (v := .int ((cs_mv cs x nu).2.2.2.1)) (C := RX2) (T := TX2) (N := 7) hx hb hAW iwX2 hown hK hP 0 rfl rfl 3 (by decide) (hAW _ q91) (fun _ h9 => h9) rfl dX2_watch_10 ?_
  refine lv_aload_n hx hb dX2_watch_13 rfl (lv_at hl 1 rfl) ?_
  refine va_get (D := D) (ci := 2) (v := .int ((cs_mv cs x nu).2.2.1)) (C := RX2) (T := TX2) (N := 7) hx hb hAW iwX2 hown hK hP 0 rfl rfl 2 (by decide) (hAW _ q90) (fun _ h9 => h9) rfl dX2_watch_14 ?_
  refine lv_icmp_le (tgt := 36) hx hb dX2_watch_17 (by decide) (fun c17 => ?_) (fun c17 => ?_)
  · skip
    refine lv_aload_n hx hb dX2_watch_36 rfl (lv_at hl 1 rfl) ?_
    refine va_get (D := D) (ci := 2) (v := .int ((cs_mv cs x nu).2.2.2.2.1)) (C := RX2) (T := TX2) (N := 7) hx hb hAW iwX2 hown hK hP 0 rfl rfl 4 (by decide) (hAW _ q93) (fun _ h9 => h9) rfl dX2_watch_37 ?_
    refine lv_aload_n hx hb dX2_watch_40 rfl (lv_at hl 1 rfl) ?_
    refine va_get (D := D) (ci := 2) (v := .int ((cs_mv cs x nu).2.2.1)) (C := RX2) (T := TX2) (N := 7) hx hb hAW iwX2 hown hK hP 0 rfl rfl 2 (by decide) (hAW _ q90) (fun _ h9 => h9) rfl dX2_watch_41 ?_
    refine lv_icmp_le (tgt := 63) hx hb dX2_watch_44 (by decide) (fun c44 => ?_) (fun c44 => ?_)
    · skip
      refine lv_iload hx hb dX2_watch_63 (lv_at hl 0 rfl) ?_
      refine lv_if_eq (tgt := 72) hx hb dX2_watch_65 (by decide) (fun c65 => ?_) (fun c65 => absurd c65 (by decide))
      refine lv_iload hx hb dX2_watch_72 (lv_at hl 0 rfl) ?_
      exact fin_i (v := 0) hx hb hr hlk hP hS rfl (by simp only [cs_bits, c17, c44, ↓reduceIte]) (by simp only [cs_end, cs_al, c17, c44, ↓reduceIte, and_self, and_true, and_false, true_and, false_and]) hQ dX2_watch_74
    · skip
      refine lv_aload_n hx hb dX2_watch_47 rfl (lv_at hl 4 rfl) ?_
      refine lv_iconst (v := 1) hx hb dX2_watch_48 (by decide) ?_
      refine lv_iload_n hx hb dX2_watch_49 rfl (lv_at hl 3 rfl) ?_
      refine lv_aload_n hx hb dX2_watch_50 rfl (lv_at hl 1 rfl) ?_
      refine va_get (D := D) (ci := 2) (v := .int (nI ((cs_mv cs x nu).2.2.2.2.2.2))) (C := RX2) (T := TX2) (N := 7) hx hb hAW iwX2 hown hK hP 0 rfl rfl 6 (by decide) (hAW _ q96) (fun _ h9 => h9) rfl dX2_watch_51 ?_
      refine call_Vv (D := D) (rest := []) (ws' := [(qc, .inr (2, [.int ((cs_mv cs x nu).1), .int ((cs_mv cs x nu).2.1), .int ((cs_mv cs x nu).2.2.1), .int ((cs_mv cs x nu).2.2.2.1), .int ((cs_mv cs x nu).2.2.2.2.1), .int (nI ((cs_mv cs x nu).2.2.2.2.2.1)), .int (nI ((cs_mv cs x nu).2.2.2.2.2.2))])), (qa, .inr (0, [.ref qk, .ref qn, .ref qs, .int (nI ((al_raise al 1 nu ((cs_mv cs x nu).2.2.2.2.2.2)).2.2.2))])), (qk, .inl (cI, 360, .inl (nIf ((al_raise al 1 nu ((cs_mv cs x nu).2.2.2.2.2.2)).1)))), (qn, .inl (cI, 360, .inl (nIf ((al_raise al 1 nu ((cs_mv cs x nu).2.2.2.2.2.2)).2.1)))), (qs, .inl (cI, 360, .inl (nIf ((al_raise al 1 nu ((cs_mv cs x nu).2.2.2.2.2.2)).2.2.1))))]) (ad := [qa, qk, qn, qs]) (ad2 := [qc, qa, qk, qn, qs]) hx hb hml hown hAW hN (c_X0_raise l D cI cZ qa qk qn qs al 1 nu ((cs_mv cs x nu).2.2.2.2.2.2) (by omega)) (cwVA 3 hAW q433 q434 q435 q23 q436 hd_X0_raise (by rw [hR]; exact Nat.le_of_ble_eq_true rfl) (by rw [hR]; exact Nat.le_of_ble_eq_true rfl) rfl rfl) hK hP hD hS hA [1, 2, 3, 4] rfl rfl rfl rfl rfl rfl (by decide +kernel) (ci := 0) (q0 := 1) rfl rfl rfl rfl hl.1 rfl (lv_room (Nat.le_of_ble_eq_true rfl)) dX2_watch_54 (Nat.zero_le _) (Nat.zero_le _) (fun H locs hP hD hS => ?_)
      refine lv_iload hx hb dX2_watch_57 (lv_at hl 0 rfl) ?_
      refine lv_iconst (v := 2) hx hb dX2_watch_59 (by decide) ?_
      refine lv_ior hx hb dX2_watch_60 ?_
      refine lv_topi (fun y9 ey9 => ?_)
      have ey9 : y9 = 2 := ey9.trans (by decide)
      subst ey9
      refine lv_istore (lv' := [(4, .int 2), (0, .ref qc), (1, .int x), (2, .int (nI nu)), (3, .ref qa)]) hx hb dX2_watch_61 hl (by decide) rfl (fun ls hl => ?_)
      refine lv_iload hx hb dX2_watch_63 (lv_at hl 0 rfl) ?_
      refine lv_if_eq (tgt := 72) hx hb dX2_watch_65 (by decide) (fun c65 => absurd c65 (by decide)) (fun c65 => ?_)
      refine lv_aload_n hx hb dX2_watch_68 rfl (lv_at hl 1 rfl) ?_
      refine call_Vv (D := D) (rest := []) (ws' := [(qc, .inr (2, [.int ((cs_anew (cs_mv cs x nu)).1), .int ((cs_anew (cs_mv cs x nu)).2.1), .int ((cs_anew (cs_mv cs x nu)).2.2.1), .int ((cs_anew (cs_mv cs x nu)).2.2.2.1), .int ((cs_anew (cs_mv cs x nu)).2.2.2.2.1), .int (nI ((cs_anew (cs_mv cs x nu)).2.2.2.2.2.1)), .int (nI ((cs_anew (cs_mv cs x nu)).2.2.2.2.2.2))])), (qa, .inr (0, [.ref qk, .ref qn, .ref qs, .int (nI ((al_raise al 1 nu ((cs_mv cs x nu).2.2.2.2.2.2)).2.2.2))])), (qk, .inl (cI, 360, .inl (nIf ((al_raise al 1 nu ((cs_mv cs x nu).2.2.2.2.2.2)).1)))), (qn, .inl (cI, 360, .inl (nIf ((al_raise al 1 nu ((cs_mv cs x nu).2.2.2.2.2.2)).2.1)))), (qs, .inl (cI, 360, .inl (nIf ((al_raise al 1 nu ((cs_mv cs x nu).2.2.2.2.2.2)).2.2.1))))]) (ad := [qc]) (ad2 := [qc, qa, qk, qn, qs]) hx hb hml hown hAW hN (c_X2_beginAnew l D cI cZ qc (cs_mv cs x nu) ) (cwVA 0 hAW q84 q85 q86 q24 q87 hd_X2_beginAnew (by rw [hR]; exact Nat.le_of_ble_eq_true rfl) (by rw [hR]; exact Nat.le_of_ble_eq_true rfl) rfl rfl) hK hP hD hS hA [0] rfl rfl rfl rfl rfl rfl (by decide +kernel) (ci := 2) (q0 := 0) rfl rfl rfl rfl hl.1 rfl (lv_room (Nat.le_of_ble_eq_true rfl)) dX2_watch_69 (Nat.zero_le _) (Nat.zero_le _) (fun H locs hP hD hS => ?_)
      refine lv_iload hx hb dX2_watch_72 (lv_at hl 0 rfl) ?_
      exact fin_i (v := 2) hx hb hr hlk hP hS rfl (by simp only [cs_bits, c17, c44, ↓reduceIte]) (by simp only [cs_end, cs_al, c17, c44, ↓reduceIte, and_self, and_true, and_false, true_and, false_and]) hQ dX2_watch_74
  · skip
    refine lv_aload_n hx hb dX2_watch_20 rfl (lv_at hl 4 rfl) ?_
    refine lv_iconst (v := 0) hx hb dX2_watch_21 (by decide) ?_
    refine lv_iload_n hx hb dX2_watch_22 rfl (lv_at hl 3 rfl) ?_
    refine lv_aload_n hx hb dX2_watch_23 rfl (lv_at hl 1 rfl) ?_
    refine va_get (D := D) (ci := 2) (v := .int (nI ((cs_mv cs x nu).2.2.2.2.2.1))) (C := RX2) (T := TX2) (N := 7) hx hb hAW iwX2 hown hK hP 0 rfl rfl 5 (by decide) (hAW _ q95) (fun _ h9 => h9) rfl dX2_watch_24 ?_
    refine call_Vv (D := D) (rest := []) (ws' := [(qc, .inr (2, [.int ((cs_mv cs x nu).1), .int ((cs_mv cs x nu).2.1), .int ((cs_mv cs x nu).2.2.1), .int ((cs_mv cs x nu).2.2.2.1), .int ((cs_mv cs x nu).2.2.2.2.1), .int (nI ((cs_mv cs x nu).2.2.2.2.2.1)), .int (nI ((cs_mv cs x nu).2.2.2.2.2.2))])), (qa, .inr (0, [.ref qk, .ref qn, .ref qs, .int (nI ((al_raise al 0 nu ((cs_mv cs x nu).2.2.2.2.2.1)).2.2.2))])), (qk, .inl (cI, 360, .inl (nIf ((al_raise al 0 nu ((cs_mv cs x nu).2.2.2.2.2.1)).1)))), (qn, .inl (cI, 360, .inl (nIf ((al_raise al 0 nu ((cs_mv cs x nu).2.2.2.2.2.1)).2.1)))), (qs, .inl (cI, 360, .inl (nIf ((al_raise al 0 nu ((cs_mv cs x nu).2.2.2.2.2.1)).2.2.1))))]) (ad := [qa, qk, qn, qs]) (ad2 := [qc, qa, qk, qn, qs]) hx hb hml hown hAW hN (c_X0_raise l D cI cZ qa qk qn qs al 0 nu ((cs_mv cs x nu).2.2.2.2.2.1) (by omega)) (cwVA 3 hAW q433 q434 q435 q23 q436 hd_X0_raise (by rw [hR]; exact Nat.le_of_ble_eq_true rfl) (by rw [hR]; exact Nat.le_of_ble_eq_true rfl) rfl rfl) hK hP hD hS hA [1, 2, 3, 4] rfl rfl rfl rfl rfl rfl (by decide +kernel) (ci := 0) (q0 := 1) rfl rfl rfl rfl hl.1 rfl (lv_room (Nat.le_of_ble_eq_true rfl)) dX2_watch_27 (Nat.zero_le _) (Nat.zero_le _) (fun H locs hP hD hS => ?_)
    refine lv_iload hx hb dX2_watch_30 (lv_at hl 0 rfl) ?_
    refine lv_iconst (v := 1) hx hb dX2_watch_32 (by decide) ?_
    refine lv_ior hx hb dX2_watch_33 ?_
    refine lv_topi (fun y9 ey9 => ?_)
    have ey9 : y9 = 1 := ey9.trans (by decide)
    subst ey9
    refine lv_istore (lv' := [(4, .int 1), (0, .ref qc), (1, .int x), (2, .int (nI nu)), (3, .ref qa)]) hx hb dX2_watch_34 hl (by decide) rfl (fun ls hl => ?_)
    refine lv_aload_n hx hb dX2_watch_36 rfl (lv_at hl 1 rfl) ?_
    refine va_get (D := D) (ci := 2) (v := .int ((cs_mv cs x nu).2.2.2.2.1)) (C := RX2) (T := TX2) (N := 7) hx hb hAW iwX2 hown hK hP 0 rfl rfl 4 (by decide) (hAW _ q93) (fun _ h9 => h9) rfl dX2_watch_37 ?_
    refine lv_aload_n hx hb dX2_watch_40 rfl (lv_at hl 1 rfl) ?_
    refine va_get (D := D) (ci := 2) (v := .int ((cs_mv cs x nu).2.2.1)) (C := RX2) (T := TX2) (N := 7) hx hb hAW iwX2 hown hK hP 0 rfl rfl 2 (by decide) (hAW _ q90) (fun _ h9 => h9) rfl dX2_watch_41 ?_
    refine lv_icmp_le (tgt := 63) hx hb dX2_watch_44 (by decide) (fun c44 => ?_) (fun c44 => ?_)
    · skip
      refine lv_iload hx hb dX2_watch_63 (lv_at hl 0 rfl) ?_
      refine lv_if_eq (tgt := 72) hx hb dX2_watch_65 (by decide) (fun c65 => absurd c65 (by decide)) (fun c65 => ?_)
      refine lv_aload_n hx hb dX2_watch_68 rfl (lv_at hl 1 rfl) ?_
      refine call_Vv (D := D) (rest := []) (ws' := [(qc, .inr (2, [.int ((cs_anew (cs_mv cs x nu)).1), .int ((cs_anew (cs_mv cs x nu)).2.1), .int ((cs_anew (cs_mv cs x nu)).2.2.1), .int ((cs_anew (cs_mv cs x nu)).2.2.2.1), .int ((cs_anew (cs_mv cs x nu)).2.2.2.2.1), .int (nI ((cs_anew (cs_mv cs x nu)).2.2.2.2.2.1)), .int (nI ((cs_anew (cs_mv cs x nu)).2.2.2.2.2.2))])), (qa, .inr (0, [.ref qk, .ref qn, .ref qs, .int (nI ((al_raise al 0 nu ((cs_mv cs x nu).2.2.2.2.2.1)).2.2.2))])), (qk, .inl (cI, 360, .inl (nIf ((al_raise al 0 nu ((cs_mv cs x nu).2.2.2.2.2.1)).1)))), (qn, .inl (cI, 360, .inl (nIf ((al_raise al 0 nu ((cs_mv cs x nu).2.2.2.2.2.1)).2.1)))), (qs, .inl (cI, 360, .inl (nIf ((al_raise al 0 nu ((cs_mv cs x nu).2.2.2.2.2.1)).2.2.1))))]) (ad := [qc]) (ad2 := [qc, qa, qk, qn, qs]) hx hb hml hown hAW hN (c_X2_beginAnew l D cI cZ qc (cs_mv cs x nu) ) (cwVA 0 hAW q84 q85 q86 q24 q87 hd_X2_beginAnew (by rw [hR]; exact Nat.le_of_ble_eq_true rfl) (by rw [hR]; exact Nat.le_of_ble_eq_true rfl) rfl rfl) hK hP hD hS hA [0] rfl rfl rfl rfl rfl rfl (by decide +kernel) (ci := 2) (q0 := 0) rfl rfl rfl rfl hl.1 rfl (lv_room (Nat.le_of_ble_eq_true rfl)) dX2_watch_69 (Nat.zero_le _) (Nat.zero_le _) (fun H locs hP hD hS => ?_)
      refine lv_iload hx hb dX2_watch_72 (lv_at hl 0 rfl) ?_
      exact fin_i (v := 1) hx hb hr hlk hP hS rfl (by simp only [cs_bits, c17, c44, ↓reduceIte]) (by simp only [cs_end, cs_al, c17, c44, ↓reduceIte, and_self, and_true, and_false, true_and, false_and]) hQ dX2_watch_74
    · skip
      refine lv_aload_n hx hb dX2_watch_47 rfl (lv_at hl 4 rfl) ?_
      refine lv_iconst (v := 1) hx hb dX2_watch_48 (by decide) ?_
      refine lv_iload_n hx hb dX2_watch_49 rfl (lv_at hl 3 rfl) ?_
      refine lv_aload_n hx hb dX2_watch_50 rfl (lv_at hl 1 rfl) ?_
      refine va_get (D := D) (ci := 2) (v := .int (nI ((cs_mv cs x nu).2.2.2.2.2.2))) (C := RX2) (T := TX2) (N := 7) hx hb hAW iwX2 hown hK hP 0 rfl rfl 6 (by decide) (hAW _ q96) (fun _ h9 => h9) rfl dX2_watch_51 ?_
      refine call_Vv (D := D) (rest := []) (ws' := [(qc, .inr (2, [.int ((cs_mv cs x nu).1), .int ((cs_mv cs x nu).2.1), .int ((cs_mv cs x nu).2.2.1), .int ((cs_mv cs x nu).2.2.2.1), .int ((cs_mv cs x nu).2.2.2.2.1), .int (nI ((cs_mv cs x nu).2.2.2.2.2.1)), .int (nI ((cs_mv cs x nu).2.2.2.2.2.2))])), (qa, .inr (0, [.ref qk, .ref qn, .ref qs, .int (nI ((al_raise (al_raise al 0 nu ((cs_mv cs x nu).2.2.2.2.2.1)) 1 nu ((cs_mv cs x nu).2.2.2.2.2.2)).2.2.2))])), (qk, .inl (cI, 360, .inl (nIf ((al_raise (al_raise al 0 nu ((cs_mv cs x nu).2.2.2.2.2.1)) 1 nu ((cs_mv cs x nu).2.2.2.2.2.2)).1)))), (qn, .inl (cI, 360, .inl (nIf ((al_raise (al_raise al 0 nu ((cs_mv cs x nu).2.2.2.2.2.1)) 1 nu ((cs_mv cs x nu).2.2.2.2.2.2)).2.1)))), (qs, .inl (cI, 360, .inl (nIf ((al_raise (al_raise al 0 nu ((cs_mv cs x nu).2.2.2.2.2.1)) 1 nu ((cs_mv cs x nu).2.2.2.2.2.2)).2.2.1))))]) (ad := [qa, qk, qn, qs]) (ad2 := [qc, qa, qk, qn, qs]) hx hb hml hown hAW hN (c_X0_raise l D cI cZ qa qk qn qs (al_raise al 0 nu ((cs_mv cs x nu).2.2.2.2.2.1)) 1 nu ((cs_mv cs x nu).2.2.2.2.2.2) (by omega)) (cwVA 3 hAW q433 q434 q435 q23 q436 hd_X0_raise (by rw [hR]; exact Nat.le_of_ble_eq_true rfl) (by rw [hR]; exact Nat.le_of_ble_eq_true rfl) rfl rfl) hK hP hD hS hA [1, 2, 3, 4] rfl rfl rfl rfl rfl rfl (by decide +kernel) (ci := 0) (q0 := 1) rfl rfl rfl rfl hl.1 rfl (lv_room (Nat.le_of_ble_eq_true rfl)) dX2_watch_54 (Nat.zero_le _) (Nat.zero_le _) (fun H locs hP hD hS => ?_)
      refine lv_iload hx hb dX2_watch_57 (lv_at hl 0 rfl) ?_
      refine lv_iconst (v := 2) hx hb dX2_watch_59 (by decide) ?_
      refine lv_ior hx hb dX2_watch_60 ?_
      refine lv_topi (fun y9 ey9 => ?_)
      have ey9 : y9 = 3 := ey9.trans (by decide)
      subst ey9
      refine lv_istore (lv' := [(4, .int 3), (0, .ref qc), (1, .int x), (2, .int (nI nu)), (3, .ref qa)]) hx hb dX2_watch_61 hl (by decide) rfl (fun ls hl => ?_)
      refine lv_iload hx hb dX2_watch_63 (lv_at hl 0 rfl) ?_
      refine lv_if_eq (tgt := 72) hx hb dX2_watch_65 (by decide) (fun c65 => absurd c65 (by decide)) (fun c65 => ?_)
      refine lv_aload_n hx hb dX2_watch_68 rfl (lv_at hl 1 rfl) ?_
      refine call_Vv (D := D) (rest := []) (ws' := [(qc, .inr (2, [.int ((cs_anew (cs_mv cs x nu)).1), .int ((cs_anew (cs_mv cs x nu)).2.1), .int ((cs_anew (cs_mv cs x nu)).2.2.1), .int ((cs_anew (cs_mv cs x nu)).2.2.2.1), .int ((cs_anew (cs_mv cs x nu)).2.2.2.2.1), .int (nI ((cs_anew (cs_mv cs x nu)).2.2.2.2.2.1)), .int (nI ((cs_anew (cs_mv cs x nu)).2.2.2.2.2.2))])), (qa, .inr (0, [.ref qk, .ref qn, .ref qs, .int (nI ((al_raise (al_raise al 0 nu ((cs_mv cs x nu).2.2.2.2.2.1)) 1 nu ((cs_mv cs x nu).2.2.2.2.2.2)).2.2.2))])), (qk, .inl (cI, 360, .inl (nIf ((al_raise (al_raise al 0 nu ((cs_mv cs x nu).2.2.2.2.2.1)) 1 nu ((cs_mv cs x nu).2.2.2.2.2.2)).1)))), (qn, .inl (cI, 360, .inl (nIf ((al_raise (al_raise al 0 nu ((cs_mv cs x nu).2.2.2.2.2.1)) 1 nu ((cs_mv cs x nu).2.2.2.2.2.2)).2.1)))), (qs, .inl (cI, 360, .inl (nIf ((al_raise (al_raise al 0 nu ((cs_mv cs x nu).2.2.2.2.2.1)) 1 nu ((cs_mv cs x nu).2.2.2.2.2.2)).2.2.1))))]) (ad := [qc]) (ad2 := [qc, qa, qk, qn, qs]) hx hb hml hown hAW hN (c_X2_beginAnew l D cI cZ qc (cs_mv cs x nu) ) (cwVA 0 hAW q84 q85 q86 q24 q87 hd_X2_beginAnew (by rw [hR]; exact Nat.le_of_ble_eq_true rfl) (by rw [hR]; exact Nat.le_of_ble_eq_true rfl) rfl rfl) hK hP hD hS hA [0] rfl rfl rfl rfl rfl rfl (by decide +kernel) (ci := 2) (q0 := 0) rfl rfl rfl rfl hl.1 rfl (lv_room (Nat.le_of_ble_eq_true rfl)) dX2_watch_69 (Nat.zero_le _) (Nat.zero_le _) (fun H locs hP hD hS => ?_)
      refine lv_iload hx hb dX2_watch_72 (lv_at hl 0 rfl) ?_
      exact fin_i (v := 3) hx hb hr hlk hP hS rfl (by simp only [cs_bits, c17, c44, ↓reduceIte]) (by simp only [cs_end, cs_al, c17, c44, ↓reduceIte, and_self, and_true, and_false, true_and, false_and]) hQ dX2_watch_74

set_option maxHeartbeats 4000000 in
set_option maxRecDepth 100000 in
theorem c_J9_floorDiv_7cf53 (l : Launch) (D : va_G) (cI cZ : ClassId) (x y : Int32) (hy : ¬ y = 0) : Ci l yJ9_floorDiv_7cf53 (aw yJ9_floorDiv_7cf53 cJ9_floorDiv_7cf53 3 (some .int)) ({ frames := 0, cells := 0, slots := 0, locals := 0 }) D cI cZ [.int x, .int y] [] [] (jfd x y) := by
  refine mk_any (y := yJ9_floorDiv_7cf53) (av := [.int x, .int y]) (cc := cJ9_floorDiv_7cf53) (maxL := 3) (ret := (some .int)) (Qc := fun A => va_Qi (fun rr9 (_ : Unit) => rr9 = jfd x y) (cb D []) A) (by decide +kernel) (Nat.le_of_ble_eq_true rfl) ?_
  intro p e s m args below meth c A Q R hR hQ hx hb hr hml hAW hown hlk hN hA hP hK hD hS ls hl
  have hl : lv_has ls 3 [(0, .int x), (1, .int y)] := hl
  refine lv_iload_n hx hb dJ9_floorDiv_7cf53_0 rfl (lv_at hl 0 rfl) ?_
  refine lv_iload_n hx hb dJ9_floorDiv_7cf53_1 rfl (lv_at hl 1 rfl) ?_
  refine lv_idiv hx hb dJ9_floorDiv_7cf53_2 hy ?_
  refine lv_istore_n (lv' := [(2, .int (x / y)), (0, .int x), (1, .int y)]) hx hb dJ9_floorDiv_7cf53_3 rfl hl (by decide) rfl (fun ls hl => ?_)
  refine lv_iload_n hx hb dJ9_floorDiv_7cf53_4 rfl (lv_at hl 1 rfl) ?_
  refine lv_iload_n hx hb dJ9_floorDiv_7cf53_5 rfl (lv_at hl 2 rfl) ?_
  refine lv_ixor hx hb dJ9_floorDiv_7cf53_6 ?_
  refine lv_if_ge (tgt := 21) hx hb dJ9_floorDiv_7cf53_7 (by decide) (fun c7 => ?_) (fun c7 => ?_)
  · skip
    refine lv_iload_n hx hb dJ9_floorDiv_7cf53_21 rfl (lv_at hl 0 rfl) ?_
    exact fin_i (v := (x / y)) hx hb hr hlk hP hS rfl (by simp only [jfd, c7, ↓reduceIte]) rfl hQ dJ9_floorDiv_7cf53_22
  · skip
    refine lv_iload_n hx hb dJ9_floorDiv_7cf53_10 rfl (lv_at hl 0 rfl) ?_
    refine lv_iload_n hx hb dJ9_floorDiv_7cf53_11 rfl (lv_at hl 2 rfl) ?_
    refine lv_imul hx hb dJ9_floorDiv_7cf53_12 ?_
    refine lv_iload_n hx hb dJ9_floorDiv_7cf53_13 rfl (lv_at hl 1 rfl) ?_
    refine lv_icmp_eq (tgt := 21) hx hb dJ9_floorDiv_7cf53_14 (by decide) (fun c14 => ?_) (fun c14 => ?_)
    · skip
      refine lv_iload_n hx hb dJ9_floorDiv_7cf53_21 rfl (lv_at hl 0 rfl) ?_
      exact fin_i (v := (x / y)) hx hb hr hlk hP hS rfl (by simp only [jfd, c7, c14, ↓reduceIte]) rfl hQ dJ9_floorDiv_7cf53_22
    · skip
      refine lv_iload_n hx hb dJ9_floorDiv_7cf53_17 rfl (lv_at hl 0 rfl) ?_
      refine lv_iconst (v := 1) hx hb dJ9_floorDiv_7cf53_18 (by decide) ?_
      refine lv_isub hx hb dJ9_floorDiv_7cf53_19 ?_
      exact fin_i (v := ((x / y) - 1)) hx hb hr hlk hP hS rfl (by simp only [jfd, c7, c14, ↓reduceIte]) rfl hQ dJ9_floorDiv_7cf53_20

set_option maxHeartbeats 4000000 in
set_option maxRecDepth 100000 in
theorem c_X6_beginAnew (l : Launch) (D : va_G) (cI cZ : ClassId) (qh : Nat) (ph : PhS) : Cv l yX6_beginAnew (aw yX6_beginAnew cX6_beginAnew 1 none) ({ frames := 0, cells := 0, slots := 0, locals := 0 }) D cI cZ [.ref qh] [(qh, .inr (5, [.int ph.1, .int ph.2.1, .int ph.2.2.1, .int (nI ph.2.2.2.1), .int ph.2.2.2.2.1, .int ph.2.2.2.2.2.1, .int ph.2.2.2.2.2.2.1, .int (nI ph.2.2.2.2.2.2.2)]))] [(qh, .inr (5, [.int ((ph_anew ph).1), .int ((ph_anew ph).2.1), .int ((ph_anew ph).2.2.1), .int (nI ((ph_anew ph).2.2.2.1)), .int ((ph_anew ph).2.2.2.2.1), .int ((ph_anew ph).2.2.2.2.2.1), .int ((ph_anew ph).2.2.2.2.2.2.1), .int (nI ((ph_anew ph).2.2.2.2.2.2.2))]))] := by
  refine mk_any (y := yX6_beginAnew) (av := [.ref qh]) (cc := cX6_beginAnew) (maxL := 1) (ret := none) (Qc := fun A => va_Qv (fun (_ : Unit) => True) (cb D [(qh, .inr (5, [.int ((ph_anew ph).1), .int ((ph_anew ph).2.1), .int ((ph_anew ph).2.2.1), .int (nI ((ph_anew ph).2.2.2.1)), .int ((ph_anew ph).2.2.2.2.1), .int ((ph_anew ph).2.2.2.2.2.1), .int ((ph_anew ph).2.2.2.2.2.2.1), .int (nI ((ph_anew ph).2.2.2.2.2.2.2))]))]) A) (plainFor_of_name (by decide)) (Nat.le_of_ble_eq_true rfl) ?_
  intro p e s m args below meth c A Q R hR hQ hx hb hr hml hAW hown hlk hN hA hP hK hD hS ls hl
  have hl : lv_has ls 1 [(0, .ref qh)] := hl
  refine lv_aload_n hx hb dX6_beginAnew_0 rfl (lv_at hl 0 rfl) ?_
  refine lv_iconst (v := 0) hx hb dX6_beginAnew_1 (by decide) ?_
  refine va_put (D := D) (ci := 5) (v := .int 0) (ty := .int) (C := RX6) (T := TX6) (N := 8) hx hb hAW iwX6 tyX6 tyX6_ok nmX6 hown hK hP hD hS 0 rfl rfl 3 (by decide) (hAW _ q129) (fun _ h9 => h9) rfl (tyX6_ok 3 (by decide)) rfl rfl (Nat.le_of_ble_eq_true rfl) dX6_beginAnew_2 (fun H locs hP hD hS => ?_)
  have hP : va_P D vwCl [(qh, .inr (5, [.int ph.1, .int ph.2.1, .int ph.2.2.1, .int 0, .int ph.2.2.2.2.1, .int ph.2.2.2.2.2.1, .int ph.2.2.2.2.2.2.1, .int (nI ph.2.2.2.2.2.2.2)]))] H := hP
  have hD : va_D A [(qh, .inr (5, [.int ph.1, .int ph.2.1, .int ph.2.2.1, .int 0, .int ph.2.2.2.2.1, .int ph.2.2.2.2.2.1, .int ph.2.2.2.2.2.2.1, .int (nI ph.2.2.2.2.2.2.2)]))] := hD
  refine lv_aload_n hx hb dX6_beginAnew_5 rfl (lv_at hl 0 rfl) ?_
  refine lv_iconst (v := 0) hx hb dX6_beginAnew_6 (by decide) ?_
  refine va_put (D := D) (ci := 5) (v := .int 0) (ty := .int) (C := RX6) (T := TX6) (N := 8) hx hb hAW iwX6 tyX6 tyX6_ok nmX6 hown hK hP hD hS 0 rfl rfl 4 (by decide) (hAW _ q130) (fun _ h9 => h9) rfl (tyX6_ok 4 (by decide)) rfl rfl (Nat.le_of_ble_eq_true rfl) dX6_beginAnew_7 (fun H locs hP hD hS => ?_)
  have hP : va_P D vwCl [(qh, .inr (5, [.int ph.1, .int ph.2.1, .int ph.2.2.1, .int 0, .int 0, .int ph.2.2.2.2.2.1, .int ph.2.2.2.2.2.2.1, .int (nI ph.2.2.2.2.2.2.2)]))] H := hP
  have hD : va_D A [(qh, .inr (5, [.int ph.1, .int ph.2.1, .int ph.2.2.1, .int 0, .int 0, .int ph.2.2.2.2.2.1, .int ph.2.2.2.2.2.2.1, .int (nI ph.2.2.2.2.2.2.2)]))] := hD
  refine lv_aload_n hx hb dX6_beginAnew_10 rfl (lv_at hl 0 rfl) ?_
  refine lv_iconst (v := 0) hx hb dX6_beginAnew_11 (by decide) ?_
  refine va_put (D := D) (ci := 5) (v := .int 0) (ty := .int) (C := RX6) (T := TX6) (N := 8) hx hb hAW iwX6 tyX6 tyX6_ok nmX6 hown hK hP hD hS 0 rfl rfl 5 (by decide) (hAW _ q131) (fun _ h9 => h9) rfl (tyX6_ok 5 (by decide)) rfl rfl (Nat.le_of_ble_eq_true rfl) dX6_beginAnew_12 (fun H locs hP hD hS => ?_)
  have hP : va_P D vwCl [(qh, .inr (5, [.int ph.1, .int ph.2.1, .int ph.2.2.1, .int 0, .int 0, .int 0, .int ph.2.2.2.2.2.2.1, .int (nI ph.2.2.2.2.2.2.2)]))] H := hP
  have hD : va_D A [(qh, .inr (5, [.int ph.1, .int ph.2.1, .int ph.2.2.1, .int 0, .int 0, .int 0, .int ph.2.2.2.2.2.2.1, .int (nI ph.2.2.2.2.2.2.2)]))] := hD
  refine lv_aload_n hx hb dX6_beginAnew_15 rfl (lv_at hl 0 rfl) ?_
  refine lv_iconst (v := 0) hx hb dX6_beginAnew_16 (by decide) ?_
  refine va_put (D := D) (ci := 5) (v := .int 0) (ty := .int) (C := RX6) (T := TX6) (N := 8) hx hb hAW iwX6 tyX6 tyX6_ok nmX6 hown hK hP hD hS 0 rfl rfl 6 (by decide) (hAW _ q133) (fun _ h9 => h9) rfl (tyX6_ok 6 (by decide)) rfl rfl (Nat.le_of_ble_eq_true rfl) dX6_beginAnew_17 (fun H locs hP hD hS => ?_)
  have hP : va_P D vwCl [(qh, .inr (5, [.int ph.1, .int ph.2.1, .int ph.2.2.1, .int 0, .int 0, .int 0, .int 0, .int (nI ph.2.2.2.2.2.2.2)]))] H := hP
  have hD : va_D A [(qh, .inr (5, [.int ph.1, .int ph.2.1, .int ph.2.2.1, .int 0, .int 0, .int 0, .int 0, .int (nI ph.2.2.2.2.2.2.2)]))] := hD
  refine lv_aload_n hx hb dX6_beginAnew_20 rfl (lv_at hl 0 rfl) ?_
  refine lv_iconst (v := 0) hx hb dX6_beginAnew_21 (by decide) ?_
  refine va_put (D := D) (ci := 5) (v := .int 0) (ty := .int) (C := RX6) (T := TX6) (N := 8) hx hb hAW iwX6 tyX6 tyX6_ok nmX6 hown hK hP hD hS 0 rfl rfl 7 (by decide) (hAW _ q135) (fun _ h9 => h9) rfl (tyX6_ok 7 (by decide)) rfl rfl (Nat.le_of_ble_eq_true rfl) dX6_beginAnew_22 (fun H locs hP hD hS => ?_)
  have hP : va_P D vwCl [(qh, .inr (5, [.int ph.1, .int ph.2.1, .int ph.2.2.1, .int 0, .int 0, .int 0, .int 0, .int 0]))] H := hP
  have hD : va_D A [(qh, .inr (5, [.int ph.1, .int ph.2.1, .int ph.2.2.1, .int 0, .int 0, .int 0, .int 0, .int 0]))] := hD
  exact fin_v hx hb hr hlk hP hS rfl hQ dX6_beginAnew_25

set_option maxHeartbeats 4000000 in
set_option maxRecDepth 100000 in
theorem c_X6_setUp (l : Launch) (D : va_G) (cI cZ : ClassId) (qh : Nat) (ph : PhS) (x y z : Int32) : Cv l yX6_setUp (aw yX6_setUp cX6_setUp 4 none) ({ frames := 1, cells := 0, slots := 0, locals := 20 }) D cI cZ [.ref qh, .int x, .int y, .int z] [(qh, .inr (5, [.int ph.1, .int ph.2.1, .int ph.2.2.1, .int (nI ph.2.2.2.1), .int ph.2.2.2.2.1, .int ph.2.2.2.2.2.1, .int ph.2.2.2.2.2.2.1, .int (nI ph.2.2.2.2.2.2.2)]))] [(qh, .inr (5, [.int ((ph_set ph x y z).1), .int ((ph_set ph x y z).2.1), .int ((ph_set ph x y z).2.2.1), .int (nI ((ph_set ph x y z).2.2.2.1)), .int ((ph_set ph x y z).2.2.2.2.1), .int ((ph_set ph x y z).2.2.2.2.2.1), .int ((ph_set ph x y z).2.2.2.2.2.2.1), .int (nI ((ph_set ph x y z).2.2.2.2.2.2.2))]))] := by
  refine mk_any (y := yX6_setUp) (av := [.ref qh, .int x, .int y, .int z]) (cc := cX6_setUp) (maxL := 4) (ret := none) (Qc := fun A => va_Qv (fun (_ : Unit) => True) (cb D [(qh, .inr (5, [.int ((ph_set ph x y z).1), .int ((ph_set ph x y z).2.1), .int ((ph_set ph x y z).2.2.1), .int (nI ((ph_set ph x y z).2.2.2.1)), .int ((ph_set ph x y z).2.2.2.2.1), .int ((ph_set ph x y z).2.2.2.2.2.1), .int ((ph_set ph x y z).2.2.2.2.2.2.1), .int (nI ((ph_set ph x y z).2.2.2.2.2.2.2))]))]) A) (plainFor_of_name (by decide)) (Nat.le_of_ble_eq_true rfl) ?_
  intro p e s m args below meth c A Q R hR hQ hx hb hr hml hAW hown hlk hN hA hP hK hD hS ls hl
  have hl : lv_has ls 4 [(0, .ref qh), (1, .int x), (2, .int y), (3, .int z)] := hl
  refine lv_aload_n hx hb dX6_setUp_0 rfl (lv_at hl 0 rfl) ?_
  refine lv_iload_n hx hb dX6_setUp_1 rfl (lv_at hl 1 rfl) ?_
  refine va_put (D := D) (ci := 5) (v := .int x) (ty := .int) (C := RX6) (T := TX6) (N := 8) hx hb hAW iwX6 tyX6 tyX6_ok nmX6 hown hK hP hD hS 0 rfl rfl 0 (by decide) (hAW _ q126) (fun _ h9 => h9) rfl (tyX6_ok 0 (by decide)) rfl rfl (Nat.le_of_ble_eq_true rfl) dX6_setUp_2 (fun H locs hP hD hS => ?_)
  have hP : va_P D vwCl [(qh, .inr (5, [.int x, .int ph.2.1, .int ph.2.2.1, .int (nI ph.2.2.2.1), .int ph.2.2.2.2.1, .int ph.2.2.2.2.2.1, .int ph.2.2.2.2.2.2.1, .int (nI ph.2.2.2.2.2.2.2)]))] H := hP
  have hD : va_D A [(qh, .inr (5, [.int x, .int ph.2.1, .int ph.2.2.1, .int (nI ph.2.2.2.1), .int ph.2.2.2.2.1, .int ph.2.2.2.2.2.1, .int ph.2.2.2.2.2.2.1, .int (nI ph.2.2.2.2.2.2.2)]))] := hD
  refine lv_aload_n hx hb dX6_setUp_5 rfl (lv_at hl 0 rfl) ?_
  refine lv_iload_n hx hb dX6_setUp_6 rfl (lv_at hl 2 rfl) ?_
  refine va_put (D := D) (ci := 5) (v := .int y) (ty := .int) (C := RX6) (T := TX6) (N := 8) hx hb hAW iwX6 tyX6 tyX6_ok nmX6 hown hK hP hD hS 0 rfl rfl 1 (by decide) (hAW _ q127) (fun _ h9 => h9) rfl (tyX6_ok 1 (by decide)) rfl rfl (Nat.le_of_ble_eq_true rfl) dX6_setUp_7 (fun H locs hP hD hS => ?_)
  have hP : va_P D vwCl [(qh, .inr (5, [.int x, .int y, .int ph.2.2.1, .int (nI ph.2.2.2.1), .int ph.2.2.2.2.1, .int ph.2.2.2.2.2.1, .int ph.2.2.2.2.2.2.1, .int (nI ph.2.2.2.2.2.2.2)]))] H := hP
  have hD : va_D A [(qh, .inr (5, [.int x, .int y, .int ph.2.2.1, .int (nI ph.2.2.2.1), .int ph.2.2.2.2.1, .int ph.2.2.2.2.2.1, .int ph.2.2.2.2.2.2.1, .int (nI ph.2.2.2.2.2.2.2)]))] := hD
  refine lv_aload_n hx hb dX6_setUp_10 rfl (lv_at hl 0 rfl) ?_
  refine lv_iload_n hx hb dX6_setUp_11 rfl (lv_at hl 3 rfl) ?_
  refine va_put (D := D) (ci := 5) (v := .int z) (ty := .int) (C := RX6) (T := TX6) (N := 8) hx hb hAW iwX6 tyX6 tyX6_ok nmX6 hown hK hP hD hS 0 rfl rfl 2 (by decide) (hAW _ q128) (fun _ h9 => h9) rfl (tyX6_ok 2 (by decide)) rfl rfl (Nat.le_of_ble_eq_true rfl) dX6_setUp_12 (fun H locs hP hD hS => ?_)
  have hP : va_P D vwCl [(qh, .inr (5, [.int x, .int y, .int z, .int (nI ph.2.2.2.1), .int ph.2.2.2.2.1, .int ph.2.2.2.2.2.1, .int ph.2.2.2.2.2.2.1, .int (nI ph.2.2.2.2.2.2.2)]))] H := hP
  have hD : va_D A [(qh, .inr (5, [.int x, .int y, .int z, .int (nI ph.2.2.2.1), .int ph.2.2.2.2.1, .int ph.2.2.2.2.2.1, .int ph.2.2.2.2.2.2.1, .int (nI ph.2.2.2.2.2.2.2)]))] := hD
  refine lv_aload_n hx hb dX6_setUp_15 rfl (lv_at hl 0 rfl) ?_
  refine call_Vv (D := D) (rest := []) (ws' := [(qh, .inr (5, [.int ((ph_anew ((x, y, z, ph.2.2.2.1, ph.2.2.2.2.1, ph.2.2.2.2.2.1, ph.2.2.2.2.2.2.1, ph.2.2.2.2.2.2.2) : PhS)).1), .int ((ph_anew ((x, y, z, ph.2.2.2.1, ph.2.2.2.2.1, ph.2.2.2.2.2.1, ph.2.2.2.2.2.2.1, ph.2.2.2.2.2.2.2) : PhS)).2.1), .int ((ph_anew ((x, y, z, ph.2.2.2.1, ph.2.2.2.2.1, ph.2.2.2.2.2.1, ph.2.2.2.2.2.2.1, ph.2.2.2.2.2.2.2) : PhS)).2.2.1), .int (nI ((ph_anew ((x, y, z, ph.2.2.2.1, ph.2.2.2.2.1, ph.2.2.2.2.2.1, ph.2.2.2.2.2.2.1, ph.2.2.2.2.2.2.2) : PhS)).2.2.2.1)), .int ((ph_anew ((x, y, z, ph.2.2.2.1, ph.2.2.2.2.1, ph.2.2.2.2.2.1, ph.2.2.2.2.2.2.1, ph.2.2.2.2.2.2.2) : PhS)).2.2.2.2.1), .int ((ph_anew ((x, y, z, ph.2.2.2.1, ph.2.2.2.2.1, ph.2.2.2.2.2.1, ph.2.2.2.2.2.2.1, ph.2.2.2.2.2.2.2) : PhS)).2.2.2.2.2.1), .int ((ph_anew ((x, y, z, ph.2.2.2.1, ph.2.2.2.2.1, ph.2.2.2.2.2.1, ph.2.2.2.2.2.2.1, ph.2.2.2.2.2.2.2) : PhS)).2.2.2.2.2.2.1), .int (nI ((ph_anew ((x, y, z, ph.2.2.2.1, ph.2.2.2.2.1, ph.2.2.2.2.2.1, ph.2.2.2.2.2.2.1, ph.2.2.2.2.2.2.2) : PhS)).2.2.2.2.2.2.2))]))]) (ad := [qh]) (ad2 := [qh]) hx hb hml hown hAW hN (c_X6_beginAnew l D cI cZ qh ((x, y, z, ph.2.2.2.1, ph.2.2.2.2.1, ph.2.2.2.2.2.1, ph.2.2.2.2.2.2.1, ph.2.2.2.2.2.2.2) : PhS) ) (cwVA 0 hAW q122 q123 q124 q25 q125 hd_X6_beginAnew (by rw [hR]; exact Nat.le_of_ble_eq_true rfl) (by rw [hR]; exact Nat.le_of_ble_eq_true rfl) rfl rfl) hK hP hD hS hA [0] rfl rfl rfl rfl rfl rfl (by decide +kernel) (ci := 5) (q0 := 0) rfl rfl rfl rfl hl.1 rfl (lv_room (Nat.le_of_ble_eq_true rfl)) dX6_setUp_16 (Nat.zero_le _) (Nat.zero_le _) (fun H locs hP hD hS => ?_)
  exact fin_v hx hb hr hlk hP hS rfl hQ dX6_setUp_19

set_option maxHeartbeats 4000000 in
set_option maxRecDepth 100000 in
theorem c_X6_mean (l : Launch) (D : va_G) (cI cZ : ClassId) (qh : Nat) (ph : PhS) (hc : 0 < ph.2.2.2.1 ∧ ph.2.2.2.1 ≤ 1000) : Ci l yX6_mean (aw yX6_mean cX6_mean 1 (some .int)) ({ frames := 1, cells := 0, slots := 0, locals := 22 }) D cI cZ [.ref qh] [(qh, .inr (5, [.int ph.1, .int ph.2.1, .int ph.2.2.1, .int (nI ph.2.2.2.1), .int ph.2.2.2.2.1, .int ph.2.2.2.2.2.1, .int ph.2.2.2.2.2.2.1, .int (nI ph.2.2.2.2.2.2.2)]))] [(qh, .inr (5, [.int ph.1, .int ph.2.1, .int ph.2.2.1, .int (nI ph.2.2.2.1), .int ph.2.2.2.2.1, .int ph.2.2.2.2.2.1, .int ph.2.2.2.2.2.2.1, .int (nI ph.2.2.2.2.2.2.2)]))] (jfd ph.2.2.2.2.1 (nI ph.2.2.2.1)) := by
  refine mk_any (y := yX6_mean) (av := [.ref qh]) (cc := cX6_mean) (maxL := 1) (ret := (some .int)) (Qc := fun A => va_Qi (fun rr9 (_ : Unit) => rr9 = (jfd ph.2.2.2.2.1 (nI ph.2.2.2.1))) (cb D [(qh, .inr (5, [.int ph.1, .int ph.2.1, .int ph.2.2.1, .int (nI ph.2.2.2.1), .int ph.2.2.2.2.1, .int ph.2.2.2.2.2.1, .int ph.2.2.2.2.2.2.1, .int (nI ph.2.2.2.2.2.2.2)]))]) A) (plainFor_of_name (by decide)) (Nat.le_of_ble_eq_true rfl) ?_
  intro p e s m args below meth c A Q R hR hQ hx hb hr hml hAW hown hlk hN hA hP hK hD hS ls hl
  have hl : lv_has ls 1 [(0, .ref qh)] := hl
  refine lv_aload_n hx hb dX6_mean_0 rfl (lv_at hl 0 rfl) ?_
  refine va_get (D := D) (ci := 5) (v := .int (nI ph.2.2.2.1)) (C := RX6) (T := TX6) (N := 8) hx hb hAW iwX6 hown hK hP 0 rfl rfl 3 (by decide) (hAW _ q129) (fun _ h9 => h9) rfl dX6_mean_1 ?_
  refine n_if_le (x := ph.2.2.2.1) (tgt := 21) hx hb (by omega) dX6_mean_4 (by decide) (fun c4 => absurd c4 (by omega)) (fun c4 => ?_)
  refine lv_aload_n hx hb dX6_mean_7 rfl (lv_at hl 0 rfl) ?_
  refine va_get (D := D) (ci := 5) (v := .int ph.2.2.2.2.1) (C := RX6) (T := TX6) (N := 8) hx hb hAW iwX6 hown hK hP 0 rfl rfl 4 (by decide) (hAW _ q130) (fun _ h9 => h9) rfl dX6_mean_8 ?_
  refine lv_aload_n hx hb dX6_mean_11 rfl (lv_at hl 0 rfl) ?_
  refine va_get (D := D) (ci := 5) (v := .int (nI ph.2.2.2.1)) (C := RX6) (T := TX6) (N := 8) hx hb hAW iwX6 hown hK hP 0 rfl rfl 3 (by decide) (hAW _ q129) (fun _ h9 => h9) rfl dX6_mean_12 ?_
  refine call_Si (D := D) (rest := []) (ws' := [(qh, .inr (5, [.int ph.1, .int ph.2.1, .int ph.2.2.1, .int (nI ph.2.2.2.1), .int ph.2.2.2.2.1, .int ph.2.2.2.2.2.1, .int ph.2.2.2.2.2.2.1, .int (nI ph.2.2.2.2.2.2.2)]))]) (ad := []) (ad2 := [qh]) hx hb hml hown hAW hN (c_J9_floorDiv_7cf53 l D cI cZ ph.2.2.2.2.1 (nI ph.2.2.2.1) (nI_ne0 hc.1 (by omega))) (cwSA 2 hAW q449 q450 q37 q451 hd_J9_floorDiv_7cf53 (by rw [hR]; exact Nat.le_of_ble_eq_true rfl) (by rw [hR]; exact Nat.le_of_ble_eq_true rfl) rfl rfl) hK hP hD hS hA [] rfl rfl rfl rfl rfl rfl (by decide +kernel) rfl hl.1 rfl (lv_room (Nat.le_of_ble_eq_true rfl)) dX6_mean_15 (Nat.zero_le _) (Nat.zero_le _) (fun H locs hP hD hS => ?_)
  refine lv_goto (tgt := 22) hx hb dX6_mean_18 (by decide) ?_
  exact fin_i (v := (jfd ph.2.2.2.2.1 (nI ph.2.2.2.1))) hx hb hr hlk hP hS rfl rfl rfl hQ dX6_mean_22

set_option maxHeartbeats 4000000 in
set_option maxRecDepth 100000 in
theorem c_X6_moveSum (l : Launch) (D : va_G) (cI cZ : ClassId) (qh : Nat) (ph : PhS) (x : Int32) (nu : Nat) (hc : ph.2.2.2.1 < 1000) : Cv l yX6_moveSum (aw yX6_moveSum cX6_moveSum 3 none) ({ frames := 2, cells := 0, slots := 0, locals := 42 }) D cI cZ [.ref qh, .int x, .int (nI nu)] [(qh, .inr (5, [.int ph.1, .int ph.2.1, .int ph.2.2.1, .int (nI ph.2.2.2.1), .int ph.2.2.2.2.1, .int ph.2.2.2.2.2.1, .int ph.2.2.2.2.2.2.1, .int (nI ph.2.2.2.2.2.2.2)]))] [(qh, .inr (5, [.int ((ph_mv ph x nu).1), .int ((ph_mv ph x nu).2.1), .int ((ph_mv ph x nu).2.2.1), .int (nI ((ph_mv ph x nu).2.2.2.1)), .int ((ph_mv ph x nu).2.2.2.2.1), .int ((ph_mv ph x nu).2.2.2.2.2.1), .int ((ph_mv ph x nu).2.2.2.2.2.2.1), .int (nI ((ph_mv ph x nu).2.2.2.2.2.2.2))]))] := by
  refine mk_any (y := yX6_moveSum) (av := [.ref qh, .int x, .int (nI nu)]) (cc := cX6_moveSum) (maxL := 3) (ret := none) (Qc := fun A => va_Qv (fun (_ : Unit) => True) (cb D [(qh, .inr (5, [.int ((ph_mv ph x nu).1), .int ((ph_mv ph x nu).2.1), .int ((ph_mv ph x nu).2.2.1), .int (nI ((ph_mv ph x nu).2.2.2.1)), .int ((ph_mv ph x nu).2.2.2.2.1), .int ((ph_mv ph x nu).2.2.2.2.2.1), .int ((ph_mv ph x nu).2.2.2.2.2.2.1), .int (nI ((ph_mv ph x nu).2.2.2.2.2.2.2))]))]) A) (plainFor_of_name (by decide)) (Nat.le_of_ble_eq_true rfl) ?_
  intro p e s m args below meth c A Q R hR hQ hx hb hr hml hAW hown hlk hN hA hP hK hD hS ls hl
  have hl : lv_has ls 3 [(0, .ref qh), (1, .int x), (2, .int (nI nu))] := hl
  refine lv_aload_n hx hb dX6_moveSum_0 rfl (lv_at hl 0 rfl) ?_
  refine lv_dup hx hb dX6_moveSum_1 rfl ?_
  refine va_get (D := D) (ci := 5) (v := .int (nI ph.2.2.2.1)) (C := RX6) (T := TX6) (N := 8) hx hb hAW iwX6 hown hK hP 0 rfl rfl 3 (by decide) (hAW _ q129) (fun _ h9 => h9) rfl dX6_moveSum_2 ?_
  refine lv_iconst (v := 1) hx hb dX6_moveSum_5 (by decide) ?_
  refine n_iadd (x := ph.2.2.2.1) (y := 1) hx hb dX6_moveSum_6 ?_
  refine va_put (D := D) (ci := 5) (v := .int (nI (ph.2.2.2.1 + 1))) (ty := .int) (C := RX6) (T := TX6) (N := 8) hx hb hAW iwX6 tyX6 tyX6_ok nmX6 hown hK hP hD hS 0 rfl rfl 3 (by decide) (hAW _ q129) (fun _ h9 => h9) rfl (tyX6_ok 3 (by decide)) rfl rfl (Nat.le_of_ble_eq_true rfl) dX6_moveSum_7 (fun H locs hP hD hS => ?_)
  have hP : va_P D vwCl [(qh, .inr (5, [.int ph.1, .int ph.2.1, .int ph.2.2.1, .int (nI (ph.2.2.2.1 + 1)), .int ph.2.2.2.2.1, .int ph.2.2.2.2.2.1, .int ph.2.2.2.2.2.2.1, .int (nI ph.2.2.2.2.2.2.2)]))] H := hP
  have hD : va_D A [(qh, .inr (5, [.int ph.1, .int ph.2.1, .int ph.2.2.1, .int (nI (ph.2.2.2.1 + 1)), .int ph.2.2.2.2.1, .int ph.2.2.2.2.2.1, .int ph.2.2.2.2.2.2.1, .int (nI ph.2.2.2.2.2.2.2)]))] := hD
  refine lv_aload_n hx hb dX6_moveSum_10 rfl (lv_at hl 0 rfl) ?_
  refine lv_dup hx hb dX6_moveSum_11 rfl ?_
  refine va_get (D := D) (ci := 5) (v := .int ph.2.2.2.2.1) (C := RX6) (T := TX6) (N := 8) hx hb hAW iwX6 hown hK hP 0 rfl rfl 4 (by decide) (hAW _ q130) (fun _ h9 => h9) rfl dX6_moveSum_12 ?_
  refine lv_iload_n hx hb dX6_moveSum_15 rfl (lv_at hl 1 rfl) ?_
  refine lv_iadd hx hb dX6_moveSum_16 ?_
  refine va_put (D := D) (ci := 5) (v := .int (ph.2.2.2.2.1 + x)) (ty := .int) (C := RX6) (T := TX6) (N := 8) hx hb hAW iwX6 tyX6 tyX6_ok nmX6 hown hK hP hD hS 0 rfl rfl 4 (by decide) (hAW _ q130) (fun _ h9 => h9) rfl (tyX6_ok 4 (by decide)) rfl rfl (Nat.le_of_ble_eq_true rfl) dX6_moveSum_17 (fun H locs hP hD hS => ?_)
  have hP : va_P D vwCl [(qh, .inr (5, [.int ph.1, .int ph.2.1, .int ph.2.2.1, .int (nI (ph.2.2.2.1 + 1)), .int (ph.2.2.2.2.1 + x), .int ph.2.2.2.2.2.1, .int ph.2.2.2.2.2.2.1, .int (nI ph.2.2.2.2.2.2.2)]))] H := hP
  have hD : va_D A [(qh, .inr (5, [.int ph.1, .int ph.2.1, .int ph.2.2.1, .int (nI (ph.2.2.2.1 + 1)), .int (ph.2.2.2.2.1 + x), .int ph.2.2.2.2.2.1, .int ph.2.2.2.2.2.2.1, .int (nI ph.2.2.2.2.2.2.2)]))] := hD
  refine lv_aload_n hx hb dX6_moveSum_20 rfl (lv_at hl 0 rfl) ?_
  refine lv_aload_n hx hb dX6_moveSum_21 rfl (lv_at hl 0 rfl) ?_
  refine va_get (D := D) (ci := 5) (v := .int ph.2.2.2.2.2.1) (C := RX6) (T := TX6) (N := 8) hx hb hAW iwX6 hown hK hP 0 rfl rfl 5 (by decide) (hAW _ q131) (fun _ h9 => h9) rfl dX6_moveSum_22 ?_
  refine lv_aload_n hx hb dX6_moveSum_25 rfl (lv_at hl 0 rfl) ?_
  refine va_get (D := D) (ci := 5) (v := .int ph.2.1) (C := RX6) (T := TX6) (N := 8) hx hb hAW iwX6 hown hK hP 0 rfl rfl 1 (by decide) (hAW _ q127) (fun _ h9 => h9) rfl dX6_moveSum_26 ?_
  refine lv_imul hx hb dX6_moveSum_29 ?_
  refine lv_sipush (v := 1000) hx hb dX6_moveSum_30 (by decide) ?_
  refine lv_idiv hx hb dX6_moveSum_33 (by decide) ?_
  refine lv_iload_n hx hb dX6_moveSum_34 rfl (lv_at hl 1 rfl) ?_
  refine lv_iadd hx hb dX6_moveSum_35 ?_
  refine lv_aload_n hx hb dX6_moveSum_36 rfl (lv_at hl 0 rfl) ?_
  refine call_Vi (D := D) (rest := [.int (((ph.2.2.2.2.2.1 * ph.2.1) / 1000) + x), .ref qh]) (ws' := [(qh, .inr (5, [.int ph.1, .int ph.2.1, .int ph.2.2.1, .int (nI (ph.2.2.2.1 + 1)), .int (ph.2.2.2.2.1 + x), .int ph.2.2.2.2.2.1, .int ph.2.2.2.2.2.2.1, .int (nI ph.2.2.2.2.2.2.2)]))]) (ad := [qh]) (ad2 := [qh]) hx hb hml hown hAW hN (c_X6_mean l D cI cZ qh ((ph.1, ph.2.1, ph.2.2.1, ph.2.2.2.1 + 1, ph.2.2.2.2.1 + x, ph.2.2.2.2.2.1, ph.2.2.2.2.2.2.1, ph.2.2.2.2.2.2.2) : PhS) ⟨Nat.succ_pos _, hc⟩) (cwVA 0 hAW q445 q447 q5 q25 q448 hd_X6_mean (by rw [hR]; exact Nat.le_of_ble_eq_true rfl) (by rw [hR]; exact Nat.le_of_ble_eq_true rfl) rfl rfl) hK hP hD hS hA [0] rfl rfl rfl rfl rfl rfl (by decide +kernel) (ci := 5) (q0 := 0) rfl rfl rfl rfl hl.1 rfl (lv_room (Nat.le_of_ble_eq_true rfl)) dX6_moveSum_37 (Nat.zero_le _) (Nat.zero_le _) (fun H locs hP hD hS => ?_)
  refine lv_isub hx hb dX6_moveSum_40 ?_
  refine lv_aload_n hx hb dX6_moveSum_41 rfl (lv_at hl 0 rfl) ?_
  refine va_get (D := D) (ci := 5) (v := .int ph.1) (C := RX6) (T := TX6) (N := 8) hx hb hAW iwX6 hown hK hP 0 rfl rfl 0 (by decide) (hAW _ q126) (fun _ h9 => h9) rfl dX6_moveSum_42 ?_
  refine lv_isub hx hb dX6_moveSum_45 ?_
  refine va_put (D := D) (ci := 5) (v := .int (((((ph.2.2.2.2.2.1 * ph.2.1) / 1000) + x) - (jfd (ph.2.2.2.2.1 + x) (nI (ph.2.2.2.1 + 1)))) - ph.1)) (ty := .int) (C := RX6) (T := TX6) (N := 8) hx hb hAW iwX6 tyX6 tyX6_ok nmX6 hown hK hP hD hS 0 rfl rfl 5 (by decide) (hAW _ q131) (fun _ h9 => h9) rfl (tyX6_ok 5 (by decide)) rfl rfl (Nat.le_of_ble_eq_true rfl) dX6_moveSum_46 (fun H locs hP hD hS => ?_)
  have hP : va_P D vwCl [(qh, .inr (5, [.int ph.1, .int ph.2.1, .int ph.2.2.1, .int (nI (ph.2.2.2.1 + 1)), .int (ph.2.2.2.2.1 + x), .int (((((ph.2.2.2.2.2.1 * ph.2.1) / 1000) + x) - (jfd (ph.2.2.2.2.1 + x) (nI (ph.2.2.2.1 + 1)))) - ph.1), .int ph.2.2.2.2.2.2.1, .int (nI ph.2.2.2.2.2.2.2)]))] H := hP
  have hD : va_D A [(qh, .inr (5, [.int ph.1, .int ph.2.1, .int ph.2.2.1, .int (nI (ph.2.2.2.1 + 1)), .int (ph.2.2.2.2.1 + x), .int (((((ph.2.2.2.2.2.1 * ph.2.1) / 1000) + x) - (jfd (ph.2.2.2.2.1 + x) (nI (ph.2.2.2.1 + 1)))) - ph.1), .int ph.2.2.2.2.2.2.1, .int (nI ph.2.2.2.2.2.2.2)]))] := hD
  refine lv_aload_n hx hb dX6_moveSum_49 rfl (lv_at hl 0 rfl) ?_
  refine va_get (D := D) (ci := 5) (v := .int (((((ph.2.2.2.2.2.1 * ph.2.1) / 1000) + x) - (jfd (ph.2.2.2.2.1 + x) (nI (ph.2.2.2.1 + 1)))) - ph.1)) (C := RX6) (T := TX6) (N := 8) hx hb hAW iwX6 hown hK hP 0 rfl rfl 5 (by decide) (hAW _ q131) (fun _ h9 => h9) rfl dX6_moveSum_50 ?_
  refine lv_aload_n hx hb dX6_moveSum_53 rfl (lv_at hl 0 rfl) ?_
  refine va_get (D := D) (ci := 5) (v := .int ph.2.2.2.2.2.2.1) (C := RX6) (T := TX6) (N := 8) hx hb hAW iwX6 hown hK hP 0 rfl rfl 6 (by decide) (hAW _ q133) (fun _ h9 => h9) rfl dX6_moveSum_54 ?_
  refine lv_icmp_ge (tgt := 73) hx hb dX6_moveSum_57 (by decide) (fun c57 => ?_) (fun c57 => ?_)
  · skip
    exact fin_v hx hb hr hlk hP hS (by simp only [ph_mv, ph_sum, c57, ↓reduceIte]) hQ dX6_moveSum_73
  · skip
    refine lv_aload_n hx hb dX6_moveSum_60 rfl (lv_at hl 0 rfl) ?_
    refine lv_aload_n hx hb dX6_moveSum_61 rfl (lv_at hl 0 rfl) ?_
    refine va_get (D := D) (ci := 5) (v := .int (((((ph.2.2.2.2.2.1 * ph.2.1) / 1000) + x) - (jfd (ph.2.2.2.2.1 + x) (nI (ph.2.2.2.1 + 1)))) - ph.1)) (C := RX6) (T := TX6) (N := 8) hx hb hAW iwX6 hown hK hP 0 rfl rfl 5 (by decide) (hAW _ q131) (fun _ h9 => h9) rfl dX6_moveSum_62 ?_
    refine va_put (D := D) (ci := 5) (v := .int (((((ph.2.2.2.2.2.1 * ph.2.1) / 1000) + x) - (jfd (ph.2.2.2.2.1 + x) (nI (ph.2.2.2.1 + 1)))) - ph.1)) (ty := .int) (C := RX6) (T := TX6) (N := 8) hx hb hAW iwX6 tyX6 tyX6_ok nmX6 hown hK hP hD hS 0 rfl rfl 6 (by decide) (hAW _ q133) (fun _ h9 => h9) rfl (tyX6_ok 6 (by decide)) rfl rfl (Nat.le_of_ble_eq_true rfl) dX6_moveSum_65 (fun H locs hP hD hS => ?_)
    have hP : va_P D vwCl [(qh, .inr (5, [.int ph.1, .int ph.2.1, .int ph.2.2.1, .int (nI (ph.2.2.2.1 + 1)), .int (ph.2.2.2.2.1 + x), .int (((((ph.2.2.2.2.2.1 * ph.2.1) / 1000) + x) - (jfd (ph.2.2.2.2.1 + x) (nI (ph.2.2.2.1 + 1)))) - ph.1), .int (((((ph.2.2.2.2.2.1 * ph.2.1) / 1000) + x) - (jfd (ph.2.2.2.2.1 + x) (nI (ph.2.2.2.1 + 1)))) - ph.1), .int (nI ph.2.2.2.2.2.2.2)]))] H := hP
    have hD : va_D A [(qh, .inr (5, [.int ph.1, .int ph.2.1, .int ph.2.2.1, .int (nI (ph.2.2.2.1 + 1)), .int (ph.2.2.2.2.1 + x), .int (((((ph.2.2.2.2.2.1 * ph.2.1) / 1000) + x) - (jfd (ph.2.2.2.2.1 + x) (nI (ph.2.2.2.1 + 1)))) - ph.1), .int (((((ph.2.2.2.2.2.1 * ph.2.1) / 1000) + x) - (jfd (ph.2.2.2.2.1 + x) (nI (ph.2.2.2.1 + 1)))) - ph.1), .int (nI ph.2.2.2.2.2.2.2)]))] := hD
    refine lv_aload_n hx hb dX6_moveSum_68 rfl (lv_at hl 0 rfl) ?_
    refine lv_iload_n hx hb dX6_moveSum_69 rfl (lv_at hl 2 rfl) ?_
    refine va_put (D := D) (ci := 5) (v := .int (nI nu)) (ty := .int) (C := RX6) (T := TX6) (N := 8) hx hb hAW iwX6 tyX6 tyX6_ok nmX6 hown hK hP hD hS 0 rfl rfl 7 (by decide) (hAW _ q135) (fun _ h9 => h9) rfl (tyX6_ok 7 (by decide)) rfl rfl (Nat.le_of_ble_eq_true rfl) dX6_moveSum_70 (fun H locs hP hD hS => ?_)
    have hP : va_P D vwCl [(qh, .inr (5, [.int ph.1, .int ph.2.1, .int ph.2.2.1, .int (nI (ph.2.2.2.1 + 1)), .int (ph.2.2.2.2.1 + x), .int (((((ph.2.2.2.2.2.1 * ph.2.1) / 1000) + x) - (jfd (ph.2.2.2.2.1 + x) (nI (ph.2.2.2.1 + 1)))) - ph.1), .int (((((ph.2.2.2.2.2.1 * ph.2.1) / 1000) + x) - (jfd (ph.2.2.2.2.1 + x) (nI (ph.2.2.2.1 + 1)))) - ph.1), .int (nI nu)]))] H := hP
    have hD : va_D A [(qh, .inr (5, [.int ph.1, .int ph.2.1, .int ph.2.2.1, .int (nI (ph.2.2.2.1 + 1)), .int (ph.2.2.2.2.1 + x), .int (((((ph.2.2.2.2.2.1 * ph.2.1) / 1000) + x) - (jfd (ph.2.2.2.2.1 + x) (nI (ph.2.2.2.1 + 1)))) - ph.1), .int (((((ph.2.2.2.2.2.1 * ph.2.1) / 1000) + x) - (jfd (ph.2.2.2.2.1 + x) (nI (ph.2.2.2.1 + 1)))) - ph.1), .int (nI nu)]))] := hD
    exact fin_v hx hb hr hlk hP hS (by simp only [ph_mv, ph_sum, c57, ↓reduceIte]) hQ dX6_moveSum_73

set_option maxHeartbeats 4000000 in
set_option maxRecDepth 100000 in
theorem c_X6_startOfGrowth (l : Launch) (D : va_G) (cI cZ : ClassId) (qh : Nat) (ph : PhS) (nu : Nat) (hc : ph.2.2.2.1 ≤ nu + 1) : Ci l yX6_startOfGrowth (aw yX6_startOfGrowth cX6_startOfGrowth 2 (some .int)) ({ frames := 0, cells := 0, slots := 0, locals := 0 }) D cI cZ [.ref qh, .int (nI nu)] [(qh, .inr (5, [.int ph.1, .int ph.2.1, .int ph.2.2.1, .int (nI ph.2.2.2.1), .int ph.2.2.2.2.1, .int ph.2.2.2.2.2.1, .int ph.2.2.2.2.2.2.1, .int (nI ph.2.2.2.2.2.2.2)]))] [(qh, .inr (5, [.int ph.1, .int ph.2.1, .int ph.2.2.1, .int (nI ph.2.2.2.1), .int ph.2.2.2.2.1, .int ph.2.2.2.2.2.1, .int ph.2.2.2.2.2.2.1, .int (nI ph.2.2.2.2.2.2.2)]))] (nI (ph_start ph nu)) := by
  refine mk_any (y := yX6_startOfGrowth) (av := [.ref qh, .int (nI nu)]) (cc := cX6_startOfGrowth) (maxL := 2) (ret := (some .int)) (Qc := fun A => va_Qi (fun rr9 (_ : Unit) => rr9 = (nI (ph_start ph nu))) (cb D [(qh, .inr (5, [.int ph.1, .int ph.2.1, .int ph.2.2.1, .int (nI ph.2.2.2.1), .int ph.2.2.2.2.1, .int ph.2.2.2.2.2.1, .int ph.2.2.2.2.2.2.1, .int (nI ph.2.2.2.2.2.2.2)]))]) A) (plainFor_of_name (by decide)) (Nat.le_of_ble_eq_true rfl) ?_
  intro p e s m args below meth c A Q R hR hQ hx hb hr hml hAW hown hlk hN hA hP hK hD hS ls hl
  have hl : lv_has ls 2 [(0, .ref qh), (1, .int (nI nu))] := hl
  refine lv_aload_n hx hb dX6_startOfGrowth_0 rfl (lv_at hl 0 rfl) ?_
  refine va_get (D := D) (ci := 5) (v := .int ph.2.2.2.2.2.2.1) (C := RX6) (T := TX6) (N := 8) hx hb hAW iwX6 hown hK hP 0 rfl rfl 6 (by decide) (hAW _ q133) (fun _ h9 => h9) rfl dX6_startOfGrowth_1 ?_
  refine lv_if_ge (tgt := 16) hx hb dX6_startOfGrowth_4 (by decide) (fun c4 => ?_) (fun c4 => ?_)
  · skip
    refine lv_iload_n hx hb dX6_startOfGrowth_16 rfl (lv_at hl 1 rfl) ?_
    refine lv_aload_n hx hb dX6_startOfGrowth_17 rfl (lv_at hl 0 rfl) ?_
    refine va_get (D := D) (ci := 5) (v := .int (nI ph.2.2.2.1)) (C := RX6) (T := TX6) (N := 8) hx hb hAW iwX6 hown hK hP 0 rfl rfl 3 (by decide) (hAW _ q129) (fun _ h9 => h9) rfl dX6_startOfGrowth_18 ?_
    refine lv_isub hx hb dX6_startOfGrowth_21 ?_
    refine lv_iconst (v := 1) hx hb dX6_startOfGrowth_22 (by decide) ?_
    refine lv_iadd hx hb dX6_startOfGrowth_23 ?_
    refine lv_topi (fun y9 ey9 => ?_)
    have ey9 : y9 = (nI (nu + 1 - ph.2.2.2.1)) := ey9.trans (nI_sub1 hc)
    subst ey9
    exact fin_i (v := (nI (nu + 1 - ph.2.2.2.1))) hx hb hr hlk hP hS rfl (by simp only [ph_start, Int32.not_lt.mpr c4, ↓reduceIte]) rfl hQ dX6_startOfGrowth_24
  · skip
    refine lv_aload_n hx hb dX6_startOfGrowth_7 rfl (lv_at hl 0 rfl) ?_
    refine va_get (D := D) (ci := 5) (v := .int (nI ph.2.2.2.2.2.2.2)) (C := RX6) (T := TX6) (N := 8) hx hb hAW iwX6 hown hK hP 0 rfl rfl 7 (by decide) (hAW _ q135) (fun _ h9 => h9) rfl dX6_startOfGrowth_8 ?_
    refine lv_iconst (v := 1) hx hb dX6_startOfGrowth_11 (by decide) ?_
    refine n_iadd (x := ph.2.2.2.2.2.2.2) (y := 1) hx hb dX6_startOfGrowth_12 ?_
    refine lv_goto (tgt := 24) hx hb dX6_startOfGrowth_13 (by decide) ?_
    exact fin_i (v := (nI (ph.2.2.2.2.2.2.2 + 1))) hx hb hr hlk hP hS rfl (by simp only [ph_start, Int32.not_le.mp c4, ↓reduceIte]) rfl hQ dX6_startOfGrowth_24

set_option maxHeartbeats 4000000 in
set_option maxRecDepth 100000 in
theorem c_X6_watch (l : Launch) (D : va_G) (cI cZ : ClassId) (qh : Nat) (ph : PhS) (qa qk qn qs : Nat) (al : AlS) (x : Int32) (nu : Nat) (h360 : al.2.2.2 < 360) (hc : ph.2.2.2.1 ≤ nu) (hn : nu < 900) : Ci l yX6_watch (aw yX6_watch cX6_watch 4 (some .int)) ({ frames := 3, cells := 0, slots := 0, locals := 64 }) D cI cZ [.ref qh, .int x, .int (nI nu), .ref qa] [(qh, .inr (5, [.int ph.1, .int ph.2.1, .int ph.2.2.1, .int (nI ph.2.2.2.1), .int ph.2.2.2.2.1, .int ph.2.2.2.2.2.1, .int ph.2.2.2.2.2.2.1, .int (nI ph.2.2.2.2.2.2.2)])), (qa, .inr (0, [.ref qk, .ref qn, .ref qs, .int (nI al.2.2.2)])), (qk, .inl (cI, 360, .inl (nIf al.1))), (qn, .inl (cI, 360, .inl (nIf al.2.1))), (qs, .inl (cI, 360, .inl (nIf al.2.2.1)))] [(qh, .inr (5, [.int ((ph_end (ph_mv ph x nu)).1), .int ((ph_end (ph_mv ph x nu)).2.1), .int ((ph_end (ph_mv ph x nu)).2.2.1), .int (nI ((ph_end (ph_mv ph x nu)).2.2.2.1)), .int ((ph_end (ph_mv ph x nu)).2.2.2.2.1), .int ((ph_end (ph_mv ph x nu)).2.2.2.2.2.1), .int ((ph_end (ph_mv ph x nu)).2.2.2.2.2.2.1), .int (nI ((ph_end (ph_mv ph x nu)).2.2.2.2.2.2.2))])), (qa, .inr (0, [.ref qk, .ref qn, .ref qs, .int (nI ((ph_al (ph_mv ph x nu) al nu).2.2.2))])), (qk, .inl (cI, 360, .inl (nIf ((ph_al (ph_mv ph x nu) al nu).1)))), (qn, .inl (cI, 360, .inl (nIf ((ph_al (ph_mv ph x nu) al nu).2.1)))), (qs, .inl (cI, 360, .inl (nIf ((ph_al (ph_mv ph x nu) al nu).2.2.1))))] (ph_bits (ph_mv ph x nu)) := by
  refine mk_any (y := yX6_watch) (av := [.ref qh, .int x, .int (nI nu), .ref qa]) (cc := cX6_watch) (maxL := 4) (ret := (some .int)) (Qc := fun A => va_Qi (fun rr9 (_ : Unit) => rr9 = ph_bits (ph_mv ph x nu)) (cb D [(qh, .inr (5, [.int ((ph_end (ph_mv ph x nu)).1), .int ((ph_end (ph_mv ph x nu)).2.1), .int ((ph_end (ph_mv ph x nu)).2.2.1), .int (nI ((ph_end (ph_mv ph x nu)).2.2.2.1)), .int ((ph_end (ph_mv ph x nu)).2.2.2.2.1), .int ((ph_end (ph_mv ph x nu)).2.2.2.2.2.1), .int ((ph_end (ph_mv ph x nu)).2.2.2.2.2.2.1), .int (nI ((ph_end (ph_mv ph x nu)).2.2.2.2.2.2.2))])), (qa, .inr (0, [.ref qk, .ref qn, .ref qs, .int (nI ((ph_al (ph_mv ph x nu) al nu).2.2.2))])), (qk, .inl (cI, 360, .inl (nIf ((ph_al (ph_mv ph x nu) al nu).1)))), (qn, .inl (cI, 360, .inl (nIf ((ph_al (ph_mv ph x nu) al nu).2.1)))), (qs, .inl (cI, 360, .inl (nIf ((ph_al (ph_mv ph x nu) al nu).2.2.1))))]) A) (plainFor_of_name (by decide)) (Nat.le_of_ble_eq_true rfl) ?_
  intro p e s m args below meth c A Q R hR hQ hx hb hr hml hAW hown hlk hN hA hP hK hD hS ls hl
  have hl : lv_has ls 4 [(0, .ref qh), (1, .int x), (2, .int (nI nu)), (3, .ref qa)] := hl
  refine lv_aload_n hx hb dX6_watch_0 rfl (lv_at hl 0 rfl) ?_
  refine lv_iload_n hx hb dX6_watch_1 rfl (lv_at hl 1 rfl) ?_
  refine lv_iload_n hx hb dX6_watch_2 rfl (lv_at hl 2 rfl) ?_
  refine call_Vv (D := D) (rest := []) (ws' := [(qh, .inr (5, [.int ((ph_mv ph x nu).1), .int ((ph_mv ph x nu).2.1), .int ((ph_mv ph x nu).2.2.1), .int (nI ((ph_mv ph x nu).2.2.2.1)), .int ((ph_mv ph x nu).2.2.2.2.1), .int ((ph_mv ph x nu).2.2.2.2.2.1), .int ((ph_mv ph x nu).2.2.2.2.2.2.1), .int (nI ((ph_mv ph x nu).2.2.2.2.2.2.2))])), (qa, .inr (0, [.ref qk, .ref qn, .ref qs, .int (nI al.2.2.2)])), (qk, .inl (cI, 360, .inl (nIf al.1))), (qn, .inl (cI, 360, .inl (nIf al.2.1))), (qs, .inl (cI, 360, .inl (nIf al.2.2.1)))]) (ad := [qh]) (ad2 := [qh, qa, qk, qn, qs]) hx hb hml hown hAW hN (c_X6_moveSum l D cI cZ qh ph x nu (by omega)) (cwVA 2 hAW q441 q443 q4 q25 q444 hd_X6_moveSum (by rw [hR]; exact Nat.le_of_ble_eq_true rfl) (by rw [hR]; exact Nat.le_of_ble_eq_true rfl) rfl rfl) hK hP hD hS hA [0] rfl rfl rfl rfl rfl rfl (by decide +kernel) (ci := 5) (q0 := 0) rfl rfl rfl rfl hl.1 rfl (lv_room (Nat.le_of_ble_eq_true rfl)) dX6_watch_3 (Nat.zero_le _) (Nat.zero_le _) (fun H locs hP hD hS => ?_)
  refine lv_aload_n hx hb dX6_watch_6 rfl (lv_at hl 0 rfl) ?_
  refine va_get (D := D) (ci := 5) (v := .int ((ph_mv ph x nu).2.2.2.2.2.1)) (C := RX6) (T := TX6) (N := 8) hx hb hAW iwX6 hown hK hP 0 rfl rfl 5 (by decide) (hAW _ q131) (fun _ h9 => h9) rfl dX6_watch_7 ?_
  refine lv_aload_n hx hb dX6_watch_10 rfl (lv_at hl 0 rfl) ?_
  refine va_get (D := D) (ci := 5) (v := .int ((ph_mv ph x nu).2.2.2.2.2.2.1)) (C := RX6) (T := TX6) (N := 8) hx hb hAW iwX6 hown hK hP 0 rfl rfl 6 (by decide) (hAW _ q133) (fun _ h9 => h9) rfl dX6_watch_11 ?_
  refine lv_isub hx hb dX6_watch_14 ?_
  refine lv_aload_n hx hb dX6_watch_15 rfl (lv_at hl 0 rfl) ?_
  refine va_get (D := D) (ci := 5) (v := .int ((ph_mv ph x nu).2.2.1)) (C := RX6) (T := TX6) (N := 8) hx hb hAW iwX6 hown hK hP 0 rfl rfl 2 (by decide) (hAW _ q128) (fun _ h9 => h9) rfl dX6_watch_16 ?_
  refine lv_icmp_gt (tgt := 24) hx hb dX6_watch_19 (by decide) (fun c19 => ?_) (fun c19 => ?_)
  · skip
    refine lv_aload_n hx hb dX6_watch_24 rfl (lv_at hl 3 rfl) ?_
    refine lv_iconst (v := 2) hx hb dX6_watch_25 (by decide) ?_
    refine lv_iload_n hx hb dX6_watch_26 rfl (lv_at hl 2 rfl) ?_
    refine lv_aload_n hx hb dX6_watch_27 rfl (lv_at hl 0 rfl) ?_
    refine lv_iload_n hx hb dX6_watch_28 rfl (lv_at hl 2 rfl) ?_
    refine call_Vi (D := D) (rest := [.int (nI nu), .int 2, .ref qa]) (ws' := [(qh, .inr (5, [.int ((ph_mv ph x nu).1), .int ((ph_mv ph x nu).2.1), .int ((ph_mv ph x nu).2.2.1), .int (nI ((ph_mv ph x nu).2.2.2.1)), .int ((ph_mv ph x nu).2.2.2.2.1), .int ((ph_mv ph x nu).2.2.2.2.2.1), .int ((ph_mv ph x nu).2.2.2.2.2.2.1), .int (nI ((ph_mv ph x nu).2.2.2.2.2.2.2))])), (qa, .inr (0, [.ref qk, .ref qn, .ref qs, .int (nI al.2.2.2)])), (qk, .inl (cI, 360, .inl (nIf al.1))), (qn, .inl (cI, 360, .inl (nIf al.2.1))), (qs, .inl (cI, 360, .inl (nIf al.2.2.1)))]) (ad := [qh]) (ad2 := [qh, qa, qk, qn, qs]) hx hb hml hown hAW hN (c_X6_startOfGrowth l D cI cZ qh (ph_mv ph x nu) nu (Nat.succ_le_succ hc)) (cwVA 1 hAW q452 q454 q6 q25 q455 hd_X6_startOfGrowth (by rw [hR]; exact Nat.le_of_ble_eq_true rfl) (by rw [hR]; exact Nat.le_of_ble_eq_true rfl) rfl rfl) hK hP hD hS hA [0] rfl rfl rfl rfl rfl rfl (by decide +kernel) (ci := 5) (q0 := 0) rfl rfl rfl rfl hl.1 rfl (lv_room (Nat.le_of_ble_eq_true rfl)) dX6_watch_29 (Nat.zero_le _) (Nat.zero_le _) (fun H locs hP hD hS => ?_)
    refine call_Vv (D := D) (rest := []) (ws' := [(qh, .inr (5, [.int ((ph_mv ph x nu).1), .int ((ph_mv ph x nu).2.1), .int ((ph_mv ph x nu).2.2.1), .int (nI ((ph_mv ph x nu).2.2.2.1)), .int ((ph_mv ph x nu).2.2.2.2.1), .int ((ph_mv ph x nu).2.2.2.2.2.1), .int ((ph_mv ph x nu).2.2.2.2.2.2.1), .int (nI ((ph_mv ph x nu).2.2.2.2.2.2.2))])), (qa, .inr (0, [.ref qk, .ref qn, .ref qs, .int (nI ((al_raise al 2 nu (ph_start (ph_mv ph x nu) nu)).2.2.2))])), (qk, .inl (cI, 360, .inl (nIf ((al_raise al 2 nu (ph_start (ph_mv ph x nu) nu)).1)))), (qn, .inl (cI, 360, .inl (nIf ((al_raise al 2 nu (ph_start (ph_mv ph x nu) nu)).2.1)))), (qs, .inl (cI, 360, .inl (nIf ((al_raise al 2 nu (ph_start (ph_mv ph x nu) nu)).2.2.1))))]) (ad := [qa, qk, qn, qs]) (ad2 := [qh, qa, qk, qn, qs]) hx hb hml hown hAW hN (c_X0_raise l D cI cZ qa qk qn qs al 2 nu (ph_start (ph_mv ph x nu) nu) (by omega)) (cwVA 3 hAW q456 q434 q435 q23 q436 hd_X0_raise (by rw [hR]; exact Nat.le_of_ble_eq_true rfl) (by rw [hR]; exact Nat.le_of_ble_eq_true rfl) rfl rfl) hK hP hD hS hA [1, 2, 3, 4] rfl rfl rfl rfl rfl rfl (by decide +kernel) (ci := 0) (q0 := 1) rfl rfl rfl rfl hl.1 rfl (lv_room (Nat.le_of_ble_eq_true rfl)) dX6_watch_32 (Nat.zero_le _) (Nat.zero_le _) (fun H locs hP hD hS => ?_)
    refine lv_aload_n hx hb dX6_watch_35 rfl (lv_at hl 0 rfl) ?_
    refine call_Vv (D := D) (rest := []) (ws' := [(qh, .inr (5, [.int ((ph_anew (ph_mv ph x nu)).1), .int ((ph_anew (ph_mv ph x nu)).2.1), .int ((ph_anew (ph_mv ph x nu)).2.2.1), .int (nI ((ph_anew (ph_mv ph x nu)).2.2.2.1)), .int ((ph_anew (ph_mv ph x nu)).2.2.2.2.1), .int ((ph_anew (ph_mv ph x nu)).2.2.2.2.2.1), .int ((ph_anew (ph_mv ph x nu)).2.2.2.2.2.2.1), .int (nI ((ph_anew (ph_mv ph x nu)).2.2.2.2.2.2.2))])), (qa, .inr (0, [.ref qk, .ref qn, .ref qs, .int (nI ((al_raise al 2 nu (ph_start (ph_mv ph x nu) nu)).2.2.2))])), (qk, .inl (cI, 360, .inl (nIf ((al_raise al 2 nu (ph_start (ph_mv ph x nu) nu)).1)))), (qn, .inl (cI, 360, .inl (nIf ((al_raise al 2 nu (ph_start (ph_mv ph x nu) nu)).2.1)))), (qs, .inl (cI, 360, .inl (nIf ((al_raise al 2 nu (ph_start (ph_mv ph x nu) nu)).2.2.1))))]) (ad := [qh]) (ad2 := [qh, qa, qk, qn, qs]) hx hb hml hown hAW hN (c_X6_beginAnew l D cI cZ qh (ph_mv ph x nu) ) (cwVA 0 hAW q122 q123 q124 q25 q125 hd_X6_beginAnew (by rw [hR]; exact Nat.le_of_ble_eq_true rfl) (by rw [hR]; exact Nat.le_of_ble_eq_true rfl) rfl rfl) hK hP hD hS hA [0] rfl rfl rfl rfl rfl rfl (by decide +kernel) (ci := 5) (q0 := 0) rfl rfl rfl rfl hl.1 rfl (lv_room (Nat.le_of_ble_eq_true rfl)) dX6_watch_36 (Nat.zero_le _) (Nat.zero_le _) (fun H locs hP hD hS => ?_)
    refine lv_iconst (v := 4) hx hb dX6_watch_39 (by decide) ?_
    exact fin_i (v := 4) hx hb hr hlk hP hS rfl (by simp only [ph_bits, c19, ↓reduceIte]) (by simp only [ph_end, ph_al, c19, ↓reduceIte]) hQ dX6_watch_40
  · skip
    refine lv_iconst (v := 0) hx hb dX6_watch_22 (by decide) ?_
    exact fin_i (v := 0) hx hb hr hlk hP hS rfl (by simp only [ph_bits, c19, ↓reduceIte]) (by simp only [ph_end, ph_al, c19, ↓reduceIte]) hQ dX6_watch_23
