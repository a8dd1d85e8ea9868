/-! the segments' costs -/
def tri (n : Nat) : Nat := n * (n + 1) / 2
theorem tri_succ (n : Nat) : tri (n + 1) = tri n + (n + 1) := by
  unfold tri
  have e : (n + 1) * (n + 1 + 1) = n * (n + 1) + 2 * (n + 1) := by
    calc (n + 1) * (n + 1 + 1) = (n + 1) * n + (n + 1) * 2 := Nat.mul_add (n + 1) n 2
      _ = n * (n + 1) + 2 * (n + 1) := by rw [Nat.mul_comm n, Nat.mul_comm 2]
  rw [e, Nat.add_mul_div_left _ _ (by decide)]
theorem tri_mono {a b : Nat} (h : a ≤ b) : tri a ≤ tri b := by
  induction b with
  | zero => obtain rfl : a = 0 := by omega
            exact Nat.le_refl _
  | succ b ih =>
    by_cases h2 : a = b + 1
    · rw [h2]; exact Nat.le_refl _
    · have := ih (by omega)
      rw [tri_succ]
      omega
theorem tri_lt {a b : Nat} (h : a < b) (h2 : b ≤ 120) : tri (b - 1) + a < 7260 := by
  obtain ⟨c, rfl⟩ : ∃ c, b = c + 1 := ⟨b - 1, by omega⟩
  have h3 := tri_succ c
  have h4 := tri_mono h2
  have h5 : tri 120 = 7260 := by decide
  rw [Nat.add_sub_cancel]
  omega
theorem km1_neg {k : Nat} (h : k < 2 ^ 30) : nI k - 1 < 0 ↔ k = 0 := by
  rw [Int32.lt_iff_toInt_lt, show (1 : Int32) = nI 1 from rfl, pk_sub_toInt h (by decide)]
  show (k : Int) - (1 : Nat) < 0 ↔ _
  omega
theorem nI_m1 (k : Nat) : nI k + Int32.ofInt (-1) = nI k - 1 := by
  rw [Int32.sub_eq_add_neg]
  rfl
theorem nI_inc_m1 {k : Nat} : nI (k + 1) + Int32.ofInt (-1) = nI k := pk_m1 k
def sortL (x : Int32) : Nat → (Nat → Int32) → (Nat → Int32)
  | 0, S => upd S 0 x
  | p + 1, S => if S p ≤ x then upd S (p + 1) x else sortL x p (upd S (p + 1) (S p))
def dm (S : Nat → Int32) (n : Nat) (x : Int32) : Int32 := if n = 0 then 0 else if x < S ((n - 1) / 2) then S ((n - 1) / 2) - x else if x ≤ S (n / 2) then 0 else x - S (n / 2)
def midL (v : Nat → Int32) (fr : Nat) : Nat → Nat → (Nat → Int32) → (Nat → Int32)
  | 0, _, S => S
  | d + 1, i, S => midL v fr d (i + 1) (sortL (v i) (i - fr) S)
def segL (v : Nat → Int32) (tt : Nat) : Nat → Int32 → (Nat → Int32) → (Nat → Int32) → (Nat → Int32) × (Nat → Int32)
  | 0, _, K, S => (K, S)
  | k + 1, co, K, S => segL v tt k (co + dm S (tt - 1 - k) (v k)) (upd K (tri (tt - 1) + k) (co + dm S (tt - 1 - k) (v k))) (sortL (v k) (tt - 1 - k) S)
def learL (v : Nat → Int32) : Nat → Nat → (Nat → Int32) → (Nat → Int32) → (Nat → Int32) × (Nat → Int32)
  | 0, _, K, S => (K, S)
  | d + 1, g, K, S => learL v d (g + 1) (segL v (g + 1) (g + 1) 0 K S).1 (segL v (g + 1) (g + 1) 0 K S).2
set_option maxHeartbeats 4000000 in
set_option maxRecDepth 100000 in
theorem c_X7_triangle (l : Launch) (D : va_G) (cI cZ : ClassId) (en : Nat) (he : en ≤ 120) : Ci l yX7_triangle (aw yX7_triangle cX7_triangle 1 (some .int)) ({ frames := 0, cells := 0, slots := 0, locals := 0 }) D cI cZ [.int (nI en)] [] [] (nI (tri en)) := by
  refine mk_any (y := yX7_triangle) (av := [.int (nI en)]) (cc := cX7_triangle) (maxL := 1) (ret := (some .int)) (Qc := fun A => va_Qi (fun rr9 (_ : Unit) => rr9 = (nI (tri en))) (cb D []) A) (plainFor_of_name (by decide)) (Nat.le_of_ble_eq_true rfl) ?_
  intro p e s m args below meth c A Q R hR hQ hx hb hr hml hAW hown hlk hN hA hP hK hD hS ls hl
  have hl : lv_has ls 1 [(0, .int (nI en))] := hl
  refine lv_iload_n hx hb dX7_triangle_0 rfl (lv_at hl 0 rfl) ?_
  refine lv_iload_n hx hb dX7_triangle_1 rfl (lv_at hl 0 rfl) ?_
  refine lv_iconst (v := 1) hx hb dX7_triangle_2 (by decide) ?_
  refine n_iadd (x := en) (y := 1) hx hb dX7_triangle_3 ?_
  refine n_imul (x := en) (y := (en + 1)) hx hb dX7_triangle_4 ?_
  refine lv_iconst (v := 2) hx hb dX7_triangle_5 (by decide) ?_
  refine n_idiv (x := (en * (en + 1))) (y := 2) hx hb (Nat.lt_of_le_of_lt (Nat.mul_le_mul he (Nat.succ_le_succ he)) (by decide)) (by omega) (by omega) dX7_triangle_6 ?_
  exact fin_i (v := (nI ((en * (en + 1)) / 2))) hx hb hr hlk hP hS rfl rfl rfl hQ dX7_triangle_7

set_option maxHeartbeats 4000000 in
set_option maxRecDepth 100000 in
theorem c_X7_forget (l : Launch) (D : va_G) (cI cZ : ClassId) (qd qe qf lr : Nat) : Cv l yX7_forget (aw yX7_forget cX7_forget 1 none) ({ frames := 0, cells := 0, slots := 0, locals := 0 }) D cI cZ [.ref qd] [(qd, .inr (6, [.ref qe, .ref qf, .int (nI lr)]))] [(qd, .inr (6, [.ref qe, .ref qf, .int (nI 0)]))] := by
  refine mk_any (y := yX7_forget) (av := [.ref qd]) (cc := cX7_forget) (maxL := 1) (ret := none) (Qc := fun A => va_Qv (fun (_ : Unit) => True) (cb D [(qd, .inr (6, [.ref qe, .ref qf, .int (nI 0)]))]) A) (plainFor_of_name (by decide)) (Nat.le_of_ble_eq_true rfl) ?_
  intro p e s m args below meth c A Q R hR hQ hx hb hr hml hAW hown hlk hN hA hP hK hD hS ls hl
  have hl : lv_has ls 1 [(0, .ref qd)] := hl
  refine lv_aload_n hx hb dX7_forget_0 rfl (lv_at hl 0 rfl) ?_
  refine lv_iconst (v := 0) hx hb dX7_forget_1 (by decide) ?_
  refine va_put (D := D) (ci := 6) (v := .int 0) (ty := .int) (C := RX7) (T := TX7) (N := 3) hx hb hAW iwX7 tyX7 tyX7_ok nmX7 hown hK hP hD hS 0 rfl rfl 2 (by decide) (hAW _ q164) (fun _ h9 => h9) rfl (tyX7_ok 2 (by decide)) rfl rfl (Nat.le_of_ble_eq_true rfl) dX7_forget_2 (fun H locs hP hD hS => ?_)
  have hP : va_P D vwCl [(qd, .inr (6, [.ref qe, .ref qf, .int 0]))] H := hP
  have hD : va_D A [(qd, .inr (6, [.ref qe, .ref qf, .int 0]))] := hD
  exact fin_v hx hb hr hlk hP hS rfl hQ dX7_forget_5

set_option maxHeartbeats 4000000 in
set_option maxRecDepth 100000 in
theorem c_X7_of (l : Launch) (D : va_G) (cI cZ : ClassId) (qd qe qf lr : Nat) (K : Nat → Int32) (fr tt : Nat) (h1 : fr < tt) (h2 : tt ≤ 120) : Ci l yX7_of (aw yX7_of cX7_of 3 (some .int)) ({ frames := 1, cells := 0, slots := 0, locals := 20 }) D cI cZ [.ref qd, .int (nI fr), .int (nI tt)] [(qd, .inr (6, [.ref qe, .ref qf, .int (nI lr)])), (qe, .inl (cI, 7260, .inl K))] [(qd, .inr (6, [.ref qe, .ref qf, .int (nI lr)])), (qe, .inl (cI, 7260, .inl K))] (K (tri (tt - 1) + fr)) := by
  refine mk_any (y := yX7_of) (av := [.ref qd, .int (nI fr), .int (nI tt)]) (cc := cX7_of) (maxL := 3) (ret := (some .int)) (Qc := fun A => va_Qi (fun rr9 (_ : Unit) => rr9 = (K (tri (tt - 1) + fr))) (cb D [(qd, .inr (6, [.ref qe, .ref qf, .int (nI lr)])), (qe, .inl (cI, 7260, .inl K))]) A) (plainFor_of_name (by decide)) (Nat.le_of_ble_eq_true rfl) ?_
  intro p e s m args below meth c A Q R hR hQ hx hb hr hml hAW hown hlk hN hA hP hK hD hS ls hl
  have hl : lv_has ls 3 [(0, .ref qd), (1, .int (nI fr)), (2, .int (nI tt))] := hl
  refine lv_aload_n hx hb dX7_of_0 rfl (lv_at hl 0 rfl) ?_
  refine va_get (D := D) (ci := 6) (v := .ref qe) (C := RX7) (T := TX7) (N := 3) hx hb hAW iwX7 hown hK hP 0 rfl rfl 0 (by decide) (hAW _ q162) (fun _ h9 => h9) rfl dX7_of_1 ?_
  refine lv_iload_n hx hb dX7_of_4 rfl (lv_at hl 2 rfl) ?_
  refine lv_iconst (v := 1) hx hb dX7_of_5 (by decide) ?_
  refine n_isub (x := tt) (y := 1) hx hb (by omega) dX7_of_6 ?_
  refine call_Si (D := D) (rest := [.ref qe]) (ws' := [(qd, .inr (6, [.ref qe, .ref qf, .int (nI lr)])), (qe, .inl (cI, 7260, .inl K))]) (ad := []) (ad2 := [qd, qe]) hx hb hml hown hAW hN (c_X7_triangle l D cI cZ (tt - 1) (by omega)) (cwSA 1 hAW q159 q160 q26 q161 hd_X7_triangle (by rw [hR]; exact Nat.le_of_ble_eq_true rfl) (by rw [hR]; exact Nat.le_of_ble_eq_true rfl) rfl rfl) hK hP hD hS hA [] rfl rfl rfl rfl rfl rfl (by decide +kernel) rfl hl.1 rfl (lv_room (Nat.le_of_ble_eq_true rfl)) dX7_of_7 (Nat.zero_le _) (Nat.zero_le _) (fun H locs hP hD hS => ?_)
  refine lv_iload_n hx hb dX7_of_10 rfl (lv_at hl 1 rfl) ?_
  refine n_iadd (x := (tri (tt - 1))) (y := fr) hx hb dX7_of_11 ?_
  refine n_iald (D := D) (f := K) (i := ((tri (tt - 1)) + fr)) hx hb hK hP 1 0 rfl rfl (tri_lt h1 h2) (by decide) dX7_of_12 ?_
  exact fin_i (v := (K ((tri (tt - 1)) + fr))) hx hb hr hlk hP hS rfl rfl rfl hQ dX7_of_13

set_option maxHeartbeats 4000000 in
set_option maxRecDepth 100000 in
theorem c_X7_sortIn (l : Launch) (D : va_G) (cI cZ : ClassId) (qd qe qf lr : Nat) (S : Nat → Int32) (x : Int32) (nn : Nat) (hn : nn < 120) : Cv l yX7_sortIn (aw yX7_sortIn cX7_sortIn 4 none) ({ frames := 0, cells := 0, slots := 0, locals := 0 }) D cI cZ [.ref qd, .int x, .int (nI nn)] [(qd, .inr (6, [.ref qe, .ref qf, .int (nI lr)])), (qf, .inl (cI, 120, .inl S))] [(qd, .inr (6, [.ref qe, .ref qf, .int (nI lr)])), (qf, .inl (cI, 120, .inl (sortL x nn S)))] := by
  refine mk_any (y := yX7_sortIn) (av := [.ref qd, .int x, .int (nI nn)]) (cc := cX7_sortIn) (maxL := 4) (ret := none) (Qc := fun A => va_Qv (fun (_ : Unit) => True) (cb D [(qd, .inr (6, [.ref qe, .ref qf, .int (nI lr)])), (qf, .inl (cI, 120, .inl (sortL x nn S)))]) A) (plainFor_of_name (by decide)) (Nat.le_of_ble_eq_true rfl) ?_
  intro p e s m args below meth c A Q R hR hQ hx hb hr hml hAW hown hlk hN hA hP hK hD hS ls hl
  have hl : lv_has ls 4 [(0, .ref qd), (1, .int x), (2, .int (nI nn))] := hl
  refine lv_iload_n hx hb dX7_sortIn_0 rfl (lv_at hl 2 rfl) ?_
  refine lv_istore_n (lv' := [(3, .int (nI nn)), (0, .ref qd), (1, .int x), (2, .int (nI nn))]) hx hb dX7_sortIn_1 rfl hl (by decide) rfl (fun ls hl => ?_)
  have L2 : ∀ (mz : Nat) (k : Nat) (G : Nat → Int32), (k ≤ nn) → (sortL x k G = sortL x nn S) → k < mz → ∀ (H : Heap) (locs : List Loc), va_P D vwCl [(qd, .inr (6, [.ref qe, .ref qf, .int (nI lr)])), (qf, .inl (cI, 120, .inl G))] H → va_D A [(qd, .inr (6, [.ref qe, .ref qf, .int (nI lr)])), (qf, .inl (cI, 120, .inl G))] → va_S A s.heap H locs → ∀ (ls : Array Slot), lv_has ls 4 [(0, .ref qd), (1, .int x), (2, .int (nI nn)), (3, .int (nI k))] → W p l e R s m args below meth c H locs 0 0 Q (F0 m 2 ls []) := by
    intro mz
    induction mz with
    | zero => intro k G hk hq hmu; exact absurd (by assumption) (Nat.not_lt_zero _)
    | succ mz ih2 =>
      intro k G hk hq hmu H locs hP hD hS ls hl
      refine lv_iload_n hx hb dX7_sortIn_2 rfl (lv_at hl 3 rfl) ?_
      refine n_if_le (x := k) (tgt := 38) hx hb (by omega) dX7_sortIn_3 (by decide) (fun c3 => ?_) (fun c3 => ?_)
      · skip
        have hq : upd G k x = sortL x nn S := by rw [c3, sortL] at hq; rw [c3]; exact hq
        refine lv_aload_n hx hb dX7_sortIn_38 rfl (lv_at hl 0 rfl) ?_
        refine va_get (D := D) (ci := 6) (v := .ref qf) (C := RX7) (T := TX7) (N := 3) hx hb hAW iwX7 hown hK hP 0 rfl rfl 1 (by decide) (hAW _ q163) (fun _ h9 => h9) rfl dX7_sortIn_39 ?_
        refine lv_iload_n hx hb dX7_sortIn_42 rfl (lv_at hl 3 rfl) ?_
        refine lv_iload_n hx hb dX7_sortIn_43 rfl (lv_at hl 1 rfl) ?_
        refine n_iast (D := D) (f := G) (i := k) (x := x) hx hb hK hP hD hS 1 0 rfl rfl (by omega) (by decide) dX7_sortIn_44 (fun H locs hP hD hS => ?_)
        have hP : va_P D vwCl [(qd, .inr (6, [.ref qe, .ref qf, .int (nI lr)])), (qf, .inl (cI, 120, .inl (upd G k x)))] H := hP
        have hD : va_D A [(qd, .inr (6, [.ref qe, .ref qf, .int (nI lr)])), (qf, .inl (cI, 120, .inl (upd G k x)))] := hD
        exact fin_v hx hb hr hlk hP hS (by rw [← hq]) hQ dX7_sortIn_45
      · skip
        obtain ⟨k, rfl⟩ : ∃ j, k = j + 1 := ⟨k - 1, by omega⟩
        refine lv_aload_n hx hb dX7_sortIn_6 rfl (lv_at hl 0 rfl) ?_
        refine va_get (D := D) (ci := 6) (v := .ref qf) (C := RX7) (T := TX7) (N := 3) hx hb hAW iwX7 hown hK hP 0 rfl rfl 1 (by decide) (hAW _ q163) (fun _ h9 => h9) rfl dX7_sortIn_7 ?_
        refine lv_iload_n hx hb dX7_sortIn_10 rfl (lv_at hl 3 rfl) ?_
        refine lv_iconst (v := 1) hx hb dX7_sortIn_11 (by decide) ?_
        refine n_isub (x := (k + 1)) (y := 1) hx hb (by omega) dX7_sortIn_12 ?_
        refine lv_topi (fun y9 ey9 => ?_)
        have ey9 : y9 = (nI k) := ey9.trans (by rw [Nat.add_sub_cancel])
        subst ey9
        refine n_iald (D := D) (f := G) (i := k) hx hb hK hP 1 0 rfl rfl (by omega) (by decide) dX7_sortIn_13 ?_
        refine lv_iload_n hx hb dX7_sortIn_14 rfl (lv_at hl 1 rfl) ?_
        refine lv_icmp_le (tgt := 38) hx hb dX7_sortIn_15 (by decide) (fun c15 => ?_) (fun c15 => ?_)
        · skip
          rw [sortL, if_pos (show G k ≤ x from c15)] at hq
          refine lv_aload_n hx hb dX7_sortIn_38 rfl (lv_at hl 0 rfl) ?_
          refine va_get (D := D) (ci := 6) (v := .ref qf) (C := RX7) (T := TX7) (N := 3) hx hb hAW iwX7 hown hK hP 0 rfl rfl 1 (by decide) (hAW _ q163) (fun _ h9 => h9) rfl dX7_sortIn_39 ?_
          refine lv_iload_n hx hb dX7_sortIn_42 rfl (lv_at hl 3 rfl) ?_
          refine lv_iload_n hx hb dX7_sortIn_43 rfl (lv_at hl 1 rfl) ?_
          refine n_iast (D := D) (f := G) (i := (k + 1)) (x := x) hx hb hK hP hD hS 1 0 rfl rfl (by omega) (by decide) dX7_sortIn_44 (fun H locs hP hD hS => ?_)
          have hP : va_P D vwCl [(qd, .inr (6, [.ref qe, .ref qf, .int (nI lr)])), (qf, .inl (cI, 120, .inl (upd G (k + 1) x)))] H := hP
          have hD : va_D A [(qd, .inr (6, [.ref qe, .ref qf, .int (nI lr)])), (qf, .inl (cI, 120, .inl (upd G (k + 1) x)))] := hD
          exact fin_v hx hb hr hlk hP hS (by rw [← hq]) hQ dX7_sortIn_45
        · skip
          rw [sortL, if_neg (show ¬ G k ≤ x from c15)] at hq
          refine lv_aload_n hx hb dX7_sortIn_18 rfl (lv_at hl 0 rfl) ?_
          refine va_get (D := D) (ci := 6) (v := .ref qf) (C := RX7) (T := TX7) (N := 3) hx hb hAW iwX7 hown hK hP 0 rfl rfl 1 (by decide) (hAW _ q163) (fun _ h9 => h9) rfl dX7_sortIn_19 ?_
          refine lv_iload_n hx hb dX7_sortIn_22 rfl (lv_at hl 3 rfl) ?_
          refine lv_aload_n hx hb dX7_sortIn_23 rfl (lv_at hl 0 rfl) ?_
          refine va_get (D := D) (ci := 6) (v := .ref qf) (C := RX7) (T := TX7) (N := 3) hx hb hAW iwX7 hown hK hP 0 rfl rfl 1 (by decide) (hAW _ q163) (fun _ h9 => h9) rfl dX7_sortIn_24 ?_
          refine lv_iload_n hx hb dX7_sortIn_27 rfl (lv_at hl 3 rfl) ?_
          refine lv_iconst (v := 1) hx hb dX7_sortIn_28 (by decide) ?_
          refine n_isub (x := (k + 1)) (y := 1) hx hb (by omega) dX7_sortIn_29 ?_
          refine lv_topi (fun y9 ey9 => ?_)
          have ey9 : y9 = (nI k) := ey9.trans (by rw [Nat.add_sub_cancel])
          subst ey9
          refine n_iald (D := D) (f := G) (i := k) hx hb hK hP 1 0 rfl rfl (by omega) (by decide) dX7_sortIn_30 ?_
          refine n_iast (D := D) (f := G) (i := (k + 1)) (x := (G k)) hx hb hK hP hD hS 1 0 rfl rfl (by omega) (by decide) dX7_sortIn_31 (fun H locs hP hD hS => ?_)
          have hP : va_P D vwCl [(qd, .inr (6, [.ref qe, .ref qf, .int (nI lr)])), (qf, .inl (cI, 120, .inl (upd G (k + 1) (G k))))] H := hP
          have hD : va_D A [(qd, .inr (6, [.ref qe, .ref qf, .int (nI lr)])), (qf, .inl (cI, 120, .inl (upd G (k + 1) (G k))))] := hD
          refine lv_iinc (v := (nI k)) (lv' := [(3, .int (nI k)), (0, .ref qd), (1, .int x), (2, .int (nI nn))]) hx hb dX7_sortIn_32 hl (k := 3) rfl (by rw [nI_inc_m1]) (by decide) rfl (fun ls hl => ?_)
          refine lv_goto (tgt := 2) hx hb dX7_sortIn_35 (by decide) ?_
          exact ih2 k (upd G (k + 1) (G k)) (by first | assumption | omega | rfl) hq (by omega) _ _ hP hD hS ls (lv_sub hl [1, 2, 3, 0] rfl)
  exact L2 (nn + 1) nn S (by first | assumption | omega | rfl) rfl (Nat.lt_succ_self _) _ _ hP hD hS ls (lv_sub hl [1, 2, 3, 0] rfl)

set_option maxHeartbeats 4000000 in
set_option maxRecDepth 100000 in
theorem c_X7_distanceFromMiddles (l : Launch) (D : va_G) (cI cZ : ClassId) (qd qe qf lr : Nat) (S : Nat → Int32) (x : Int32) (nn : Nat) (hn : nn < 120) : Ci l yX7_distanceFromMiddles (aw yX7_distanceFromMiddles cX7_distanceFromMiddles 5 (some .int)) ({ frames := 0, cells := 0, slots := 0, locals := 0 }) D cI cZ [.ref qd, .int x, .int (nI nn)] [(qd, .inr (6, [.ref qe, .ref qf, .int (nI lr)])), (qf, .inl (cI, 120, .inl S))] [(qd, .inr (6, [.ref qe, .ref qf, .int (nI lr)])), (qf, .inl (cI, 120, .inl S))] (dm S nn x) := by
  refine mk_any (y := yX7_distanceFromMiddles) (av := [.ref qd, .int x, .int (nI nn)]) (cc := cX7_distanceFromMiddles) (maxL := 5) (ret := (some .int)) (Qc := fun A => va_Qi (fun rr9 (_ : Unit) => rr9 = dm S nn x) (cb D [(qd, .inr (6, [.ref qe, .ref qf, .int (nI lr)])), (qf, .inl (cI, 120, .inl S))]) A) (plainFor_of_name (by decide)) (Nat.le_of_ble_eq_true rfl) ?_
  intro p e s m args below meth c A Q R hR hQ hx hb hr hml hAW hown hlk hN hA hP hK hD hS ls hl
  have hl : lv_has ls 5 [(0, .ref qd), (1, .int x), (2, .int (nI nn))] := hl
  refine lv_iload_n hx hb dX7_distanceFromMiddles_0 rfl (lv_at hl 2 rfl) ?_
  refine n_if_ne (x := nn) (tgt := 6) hx hb (by omega) dX7_distanceFromMiddles_1 (by decide) (fun c1 => ?_) (fun c1 => ?_)
  · skip
    refine lv_aload_n hx hb dX7_distanceFromMiddles_6 rfl (lv_at hl 0 rfl) ?_
    refine va_get (D := D) (ci := 6) (v := .ref qf) (C := RX7) (T := TX7) (N := 3) hx hb hAW iwX7 hown hK hP 0 rfl rfl 1 (by decide) (hAW _ q163) (fun _ h9 => h9) rfl dX7_distanceFromMiddles_7 ?_
    refine lv_iload_n hx hb dX7_distanceFromMiddles_10 rfl (lv_at hl 2 rfl) ?_
    refine lv_iconst (v := 1) hx hb dX7_distanceFromMiddles_11 (by decide) ?_
    refine n_isub (x := nn) (y := 1) hx hb (by omega) dX7_distanceFromMiddles_12 ?_
    refine lv_iconst (v := 2) hx hb dX7_distanceFromMiddles_13 (by decide) ?_
    refine n_idiv (x := (nn - 1)) (y := 2) hx hb (by omega) (by omega) (by omega) dX7_distanceFromMiddles_14 ?_
    refine n_iald (D := D) (f := S) (i := ((nn - 1) / 2)) hx hb hK hP 1 0 rfl rfl (by omega) (by decide) dX7_distanceFromMiddles_15 ?_
    refine lv_istore_n (lv' := [(3, .int (S ((nn - 1) / 2))), (0, .ref qd), (1, .int x), (2, .int (nI nn))]) hx hb dX7_distanceFromMiddles_16 rfl hl (by decide) rfl (fun ls hl => ?_)
    refine lv_aload_n hx hb dX7_distanceFromMiddles_17 rfl (lv_at hl 1 rfl) ?_
    refine va_get (D := D) (ci := 6) (v := .ref qf) (C := RX7) (T := TX7) (N := 3) hx hb hAW iwX7 hown hK hP 0 rfl rfl 1 (by decide) (hAW _ q163) (fun _ h9 => h9) rfl dX7_distanceFromMiddles_18 ?_
    refine lv_iload_n hx hb dX7_distanceFromMiddles_21 rfl (lv_at hl 3 rfl) ?_
    refine lv_iconst (v := 2) hx hb dX7_distanceFromMiddles_22 (by decide) ?_
    refine n_idiv (x := nn) (y := 2) hx hb (by omega) (by omega) (by omega) dX7_distanceFromMiddles_23 ?_
    refine n_iald (D := D) (f := S) (i := (nn / 2)) hx hb hK hP 1 0 rfl rfl (by omega) (by decide) dX7_distanceFromMiddles_24 ?_
    refine lv_istore (lv' := [(4, .int (S (nn / 2))), (3, .int (S ((nn - 1) / 2))), (0, .ref qd), (1, .int x), (2, .int (nI nn))]) hx hb dX7_distanceFromMiddles_25 hl (by decide) rfl (fun ls hl => ?_)
    refine lv_iload_n hx hb dX7_distanceFromMiddles_27 rfl (lv_at hl 3 rfl) ?_
    refine lv_iload_n hx hb dX7_distanceFromMiddles_28 rfl (lv_at hl 1 rfl) ?_
    refine lv_icmp_ge (tgt := 36) hx hb dX7_distanceFromMiddles_29 (by decide) (fun c29 => ?_) (fun c29 => ?_)
    · skip
      refine lv_iload_n hx hb dX7_distanceFromMiddles_36 rfl (lv_at hl 3 rfl) ?_
      refine lv_iload hx hb dX7_distanceFromMiddles_37 (lv_at hl 0 rfl) ?_
      refine lv_icmp_le (tgt := 49) hx hb dX7_distanceFromMiddles_39 (by decide) (fun c39 => ?_) (fun c39 => ?_)
      · skip
        refine lv_iconst (v := 0) hx hb dX7_distanceFromMiddles_49 (by decide) ?_
        exact fin_i (v := 0) hx hb hr hlk hP hS rfl (by simp only [dm, Nat.pos_iff_ne_zero.mp c1, Int32.not_lt.mpr c29, c39, ↓reduceIte]) rfl hQ dX7_distanceFromMiddles_50
      · skip
        refine lv_iload_n hx hb dX7_distanceFromMiddles_42 rfl (lv_at hl 3 rfl) ?_
        refine lv_iload hx hb dX7_distanceFromMiddles_43 (lv_at hl 0 rfl) ?_
        refine lv_isub hx hb dX7_distanceFromMiddles_45 ?_
        refine lv_goto (tgt := 50) hx hb dX7_distanceFromMiddles_46 (by decide) ?_
        exact fin_i (v := (x - (S (nn / 2)))) hx hb hr hlk hP hS rfl (by simp only [dm, Nat.pos_iff_ne_zero.mp c1, Int32.not_lt.mpr c29, c39, ↓reduceIte]) rfl hQ dX7_distanceFromMiddles_50
    · skip
      refine lv_iload_n hx hb dX7_distanceFromMiddles_32 rfl (lv_at hl 1 rfl) ?_
      refine lv_iload_n hx hb dX7_distanceFromMiddles_33 rfl (lv_at hl 3 rfl) ?_
      refine lv_isub hx hb dX7_distanceFromMiddles_34 ?_
      exact fin_i (v := ((S ((nn - 1) / 2)) - x)) hx hb hr hlk hP hS rfl (by simp only [dm, Nat.pos_iff_ne_zero.mp c1, Int32.not_le.mp c29, ↓reduceIte]) rfl hQ dX7_distanceFromMiddles_35
  · skip
    refine lv_iconst (v := 0) hx hb dX7_distanceFromMiddles_4 (by decide) ?_
    exact fin_i (v := 0) hx hb hr hlk hP hS rfl (by simp only [dm, c1, ↓reduceIte]) rfl hQ dX7_distanceFromMiddles_5

set_option maxHeartbeats 4000000 in
set_option maxRecDepth 100000 in
theorem c_X7_middleOf (l : Launch) (D : va_G) (cI cZ : ClassId) (qb : Nat) (v : Nat → Int32) (qd qe qf lr : Nat) (S : Nat → Int32) (fr tt : Nat) (h1 : fr < tt) (h2 : tt ≤ 120) : Ci l yX7_middleOf (aw yX7_middleOf cX7_middleOf 5 (some .int)) ({ frames := 1, cells := 0, slots := 0, locals := 23 }) D cI cZ [.ref qd, .ref qb, .int (nI fr), .int (nI tt)] [(qb, .inl (cI, 120, .inl v)), (qd, .inr (6, [.ref qe, .ref qf, .int (nI lr)])), (qf, .inl (cI, 120, .inl S))] [(qb, .inl (cI, 120, .inl v)), (qd, .inr (6, [.ref qe, .ref qf, .int (nI lr)])), (qf, .inl (cI, 120, .inl (midL v fr (tt - fr) fr S)))] (midL v fr (tt - fr) fr S ((tt - fr - 1) / 2)) := by
  refine mk_any (y := yX7_middleOf) (av := [.ref qd, .ref qb, .int (nI fr), .int (nI tt)]) (cc := cX7_middleOf) (maxL := 5) (ret := (some .int)) (Qc := fun A => va_Qi (fun rr9 (_ : Unit) => rr9 = (midL v fr (tt - fr) fr S ((tt - fr - 1) / 2))) (cb D [(qb, .inl (cI, 120, .inl v)), (qd, .inr (6, [.ref qe, .ref qf, .int (nI lr)])), (qf, .inl (cI, 120, .inl (midL v fr (tt - fr) fr S)))]) A) (plainFor_of_name (by decide)) (Nat.le_of_ble_eq_true rfl) ?_
  intro p e s m args below meth c A Q R hR hQ hx hb hr hml hAW hown hlk hN hA hP hK hD hS ls hl
  have hl : lv_has ls 5 [(0, .ref qd), (1, .ref qb), (2, .int (nI fr)), (3, .int (nI tt))] := hl
  refine lv_iload_n hx hb dX7_middleOf_0 rfl (lv_at hl 2 rfl) ?_
  refine lv_istore (lv' := [(4, .int (nI fr)), (0, .ref qd), (1, .ref qb), (2, .int (nI fr)), (3, .int (nI tt))]) hx hb dX7_middleOf_1 hl (by decide) rfl (fun ls hl => ?_)
  have L3 : ∀ (mz : Nat) (d i : Nat) (G : Nat → Int32), (i + d = tt) → (fr ≤ i) → (midL v fr d i G = midL v fr (tt - fr) fr S) → d < mz → ∀ (H : Heap) (locs : List Loc), va_P D vwCl [(qb, .inl (cI, 120, .inl v)), (qd, .inr (6, [.ref qe, .ref qf, .int (nI lr)])), (qf, .inl (cI, 120, .inl G))] H → va_D A [(qb, .inl (cI, 120, .inl v)), (qd, .inr (6, [.ref qe, .ref qf, .int (nI lr)])), (qf, .inl (cI, 120, .inl G))] → va_S A s.heap H locs → ∀ (ls : Array Slot), lv_has ls 5 [(0, .ref qd), (1, .ref qb), (2, .int (nI fr)), (3, .int (nI tt)), (4, .int (nI i))] → W p l e R s m args below meth c H locs 0 0 Q (F0 m 3 ls []) := by
    intro mz
    induction mz with
    | zero => intro d i G hi hf hq hmu; exact absurd (by assumption) (Nat.not_lt_zero _)
    | succ mz ih3 =>
      intro d i G hi hf hq hmu H locs hP hD hS ls hl
      refine lv_iload hx hb dX7_middleOf_3 (lv_at hl 4 rfl) ?_
      refine lv_iload_n hx hb dX7_middleOf_5 rfl (lv_at hl 3 rfl) ?_
      refine n_icmp_ge (x := i) (y := tt) (tgt := 27) hx hb (by omega) (by omega) dX7_middleOf_6 (by decide) (fun c6 => ?_) (fun c6 => ?_)
      · skip
        obtain rfl : d = 0 := by omega
        rw [midL] at hq
        refine lv_aload_n hx hb dX7_middleOf_27 rfl (lv_at hl 0 rfl) ?_
        refine va_get (D := D) (ci := 6) (v := .ref qf) (C := RX7) (T := TX7) (N := 3) hx hb hAW iwX7 hown hK hP 1 rfl rfl 1 (by decide) (hAW _ q163) (fun _ h9 => h9) rfl dX7_middleOf_28 ?_
        refine lv_iload_n hx hb dX7_middleOf_31 rfl (lv_at hl 3 rfl) ?_
        refine lv_iload_n hx hb dX7_middleOf_32 rfl (lv_at hl 2 rfl) ?_
        refine n_isub (x := tt) (y := fr) hx hb (by omega) dX7_middleOf_33 ?_
        refine lv_iconst (v := 1) hx hb dX7_middleOf_34 (by decide) ?_
        refine n_isub (x := (tt - fr)) (y := 1) hx hb (by omega) dX7_middleOf_35 ?_
        refine lv_iconst (v := 2) hx hb dX7_middleOf_36 (by decide) ?_
        refine n_idiv (x := ((tt - fr) - 1)) (y := 2) hx hb (by omega) (by omega) (by omega) dX7_middleOf_37 ?_
        refine n_iald (D := D) (f := G) (i := (((tt - fr) - 1) / 2)) hx hb hK hP 2 0 rfl rfl (by omega) (by decide) dX7_middleOf_38 ?_
        exact fin_i (v := (G (((tt - fr) - 1) / 2))) hx hb hr hlk hP hS rfl (by rw [← hq]) (by rw [← hq]) hQ dX7_middleOf_39
      · skip
        obtain ⟨d, rfl⟩ : ∃ j, d = j + 1 := ⟨d - 1, by omega⟩
        rw [midL] at hq
        refine lv_aload_n hx hb dX7_middleOf_9 rfl (lv_at hl 0 rfl) ?_
        refine lv_aload_n hx hb dX7_middleOf_10 rfl (lv_at hl 1 rfl) ?_
        refine lv_iload hx hb dX7_middleOf_11 (lv_at hl 4 rfl) ?_
        refine n_iald (D := D) (f := v) (i := i) hx hb hK hP 0 0 rfl rfl (by omega) (by decide) dX7_middleOf_13 ?_
        refine lv_iload hx hb dX7_middleOf_14 (lv_at hl 4 rfl) ?_
        refine lv_iload_n hx hb dX7_middleOf_16 rfl (lv_at hl 2 rfl) ?_
        refine n_isub (x := i) (y := fr) hx hb (by omega) dX7_middleOf_17 ?_
        refine call_Vv (D := D) (rest := []) (ws' := [(qb, .inl (cI, 120, .inl v)), (qd, .inr (6, [.ref qe, .ref qf, .int (nI lr)])), (qf, .inl (cI, 120, .inl (sortL (v i) (i - fr) G)))]) (ad := [qd, qf]) (ad2 := [qb, qd, qf]) hx hb hml hown hAW hN (c_X7_sortIn l D cI cZ qd qe qf lr G (v i) (i - fr) (by omega)) (cwVA 2 hAW q532 q534 q12 q26 q535 hd_X7_sortIn (by rw [hR]; exact Nat.le_of_ble_eq_true rfl) (by rw [hR]; exact Nat.le_of_ble_eq_true rfl) rfl rfl) hK hP hD hS hA [1, 2] rfl rfl rfl rfl rfl rfl (by decide +kernel) (ci := 6) (q0 := 1) rfl rfl rfl rfl hl.1 rfl (lv_room (Nat.le_of_ble_eq_true rfl)) dX7_middleOf_18 (Nat.zero_le _) (Nat.zero_le _) (fun H locs hP hD hS => ?_)
        refine lv_iinc (v := (nI (i + 1))) (lv' := [(4, .int (nI (i + 1))), (0, .ref qd), (1, .ref qb), (2, .int (nI fr)), (3, .int (nI tt))]) hx hb dX7_middleOf_21 hl (k := 4) rfl (nI_inc i 1) (by decide) rfl (fun ls hl => ?_)
        refine lv_goto (tgt := 3) hx hb dX7_middleOf_24 (by decide) ?_
        exact ih3 d (i + 1) (sortL (v i) (i - fr) G) (by first | assumption | omega | rfl) (by first | assumption | omega | rfl) hq (by omega) _ _ hP hD hS ls (lv_sub hl [1, 2, 3, 4, 0] rfl)
  exact L3 ((tt - fr) + 1) (tt - fr) fr S (by first | assumption | omega | rfl) (by first | assumption | omega | rfl) rfl (Nat.lt_succ_self _) _ _ hP hD hS ls (lv_sub hl [1, 2, 3, 4, 0] rfl)

set_option maxHeartbeats 4000000 in
set_option maxRecDepth 100000 in
theorem c_X7_learnSegmentsTo (l : Launch) (D : va_G) (cI cZ : ClassId) (qb : Nat) (v : Nat → Int32) (qd qe qf lr : Nat) (K S : Nat → Int32) (tt : Nat) (h1 : 0 < tt) (h2 : tt ≤ 120) : Cv l yX7_learnSegmentsTo (aw yX7_learnSegmentsTo cX7_learnSegmentsTo 7 none) ({ frames := 1, cells := 0, slots := 0, locals := 24 }) D cI cZ [.ref qd, .ref qb, .int (nI tt)] [(qb, .inl (cI, 120, .inl v)), (qd, .inr (6, [.ref qe, .ref qf, .int (nI lr)])), (qe, .inl (cI, 7260, .inl K)), (qf, .inl (cI, 120, .inl S))] [(qb, .inl (cI, 120, .inl v)), (qd, .inr (6, [.ref qe, .ref qf, .int (nI lr)])), (qe, .inl (cI, 7260, .inl ((segL v tt tt 0 K S).1))), (qf, .inl (cI, 120, .inl ((segL v tt tt 0 K S).2)))] := by
  refine mk_any (y := yX7_learnSegmentsTo) (av := [.ref qd, .ref qb, .int (nI tt)]) (cc := cX7_learnSegmentsTo) (maxL := 7) (ret := none) (Qc := fun A => va_Qv (fun (_ : Unit) => True) (cb D [(qb, .inl (cI, 120, .inl v)), (qd, .inr (6, [.ref qe, .ref qf, .int (nI lr)])), (qe, .inl (cI, 7260, .inl ((segL v tt tt 0 K S).1))), (qf, .inl (cI, 120, .inl ((segL v tt tt 0 K S).2)))]) A) (plainFor_of_name (by decide)) (Nat.le_of_ble_eq_true rfl) ?_
  intro p e s m args below meth c A Q R hR hQ hx hb hr hml hAW hown hlk hN hA hP hK hD hS ls hl
  have hl : lv_has ls 7 [(0, .ref qd), (1, .ref qb), (2, .int (nI tt))] := hl
  refine lv_iload_n hx hb dX7_learnSegmentsTo_0 rfl (lv_at hl 2 rfl) ?_
  refine lv_iconst (v := 1) hx hb dX7_learnSegmentsTo_1 (by decide) ?_
  refine n_isub (x := tt) (y := 1) hx hb (by omega) dX7_learnSegmentsTo_2 ?_
  refine call_Si (D := D) (rest := []) (ws' := [(qb, .inl (cI, 120, .inl v)), (qd, .inr (6, [.ref qe, .ref qf, .int (nI lr)])), (qe, .inl (cI, 7260, .inl K)), (qf, .inl (cI, 120, .inl S))]) (ad := []) (ad2 := [qb, qd, qe, qf]) hx hb hml hown hAW hN (c_X7_triangle l D cI cZ (tt - 1) (by omega)) (cwSA 1 hAW q159 q160 q26 q161 hd_X7_triangle (by rw [hR]; exact Nat.le_of_ble_eq_true rfl) (by rw [hR]; exact Nat.le_of_ble_eq_true rfl) rfl rfl) hK hP hD hS hA [] rfl rfl rfl rfl rfl rfl (by decide +kernel) rfl hl.1 rfl (lv_room (Nat.le_of_ble_eq_true rfl)) dX7_learnSegmentsTo_3 (Nat.zero_le _) (Nat.zero_le _) (fun H locs hP hD hS => ?_)
  refine lv_istore_n (lv' := [(3, .int (nI (tri (tt - 1)))), (0, .ref qd), (1, .ref qb), (2, .int (nI tt))]) hx hb dX7_learnSegmentsTo_6 rfl hl (by decide) rfl (fun ls hl => ?_)
  refine lv_iconst (v := 0) hx hb dX7_learnSegmentsTo_7 (by decide) ?_
  refine lv_istore (lv' := [(4, .int 0), (3, .int (nI (tri (tt - 1)))), (0, .ref qd), (1, .ref qb), (2, .int (nI tt))]) hx hb dX7_learnSegmentsTo_8 hl (by decide) rfl (fun ls hl => ?_)
  refine lv_iload_n hx hb dX7_learnSegmentsTo_10 rfl (lv_at hl 4 rfl) ?_
  refine lv_iconst (v := 1) hx hb dX7_learnSegmentsTo_11 (by decide) ?_
  refine lv_isub hx hb dX7_learnSegmentsTo_12 ?_
  refine lv_istore (lv' := [(5, .int ((nI tt) - 1)), (4, .int 0), (3, .int (nI (tri (tt - 1)))), (0, .ref qd), (1, .ref qb), (2, .int (nI tt))]) hx hb dX7_learnSegmentsTo_13 hl (by decide) rfl (fun ls hl => ?_)
  have L15 : ∀ (mz : Nat) (k : Nat) (co : Int32) (KK SS : Nat → Int32), (k ≤ tt) → (segL v tt k co KK SS = segL v tt tt 0 K S) → k < mz → ∀ (H : Heap) (locs : List Loc), va_P D vwCl [(qb, .inl (cI, 120, .inl v)), (qd, .inr (6, [.ref qe, .ref qf, .int (nI lr)])), (qe, .inl (cI, 7260, .inl KK)), (qf, .inl (cI, 120, .inl SS))] H → va_D A [(qb, .inl (cI, 120, .inl v)), (qd, .inr (6, [.ref qe, .ref qf, .int (nI lr)])), (qe, .inl (cI, 7260, .inl KK)), (qf, .inl (cI, 120, .inl SS))] → va_S A s.heap H locs → ∀ (ls : Array Slot), lv_has ls 7 [(0, .ref qd), (1, .ref qb), (2, .int (nI tt)), (3, .int (nI (tri (tt - 1)))), (4, .int co), (5, .int (nI k - 1))] → W p l e R s m args below meth c H locs 0 0 Q (F0 m 15 ls []) := by
    intro mz
    induction mz with
    | zero => intro k co KK SS hk hq hmu; exact absurd (by assumption) (Nat.not_lt_zero _)
    | succ mz ih15 =>
      intro k co KK SS hk hq hmu H locs hP hD hS ls hl
      refine lv_iload hx hb dX7_learnSegmentsTo_15 (lv_at hl 5 rfl) ?_
      refine lv_if_lt (tgt := 70) hx hb dX7_learnSegmentsTo_17 (by decide) (fun c17 => ?_) (fun c17 => ?_)
      · skip
        obtain rfl : k = 0 := (km1_neg (by omega)).mp c17
        rw [segL] at hq
        exact fin_v hx hb hr hlk hP hS (by rw [← hq]) hQ dX7_learnSegmentsTo_70
      · skip
        obtain ⟨k, rfl⟩ : ∃ j, k = j + 1 := ⟨k - 1, by have := mt (km1_neg (k := k) (by omega)).mpr c17; omega⟩
        rw [segL] at hq
        rw [nI_pred] at hl
        refine lv_iload_n hx hb dX7_learnSegmentsTo_20 rfl (lv_at hl 2 rfl) ?_
        refine lv_iconst (v := 1) hx hb dX7_learnSegmentsTo_21 (by decide) ?_
        refine n_isub (x := tt) (y := 1) hx hb (by omega) dX7_learnSegmentsTo_22 ?_
        refine lv_iload hx hb dX7_learnSegmentsTo_23 (lv_at hl 5 rfl) ?_
        refine n_isub (x := (tt - 1)) (y := k) hx hb (by omega) dX7_learnSegmentsTo_25 ?_
        refine lv_istore (lv' := [(6, .int (nI ((tt - 1) - k))), (0, .ref qd), (1, .ref qb), (2, .int (nI tt)), (3, .int (nI (tri (tt - 1)))), (4, .int co), (5, .int (nI k))]) hx hb dX7_learnSegmentsTo_26 hl (by decide) rfl (fun ls hl => ?_)
        refine lv_iload hx hb dX7_learnSegmentsTo_28 (lv_at hl 5 rfl) ?_
        refine lv_aload_n hx hb dX7_learnSegmentsTo_30 rfl (lv_at hl 1 rfl) ?_
        refine lv_aload_n hx hb dX7_learnSegmentsTo_31 rfl (lv_at hl 2 rfl) ?_
        refine lv_iload hx hb dX7_learnSegmentsTo_32 (lv_at hl 6 rfl) ?_
        refine n_iald (D := D) (f := v) (i := k) hx hb hK hP 0 0 rfl rfl (by omega) (by decide) dX7_learnSegmentsTo_34 ?_
        refine lv_iload hx hb dX7_learnSegmentsTo_35 (lv_at hl 0 rfl) ?_
        refine call_Vi (D := D) (rest := [.int co]) (ws' := [(qb, .inl (cI, 120, .inl v)), (qd, .inr (6, [.ref qe, .ref qf, .int (nI lr)])), (qe, .inl (cI, 7260, .inl KK)), (qf, .inl (cI, 120, .inl SS))]) (ad := [qd, qf]) (ad2 := [qb, qd, qe, qf]) hx hb hml hown hAW hN (c_X7_distanceFromMiddles l D cI cZ qd qe qf lr SS (v k) ((tt - 1) - k) (by omega)) (cwVA 2 hAW q528 q530 q11 q26 q531 hd_X7_distanceFromMiddles (by rw [hR]; exact Nat.le_of_ble_eq_true rfl) (by rw [hR]; exact Nat.le_of_ble_eq_true rfl) rfl rfl) hK hP hD hS hA [1, 3] rfl rfl rfl rfl rfl rfl (by decide +kernel) (ci := 6) (q0 := 1) rfl rfl rfl rfl hl.1 rfl (lv_room (Nat.le_of_ble_eq_true rfl)) dX7_learnSegmentsTo_37 (Nat.zero_le _) (Nat.zero_le _) (fun H locs hP hD hS => ?_)
        refine lv_iadd hx hb dX7_learnSegmentsTo_40 ?_
        refine lv_istore (lv' := [(4, .int (co + (dm SS ((tt - 1) - k) (v k)))), (6, .int (nI ((tt - 1) - k))), (0, .ref qd), (1, .ref qb), (2, .int (nI tt)), (3, .int (nI (tri (tt - 1)))), (5, .int (nI k))]) hx hb dX7_learnSegmentsTo_41 hl (by decide) rfl (fun ls hl => ?_)
        refine lv_aload_n hx hb dX7_learnSegmentsTo_43 rfl (lv_at hl 2 rfl) ?_
        refine va_get (D := D) (ci := 6) (v := .ref qe) (C := RX7) (T := TX7) (N := 3) hx hb hAW iwX7 hown hK hP 1 rfl rfl 0 (by decide) (hAW _ q162) (fun _ h9 => h9) rfl dX7_learnSegmentsTo_44 ?_
        refine lv_iload_n hx hb dX7_learnSegmentsTo_47 rfl (lv_at hl 5 rfl) ?_
        refine lv_iload hx hb dX7_learnSegmentsTo_48 (lv_at hl 6 rfl) ?_
        refine n_iadd (x := (tri (tt - 1))) (y := k) hx hb dX7_learnSegmentsTo_50 ?_
        refine lv_iload hx hb dX7_learnSegmentsTo_51 (lv_at hl 0 rfl) ?_
        refine n_iast (D := D) (f := KK) (i := ((tri (tt - 1)) + k)) (x := (co + (dm SS ((tt - 1) - k) (v k)))) hx hb hK hP hD hS 2 0 rfl rfl (tri_lt (by omega) h2) (by decide) dX7_learnSegmentsTo_53 (fun H locs hP hD hS => ?_)
        have hP : va_P D vwCl [(qb, .inl (cI, 120, .inl v)), (qd, .inr (6, [.ref qe, .ref qf, .int (nI lr)])), (qe, .inl (cI, 7260, .inl (upd KK ((tri (tt - 1)) + k) (co + (dm SS ((tt - 1) - k) (v k)))))), (qf, .inl (cI, 120, .inl SS))] H := hP
        have hD : va_D A [(qb, .inl (cI, 120, .inl v)), (qd, .inr (6, [.ref qe, .ref qf, .int (nI lr)])), (qe, .inl (cI, 7260, .inl (upd KK ((tri (tt - 1)) + k) (co + (dm SS ((tt - 1) - k) (v k)))))), (qf, .inl (cI, 120, .inl SS))] := hD
        refine lv_aload_n hx hb dX7_learnSegmentsTo_54 rfl (lv_at hl 2 rfl) ?_
        refine lv_aload_n hx hb dX7_learnSegmentsTo_55 rfl (lv_at hl 3 rfl) ?_
        refine lv_iload hx hb dX7_learnSegmentsTo_56 (lv_at hl 6 rfl) ?_
        refine n_iald (D := D) (f := v) (i := k) hx hb hK hP 0 0 rfl rfl (by omega) (by decide) dX7_learnSegmentsTo_58 ?_
        refine lv_iload hx hb dX7_learnSegmentsTo_59 (lv_at hl 1 rfl) ?_
        refine call_Vv (D := D) (rest := []) (ws' := [(qb, .inl (cI, 120, .inl v)), (qd, .inr (6, [.ref qe, .ref qf, .int (nI lr)])), (qe, .inl (cI, 7260, .inl (upd KK ((tri (tt - 1)) + k) (co + (dm SS ((tt - 1) - k) (v k)))))), (qf, .inl (cI, 120, .inl (sortL (v k) ((tt - 1) - k) SS)))]) (ad := [qd, qf]) (ad2 := [qb, qd, qe, qf]) hx hb hml hown hAW hN (c_X7_sortIn l D cI cZ qd qe qf lr SS (v k) ((tt - 1) - k) (by omega)) (cwVA 2 hAW q532 q534 q12 q26 q535 hd_X7_sortIn (by rw [hR]; exact Nat.le_of_ble_eq_true rfl) (by rw [hR]; exact Nat.le_of_ble_eq_true rfl) rfl rfl) hK hP hD hS hA [1, 3] rfl rfl rfl rfl rfl rfl (by decide +kernel) (ci := 6) (q0 := 1) rfl rfl rfl rfl hl.1 rfl (lv_room (Nat.le_of_ble_eq_true rfl)) dX7_learnSegmentsTo_61 (Nat.zero_le _) (Nat.zero_le _) (fun H locs hP hD hS => ?_)
        refine lv_iinc (v := (nI k - 1)) (lv' := [(5, .int (nI k - 1)), (4, .int (co + (dm SS ((tt - 1) - k) (v k)))), (6, .int (nI ((tt - 1) - k))), (0, .ref qd), (1, .ref qb), (2, .int (nI tt)), (3, .int (nI (tri (tt - 1))))]) hx hb dX7_learnSegmentsTo_64 hl (k := 6) rfl (nI_m1 k) (by decide) rfl (fun ls hl => ?_)
        refine lv_goto (tgt := 15) hx hb dX7_learnSegmentsTo_67 (by decide) ?_
        exact ih15 k (co + (dm SS ((tt - 1) - k) (v k))) (upd KK ((tri (tt - 1)) + k) (co + (dm SS ((tt - 1) - k) (v k)))) (sortL (v k) ((tt - 1) - k) SS) (by first | assumption | omega | rfl) hq (by omega) _ _ hP hD hS ls (lv_sub hl [3, 4, 5, 6, 1, 0] rfl)
  exact L15 (tt + 1) tt 0 K S (by first | assumption | omega | rfl) rfl (Nat.lt_succ_self _) _ _ hP hD hS ls (lv_sub hl [3, 4, 5, 2, 1, 0] rfl)

set_option maxHeartbeats 4000000 in
set_option maxRecDepth 100000 in
theorem c_X7_learn (l : Launch) (D : va_G) (cI cZ : ClassId) (qb : Nat) (v : Nat → Int32) (qd qe qf lr : Nat) (K S : Nat → Int32) (en : Nat) (h1 : lr ≤ en) (h2 : en ≤ 120) : Cv l yX7_learn (aw yX7_learn cX7_learn 4 none) ({ frames := 2, cells := 0, slots := 0, locals := 50 }) D cI cZ [.ref qd, .ref qb, .int (nI en)] [(qb, .inl (cI, 120, .inl v)), (qd, .inr (6, [.ref qe, .ref qf, .int (nI lr)])), (qe, .inl (cI, 7260, .inl K)), (qf, .inl (cI, 120, .inl S))] [(qb, .inl (cI, 120, .inl v)), (qd, .inr (6, [.ref qe, .ref qf, .int (nI en)])), (qe, .inl (cI, 7260, .inl ((learL v (en - lr) lr K S).1))), (qf, .inl (cI, 120, .inl ((learL v (en - lr) lr K S).2)))] := by
  refine mk_any (y := yX7_learn) (av := [.ref qd, .ref qb, .int (nI en)]) (cc := cX7_learn) (maxL := 4) (ret := none) (Qc := fun A => va_Qv (fun (_ : Unit) => True) (cb D [(qb, .inl (cI, 120, .inl v)), (qd, .inr (6, [.ref qe, .ref qf, .int (nI en)])), (qe, .inl (cI, 7260, .inl ((learL v (en - lr) lr K S).1))), (qf, .inl (cI, 120, .inl ((learL v (en - lr) lr K S).2)))]) A) (plainFor_of_name (by decide)) (Nat.le_of_ble_eq_true rfl) ?_
  intro p e s m args below meth c A Q R hR hQ hx hb hr hml hAW hown hlk hN hA hP hK hD hS ls hl
  have hl : lv_has ls 4 [(0, .ref qd), (1, .ref qb), (2, .int (nI en))] := hl
  refine lv_aload_n hx hb dX7_learn_0 rfl (lv_at hl 0 rfl) ?_
  refine va_get (D := D) (ci := 6) (v := .int (nI lr)) (C := RX7) (T := TX7) (N := 3) hx hb hAW iwX7 hown hK hP 1 rfl rfl 2 (by decide) (hAW _ q164) (fun _ h9 => h9) rfl dX7_learn_1 ?_
  refine lv_iconst (v := 1) hx hb dX7_learn_4 (by decide) ?_
  refine n_iadd (x := lr) (y := 1) hx hb dX7_learn_5 ?_
  refine lv_istore_n (lv' := [(3, .int (nI (lr + 1))), (0, .ref qd), (1, .ref qb), (2, .int (nI en))]) hx hb dX7_learn_6 rfl hl (by decide) rfl (fun ls hl => ?_)
  have L7 : ∀ (mz : Nat) (d g : Nat) (KK SS : Nat → Int32), (g + d = en) → (learL v d g KK SS = learL v (en - lr) lr K S) → d < mz → ∀ (H : Heap) (locs : List Loc), va_P D vwCl [(qb, .inl (cI, 120, .inl v)), (qd, .inr (6, [.ref qe, .ref qf, .int (nI g)])), (qe, .inl (cI, 7260, .inl KK)), (qf, .inl (cI, 120, .inl SS))] H → va_D A [(qb, .inl (cI, 120, .inl v)), (qd, .inr (6, [.ref qe, .ref qf, .int (nI g)])), (qe, .inl (cI, 7260, .inl KK)), (qf, .inl (cI, 120, .inl SS))] → va_S A s.heap H locs → ∀ (ls : Array Slot), lv_has ls 4 [(0, .ref qd), (1, .ref qb), (2, .int (nI en)), (3, .int (nI (g + 1)))] → W p l e R s m args below meth c H locs 0 0 Q (F0 m 7 ls []) := by
    intro mz
    induction mz with
    | zero => intro d g KK SS hg hq hmu; exact absurd (by assumption) (Nat.not_lt_zero _)
    | succ mz ih7 =>
      intro d g KK SS hg hq hmu H locs hP hD hS ls hl
      refine lv_iload_n hx hb dX7_learn_7 rfl (lv_at hl 3 rfl) ?_
      refine lv_iload_n hx hb dX7_learn_8 rfl (lv_at hl 2 rfl) ?_
      refine n_icmp_gt (x := (g + 1)) (y := en) (tgt := 29) hx hb (by omega) (by omega) dX7_learn_9 (by decide) (fun c9 => ?_) (fun c9 => ?_)
      · skip
        obtain rfl : d = 0 := by omega
        rw [learL] at hq
        exact fin_v hx hb hr hlk hP hS (by have hge : g = en := (by omega); subst hge; rw [← hq]) hQ dX7_learn_29
      · skip
        obtain ⟨d, rfl⟩ : ∃ j, d = j + 1 := ⟨d - 1, by omega⟩
        rw [learL] at hq
        refine lv_aload_n hx hb dX7_learn_12 rfl (lv_at hl 0 rfl) ?_
        refine lv_aload_n hx hb dX7_learn_13 rfl (lv_at hl 1 rfl) ?_
        refine lv_iload_n hx hb dX7_learn_14 rfl (lv_at hl 3 rfl) ?_
        refine call_Vv (D := D) (rest := []) (ws' := [(qb, .inl (cI, 120, .inl v)), (qd, .inr (6, [.ref qe, .ref qf, .int (nI g)])), (qe, .inl (cI, 7260, .inl ((segL v (g + 1) (g + 1) 0 KK SS).1))), (qf, .inl (cI, 120, .inl ((segL v (g + 1) (g + 1) 0 KK SS).2)))]) (ad := [qb, qd, qe, qf]) (ad2 := [qb, qd, qe, qf]) hx hb hml hown hAW hN (c_X7_learnSegmentsTo l D cI cZ qb v qd qe qf g KK SS (g + 1) (by omega) (by omega)) (cwVA 2 hAW q524 q526 q10 q26 q527 hd_X7_learnSegmentsTo (by rw [hR]; exact Nat.le_of_ble_eq_true rfl) (by rw [hR]; exact Nat.le_of_ble_eq_true rfl) rfl rfl) hK hP hD hS hA [0, 1, 2, 3] rfl rfl rfl rfl rfl rfl (by decide +kernel) (ci := 6) (q0 := 1) rfl rfl rfl rfl hl.1 rfl (lv_room (Nat.le_of_ble_eq_true rfl)) dX7_learn_15 (Nat.zero_le _) (Nat.zero_le _) (fun H locs hP hD hS => ?_)
        refine lv_aload_n hx hb dX7_learn_18 rfl (lv_at hl 0 rfl) ?_
        refine lv_iload_n hx hb dX7_learn_19 rfl (lv_at hl 3 rfl) ?_
        refine va_put (D := D) (ci := 6) (v := .int (nI (g + 1))) (ty := .int) (C := RX7) (T := TX7) (N := 3) hx hb hAW iwX7 tyX7 tyX7_ok nmX7 hown hK hP hD hS 1 rfl rfl 2 (by decide) (hAW _ q164) (fun _ h9 => h9) rfl (tyX7_ok 2 (by decide)) rfl rfl (Nat.le_of_ble_eq_true rfl) dX7_learn_20 (fun H locs hP hD hS => ?_)
        have hP : va_P D vwCl [(qb, .inl (cI, 120, .inl v)), (qd, .inr (6, [.ref qe, .ref qf, .int (nI (g + 1))])), (qe, .inl (cI, 7260, .inl ((segL v (g + 1) (g + 1) 0 KK SS).1))), (qf, .inl (cI, 120, .inl ((segL v (g + 1) (g + 1) 0 KK SS).2)))] H := hP
        have hD : va_D A [(qb, .inl (cI, 120, .inl v)), (qd, .inr (6, [.ref qe, .ref qf, .int (nI (g + 1))])), (qe, .inl (cI, 7260, .inl ((segL v (g + 1) (g + 1) 0 KK SS).1))), (qf, .inl (cI, 120, .inl ((segL v (g + 1) (g + 1) 0 KK SS).2)))] := hD
        refine lv_iinc (v := (nI (g + 1 + 1))) (lv' := [(3, .int (nI (g + 1 + 1))), (0, .ref qd), (1, .ref qb), (2, .int (nI en))]) hx hb dX7_learn_23 hl (k := 3) rfl (nI_inc (g + 1) 1) (by decide) rfl (fun ls hl => ?_)
        refine lv_goto (tgt := 7) hx hb dX7_learn_26 (by decide) ?_
        exact ih7 d (g + 1) ((segL v (g + 1) (g + 1) 0 KK SS).1) ((segL v (g + 1) (g + 1) 0 KK SS).2) (by first | assumption | omega | rfl) hq (by omega) _ _ hP hD hS ls (lv_sub hl [1, 2, 3, 0] rfl)
  exact L7 ((en - lr) + 1) (en - lr) lr K S (by first | assumption | omega | rfl) rfl (Nat.lt_succ_self _) _ _ hP hD hS ls (lv_sub hl [1, 2, 3, 0] rfl)
