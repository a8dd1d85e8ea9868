/-! least costs, cuttings, searches, truth: what the loops make -/
def lwL (L K : Nat → Int32) (ch tt : Nat) : Nat → Nat → Int32 → Int32
  | 0, _, fo => fo
  | d + 1, i, fo => lwL L K ch tt d (i + 1) (if L (tri (i - 1) + (ch - 1)) + K (tri (tt - 1) + i) < fo then L (tri (i - 1) + (ch - 1)) + K (tri (tt - 1) + i) else fo)
def lcL (K : Nat → Int32) (tt : Nat) : Nat → Nat → (Nat → Int32) → (Nat → Int32)
  | 0, _, L => L
  | d + 1, ch, L => lcL K tt d (ch + 1) (upd L (tri (tt - 1) + ch) (lwL L K ch tt (tt - ch) ch 2147483647))
abbrev lcT (K : Nat → Int32) (tt : Nat) (L : Nat → Int32) : Nat → Int32 := lcL K tt (tt - 1) 1 (upd L (tri (tt - 1)) (K (tri (tt - 1) + 0)))
def leaL (K : Nat → Int32) : Nat → Nat → (Nat → Int32) → (Nat → Int32)
  | 0, _, L => L
  | d + 1, g, L => leaL K d (g + 1) (lcT K (g + 1) L)
abbrev CuS : Type := (Nat → Bool) × Int32 × Int32 × Bool
def offL : Nat → Nat → (Nat → Bool) → (Nat → Bool)
  | 0, _, G => G
  | d + 1, i, G => offL d (i + 1) (updB G i false)
abbrev cu_join (w : CuS) : CuS := (offL 120 0 w.1, 0, w.2.2.1, w.2.2.2)
abbrev cu_cut (w : CuS) (n : Nat) : CuS := (updB w.1 n true, w.2.1 + 1, w.2.2.1, w.2.2.2)
def eosL (G : Nat → Bool) (en : Nat) : Nat → Nat → Nat
  | 0, _ => en
  | d + 1, i => if G i = true then i else eosL G en d (i + 1)
theorem eosL_ge (G : Nat → Bool) {en : Nat} : ∀ {d i : Nat}, i + d = en → i ≤ eosL G en d i := by
  intro d
  induction d with
  | zero => intro i h; rw [eosL]; omega
  | succ d ih =>
    intro i h
    rw [eosL]
    split
    · exact Nat.le_refl _
    · have := ih (i := i + 1) (by omega)
      omega
theorem eosL_le (G : Nat → Bool) {en : Nat} : ∀ {d i : Nat}, i + d = en → eosL G en d i ≤ en := by
  intro d
  induction d with
  | zero => intro i h; rw [eosL]; omega
  | succ d ih =>
    intro i h
    rw [eosL]
    split
    · omega
    · exact ih (by omega)
def naL (G : Nat → Bool) (x : Int32) : Nat → Nat → Int32 → Int32
  | 0, _, _ => 0
  | d + 1, i, pa => if G i = true then (if pa = x then nI i else naL G x d (i + 1) (pa + 1)) else naL G x d (i + 1) pa
def setL (K : Nat → Int32) (G : Nat → Bool) (en : Nat) : Nat → Nat → Nat → Int32 → Int32
  | 0, _, _, pr => pr
  | d + 1, i, fr, pr => if i = en then setL K G en d (i + 1) i (pr + K (tri (i - 1) + fr)) else if G i = true then setL K G en d (i + 1) i (pr + K (tri (i - 1) + fr)) else setL K G en d (i + 1) fr pr
def gnL (K : Nat → Int32) (en : Nat) (G : Nat → Bool) : Nat → Nat → Int32 → Nat → Nat → Nat → Nat
  | 0, _, _, ng, _, _ => ng
  | d + 1, i, gr, ng, fr, tt => if i = tt then gnL K en G d (i + 1) gr ng i (eosL G en (en - (i + 1)) (i + 1)) else if K (tri (tt - 1) + fr) - K (tri (i - 1) + fr) - K (tri (tt - 1) + i) ≤ gr then gnL K en G d (i + 1) gr ng fr tt else gnL K en G d (i + 1) (K (tri (tt - 1) + fr) - K (tri (i - 1) + fr) - K (tri (tt - 1) + i)) i fr tt
def gnT (K : Nat → Int32) (en : Nat) (G : Nat → Bool) (pn : Int32) : Nat := gnL K en G (en - 1) 1 pn 0 0 (eosL G en (en - (0 + 1)) (0 + 1))
theorem gnL_lt (K : Nat → Int32) (G : Nat → Bool) {en : Nat} : ∀ (d i : Nat) (gr : Int32) (ng fr tt : Nat), i + d = en → ng < en → gnL K en G d i gr ng fr tt < en := by
  intro d
  induction d with
  | zero => intro i gr ng fr tt _ h; exact h
  | succ d ih =>
    intro i gr ng fr tt h h2
    rw [gnL]
    split
    · exact ih _ _ _ _ _ (by omega) h2
    · split
      · exact ih _ _ _ _ _ (by omega) h2
      · exact ih _ _ _ _ _ (by omega) (by omega)
theorem gnT_lt (K : Nat → Int32) (G : Nat → Bool) (pn : Int32) {en : Nat} (h : 0 < en) : gnT K en G pn < en := gnL_lt K G _ _ _ _ _ _ (by omega) h
def ggL (K : Nat → Int32) (en : Nat) (pn : Int32) : Nat → CuS → CuS
  | 0, w => w
  | d + 1, w => if gnT K en w.1 pn = 0 then w else ggL K en pn d (cu_cut w (gnT K en w.1 pn))
abbrev ggT (K : Nat → Int32) (en : Nat) (pn : Int32) (cu : CuS) : CuS := ggL K en pn (en - 1) (cu_join cu)
abbrev TrS : Type := (Nat → Bool) × (Nat → Bool) × Int32 × Int32 × Int32
abbrev tr_off (t : TrS) : TrS := (offL 120 0 t.1, t.2.1, t.2.2.1, t.2.2.2.1, t.2.2.2.2)
abbrev tr_begin (t : TrS) : TrS := (t.1, offL 120 0 t.2.1, 0, 0, 0)
def fnd (P : Nat → Bool) (lo : Nat) : Nat → Option Nat
  | 0 => none
  | k + 1 => if k < lo then none else if P k = true then some k else fnd P lo k
theorem fnd_none {P : Nat → Bool} {lo k : Nat} (h : k ≤ lo) : fnd P lo k = none := by
  cases k with
  | zero => rfl
  | succ k => rw [fnd, if_pos (by omega)]
def tr_one (t : TrS) (nu w : Nat) : TrS := match fnd (fun k => t.1 k && !t.2.1 k) (nu - w) (nu + 1) with
  | some k => (t.1, updB t.2.1 k true, t.2.2.1 + 1, t.2.2.2.1, t.2.2.2.2 + (nI nu - nI k))
  | none => (t.1, t.2.1, t.2.2.1, t.2.2.2.1 + 1, t.2.2.2.2)
def matL (al : AlS) (kd : Int32) (w : Nat) : Nat → Nat → TrS → TrS
  | 0, _, t => t
  | d + 1, j, t => if nI (al.1 j) = kd then matL al kd w d (j + 1) (tr_one t (al.2.1 j) w) else matL al kd w d (j + 1) t
theorem mx_sub {a b : Nat} (ha : a < 2 ^ 30) (hb : b < 2 ^ 30) : (if 0 < (nI a - nI b) then (nI a - nI b) else 0) = nI (a - b) := by
  by_cases h : b < a
  · rw [if_pos (by rw [Int32.lt_iff_toInt_lt, pk_sub_toInt ha hb]; show (0 : Int) < _; omega), pk_sub (by omega)]
  · rw [if_neg (by rw [Int32.lt_iff_toInt_lt, pk_sub_toInt ha hb]; show ¬ (0 : Int) < _; omega), show a - b = 0 by omega]; rfl
theorem km1_lt {k b : Nat} (hk : k < 2 ^ 30) (hb : b < 2 ^ 30) : nI k - 1 < nI b ↔ k ≤ b := by
  rw [Int32.lt_iff_toInt_lt, show (1 : Int32) = nI 1 from rfl, pk_sub_toInt hk (by decide), nI_toInt (by omega)]
  omega
abbrev BsS : Type := (Nat → Int32) × (Nat → Int32) × (Nat → Int32)
def ffL (K : Nat → Int32) (fr : Nat) (pn : Int32) (bs : BsS) : Nat → Nat → Int32 → Int32 → Int32 → Int32 × Int32 × Int32
  | 0, _, lp, fc, ea => (lp, fc, ea)
  | d + 1, i, lp, fc, ea => if K (tri (i - 1) + fr) + pn + bs.1 i < lp then ffL K fr pn bs d (i + 1) (K (tri (i - 1) + fr) + pn + bs.1 i) (1 + bs.2.1 i) (nI i) else if K (tri (i - 1) + fr) + pn + bs.1 i = lp then (if fc ≤ 1 + bs.2.1 i then ffL K fr pn bs d (i + 1) lp fc ea else ffL K fr pn bs d (i + 1) (K (tri (i - 1) + fr) + pn + bs.1 i) (1 + bs.2.1 i) (nI i)) else ffL K fr pn bs d (i + 1) lp fc ea
def ffR (K : Nat → Int32) (en : Nat) (pn : Int32) (fr : Nat) (bs : BsS) : Int32 × Int32 × Int32 := ffL K fr pn bs (en - (fr + 1)) (fr + 1) (K (tri (en - 1) + fr)) 0 (nI en)
def ffT (K : Nat → Int32) (en : Nat) (pn : Int32) (fr : Nat) (bs : BsS) : BsS := (upd bs.1 fr (ffR K en pn fr bs).1, upd bs.2.1 fr (ffR K en pn fr bs).2.1, upd bs.2.2 fr (ffR K en pn fr bs).2.2)
def bfL (K : Nat → Int32) (en : Nat) (pn : Int32) : Nat → BsS → BsS
  | 0, bs => bs
  | k + 1, bs => bfL K en pn k (ffT K en pn k bs)
def chL (bs : BsS) : Nat → Nat → Int32 → CuS → CuS
  | 0, _, _, w => w
  | d + 1, i, up, w => if nI i = up then chL bs d (i + 1) (bs.2.2 i) (cu_cut w i) else chL bs d (i + 1) up w
def chT (bs : BsS) (en : Nat) (cu : CuS) : CuS := if en = 0 then chL bs (en - 1) 1 0 (cu_join cu) else chL bs (en - 1) 1 (bs.2.2 0) (cu_join cu)
set_option maxHeartbeats 4000000 in
set_option maxRecDepth 100000 in
theorem c_X5_forget (l : Launch) (D : va_G) (cI cZ : ClassId) (qg qi gl : Nat) : Cv l yX5_forget (aw yX5_forget cX5_forget 1 none) ({ frames := 0, cells := 0, slots := 0, locals := 0 }) D cI cZ [.ref qg] [(qg, .inr (4, [.ref qi, .int (nI gl)]))] [(qg, .inr (4, [.ref qi, .int (nI 0)]))] := by
  refine mk_any (y := yX5_forget) (av := [.ref qg]) (cc := cX5_forget) (maxL := 1) (ret := none) (Qc := fun A => va_Qv (fun (_ : Unit) => True) (cb D [(qg, .inr (4, [.ref qi, .int (nI 0)]))]) A) (plainFor_of_name (by decide)) (Nat.le_of_ble_eq_true rfl) ?_
  intro p e s m args below meth c A Q R hR hQ hx hb hr hml hAW hown hlk hN hA hP hK hD hS ls hl
  have hl : lv_has ls 1 [(0, .ref qg)] := hl
  refine lv_aload_n hx hb dX5_forget_0 rfl (lv_at hl 0 rfl) ?_
  refine lv_iconst (v := 0) hx hb dX5_forget_1 (by decide) ?_
  refine va_put (D := D) (ci := 4) (v := .int 0) (ty := .int) (C := RX5) (T := TX5) (N := 2) hx hb hAW iwX5 tyX5 tyX5_ok nmX5 hown hK hP hD hS 0 rfl rfl 1 (by decide) (hAW _ q180) (fun _ h9 => h9) rfl (tyX5_ok 1 (by decide)) rfl rfl (Nat.le_of_ble_eq_true rfl) dX5_forget_2 (fun H locs hP hD hS => ?_)
  have hP : va_P D vwCl [(qg, .inr (4, [.ref qi, .int 0]))] H := hP
  have hD : va_D A [(qg, .inr (4, [.ref qi, .int 0]))] := hD
  exact fin_v hx hb hr hlk hP hS rfl hQ dX5_forget_5

set_option maxHeartbeats 4000000 in
set_option maxRecDepth 100000 in
theorem c_X5_of (l : Launch) (D : va_G) (cI cZ : ClassId) (qg qi gl : Nat) (L : Nat → Int32) (fr tt : Nat) (h1 : fr < tt) (h2 : tt ≤ 120) : Ci l yX5_of (aw yX5_of cX5_of 3 (some .int)) ({ frames := 1, cells := 0, slots := 0, locals := 20 }) D cI cZ [.ref qg, .int (nI fr), .int (nI tt)] [(qg, .inr (4, [.ref qi, .int (nI gl)])), (qi, .inl (cI, 7260, .inl L))] [(qg, .inr (4, [.ref qi, .int (nI gl)])), (qi, .inl (cI, 7260, .inl L))] (L (tri (tt - 1) + fr)) := by
  refine mk_any (y := yX5_of) (av := [.ref qg, .int (nI fr), .int (nI tt)]) (cc := cX5_of) (maxL := 3) (ret := (some .int)) (Qc := fun A => va_Qi (fun rr9 (_ : Unit) => rr9 = (L (tri (tt - 1) + fr))) (cb D [(qg, .inr (4, [.ref qi, .int (nI gl)])), (qi, .inl (cI, 7260, .inl L))]) A) (plainFor_of_name (by decide)) (Nat.le_of_ble_eq_true rfl) ?_
  intro p e s m args below meth c A Q R hR hQ hx hb hr hml hAW hown hlk hN hA hP hK hD hS ls hl
  have hl : lv_has ls 3 [(0, .ref qg), (1, .int (nI fr)), (2, .int (nI tt))] := hl
  refine lv_aload_n hx hb dX5_of_0 rfl (lv_at hl 0 rfl) ?_
  refine va_get (D := D) (ci := 4) (v := .ref qi) (C := RX5) (T := TX5) (N := 2) hx hb hAW iwX5 hown hK hP 0 rfl rfl 0 (by decide) (hAW _ q179) (fun _ h9 => h9) rfl dX5_of_1 ?_
  refine lv_iload_n hx hb dX5_of_4 rfl (lv_at hl 2 rfl) ?_
  refine lv_iconst (v := 1) hx hb dX5_of_5 (by decide) ?_
  refine n_isub (x := tt) (y := 1) hx hb (by omega) dX5_of_6 ?_
  refine call_Si (D := D) (rest := [.ref qi]) (ws' := [(qg, .inr (4, [.ref qi, .int (nI gl)])), (qi, .inl (cI, 7260, .inl L))]) (ad := []) (ad2 := [qg, qi]) hx hb hml hown hAW hN (c_X7_triangle l D cI cZ (tt - 1) (by omega)) (cwSA 1 hAW q178 q160 q26 q161 hd_X7_triangle (by rw [hR]; exact Nat.le_of_ble_eq_true rfl) (by rw [hR]; exact Nat.le_of_ble_eq_true rfl) rfl rfl) hK hP hD hS hA [] rfl rfl rfl rfl rfl rfl (by decide +kernel) rfl hl.1 rfl (lv_room (Nat.le_of_ble_eq_true rfl)) dX5_of_7 (Nat.zero_le _) (Nat.zero_le _) (fun H locs hP hD hS => ?_)
  refine lv_iload_n hx hb dX5_of_10 rfl (lv_at hl 1 rfl) ?_
  refine n_iadd (x := (tri (tt - 1))) (y := fr) hx hb dX5_of_11 ?_
  refine n_iald (D := D) (f := L) (i := ((tri (tt - 1)) + fr)) hx hb hK hP 1 0 rfl rfl (tri_lt h1 h2) (by decide) dX5_of_12 ?_
  exact fin_i (v := (L ((tri (tt - 1)) + fr))) hx hb hr hlk hP hS rfl rfl rfl hQ dX5_of_13

set_option maxHeartbeats 4000000 in
set_option maxRecDepth 100000 in
theorem c_X5_leastWithLastSegment (l : Launch) (D : va_G) (cI cZ : ClassId) (qg qi gl : Nat) (L : Nat → Int32) (qd qe qf lr : Nat) (K : Nat → Int32) (ch tt : Nat) (h0 : 0 < ch) (h1 : ch < tt) (h2 : tt ≤ 120) : Ci l yX5_leastWithLastSegment (aw yX5_leastWithLastSegment cX5_leastWithLastSegment 6 (some .int)) ({ frames := 2, cells := 0, slots := 0, locals := 42 }) D cI cZ [.ref qg, .ref qd, .int (nI ch), .int (nI tt)] [(qg, .inr (4, [.ref qi, .int (nI gl)])), (qi, .inl (cI, 7260, .inl L)), (qd, .inr (6, [.ref qe, .ref qf, .int (nI lr)])), (qe, .inl (cI, 7260, .inl K))] [(qg, .inr (4, [.ref qi, .int (nI gl)])), (qi, .inl (cI, 7260, .inl L)), (qd, .inr (6, [.ref qe, .ref qf, .int (nI lr)])), (qe, .inl (cI, 7260, .inl K))] (lwL L K ch tt (tt - ch) ch 2147483647) := by
  refine mk_any (y := yX5_leastWithLastSegment) (av := [.ref qg, .ref qd, .int (nI ch), .int (nI tt)]) (cc := cX5_leastWithLastSegment) (maxL := 6) (ret := (some .int)) (Qc := fun A => va_Qi (fun rr9 (_ : Unit) => rr9 = lwL L K ch tt (tt - ch) ch 2147483647) (cb D [(qg, .inr (4, [.ref qi, .int (nI gl)])), (qi, .inl (cI, 7260, .inl L)), (qd, .inr (6, [.ref qe, .ref qf, .int (nI lr)])), (qe, .inl (cI, 7260, .inl K))]) A) (plainFor_of_name (by decide)) (Nat.le_of_ble_eq_true rfl) ?_
  intro p e s m args below meth c A Q R hR hQ hx hb hr hml hAW hown hlk hN hA hP hK hD hS ls hl
  have hl : lv_has ls 6 [(0, .ref qg), (1, .ref qd), (2, .int (nI ch)), (3, .int (nI tt))] := hl
  refine lv_ldc (v := 2147483647) hx hb hown (hAW _ q631) dX5_leastWithLastSegment_0 ?_
  refine lv_istore (lv' := [(4, .int 2147483647), (0, .ref qg), (1, .ref qd), (2, .int (nI ch)), (3, .int (nI tt))]) hx hb dX5_leastWithLastSegment_2 hl (by decide) rfl (fun ls hl => ?_)
  refine lv_iload_n hx hb dX5_leastWithLastSegment_4 rfl (lv_at hl 3 rfl) ?_
  refine lv_istore (lv' := [(5, .int (nI ch)), (4, .int 2147483647), (0, .ref qg), (1, .ref qd), (2, .int (nI ch)), (3, .int (nI tt))]) hx hb dX5_leastWithLastSegment_5 hl (by decide) rfl (fun ls hl => ?_)
  have L7 : ∀ (mz : Nat) (d i : Nat) (fo : Int32), (i + d = tt) → (ch ≤ i) → (lwL L K ch tt d i fo = lwL L K ch tt (tt - ch) ch 2147483647) → d < mz → ∀ (H : Heap) (locs : List Loc), va_P D vwCl [(qg, .inr (4, [.ref qi, .int (nI gl)])), (qi, .inl (cI, 7260, .inl L)), (qd, .inr (6, [.ref qe, .ref qf, .int (nI lr)])), (qe, .inl (cI, 7260, .inl K))] H → va_D A [(qg, .inr (4, [.ref qi, .int (nI gl)])), (qi, .inl (cI, 7260, .inl L)), (qd, .inr (6, [.ref qe, .ref qf, .int (nI lr)])), (qe, .inl (cI, 7260, .inl K))] → va_S A s.heap H locs → ∀ (ls : Array Slot), lv_has ls 6 [(0, .ref qg), (1, .ref qd), (2, .int (nI ch)), (3, .int (nI tt)), (4, .int fo), (5, .int (nI i))] → W p l e R s m args below meth c H locs 0 0 Q (F0 m 7 ls []) := by
    intro mz
    induction mz with
    | zero => intro d i fo hi hc hq hmu; exact absurd (by assumption) (Nat.not_lt_zero _)
    | succ mz ih7 =>
      intro d i fo hi hc hq hmu H locs hP hD hS ls hl
      refine lv_iload hx hb dX5_leastWithLastSegment_7 (lv_at hl 5 rfl) ?_
      refine lv_iload_n hx hb dX5_leastWithLastSegment_9 rfl (lv_at hl 3 rfl) ?_
      refine n_icmp_ge (x := i) (y := tt) (tgt := 43) hx hb (by omega) (by omega) dX5_leastWithLastSegment_10 (by decide) (fun c10 => ?_) (fun c10 => ?_)
      · skip
        obtain rfl : d = 0 := by omega
        rw [lwL] at hq
        refine lv_iload hx hb dX5_leastWithLastSegment_43 (lv_at hl 4 rfl) ?_
        exact fin_i (v := fo) hx hb hr hlk hP hS rfl hq rfl hQ dX5_leastWithLastSegment_45
      · skip
        obtain ⟨d, rfl⟩ : ∃ j, d = j + 1 := ⟨d - 1, by omega⟩
        rw [lwL] at hq
        refine lv_iload hx hb dX5_leastWithLastSegment_13 (lv_at hl 4 rfl) ?_
        refine lv_aload_n hx hb dX5_leastWithLastSegment_15 rfl (lv_at hl 0 rfl) ?_
        refine lv_iload_n hx hb dX5_leastWithLastSegment_16 rfl (lv_at hl 2 rfl) ?_
        refine lv_iconst (v := 1) hx hb dX5_leastWithLastSegment_17 (by decide) ?_
        refine n_isub (x := ch) (y := 1) hx hb (by omega) dX5_leastWithLastSegment_18 ?_
        refine lv_iload hx hb dX5_leastWithLastSegment_19 (lv_at hl 5 rfl) ?_
        refine call_Vi (D := D) (rest := [.int fo]) (ws' := [(qg, .inr (4, [.ref qi, .int (nI gl)])), (qi, .inl (cI, 7260, .inl L)), (qd, .inr (6, [.ref qe, .ref qf, .int (nI lr)])), (qe, .inl (cI, 7260, .inl K))]) (ad := [qg, qi]) (ad2 := [qg, qi, qd, qe]) hx hb hml hown hAW hN (c_X5_of l D cI cZ qg qi gl L (ch - 1) i (by omega) (by omega)) (cwVA 2 hAW q632 q633 q634 q27 q635 hd_X5_of (by rw [hR]; exact Nat.le_of_ble_eq_true rfl) (by rw [hR]; exact Nat.le_of_ble_eq_true rfl) rfl rfl) hK hP hD hS hA [0, 1] rfl rfl rfl rfl rfl rfl (by decide +kernel) (ci := 4) (q0 := 0) rfl rfl rfl rfl hl.1 rfl (lv_room (Nat.le_of_ble_eq_true rfl)) dX5_leastWithLastSegment_21 (Nat.zero_le _) (Nat.zero_le _) (fun H locs hP hD hS => ?_)
        refine lv_aload_n hx hb dX5_leastWithLastSegment_24 rfl (lv_at hl 1 rfl) ?_
        refine lv_iload hx hb dX5_leastWithLastSegment_25 (lv_at hl 5 rfl) ?_
        refine lv_iload_n hx hb dX5_leastWithLastSegment_27 rfl (lv_at hl 3 rfl) ?_
        refine call_Vi (D := D) (rest := [.int (L (tri (i - 1) + (ch - 1))), .int fo]) (ws' := [(qg, .inr (4, [.ref qi, .int (nI gl)])), (qi, .inl (cI, 7260, .inl L)), (qd, .inr (6, [.ref qe, .ref qf, .int (nI lr)])), (qe, .inl (cI, 7260, .inl K))]) (ad := [qd, qe]) (ad2 := [qg, qi, qd, qe]) hx hb hml hown hAW hN (c_X7_of l D cI cZ qd qe qf lr K i tt (by omega) (by omega)) (cwVA 2 hAW q626 q537 q538 q26 q539 hd_X7_of (by rw [hR]; exact Nat.le_of_ble_eq_true rfl) (by rw [hR]; exact Nat.le_of_ble_eq_true rfl) rfl rfl) hK hP hD hS hA [2, 3] rfl rfl rfl rfl rfl rfl (by decide +kernel) (ci := 6) (q0 := 2) rfl rfl rfl rfl hl.1 rfl (lv_room (Nat.le_of_ble_eq_true rfl)) dX5_leastWithLastSegment_28 (Nat.zero_le _) (Nat.zero_le _) (fun H locs hP hD hS => ?_)
        refine lv_iadd hx hb dX5_leastWithLastSegment_31 ?_
        refine va_mmin (x := fo) (y := ((L (tri (i - 1) + (ch - 1))) + (K (tri (tt - 1) + i)))) hx hb (hml.trans hl.1.symm) hown (hAW _ q636) (hAW _ q637) (hAW _ q37) (hAW _ q638) (by rw [hR]; exact Nat.le_of_ble_eq_true rfl) (by rw [hR]; exact Nat.le_of_ble_eq_true rfl) (Nat.zero_le _) (Nat.zero_le _) dX5_leastWithLastSegment_32 ?_
        refine lv_istore (lv' := [(4, .int (if ((L (tri (i - 1) + (ch - 1))) + (K (tri (tt - 1) + i))) < fo then ((L (tri (i - 1) + (ch - 1))) + (K (tri (tt - 1) + i))) else fo)), (0, .ref qg), (1, .ref qd), (2, .int (nI ch)), (3, .int (nI tt)), (5, .int (nI i))]) hx hb dX5_leastWithLastSegment_35 hl (by decide) rfl (fun ls hl => ?_)
        refine lv_iinc (v := (nI (i + 1))) (lv' := [(5, .int (nI (i + 1))), (4, .int (if ((L (tri (i - 1) + (ch - 1))) + (K (tri (tt - 1) + i))) < fo then ((L (tri (i - 1) + (ch - 1))) + (K (tri (tt - 1) + i))) else fo)), (0, .ref qg), (1, .ref qd), (2, .int (nI ch)), (3, .int (nI tt))]) hx hb dX5_leastWithLastSegment_37 hl (k := 5) rfl (nI_inc i 1) (by decide) rfl (fun ls hl => ?_)
        refine lv_goto (tgt := 7) hx hb dX5_leastWithLastSegment_40 (by decide) ?_
        exact ih7 d (i + 1) (if ((L (tri (i - 1) + (ch - 1))) + (K (tri (tt - 1) + i))) < fo then ((L (tri (i - 1) + (ch - 1))) + (K (tri (tt - 1) + i))) else fo) (by first | assumption | omega | rfl) (by first | assumption | omega | rfl) hq (by omega) _ _ hP hD hS ls (lv_sub hl [2, 3, 4, 5, 1, 0] rfl)
  exact L7 ((tt - ch) + 1) (tt - ch) ch 2147483647 (by first | assumption | omega | rfl) (by first | assumption | omega | rfl) rfl (Nat.lt_succ_self _) _ _ hP hD hS ls (lv_sub hl [2, 3, 4, 5, 1, 0] rfl)

set_option maxHeartbeats 4000000 in
set_option maxRecDepth 100000 in
theorem c_X5_learnCuttingsTo (l : Launch) (D : va_G) (cI cZ : ClassId) (qg qi gl : Nat) (L : Nat → Int32) (qd qe qf lr : Nat) (K : Nat → Int32) (tt : Nat) (h1 : 0 < tt) (h2 : tt ≤ 120) : Cv l yX5_learnCuttingsTo (aw yX5_learnCuttingsTo cX5_learnCuttingsTo 5 none) ({ frames := 3, cells := 0, slots := 0, locals := 67 }) D cI cZ [.ref qg, .ref qd, .int (nI tt)] [(qg, .inr (4, [.ref qi, .int (nI gl)])), (qi, .inl (cI, 7260, .inl L)), (qd, .inr (6, [.ref qe, .ref qf, .int (nI lr)])), (qe, .inl (cI, 7260, .inl K))] [(qg, .inr (4, [.ref qi, .int (nI gl)])), (qi, .inl (cI, 7260, .inl (lcL K tt (tt - 1) 1 (upd L (tri (tt - 1)) (K (tri (tt - 1) + 0)))))), (qd, .inr (6, [.ref qe, .ref qf, .int (nI lr)])), (qe, .inl (cI, 7260, .inl K))] := by
  refine mk_any (y := yX5_learnCuttingsTo) (av := [.ref qg, .ref qd, .int (nI tt)]) (cc := cX5_learnCuttingsTo) (maxL := 5) (ret := none) (Qc := fun A => va_Qv (fun (_ : Unit) => True) (cb D [(qg, .inr (4, [.ref qi, .int (nI gl)])), (qi, .inl (cI, 7260, .inl (lcL K tt (tt - 1) 1 (upd L (tri (tt - 1)) (K (tri (tt - 1) + 0)))))), (qd, .inr (6, [.ref qe, .ref qf, .int (nI lr)])), (qe, .inl (cI, 7260, .inl K))]) A) (plainFor_of_name (by decide)) (Nat.le_of_ble_eq_true rfl) ?_
  intro p e s m args below meth c A Q R hR hQ hx hb hr hml hAW hown hlk hN hA hP hK hD hS ls hl
  have hl : lv_has ls 5 [(0, .ref qg), (1, .ref qd), (2, .int (nI tt))] := hl
  refine lv_iload_n hx hb dX5_learnCuttingsTo_0 rfl (lv_at hl 2 rfl) ?_
  refine lv_iconst (v := 1) hx hb dX5_learnCuttingsTo_1 (by decide) ?_
  refine n_isub (x := tt) (y := 1) hx hb (by omega) dX5_learnCuttingsTo_2 ?_
  refine call_Si (D := D) (rest := []) (ws' := [(qg, .inr (4, [.ref qi, .int (nI gl)])), (qi, .inl (cI, 7260, .inl L)), (qd, .inr (6, [.ref qe, .ref qf, .int (nI lr)])), (qe, .inl (cI, 7260, .inl K))]) (ad := []) (ad2 := [qg, qi, qd, qe]) hx hb hml hown hAW hN (c_X7_triangle l D cI cZ (tt - 1) (by omega)) (cwSA 1 hAW q178 q160 q26 q161 hd_X7_triangle (by rw [hR]; exact Nat.le_of_ble_eq_true rfl) (by rw [hR]; exact Nat.le_of_ble_eq_true rfl) rfl rfl) hK hP hD hS hA [] rfl rfl rfl rfl rfl rfl (by decide +kernel) rfl hl.1 rfl (lv_room (Nat.le_of_ble_eq_true rfl)) dX5_learnCuttingsTo_3 (Nat.zero_le _) (Nat.zero_le _) (fun H locs hP hD hS => ?_)
  refine lv_istore_n (lv' := [(3, .int (nI (tri (tt - 1)))), (0, .ref qg), (1, .ref qd), (2, .int (nI tt))]) hx hb dX5_learnCuttingsTo_6 rfl hl (by decide) rfl (fun ls hl => ?_)
  refine lv_aload_n hx hb dX5_learnCuttingsTo_7 rfl (lv_at hl 1 rfl) ?_
  refine va_get (D := D) (ci := 4) (v := .ref qi) (C := RX5) (T := TX5) (N := 2) hx hb hAW iwX5 hown hK hP 0 rfl rfl 0 (by decide) (hAW _ q179) (fun _ h9 => h9) rfl dX5_learnCuttingsTo_8 ?_
  refine lv_iload_n hx hb dX5_learnCuttingsTo_11 rfl (lv_at hl 0 rfl) ?_
  refine lv_aload_n hx hb dX5_learnCuttingsTo_12 rfl (lv_at hl 2 rfl) ?_
  refine lv_iconst (v := 0) hx hb dX5_learnCuttingsTo_13 (by decide) ?_
  refine lv_iload_n hx hb dX5_learnCuttingsTo_14 rfl (lv_at hl 3 rfl) ?_
  refine call_Vi (D := D) (rest := [.int (nI (tri (tt - 1))), .ref qi]) (ws' := [(qg, .inr (4, [.ref qi, .int (nI gl)])), (qi, .inl (cI, 7260, .inl L)), (qd, .inr (6, [.ref qe, .ref qf, .int (nI lr)])), (qe, .inl (cI, 7260, .inl K))]) (ad := [qd, qe]) (ad2 := [qg, qi, qd, qe]) hx hb hml hown hAW hN (c_X7_of l D cI cZ qd qe qf lr K 0 tt (by omega) (by omega)) (cwVA 2 hAW q626 q537 q538 q26 q539 hd_X7_of (by rw [hR]; exact Nat.le_of_ble_eq_true rfl) (by rw [hR]; exact Nat.le_of_ble_eq_true rfl) rfl rfl) hK hP hD hS hA [2, 3] rfl rfl rfl rfl rfl rfl (by decide +kernel) (ci := 6) (q0 := 2) rfl rfl rfl rfl hl.1 rfl (lv_room (Nat.le_of_ble_eq_true rfl)) dX5_learnCuttingsTo_15 (Nat.zero_le _) (Nat.zero_le _) (fun H locs hP hD hS => ?_)
  refine n_iast (D := D) (f := L) (i := (tri (tt - 1))) (x := (K (tri (tt - 1) + 0))) hx hb hK hP hD hS 1 0 rfl rfl (by have := tri_lt h1 h2; omega) (by decide) dX5_learnCuttingsTo_18 (fun H locs hP hD hS => ?_)
  have hP : va_P D vwCl [(qg, .inr (4, [.ref qi, .int (nI gl)])), (qi, .inl (cI, 7260, .inl (upd L (tri (tt - 1)) (K (tri (tt - 1) + 0))))), (qd, .inr (6, [.ref qe, .ref qf, .int (nI lr)])), (qe, .inl (cI, 7260, .inl K))] H := hP
  have hD : va_D A [(qg, .inr (4, [.ref qi, .int (nI gl)])), (qi, .inl (cI, 7260, .inl (upd L (tri (tt - 1)) (K (tri (tt - 1) + 0))))), (qd, .inr (6, [.ref qe, .ref qf, .int (nI lr)])), (qe, .inl (cI, 7260, .inl K))] := hD
  refine lv_iconst (v := 1) hx hb dX5_learnCuttingsTo_19 (by decide) ?_
  refine lv_istore (lv' := [(4, .int 1), (3, .int (nI (tri (tt - 1)))), (0, .ref qg), (1, .ref qd), (2, .int (nI tt))]) hx hb dX5_learnCuttingsTo_20 hl (by decide) rfl (fun ls hl => ?_)
  have L22 : ∀ (mz : Nat) (d ch : Nat) (G : Nat → Int32), (ch + d = tt) → (0 < ch) → (lcL K tt d ch G = lcL K tt (tt - 1) 1 (upd L (tri (tt - 1)) (K (tri (tt - 1) + 0)))) → d < mz → ∀ (H : Heap) (locs : List Loc), va_P D vwCl [(qg, .inr (4, [.ref qi, .int (nI gl)])), (qi, .inl (cI, 7260, .inl G)), (qd, .inr (6, [.ref qe, .ref qf, .int (nI lr)])), (qe, .inl (cI, 7260, .inl K))] H → va_D A [(qg, .inr (4, [.ref qi, .int (nI gl)])), (qi, .inl (cI, 7260, .inl G)), (qd, .inr (6, [.ref qe, .ref qf, .int (nI lr)])), (qe, .inl (cI, 7260, .inl K))] → va_S A s.heap H locs → ∀ (ls : Array Slot), lv_has ls 5 [(0, .ref qg), (1, .ref qd), (2, .int (nI tt)), (3, .int (nI (tri (tt - 1)))), (4, .int (nI ch))] → W p l e R s m args below meth c H locs 0 0 Q (F0 m 22 ls []) := by
    intro mz
    induction mz with
    | zero => intro d ch G hi hc hq hmu; exact absurd (by assumption) (Nat.not_lt_zero _)
    | succ mz ih22 =>
      intro d ch G hi hc hq hmu H locs hP hD hS ls hl
      refine lv_iload hx hb dX5_learnCuttingsTo_22 (lv_at hl 4 rfl) ?_
      refine lv_iload_n hx hb dX5_learnCuttingsTo_24 rfl (lv_at hl 2 rfl) ?_
      refine n_icmp_ge (x := ch) (y := tt) (tgt := 51) hx hb (by omega) (by omega) dX5_learnCuttingsTo_25 (by decide) (fun c25 => ?_) (fun c25 => ?_)
      · skip
        obtain rfl : d = 0 := by omega
        rw [lcL] at hq
        exact fin_v hx hb hr hlk hP hS (by rw [← hq]) hQ dX5_learnCuttingsTo_51
      · skip
        obtain ⟨d, rfl⟩ : ∃ j, d = j + 1 := ⟨d - 1, by omega⟩
        rw [lcL] at hq
        refine lv_aload_n hx hb dX5_learnCuttingsTo_28 rfl (lv_at hl 0 rfl) ?_
        refine va_get (D := D) (ci := 4) (v := .ref qi) (C := RX5) (T := TX5) (N := 2) hx hb hAW iwX5 hown hK hP 0 rfl rfl 0 (by decide) (hAW _ q179) (fun _ h9 => h9) rfl dX5_learnCuttingsTo_29 ?_
        refine lv_iload_n hx hb dX5_learnCuttingsTo_32 rfl (lv_at hl 3 rfl) ?_
        refine lv_iload hx hb dX5_learnCuttingsTo_33 (lv_at hl 4 rfl) ?_
        refine n_iadd (x := (tri (tt - 1))) (y := ch) hx hb dX5_learnCuttingsTo_35 ?_
        refine lv_aload_n hx hb dX5_learnCuttingsTo_36 rfl (lv_at hl 0 rfl) ?_
        refine lv_aload_n hx hb dX5_learnCuttingsTo_37 rfl (lv_at hl 1 rfl) ?_
        refine lv_iload hx hb dX5_learnCuttingsTo_38 (lv_at hl 4 rfl) ?_
        refine lv_iload_n hx hb dX5_learnCuttingsTo_40 rfl (lv_at hl 2 rfl) ?_
        refine call_Vi (D := D) (rest := [.int (nI ((tri (tt - 1)) + ch)), .ref qi]) (ws' := [(qg, .inr (4, [.ref qi, .int (nI gl)])), (qi, .inl (cI, 7260, .inl G)), (qd, .inr (6, [.ref qe, .ref qf, .int (nI lr)])), (qe, .inl (cI, 7260, .inl K))]) (ad := [qg, qi, qd, qe]) (ad2 := [qg, qi, qd, qe]) hx hb hml hown hAW hN (c_X5_leastWithLastSegment l D cI cZ qg qi gl G qd qe qf lr K ch tt (by omega) (by omega) (by omega)) (cwVA 3 hAW q627 q629 q17 q27 q630 hd_X5_leastWithLastSegment (by rw [hR]; exact Nat.le_of_ble_eq_true rfl) (by rw [hR]; exact Nat.le_of_ble_eq_true rfl) rfl rfl) hK hP hD hS hA [0, 1, 2, 3] rfl rfl rfl rfl rfl rfl (by decide +kernel) (ci := 4) (q0 := 0) rfl rfl rfl rfl hl.1 rfl (lv_room (Nat.le_of_ble_eq_true rfl)) dX5_learnCuttingsTo_41 (Nat.zero_le _) (Nat.zero_le _) (fun H locs hP hD hS => ?_)
        refine n_iast (D := D) (f := G) (i := ((tri (tt - 1)) + ch)) (x := (lwL G K ch tt (tt - ch) ch 2147483647)) hx hb hK hP hD hS 1 0 rfl rfl (tri_lt (by omega) h2) (by decide) dX5_learnCuttingsTo_44 (fun H locs hP hD hS => ?_)
        have hP : va_P D vwCl [(qg, .inr (4, [.ref qi, .int (nI gl)])), (qi, .inl (cI, 7260, .inl (upd G ((tri (tt - 1)) + ch) (lwL G K ch tt (tt - ch) ch 2147483647)))), (qd, .inr (6, [.ref qe, .ref qf, .int (nI lr)])), (qe, .inl (cI, 7260, .inl K))] H := hP
        have hD : va_D A [(qg, .inr (4, [.ref qi, .int (nI gl)])), (qi, .inl (cI, 7260, .inl (upd G ((tri (tt - 1)) + ch) (lwL G K ch tt (tt - ch) ch 2147483647)))), (qd, .inr (6, [.ref qe, .ref qf, .int (nI lr)])), (qe, .inl (cI, 7260, .inl K))] := hD
        refine lv_iinc (v := (nI (ch + 1))) (lv' := [(4, .int (nI (ch + 1))), (0, .ref qg), (1, .ref qd), (2, .int (nI tt)), (3, .int (nI (tri (tt - 1))))]) hx hb dX5_learnCuttingsTo_45 hl (k := 4) rfl (nI_inc ch 1) (by decide) rfl (fun ls hl => ?_)
        refine lv_goto (tgt := 22) hx hb dX5_learnCuttingsTo_48 (by decide) ?_
        exact ih22 d (ch + 1) (upd G ((tri (tt - 1)) + ch) (lwL G K ch tt (tt - ch) ch 2147483647)) (by first | assumption | omega | rfl) (by first | assumption | omega | rfl) hq (by omega) _ _ hP hD hS ls (lv_sub hl [1, 2, 3, 4, 0] rfl)
  exact L22 ((tt - 1) + 1) (tt - 1) 1 (upd L (tri (tt - 1)) (K (tri (tt - 1) + 0))) (by first | assumption | omega | rfl) (by first | assumption | omega | rfl) rfl (Nat.lt_succ_self _) _ _ hP hD hS ls (lv_sub hl [2, 3, 4, 1, 0] rfl)

set_option maxHeartbeats 4000000 in
set_option maxRecDepth 100000 in
theorem c_X5_learn (l : Launch) (D : va_G) (cI cZ : ClassId) (qg qi gl : Nat) (L : Nat → Int32) (qd qe qf lr : Nat) (K : Nat → Int32) (en : Nat) (h1 : gl ≤ en) (h2 : en ≤ 120) : Cv l yX5_learn (aw yX5_learn cX5_learn 4 none) ({ frames := 4, cells := 0, slots := 0, locals := 91 }) D cI cZ [.ref qg, .ref qd, .int (nI en)] [(qg, .inr (4, [.ref qi, .int (nI gl)])), (qi, .inl (cI, 7260, .inl L)), (qd, .inr (6, [.ref qe, .ref qf, .int (nI lr)])), (qe, .inl (cI, 7260, .inl K))] [(qg, .inr (4, [.ref qi, .int (nI en)])), (qi, .inl (cI, 7260, .inl (leaL K (en - gl) gl L))), (qd, .inr (6, [.ref qe, .ref qf, .int (nI lr)])), (qe, .inl (cI, 7260, .inl K))] := by
  refine mk_any (y := yX5_learn) (av := [.ref qg, .ref qd, .int (nI en)]) (cc := cX5_learn) (maxL := 4) (ret := none) (Qc := fun A => va_Qv (fun (_ : Unit) => True) (cb D [(qg, .inr (4, [.ref qi, .int (nI en)])), (qi, .inl (cI, 7260, .inl (leaL K (en - gl) gl L))), (qd, .inr (6, [.ref qe, .ref qf, .int (nI lr)])), (qe, .inl (cI, 7260, .inl K))]) A) (plainFor_of_name (by decide)) (Nat.le_of_ble_eq_true rfl) ?_
  intro p e s m args below meth c A Q R hR hQ hx hb hr hml hAW hown hlk hN hA hP hK hD hS ls hl
  have hl : lv_has ls 4 [(0, .ref qg), (1, .ref qd), (2, .int (nI en))] := hl
  refine lv_aload_n hx hb dX5_learn_0 rfl (lv_at hl 0 rfl) ?_
  refine va_get (D := D) (ci := 4) (v := .int (nI gl)) (C := RX5) (T := TX5) (N := 2) hx hb hAW iwX5 hown hK hP 0 rfl rfl 1 (by decide) (hAW _ q180) (fun _ h9 => h9) rfl dX5_learn_1 ?_
  refine lv_iconst (v := 1) hx hb dX5_learn_4 (by decide) ?_
  refine n_iadd (x := gl) (y := 1) hx hb dX5_learn_5 ?_
  refine lv_istore_n (lv' := [(3, .int (nI (gl + 1))), (0, .ref qg), (1, .ref qd), (2, .int (nI en))]) hx hb dX5_learn_6 rfl hl (by decide) rfl (fun ls hl => ?_)
  have L7 : ∀ (mz : Nat) (d g : Nat) (G : Nat → Int32), (g + d = en) → (leaL K d g G = leaL K (en - gl) gl L) → d < mz → ∀ (H : Heap) (locs : List Loc), va_P D vwCl [(qg, .inr (4, [.ref qi, .int (nI g)])), (qi, .inl (cI, 7260, .inl G)), (qd, .inr (6, [.ref qe, .ref qf, .int (nI lr)])), (qe, .inl (cI, 7260, .inl K))] H → va_D A [(qg, .inr (4, [.ref qi, .int (nI g)])), (qi, .inl (cI, 7260, .inl G)), (qd, .inr (6, [.ref qe, .ref qf, .int (nI lr)])), (qe, .inl (cI, 7260, .inl K))] → va_S A s.heap H locs → ∀ (ls : Array Slot), lv_has ls 4 [(0, .ref qg), (1, .ref qd), (2, .int (nI en)), (3, .int (nI (g + 1)))] → W p l e R s m args below meth c H locs 0 0 Q (F0 m 7 ls []) := by
    intro mz
    induction mz with
    | zero => intro d g G hg hq hmu; exact absurd (by assumption) (Nat.not_lt_zero _)
    | succ mz ih7 =>
      intro d g G hg hq hmu H locs hP hD hS ls hl
      refine lv_iload_n hx hb dX5_learn_7 rfl (lv_at hl 3 rfl) ?_
      refine lv_iload_n hx hb dX5_learn_8 rfl (lv_at hl 2 rfl) ?_
      refine n_icmp_gt (x := (g + 1)) (y := en) (tgt := 29) hx hb (by omega) (by omega) dX5_learn_9 (by decide) (fun c9 => ?_) (fun c9 => ?_)
      · skip
        obtain rfl : d = 0 := by omega
        rw [leaL] at hq
        exact fin_v hx hb hr hlk hP hS (by have hge : g = en := (by omega); subst hge; rw [← hq]) hQ dX5_learn_29
      · skip
        obtain ⟨d, rfl⟩ : ∃ j, d = j + 1 := ⟨d - 1, by omega⟩
        rw [leaL] at hq
        refine lv_aload_n hx hb dX5_learn_12 rfl (lv_at hl 0 rfl) ?_
        refine lv_aload_n hx hb dX5_learn_13 rfl (lv_at hl 1 rfl) ?_
        refine lv_iload_n hx hb dX5_learn_14 rfl (lv_at hl 3 rfl) ?_
        refine call_Vv (D := D) (rest := []) (ws' := [(qg, .inr (4, [.ref qi, .int (nI g)])), (qi, .inl (cI, 7260, .inl (lcT K (g + 1) G))), (qd, .inr (6, [.ref qe, .ref qf, .int (nI lr)])), (qe, .inl (cI, 7260, .inl K))]) (ad := [qg, qi, qd, qe]) (ad2 := [qg, qi, qd, qe]) hx hb hml hown hAW hN (c_X5_learnCuttingsTo l D cI cZ qg qi g G qd qe qf lr K (g + 1) (by omega) (by omega)) (cwVA 2 hAW q622 q624 q16 q27 q625 hd_X5_learnCuttingsTo (by rw [hR]; exact Nat.le_of_ble_eq_true rfl) (by rw [hR]; exact Nat.le_of_ble_eq_true rfl) rfl rfl) hK hP hD hS hA [0, 1, 2, 3] rfl rfl rfl rfl rfl rfl (by decide +kernel) (ci := 4) (q0 := 0) rfl rfl rfl rfl hl.1 rfl (lv_room (Nat.le_of_ble_eq_true rfl)) dX5_learn_15 (Nat.zero_le _) (Nat.zero_le _) (fun H locs hP hD hS => ?_)
        refine lv_aload_n hx hb dX5_learn_18 rfl (lv_at hl 0 rfl) ?_
        refine lv_iload_n hx hb dX5_learn_19 rfl (lv_at hl 3 rfl) ?_
        refine va_put (D := D) (ci := 4) (v := .int (nI (g + 1))) (ty := .int) (C := RX5) (T := TX5) (N := 2) hx hb hAW iwX5 tyX5 tyX5_ok nmX5 hown hK hP hD hS 0 rfl rfl 1 (by decide) (hAW _ q180) (fun _ h9 => h9) rfl (tyX5_ok 1 (by decide)) rfl rfl (Nat.le_of_ble_eq_true rfl) dX5_learn_20 (fun H locs hP hD hS => ?_)
        have hP : va_P D vwCl [(qg, .inr (4, [.ref qi, .int (nI (g + 1))])), (qi, .inl (cI, 7260, .inl (lcT K (g + 1) G))), (qd, .inr (6, [.ref qe, .ref qf, .int (nI lr)])), (qe, .inl (cI, 7260, .inl K))] H := hP
        have hD : va_D A [(qg, .inr (4, [.ref qi, .int (nI (g + 1))])), (qi, .inl (cI, 7260, .inl (lcT K (g + 1) G))), (qd, .inr (6, [.ref qe, .ref qf, .int (nI lr)])), (qe, .inl (cI, 7260, .inl K))] := hD
        refine lv_iinc (v := (nI (g + 1 + 1))) (lv' := [(3, .int (nI (g + 1 + 1))), (0, .ref qg), (1, .ref qd), (2, .int (nI en))]) hx hb dX5_learn_23 hl (k := 3) rfl (nI_inc (g + 1) 1) (by decide) rfl (fun ls hl => ?_)
        refine lv_goto (tgt := 7) hx hb dX5_learn_26 (by decide) ?_
        exact ih7 d (g + 1) (lcT K (g + 1) G) (by first | assumption | omega | rfl) hq (by omega) _ _ hP hD hS ls (lv_sub hl [1, 2, 3, 0] rfl)
  exact L7 ((en - gl) + 1) (en - gl) gl L (by first | assumption | omega | rfl) rfl (Nat.lt_succ_self _) _ _ hP hD hS ls (lv_sub hl [1, 2, 3, 0] rfl)

set_option maxHeartbeats 4000000 in
set_option maxRecDepth 100000 in
theorem c_X3_join (l : Launch) (D : va_G) (cI cZ : ClassId) (qu qv : Nat) (cu : CuS) : Cv l yX3_join (aw yX3_join cX3_join 2 none) ({ frames := 0, cells := 0, slots := 0, locals := 0 }) D cI cZ [.ref qu] [(qu, .inr (3, [.ref qv, .int cu.2.1, .int cu.2.2.1, .int (zb cu.2.2.2)])), (qv, .inl (cZ, 120, .inl (zbf cu.1)))] [(qu, .inr (3, [.ref qv, .int ((cu_join cu).2.1), .int ((cu_join cu).2.2.1), .int (zb ((cu_join cu).2.2.2))])), (qv, .inl (cZ, 120, .inl (zbf ((cu_join cu).1))))] := by
  refine mk_any (y := yX3_join) (av := [.ref qu]) (cc := cX3_join) (maxL := 2) (ret := none) (Qc := fun A => va_Qv (fun (_ : Unit) => True) (cb D [(qu, .inr (3, [.ref qv, .int ((cu_join cu).2.1), .int ((cu_join cu).2.2.1), .int (zb ((cu_join cu).2.2.2))])), (qv, .inl (cZ, 120, .inl (zbf ((cu_join cu).1))))]) A) (plainFor_of_name (by decide)) (Nat.le_of_ble_eq_true rfl) ?_
  intro p e s m args below meth c A Q R hR hQ hx hb hr hml hAW hown hlk hN hA hP hK hD hS ls hl
  have hl : lv_has ls 2 [(0, .ref qu)] := hl
  refine lv_iconst (v := 0) hx hb dX3_join_0 (by decide) ?_
  refine lv_istore_n (lv' := [(1, .int 0), (0, .ref qu)]) hx hb dX3_join_1 rfl hl (by decide) rfl (fun ls hl => ?_)
  have L2 : ∀ (mz : Nat) (d i : Nat) (G : Nat → Bool), (i + d = 120) → (offL d i G = offL 120 0 cu.1) → d < mz → ∀ (H : Heap) (locs : List Loc), va_P D vwCl [(qu, .inr (3, [.ref qv, .int cu.2.1, .int cu.2.2.1, .int (zb cu.2.2.2)])), (qv, .inl (cZ, 120, .inl (zbf G)))] H → va_D A [(qu, .inr (3, [.ref qv, .int cu.2.1, .int cu.2.2.1, .int (zb cu.2.2.2)])), (qv, .inl (cZ, 120, .inl (zbf G)))] → va_S A s.heap H locs → ∀ (ls : Array Slot), lv_has ls 2 [(0, .ref qu), (1, .int (nI i))] → W p l e R s m args below meth c H locs 0 0 Q (F0 m 2 ls []) := by
    intro mz
    induction mz with
    | zero => intro d i G hi hq hmu; exact absurd (by assumption) (Nat.not_lt_zero _)
    | succ mz ih2 =>
      intro d i G hi hq hmu H locs hP hD hS ls hl
      refine lv_iload_n hx hb dX3_join_2 rfl (lv_at hl 1 rfl) ?_
      refine lv_bipush (v := 120) hx hb dX3_join_3 (by decide) ?_
      refine n_icmp_ge (x := i) (y := 120) (tgt := 21) hx hb (by omega) (by omega) dX3_join_5 (by decide) (fun c5 => ?_) (fun c5 => ?_)
      · skip
        obtain rfl : d = 0 := by omega
        rw [offL] at hq
        refine lv_aload_n hx hb dX3_join_21 rfl (lv_at hl 0 rfl) ?_
        refine lv_iconst (v := 0) hx hb dX3_join_22 (by decide) ?_
        refine va_put (D := D) (ci := 3) (v := .int 0) (ty := .int) (C := RX3) (T := TX3) (N := 4) hx hb hAW iwX3 tyX3 tyX3_ok nmX3 hown hK hP hD hS 0 rfl rfl 1 (by decide) (hAW _ q209) (fun _ h9 => h9) rfl (tyX3_ok 1 (by decide)) rfl rfl (Nat.le_of_ble_eq_true rfl) dX3_join_23 (fun H locs hP hD hS => ?_)
        have hP : va_P D vwCl [(qu, .inr (3, [.ref qv, .int 0, .int cu.2.2.1, .int (zb cu.2.2.2)])), (qv, .inl (cZ, 120, .inl (zbf G)))] H := hP
        have hD : va_D A [(qu, .inr (3, [.ref qv, .int 0, .int cu.2.2.1, .int (zb cu.2.2.2)])), (qv, .inl (cZ, 120, .inl (zbf G)))] := hD
        exact fin_v hx hb hr hlk hP hS (by rw [hq]) hQ dX3_join_26
      · skip
        obtain ⟨d, rfl⟩ : ∃ j, d = j + 1 := ⟨d - 1, by omega⟩
        rw [offL] at hq
        refine lv_aload_n hx hb dX3_join_8 rfl (lv_at hl 0 rfl) ?_
        refine va_get (D := D) (ci := 3) (v := .ref qv) (C := RX3) (T := TX3) (N := 4) hx hb hAW iwX3 hown hK hP 0 rfl rfl 0 (by decide) (hAW _ q208) (fun _ h9 => h9) rfl dX3_join_9 ?_
        refine lv_iload_n hx hb dX3_join_12 rfl (lv_at hl 1 rfl) ?_
        refine lv_iconst (v := 0) hx hb dX3_join_13 (by decide) ?_
        refine z_store (D := D) (f := G) (i := i) (x := false) hx hb hK hP hD hS 1 1 rfl rfl (by omega) (by decide) dX3_join_14 (fun H locs hP hD hS => ?_)
        have hP : va_P D vwCl [(qu, .inr (3, [.ref qv, .int cu.2.1, .int cu.2.2.1, .int (zb cu.2.2.2)])), (qv, .inl (cZ, 120, .inl (zbf (updB G i false))))] H := hP
        have hD : va_D A [(qu, .inr (3, [.ref qv, .int cu.2.1, .int cu.2.2.1, .int (zb cu.2.2.2)])), (qv, .inl (cZ, 120, .inl (zbf (updB G i false))))] := hD
        refine lv_iinc (v := (nI (i + 1))) (lv' := [(1, .int (nI (i + 1))), (0, .ref qu)]) hx hb dX3_join_15 hl (k := 1) rfl (nI_inc i 1) (by decide) rfl (fun ls hl => ?_)
        refine lv_goto (tgt := 2) hx hb dX3_join_18 (by decide) ?_
        exact ih2 d (i + 1) (updB G i false) (by first | assumption | omega | rfl) hq (by omega) _ _ hP hD hS ls (lv_sub hl [1, 0] rfl)
  exact L2 (120 + 1) 120 0 cu.1 (by first | assumption | omega | rfl) rfl (Nat.lt_succ_self _) _ _ hP hD hS ls (lv_sub hl [1, 0] rfl)

set_option maxHeartbeats 4000000 in
set_option maxRecDepth 100000 in
theorem c_X3_cut (l : Launch) (D : va_G) (cI cZ : ClassId) (qu qv : Nat) (cu : CuS) (nu : Nat) (hn : nu < 120) : Cv l yX3_cut (aw yX3_cut cX3_cut 2 none) ({ frames := 0, cells := 0, slots := 0, locals := 0 }) D cI cZ [.ref qu, .int (nI nu)] [(qu, .inr (3, [.ref qv, .int cu.2.1, .int cu.2.2.1, .int (zb cu.2.2.2)])), (qv, .inl (cZ, 120, .inl (zbf cu.1)))] [(qu, .inr (3, [.ref qv, .int ((cu_cut cu nu).2.1), .int ((cu_cut cu nu).2.2.1), .int (zb ((cu_cut cu nu).2.2.2))])), (qv, .inl (cZ, 120, .inl (zbf ((cu_cut cu nu).1))))] := by
  refine mk_any (y := yX3_cut) (av := [.ref qu, .int (nI nu)]) (cc := cX3_cut) (maxL := 2) (ret := none) (Qc := fun A => va_Qv (fun (_ : Unit) => True) (cb D [(qu, .inr (3, [.ref qv, .int ((cu_cut cu nu).2.1), .int ((cu_cut cu nu).2.2.1), .int (zb ((cu_cut cu nu).2.2.2))])), (qv, .inl (cZ, 120, .inl (zbf ((cu_cut cu nu).1))))]) A) (plainFor_of_name (by decide)) (Nat.le_of_ble_eq_true rfl) ?_
  intro p e s m args below meth c A Q R hR hQ hx hb hr hml hAW hown hlk hN hA hP hK hD hS ls hl
  have hl : lv_has ls 2 [(0, .ref qu), (1, .int (nI nu))] := hl
  refine lv_aload_n hx hb dX3_cut_0 rfl (lv_at hl 0 rfl) ?_
  refine va_get (D := D) (ci := 3) (v := .ref qv) (C := RX3) (T := TX3) (N := 4) hx hb hAW iwX3 hown hK hP 0 rfl rfl 0 (by decide) (hAW _ q208) (fun _ h9 => h9) rfl dX3_cut_1 ?_
  refine lv_iload_n hx hb dX3_cut_4 rfl (lv_at hl 1 rfl) ?_
  refine lv_iconst (v := 1) hx hb dX3_cut_5 (by decide) ?_
  refine z_store (D := D) (f := cu.1) (i := nu) (x := true) hx hb hK hP hD hS 1 1 rfl rfl (by omega) (by decide) dX3_cut_6 (fun H locs hP hD hS => ?_)
  have hP : va_P D vwCl [(qu, .inr (3, [.ref qv, .int cu.2.1, .int cu.2.2.1, .int (zb cu.2.2.2)])), (qv, .inl (cZ, 120, .inl (zbf (updB cu.1 nu true))))] H := hP
  have hD : va_D A [(qu, .inr (3, [.ref qv, .int cu.2.1, .int cu.2.2.1, .int (zb cu.2.2.2)])), (qv, .inl (cZ, 120, .inl (zbf (updB cu.1 nu true))))] := hD
  refine lv_aload_n hx hb dX3_cut_7 rfl (lv_at hl 0 rfl) ?_
  refine lv_dup hx hb dX3_cut_8 rfl ?_
  refine va_get (D := D) (ci := 3) (v := .int cu.2.1) (C := RX3) (T := TX3) (N := 4) hx hb hAW iwX3 hown hK hP 0 rfl rfl 1 (by decide) (hAW _ q209) (fun _ h9 => h9) rfl dX3_cut_9 ?_
  refine lv_iconst (v := 1) hx hb dX3_cut_12 (by decide) ?_
  refine lv_iadd hx hb dX3_cut_13 ?_
  refine va_put (D := D) (ci := 3) (v := .int (cu.2.1 + 1)) (ty := .int) (C := RX3) (T := TX3) (N := 4) hx hb hAW iwX3 tyX3 tyX3_ok nmX3 hown hK hP hD hS 0 rfl rfl 1 (by decide) (hAW _ q209) (fun _ h9 => h9) rfl (tyX3_ok 1 (by decide)) rfl rfl (Nat.le_of_ble_eq_true rfl) dX3_cut_14 (fun H locs hP hD hS => ?_)
  have hP : va_P D vwCl [(qu, .inr (3, [.ref qv, .int (cu.2.1 + 1), .int cu.2.2.1, .int (zb cu.2.2.2)])), (qv, .inl (cZ, 120, .inl (zbf (updB cu.1 nu true))))] H := hP
  have hD : va_D A [(qu, .inr (3, [.ref qv, .int (cu.2.1 + 1), .int cu.2.2.1, .int (zb cu.2.2.2)])), (qv, .inl (cZ, 120, .inl (zbf (updB cu.1 nu true))))] := hD
  exact fin_v hx hb hr hlk hP hS rfl hQ dX3_cut_17

set_option maxHeartbeats 4000000 in
set_option maxRecDepth 100000 in
theorem c_X3_has (l : Launch) (D : va_G) (cI cZ : ClassId) (qu qv : Nat) (cu : CuS) (x : Int32) : Ci l yX3_has (aw yX3_has cX3_has 2 (some .boolean)) ({ frames := 0, cells := 0, slots := 0, locals := 0 }) D cI cZ [.ref qu, .int x] [(qu, .inr (3, [.ref qv, .int cu.2.1, .int cu.2.2.1, .int (zb cu.2.2.2)])), (qv, .inl (cZ, 120, .inl (zbf cu.1)))] [(qu, .inr (3, [.ref qv, .int cu.2.1, .int cu.2.2.1, .int (zb cu.2.2.2)])), (qv, .inl (cZ, 120, .inl (zbf cu.1)))] (zb (decide (0 ≤ x ∧ x < cu.2.1))) := by
  refine mk_any (y := yX3_has) (av := [.ref qu, .int x]) (cc := cX3_has) (maxL := 2) (ret := (some .boolean)) (Qc := fun A => va_Qi (fun rr9 (_ : Unit) => rr9 = (zb (decide (0 ≤ x ∧ x < cu.2.1)))) (cb D [(qu, .inr (3, [.ref qv, .int cu.2.1, .int cu.2.2.1, .int (zb cu.2.2.2)])), (qv, .inl (cZ, 120, .inl (zbf cu.1)))]) A) (plainFor_of_name (by decide)) (Nat.le_of_ble_eq_true rfl) ?_
  intro p e s m args below meth c A Q R hR hQ hx hb hr hml hAW hown hlk hN hA hP hK hD hS ls hl
  have hl : lv_has ls 2 [(0, .ref qu), (1, .int x)] := hl
  refine lv_iload_n hx hb dX3_has_0 rfl (lv_at hl 1 rfl) ?_
  refine lv_if_lt (tgt := 16) hx hb dX3_has_1 (by decide) (fun c1 => ?_) (fun c1 => ?_)
  · skip
    refine lv_iconst (v := 0) hx hb dX3_has_16 (by decide) ?_
    exact fin_i (v := 0) hx hb hr hlk hP hS rfl (zb_f (fun h => absurd h.1 (Int32.not_le.mpr c1))) rfl hQ dX3_has_17
  · skip
    refine lv_iload_n hx hb dX3_has_4 rfl (lv_at hl 1 rfl) ?_
    refine lv_aload_n hx hb dX3_has_5 rfl (lv_at hl 0 rfl) ?_
    refine va_get (D := D) (ci := 3) (v := .int cu.2.1) (C := RX3) (T := TX3) (N := 4) hx hb hAW iwX3 hown hK hP 0 rfl rfl 1 (by decide) (hAW _ q209) (fun _ h9 => h9) rfl dX3_has_6 ?_
    refine lv_icmp_ge (tgt := 16) hx hb dX3_has_9 (by decide) (fun c9 => ?_) (fun c9 => ?_)
    · skip
      refine lv_iconst (v := 0) hx hb dX3_has_16 (by decide) ?_
      exact fin_i (v := 0) hx hb hr hlk hP hS rfl (zb_f (fun h => absurd h.2 (Int32.not_lt.mpr c9))) rfl hQ dX3_has_17
    · skip
      refine lv_iconst (v := 1) hx hb dX3_has_12 (by decide) ?_
      refine lv_goto (tgt := 17) hx hb dX3_has_13 (by decide) ?_
      exact fin_i (v := 1) hx hb hr hlk hP hS rfl (zb_t ⟨Int32.not_lt.mp c1, Int32.not_le.mp c9⟩) rfl hQ dX3_has_17

set_option maxHeartbeats 4000000 in
set_option maxRecDepth 100000 in
theorem c_X3_endOfSegment (l : Launch) (D : va_G) (cI cZ : ClassId) (qu qv : Nat) (cu : CuS) (fr en : Nat) (h1 : fr < en) (h2 : en ≤ 120) : Ci l yX3_endOfSegment (aw yX3_endOfSegment cX3_endOfSegment 4 (some .int)) ({ frames := 0, cells := 0, slots := 0, locals := 0 }) D cI cZ [.ref qu, .int (nI fr), .int (nI en)] [(qu, .inr (3, [.ref qv, .int cu.2.1, .int cu.2.2.1, .int (zb cu.2.2.2)])), (qv, .inl (cZ, 120, .inl (zbf cu.1)))] [(qu, .inr (3, [.ref qv, .int cu.2.1, .int cu.2.2.1, .int (zb cu.2.2.2)])), (qv, .inl (cZ, 120, .inl (zbf cu.1)))] (nI (eosL cu.1 en (en - (fr + 1)) (fr + 1))) := by
  refine mk_any (y := yX3_endOfSegment) (av := [.ref qu, .int (nI fr), .int (nI en)]) (cc := cX3_endOfSegment) (maxL := 4) (ret := (some .int)) (Qc := fun A => va_Qi (fun rr9 (_ : Unit) => rr9 = (nI (eosL cu.1 en (en - (fr + 1)) (fr + 1)))) (cb D [(qu, .inr (3, [.ref qv, .int cu.2.1, .int cu.2.2.1, .int (zb cu.2.2.2)])), (qv, .inl (cZ, 120, .inl (zbf cu.1)))]) A) (plainFor_of_name (by decide)) (Nat.le_of_ble_eq_true rfl) ?_
  intro p e s m args below meth c A Q R hR hQ hx hb hr hml hAW hown hlk hN hA hP hK hD hS ls hl
  have hl : lv_has ls 4 [(0, .ref qu), (1, .int (nI fr)), (2, .int (nI en))] := hl
  refine lv_iload_n hx hb dX3_endOfSegment_0 rfl (lv_at hl 1 rfl) ?_
  refine lv_iconst (v := 1) hx hb dX3_endOfSegment_1 (by decide) ?_
  refine n_iadd (x := fr) (y := 1) hx hb dX3_endOfSegment_2 ?_
  refine lv_istore_n (lv' := [(3, .int (nI (fr + 1))), (0, .ref qu), (1, .int (nI fr)), (2, .int (nI en))]) hx hb dX3_endOfSegment_3 rfl hl (by decide) rfl (fun ls hl => ?_)
  have L4 : ∀ (mz : Nat) (d i : Nat), (i + d = en) → (eosL cu.1 en d i = eosL cu.1 en (en - (fr + 1)) (fr + 1)) → d < mz → ∀ (H : Heap) (locs : List Loc), va_P D vwCl [(qu, .inr (3, [.ref qv, .int cu.2.1, .int cu.2.2.1, .int (zb cu.2.2.2)])), (qv, .inl (cZ, 120, .inl (zbf cu.1)))] H → va_D A [(qu, .inr (3, [.ref qv, .int cu.2.1, .int cu.2.2.1, .int (zb cu.2.2.2)])), (qv, .inl (cZ, 120, .inl (zbf cu.1)))] → va_S A s.heap H locs → ∀ (ls : Array Slot), lv_has ls 4 [(0, .ref qu), (1, .int (nI fr)), (2, .int (nI en)), (3, .int (nI i))] → W p l e R s m args below meth c H locs 0 0 Q (F0 m 4 ls []) := by
    intro mz
    induction mz with
    | zero => intro d i hi hq hmu; exact absurd (by assumption) (Nat.not_lt_zero _)
    | succ mz ih4 =>
      intro d i hi hq hmu H locs hP hD hS ls hl
      refine lv_iload_n hx hb dX3_endOfSegment_4 rfl (lv_at hl 3 rfl) ?_
      refine lv_iload_n hx hb dX3_endOfSegment_5 rfl (lv_at hl 2 rfl) ?_
      refine n_icmp_ge (x := i) (y := en) (tgt := 26) hx hb (by omega) (by omega) dX3_endOfSegment_6 (by decide) (fun c6 => ?_) (fun c6 => ?_)
      · skip
        obtain rfl : d = 0 := by omega
        rw [eosL] at hq
        refine lv_iload_n hx hb dX3_endOfSegment_26 rfl (lv_at hl 2 rfl) ?_
        exact fin_i (v := (nI en)) hx hb hr hlk hP hS rfl (by rw [← hq]) rfl hQ dX3_endOfSegment_27
      · skip
        obtain ⟨d, rfl⟩ : ∃ j, d = j + 1 := ⟨d - 1, by omega⟩
        refine lv_aload_n hx hb dX3_endOfSegment_9 rfl (lv_at hl 0 rfl) ?_
        refine va_get (D := D) (ci := 3) (v := .ref qv) (C := RX3) (T := TX3) (N := 4) hx hb hAW iwX3 hown hK hP 0 rfl rfl 0 (by decide) (hAW _ q208) (fun _ h9 => h9) rfl dX3_endOfSegment_10 ?_
        refine lv_iload_n hx hb dX3_endOfSegment_13 rfl (lv_at hl 3 rfl) ?_
        refine z_load (D := D) (f := cu.1) (i := i) hx hb hK hP 1 1 rfl rfl (by omega) (by decide) dX3_endOfSegment_14 ?_
        refine z_if_eq (x := (cu.1 i)) (tgt := 20) hx hb dX3_endOfSegment_15 (by decide) (fun c15 => ?_) (fun c15 => ?_)
        · skip
          refine lv_iinc (v := (nI (i + 1))) (lv' := [(3, .int (nI (i + 1))), (0, .ref qu), (1, .int (nI fr)), (2, .int (nI en))]) hx hb dX3_endOfSegment_20 hl (k := 3) rfl (nI_inc i 1) (by decide) rfl (fun ls hl => ?_)
          refine lv_goto (tgt := 4) hx hb dX3_endOfSegment_23 (by decide) ?_
          exact ih4 d (i + 1) (by first | assumption | omega | rfl) (by rw [eosL, if_neg (by rw [c15]; decide)] at hq; exact hq) (by omega) _ _ hP hD hS ls (lv_sub hl [1, 2, 3, 0] rfl)
        · skip
          refine lv_iload_n hx hb dX3_endOfSegment_18 rfl (lv_at hl 3 rfl) ?_
          exact fin_i (v := (nI i)) hx hb hr hlk hP hS rfl (by rw [eosL, if_pos c15] at hq; rw [hq]) rfl hQ dX3_endOfSegment_19
  exact L4 ((en - (fr + 1)) + 1) (en - (fr + 1)) (fr + 1) (by first | assumption | omega | rfl) rfl (Nat.lt_succ_self _) _ _ hP hD hS ls (lv_sub hl [1, 2, 3, 0] rfl)

set_option maxHeartbeats 4000000 in
set_option maxRecDepth 100000 in
theorem c_X3_numberAt (l : Launch) (D : va_G) (cI cZ : ClassId) (qu qv : Nat) (cu : CuS) (x : Int32) : Ci l yX3_numberAt (aw yX3_numberAt cX3_numberAt 4 (some .int)) ({ frames := 0, cells := 0, slots := 0, locals := 0 }) D cI cZ [.ref qu, .int x] [(qu, .inr (3, [.ref qv, .int cu.2.1, .int cu.2.2.1, .int (zb cu.2.2.2)])), (qv, .inl (cZ, 120, .inl (zbf cu.1)))] [(qu, .inr (3, [.ref qv, .int cu.2.1, .int cu.2.2.1, .int (zb cu.2.2.2)])), (qv, .inl (cZ, 120, .inl (zbf cu.1)))] (naL cu.1 x 120 0 0) := by
  refine mk_any (y := yX3_numberAt) (av := [.ref qu, .int x]) (cc := cX3_numberAt) (maxL := 4) (ret := (some .int)) (Qc := fun A => va_Qi (fun rr9 (_ : Unit) => rr9 = naL cu.1 x 120 0 0) (cb D [(qu, .inr (3, [.ref qv, .int cu.2.1, .int cu.2.2.1, .int (zb cu.2.2.2)])), (qv, .inl (cZ, 120, .inl (zbf cu.1)))]) A) (plainFor_of_name (by decide)) (Nat.le_of_ble_eq_true rfl) ?_
  intro p e s m args below meth c A Q R hR hQ hx hb hr hml hAW hown hlk hN hA hP hK hD hS ls hl
  have hl : lv_has ls 4 [(0, .ref qu), (1, .int x)] := hl
  refine lv_iconst (v := 0) hx hb dX3_numberAt_0 (by decide) ?_
  refine lv_istore_n (lv' := [(2, .int 0), (0, .ref qu), (1, .int x)]) hx hb dX3_numberAt_1 rfl hl (by decide) rfl (fun ls hl => ?_)
  refine lv_iconst (v := 0) hx hb dX3_numberAt_2 (by decide) ?_
  refine lv_istore_n (lv' := [(3, .int 0), (2, .int 0), (0, .ref qu), (1, .int x)]) hx hb dX3_numberAt_3 rfl hl (by decide) rfl (fun ls hl => ?_)
  have L4 : ∀ (mz : Nat) (d i : Nat) (pa : Int32), (i + d = 120) → (naL cu.1 x d i pa = naL cu.1 x 120 0 0) → d < mz → ∀ (H : Heap) (locs : List Loc), va_P D vwCl [(qu, .inr (3, [.ref qv, .int cu.2.1, .int cu.2.2.1, .int (zb cu.2.2.2)])), (qv, .inl (cZ, 120, .inl (zbf cu.1)))] H → va_D A [(qu, .inr (3, [.ref qv, .int cu.2.1, .int cu.2.2.1, .int (zb cu.2.2.2)])), (qv, .inl (cZ, 120, .inl (zbf cu.1)))] → va_S A s.heap H locs → ∀ (ls : Array Slot), lv_has ls 4 [(0, .ref qu), (1, .int x), (2, .int pa), (3, .int (nI i))] → W p l e R s m args below meth c H locs 0 0 Q (F0 m 4 ls []) := by
    intro mz
    induction mz with
    | zero => intro d i pa hi hq hmu; exact absurd (by assumption) (Nat.not_lt_zero _)
    | succ mz ih4 =>
      intro d i pa hi hq hmu H locs hP hD hS ls hl
      refine lv_iload_n hx hb dX3_numberAt_4 rfl (lv_at hl 3 rfl) ?_
      refine lv_bipush (v := 120) hx hb dX3_numberAt_5 (by decide) ?_
      refine n_icmp_ge (x := i) (y := 120) (tgt := 35) hx hb (by omega) (by omega) dX3_numberAt_7 (by decide) (fun c7 => ?_) (fun c7 => ?_)
      · skip
        obtain rfl : d = 0 := by omega
        rw [naL] at hq
        refine lv_iconst (v := 0) hx hb dX3_numberAt_35 (by decide) ?_
        exact fin_i (v := 0) hx hb hr hlk hP hS rfl hq rfl hQ dX3_numberAt_36
      · skip
        obtain ⟨d, rfl⟩ : ∃ j, d = j + 1 := ⟨d - 1, by omega⟩
        refine lv_aload_n hx hb dX3_numberAt_10 rfl (lv_at hl 0 rfl) ?_
        refine va_get (D := D) (ci := 3) (v := .ref qv) (C := RX3) (T := TX3) (N := 4) hx hb hAW iwX3 hown hK hP 0 rfl rfl 0 (by decide) (hAW _ q208) (fun _ h9 => h9) rfl dX3_numberAt_11 ?_
        refine lv_iload_n hx hb dX3_numberAt_14 rfl (lv_at hl 3 rfl) ?_
        refine z_load (D := D) (f := cu.1) (i := i) hx hb hK hP 1 1 rfl rfl (by omega) (by decide) dX3_numberAt_15 ?_
        refine z_if_eq (x := (cu.1 i)) (tgt := 29) hx hb dX3_numberAt_16 (by decide) (fun c16 => ?_) (fun c16 => ?_)
        · skip
          refine lv_iinc (v := (nI (i + 1))) (lv' := [(3, .int (nI (i + 1))), (0, .ref qu), (1, .int x), (2, .int pa)]) hx hb dX3_numberAt_29 hl (k := 3) rfl (nI_inc i 1) (by decide) rfl (fun ls hl => ?_)
          refine lv_goto (tgt := 4) hx hb dX3_numberAt_32 (by decide) ?_
          exact ih4 d (i + 1) pa (by first | assumption | omega | rfl) (by rw [naL, if_neg (by rw [c16]; decide)] at hq; exact hq) (by omega) _ _ hP hD hS ls (lv_sub hl [1, 2, 3, 0] rfl)
        · skip
          refine lv_iload_n hx hb dX3_numberAt_19 rfl (lv_at hl 2 rfl) ?_
          refine lv_iload_n hx hb dX3_numberAt_20 rfl (lv_at hl 1 rfl) ?_
          refine lv_icmp_ne (tgt := 26) hx hb dX3_numberAt_21 (by decide) (fun c21 => ?_) (fun c21 => ?_)
          · skip
            obtain ⟨x26, ex26⟩ : ∃ y : Int32, y = pa + 1 := ⟨_, rfl⟩
            refine lv_iinc (v := x26) (lv' := [(2, .int x26), (0, .ref qu), (1, .int x), (3, .int (nI i))]) hx hb dX3_numberAt_26 hl (k := 2) rfl (by rw [ex26]; rfl) (by decide) rfl (fun ls hl => ?_)
            refine lv_iinc (v := (nI (i + 1))) (lv' := [(3, .int (nI (i + 1))), (2, .int x26), (0, .ref qu), (1, .int x)]) hx hb dX3_numberAt_29 hl (k := 3) rfl (nI_inc i 1) (by decide) rfl (fun ls hl => ?_)
            refine lv_goto (tgt := 4) hx hb dX3_numberAt_32 (by decide) ?_
            exact ih4 d (i + 1) x26 (by first | assumption | omega | rfl) (by rw [naL, if_pos c16, if_neg c21] at hq; rw [ex26]; exact hq) (by omega) _ _ hP hD hS ls (lv_sub hl [2, 3, 1, 0] rfl)
          · skip
            refine lv_iload_n hx hb dX3_numberAt_24 rfl (lv_at hl 3 rfl) ?_
            exact fin_i (v := (nI i)) hx hb hr hlk hP hS rfl (by rw [naL, if_pos c16, if_pos c21] at hq; exact hq) rfl hQ dX3_numberAt_25
  exact L4 (120 + 1) 120 0 0 (by first | assumption | omega | rfl) rfl (Nat.lt_succ_self _) _ _ hP hD hS ls (lv_sub hl [2, 3, 1, 0] rfl)

set_option maxHeartbeats 4000000 in
set_option maxRecDepth 100000 in
theorem c_X3_settle (l : Launch) (D : va_G) (cI cZ : ClassId) (qu qv : Nat) (cu : CuS) (qd qe qf lr : Nat) (K : Nat → Int32) (en : Nat) (pn : Int32) (h2 : en ≤ 120) : Cv l yX3_settle (aw yX3_settle cX3_settle 6 none) ({ frames := 2, cells := 0, slots := 0, locals := 42 }) D cI cZ [.ref qu, .ref qd, .int (nI en), .int pn] [(qu, .inr (3, [.ref qv, .int cu.2.1, .int cu.2.2.1, .int (zb cu.2.2.2)])), (qv, .inl (cZ, 120, .inl (zbf cu.1))), (qd, .inr (6, [.ref qe, .ref qf, .int (nI lr)])), (qe, .inl (cI, 7260, .inl K))] [(qu, .inr (3, [.ref qv, .int cu.2.1, .int (setL K cu.1 en en 1 0 (cu.2.1 * pn)), .int (zb true)])), (qv, .inl (cZ, 120, .inl (zbf cu.1))), (qd, .inr (6, [.ref qe, .ref qf, .int (nI lr)])), (qe, .inl (cI, 7260, .inl K))] := by
  refine mk_any (y := yX3_settle) (av := [.ref qu, .ref qd, .int (nI en), .int pn]) (cc := cX3_settle) (maxL := 6) (ret := none) (Qc := fun A => va_Qv (fun (_ : Unit) => True) (cb D [(qu, .inr (3, [.ref qv, .int cu.2.1, .int (setL K cu.1 en en 1 0 (cu.2.1 * pn)), .int (zb true)])), (qv, .inl (cZ, 120, .inl (zbf cu.1))), (qd, .inr (6, [.ref qe, .ref qf, .int (nI lr)])), (qe, .inl (cI, 7260, .inl K))]) A) (plainFor_of_name (by decide)) (Nat.le_of_ble_eq_true rfl) ?_
  intro p e s m args below meth c A Q R hR hQ hx hb hr hml hAW hown hlk hN hA hP hK hD hS ls hl
  have hl : lv_has ls 6 [(0, .ref qu), (1, .ref qd), (2, .int (nI en)), (3, .int pn)] := hl
  refine lv_aload_n hx hb dX3_settle_0 rfl (lv_at hl 0 rfl) ?_
  refine lv_aload_n hx hb dX3_settle_1 rfl (lv_at hl 0 rfl) ?_
  refine va_get (D := D) (ci := 3) (v := .int cu.2.1) (C := RX3) (T := TX3) (N := 4) hx hb hAW iwX3 hown hK hP 0 rfl rfl 1 (by decide) (hAW _ q209) (fun _ h9 => h9) rfl dX3_settle_2 ?_
  refine lv_iload_n hx hb dX3_settle_5 rfl (lv_at hl 3 rfl) ?_
  refine lv_imul hx hb dX3_settle_6 ?_
  refine va_put (D := D) (ci := 3) (v := .int (cu.2.1 * pn)) (ty := .int) (C := RX3) (T := TX3) (N := 4) hx hb hAW iwX3 tyX3 tyX3_ok nmX3 hown hK hP hD hS 0 rfl rfl 2 (by decide) (hAW _ q211) (fun _ h9 => h9) rfl (tyX3_ok 2 (by decide)) rfl rfl (Nat.le_of_ble_eq_true rfl) dX3_settle_7 (fun H locs hP hD hS => ?_)
  have hP : va_P D vwCl [(qu, .inr (3, [.ref qv, .int cu.2.1, .int (cu.2.1 * pn), .int (zb cu.2.2.2)])), (qv, .inl (cZ, 120, .inl (zbf cu.1))), (qd, .inr (6, [.ref qe, .ref qf, .int (nI lr)])), (qe, .inl (cI, 7260, .inl K))] H := hP
  have hD : va_D A [(qu, .inr (3, [.ref qv, .int cu.2.1, .int (cu.2.1 * pn), .int (zb cu.2.2.2)])), (qv, .inl (cZ, 120, .inl (zbf cu.1))), (qd, .inr (6, [.ref qe, .ref qf, .int (nI lr)])), (qe, .inl (cI, 7260, .inl K))] := hD
  refine lv_iconst (v := 0) hx hb dX3_settle_10 (by decide) ?_
  refine lv_istore (lv' := [(4, .int 0), (0, .ref qu), (1, .ref qd), (2, .int (nI en)), (3, .int pn)]) hx hb dX3_settle_11 hl (by decide) rfl (fun ls hl => ?_)
  refine lv_iconst (v := 1) hx hb dX3_settle_13 (by decide) ?_
  refine lv_istore (lv' := [(5, .int 1), (4, .int 0), (0, .ref qu), (1, .ref qd), (2, .int (nI en)), (3, .int pn)]) hx hb dX3_settle_14 hl (by decide) rfl (fun ls hl => ?_)
  have L16 : ∀ (mz : Nat) (d i fr : Nat) (pr : Int32), (i + d = en + 1) → (fr < i) → (setL K cu.1 en d i fr pr = (setL K cu.1 en en 1 0 (cu.2.1 * pn))) → d < mz → ∀ (H : Heap) (locs : List Loc), va_P D vwCl [(qu, .inr (3, [.ref qv, .int cu.2.1, .int pr, .int (zb cu.2.2.2)])), (qv, .inl (cZ, 120, .inl (zbf cu.1))), (qd, .inr (6, [.ref qe, .ref qf, .int (nI lr)])), (qe, .inl (cI, 7260, .inl K))] H → va_D A [(qu, .inr (3, [.ref qv, .int cu.2.1, .int pr, .int (zb cu.2.2.2)])), (qv, .inl (cZ, 120, .inl (zbf cu.1))), (qd, .inr (6, [.ref qe, .ref qf, .int (nI lr)])), (qe, .inl (cI, 7260, .inl K))] → va_S A s.heap H locs → ∀ (ls : Array Slot), lv_has ls 6 [(0, .ref qu), (1, .ref qd), (2, .int (nI en)), (3, .int pn), (4, .int (nI fr)), (5, .int (nI i))] → W p l e R s m args below meth c H locs 0 0 Q (F0 m 16 ls []) := by
    intro mz
    induction mz with
    | zero => intro d i fr pr hi hf hq hmu; exact absurd (by assumption) (Nat.not_lt_zero _)
    | succ mz ih16 =>
      intro d i fr pr hi hf hq hmu H locs hP hD hS ls hl
      refine lv_iload hx hb dX3_settle_16 (lv_at hl 5 rfl) ?_
      refine lv_iload_n hx hb dX3_settle_18 rfl (lv_at hl 2 rfl) ?_
      refine n_icmp_gt (x := i) (y := en) (tgt := 65) hx hb (by omega) (by omega) dX3_settle_19 (by decide) (fun c19 => ?_) (fun c19 => ?_)
      · skip
        obtain rfl : d = 0 := by omega
        rw [setL] at hq
        refine lv_aload_n hx hb dX3_settle_65 rfl (lv_at hl 0 rfl) ?_
        refine lv_iconst (v := 1) hx hb dX3_settle_66 (by decide) ?_
        refine va_put (D := D) (ci := 3) (v := .int (zb true)) (ty := .boolean) (C := RX3) (T := TX3) (N := 4) hx hb hAW iwX3 tyX3 tyX3_ok nmX3 hown hK hP hD hS 0 rfl rfl 3 (by decide) (hAW _ q213) (fun _ h9 => h9) rfl (tyX3_ok 3 (by decide)) (zb_narrow _) (zb_fits _) (Nat.le_of_ble_eq_true rfl) dX3_settle_67 (fun H locs hP hD hS => ?_)
        have hP : va_P D vwCl [(qu, .inr (3, [.ref qv, .int cu.2.1, .int pr, .int (zb true)])), (qv, .inl (cZ, 120, .inl (zbf cu.1))), (qd, .inr (6, [.ref qe, .ref qf, .int (nI lr)])), (qe, .inl (cI, 7260, .inl K))] H := hP
        have hD : va_D A [(qu, .inr (3, [.ref qv, .int cu.2.1, .int pr, .int (zb true)])), (qv, .inl (cZ, 120, .inl (zbf cu.1))), (qd, .inr (6, [.ref qe, .ref qf, .int (nI lr)])), (qe, .inl (cI, 7260, .inl K))] := hD
        exact fin_v hx hb hr hlk hP hS (by rw [← hq]) hQ dX3_settle_70
      · skip
        obtain ⟨d, rfl⟩ : ∃ j, d = j + 1 := ⟨d - 1, by omega⟩
        refine lv_iload hx hb dX3_settle_22 (lv_at hl 5 rfl) ?_
        refine lv_iload_n hx hb dX3_settle_24 rfl (lv_at hl 2 rfl) ?_
        refine n_icmp_eq (x := i) (y := en) (tgt := 38) hx hb (by omega) (by omega) dX3_settle_25 (by decide) (fun c25 => ?_) (fun c25 => ?_)
        · skip
          refine lv_aload_n hx hb dX3_settle_38 rfl (lv_at hl 0 rfl) ?_
          refine lv_dup hx hb dX3_settle_39 rfl ?_
          refine va_get (D := D) (ci := 3) (v := .int pr) (C := RX3) (T := TX3) (N := 4) hx hb hAW iwX3 hown hK hP 0 rfl rfl 2 (by decide) (hAW _ q211) (fun _ h9 => h9) rfl dX3_settle_40 ?_
          refine lv_aload_n hx hb dX3_settle_43 rfl (lv_at hl 1 rfl) ?_
          refine lv_iload hx hb dX3_settle_44 (lv_at hl 4 rfl) ?_
          refine lv_iload hx hb dX3_settle_46 (lv_at hl 5 rfl) ?_
          refine call_Vi (D := D) (rest := [.int pr, .ref qu]) (ws' := [(qu, .inr (3, [.ref qv, .int cu.2.1, .int pr, .int (zb cu.2.2.2)])), (qv, .inl (cZ, 120, .inl (zbf cu.1))), (qd, .inr (6, [.ref qe, .ref qf, .int (nI lr)])), (qe, .inl (cI, 7260, .inl K))]) (ad := [qd, qe]) (ad2 := [qu, qv, qd, qe]) hx hb hml hown hAW hN (c_X7_of l D cI cZ qd qe qf lr K fr i (by omega) (by omega)) (cwVA 2 hAW q577 q537 q538 q26 q539 hd_X7_of (by rw [hR]; exact Nat.le_of_ble_eq_true rfl) (by rw [hR]; exact Nat.le_of_ble_eq_true rfl) rfl rfl) hK hP hD hS hA [2, 3] rfl rfl rfl rfl rfl rfl (by decide +kernel) (ci := 6) (q0 := 2) rfl rfl rfl rfl hl.1 rfl (lv_room (Nat.le_of_ble_eq_true rfl)) dX3_settle_48 (Nat.zero_le _) (Nat.zero_le _) (fun H locs hP hD hS => ?_)
          refine lv_iadd hx hb dX3_settle_51 ?_
          refine va_put (D := D) (ci := 3) (v := .int (pr + (K (tri (i - 1) + fr)))) (ty := .int) (C := RX3) (T := TX3) (N := 4) hx hb hAW iwX3 tyX3 tyX3_ok nmX3 hown hK hP hD hS 0 rfl rfl 2 (by decide) (hAW _ q211) (fun _ h9 => h9) rfl (tyX3_ok 2 (by decide)) rfl rfl (Nat.le_of_ble_eq_true rfl) dX3_settle_52 (fun H locs hP hD hS => ?_)
          have hP : va_P D vwCl [(qu, .inr (3, [.ref qv, .int cu.2.1, .int (pr + (K (tri (i - 1) + fr))), .int (zb cu.2.2.2)])), (qv, .inl (cZ, 120, .inl (zbf cu.1))), (qd, .inr (6, [.ref qe, .ref qf, .int (nI lr)])), (qe, .inl (cI, 7260, .inl K))] H := hP
          have hD : va_D A [(qu, .inr (3, [.ref qv, .int cu.2.1, .int (pr + (K (tri (i - 1) + fr))), .int (zb cu.2.2.2)])), (qv, .inl (cZ, 120, .inl (zbf cu.1))), (qd, .inr (6, [.ref qe, .ref qf, .int (nI lr)])), (qe, .inl (cI, 7260, .inl K))] := hD
          refine lv_iload hx hb dX3_settle_55 (lv_at hl 5 rfl) ?_
          refine lv_istore (lv' := [(4, .int (nI i)), (0, .ref qu), (1, .ref qd), (2, .int (nI en)), (3, .int pn), (5, .int (nI i))]) hx hb dX3_settle_57 hl (by decide) rfl (fun ls hl => ?_)
          refine lv_iinc (v := (nI (i + 1))) (lv' := [(5, .int (nI (i + 1))), (4, .int (nI i)), (0, .ref qu), (1, .ref qd), (2, .int (nI en)), (3, .int pn)]) hx hb dX3_settle_59 hl (k := 5) rfl (nI_inc i 1) (by decide) rfl (fun ls hl => ?_)
          refine lv_goto (tgt := 16) hx hb dX3_settle_62 (by decide) ?_
          exact ih16 d (i + 1) i (pr + (K (tri (i - 1) + fr))) (by first | assumption | omega | rfl) (by first | assumption | omega | rfl) (by rw [setL, if_pos c25] at hq; exact hq) (by omega) _ _ hP hD hS ls (lv_sub hl [2, 3, 4, 5, 1, 0] rfl)
        · skip
          refine lv_aload_n hx hb dX3_settle_28 rfl (lv_at hl 0 rfl) ?_
          refine va_get (D := D) (ci := 3) (v := .ref qv) (C := RX3) (T := TX3) (N := 4) hx hb hAW iwX3 hown hK hP 0 rfl rfl 0 (by decide) (hAW _ q208) (fun _ h9 => h9) rfl dX3_settle_29 ?_
          refine lv_iload hx hb dX3_settle_32 (lv_at hl 5 rfl) ?_
          refine z_load (D := D) (f := cu.1) (i := i) hx hb hK hP 1 1 rfl rfl (by omega) (by decide) dX3_settle_34 ?_
          refine z_if_eq (x := (cu.1 i)) (tgt := 59) hx hb dX3_settle_35 (by decide) (fun c35 => ?_) (fun c35 => ?_)
          · skip
            refine lv_iinc (v := (nI (i + 1))) (lv' := [(5, .int (nI (i + 1))), (0, .ref qu), (1, .ref qd), (2, .int (nI en)), (3, .int pn), (4, .int (nI fr))]) hx hb dX3_settle_59 hl (k := 5) rfl (nI_inc i 1) (by decide) rfl (fun ls hl => ?_)
            refine lv_goto (tgt := 16) hx hb dX3_settle_62 (by decide) ?_
            exact ih16 d (i + 1) fr pr (by first | assumption | omega | rfl) (by first | assumption | omega | rfl) (by rw [setL, if_neg c25, if_neg (by rw [c35]; decide)] at hq; exact hq) (by omega) _ _ hP hD hS ls (lv_sub hl [1, 2, 3, 4, 5, 0] rfl)
          · skip
            refine lv_aload_n hx hb dX3_settle_38 rfl (lv_at hl 0 rfl) ?_
            refine lv_dup hx hb dX3_settle_39 rfl ?_
            refine va_get (D := D) (ci := 3) (v := .int pr) (C := RX3) (T := TX3) (N := 4) hx hb hAW iwX3 hown hK hP 0 rfl rfl 2 (by decide) (hAW _ q211) (fun _ h9 => h9) rfl dX3_settle_40 ?_
            refine lv_aload_n hx hb dX3_settle_43 rfl (lv_at hl 1 rfl) ?_
            refine lv_iload hx hb dX3_settle_44 (lv_at hl 4 rfl) ?_
            refine lv_iload hx hb dX3_settle_46 (lv_at hl 5 rfl) ?_
            refine call_Vi (D := D) (rest := [.int pr, .ref qu]) (ws' := [(qu, .inr (3, [.ref qv, .int cu.2.1, .int pr, .int (zb cu.2.2.2)])), (qv, .inl (cZ, 120, .inl (zbf cu.1))), (qd, .inr (6, [.ref qe, .ref qf, .int (nI lr)])), (qe, .inl (cI, 7260, .inl K))]) (ad := [qd, qe]) (ad2 := [qu, qv, qd, qe]) hx hb hml hown hAW hN (c_X7_of l D cI cZ qd qe qf lr K fr i (by omega) (by omega)) (cwVA 2 hAW q577 q537 q538 q26 q539 hd_X7_of (by rw [hR]; exact Nat.le_of_ble_eq_true rfl) (by rw [hR]; exact Nat.le_of_ble_eq_true rfl) rfl rfl) hK hP hD hS hA [2, 3] rfl rfl rfl rfl rfl rfl (by decide +kernel) (ci := 6) (q0 := 2) rfl rfl rfl rfl hl.1 rfl (lv_room (Nat.le_of_ble_eq_true rfl)) dX3_settle_48 (Nat.zero_le _) (Nat.zero_le _) (fun H locs hP hD hS => ?_)
            refine lv_iadd hx hb dX3_settle_51 ?_
            refine va_put (D := D) (ci := 3) (v := .int (pr + (K (tri (i - 1) + fr)))) (ty := .int) (C := RX3) (T := TX3) (N := 4) hx hb hAW iwX3 tyX3 tyX3_ok nmX3 hown hK hP hD hS 0 rfl rfl 2 (by decide) (hAW _ q211) (fun _ h9 => h9) rfl (tyX3_ok 2 (by decide)) rfl rfl (Nat.le_of_ble_eq_true rfl) dX3_settle_52 (fun H locs hP hD hS => ?_)
            have hP : va_P D vwCl [(qu, .inr (3, [.ref qv, .int cu.2.1, .int (pr + (K (tri (i - 1) + fr))), .int (zb cu.2.2.2)])), (qv, .inl (cZ, 120, .inl (zbf cu.1))), (qd, .inr (6, [.ref qe, .ref qf, .int (nI lr)])), (qe, .inl (cI, 7260, .inl K))] H := hP
            have hD : va_D A [(qu, .inr (3, [.ref qv, .int cu.2.1, .int (pr + (K (tri (i - 1) + fr))), .int (zb cu.2.2.2)])), (qv, .inl (cZ, 120, .inl (zbf cu.1))), (qd, .inr (6, [.ref qe, .ref qf, .int (nI lr)])), (qe, .inl (cI, 7260, .inl K))] := hD
            refine lv_iload hx hb dX3_settle_55 (lv_at hl 5 rfl) ?_
            refine lv_istore (lv' := [(4, .int (nI i)), (0, .ref qu), (1, .ref qd), (2, .int (nI en)), (3, .int pn), (5, .int (nI i))]) hx hb dX3_settle_57 hl (by decide) rfl (fun ls hl => ?_)
            refine lv_iinc (v := (nI (i + 1))) (lv' := [(5, .int (nI (i + 1))), (4, .int (nI i)), (0, .ref qu), (1, .ref qd), (2, .int (nI en)), (3, .int pn)]) hx hb dX3_settle_59 hl (k := 5) rfl (nI_inc i 1) (by decide) rfl (fun ls hl => ?_)
            refine lv_goto (tgt := 16) hx hb dX3_settle_62 (by decide) ?_
            exact ih16 d (i + 1) i (pr + (K (tri (i - 1) + fr))) (by first | assumption | omega | rfl) (by first | assumption | omega | rfl) (by rw [setL, if_neg c25, if_pos c35] at hq; exact hq) (by omega) _ _ hP hD hS ls (lv_sub hl [2, 3, 4, 5, 1, 0] rfl)
  exact L16 (en + 1) en 1 0 (cu.2.1 * pn) (by first | assumption | omega | rfl) (by first | assumption | omega | rfl) rfl (Nat.lt_succ_self _) _ _ hP hD hS ls (lv_sub hl [2, 3, 4, 5, 1, 0] rfl)

set_option maxHeartbeats 4000000 in
set_option maxRecDepth 100000 in
theorem c_X4_numberOfGreatestGain (l : Launch) (D : va_G) (cI cZ : ClassId) (qd qe qf lr : Nat) (K : Nat → Int32) (en : Nat) (pn : Int32) (qu qv : Nat) (cu : CuS) (h1 : 1 < en) (h2 : en ≤ 120) : Ci l yX4_numberOfGreatestGain (aw yX4_numberOfGreatestGain cX4_numberOfGreatestGain 10 (some .int)) ({ frames := 2, cells := 0, slots := 0, locals := 42 }) D cI cZ [.ref qd, .int (nI en), .int pn, .ref qu] [(qd, .inr (6, [.ref qe, .ref qf, .int (nI lr)])), (qe, .inl (cI, 7260, .inl K)), (qu, .inr (3, [.ref qv, .int cu.2.1, .int cu.2.2.1, .int (zb cu.2.2.2)])), (qv, .inl (cZ, 120, .inl (zbf cu.1)))] [(qd, .inr (6, [.ref qe, .ref qf, .int (nI lr)])), (qe, .inl (cI, 7260, .inl K)), (qu, .inr (3, [.ref qv, .int cu.2.1, .int cu.2.2.1, .int (zb cu.2.2.2)])), (qv, .inl (cZ, 120, .inl (zbf cu.1)))] (nI (gnT K en cu.1 pn)) := by
  refine mk_any (y := yX4_numberOfGreatestGain) (av := [.ref qd, .int (nI en), .int pn, .ref qu]) (cc := cX4_numberOfGreatestGain) (maxL := 10) (ret := (some .int)) (Qc := fun A => va_Qi (fun rr9 (_ : Unit) => rr9 = (nI (gnT K en cu.1 pn))) (cb D [(qd, .inr (6, [.ref qe, .ref qf, .int (nI lr)])), (qe, .inl (cI, 7260, .inl K)), (qu, .inr (3, [.ref qv, .int cu.2.1, .int cu.2.2.1, .int (zb cu.2.2.2)])), (qv, .inl (cZ, 120, .inl (zbf cu.1)))]) A) (plainFor_of_name (by decide)) (Nat.le_of_ble_eq_true rfl) ?_
  intro p e s m args below meth c A Q R hR hQ hx hb hr hml hAW hown hlk hN hA hP hK hD hS ls hl
  have hl : lv_has ls 10 [(0, .ref qd), (1, .int (nI en)), (2, .int pn), (3, .ref qu)] := hl
  refine lv_iload_n hx hb dX4_numberOfGreatestGain_0 rfl (lv_at hl 2 rfl) ?_
  refine lv_istore (lv' := [(4, .int pn), (0, .ref qd), (1, .int (nI en)), (2, .int pn), (3, .ref qu)]) hx hb dX4_numberOfGreatestGain_1 hl (by decide) rfl (fun ls hl => ?_)
  refine lv_iconst (v := 0) hx hb dX4_numberOfGreatestGain_3 (by decide) ?_
  refine lv_istore (lv' := [(5, .int 0), (4, .int pn), (0, .ref qd), (1, .int (nI en)), (2, .int pn), (3, .ref qu)]) hx hb dX4_numberOfGreatestGain_4 hl (by decide) rfl (fun ls hl => ?_)
  refine lv_iconst (v := 0) hx hb dX4_numberOfGreatestGain_6 (by decide) ?_
  refine lv_istore (lv' := [(6, .int 0), (5, .int 0), (4, .int pn), (0, .ref qd), (1, .int (nI en)), (2, .int pn), (3, .ref qu)]) hx hb dX4_numberOfGreatestGain_7 hl (by decide) rfl (fun ls hl => ?_)
  refine lv_aload_n hx hb dX4_numberOfGreatestGain_9 rfl (lv_at hl 6 rfl) ?_
  refine lv_iconst (v := 0) hx hb dX4_numberOfGreatestGain_10 (by decide) ?_
  refine lv_iload_n hx hb dX4_numberOfGreatestGain_11 rfl (lv_at hl 4 rfl) ?_
  refine call_Vi (D := D) (rest := []) (ws' := [(qd, .inr (6, [.ref qe, .ref qf, .int (nI lr)])), (qe, .inl (cI, 7260, .inl K)), (qu, .inr (3, [.ref qv, .int cu.2.1, .int cu.2.2.1, .int (zb cu.2.2.2)])), (qv, .inl (cZ, 120, .inl (zbf cu.1)))]) (ad := [qu, qv]) (ad2 := [qd, qe, qu, qv]) hx hb hml hown hAW hN (c_X3_endOfSegment l D cI cZ qu qv cu 0 en (by omega) (by omega)) (cwVA 2 hAW q601 q602 q603 q29 q604 hd_X3_endOfSegment (by rw [hR]; exact Nat.le_of_ble_eq_true rfl) (by rw [hR]; exact Nat.le_of_ble_eq_true rfl) rfl rfl) hK hP hD hS hA [2, 3] rfl rfl rfl rfl rfl rfl (by decide +kernel) (ci := 3) (q0 := 2) rfl rfl rfl rfl hl.1 rfl (lv_room (Nat.le_of_ble_eq_true rfl)) dX4_numberOfGreatestGain_12 (Nat.zero_le _) (Nat.zero_le _) (fun H locs hP hD hS => ?_)
  refine lv_istore (lv' := [(7, .int (nI (eosL cu.1 en (en - (0 + 1)) (0 + 1)))), (6, .int 0), (5, .int 0), (4, .int pn), (0, .ref qd), (1, .int (nI en)), (2, .int pn), (3, .ref qu)]) hx hb dX4_numberOfGreatestGain_15 hl (by decide) rfl (fun ls hl => ?_)
  refine lv_iconst (v := 1) hx hb dX4_numberOfGreatestGain_17 (by decide) ?_
  refine lv_istore (lv' := [(8, .int 1), (7, .int (nI (eosL cu.1 en (en - (0 + 1)) (0 + 1)))), (6, .int 0), (5, .int 0), (4, .int pn), (0, .ref qd), (1, .int (nI en)), (2, .int pn), (3, .ref qu)]) hx hb dX4_numberOfGreatestGain_18 hl (by decide) rfl (fun ls hl => ?_)
  have L20 : ∀ (mz : Nat) (d i : Nat) (gr : Int32) (ng fr tt : Nat), (i + d = en) → (0 < i) → (fr < i) → (i ≤ tt) → (tt ≤ en) → (gnL K en cu.1 d i gr ng fr tt = gnT K en cu.1 pn) → d < mz → ∀ (H : Heap) (locs : List Loc), va_P D vwCl [(qd, .inr (6, [.ref qe, .ref qf, .int (nI lr)])), (qe, .inl (cI, 7260, .inl K)), (qu, .inr (3, [.ref qv, .int cu.2.1, .int cu.2.2.1, .int (zb cu.2.2.2)])), (qv, .inl (cZ, 120, .inl (zbf cu.1)))] H → va_D A [(qd, .inr (6, [.ref qe, .ref qf, .int (nI lr)])), (qe, .inl (cI, 7260, .inl K)), (qu, .inr (3, [.ref qv, .int cu.2.1, .int cu.2.2.1, .int (zb cu.2.2.2)])), (qv, .inl (cZ, 120, .inl (zbf cu.1)))] → va_S A s.heap H locs → ∀ (ls : Array Slot), lv_has ls 10 [(0, .ref qd), (1, .int (nI en)), (2, .int pn), (3, .ref qu), (4, .int gr), (5, .int (nI ng)), (6, .int (nI fr)), (7, .int (nI tt)), (8, .int (nI i))] → W p l e R s m args below meth c H locs 0 0 Q (F0 m 20 ls []) := by
    intro mz
    induction mz with
    | zero => intro d i gr ng fr tt hi h0 hf ht he hq hmu; exact absurd (by assumption) (Nat.not_lt_zero _)
    | succ mz ih20 =>
      intro d i gr ng fr tt hi h0 hf ht he hq hmu H locs hP hD hS ls hl
      refine lv_iload hx hb dX4_numberOfGreatestGain_20 (lv_at hl 8 rfl) ?_
      refine lv_iload_n hx hb dX4_numberOfGreatestGain_22 rfl (lv_at hl 1 rfl) ?_
      refine n_icmp_ge (x := i) (y := en) (tgt := 98) hx hb (by omega) (by omega) dX4_numberOfGreatestGain_23 (by decide) (fun c23 => ?_) (fun c23 => ?_)
      · skip
        obtain rfl : d = 0 := by omega
        rw [gnL] at hq
        refine lv_iload hx hb dX4_numberOfGreatestGain_98 (lv_at hl 5 rfl) ?_
        exact fin_i (v := (nI ng)) hx hb hr hlk hP hS rfl (by rw [← hq]) rfl hQ dX4_numberOfGreatestGain_100
      · skip
        obtain ⟨d, rfl⟩ : ∃ j, d = j + 1 := ⟨d - 1, by omega⟩
        refine lv_iload hx hb dX4_numberOfGreatestGain_26 (lv_at hl 8 rfl) ?_
        refine lv_iload hx hb dX4_numberOfGreatestGain_28 (lv_at hl 7 rfl) ?_
        refine n_icmp_ne (x := i) (y := tt) (tgt := 49) hx hb (by omega) (by omega) dX4_numberOfGreatestGain_30 (by decide) (fun c30 => ?_) (fun c30 => ?_)
        · skip
          refine lv_aload_n hx hb dX4_numberOfGreatestGain_49 rfl (lv_at hl 0 rfl) ?_
          refine lv_iload hx hb dX4_numberOfGreatestGain_50 (lv_at hl 6 rfl) ?_
          refine lv_iload hx hb dX4_numberOfGreatestGain_52 (lv_at hl 7 rfl) ?_
          refine call_Vi (D := D) (rest := []) (ws' := [(qd, .inr (6, [.ref qe, .ref qf, .int (nI lr)])), (qe, .inl (cI, 7260, .inl K)), (qu, .inr (3, [.ref qv, .int cu.2.1, .int cu.2.2.1, .int (zb cu.2.2.2)])), (qv, .inl (cZ, 120, .inl (zbf cu.1)))]) (ad := [qd, qe]) (ad2 := [qd, qe, qu, qv]) hx hb hml hown hAW hN (c_X7_of l D cI cZ qd qe qf lr K fr tt (by omega) (by omega)) (cwVA 2 hAW q605 q537 q538 q26 q539 hd_X7_of (by rw [hR]; exact Nat.le_of_ble_eq_true rfl) (by rw [hR]; exact Nat.le_of_ble_eq_true rfl) rfl rfl) hK hP hD hS hA [0, 1] rfl rfl rfl rfl rfl rfl (by decide +kernel) (ci := 6) (q0 := 0) rfl rfl rfl rfl hl.1 rfl (lv_room (Nat.le_of_ble_eq_true rfl)) dX4_numberOfGreatestGain_54 (Nat.zero_le _) (Nat.zero_le _) (fun H locs hP hD hS => ?_)
          refine lv_aload_n hx hb dX4_numberOfGreatestGain_57 rfl (lv_at hl 0 rfl) ?_
          refine lv_iload hx hb dX4_numberOfGreatestGain_58 (lv_at hl 6 rfl) ?_
          refine lv_iload hx hb dX4_numberOfGreatestGain_60 (lv_at hl 8 rfl) ?_
          refine call_Vi (D := D) (rest := [.int (K (tri (tt - 1) + fr))]) (ws' := [(qd, .inr (6, [.ref qe, .ref qf, .int (nI lr)])), (qe, .inl (cI, 7260, .inl K)), (qu, .inr (3, [.ref qv, .int cu.2.1, .int cu.2.2.1, .int (zb cu.2.2.2)])), (qv, .inl (cZ, 120, .inl (zbf cu.1)))]) (ad := [qd, qe]) (ad2 := [qd, qe, qu, qv]) hx hb hml hown hAW hN (c_X7_of l D cI cZ qd qe qf lr K fr i (by omega) (by omega)) (cwVA 2 hAW q605 q537 q538 q26 q539 hd_X7_of (by rw [hR]; exact Nat.le_of_ble_eq_true rfl) (by rw [hR]; exact Nat.le_of_ble_eq_true rfl) rfl rfl) hK hP hD hS hA [0, 1] rfl rfl rfl rfl rfl rfl (by decide +kernel) (ci := 6) (q0 := 0) rfl rfl rfl rfl hl.1 rfl (lv_room (Nat.le_of_ble_eq_true rfl)) dX4_numberOfGreatestGain_62 (Nat.zero_le _) (Nat.zero_le _) (fun H locs hP hD hS => ?_)
          refine lv_isub hx hb dX4_numberOfGreatestGain_65 ?_
          refine lv_aload_n hx hb dX4_numberOfGreatestGain_66 rfl (lv_at hl 0 rfl) ?_
          refine lv_iload hx hb dX4_numberOfGreatestGain_67 (lv_at hl 8 rfl) ?_
          refine lv_iload hx hb dX4_numberOfGreatestGain_69 (lv_at hl 7 rfl) ?_
          refine call_Vi (D := D) (rest := [.int ((K (tri (tt - 1) + fr)) - (K (tri (i - 1) + fr)))]) (ws' := [(qd, .inr (6, [.ref qe, .ref qf, .int (nI lr)])), (qe, .inl (cI, 7260, .inl K)), (qu, .inr (3, [.ref qv, .int cu.2.1, .int cu.2.2.1, .int (zb cu.2.2.2)])), (qv, .inl (cZ, 120, .inl (zbf cu.1)))]) (ad := [qd, qe]) (ad2 := [qd, qe, qu, qv]) hx hb hml hown hAW hN (c_X7_of l D cI cZ qd qe qf lr K i tt (by omega) (by omega)) (cwVA 2 hAW q605 q537 q538 q26 q539 hd_X7_of (by rw [hR]; exact Nat.le_of_ble_eq_true rfl) (by rw [hR]; exact Nat.le_of_ble_eq_true rfl) rfl rfl) hK hP hD hS hA [0, 1] rfl rfl rfl rfl rfl rfl (by decide +kernel) (ci := 6) (q0 := 0) rfl rfl rfl rfl hl.1 rfl (lv_room (Nat.le_of_ble_eq_true rfl)) dX4_numberOfGreatestGain_71 (Nat.zero_le _) (Nat.zero_le _) (fun H locs hP hD hS => ?_)
          refine lv_isub hx hb dX4_numberOfGreatestGain_74 ?_
          refine lv_istore (lv' := [(9, .int (((K (tri (tt - 1) + fr)) - (K (tri (i - 1) + fr))) - (K (tri (tt - 1) + i)))), (0, .ref qd), (1, .int (nI en)), (2, .int pn), (3, .ref qu), (4, .int gr), (5, .int (nI ng)), (6, .int (nI fr)), (7, .int (nI tt)), (8, .int (nI i))]) hx hb dX4_numberOfGreatestGain_75 hl (by decide) rfl (fun ls hl => ?_)
          refine lv_iload hx hb dX4_numberOfGreatestGain_77 (lv_at hl 0 rfl) ?_
          refine lv_iload hx hb dX4_numberOfGreatestGain_79 (lv_at hl 5 rfl) ?_
          refine lv_icmp_le (tgt := 92) hx hb dX4_numberOfGreatestGain_81 (by decide) (fun c81 => ?_) (fun c81 => ?_)
          · skip
            refine lv_iinc (v := (nI (i + 1))) (lv' := [(8, .int (nI (i + 1))), (9, .int (((K (tri (tt - 1) + fr)) - (K (tri (i - 1) + fr))) - (K (tri (tt - 1) + i)))), (0, .ref qd), (1, .int (nI en)), (2, .int pn), (3, .ref qu), (4, .int gr), (5, .int (nI ng)), (6, .int (nI fr)), (7, .int (nI tt))]) hx hb dX4_numberOfGreatestGain_92 hl (k := 9) rfl (nI_inc i 1) (by decide) rfl (fun ls hl => ?_)
            refine lv_goto (tgt := 20) hx hb dX4_numberOfGreatestGain_95 (by decide) ?_
            exact ih20 d (i + 1) gr ng fr tt (by first | assumption | omega | rfl) (by first | assumption | omega | rfl) (by first | assumption | omega | rfl) (by first | assumption | omega | rfl) (by first | assumption | omega | rfl) (by rw [gnL, if_neg c30, if_pos c81] at hq; exact hq) (by omega) _ _ hP hD hS ls (lv_sub hl [2, 3, 4, 5, 6, 7, 8, 9, 0] rfl)
          · skip
            refine lv_iload hx hb dX4_numberOfGreatestGain_84 (lv_at hl 0 rfl) ?_
            refine lv_istore (lv' := [(4, .int (((K (tri (tt - 1) + fr)) - (K (tri (i - 1) + fr))) - (K (tri (tt - 1) + i)))), (9, .int (((K (tri (tt - 1) + fr)) - (K (tri (i - 1) + fr))) - (K (tri (tt - 1) + i)))), (0, .ref qd), (1, .int (nI en)), (2, .int pn), (3, .ref qu), (5, .int (nI ng)), (6, .int (nI fr)), (7, .int (nI tt)), (8, .int (nI i))]) hx hb dX4_numberOfGreatestGain_86 hl (by decide) rfl (fun ls hl => ?_)
            refine lv_iload hx hb dX4_numberOfGreatestGain_88 (lv_at hl 9 rfl) ?_
            refine lv_istore (lv' := [(5, .int (nI i)), (4, .int (((K (tri (tt - 1) + fr)) - (K (tri (i - 1) + fr))) - (K (tri (tt - 1) + i)))), (9, .int (((K (tri (tt - 1) + fr)) - (K (tri (i - 1) + fr))) - (K (tri (tt - 1) + i)))), (0, .ref qd), (1, .int (nI en)), (2, .int pn), (3, .ref qu), (6, .int (nI fr)), (7, .int (nI tt)), (8, .int (nI i))]) hx hb dX4_numberOfGreatestGain_90 hl (by decide) rfl (fun ls hl => ?_)
            refine lv_iinc (v := (nI (i + 1))) (lv' := [(8, .int (nI (i + 1))), (5, .int (nI i)), (4, .int (((K (tri (tt - 1) + fr)) - (K (tri (i - 1) + fr))) - (K (tri (tt - 1) + i)))), (9, .int (((K (tri (tt - 1) + fr)) - (K (tri (i - 1) + fr))) - (K (tri (tt - 1) + i)))), (0, .ref qd), (1, .int (nI en)), (2, .int pn), (3, .ref qu), (6, .int (nI fr)), (7, .int (nI tt))]) hx hb dX4_numberOfGreatestGain_92 hl (k := 9) rfl (nI_inc i 1) (by decide) rfl (fun ls hl => ?_)
            refine lv_goto (tgt := 20) hx hb dX4_numberOfGreatestGain_95 (by decide) ?_
            exact ih20 d (i + 1) (((K (tri (tt - 1) + fr)) - (K (tri (i - 1) + fr))) - (K (tri (tt - 1) + i))) i fr tt (by first | assumption | omega | rfl) (by first | assumption | omega | rfl) (by first | assumption | omega | rfl) (by first | assumption | omega | rfl) (by first | assumption | omega | rfl) (by rw [gnL, if_neg c30, if_neg c81] at hq; exact hq) (by omega) _ _ hP hD hS ls (lv_sub hl [4, 5, 6, 7, 2, 1, 8, 9, 0] rfl)
        · skip
          refine lv_iload hx hb dX4_numberOfGreatestGain_33 (lv_at hl 8 rfl) ?_
          refine lv_istore (lv' := [(6, .int (nI i)), (0, .ref qd), (1, .int (nI en)), (2, .int pn), (3, .ref qu), (4, .int gr), (5, .int (nI ng)), (7, .int (nI tt)), (8, .int (nI i))]) hx hb dX4_numberOfGreatestGain_35 hl (by decide) rfl (fun ls hl => ?_)
          refine lv_aload_n hx hb dX4_numberOfGreatestGain_37 rfl (lv_at hl 4 rfl) ?_
          refine lv_iload hx hb dX4_numberOfGreatestGain_38 (lv_at hl 8 rfl) ?_
          refine lv_iload_n hx hb dX4_numberOfGreatestGain_40 rfl (lv_at hl 2 rfl) ?_
          refine call_Vi (D := D) (rest := []) (ws' := [(qd, .inr (6, [.ref qe, .ref qf, .int (nI lr)])), (qe, .inl (cI, 7260, .inl K)), (qu, .inr (3, [.ref qv, .int cu.2.1, .int cu.2.2.1, .int (zb cu.2.2.2)])), (qv, .inl (cZ, 120, .inl (zbf cu.1)))]) (ad := [qu, qv]) (ad2 := [qd, qe, qu, qv]) hx hb hml hown hAW hN (c_X3_endOfSegment l D cI cZ qu qv cu i en (by omega) (by omega)) (cwVA 2 hAW q601 q602 q603 q29 q604 hd_X3_endOfSegment (by rw [hR]; exact Nat.le_of_ble_eq_true rfl) (by rw [hR]; exact Nat.le_of_ble_eq_true rfl) rfl rfl) hK hP hD hS hA [2, 3] rfl rfl rfl rfl rfl rfl (by decide +kernel) (ci := 3) (q0 := 2) rfl rfl rfl rfl hl.1 rfl (lv_room (Nat.le_of_ble_eq_true rfl)) dX4_numberOfGreatestGain_41 (Nat.zero_le _) (Nat.zero_le _) (fun H locs hP hD hS => ?_)
          refine lv_istore (lv' := [(7, .int (nI (eosL cu.1 en (en - (i + 1)) (i + 1)))), (6, .int (nI i)), (0, .ref qd), (1, .int (nI en)), (2, .int pn), (3, .ref qu), (4, .int gr), (5, .int (nI ng)), (8, .int (nI i))]) hx hb dX4_numberOfGreatestGain_44 hl (by decide) rfl (fun ls hl => ?_)
          refine lv_goto (tgt := 92) hx hb dX4_numberOfGreatestGain_46 (by decide) ?_
          refine lv_iinc (v := (nI (i + 1))) (lv' := [(8, .int (nI (i + 1))), (7, .int (nI (eosL cu.1 en (en - (i + 1)) (i + 1)))), (6, .int (nI i)), (0, .ref qd), (1, .int (nI en)), (2, .int pn), (3, .ref qu), (4, .int gr), (5, .int (nI ng))]) hx hb dX4_numberOfGreatestGain_92 hl (k := 8) rfl (nI_inc i 1) (by decide) rfl (fun ls hl => ?_)
          refine lv_goto (tgt := 20) hx hb dX4_numberOfGreatestGain_95 (by decide) ?_
          exact ih20 d (i + 1) gr ng i (eosL cu.1 en (en - (i + 1)) (i + 1)) (by first | assumption | omega | rfl) (by first | assumption | omega | rfl) (by first | assumption | omega | rfl) (eosL_ge cu.1 (by omega)) (eosL_le cu.1 (by omega)) (by rw [gnL, if_pos c30] at hq; exact hq) (by omega) _ _ hP hD hS ls (lv_sub hl [3, 4, 5, 6, 7, 8, 2, 1, 0] rfl)
  exact L20 ((en - 1) + 1) (en - 1) 1 pn 0 0 (eosL cu.1 en (en - (0 + 1)) (0 + 1)) (by first | assumption | omega | rfl) (by first | assumption | omega | rfl) (by first | assumption | omega | rfl) (eosL_ge cu.1 (by omega)) (eosL_le cu.1 (by omega)) rfl (Nat.lt_succ_self _) _ _ hP hD hS ls (lv_sub hl [5, 6, 7, 8, 4, 3, 2, 1, 0] rfl)

set_option maxHeartbeats 4000000 in
set_option maxRecDepth 100000 in
theorem c_X4_find (l : Launch) (D : va_G) (cI cZ : ClassId) (qd qe qf lr : Nat) (K : Nat → Int32) (en : Nat) (pn : Int32) (qu qv : Nat) (cu : CuS) (h2 : en ≤ 120) : Cv l yX4_find (aw yX4_find cX4_find 6 none) ({ frames := 3, cells := 0, slots := 0, locals := 71 }) D cI cZ [.ref qd, .int (nI en), .int pn, .ref qu] [(qd, .inr (6, [.ref qe, .ref qf, .int (nI lr)])), (qe, .inl (cI, 7260, .inl K)), (qu, .inr (3, [.ref qv, .int cu.2.1, .int cu.2.2.1, .int (zb cu.2.2.2)])), (qv, .inl (cZ, 120, .inl (zbf cu.1)))] [(qd, .inr (6, [.ref qe, .ref qf, .int (nI lr)])), (qe, .inl (cI, 7260, .inl K)), (qu, .inr (3, [.ref qv, .int ((ggT K en pn cu).2.1), .int ((ggT K en pn cu).2.2.1), .int (zb ((ggT K en pn cu).2.2.2))])), (qv, .inl (cZ, 120, .inl (zbf ((ggT K en pn cu).1))))] := by
  refine mk_any (y := yX4_find) (av := [.ref qd, .int (nI en), .int pn, .ref qu]) (cc := cX4_find) (maxL := 6) (ret := none) (Qc := fun A => va_Qv (fun (_ : Unit) => True) (cb D [(qd, .inr (6, [.ref qe, .ref qf, .int (nI lr)])), (qe, .inl (cI, 7260, .inl K)), (qu, .inr (3, [.ref qv, .int ((ggT K en pn cu).2.1), .int ((ggT K en pn cu).2.2.1), .int (zb ((ggT K en pn cu).2.2.2))])), (qv, .inl (cZ, 120, .inl (zbf ((ggT K en pn cu).1))))]) A) (plainFor_of_name (by decide)) (Nat.le_of_ble_eq_true rfl) ?_
  intro p e s m args below meth c A Q R hR hQ hx hb hr hml hAW hown hlk hN hA hP hK hD hS ls hl
  have hl : lv_has ls 6 [(0, .ref qd), (1, .int (nI en)), (2, .int pn), (3, .ref qu)] := hl
  refine lv_aload_n hx hb dX4_find_0 rfl (lv_at hl 3 rfl) ?_
  refine call_Vv (D := D) (rest := []) (ws' := [(qd, .inr (6, [.ref qe, .ref qf, .int (nI lr)])), (qe, .inl (cI, 7260, .inl K)), (qu, .inr (3, [.ref qv, .int ((cu_join cu).2.1), .int ((cu_join cu).2.2.1), .int (zb ((cu_join cu).2.2.2))])), (qv, .inl (cZ, 120, .inl (zbf ((cu_join cu).1))))]) (ad := [qu, qv]) (ad2 := [qd, qe, qu, qv]) hx hb hml hown hAW hN (c_X3_join l D cI cZ qu qv cu ) (cwVA 0 hAW q597 q566 q567 q29 q568 hd_X3_join (by rw [hR]; exact Nat.le_of_ble_eq_true rfl) (by rw [hR]; exact Nat.le_of_ble_eq_true rfl) rfl rfl) hK hP hD hS hA [2, 3] rfl rfl rfl rfl rfl rfl (by decide +kernel) (ci := 3) (q0 := 2) rfl rfl rfl rfl hl.1 rfl (lv_room (Nat.le_of_ble_eq_true rfl)) dX4_find_1 (Nat.zero_le _) (Nat.zero_le _) (fun H locs hP hD hS => ?_)
  refine lv_iconst (v := 1) hx hb dX4_find_4 (by decide) ?_
  refine lv_istore (lv' := [(4, .int 1), (0, .ref qd), (1, .int (nI en)), (2, .int pn), (3, .ref qu)]) hx hb dX4_find_5 hl (by decide) rfl (fun ls hl => ?_)
  have L7 : ∀ (mz : Nat) (d i : Nat) (w : CuS), (i + d = en ∨ (en = 0 ∧ i = 1 ∧ d = 0)) → (0 < i) → (ggL K en pn d w = ggT K en pn cu) → d < mz → ∀ (H : Heap) (locs : List Loc), va_P D vwCl [(qd, .inr (6, [.ref qe, .ref qf, .int (nI lr)])), (qe, .inl (cI, 7260, .inl K)), (qu, .inr (3, [.ref qv, .int w.2.1, .int w.2.2.1, .int (zb w.2.2.2)])), (qv, .inl (cZ, 120, .inl (zbf w.1)))] H → va_D A [(qd, .inr (6, [.ref qe, .ref qf, .int (nI lr)])), (qe, .inl (cI, 7260, .inl K)), (qu, .inr (3, [.ref qv, .int w.2.1, .int w.2.2.1, .int (zb w.2.2.2)])), (qv, .inl (cZ, 120, .inl (zbf w.1)))] → va_S A s.heap H locs → ∀ (ls : Array Slot), lv_has ls 6 [(0, .ref qd), (1, .int (nI en)), (2, .int pn), (3, .ref qu), (4, .int (nI i))] → W p l e R s m args below meth c H locs 0 0 Q (F0 m 7 ls []) := by
    intro mz
    induction mz with
    | zero => intro d i w hi h0 hq hmu; exact absurd (by assumption) (Nat.not_lt_zero _)
    | succ mz ih7 =>
      intro d i w hi h0 hq hmu H locs hP hD hS ls hl
      refine lv_iload hx hb dX4_find_7 (lv_at hl 4 rfl) ?_
      refine lv_iload_n hx hb dX4_find_9 rfl (lv_at hl 1 rfl) ?_
      refine n_icmp_ge (x := i) (y := en) (tgt := 40) hx hb (by omega) (by omega) dX4_find_10 (by decide) (fun c10 => ?_) (fun c10 => ?_)
      · skip
        obtain rfl : d = 0 := by omega
        rw [ggL] at hq
        exact fin_v hx hb hr hlk hP hS (by rw [← hq]) hQ dX4_find_40
      · skip
        obtain ⟨d, rfl⟩ : ∃ j, d = j + 1 := ⟨d - 1, by omega⟩
        refine lv_aload_n hx hb dX4_find_13 rfl (lv_at hl 0 rfl) ?_
        refine lv_iload_n hx hb dX4_find_14 rfl (lv_at hl 1 rfl) ?_
        refine lv_iload_n hx hb dX4_find_15 rfl (lv_at hl 2 rfl) ?_
        refine lv_aload_n hx hb dX4_find_16 rfl (lv_at hl 3 rfl) ?_
        refine call_Si (D := D) (rest := []) (ws' := [(qd, .inr (6, [.ref qe, .ref qf, .int (nI lr)])), (qe, .inl (cI, 7260, .inl K)), (qu, .inr (3, [.ref qv, .int w.2.1, .int w.2.2.1, .int (zb w.2.2.2)])), (qv, .inl (cZ, 120, .inl (zbf w.1)))]) (ad := [qd, qe, qu, qv]) (ad2 := [qd, qe, qu, qv]) hx hb hml hown hAW hN (c_X4_numberOfGreatestGain l D cI cZ qd qe qf lr K en pn qu qv w (by omega) (by omega)) (cwSA 4 hAW q598 q599 q35 q600 hd_X4_numberOfGreatestGain (by rw [hR]; exact Nat.le_of_ble_eq_true rfl) (by rw [hR]; exact Nat.le_of_ble_eq_true rfl) rfl rfl) hK hP hD hS hA [0, 1, 2, 3] rfl rfl rfl rfl rfl rfl (by decide +kernel) rfl hl.1 rfl (lv_room (Nat.le_of_ble_eq_true rfl)) dX4_find_17 (Nat.zero_le _) (Nat.zero_le _) (fun H locs hP hD hS => ?_)
        refine lv_istore (lv' := [(5, .int (nI (gnT K en w.1 pn))), (0, .ref qd), (1, .int (nI en)), (2, .int pn), (3, .ref qu), (4, .int (nI i))]) hx hb dX4_find_20 hl (by decide) rfl (fun ls hl => ?_)
        refine lv_iload hx hb dX4_find_22 (lv_at hl 0 rfl) ?_
        refine n_if_ne (x := (gnT K en w.1 pn)) (tgt := 28) hx hb (by have := gnT_lt K w.1 pn (en := en) (by omega); omega) dX4_find_24 (by decide) (fun c24 => ?_) (fun c24 => ?_)
        · skip
          refine lv_aload_n hx hb dX4_find_28 rfl (lv_at hl 4 rfl) ?_
          refine lv_iload hx hb dX4_find_29 (lv_at hl 0 rfl) ?_
          refine call_Vv (D := D) (rest := []) (ws' := [(qd, .inr (6, [.ref qe, .ref qf, .int (nI lr)])), (qe, .inl (cI, 7260, .inl K)), (qu, .inr (3, [.ref qv, .int ((cu_cut w (gnT K en w.1 pn)).2.1), .int ((cu_cut w (gnT K en w.1 pn)).2.2.1), .int (zb ((cu_cut w (gnT K en w.1 pn)).2.2.2))])), (qv, .inl (cZ, 120, .inl (zbf ((cu_cut w (gnT K en w.1 pn)).1))))]) (ad := [qu, qv]) (ad2 := [qd, qe, qu, qv]) hx hb hml hown hAW hN (c_X3_cut l D cI cZ qu qv w (gnT K en w.1 pn) (by have := gnT_lt K w.1 pn (en := en) (by omega); omega)) (cwVA 1 hAW q606 q570 q571 q29 q572 hd_X3_cut (by rw [hR]; exact Nat.le_of_ble_eq_true rfl) (by rw [hR]; exact Nat.le_of_ble_eq_true rfl) rfl rfl) hK hP hD hS hA [2, 3] rfl rfl rfl rfl rfl rfl (by decide +kernel) (ci := 3) (q0 := 2) rfl rfl rfl rfl hl.1 rfl (lv_room (Nat.le_of_ble_eq_true rfl)) dX4_find_31 (Nat.zero_le _) (Nat.zero_le _) (fun H locs hP hD hS => ?_)
          refine lv_iinc (v := (nI (i + 1))) (lv' := [(4, .int (nI (i + 1))), (5, .int (nI (gnT K en w.1 pn))), (0, .ref qd), (1, .int (nI en)), (2, .int pn), (3, .ref qu)]) hx hb dX4_find_34 hl (k := 5) rfl (nI_inc i 1) (by decide) rfl (fun ls hl => ?_)
          refine lv_goto (tgt := 7) hx hb dX4_find_37 (by decide) ?_
          exact ih7 d (i + 1) (cu_cut w (gnT K en w.1 pn)) (by first | assumption | omega | rfl) (by first | assumption | omega | rfl) (by rw [ggL, if_neg (Nat.pos_iff_ne_zero.mp c24)] at hq; exact hq) (by omega) _ _ hP hD hS ls (lv_sub hl [2, 3, 4, 5, 0] rfl)
        · skip
          exact fin_v hx hb hr hlk hP hS (by rw [ggL, if_pos c24] at hq; rw [← hq]) hQ dX4_find_27
  exact L7 ((en - 1) + 1) (en - 1) 1 (cu_join cu) (by first | assumption | omega | rfl) (by first | assumption | omega | rfl) rfl (Nat.lt_succ_self _) _ _ hP hD hS ls (lv_sub hl [1, 2, 3, 4, 0] rfl)

set_option maxHeartbeats 4000000 in
set_option maxRecDepth 100000 in
theorem c_X8_removeMarks (l : Launch) (D : va_G) (cI cZ : ClassId) (qt qm qx : Nat) (tr : TrS) : Cv l yX8_removeMarks (aw yX8_removeMarks cX8_removeMarks 2 none) ({ frames := 0, cells := 0, slots := 0, locals := 0 }) D cI cZ [.ref qt] [(qt, .inr (7, [.ref qm, .ref qx, .int tr.2.2.1, .int tr.2.2.2.1, .int tr.2.2.2.2])), (qm, .inl (cZ, 120, .inl (zbf tr.1))), (qx, .inl (cZ, 120, .inl (zbf tr.2.1)))] [(qt, .inr (7, [.ref qm, .ref qx, .int ((tr_off tr).2.2.1), .int ((tr_off tr).2.2.2.1), .int ((tr_off tr).2.2.2.2)])), (qm, .inl (cZ, 120, .inl (zbf ((tr_off tr).1)))), (qx, .inl (cZ, 120, .inl (zbf ((tr_off tr).2.1))))] := by
  refine mk_any (y := yX8_removeMarks) (av := [.ref qt]) (cc := cX8_removeMarks) (maxL := 2) (ret := none) (Qc := fun A => va_Qv (fun (_ : Unit) => True) (cb D [(qt, .inr (7, [.ref qm, .ref qx, .int ((tr_off tr).2.2.1), .int ((tr_off tr).2.2.2.1), .int ((tr_off tr).2.2.2.2)])), (qm, .inl (cZ, 120, .inl (zbf ((tr_off tr).1)))), (qx, .inl (cZ, 120, .inl (zbf ((tr_off tr).2.1))))]) A) (plainFor_of_name (by decide)) (Nat.le_of_ble_eq_true rfl) ?_
  intro p e s m args below meth c A Q R hR hQ hx hb hr hml hAW hown hlk hN hA hP hK hD hS ls hl
  have hl : lv_has ls 2 [(0, .ref qt)] := hl
  refine lv_iconst (v := 0) hx hb dX8_removeMarks_0 (by decide) ?_
  refine lv_istore_n (lv' := [(1, .int 0), (0, .ref qt)]) hx hb dX8_removeMarks_1 rfl hl (by decide) rfl (fun ls hl => ?_)
  have L2 : ∀ (mz : Nat) (d i : Nat) (G : Nat → Bool), (i + d = 120) → (offL d i G = offL 120 0 tr.1) → d < mz → ∀ (H : Heap) (locs : List Loc), va_P D vwCl [(qt, .inr (7, [.ref qm, .ref qx, .int tr.2.2.1, .int tr.2.2.2.1, .int tr.2.2.2.2])), (qm, .inl (cZ, 120, .inl (zbf G))), (qx, .inl (cZ, 120, .inl (zbf tr.2.1)))] H → va_D A [(qt, .inr (7, [.ref qm, .ref qx, .int tr.2.2.1, .int tr.2.2.2.1, .int tr.2.2.2.2])), (qm, .inl (cZ, 120, .inl (zbf G))), (qx, .inl (cZ, 120, .inl (zbf tr.2.1)))] → va_S A s.heap H locs → ∀ (ls : Array Slot), lv_has ls 2 [(0, .ref qt), (1, .int (nI i))] → W p l e R s m args below meth c H locs 0 0 Q (F0 m 2 ls []) := by
    intro mz
    induction mz with
    | zero => intro d i G hi hq hmu; exact absurd (by assumption) (Nat.not_lt_zero _)
    | succ mz ih2 =>
      intro d i G hi hq hmu H locs hP hD hS ls hl
      refine lv_iload_n hx hb dX8_removeMarks_2 rfl (lv_at hl 1 rfl) ?_
      refine lv_bipush (v := 120) hx hb dX8_removeMarks_3 (by decide) ?_
      refine n_icmp_ge (x := i) (y := 120) (tgt := 21) hx hb (by omega) (by omega) dX8_removeMarks_5 (by decide) (fun c5 => ?_) (fun c5 => ?_)
      · skip
        obtain rfl : d = 0 := by omega
        rw [offL] at hq
        exact fin_v hx hb hr hlk hP hS (by rw [hq]) hQ dX8_removeMarks_21
      · skip
        obtain ⟨d, rfl⟩ : ∃ j, d = j + 1 := ⟨d - 1, by omega⟩
        rw [offL] at hq
        refine lv_aload_n hx hb dX8_removeMarks_8 rfl (lv_at hl 0 rfl) ?_
        refine va_get (D := D) (ci := 7) (v := .ref qm) (C := RX8) (T := TX8) (N := 5) hx hb hAW iwX8 hown hK hP 0 rfl rfl 0 (by decide) (hAW _ q231) (fun _ h9 => h9) rfl dX8_removeMarks_9 ?_
        refine lv_iload_n hx hb dX8_removeMarks_12 rfl (lv_at hl 1 rfl) ?_
        refine lv_iconst (v := 0) hx hb dX8_removeMarks_13 (by decide) ?_
        refine z_store (D := D) (f := G) (i := i) (x := false) hx hb hK hP hD hS 1 1 rfl rfl (by omega) (by decide) dX8_removeMarks_14 (fun H locs hP hD hS => ?_)
        have hP : va_P D vwCl [(qt, .inr (7, [.ref qm, .ref qx, .int tr.2.2.1, .int tr.2.2.2.1, .int tr.2.2.2.2])), (qm, .inl (cZ, 120, .inl (zbf (updB G i false)))), (qx, .inl (cZ, 120, .inl (zbf tr.2.1)))] H := hP
        have hD : va_D A [(qt, .inr (7, [.ref qm, .ref qx, .int tr.2.2.1, .int tr.2.2.2.1, .int tr.2.2.2.2])), (qm, .inl (cZ, 120, .inl (zbf (updB G i false)))), (qx, .inl (cZ, 120, .inl (zbf tr.2.1)))] := hD
        refine lv_iinc (v := (nI (i + 1))) (lv' := [(1, .int (nI (i + 1))), (0, .ref qt)]) hx hb dX8_removeMarks_15 hl (k := 1) rfl (nI_inc i 1) (by decide) rfl (fun ls hl => ?_)
        refine lv_goto (tgt := 2) hx hb dX8_removeMarks_18 (by decide) ?_
        exact ih2 d (i + 1) (updB G i false) (by first | assumption | omega | rfl) hq (by omega) _ _ hP hD hS ls (lv_sub hl [1, 0] rfl)
  exact L2 (120 + 1) 120 0 tr.1 (by first | assumption | omega | rfl) rfl (Nat.lt_succ_self _) _ _ hP hD hS ls (lv_sub hl [1, 0] rfl)

set_option maxHeartbeats 4000000 in
set_option maxRecDepth 100000 in
theorem c_X8_beginMatching (l : Launch) (D : va_G) (cI cZ : ClassId) (qt qm qx : Nat) (tr : TrS) : Cv l yX8_beginMatching (aw yX8_beginMatching cX8_beginMatching 2 none) ({ frames := 0, cells := 0, slots := 0, locals := 0 }) D cI cZ [.ref qt] [(qt, .inr (7, [.ref qm, .ref qx, .int tr.2.2.1, .int tr.2.2.2.1, .int tr.2.2.2.2])), (qm, .inl (cZ, 120, .inl (zbf tr.1))), (qx, .inl (cZ, 120, .inl (zbf tr.2.1)))] [(qt, .inr (7, [.ref qm, .ref qx, .int ((tr_begin tr).2.2.1), .int ((tr_begin tr).2.2.2.1), .int ((tr_begin tr).2.2.2.2)])), (qm, .inl (cZ, 120, .inl (zbf ((tr_begin tr).1)))), (qx, .inl (cZ, 120, .inl (zbf ((tr_begin tr).2.1))))] := by
  refine mk_any (y := yX8_beginMatching) (av := [.ref qt]) (cc := cX8_beginMatching) (maxL := 2) (ret := none) (Qc := fun A => va_Qv (fun (_ : Unit) => True) (cb D [(qt, .inr (7, [.ref qm, .ref qx, .int ((tr_begin tr).2.2.1), .int ((tr_begin tr).2.2.2.1), .int ((tr_begin tr).2.2.2.2)])), (qm, .inl (cZ, 120, .inl (zbf ((tr_begin tr).1)))), (qx, .inl (cZ, 120, .inl (zbf ((tr_begin tr).2.1))))]) A) (plainFor_of_name (by decide)) (Nat.le_of_ble_eq_true rfl) ?_
  intro p e s m args below meth c A Q R hR hQ hx hb hr hml hAW hown hlk hN hA hP hK hD hS ls hl
  have hl : lv_has ls 2 [(0, .ref qt)] := hl
  refine lv_iconst (v := 0) hx hb dX8_beginMatching_0 (by decide) ?_
  refine lv_istore_n (lv' := [(1, .int 0), (0, .ref qt)]) hx hb dX8_beginMatching_1 rfl hl (by decide) rfl (fun ls hl => ?_)
  have L2 : ∀ (mz : Nat) (d i : Nat) (G : Nat → Bool), (i + d = 120) → (offL d i G = offL 120 0 tr.2.1) → d < mz → ∀ (H : Heap) (locs : List Loc), va_P D vwCl [(qt, .inr (7, [.ref qm, .ref qx, .int tr.2.2.1, .int tr.2.2.2.1, .int tr.2.2.2.2])), (qm, .inl (cZ, 120, .inl (zbf tr.1))), (qx, .inl (cZ, 120, .inl (zbf G)))] H → va_D A [(qt, .inr (7, [.ref qm, .ref qx, .int tr.2.2.1, .int tr.2.2.2.1, .int tr.2.2.2.2])), (qm, .inl (cZ, 120, .inl (zbf tr.1))), (qx, .inl (cZ, 120, .inl (zbf G)))] → va_S A s.heap H locs → ∀ (ls : Array Slot), lv_has ls 2 [(0, .ref qt), (1, .int (nI i))] → W p l e R s m args below meth c H locs 0 0 Q (F0 m 2 ls []) := by
    intro mz
    induction mz with
    | zero => intro d i G hi hq hmu; exact absurd (by assumption) (Nat.not_lt_zero _)
    | succ mz ih2 =>
      intro d i G hi hq hmu H locs hP hD hS ls hl
      refine lv_iload_n hx hb dX8_beginMatching_2 rfl (lv_at hl 1 rfl) ?_
      refine lv_bipush (v := 120) hx hb dX8_beginMatching_3 (by decide) ?_
      refine n_icmp_ge (x := i) (y := 120) (tgt := 21) hx hb (by omega) (by omega) dX8_beginMatching_5 (by decide) (fun c5 => ?_) (fun c5 => ?_)
      · skip
        obtain rfl : d = 0 := by omega
        rw [offL] at hq
        refine lv_aload_n hx hb dX8_beginMatching_21 rfl (lv_at hl 0 rfl) ?_
        refine lv_iconst (v := 0) hx hb dX8_beginMatching_22 (by decide) ?_
        refine va_put (D := D) (ci := 7) (v := .int 0) (ty := .int) (C := RX8) (T := TX8) (N := 5) hx hb hAW iwX8 tyX8 tyX8_ok nmX8 hown hK hP hD hS 0 rfl rfl 2 (by decide) (hAW _ q234) (fun _ h9 => h9) rfl (tyX8_ok 2 (by decide)) rfl rfl (Nat.le_of_ble_eq_true rfl) dX8_beginMatching_23 (fun H locs hP hD hS => ?_)
        have hP : va_P D vwCl [(qt, .inr (7, [.ref qm, .ref qx, .int 0, .int tr.2.2.2.1, .int tr.2.2.2.2])), (qm, .inl (cZ, 120, .inl (zbf tr.1))), (qx, .inl (cZ, 120, .inl (zbf G)))] H := hP
        have hD : va_D A [(qt, .inr (7, [.ref qm, .ref qx, .int 0, .int tr.2.2.2.1, .int tr.2.2.2.2])), (qm, .inl (cZ, 120, .inl (zbf tr.1))), (qx, .inl (cZ, 120, .inl (zbf G)))] := hD
        refine lv_aload_n hx hb dX8_beginMatching_26 rfl (lv_at hl 0 rfl) ?_
        refine lv_iconst (v := 0) hx hb dX8_beginMatching_27 (by decide) ?_
        refine va_put (D := D) (ci := 7) (v := .int 0) (ty := .int) (C := RX8) (T := TX8) (N := 5) hx hb hAW iwX8 tyX8 tyX8_ok nmX8 hown hK hP hD hS 0 rfl rfl 3 (by decide) (hAW _ q236) (fun _ h9 => h9) rfl (tyX8_ok 3 (by decide)) rfl rfl (Nat.le_of_ble_eq_true rfl) dX8_beginMatching_28 (fun H locs hP hD hS => ?_)
        have hP : va_P D vwCl [(qt, .inr (7, [.ref qm, .ref qx, .int 0, .int 0, .int tr.2.2.2.2])), (qm, .inl (cZ, 120, .inl (zbf tr.1))), (qx, .inl (cZ, 120, .inl (zbf G)))] H := hP
        have hD : va_D A [(qt, .inr (7, [.ref qm, .ref qx, .int 0, .int 0, .int tr.2.2.2.2])), (qm, .inl (cZ, 120, .inl (zbf tr.1))), (qx, .inl (cZ, 120, .inl (zbf G)))] := hD
        refine lv_aload_n hx hb dX8_beginMatching_31 rfl (lv_at hl 0 rfl) ?_
        refine lv_iconst (v := 0) hx hb dX8_beginMatching_32 (by decide) ?_
        refine va_put (D := D) (ci := 7) (v := .int 0) (ty := .int) (C := RX8) (T := TX8) (N := 5) hx hb hAW iwX8 tyX8 tyX8_ok nmX8 hown hK hP hD hS 0 rfl rfl 4 (by decide) (hAW _ q238) (fun _ h9 => h9) rfl (tyX8_ok 4 (by decide)) rfl rfl (Nat.le_of_ble_eq_true rfl) dX8_beginMatching_33 (fun H locs hP hD hS => ?_)
        have hP : va_P D vwCl [(qt, .inr (7, [.ref qm, .ref qx, .int 0, .int 0, .int 0])), (qm, .inl (cZ, 120, .inl (zbf tr.1))), (qx, .inl (cZ, 120, .inl (zbf G)))] H := hP
        have hD : va_D A [(qt, .inr (7, [.ref qm, .ref qx, .int 0, .int 0, .int 0])), (qm, .inl (cZ, 120, .inl (zbf tr.1))), (qx, .inl (cZ, 120, .inl (zbf G)))] := hD
        exact fin_v hx hb hr hlk hP hS (by rw [hq]) hQ dX8_beginMatching_36
      · skip
        obtain ⟨d, rfl⟩ : ∃ j, d = j + 1 := ⟨d - 1, by omega⟩
        rw [offL] at hq
        refine lv_aload_n hx hb dX8_beginMatching_8 rfl (lv_at hl 0 rfl) ?_
        refine va_get (D := D) (ci := 7) (v := .ref qx) (C := RX8) (T := TX8) (N := 5) hx hb hAW iwX8 hown hK hP 0 rfl rfl 1 (by decide) (hAW _ q233) (fun _ h9 => h9) rfl dX8_beginMatching_9 ?_
        refine lv_iload_n hx hb dX8_beginMatching_12 rfl (lv_at hl 1 rfl) ?_
        refine lv_iconst (v := 0) hx hb dX8_beginMatching_13 (by decide) ?_
        refine z_store (D := D) (f := G) (i := i) (x := false) hx hb hK hP hD hS 2 1 rfl rfl (by omega) (by decide) dX8_beginMatching_14 (fun H locs hP hD hS => ?_)
        have hP : va_P D vwCl [(qt, .inr (7, [.ref qm, .ref qx, .int tr.2.2.1, .int tr.2.2.2.1, .int tr.2.2.2.2])), (qm, .inl (cZ, 120, .inl (zbf tr.1))), (qx, .inl (cZ, 120, .inl (zbf (updB G i false))))] H := hP
        have hD : va_D A [(qt, .inr (7, [.ref qm, .ref qx, .int tr.2.2.1, .int tr.2.2.2.1, .int tr.2.2.2.2])), (qm, .inl (cZ, 120, .inl (zbf tr.1))), (qx, .inl (cZ, 120, .inl (zbf (updB G i false))))] := hD
        refine lv_iinc (v := (nI (i + 1))) (lv' := [(1, .int (nI (i + 1))), (0, .ref qt)]) hx hb dX8_beginMatching_15 hl (k := 1) rfl (nI_inc i 1) (by decide) rfl (fun ls hl => ?_)
        refine lv_goto (tgt := 2) hx hb dX8_beginMatching_18 (by decide) ?_
        exact ih2 d (i + 1) (updB G i false) (by first | assumption | omega | rfl) hq (by omega) _ _ hP hD hS ls (lv_sub hl [1, 0] rfl)
  exact L2 (120 + 1) 120 0 tr.2.1 (by first | assumption | omega | rfl) rfl (Nat.lt_succ_self _) _ _ hP hD hS ls (lv_sub hl [1, 0] rfl)

set_option maxHeartbeats 4000000 in
set_option maxRecDepth 100000 in
theorem c_X8_matchAlarm (l : Launch) (D : va_G) (cI cZ : ClassId) (qt qm qx : Nat) (tr : TrS) (nu w : Nat) (h1 : nu < 120) (h2 : w ≤ 120) : Cv l yX8_matchAlarm (aw yX8_matchAlarm cX8_matchAlarm 5 none) ({ frames := 1, cells := 0, slots := 0, locals := 13 }) D cI cZ [.ref qt, .int (nI nu), .int (nI w)] [(qt, .inr (7, [.ref qm, .ref qx, .int tr.2.2.1, .int tr.2.2.2.1, .int tr.2.2.2.2])), (qm, .inl (cZ, 120, .inl (zbf tr.1))), (qx, .inl (cZ, 120, .inl (zbf tr.2.1)))] [(qt, .inr (7, [.ref qm, .ref qx, .int ((tr_one tr nu w).2.2.1), .int ((tr_one tr nu w).2.2.2.1), .int ((tr_one tr nu w).2.2.2.2)])), (qm, .inl (cZ, 120, .inl (zbf ((tr_one tr nu w).1)))), (qx, .inl (cZ, 120, .inl (zbf ((tr_one tr nu w).2.1))))] := by
  refine mk_any (y := yX8_matchAlarm) (av := [.ref qt, .int (nI nu), .int (nI w)]) (cc := cX8_matchAlarm) (maxL := 5) (ret := none) (Qc := fun A => va_Qv (fun (_ : Unit) => True) (cb D [(qt, .inr (7, [.ref qm, .ref qx, .int ((tr_one tr nu w).2.2.1), .int ((tr_one tr nu w).2.2.2.1), .int ((tr_one tr nu w).2.2.2.2)])), (qm, .inl (cZ, 120, .inl (zbf ((tr_one tr nu w).1)))), (qx, .inl (cZ, 120, .inl (zbf ((tr_one tr nu w).2.1))))]) A) (plainFor_of_name (by decide)) (Nat.le_of_ble_eq_true rfl) ?_
  intro p e s m args below meth c A Q R hR hQ hx hb hr hml hAW hown hlk hN hA hP hK hD hS ls hl
  have hl : lv_has ls 5 [(0, .ref qt), (1, .int (nI nu)), (2, .int (nI w))] := hl
  refine lv_iconst (v := 0) hx hb dX8_matchAlarm_0 (by decide) ?_
  refine lv_iload_n hx hb dX8_matchAlarm_1 rfl (lv_at hl 1 rfl) ?_
  refine lv_iload_n hx hb dX8_matchAlarm_2 rfl (lv_at hl 2 rfl) ?_
  refine lv_isub hx hb dX8_matchAlarm_3 ?_
  refine va_mmax (x := 0) (y := ((nI nu) - (nI w))) hx hb (hml.trans hl.1.symm) hown (hAW _ q670) (hAW _ q431) (hAW _ q37) (hAW _ q432) (by rw [hR]; exact Nat.le_of_ble_eq_true rfl) (by rw [hR]; exact Nat.le_of_ble_eq_true rfl) (Nat.zero_le _) (Nat.zero_le _) dX8_matchAlarm_4 ?_
  refine lv_topi (fun y9 ey9 => ?_)
  have ey9 : y9 = (nI (nu - w)) := ey9.trans (mx_sub (by omega) (by omega))
  subst ey9
  refine lv_istore_n (lv' := [(3, .int (nI (nu - w))), (0, .ref qt), (1, .int (nI nu)), (2, .int (nI w))]) hx hb dX8_matchAlarm_7 rfl hl (by decide) rfl (fun ls hl => ?_)
  refine lv_iload_n hx hb dX8_matchAlarm_8 rfl (lv_at hl 2 rfl) ?_
  refine lv_topi (fun y9 ey9 => ?_)
  have ey9 : y9 = (nI (nu + 1) - 1) := ey9.trans ((nI_pred nu).symm)
  subst ey9
  refine lv_istore (lv' := [(4, .int (nI (nu + 1) - 1)), (3, .int (nI (nu - w))), (0, .ref qt), (1, .int (nI nu)), (2, .int (nI w))]) hx hb dX8_matchAlarm_9 hl (by decide) rfl (fun ls hl => ?_)
  have L11 : ∀ (mz : Nat) (k : Nat), (k ≤ nu + 1) → (fnd (fun k => tr.1 k && !tr.2.1 k) (nu - w) k = fnd (fun k => tr.1 k && !tr.2.1 k) (nu - w) (nu + 1)) → k < mz → ∀ (H : Heap) (locs : List Loc), va_P D vwCl [(qt, .inr (7, [.ref qm, .ref qx, .int tr.2.2.1, .int tr.2.2.2.1, .int tr.2.2.2.2])), (qm, .inl (cZ, 120, .inl (zbf tr.1))), (qx, .inl (cZ, 120, .inl (zbf tr.2.1)))] H → va_D A [(qt, .inr (7, [.ref qm, .ref qx, .int tr.2.2.1, .int tr.2.2.2.1, .int tr.2.2.2.2])), (qm, .inl (cZ, 120, .inl (zbf tr.1))), (qx, .inl (cZ, 120, .inl (zbf tr.2.1)))] → va_S A s.heap H locs → ∀ (ls : Array Slot), lv_has ls 5 [(0, .ref qt), (1, .int (nI nu)), (2, .int (nI w)), (3, .int (nI (nu - w))), (4, .int (nI k - 1))] → W p l e R s m args below meth c H locs 0 0 Q (F0 m 11 ls []) := by
    intro mz
    induction mz with
    | zero => intro k hk hq hmu; exact absurd (by assumption) (Nat.not_lt_zero _)
    | succ mz ih11 =>
      intro k hk hq hmu H locs hP hD hS ls hl
      refine lv_iload hx hb dX8_matchAlarm_11 (lv_at hl 4 rfl) ?_
      refine lv_iload_n hx hb dX8_matchAlarm_13 rfl (lv_at hl 3 rfl) ?_
      refine lv_icmp_lt (tgt := 75) hx hb dX8_matchAlarm_14 (by decide) (fun c14 => ?_) (fun c14 => ?_)
      · skip
        have hkl := (km1_lt (k := k) (by omega) (by omega)).mp c14
        have hq2 : fnd (fun k => tr.1 k && !tr.2.1 k) (nu - w) k = none := fnd_none (by omega)
        rw [hq2] at hq
        refine lv_aload_n hx hb dX8_matchAlarm_75 rfl (lv_at hl 0 rfl) ?_
        refine lv_dup hx hb dX8_matchAlarm_76 rfl ?_
        refine va_get (D := D) (ci := 7) (v := .int tr.2.2.2.1) (C := RX8) (T := TX8) (N := 5) hx hb hAW iwX8 hown hK hP 0 rfl rfl 3 (by decide) (hAW _ q236) (fun _ h9 => h9) rfl dX8_matchAlarm_77 ?_
        refine lv_iconst (v := 1) hx hb dX8_matchAlarm_80 (by decide) ?_
        refine lv_iadd hx hb dX8_matchAlarm_81 ?_
        refine va_put (D := D) (ci := 7) (v := .int (tr.2.2.2.1 + 1)) (ty := .int) (C := RX8) (T := TX8) (N := 5) hx hb hAW iwX8 tyX8 tyX8_ok nmX8 hown hK hP hD hS 0 rfl rfl 3 (by decide) (hAW _ q236) (fun _ h9 => h9) rfl (tyX8_ok 3 (by decide)) rfl rfl (Nat.le_of_ble_eq_true rfl) dX8_matchAlarm_82 (fun H locs hP hD hS => ?_)
        have hP : va_P D vwCl [(qt, .inr (7, [.ref qm, .ref qx, .int tr.2.2.1, .int (tr.2.2.2.1 + 1), .int tr.2.2.2.2])), (qm, .inl (cZ, 120, .inl (zbf tr.1))), (qx, .inl (cZ, 120, .inl (zbf tr.2.1)))] H := hP
        have hD : va_D A [(qt, .inr (7, [.ref qm, .ref qx, .int tr.2.2.1, .int (tr.2.2.2.1 + 1), .int tr.2.2.2.2])), (qm, .inl (cZ, 120, .inl (zbf tr.1))), (qx, .inl (cZ, 120, .inl (zbf tr.2.1)))] := hD
        exact fin_v hx hb hr hlk hP hS (by simp only [tr_one, ← hq]) hQ dX8_matchAlarm_85
      · skip
        have hkl := mt (km1_lt (k := k) (by omega) (by omega)).mpr c14
        obtain ⟨k, rfl⟩ : ∃ j, k = j + 1 := ⟨k - 1, by omega⟩
        rw [nI_pred] at hl
        rw [fnd, if_neg (show ¬ k < nu - w by omega)] at hq
        refine lv_aload_n hx hb dX8_matchAlarm_17 rfl (lv_at hl 0 rfl) ?_
        refine va_get (D := D) (ci := 7) (v := .ref qm) (C := RX8) (T := TX8) (N := 5) hx hb hAW iwX8 hown hK hP 0 rfl rfl 0 (by decide) (hAW _ q231) (fun _ h9 => h9) rfl dX8_matchAlarm_18 ?_
        refine lv_iload hx hb dX8_matchAlarm_21 (lv_at hl 4 rfl) ?_
        refine z_load (D := D) (f := tr.1) (i := k) hx hb hK hP 1 1 rfl rfl (by omega) (by decide) dX8_matchAlarm_23 ?_
        refine z_if_eq (x := (tr.1 k)) (tgt := 69) hx hb dX8_matchAlarm_24 (by decide) (fun c24 => ?_) (fun c24 => ?_)
        · skip
          refine lv_iinc (v := (nI k - 1)) (lv' := [(4, .int (nI k - 1)), (0, .ref qt), (1, .int (nI nu)), (2, .int (nI w)), (3, .int (nI (nu - w)))]) hx hb dX8_matchAlarm_69 hl (k := 4) rfl (nI_m1 k) (by decide) rfl (fun ls hl => ?_)
          refine lv_goto (tgt := 11) hx hb dX8_matchAlarm_72 (by decide) ?_
          exact ih11 k (by first | assumption | omega | rfl) (by rw [if_neg (by simp [c24])] at hq; exact hq) (by omega) _ _ hP hD hS ls (lv_sub hl [1, 2, 3, 4, 0] rfl)
        · skip
          refine lv_aload_n hx hb dX8_matchAlarm_27 rfl (lv_at hl 0 rfl) ?_
          refine va_get (D := D) (ci := 7) (v := .ref qx) (C := RX8) (T := TX8) (N := 5) hx hb hAW iwX8 hown hK hP 0 rfl rfl 1 (by decide) (hAW _ q233) (fun _ h9 => h9) rfl dX8_matchAlarm_28 ?_
          refine lv_iload hx hb dX8_matchAlarm_31 (lv_at hl 4 rfl) ?_
          refine z_load (D := D) (f := tr.2.1) (i := k) hx hb hK hP 2 1 rfl rfl (by omega) (by decide) dX8_matchAlarm_33 ?_
          refine z_if_ne (x := (tr.2.1 k)) (tgt := 69) hx hb dX8_matchAlarm_34 (by decide) (fun c34 => ?_) (fun c34 => ?_)
          · skip
            refine lv_iinc (v := (nI k - 1)) (lv' := [(4, .int (nI k - 1)), (0, .ref qt), (1, .int (nI nu)), (2, .int (nI w)), (3, .int (nI (nu - w)))]) hx hb dX8_matchAlarm_69 hl (k := 4) rfl (nI_m1 k) (by decide) rfl (fun ls hl => ?_)
            refine lv_goto (tgt := 11) hx hb dX8_matchAlarm_72 (by decide) ?_
            exact ih11 k (by first | assumption | omega | rfl) (by rw [if_neg (by simp [c34])] at hq; exact hq) (by omega) _ _ hP hD hS ls (lv_sub hl [1, 2, 3, 4, 0] rfl)
          · skip
            refine lv_aload_n hx hb dX8_matchAlarm_37 rfl (lv_at hl 0 rfl) ?_
            refine va_get (D := D) (ci := 7) (v := .ref qx) (C := RX8) (T := TX8) (N := 5) hx hb hAW iwX8 hown hK hP 0 rfl rfl 1 (by decide) (hAW _ q233) (fun _ h9 => h9) rfl dX8_matchAlarm_38 ?_
            refine lv_iload hx hb dX8_matchAlarm_41 (lv_at hl 4 rfl) ?_
            refine lv_iconst (v := 1) hx hb dX8_matchAlarm_43 (by decide) ?_
            refine z_store (D := D) (f := tr.2.1) (i := k) (x := true) hx hb hK hP hD hS 2 1 rfl rfl (by omega) (by decide) dX8_matchAlarm_44 (fun H locs hP hD hS => ?_)
            have hP : va_P D vwCl [(qt, .inr (7, [.ref qm, .ref qx, .int tr.2.2.1, .int tr.2.2.2.1, .int tr.2.2.2.2])), (qm, .inl (cZ, 120, .inl (zbf tr.1))), (qx, .inl (cZ, 120, .inl (zbf (updB tr.2.1 k true))))] H := hP
            have hD : va_D A [(qt, .inr (7, [.ref qm, .ref qx, .int tr.2.2.1, .int tr.2.2.2.1, .int tr.2.2.2.2])), (qm, .inl (cZ, 120, .inl (zbf tr.1))), (qx, .inl (cZ, 120, .inl (zbf (updB tr.2.1 k true))))] := hD
            refine lv_aload_n hx hb dX8_matchAlarm_45 rfl (lv_at hl 0 rfl) ?_
            refine lv_dup hx hb dX8_matchAlarm_46 rfl ?_
            refine va_get (D := D) (ci := 7) (v := .int tr.2.2.1) (C := RX8) (T := TX8) (N := 5) hx hb hAW iwX8 hown hK hP 0 rfl rfl 2 (by decide) (hAW _ q234) (fun _ h9 => h9) rfl dX8_matchAlarm_47 ?_
            refine lv_iconst (v := 1) hx hb dX8_matchAlarm_50 (by decide) ?_
            refine lv_iadd hx hb dX8_matchAlarm_51 ?_
            refine va_put (D := D) (ci := 7) (v := .int (tr.2.2.1 + 1)) (ty := .int) (C := RX8) (T := TX8) (N := 5) hx hb hAW iwX8 tyX8 tyX8_ok nmX8 hown hK hP hD hS 0 rfl rfl 2 (by decide) (hAW _ q234) (fun _ h9 => h9) rfl (tyX8_ok 2 (by decide)) rfl rfl (Nat.le_of_ble_eq_true rfl) dX8_matchAlarm_52 (fun H locs hP hD hS => ?_)
            have hP : va_P D vwCl [(qt, .inr (7, [.ref qm, .ref qx, .int (tr.2.2.1 + 1), .int tr.2.2.2.1, .int tr.2.2.2.2])), (qm, .inl (cZ, 120, .inl (zbf tr.1))), (qx, .inl (cZ, 120, .inl (zbf (updB tr.2.1 k true))))] H := hP
            have hD : va_D A [(qt, .inr (7, [.ref qm, .ref qx, .int (tr.2.2.1 + 1), .int tr.2.2.2.1, .int tr.2.2.2.2])), (qm, .inl (cZ, 120, .inl (zbf tr.1))), (qx, .inl (cZ, 120, .inl (zbf (updB tr.2.1 k true))))] := hD
            refine lv_aload_n hx hb dX8_matchAlarm_55 rfl (lv_at hl 0 rfl) ?_
            refine lv_dup hx hb dX8_matchAlarm_56 rfl ?_
            refine va_get (D := D) (ci := 7) (v := .int tr.2.2.2.2) (C := RX8) (T := TX8) (N := 5) hx hb hAW iwX8 hown hK hP 0 rfl rfl 4 (by decide) (hAW _ q238) (fun _ h9 => h9) rfl dX8_matchAlarm_57 ?_
            refine lv_iload_n hx hb dX8_matchAlarm_60 rfl (lv_at hl 1 rfl) ?_
            refine lv_iload hx hb dX8_matchAlarm_61 (lv_at hl 4 rfl) ?_
            refine lv_isub hx hb dX8_matchAlarm_63 ?_
            refine lv_iadd hx hb dX8_matchAlarm_64 ?_
            refine va_put (D := D) (ci := 7) (v := .int (tr.2.2.2.2 + ((nI nu) - (nI k)))) (ty := .int) (C := RX8) (T := TX8) (N := 5) hx hb hAW iwX8 tyX8 tyX8_ok nmX8 hown hK hP hD hS 0 rfl rfl 4 (by decide) (hAW _ q238) (fun _ h9 => h9) rfl (tyX8_ok 4 (by decide)) rfl rfl (Nat.le_of_ble_eq_true rfl) dX8_matchAlarm_65 (fun H locs hP hD hS => ?_)
            have hP : va_P D vwCl [(qt, .inr (7, [.ref qm, .ref qx, .int (tr.2.2.1 + 1), .int tr.2.2.2.1, .int (tr.2.2.2.2 + ((nI nu) - (nI k)))])), (qm, .inl (cZ, 120, .inl (zbf tr.1))), (qx, .inl (cZ, 120, .inl (zbf (updB tr.2.1 k true))))] H := hP
            have hD : va_D A [(qt, .inr (7, [.ref qm, .ref qx, .int (tr.2.2.1 + 1), .int tr.2.2.2.1, .int (tr.2.2.2.2 + ((nI nu) - (nI k)))])), (qm, .inl (cZ, 120, .inl (zbf tr.1))), (qx, .inl (cZ, 120, .inl (zbf (updB tr.2.1 k true))))] := hD
            exact fin_v hx hb hr hlk hP hS (by rw [if_pos (by simp [c24, c34])] at hq; simp only [tr_one, ← hq]) hQ dX8_matchAlarm_68
  exact L11 ((nu + 1) + 1) (nu + 1) (by first | assumption | omega | rfl) rfl (Nat.lt_succ_self _) _ _ hP hD hS ls (lv_sub hl [2, 3, 4, 1, 0] rfl)

set_option maxHeartbeats 4000000 in
set_option maxRecDepth 100000 in
theorem c_X8_match (l : Launch) (D : va_G) (cI cZ : ClassId) (qt qm qx : Nat) (tr : TrS) (qa qk qn qs : Nat) (al : AlS) (kd : Int32) (w : Nat) (h1 : ∀ j, j < al.2.2.2 → al.2.1 j < 120) (h2 : w ≤ 120) (h3 : al.2.2.2 ≤ 360) : Cv l yX8_match (aw yX8_match cX8_match 5 none) ({ frames := 2, cells := 0, slots := 0, locals := 37 }) D cI cZ [.ref qt, .ref qa, .int kd, .int (nI w)] [(qt, .inr (7, [.ref qm, .ref qx, .int tr.2.2.1, .int tr.2.2.2.1, .int tr.2.2.2.2])), (qm, .inl (cZ, 120, .inl (zbf tr.1))), (qx, .inl (cZ, 120, .inl (zbf tr.2.1))), (qa, .inr (0, [.ref qk, .ref qn, .ref qs, .int (nI al.2.2.2)])), (qk, .inl (cI, 360, .inl (nIf al.1))), (qn, .inl (cI, 360, .inl (nIf al.2.1))), (qs, .inl (cI, 360, .inl (nIf al.2.2.1)))] [(qt, .inr (7, [.ref qm, .ref qx, .int ((matL al kd w al.2.2.2 0 (tr_begin tr)).2.2.1), .int ((matL al kd w al.2.2.2 0 (tr_begin tr)).2.2.2.1), .int ((matL al kd w al.2.2.2 0 (tr_begin tr)).2.2.2.2)])), (qm, .inl (cZ, 120, .inl (zbf ((matL al kd w al.2.2.2 0 (tr_begin tr)).1)))), (qx, .inl (cZ, 120, .inl (zbf ((matL al kd w al.2.2.2 0 (tr_begin tr)).2.1)))), (qa, .inr (0, [.ref qk, .ref qn, .ref qs, .int (nI al.2.2.2)])), (qk, .inl (cI, 360, .inl (nIf al.1))), (qn, .inl (cI, 360, .inl (nIf al.2.1))), (qs, .inl (cI, 360, .inl (nIf al.2.2.1)))] := by
  refine mk_any (y := yX8_match) (av := [.ref qt, .ref qa, .int kd, .int (nI w)]) (cc := cX8_match) (maxL := 5) (ret := none) (Qc := fun A => va_Qv (fun (_ : Unit) => True) (cb D [(qt, .inr (7, [.ref qm, .ref qx, .int ((matL al kd w al.2.2.2 0 (tr_begin tr)).2.2.1), .int ((matL al kd w al.2.2.2 0 (tr_begin tr)).2.2.2.1), .int ((matL al kd w al.2.2.2 0 (tr_begin tr)).2.2.2.2)])), (qm, .inl (cZ, 120, .inl (zbf ((matL al kd w al.2.2.2 0 (tr_begin tr)).1)))), (qx, .inl (cZ, 120, .inl (zbf ((matL al kd w al.2.2.2 0 (tr_begin tr)).2.1)))), (qa, .inr (0, [.ref qk, .ref qn, .ref qs, .int (nI al.2.2.2)])), (qk, .inl (cI, 360, .inl (nIf al.1))), (qn, .inl (cI, 360, .inl (nIf al.2.1))), (qs, .inl (cI, 360, .inl (nIf al.2.2.1)))]) A) (plainFor_of_name (by decide)) (Nat.le_of_ble_eq_true rfl) ?_
  intro p e s m args below meth c A Q R hR hQ hx hb hr hml hAW hown hlk hN hA hP hK hD hS ls hl
  have hl : lv_has ls 5 [(0, .ref qt), (1, .ref qa), (2, .int kd), (3, .int (nI w))] := hl
  refine lv_aload_n hx hb dX8_match_0 rfl (lv_at hl 0 rfl) ?_
  refine call_Vv (D := D) (rest := []) (ws' := [(qt, .inr (7, [.ref qm, .ref qx, .int ((tr_begin tr).2.2.1), .int ((tr_begin tr).2.2.2.1), .int ((tr_begin tr).2.2.2.2)])), (qm, .inl (cZ, 120, .inl (zbf ((tr_begin tr).1)))), (qx, .inl (cZ, 120, .inl (zbf ((tr_begin tr).2.1)))), (qa, .inr (0, [.ref qk, .ref qn, .ref qs, .int (nI al.2.2.2)])), (qk, .inl (cI, 360, .inl (nIf al.1))), (qn, .inl (cI, 360, .inl (nIf al.2.1))), (qs, .inl (cI, 360, .inl (nIf al.2.2.1)))]) (ad := [qt, qm, qx]) (ad2 := [qt, qm, qx, qa, qk, qn, qs]) hx hb hml hown hAW hN (c_X8_beginMatching l D cI cZ qt qm qx tr ) (cwVA 0 hAW q662 q664 q19 q30 q665 hd_X8_beginMatching (by rw [hR]; exact Nat.le_of_ble_eq_true rfl) (by rw [hR]; exact Nat.le_of_ble_eq_true rfl) rfl rfl) hK hP hD hS hA [0, 1, 2] rfl rfl rfl rfl rfl rfl (by decide +kernel) (ci := 7) (q0 := 0) rfl rfl rfl rfl hl.1 rfl (lv_room (Nat.le_of_ble_eq_true rfl)) dX8_match_1 (Nat.zero_le _) (Nat.zero_le _) (fun H locs hP hD hS => ?_)
  refine lv_iconst (v := 0) hx hb dX8_match_4 (by decide) ?_
  refine lv_istore (lv' := [(4, .int 0), (0, .ref qt), (1, .ref qa), (2, .int kd), (3, .int (nI w))]) hx hb dX8_match_5 hl (by decide) rfl (fun ls hl => ?_)
  have L7 : ∀ (mz : Nat) (d j : Nat) (u : TrS), (j + d = al.2.2.2) → (matL al kd w d j u = matL al kd w al.2.2.2 0 (tr_begin tr)) → d < mz → ∀ (H : Heap) (locs : List Loc), va_P D vwCl [(qt, .inr (7, [.ref qm, .ref qx, .int u.2.2.1, .int u.2.2.2.1, .int u.2.2.2.2])), (qm, .inl (cZ, 120, .inl (zbf u.1))), (qx, .inl (cZ, 120, .inl (zbf u.2.1))), (qa, .inr (0, [.ref qk, .ref qn, .ref qs, .int (nI al.2.2.2)])), (qk, .inl (cI, 360, .inl (nIf al.1))), (qn, .inl (cI, 360, .inl (nIf al.2.1))), (qs, .inl (cI, 360, .inl (nIf al.2.2.1)))] H → va_D A [(qt, .inr (7, [.ref qm, .ref qx, .int u.2.2.1, .int u.2.2.2.1, .int u.2.2.2.2])), (qm, .inl (cZ, 120, .inl (zbf u.1))), (qx, .inl (cZ, 120, .inl (zbf u.2.1))), (qa, .inr (0, [.ref qk, .ref qn, .ref qs, .int (nI al.2.2.2)])), (qk, .inl (cI, 360, .inl (nIf al.1))), (qn, .inl (cI, 360, .inl (nIf al.2.1))), (qs, .inl (cI, 360, .inl (nIf al.2.2.1)))] → va_S A s.heap H locs → ∀ (ls : Array Slot), lv_has ls 5 [(0, .ref qt), (1, .ref qa), (2, .int kd), (3, .int (nI w)), (4, .int (nI j))] → W p l e R s m args below meth c H locs 0 0 Q (F0 m 7 ls []) := by
    intro mz
    induction mz with
    | zero => intro d j u hi hq hmu; exact absurd (by assumption) (Nat.not_lt_zero _)
    | succ mz ih7 =>
      intro d j u hi hq hmu H locs hP hD hS ls hl
      refine lv_iload hx hb dX8_match_7 (lv_at hl 4 rfl) ?_
      refine lv_aload_n hx hb dX8_match_9 rfl (lv_at hl 1 rfl) ?_
      refine va_getN (D := D) (ci := 0) (v := .int (nI al.2.2.2)) (C := RX0) (T := TX0) (N := 4) hx hb hAW iwX0 hown hK hP 3 rfl rfl 3 (by decide) (nk62 hN) (fun _ h9 => h9) rfl dX8_match_10 ?_
      refine n_icmp_ge (x := j) (y := al.2.2.2) (tgt := 45) hx hb (by omega) (by omega) dX8_match_13 (by decide) (fun c13 => ?_) (fun c13 => ?_)
      · skip
        obtain rfl : d = 0 := by omega
        rw [matL] at hq
        exact fin_v hx hb hr hlk hP hS (by rw [← hq]) hQ dX8_match_45
      · skip
        obtain ⟨d, rfl⟩ : ∃ j, d = j + 1 := ⟨d - 1, by omega⟩
        refine lv_aload_n hx hb dX8_match_16 rfl (lv_at hl 1 rfl) ?_
        refine va_getN (D := D) (ci := 0) (v := .ref qk) (C := RX0) (T := TX0) (N := 4) hx hb hAW iwX0 hown hK hP 3 rfl rfl 0 (by decide) (nk54 hN) (fun _ h9 => h9) rfl dX8_match_17 ?_
        refine lv_iload hx hb dX8_match_20 (lv_at hl 4 rfl) ?_
        refine m_load (D := D) (f := al.1) (i := j) hx hb hK hP 4 0 rfl rfl (by omega) (by decide) dX8_match_22 ?_
        refine lv_iload_n hx hb dX8_match_23 rfl (lv_at hl 2 rfl) ?_
        refine lv_icmp_ne (tgt := 39) hx hb dX8_match_24 (by decide) (fun c24 => ?_) (fun c24 => ?_)
        · skip
          refine lv_iinc (v := (nI (j + 1))) (lv' := [(4, .int (nI (j + 1))), (0, .ref qt), (1, .ref qa), (2, .int kd), (3, .int (nI w))]) hx hb dX8_match_39 hl (k := 4) rfl (nI_inc j 1) (by decide) rfl (fun ls hl => ?_)
          refine lv_goto (tgt := 7) hx hb dX8_match_42 (by decide) ?_
          exact ih7 d (j + 1) u (by first | assumption | omega | rfl) (by rw [matL, if_neg c24] at hq; exact hq) (by omega) _ _ hP hD hS ls (lv_sub hl [1, 2, 3, 4, 0] rfl)
        · skip
          refine lv_aload_n hx hb dX8_match_27 rfl (lv_at hl 0 rfl) ?_
          refine lv_aload_n hx hb dX8_match_28 rfl (lv_at hl 1 rfl) ?_
          refine va_getN (D := D) (ci := 0) (v := .ref qn) (C := RX0) (T := TX0) (N := 4) hx hb hAW iwX0 hown hK hP 3 rfl rfl 1 (by decide) (nk57 hN) (fun _ h9 => h9) rfl dX8_match_29 ?_
          refine lv_iload hx hb dX8_match_32 (lv_at hl 4 rfl) ?_
          refine m_load (D := D) (f := al.2.1) (i := j) hx hb hK hP 5 0 rfl rfl (by omega) (by decide) dX8_match_34 ?_
          refine lv_iload_n hx hb dX8_match_35 rfl (lv_at hl 3 rfl) ?_
          refine call_Vv (D := D) (rest := []) (ws' := [(qt, .inr (7, [.ref qm, .ref qx, .int ((tr_one u (al.2.1 j) w).2.2.1), .int ((tr_one u (al.2.1 j) w).2.2.2.1), .int ((tr_one u (al.2.1 j) w).2.2.2.2)])), (qm, .inl (cZ, 120, .inl (zbf ((tr_one u (al.2.1 j) w).1)))), (qx, .inl (cZ, 120, .inl (zbf ((tr_one u (al.2.1 j) w).2.1)))), (qa, .inr (0, [.ref qk, .ref qn, .ref qs, .int (nI al.2.2.2)])), (qk, .inl (cI, 360, .inl (nIf al.1))), (qn, .inl (cI, 360, .inl (nIf al.2.1))), (qs, .inl (cI, 360, .inl (nIf al.2.2.1)))]) (ad := [qt, qm, qx]) (ad2 := [qt, qm, qx, qa, qk, qn, qs]) hx hb hml hown hAW hN (c_X8_matchAlarm l D cI cZ qt qm qx u (al.2.1 j) w (h1 j (by omega)) (by omega)) (cwVA 2 hAW q666 q668 q20 q30 q669 hd_X8_matchAlarm (by rw [hR]; exact Nat.le_of_ble_eq_true rfl) (by rw [hR]; exact Nat.le_of_ble_eq_true rfl) rfl rfl) hK hP hD hS hA [0, 1, 2] rfl rfl rfl rfl rfl rfl (by decide +kernel) (ci := 7) (q0 := 0) rfl rfl rfl rfl hl.1 rfl (lv_room (Nat.le_of_ble_eq_true rfl)) dX8_match_36 (Nat.zero_le _) (Nat.zero_le _) (fun H locs hP hD hS => ?_)
          refine lv_iinc (v := (nI (j + 1))) (lv' := [(4, .int (nI (j + 1))), (0, .ref qt), (1, .ref qa), (2, .int kd), (3, .int (nI w))]) hx hb dX8_match_39 hl (k := 4) rfl (nI_inc j 1) (by decide) rfl (fun ls hl => ?_)
          refine lv_goto (tgt := 7) hx hb dX8_match_42 (by decide) ?_
          exact ih7 d (j + 1) (tr_one u (al.2.1 j) w) (by first | assumption | omega | rfl) (by rw [matL, if_pos c24] at hq; exact hq) (by omega) _ _ hP hD hS ls (lv_sub hl [1, 2, 3, 4, 0] rfl)
  exact L7 (al.2.2.2 + 1) al.2.2.2 0 (tr_begin tr) (by first | assumption | omega | rfl) rfl (Nat.lt_succ_self _) _ _ hP hD hS ls (lv_sub hl [1, 2, 3, 4, 0] rfl)

set_option maxHeartbeats 4000000 in
set_option maxRecDepth 100000 in
theorem c_X1_findFrom (l : Launch) (D : va_G) (cI cZ : ClassId) (qj ql qo qp : Nat) (bs : BsS) (qd qe qf lr : Nat) (K : Nat → Int32) (fr en : Nat) (pn : Int32) (h1 : fr < en) (h2 : en ≤ 120) : Cv l yX1_findFrom (aw yX1_findFrom cX1_findFrom 11 none) ({ frames := 2, cells := 0, slots := 0, locals := 42 }) D cI cZ [.ref qj, .ref qd, .int (nI fr), .int (nI en), .int pn] [(qj, .inr (1, [.ref ql, .ref qo, .ref qp])), (ql, .inl (cI, 120, .inl bs.1)), (qo, .inl (cI, 120, .inl bs.2.1)), (qp, .inl (cI, 120, .inl bs.2.2)), (qd, .inr (6, [.ref qe, .ref qf, .int (nI lr)])), (qe, .inl (cI, 7260, .inl K))] [(qj, .inr (1, [.ref ql, .ref qo, .ref qp])), (ql, .inl (cI, 120, .inl ((ffT K en pn fr bs).1))), (qo, .inl (cI, 120, .inl ((ffT K en pn fr bs).2.1))), (qp, .inl (cI, 120, .inl ((ffT K en pn fr bs).2.2))), (qd, .inr (6, [.ref qe, .ref qf, .int (nI lr)])), (qe, .inl (cI, 7260, .inl K))] := by
  refine mk_any (y := yX1_findFrom) (av := [.ref qj, .ref qd, .int (nI fr), .int (nI en), .int pn]) (cc := cX1_findFrom) (maxL := 11) (ret := none) (Qc := fun A => va_Qv (fun (_ : Unit) => True) (cb D [(qj, .inr (1, [.ref ql, .ref qo, .ref qp])), (ql, .inl (cI, 120, .inl ((ffT K en pn fr bs).1))), (qo, .inl (cI, 120, .inl ((ffT K en pn fr bs).2.1))), (qp, .inl (cI, 120, .inl ((ffT K en pn fr bs).2.2))), (qd, .inr (6, [.ref qe, .ref qf, .int (nI lr)])), (qe, .inl (cI, 7260, .inl K))]) A) (plainFor_of_name (by decide)) (Nat.le_of_ble_eq_true rfl) ?_
  intro p e s m args below meth c A Q R hR hQ hx hb hr hml hAW hown hlk hN hA hP hK hD hS ls hl
  have hl : lv_has ls 11 [(0, .ref qj), (1, .ref qd), (2, .int (nI fr)), (3, .int (nI en)), (4, .int pn)] := hl
  refine lv_aload_n hx hb dX1_findFrom_0 rfl (lv_at hl 1 rfl) ?_
  refine lv_iload_n hx hb dX1_findFrom_1 rfl (lv_at hl 2 rfl) ?_
  refine lv_iload_n hx hb dX1_findFrom_2 rfl (lv_at hl 3 rfl) ?_
  refine call_Vi (D := D) (rest := []) (ws' := [(qj, .inr (1, [.ref ql, .ref qo, .ref qp])), (ql, .inl (cI, 120, .inl bs.1)), (qo, .inl (cI, 120, .inl bs.2.1)), (qp, .inl (cI, 120, .inl bs.2.2)), (qd, .inr (6, [.ref qe, .ref qf, .int (nI lr)])), (qe, .inl (cI, 7260, .inl K))]) (ad := [qd, qe]) (ad2 := [qj, ql, qo, qp, qd, qe]) hx hb hml hown hAW hN (c_X7_of l D cI cZ qd qe qf lr K fr en (by omega) (by omega)) (cwVA 2 hAW q564 q537 q538 q26 q539 hd_X7_of (by rw [hR]; exact Nat.le_of_ble_eq_true rfl) (by rw [hR]; exact Nat.le_of_ble_eq_true rfl) rfl rfl) hK hP hD hS hA [4, 5] rfl rfl rfl rfl rfl rfl (by decide +kernel) (ci := 6) (q0 := 4) rfl rfl rfl rfl hl.1 rfl (lv_room (Nat.le_of_ble_eq_true rfl)) dX1_findFrom_3 (Nat.zero_le _) (Nat.zero_le _) (fun H locs hP hD hS => ?_)
  refine lv_istore (lv' := [(5, .int (K (tri (en - 1) + fr))), (0, .ref qj), (1, .ref qd), (2, .int (nI fr)), (3, .int (nI en)), (4, .int pn)]) hx hb dX1_findFrom_6 hl (by decide) rfl (fun ls hl => ?_)
  refine lv_iconst (v := 0) hx hb dX1_findFrom_8 (by decide) ?_
  refine lv_istore (lv' := [(6, .int 0), (5, .int (K (tri (en - 1) + fr))), (0, .ref qj), (1, .ref qd), (2, .int (nI fr)), (3, .int (nI en)), (4, .int pn)]) hx hb dX1_findFrom_9 hl (by decide) rfl (fun ls hl => ?_)
  refine lv_iload_n hx hb dX1_findFrom_11 rfl (lv_at hl 5 rfl) ?_
  refine lv_istore (lv' := [(7, .int (nI en)), (6, .int 0), (5, .int (K (tri (en - 1) + fr))), (0, .ref qj), (1, .ref qd), (2, .int (nI fr)), (3, .int (nI en)), (4, .int pn)]) hx hb dX1_findFrom_12 hl (by decide) rfl (fun ls hl => ?_)
  refine lv_iload_n hx hb dX1_findFrom_14 rfl (lv_at hl 5 rfl) ?_
  refine lv_iconst (v := 1) hx hb dX1_findFrom_15 (by decide) ?_
  refine n_iadd (x := fr) (y := 1) hx hb dX1_findFrom_16 ?_
  refine lv_istore (lv' := [(8, .int (nI (fr + 1))), (7, .int (nI en)), (6, .int 0), (5, .int (K (tri (en - 1) + fr))), (0, .ref qj), (1, .ref qd), (2, .int (nI fr)), (3, .int (nI en)), (4, .int pn)]) hx hb dX1_findFrom_17 hl (by decide) rfl (fun ls hl => ?_)
  have L19 : ∀ (mz : Nat) (d i : Nat) (lp fc ea : Int32), (i + d = en) → (fr < i) → (ffL K fr pn bs d i lp fc ea = ffR K en pn fr bs) → d < mz → ∀ (H : Heap) (locs : List Loc), va_P D vwCl [(qj, .inr (1, [.ref ql, .ref qo, .ref qp])), (ql, .inl (cI, 120, .inl bs.1)), (qo, .inl (cI, 120, .inl bs.2.1)), (qp, .inl (cI, 120, .inl bs.2.2)), (qd, .inr (6, [.ref qe, .ref qf, .int (nI lr)])), (qe, .inl (cI, 7260, .inl K))] H → va_D A [(qj, .inr (1, [.ref ql, .ref qo, .ref qp])), (ql, .inl (cI, 120, .inl bs.1)), (qo, .inl (cI, 120, .inl bs.2.1)), (qp, .inl (cI, 120, .inl bs.2.2)), (qd, .inr (6, [.ref qe, .ref qf, .int (nI lr)])), (qe, .inl (cI, 7260, .inl K))] → va_S A s.heap H locs → ∀ (ls : Array Slot), lv_has ls 11 [(0, .ref qj), (1, .ref qd), (2, .int (nI fr)), (3, .int (nI en)), (4, .int pn), (5, .int lp), (6, .int fc), (7, .int ea), (8, .int (nI i))] → W p l e R s m args below meth c H locs 0 0 Q (F0 m 19 ls []) := by
    intro mz
    induction mz with
    | zero => intro d i lp fc ea hi hf hq hmu; exact absurd (by assumption) (Nat.not_lt_zero _)
    | succ mz ih19 =>
      intro d i lp fc ea hi hf hq hmu H locs hP hD hS ls hl
      refine lv_iload hx hb dX1_findFrom_19 (lv_at hl 8 rfl) ?_
      refine lv_iload_n hx hb dX1_findFrom_21 rfl (lv_at hl 3 rfl) ?_
      refine n_icmp_ge (x := i) (y := en) (tgt := 95) hx hb (by omega) (by omega) dX1_findFrom_22 (by decide) (fun c22 => ?_) (fun c22 => ?_)
      · skip
        obtain rfl : d = 0 := by omega
        rw [ffL] at hq
        refine lv_aload_n hx hb dX1_findFrom_95 rfl (lv_at hl 0 rfl) ?_
        refine va_get (D := D) (ci := 1) (v := .ref ql) (C := RX1) (T := TX1) (N := 3) hx hb hAW iwX1 hown hK hP 0 rfl rfl 0 (by decide) (hAW _ q192) (fun _ h9 => h9) rfl dX1_findFrom_96 ?_
        refine lv_iload_n hx hb dX1_findFrom_99 rfl (lv_at hl 2 rfl) ?_
        refine lv_iload hx hb dX1_findFrom_100 (lv_at hl 5 rfl) ?_
        refine n_iast (D := D) (f := bs.1) (i := fr) (x := lp) hx hb hK hP hD hS 1 0 rfl rfl (by omega) (by decide) dX1_findFrom_102 (fun H locs hP hD hS => ?_)
        have hP : va_P D vwCl [(qj, .inr (1, [.ref ql, .ref qo, .ref qp])), (ql, .inl (cI, 120, .inl (upd bs.1 fr lp))), (qo, .inl (cI, 120, .inl bs.2.1)), (qp, .inl (cI, 120, .inl bs.2.2)), (qd, .inr (6, [.ref qe, .ref qf, .int (nI lr)])), (qe, .inl (cI, 7260, .inl K))] H := hP
        have hD : va_D A [(qj, .inr (1, [.ref ql, .ref qo, .ref qp])), (ql, .inl (cI, 120, .inl (upd bs.1 fr lp))), (qo, .inl (cI, 120, .inl bs.2.1)), (qp, .inl (cI, 120, .inl bs.2.2)), (qd, .inr (6, [.ref qe, .ref qf, .int (nI lr)])), (qe, .inl (cI, 7260, .inl K))] := hD
        refine lv_aload_n hx hb dX1_findFrom_103 rfl (lv_at hl 0 rfl) ?_
        refine va_get (D := D) (ci := 1) (v := .ref qo) (C := RX1) (T := TX1) (N := 3) hx hb hAW iwX1 hown hK hP 0 rfl rfl 1 (by decide) (hAW _ q193) (fun _ h9 => h9) rfl dX1_findFrom_104 ?_
        refine lv_iload_n hx hb dX1_findFrom_107 rfl (lv_at hl 2 rfl) ?_
        refine lv_iload hx hb dX1_findFrom_108 (lv_at hl 6 rfl) ?_
        refine n_iast (D := D) (f := bs.2.1) (i := fr) (x := fc) hx hb hK hP hD hS 2 0 rfl rfl (by omega) (by decide) dX1_findFrom_110 (fun H locs hP hD hS => ?_)
        have hP : va_P D vwCl [(qj, .inr (1, [.ref ql, .ref qo, .ref qp])), (ql, .inl (cI, 120, .inl (upd bs.1 fr lp))), (qo, .inl (cI, 120, .inl (upd bs.2.1 fr fc))), (qp, .inl (cI, 120, .inl bs.2.2)), (qd, .inr (6, [.ref qe, .ref qf, .int (nI lr)])), (qe, .inl (cI, 7260, .inl K))] H := hP
        have hD : va_D A [(qj, .inr (1, [.ref ql, .ref qo, .ref qp])), (ql, .inl (cI, 120, .inl (upd bs.1 fr lp))), (qo, .inl (cI, 120, .inl (upd bs.2.1 fr fc))), (qp, .inl (cI, 120, .inl bs.2.2)), (qd, .inr (6, [.ref qe, .ref qf, .int (nI lr)])), (qe, .inl (cI, 7260, .inl K))] := hD
        refine lv_aload_n hx hb dX1_findFrom_111 rfl (lv_at hl 0 rfl) ?_
        refine va_get (D := D) (ci := 1) (v := .ref qp) (C := RX1) (T := TX1) (N := 3) hx hb hAW iwX1 hown hK hP 0 rfl rfl 2 (by decide) (hAW _ q194) (fun _ h9 => h9) rfl dX1_findFrom_112 ?_
        refine lv_iload_n hx hb dX1_findFrom_115 rfl (lv_at hl 2 rfl) ?_
        refine lv_iload hx hb dX1_findFrom_116 (lv_at hl 7 rfl) ?_
        refine n_iast (D := D) (f := bs.2.2) (i := fr) (x := ea) hx hb hK hP hD hS 3 0 rfl rfl (by omega) (by decide) dX1_findFrom_118 (fun H locs hP hD hS => ?_)
        have hP : va_P D vwCl [(qj, .inr (1, [.ref ql, .ref qo, .ref qp])), (ql, .inl (cI, 120, .inl (upd bs.1 fr lp))), (qo, .inl (cI, 120, .inl (upd bs.2.1 fr fc))), (qp, .inl (cI, 120, .inl (upd bs.2.2 fr ea))), (qd, .inr (6, [.ref qe, .ref qf, .int (nI lr)])), (qe, .inl (cI, 7260, .inl K))] H := hP
        have hD : va_D A [(qj, .inr (1, [.ref ql, .ref qo, .ref qp])), (ql, .inl (cI, 120, .inl (upd bs.1 fr lp))), (qo, .inl (cI, 120, .inl (upd bs.2.1 fr fc))), (qp, .inl (cI, 120, .inl (upd bs.2.2 fr ea))), (qd, .inr (6, [.ref qe, .ref qf, .int (nI lr)])), (qe, .inl (cI, 7260, .inl K))] := hD
        exact fin_v hx hb hr hlk hP hS (by simp only [ffT, ← hq]) hQ dX1_findFrom_119
      · skip
        obtain ⟨d, rfl⟩ : ∃ j, d = j + 1 := ⟨d - 1, by omega⟩
        refine lv_aload_n hx hb dX1_findFrom_25 rfl (lv_at hl 1 rfl) ?_
        refine lv_iload_n hx hb dX1_findFrom_26 rfl (lv_at hl 2 rfl) ?_
        refine lv_iload hx hb dX1_findFrom_27 (lv_at hl 8 rfl) ?_
        refine call_Vi (D := D) (rest := []) (ws' := [(qj, .inr (1, [.ref ql, .ref qo, .ref qp])), (ql, .inl (cI, 120, .inl bs.1)), (qo, .inl (cI, 120, .inl bs.2.1)), (qp, .inl (cI, 120, .inl bs.2.2)), (qd, .inr (6, [.ref qe, .ref qf, .int (nI lr)])), (qe, .inl (cI, 7260, .inl K))]) (ad := [qd, qe]) (ad2 := [qj, ql, qo, qp, qd, qe]) hx hb hml hown hAW hN (c_X7_of l D cI cZ qd qe qf lr K fr i (by omega) (by omega)) (cwVA 2 hAW q564 q537 q538 q26 q539 hd_X7_of (by rw [hR]; exact Nat.le_of_ble_eq_true rfl) (by rw [hR]; exact Nat.le_of_ble_eq_true rfl) rfl rfl) hK hP hD hS hA [4, 5] rfl rfl rfl rfl rfl rfl (by decide +kernel) (ci := 6) (q0 := 4) rfl rfl rfl rfl hl.1 rfl (lv_room (Nat.le_of_ble_eq_true rfl)) dX1_findFrom_29 (Nat.zero_le _) (Nat.zero_le _) (fun H locs hP hD hS => ?_)
        refine lv_iload hx hb dX1_findFrom_32 (lv_at hl 4 rfl) ?_
        refine lv_iadd hx hb dX1_findFrom_34 ?_
        refine lv_aload_n hx hb dX1_findFrom_35 rfl (lv_at hl 0 rfl) ?_
        refine va_get (D := D) (ci := 1) (v := .ref ql) (C := RX1) (T := TX1) (N := 3) hx hb hAW iwX1 hown hK hP 0 rfl rfl 0 (by decide) (hAW _ q192) (fun _ h9 => h9) rfl dX1_findFrom_36 ?_
        refine lv_iload hx hb dX1_findFrom_39 (lv_at hl 8 rfl) ?_
        refine n_iald (D := D) (f := bs.1) (i := i) hx hb hK hP 1 0 rfl rfl (by omega) (by decide) dX1_findFrom_41 ?_
        refine lv_iadd hx hb dX1_findFrom_42 ?_
        refine lv_istore (lv' := [(9, .int (((K (tri (i - 1) + fr)) + pn) + (bs.1 i))), (0, .ref qj), (1, .ref qd), (2, .int (nI fr)), (3, .int (nI en)), (4, .int pn), (5, .int lp), (6, .int fc), (7, .int ea), (8, .int (nI i))]) hx hb dX1_findFrom_43 hl (by decide) rfl (fun ls hl => ?_)
        refine lv_iconst (v := 1) hx hb dX1_findFrom_45 (by decide) ?_
        refine lv_aload_n hx hb dX1_findFrom_46 rfl (lv_at hl 1 rfl) ?_
        refine va_get (D := D) (ci := 1) (v := .ref qo) (C := RX1) (T := TX1) (N := 3) hx hb hAW iwX1 hown hK hP 0 rfl rfl 1 (by decide) (hAW _ q193) (fun _ h9 => h9) rfl dX1_findFrom_47 ?_
        refine lv_iload hx hb dX1_findFrom_50 (lv_at hl 9 rfl) ?_
        refine n_iald (D := D) (f := bs.2.1) (i := i) hx hb hK hP 2 0 rfl rfl (by omega) (by decide) dX1_findFrom_52 ?_
        refine lv_iadd hx hb dX1_findFrom_53 ?_
        refine lv_istore (lv' := [(10, .int (1 + (bs.2.1 i))), (9, .int (((K (tri (i - 1) + fr)) + pn) + (bs.1 i))), (0, .ref qj), (1, .ref qd), (2, .int (nI fr)), (3, .int (nI en)), (4, .int pn), (5, .int lp), (6, .int fc), (7, .int ea), (8, .int (nI i))]) hx hb dX1_findFrom_54 hl (by decide) rfl (fun ls hl => ?_)
        refine lv_iload hx hb dX1_findFrom_56 (lv_at hl 1 rfl) ?_
        refine lv_iload hx hb dX1_findFrom_58 (lv_at hl 7 rfl) ?_
        refine lv_icmp_lt (tgt := 77) hx hb dX1_findFrom_60 (by decide) (fun c60 => ?_) (fun c60 => ?_)
        · skip
          refine lv_iload hx hb dX1_findFrom_77 (lv_at hl 1 rfl) ?_
          refine lv_istore (lv' := [(5, .int (((K (tri (i - 1) + fr)) + pn) + (bs.1 i))), (10, .int (1 + (bs.2.1 i))), (9, .int (((K (tri (i - 1) + fr)) + pn) + (bs.1 i))), (0, .ref qj), (1, .ref qd), (2, .int (nI fr)), (3, .int (nI en)), (4, .int pn), (6, .int fc), (7, .int ea), (8, .int (nI i))]) hx hb dX1_findFrom_79 hl (by decide) rfl (fun ls hl => ?_)
          refine lv_iload hx hb dX1_findFrom_81 (lv_at hl 1 rfl) ?_
          refine lv_istore (lv' := [(6, .int (1 + (bs.2.1 i))), (5, .int (((K (tri (i - 1) + fr)) + pn) + (bs.1 i))), (10, .int (1 + (bs.2.1 i))), (9, .int (((K (tri (i - 1) + fr)) + pn) + (bs.1 i))), (0, .ref qj), (1, .ref qd), (2, .int (nI fr)), (3, .int (nI en)), (4, .int pn), (7, .int ea), (8, .int (nI i))]) hx hb dX1_findFrom_83 hl (by decide) rfl (fun ls hl => ?_)
          refine lv_iload hx hb dX1_findFrom_85 (lv_at hl 10 rfl) ?_
          refine lv_istore (lv' := [(7, .int (nI i)), (6, .int (1 + (bs.2.1 i))), (5, .int (((K (tri (i - 1) + fr)) + pn) + (bs.1 i))), (10, .int (1 + (bs.2.1 i))), (9, .int (((K (tri (i - 1) + fr)) + pn) + (bs.1 i))), (0, .ref qj), (1, .ref qd), (2, .int (nI fr)), (3, .int (nI en)), (4, .int pn), (8, .int (nI i))]) hx hb dX1_findFrom_87 hl (by decide) rfl (fun ls hl => ?_)
          refine lv_iinc (v := (nI (i + 1))) (lv' := [(8, .int (nI (i + 1))), (7, .int (nI i)), (6, .int (1 + (bs.2.1 i))), (5, .int (((K (tri (i - 1) + fr)) + pn) + (bs.1 i))), (10, .int (1 + (bs.2.1 i))), (9, .int (((K (tri (i - 1) + fr)) + pn) + (bs.1 i))), (0, .ref qj), (1, .ref qd), (2, .int (nI fr)), (3, .int (nI en)), (4, .int pn)]) hx hb dX1_findFrom_89 hl (k := 10) rfl (nI_inc i 1) (by decide) rfl (fun ls hl => ?_)
          refine lv_goto (tgt := 19) hx hb dX1_findFrom_92 (by decide) ?_
          exact ih19 d (i + 1) (((K (tri (i - 1) + fr)) + pn) + (bs.1 i)) (1 + (bs.2.1 i)) (nI i) (by first | assumption | omega | rfl) (by first | assumption | omega | rfl) (by rw [ffL, if_pos c60] at hq; exact hq) (by omega) _ _ hP hD hS ls (lv_sub hl [6, 7, 8, 9, 10, 3, 2, 1, 0] rfl)
        · skip
          refine lv_iload hx hb dX1_findFrom_63 (lv_at hl 1 rfl) ?_
          refine lv_iload hx hb dX1_findFrom_65 (lv_at hl 7 rfl) ?_
          refine lv_icmp_ne (tgt := 89) hx hb dX1_findFrom_67 (by decide) (fun c67 => ?_) (fun c67 => ?_)
          · skip
            refine lv_iinc (v := (nI (i + 1))) (lv' := [(8, .int (nI (i + 1))), (10, .int (1 + (bs.2.1 i))), (9, .int (((K (tri (i - 1) + fr)) + pn) + (bs.1 i))), (0, .ref qj), (1, .ref qd), (2, .int (nI fr)), (3, .int (nI en)), (4, .int pn), (5, .int lp), (6, .int fc), (7, .int ea)]) hx hb dX1_findFrom_89 hl (k := 10) rfl (nI_inc i 1) (by decide) rfl (fun ls hl => ?_)
            refine lv_goto (tgt := 19) hx hb dX1_findFrom_92 (by decide) ?_
            exact ih19 d (i + 1) lp fc ea (by first | assumption | omega | rfl) (by first | assumption | omega | rfl) (by rw [ffL, if_neg c60, if_neg c67] at hq; exact hq) (by omega) _ _ hP hD hS ls (lv_sub hl [3, 4, 5, 6, 7, 8, 9, 10, 0] rfl)
          · skip
            refine lv_iload hx hb dX1_findFrom_70 (lv_at hl 0 rfl) ?_
            refine lv_iload hx hb dX1_findFrom_72 (lv_at hl 8 rfl) ?_
            refine lv_icmp_ge (tgt := 89) hx hb dX1_findFrom_74 (by decide) (fun c74 => ?_) (fun c74 => ?_)
            · skip
              refine lv_iinc (v := (nI (i + 1))) (lv' := [(8, .int (nI (i + 1))), (10, .int (1 + (bs.2.1 i))), (9, .int (((K (tri (i - 1) + fr)) + pn) + (bs.1 i))), (0, .ref qj), (1, .ref qd), (2, .int (nI fr)), (3, .int (nI en)), (4, .int pn), (5, .int lp), (6, .int fc), (7, .int ea)]) hx hb dX1_findFrom_89 hl (k := 10) rfl (nI_inc i 1) (by decide) rfl (fun ls hl => ?_)
              refine lv_goto (tgt := 19) hx hb dX1_findFrom_92 (by decide) ?_
              exact ih19 d (i + 1) lp fc ea (by first | assumption | omega | rfl) (by first | assumption | omega | rfl) (by rw [ffL, if_neg c60, if_pos c67, if_pos c74] at hq; exact hq) (by omega) _ _ hP hD hS ls (lv_sub hl [3, 4, 5, 6, 7, 8, 9, 10, 0] rfl)
            · skip
              refine lv_iload hx hb dX1_findFrom_77 (lv_at hl 1 rfl) ?_
              refine lv_istore (lv' := [(5, .int (((K (tri (i - 1) + fr)) + pn) + (bs.1 i))), (10, .int (1 + (bs.2.1 i))), (9, .int (((K (tri (i - 1) + fr)) + pn) + (bs.1 i))), (0, .ref qj), (1, .ref qd), (2, .int (nI fr)), (3, .int (nI en)), (4, .int pn), (6, .int fc), (7, .int ea), (8, .int (nI i))]) hx hb dX1_findFrom_79 hl (by decide) rfl (fun ls hl => ?_)
              refine lv_iload hx hb dX1_findFrom_81 (lv_at hl 1 rfl) ?_
              refine lv_istore (lv' := [(6, .int (1 + (bs.2.1 i))), (5, .int (((K (tri (i - 1) + fr)) + pn) + (bs.1 i))), (10, .int (1 + (bs.2.1 i))), (9, .int (((K (tri (i - 1) + fr)) + pn) + (bs.1 i))), (0, .ref qj), (1, .ref qd), (2, .int (nI fr)), (3, .int (nI en)), (4, .int pn), (7, .int ea), (8, .int (nI i))]) hx hb dX1_findFrom_83 hl (by decide) rfl (fun ls hl => ?_)
              refine lv_iload hx hb dX1_findFrom_85 (lv_at hl 10 rfl) ?_
              refine lv_istore (lv' := [(7, .int (nI i)), (6, .int (1 + (bs.2.1 i))), (5, .int (((K (tri (i - 1) + fr)) + pn) + (bs.1 i))), (10, .int (1 + (bs.2.1 i))), (9, .int (((K (tri (i - 1) + fr)) + pn) + (bs.1 i))), (0, .ref qj), (1, .ref qd), (2, .int (nI fr)), (3, .int (nI en)), (4, .int pn), (8, .int (nI i))]) hx hb dX1_findFrom_87 hl (by decide) rfl (fun ls hl => ?_)
              refine lv_iinc (v := (nI (i + 1))) (lv' := [(8, .int (nI (i + 1))), (7, .int (nI i)), (6, .int (1 + (bs.2.1 i))), (5, .int (((K (tri (i - 1) + fr)) + pn) + (bs.1 i))), (10, .int (1 + (bs.2.1 i))), (9, .int (((K (tri (i - 1) + fr)) + pn) + (bs.1 i))), (0, .ref qj), (1, .ref qd), (2, .int (nI fr)), (3, .int (nI en)), (4, .int pn)]) hx hb dX1_findFrom_89 hl (k := 10) rfl (nI_inc i 1) (by decide) rfl (fun ls hl => ?_)
              refine lv_goto (tgt := 19) hx hb dX1_findFrom_92 (by decide) ?_
              exact ih19 d (i + 1) (((K (tri (i - 1) + fr)) + pn) + (bs.1 i)) (1 + (bs.2.1 i)) (nI i) (by first | assumption | omega | rfl) (by first | assumption | omega | rfl) (by rw [ffL, if_neg c60, if_pos c67, if_neg c74] at hq; exact hq) (by omega) _ _ hP hD hS ls (lv_sub hl [6, 7, 8, 9, 10, 3, 2, 1, 0] rfl)
  exact L19 ((en - (fr + 1)) + 1) (en - (fr + 1)) (fr + 1) (K (tri (en - 1) + fr)) 0 (nI en) (by first | assumption | omega | rfl) (by first | assumption | omega | rfl) rfl (Nat.lt_succ_self _) _ _ hP hD hS ls (lv_sub hl [4, 5, 6, 7, 8, 3, 2, 1, 0] rfl)

set_option maxHeartbeats 4000000 in
set_option maxRecDepth 100000 in
theorem c_X1_find (l : Launch) (D : va_G) (cI cZ : ClassId) (qj ql qo qp : Nat) (bs : BsS) (qd qe qf lr : Nat) (K : Nat → Int32) (en : Nat) (pn : Int32) (qu qv : Nat) (cu : CuS) (h2 : en ≤ 120) : Cv l yX1_find (aw yX1_find cX1_find 7 none) ({ frames := 3, cells := 0, slots := 0, locals := 72 }) D cI cZ [.ref qj, .ref qd, .int (nI en), .int pn, .ref qu] [(qj, .inr (1, [.ref ql, .ref qo, .ref qp])), (ql, .inl (cI, 120, .inl bs.1)), (qo, .inl (cI, 120, .inl bs.2.1)), (qp, .inl (cI, 120, .inl bs.2.2)), (qd, .inr (6, [.ref qe, .ref qf, .int (nI lr)])), (qe, .inl (cI, 7260, .inl K)), (qu, .inr (3, [.ref qv, .int cu.2.1, .int cu.2.2.1, .int (zb cu.2.2.2)])), (qv, .inl (cZ, 120, .inl (zbf cu.1)))] [(qj, .inr (1, [.ref ql, .ref qo, .ref qp])), (ql, .inl (cI, 120, .inl ((bfL K en pn en bs).1))), (qo, .inl (cI, 120, .inl ((bfL K en pn en bs).2.1))), (qp, .inl (cI, 120, .inl ((bfL K en pn en bs).2.2))), (qd, .inr (6, [.ref qe, .ref qf, .int (nI lr)])), (qe, .inl (cI, 7260, .inl K)), (qu, .inr (3, [.ref qv, .int ((chT (bfL K en pn en bs) en cu).2.1), .int ((chT (bfL K en pn en bs) en cu).2.2.1), .int (zb ((chT (bfL K en pn en bs) en cu).2.2.2))])), (qv, .inl (cZ, 120, .inl (zbf ((chT (bfL K en pn en bs) en cu).1))))] := by
  refine mk_any (y := yX1_find) (av := [.ref qj, .ref qd, .int (nI en), .int pn, .ref qu]) (cc := cX1_find) (maxL := 7) (ret := none) (Qc := fun A => va_Qv (fun (_ : Unit) => True) (cb D [(qj, .inr (1, [.ref ql, .ref qo, .ref qp])), (ql, .inl (cI, 120, .inl ((bfL K en pn en bs).1))), (qo, .inl (cI, 120, .inl ((bfL K en pn en bs).2.1))), (qp, .inl (cI, 120, .inl ((bfL K en pn en bs).2.2))), (qd, .inr (6, [.ref qe, .ref qf, .int (nI lr)])), (qe, .inl (cI, 7260, .inl K)), (qu, .inr (3, [.ref qv, .int ((chT (bfL K en pn en bs) en cu).2.1), .int ((chT (bfL K en pn en bs) en cu).2.2.1), .int (zb ((chT (bfL K en pn en bs) en cu).2.2.2))])), (qv, .inl (cZ, 120, .inl (zbf ((chT (bfL K en pn en bs) en cu).1))))]) A) (plainFor_of_name (by decide)) (Nat.le_of_ble_eq_true rfl) ?_
  intro p e s m args below meth c A Q R hR hQ hx hb hr hml hAW hown hlk hN hA hP hK hD hS ls hl
  have hl : lv_has ls 7 [(0, .ref qj), (1, .ref qd), (2, .int (nI en)), (3, .int pn), (4, .ref qu)] := hl
  refine lv_iload_n hx hb dX1_find_0 rfl (lv_at hl 2 rfl) ?_
  refine lv_iconst (v := 1) hx hb dX1_find_1 (by decide) ?_
  refine lv_isub hx hb dX1_find_2 ?_
  refine lv_istore (lv' := [(5, .int ((nI en) - 1)), (0, .ref qj), (1, .ref qd), (2, .int (nI en)), (3, .int pn), (4, .ref qu)]) hx hb dX1_find_3 hl (by decide) rfl (fun ls hl => ?_)
  have L5 : ∀ (mz : Nat) (k : Nat) (u : BsS), (k ≤ en) → (bfL K en pn k u = (bfL K en pn en bs)) → k < mz → ∀ (H : Heap) (locs : List Loc), va_P D vwCl [(qj, .inr (1, [.ref ql, .ref qo, .ref qp])), (ql, .inl (cI, 120, .inl u.1)), (qo, .inl (cI, 120, .inl u.2.1)), (qp, .inl (cI, 120, .inl u.2.2)), (qd, .inr (6, [.ref qe, .ref qf, .int (nI lr)])), (qe, .inl (cI, 7260, .inl K)), (qu, .inr (3, [.ref qv, .int cu.2.1, .int cu.2.2.1, .int (zb cu.2.2.2)])), (qv, .inl (cZ, 120, .inl (zbf cu.1)))] H → va_D A [(qj, .inr (1, [.ref ql, .ref qo, .ref qp])), (ql, .inl (cI, 120, .inl u.1)), (qo, .inl (cI, 120, .inl u.2.1)), (qp, .inl (cI, 120, .inl u.2.2)), (qd, .inr (6, [.ref qe, .ref qf, .int (nI lr)])), (qe, .inl (cI, 7260, .inl K)), (qu, .inr (3, [.ref qv, .int cu.2.1, .int cu.2.2.1, .int (zb cu.2.2.2)])), (qv, .inl (cZ, 120, .inl (zbf cu.1)))] → va_S A s.heap H locs → ∀ (ls : Array Slot), lv_has ls 7 [(0, .ref qj), (1, .ref qd), (2, .int (nI en)), (3, .int pn), (4, .ref qu), (5, .int (nI k - 1))] → W p l e R s m args below meth c H locs 0 0 Q (F0 m 5 ls []) := by
    intro mz
    induction mz with
    | zero => intro k u hk hq hmu; exact absurd (by assumption) (Nat.not_lt_zero _)
    | succ mz ih5 =>
      intro k u hk hq hmu H locs hP hD hS ls hl
      refine lv_iload hx hb dX1_find_5 (lv_at hl 5 rfl) ?_
      refine lv_if_lt (tgt := 25) hx hb dX1_find_7 (by decide) (fun c7 => ?_) (fun c7 => ?_)
      · skip
        obtain rfl : k = 0 := (km1_neg (by omega)).mp c7
        rw [bfL] at hq
        subst hq
        refine lv_aload hx hb dX1_find_25 (lv_at hl 4 rfl) ?_
        refine call_Vv (D := D) (rest := []) (ws' := [(qj, .inr (1, [.ref ql, .ref qo, .ref qp])), (ql, .inl (cI, 120, .inl ((bfL K en pn en bs).1))), (qo, .inl (cI, 120, .inl ((bfL K en pn en bs).2.1))), (qp, .inl (cI, 120, .inl ((bfL K en pn en bs).2.2))), (qd, .inr (6, [.ref qe, .ref qf, .int (nI lr)])), (qe, .inl (cI, 7260, .inl K)), (qu, .inr (3, [.ref qv, .int ((cu_join cu).2.1), .int ((cu_join cu).2.2.1), .int (zb ((cu_join cu).2.2.2))])), (qv, .inl (cZ, 120, .inl (zbf ((cu_join cu).1))))]) (ad := [qu, qv]) (ad2 := [qj, ql, qo, qp, qd, qe, qu, qv]) hx hb hml hown hAW hN (c_X3_join l D cI cZ qu qv cu ) (cwVA 0 hAW q565 q566 q567 q29 q568 hd_X3_join (by rw [hR]; exact Nat.le_of_ble_eq_true rfl) (by rw [hR]; exact Nat.le_of_ble_eq_true rfl) rfl rfl) hK hP hD hS hA [6, 7] rfl rfl rfl rfl rfl rfl (by decide +kernel) (ci := 3) (q0 := 6) rfl rfl rfl rfl hl.1 rfl (lv_room (Nat.le_of_ble_eq_true rfl)) dX1_find_27 (Nat.zero_le _) (Nat.zero_le _) (fun H locs hP hD hS => ?_)
        refine lv_iload_n hx hb dX1_find_30 rfl (lv_at hl 2 rfl) ?_
        have L49 : ∀ (mz : Nat) (d i : Nat) (up : Int32) (w : CuS), (i + d = en ∨ (en = 0 ∧ i = 1 ∧ d = 0)) → (chL (bfL K en pn en bs) d i up w = chT (bfL K en pn en bs) en cu) → d < mz → ∀ (H : Heap) (locs : List Loc), va_P D vwCl [(qj, .inr (1, [.ref ql, .ref qo, .ref qp])), (ql, .inl (cI, 120, .inl ((bfL K en pn en bs).1))), (qo, .inl (cI, 120, .inl ((bfL K en pn en bs).2.1))), (qp, .inl (cI, 120, .inl ((bfL K en pn en bs).2.2))), (qd, .inr (6, [.ref qe, .ref qf, .int (nI lr)])), (qe, .inl (cI, 7260, .inl K)), (qu, .inr (3, [.ref qv, .int w.2.1, .int w.2.2.1, .int (zb w.2.2.2)])), (qv, .inl (cZ, 120, .inl (zbf w.1)))] H → va_D A [(qj, .inr (1, [.ref ql, .ref qo, .ref qp])), (ql, .inl (cI, 120, .inl ((bfL K en pn en bs).1))), (qo, .inl (cI, 120, .inl ((bfL K en pn en bs).2.1))), (qp, .inl (cI, 120, .inl ((bfL K en pn en bs).2.2))), (qd, .inr (6, [.ref qe, .ref qf, .int (nI lr)])), (qe, .inl (cI, 7260, .inl K)), (qu, .inr (3, [.ref qv, .int w.2.1, .int w.2.2.1, .int (zb w.2.2.2)])), (qv, .inl (cZ, 120, .inl (zbf w.1)))] → va_S A s.heap H locs → ∀ (ls : Array Slot), lv_has ls 7 [(0, .ref qj), (1, .ref qd), (2, .int (nI en)), (3, .int pn), (4, .ref qu), (5, .int up), (6, .int (nI i))] → W p l e R s m args below meth c H locs 0 0 Q (F0 m 49 ls []) := by
          intro mz
          induction mz with
          | zero => intro d i up w hi hq hmu; exact absurd (by assumption) (Nat.not_lt_zero _)
          | succ mz ih49 =>
            intro d i up w hi hq hmu H locs hP hD hS ls hl
            refine lv_iload hx hb dX1_find_49 (lv_at hl 6 rfl) ?_
            refine lv_iload_n hx hb dX1_find_51 rfl (lv_at hl 2 rfl) ?_
            refine n_icmp_ge (x := i) (y := en) (tgt := 84) hx hb (by omega) (by omega) dX1_find_52 (by decide) (fun c52 => ?_) (fun c52 => ?_)
            · skip
              obtain rfl : d = 0 := by omega
              rw [chL] at hq
              exact fin_v hx hb hr hlk hP hS (by rw [← hq]) hQ dX1_find_84
            · skip
              obtain ⟨d, rfl⟩ : ∃ j, d = j + 1 := ⟨d - 1, by omega⟩
              refine lv_iload hx hb dX1_find_55 (lv_at hl 6 rfl) ?_
              refine lv_iload hx hb dX1_find_57 (lv_at hl 5 rfl) ?_
              refine lv_icmp_ne (tgt := 78) hx hb dX1_find_59 (by decide) (fun c59 => ?_) (fun c59 => ?_)
              · skip
                refine lv_iinc (v := (nI (i + 1))) (lv' := [(6, .int (nI (i + 1))), (0, .ref qj), (1, .ref qd), (2, .int (nI en)), (3, .int pn), (4, .ref qu), (5, .int up)]) hx hb dX1_find_78 hl (k := 6) rfl (nI_inc i 1) (by decide) rfl (fun ls hl => ?_)
                refine lv_goto (tgt := 49) hx hb dX1_find_81 (by decide) ?_
                exact ih49 d (i + 1) up w (by first | assumption | omega | rfl) (by rw [chL, if_neg c59] at hq; exact hq) (by omega) _ _ hP hD hS ls (lv_sub hl [1, 2, 3, 4, 5, 6, 0] rfl)
              · skip
                refine lv_aload hx hb dX1_find_62 (lv_at hl 4 rfl) ?_
                refine lv_iload hx hb dX1_find_64 (lv_at hl 6 rfl) ?_
                refine call_Vv (D := D) (rest := []) (ws' := [(qj, .inr (1, [.ref ql, .ref qo, .ref qp])), (ql, .inl (cI, 120, .inl ((bfL K en pn en bs).1))), (qo, .inl (cI, 120, .inl ((bfL K en pn en bs).2.1))), (qp, .inl (cI, 120, .inl ((bfL K en pn en bs).2.2))), (qd, .inr (6, [.ref qe, .ref qf, .int (nI lr)])), (qe, .inl (cI, 7260, .inl K)), (qu, .inr (3, [.ref qv, .int ((cu_cut w i).2.1), .int ((cu_cut w i).2.2.1), .int (zb ((cu_cut w i).2.2.2))])), (qv, .inl (cZ, 120, .inl (zbf ((cu_cut w i).1))))]) (ad := [qu, qv]) (ad2 := [qj, ql, qo, qp, qd, qe, qu, qv]) hx hb hml hown hAW hN (c_X3_cut l D cI cZ qu qv w i (by omega)) (cwVA 1 hAW q569 q570 q571 q29 q572 hd_X3_cut (by rw [hR]; exact Nat.le_of_ble_eq_true rfl) (by rw [hR]; exact Nat.le_of_ble_eq_true rfl) rfl rfl) hK hP hD hS hA [6, 7] rfl rfl rfl rfl rfl rfl (by decide +kernel) (ci := 3) (q0 := 6) rfl rfl rfl rfl hl.1 rfl (lv_room (Nat.le_of_ble_eq_true rfl)) dX1_find_66 (Nat.zero_le _) (Nat.zero_le _) (fun H locs hP hD hS => ?_)
                refine lv_aload_n hx hb dX1_find_69 rfl (lv_at hl 0 rfl) ?_
                refine va_get (D := D) (ci := 1) (v := .ref qp) (C := RX1) (T := TX1) (N := 3) hx hb hAW iwX1 hown hK hP 0 rfl rfl 2 (by decide) (hAW _ q194) (fun _ h9 => h9) rfl dX1_find_70 ?_
                refine lv_iload hx hb dX1_find_73 (lv_at hl 6 rfl) ?_
                refine n_iald (D := D) (f := ((bfL K en pn en bs).2.2)) (i := i) hx hb hK hP 3 0 rfl rfl (by omega) (by decide) dX1_find_75 ?_
                refine lv_istore (lv' := [(5, .int (((bfL K en pn en bs).2.2) i)), (0, .ref qj), (1, .ref qd), (2, .int (nI en)), (3, .int pn), (4, .ref qu), (6, .int (nI i))]) hx hb dX1_find_76 hl (by decide) rfl (fun ls hl => ?_)
                refine lv_iinc (v := (nI (i + 1))) (lv' := [(6, .int (nI (i + 1))), (5, .int (((bfL K en pn en bs).2.2) i)), (0, .ref qj), (1, .ref qd), (2, .int (nI en)), (3, .int pn), (4, .ref qu)]) hx hb dX1_find_78 hl (k := 6) rfl (nI_inc i 1) (by decide) rfl (fun ls hl => ?_)
                refine lv_goto (tgt := 49) hx hb dX1_find_81 (by decide) ?_
                exact ih49 d (i + 1) (((bfL K en pn en bs).2.2) i) (cu_cut w i) (by first | assumption | omega | rfl) (by rw [chL, if_pos c59] at hq; exact hq) (by omega) _ _ hP hD hS ls (lv_sub hl [2, 3, 4, 5, 6, 1, 0] rfl)
        refine n_if_le (x := en) (tgt := 43) hx hb (by omega) dX1_find_31 (by decide) (fun c31 => ?_) (fun c31 => ?_)
        · skip
          refine lv_iconst (v := 0) hx hb dX1_find_43 (by decide) ?_
          refine lv_istore (lv' := [(5, .int 0), (0, .ref qj), (1, .ref qd), (2, .int (nI en)), (3, .int pn), (4, .ref qu)]) hx hb dX1_find_44 hl (by decide) rfl (fun ls hl => ?_)
          refine lv_iconst (v := 1) hx hb dX1_find_46 (by decide) ?_
          refine lv_istore (lv' := [(6, .int 1), (5, .int 0), (0, .ref qj), (1, .ref qd), (2, .int (nI en)), (3, .int pn), (4, .ref qu)]) hx hb dX1_find_47 hl (by decide) rfl (fun ls hl => ?_)
          exact L49 ((en - 1) + 1) (en - 1) 1 0 (cu_join cu) (by first | assumption | omega | rfl) (by rw [chT, if_pos c31]) (Nat.lt_succ_self _) _ _ hP hD hS ls (lv_sub hl [2, 3, 4, 5, 6, 1, 0] rfl)
        · skip
          refine lv_aload_n hx hb dX1_find_34 rfl (lv_at hl 0 rfl) ?_
          refine va_get (D := D) (ci := 1) (v := .ref qp) (C := RX1) (T := TX1) (N := 3) hx hb hAW iwX1 hown hK hP 0 rfl rfl 2 (by decide) (hAW _ q194) (fun _ h9 => h9) rfl dX1_find_35 ?_
          refine lv_iconst (v := 0) hx hb dX1_find_38 (by decide) ?_
          refine n_iald (D := D) (f := ((bfL K en pn en bs).2.2)) (i := 0) hx hb hK hP 3 0 rfl rfl (by omega) (by decide) dX1_find_39 ?_
          refine lv_goto (tgt := 44) hx hb dX1_find_40 (by decide) ?_
          refine lv_istore (lv' := [(5, .int (((bfL K en pn en bs).2.2) 0)), (0, .ref qj), (1, .ref qd), (2, .int (nI en)), (3, .int pn), (4, .ref qu)]) hx hb dX1_find_44 hl (by decide) rfl (fun ls hl => ?_)
          refine lv_iconst (v := 1) hx hb dX1_find_46 (by decide) ?_
          refine lv_istore (lv' := [(6, .int 1), (5, .int (((bfL K en pn en bs).2.2) 0)), (0, .ref qj), (1, .ref qd), (2, .int (nI en)), (3, .int pn), (4, .ref qu)]) hx hb dX1_find_47 hl (by decide) rfl (fun ls hl => ?_)
          exact L49 ((en - 1) + 1) (en - 1) 1 (((bfL K en pn en bs).2.2) 0) (cu_join cu) (by first | assumption | omega | rfl) (by rw [chT, if_neg (Nat.pos_iff_ne_zero.mp c31)]) (Nat.lt_succ_self _) _ _ hP hD hS ls (lv_sub hl [2, 3, 4, 5, 6, 1, 0] rfl)
      · skip
        obtain ⟨k, rfl⟩ : ∃ j, k = j + 1 := ⟨k - 1, by have := mt (km1_neg (k := k) (by omega)).mpr c7; omega⟩
        rw [bfL] at hq
        rw [nI_pred] at hl
        refine lv_aload_n hx hb dX1_find_10 rfl (lv_at hl 0 rfl) ?_
        refine lv_aload_n hx hb dX1_find_11 rfl (lv_at hl 1 rfl) ?_
        refine lv_iload hx hb dX1_find_12 (lv_at hl 5 rfl) ?_
        refine lv_iload_n hx hb dX1_find_14 rfl (lv_at hl 2 rfl) ?_
        refine lv_iload_n hx hb dX1_find_15 rfl (lv_at hl 3 rfl) ?_
        refine call_Vv (D := D) (rest := []) (ws' := [(qj, .inr (1, [.ref ql, .ref qo, .ref qp])), (ql, .inl (cI, 120, .inl ((ffT K en pn k u).1))), (qo, .inl (cI, 120, .inl ((ffT K en pn k u).2.1))), (qp, .inl (cI, 120, .inl ((ffT K en pn k u).2.2))), (qd, .inr (6, [.ref qe, .ref qf, .int (nI lr)])), (qe, .inl (cI, 7260, .inl K)), (qu, .inr (3, [.ref qv, .int cu.2.1, .int cu.2.2.1, .int (zb cu.2.2.2)])), (qv, .inl (cZ, 120, .inl (zbf cu.1)))]) (ad := [qj, ql, qo, qp, qd, qe]) (ad2 := [qj, ql, qo, qp, qd, qe, qu, qv]) hx hb hml hown hAW hN (c_X1_findFrom l D cI cZ qj ql qo qp u qd qe qf lr K k en pn (by omega) (by omega)) (cwVA 4 hAW q560 q562 q14 q28 q563 hd_X1_findFrom (by rw [hR]; exact Nat.le_of_ble_eq_true rfl) (by rw [hR]; exact Nat.le_of_ble_eq_true rfl) rfl rfl) hK hP hD hS hA [0, 1, 2, 3, 4, 5] rfl rfl rfl rfl rfl rfl (by decide +kernel) (ci := 1) (q0 := 0) rfl rfl rfl rfl hl.1 rfl (lv_room (Nat.le_of_ble_eq_true rfl)) dX1_find_16 (Nat.zero_le _) (Nat.zero_le _) (fun H locs hP hD hS => ?_)
        refine lv_iinc (v := (nI k - 1)) (lv' := [(5, .int (nI k - 1)), (0, .ref qj), (1, .ref qd), (2, .int (nI en)), (3, .int pn), (4, .ref qu)]) hx hb dX1_find_19 hl (k := 5) rfl (nI_m1 k) (by decide) rfl (fun ls hl => ?_)
        refine lv_goto (tgt := 5) hx hb dX1_find_22 (by decide) ?_
        exact ih5 k (ffT K en pn k u) (by first | assumption | omega | rfl) hq (by omega) _ _ hP hD hS ls (lv_sub hl [1, 2, 3, 4, 5, 0] rfl)
  exact L5 (en + 1) en bs (by first | assumption | omega | rfl) rfl (Nat.lt_succ_self _) _ _ hP hD hS ls (lv_sub hl [1, 2, 3, 4, 5, 0] rfl)
