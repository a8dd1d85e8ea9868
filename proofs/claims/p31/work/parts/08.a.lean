/-! the finder between two calls: what holds of its values, alarms, sums, rows, cuttings, marks -/
theorem run_ok {x y : Int32} {ct i : Nat} (hx : (-1000) ≤ x ∧ x ≤ 1000) (hy : (-1000) ≤ y ∧ y ≤ 1000) (hc : ct ≤ 40) (hl : (-1000) ≤ x + y * (nI ct - 1) ∧ x + y * (nI ct - 1) ≤ 1000) (hi : i < ct) : (-1000) ≤ x + y * nI i ∧ x + y * nI i ≤ 1000 := by
  have hx' := amt_ti hx
  have hy' := amt_ti hy
  have hl' := amt_ti hl
  rw [show nI ct - 1 = nI (ct - 1) from pk_sub (b := 1) (by omega)] at hl'
  have key : ∀ j : Nat, j < 40 → (x + y * nI j).toInt = x.toInt + y.toInt * j ∧ -40000 ≤ y.toInt * j ∧ y.toInt * j ≤ 40000 := by
    intro j hj
    have hj2 := nI_toInt (n := j) (by omega)
    have b1 : y.toInt * (j : Int) ≤ 1000 * j := Int.mul_le_mul_of_nonneg_right hy'.2 (by omega)
    have b2 : (-1000) * (j : Int) ≤ y.toInt * j := Int.mul_le_mul_of_nonneg_right hy'.1 (by omega)
    have e1 : (y * nI j).toInt = y.toInt * j := by rw [ti_mul (by rw [hj2]; omega) (by rw [hj2]; omega), hj2]
    exact ⟨by rw [ti_add (by rw [e1]; omega) (by rw [e1]; omega), e1], by omega, by omega⟩
  obtain ⟨k1, -, -⟩ := key i (by omega)
  obtain ⟨k2, -, -⟩ := key (ct - 1) (by omega)
  rw [k2] at hl'
  apply ti_amt
  rw [k1]
  rcases Int.le_total 0 y.toInt with h | h
  · have b1 : y.toInt * (i : Int) ≤ y.toInt * ((ct - 1 : Nat) : Int) := Int.mul_le_mul_of_nonneg_left (by omega) h
    have b2 : 0 ≤ y.toInt * (i : Int) := Int.mul_nonneg h (by omega)
    omega
  · have b1 : y.toInt * ((ct - 1 : Nat) : Int) ≤ y.toInt * (i : Int) := Int.mul_le_mul_of_nonpos_left h (by omega)
    have b2 : y.toInt * (i : Int) ≤ 0 := Int.mul_nonpos_of_nonpos_of_nonneg h (by omega)
    omega
theorem lt_nI {x : Int32} {n : Nat} (hn : n < 2 ^ 30) (h : 0 ≤ x ∧ x < nI n) : ∃ j : Nat, j < n ∧ x = nI j := by
  obtain ⟨j, hj, rfl⟩ := nI_of (x := x) (by rw [i_lt]; have := (i_le _ _).mp h.1; omega)
  exact ⟨j, (nI_ltI hj (by omega)).mp h.2, rfl⟩
theorem le_nI {x : Int32} {n : Nat} (hn : n < 2 ^ 30) (h : 0 ≤ x ∧ x ≤ nI n) : ∃ j : Nat, j ≤ n ∧ x = nI j := by
  obtain ⟨j, hj, rfl⟩ := nI_of (x := x) (by rw [i_lt]; have := (i_le _ _).mp h.1; omega)
  exact ⟨j, (nI_leI hj (by omega)).mp h.2, rfl⟩
def PV (v : Nat → Int32) (n : Nat) (pn : Int32) (al : AlS) (cs : CsS) (ph : PhS) (tm : Nat → Bool) : Prop :=
  n ≤ 120 ∧ VB v ∧ (0 ≤ pn.toInt ∧ pn.toInt ≤ 100000) ∧ al.2.2.2 ≤ 3 * n ∧ Alp al n ∧ Csp cs n ∧ Php ph n ∧ ∀ k, n ≤ k → tm k = false
def PC (v : Nat → Int32) (n : Nat) (pn : Int32) (sc : ScS) (lc : LcS) (bx bg : CuS) : Prop :=
  (sc.2.2 ≤ n ∧ SC v sc.2.2 sc.1 ∧ lc.2 ≤ sc.2.2 ∧ LM sc.1 lc.2 lc.1) ∧ (bx.2.2.2 = true → BestOK v n pn bx) ∧ (bg.2.2.2 = true → GreedyOK v n pn bg)
section PVL
variable {v : Nat → Int32} {n : Nat} {pn : Int32} {al : AlS} {cs : CsS} {ph : PhS} {tm : Nat → Bool} {sc : ScS} {lc : LcS} {bx bg : CuS}
theorem PV.al360 (h : PV v n pn al cs ph tm) : al.2.2.2 ≤ 360 := by
  have := h.1
  have := h.2.2.2.1
  omega
theorem PV.num (h : PV v n pn al cs ph tm) : ∀ j, j < al.2.2.2 → al.2.1 j < 120 := fun j hj => by
  have := h.1
  have := (h.2.2.2.2.1.1 j hj).2.1
  omega
theorem PV.ph_n (h : PV v n pn al cs ph tm) : ph.2.2.2.1 ≤ n := h.2.2.2.2.2.2.1.2.2.2.1
theorem PV.clear (h : PV v n pn al cs ph tm) : PV v 0 pn (al.1, al.2.1, al.2.2.1, 0) (cs_anew cs) (ph_anew ph) (offL 120 0 tm) := by
  obtain ⟨a1, a2, a3, a4, a5, a6, a7, a8⟩ := h
  refine ⟨by omega, a2, a3, Nat.zero_le _, ⟨fun j hj => absurd hj (Nat.not_lt_zero j), fun j hj => absurd hj (Nat.not_lt_zero _)⟩, Csp_anew a6.1 0, Php_anew a7 0, fun k _ => ?_⟩
  by_cases c : k < 120
  · exact (offL_at 120 0 tm).1 k (Nat.zero_le _) (by omega)
  · rw [(offL_at 120 0 tm).2 k (Or.inr (by omega))]; exact a8 k (by omega)
theorem PV.sums (h : PV v n pn al cs ph tm) {x y z : Int32} (hz : 0 ≤ z) : PV v n pn al (cs_set cs x y z) ph tm := by
  obtain ⟨a1, a2, a3, a4, a5, a6, a7, a8⟩ := h
  exact ⟨a1, a2, a3, a4, a5, Csp_set _ _ _ _ _ (by have := (i_le _ _).mp hz; rw [i00] at this; exact this), a7, a8⟩
theorem PV.test (h : PV v n pn al cs ph tm) {x y z : Int32} (hx : 0 ≤ x ∧ x ≤ 1000) (hy : 0 ≤ y ∧ y ≤ 1000) (hz : 0 ≤ z) : PV v n pn al cs (ph_set ph x y z) tm := by
  obtain ⟨a1, a2, a3, a4, a5, a6, a7, a8⟩ := h
  have e : (1000 : Int32).toInt = 1000 := by decide
  simp only [i_le, i00, e] at hx hy hz
  exact ⟨a1, a2, a3, a4, a5, a6, Php_zero hx hy hz n, a8⟩
theorem PV.pen (h : PV v n pn al cs ph tm) {x : Int32} (hx : 0 ≤ x ∧ x ≤ 100000) : PV v n x al cs ph tm := by
  obtain ⟨a1, a2, a3, a4, a5, a6, a7, a8⟩ := h
  have e : (100000 : Int32).toInt = 100000 := by decide
  simp only [i_le, i00, e] at hx
  exact ⟨a1, a2, hx, a4, a5, a6, a7, a8⟩
theorem PV.tog (h : PV v n pn al cs ph tm) {nu : Nat} (hn : nu < n) (z : Bool) : PV v n pn al cs ph (updB tm nu z) := by
  obtain ⟨a1, a2, a3, a4, a5, a6, a7, a8⟩ := h
  exact ⟨a1, a2, a3, a4, a5, a6, a7, fun k hk => by rw [upB_ne (by omega)]; exact a8 k hk⟩
theorem PV.take (h : PV v n pn al cs ph tm) (hn : n < 120) {x : Int32} (hx : (-1000) ≤ x ∧ x ≤ 1000) : PV (upd v n x) (n + 1) pn (ph_al (ph_mv ph x n) (cs_al (cs_mv cs x n) al n) n) (cs_end (cs_mv cs x n)) (ph_end (ph_mv ph x n)) tm := by
  obtain ⟨a1, a2, a3, a4, a5, a6, a7, a8⟩ := h
  have hx2 := amt_ti hx
  have hm := Csp_mv a6 x
  refine ⟨by omega, fun k => ?_, a3, tk_cnt x a4, (Alq_ph hn a7 hx2 (Alq_cs hm (Alq_0 a5))).1, Csq_end hm, Php_end (Php_mv a7 hn hx2), fun k hk => a8 k (by omega)⟩
  by_cases e : k = n
  · subst e; rw [up_at]; exact hx2
  · rw [up_ne e]; exact a2 k
theorem PC.clear (h : PC v n pn sc lc bx bg) : PC v 0 pn (sc.1, sc.2.1, 0) (lc.1, 0) (cu_off bx) (cu_off bg) :=
  ⟨⟨Nat.le_refl _, fun f t h1 h2 => absurd h2 (by show ¬ t ≤ 0; omega), Nat.le_refl _, fun c t h1 h2 => absurd h2 (by show ¬ t ≤ 0; omega)⟩, (fun z => by cases z), (fun z => by cases z)⟩
theorem PC.off (h : PC v n pn sc lc bx bg) (x : Int32) : PC v n x sc lc (cu_off bx) (cu_off bg) := ⟨h.1, (fun z => by cases z), (fun z => by cases z)⟩
theorem PC.take (h : PC v n pn sc lc bx bg) (x : Int32) : PC (upd v n x) (n + 1) pn sc lc (cu_off bx) (cu_off bg) := by
  obtain ⟨⟨b1, b2, b3, b4⟩, -, -⟩ := h
  exact ⟨⟨by omega, fun f t h1 h2 => (b2 f t h1 h2).v (fun k k1 k2 => (up_ne (by omega)).symm) (by omega), b3, b4⟩, (fun z => by cases z), (fun z => by cases z)⟩
theorem PC.learn (h : PC v n pn sc lc bx bg) (hv : VB v) (hn : n ≤ 120) : PC v n pn (sc_learn v n sc) lc bx bg ∧ SC v n (sc_learn v n sc).1 := by
  obtain ⟨⟨b1, b2, b3, b4⟩, h3, h4⟩ := h
  have hl := learL_ok hv (n - sc.2.2) sc.2.2 sc.1 sc.2.1 (by omega) b2
  rw [show sc.2.2 + (n - sc.2.2) = n by omega] at hl
  refine ⟨⟨⟨Nat.le_refl _, hl.1, by show lc.2 ≤ n; omega, fun c t g1 g2 => ?_⟩, h3, h4⟩, hl.1⟩
  rw [b4 c t g1 g2]
  refine lsp_congr c t g1 (fun f s s1 s2 => (hl.2 _ ?_).symm)
  have h5 := tri_row s1
  have h6 := tri_mono (show s ≤ sc.2.2 by omega)
  omega
theorem PC.bestx (h : PC v n pn sc lc bx bg) (hv : VB v) (hn : n ≤ 120) (hp : 0 ≤ pn.toInt ∧ pn.toInt ≤ 100000) (bs : BsS) :
    PC v n pn (if bx.2.2.2 = true then sc else sc_learn v n sc) lc (if bx.2.2.2 = true then bx else cu_set (sc_learn v n sc).1 n pn (chT (bfL (sc_learn v n sc).1 n pn n bs) n bx)) bg ∧ (if bx.2.2.2 = true then bx else cu_set (sc_learn v n sc).1 n pn (chT (bfL (sc_learn v n sc).1 n pn n bs) n bx)).2.2.2 = true := by
  by_cases c : bx.2.2.2 = true
  · rw [if_pos c, if_pos c]; exact ⟨h, c⟩
  · rw [if_neg c, if_neg c]
    obtain ⟨h1, h2⟩ := h.learn hv hn
    exact ⟨⟨h1.1, fun _ => best_ok hn h2 hp bs bx, h1.2.2⟩, rfl⟩
theorem PC.greedyx (h : PC v n pn sc lc bx bg) (hv : VB v) (hn : n ≤ 120) (hp : 0 ≤ pn.toInt ∧ pn.toInt ≤ 100000) :
    PC v n pn (if bg.2.2.2 = true then sc else sc_learn v n sc) lc bx (if bg.2.2.2 = true then bg else cu_set (sc_learn v n sc).1 n pn (ggT (sc_learn v n sc).1 n pn bg)) ∧ (if bg.2.2.2 = true then bg else cu_set (sc_learn v n sc).1 n pn (ggT (sc_learn v n sc).1 n pn bg)).2.2.2 = true := by
  by_cases c : bg.2.2.2 = true
  · rw [if_pos c, if_pos c]; exact ⟨h, c⟩
  · rw [if_neg c, if_neg c]
    obtain ⟨h1, h2⟩ := h.learn hv hn
    exact ⟨⟨h1.1, h1.2.1, fun _ => greedy_ok hn h2 hp bg⟩, rfl⟩
theorem PC.least (h : PC v n pn sc lc bx bg) (hv : VB v) (hn : n ≤ 120) : PC v n pn (sc_learn v n sc) (leaL (sc_learn v n sc).1 (n - lc.2) lc.2 lc.1, n) bx bg ∧ ∀ c, c < n → ∀ K, SC v n K → (leaL (sc_learn v n sc).1 (n - lc.2) lc.2 lc.1) (tri (n - 1) + c) = lsp K c n := by
  obtain ⟨⟨⟨h1, h2, h3, h4⟩, h5⟩, h6⟩ := h.learn hv hn
  have h3 : lc.2 ≤ n := h3
  have hL := leaL_ok (n - lc.2) lc.2 lc.1 h4
  rw [show lc.2 + (n - lc.2) = n by omega] at hL
  refine ⟨⟨⟨h1, h2, Nat.le_refl _, hL⟩, h5⟩, fun c hc K hK => ?_⟩
  rw [hL c n hc (Nat.le_refl _)]
  exact lsp_congr c n hc (fun f s s1 s2 => by rw [SC_c h6 s1 s2, SC_c hK s1 s2])
end PVL
theorem matL_1 {al : AlS} {kd : Int32} {w : Nat} : ∀ (d j : Nat) (t : TrS), (matL al kd w d j t).1 = t.1
  | 0, _, _ => rfl
  | d + 1, j, t => by
    simp only [matL]
    split
    · rw [matL_1 d (j + 1)]
      unfold tr_one
      split <;> rfl
    · exact matL_1 d (j + 1) t
/-! a run of values -/
def PB (b : BkS) : Prop := PV (bkv b) (bkn b) (bkp b) (bka b) (bkc b) (bkh b) (bkt b).1 ∧ PC (bkv b) (bkn b) (bkp b) (bks b) (bkl b) (bkx b) (bky b)
theorem PB_take {b : BkS} (h : PB b) (hn : bkn b < 120) {x : Int32} (hx : (-1000) ≤ x ∧ x ≤ 1000) : PB (bk_take b x) := ⟨h.1.take hn hx, h.2.take x⟩
theorem PB_run {x y : Int32} : ∀ (d i : Nat) (b : BkS), PB b → bkn b + d ≤ 120 → (∀ j, i ≤ j → j < i + d → (-1000) ≤ x + y * nI j ∧ x + y * nI j ≤ 1000) →
    PB (bk_run x y d i b) ∧ bkn (bk_run x y d i b) = bkn b + d ∧ bkp (bk_run x y d i b) = bkp b ∧ (bkt (bk_run x y d i b)).1 = (bkt b).1 ∧
    ((bka b).2.2.2 ≤ (bka (bk_run x y d i b)).2.2.2 ∧ (∀ j, (bka b).2.2.2 ≤ j → j < (bka (bk_run x y d i b)).2.2.2 → bkn b ≤ (bka (bk_run x y d i b)).2.1 j) ∧ ∀ j, j < (bka b).2.2.2 → (bka (bk_run x y d i b)).2.1 j = (bka b).2.1 j) ∧
    (∀ k, k < d → bkv (bk_run x y d i b) (bkn b + k) = x + y * nI (i + k)) ∧ ∀ k, k < bkn b → bkv (bk_run x y d i b) k = bkv b k
  | 0, i, b, h, _, _ => ⟨h, rfl, rfl, rfl, ⟨Nat.le_refl _, fun j j1 j2 => absurd j1 (by show ¬ (bka b).2.2.2 ≤ j; have j2 : j < (bka b).2.2.2 := j2; omega), fun _ _ => rfl⟩, fun k hk => absurd hk (by omega), fun _ _ => rfl⟩
  | d + 1, i, b, h, hn, hx => by
    have h1 := PB_take h (by omega) (hx i (Nat.le_refl _) (by omega))
    obtain ⟨g1, g2, g3, g4, ⟨g5, g6, g7⟩, g8, g9⟩ := PB_run (x := x) (y := y) d (i + 1) (bk_take b (x + y * nI i)) h1 (by show bkn b + 1 + d ≤ 120; omega) (fun j j1 j2 => hx j (by omega) (by omega))
    have e : bk_run x y (d + 1) i b = bk_run x y d (i + 1) (bk_take b (x + y * nI i)) := rfl
    rw [e]
    obtain ⟨k1, k2, k3⟩ : Kp (bka b) (bka (bk_take b (x + y * nI i))) (bkn b) := Kp_take _ _ _ _
    have en : bkn (bk_take b (x + y * nI i)) = bkn b + 1 := rfl
    rw [en] at g2 g6 g8 g9
    refine ⟨g1, by rw [g2]; omega, g3, g4, ⟨by omega, fun j j1 j2 => ?_, fun j hj => ?_⟩, fun k hk => ?_, fun k hk => ?_⟩
    · by_cases c : j < (bka (bk_take b (x + y * nI i))).2.2.2
      · rw [g7 j c, k2 j j1 c]; exact Nat.le_refl _
      · have := g6 j (by omega) j2
        omega
    · rw [g7 j (by omega), k3 j hj]
    · cases k with
      | zero =>
        show bkv (bk_run x y d (i + 1) (bk_take b (x + y * nI i))) (bkn b) = x + y * nI i
        rw [g9 (bkn b) (by omega)]
        exact up_at _ _ _
      | succ k =>
        have := g8 k (by omega)
        rw [show bkn b + 1 + k = bkn b + (k + 1) by omega, show i + 1 + k = i + (k + 1) by omega] at this
        exact this
    · rw [g9 k (by omega)]
      exact up_ne (by omega)
