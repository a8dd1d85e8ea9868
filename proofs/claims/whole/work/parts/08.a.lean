/-! the finder and the reference side by side: what holds between two calls -/
def RR (v : Nat → Int32) (n : Nat) (pn : Int32) (al : AlS) (ph : PhS) (sc : ScS) (lc : LcS) (bx bg : CuS) (tr : TrS) (pm : PmS) (tm : Nat → Bool) (kn : Bool) (K : Nat → Int32) : Prop :=
  (n ≤ 120 ∧ VB v ∧ al.2.2.2 ≤ 3 * n ∧ Rph ph pm n ∧ (∀ j, j < al.2.2.2 → al.1 j ≤ 2 ∧ al.2.1 j < n) ∧ tm = tr.1 ∧ (∀ k, n ≤ k → tr.1 k = false)) ∧
  (sc.2.2 ≤ n ∧ SC v sc.2.2 sc.1 ∧ lc.2 ≤ sc.2.2 ∧ LM sc.1 lc.2 lc.1 ∧ (kn = true → MC v n K)) ∧
  (bx.2.2.2 = true → sc.2.2 = n ∧ ∃ (bs0 : BsS) (cu0 : CuS), bx = cu_set sc.1 n pn (chT (bfL sc.1 n pn n bs0) n cu0)) ∧
  (bg.2.2.2 = true → sc.2.2 = n ∧ ∃ cu0 : CuS, bg = cu_set sc.1 n pn (ggT sc.1 n pn cu0))
section REL
variable {v : Nat → Int32} {n : Nat} {pn : Int32} {al : AlS} {ph : PhS} {sc : ScS} {lc : LcS} {bx bg : CuS} {tr : TrS} {pm : PmS} {tm : Nat → Bool} {kn : Bool} {K : Nat → Int32}
theorem RR.al360 (h : RR v n pn al ph sc lc bx bg tr pm tm kn K) : al.2.2.2 ≤ 360 := by
  have := h.1.1
  have := h.1.2.2.1
  omega
theorem RR.num (h : RR v n pn al ph sc lc bx bg tr pm tm kn K) : ∀ j, j < al.2.2.2 → al.2.1 j < 120 := fun j hj => by
  have := h.1.1
  have := (h.1.2.2.2.2.1 j hj).2
  omega
theorem RR.knd (h : RR v n pn al ph sc lc bx bg tr pm tm kn K) : ∀ j, j < al.2.2.2 → al.1 j ≤ 2 := fun j hj => (h.1.2.2.2.2.1 j hj).1
theorem RR.ph_n (h : RR v n pn al ph sc lc bx bg tr pm tm kn K) : ph.2.2.2.1 ≤ n := h.1.2.2.2.1.2.2.2.2.2.2.2.1
theorem RR.clear (h : RR v n pn al ph sc lc bx bg tr pm tm kn K) : RR v 0 pn (al.1, al.2.1, al.2.2.1, 0) (ph_anew ph) (sc.1, sc.2.1, 0) (lc.1, 0) (cu_off bx) (cu_off bg) (tr_off tr) (pm_anew pm) (offL 120 0 tm) false K := by
  obtain ⟨⟨a1, a2, a3, a4, a5, a6, a7⟩, -, -, -⟩ := h
  refine ⟨⟨by omega, a2, Nat.zero_le _, Rph_0 a4 0, fun j hj => absurd hj (Nat.not_lt_zero j), by rw [a6], fun k _ => ?_⟩, ⟨Nat.le_refl _, fun f t h1 h2 => absurd h2 (by show ¬ t ≤ 0; omega), Nat.le_refl _, fun c t h1 h2 => absurd h2 (by show ¬ t ≤ 0; omega), (fun z => by cases z)⟩, (fun z => by cases z), (fun z => by cases z)⟩
  show offL 120 0 tr.1 k = false
  by_cases c : k < 120
  · exact (offL_at 120 0 tr.1).1 k (Nat.zero_le _) (by omega)
  · rw [(offL_at 120 0 tr.1).2 k (Or.inr (by omega))]; exact a7 k (by omega)
theorem RR.sums (h : RR v n pn al ph sc lc bx bg tr pm tm kn K) (x y z : Int32) : RR v n pn al (ph_set ph x y z) sc lc bx bg tr ((x, y, z, 0, 0, 0, 0, (-1)) : PmS) tm kn K := by
  obtain ⟨⟨a1, a2, a3, a4, a5⟩, h2⟩ := h
  exact ⟨⟨a1, a2, a3, Rph_set (q := pm) x y z n, a5⟩, h2⟩
theorem RR.pen (h : RR v n pn al ph sc lc bx bg tr pm tm kn K) (x : Int32) : RR v n x al ph sc lc (cu_off bx) (cu_off bg) tr pm tm kn K :=
  ⟨h.1, h.2.1, (fun z => by cases z), (fun z => by cases z)⟩
theorem RR.mid (h : RR v n pn al ph sc lc bx bg tr pm tm kn K) (S : Nat → Int32) : RR v n pn al ph (sc.1, S, sc.2.2) lc bx bg tr pm tm kn K := h
theorem RR.trth (h : RR v n pn al ph sc lc bx bg tr pm tm kn K) (t2 : TrS) (e : t2.1 = tr.1) : RR v n pn al ph sc lc bx bg t2 pm tm kn K := by
  obtain ⟨⟨a1, a2, a3, a4, a5, a6, a7⟩, h2⟩ := h
  exact ⟨⟨a1, a2, a3, a4, a5, by rw [e]; exact a6, by rw [e]; exact a7⟩, h2⟩
theorem RR.tog (h : RR v n pn al ph sc lc bx bg tr pm tm kn K) {nu : Nat} (hn : nu < n) : RR v n pn al ph sc lc bx bg (updB tr.1 nu (!(tr.1 nu)), tr.2.1, tr.2.2.1, tr.2.2.2.1, tr.2.2.2.2) pm (updB tm nu (!(tm nu))) kn K := by
  obtain ⟨⟨a1, a2, a3, a4, a5, a6, a7⟩, h2⟩ := h
  refine ⟨⟨a1, a2, a3, a4, a5, by rw [a6], fun k hk => ?_⟩, h2⟩
  show updB tr.1 nu _ k = false
  rw [upB_ne (by omega)]; exact a7 k hk
def ALok (al : AlS) (n : Nat) : Prop := ∀ j, j < al.2.2.2 → al.1 j ≤ 2 ∧ al.2.1 j < n
theorem ALok.raise {k f : Nat} (h : ALok al (n + 1)) (hk : k ≤ 2) : ALok (al_raise al k n f) (n + 1) := by
  intro j hj
  have hj : j < al.2.2.2 + 1 := hj
  show updN al.1 al.2.2.2 k j ≤ 2 ∧ updN al.2.1 al.2.2.2 n j < n + 1
  by_cases e : j = al.2.2.2
  · subst e
    simp only [updN, if_true]
    exact ⟨hk, by omega⟩
  · simp only [updN, if_neg e]
    exact h j (by omega)
theorem ALok.csx {c : CsS} (h : ALok al (n + 1)) : ALok (cs_al c al n) (n + 1) := by
  unfold cs_al
  split
  · split
    · exact h
    · exact h.raise (by decide)
  · split
    · exact h.raise (by decide)
    · exact (h.raise (by decide)).raise (by decide)
theorem ALok.phx {c : PhS} (h : ALok al (n + 1)) : ALok (ph_al c al n) (n + 1) := by
  unfold ph_al
  split
  · exact h.raise (by decide)
  · exact h
theorem RR.take (h : RR v n pn al ph sc lc bx bg tr pm tm kn K) (cs : CsS) {x : Int32} (hn : n < 120) (hx : (-1000) ≤ x ∧ x ≤ 1000) (K' : Nat → Int32) :
    RR (upd v n x) (n + 1) pn (ph_al (ph_mv ph x n) (cs_al (cs_mv cs x n) al n) n) (ph_end (ph_mv ph x n)) sc lc (cu_off bx) (cu_off bg) tr (pm_end (pm_mv pm x n)) (updB tm n false) false K' := by
  obtain ⟨⟨a1, a2, a3, a4, a5, a6, a7⟩, ⟨b1, b2, b3, b4, b5⟩, -, -⟩ := h
  have hx2 := amt_ti hx
  refine ⟨⟨by omega, fun k => ?_, tk_cnt x a3, Rph_end (Rph_mv a4 hn hx2), ?_, ?_, fun k hk => a7 k (by omega)⟩, ⟨by omega, fun f t h1 h2 => ?_, b3, b4, (fun z => by cases z)⟩, (fun z => by cases z), (fun z => by cases z)⟩
  · by_cases e : k = n
    · subst e; rw [up_at]; exact hx2
    · rw [up_ne e]; exact a2 k
  · have h0 : ALok al (n + 1) := fun j hj => ⟨(a5 j hj).1, by have := (a5 j hj).2; omega⟩
    exact (h0.csx (c := cs_mv cs x n)).phx
  · funext k
    by_cases e : k = n
    · subst e; rw [upB_at]; exact (a7 k (Nat.le_refl _)).symm
    · rw [upB_ne e, a6]
  · exact (b2 f t h1 h2).v (fun k k1 k2 => (up_ne (by omega)).symm) (by omega)
theorem learn_eq (hs : sc.2.2 = n) : (sc_learn v n sc).1 = sc.1 := by
  show (learL v (n - sc.2.2) sc.2.2 sc.1 sc.2.1).1 = sc.1
  rw [hs, Nat.sub_self]
  rfl
theorem RR.learn (h : RR v n pn al ph sc lc bx bg tr pm tm kn K) : RR v n pn al ph (sc_learn v n sc) lc bx bg tr pm tm kn K := by
  obtain ⟨h1, ⟨b1, b2, b3, b4, b5⟩, h3, h4⟩ := h
  have hl := learL_ok h1.2.1 (n - sc.2.2) sc.2.2 sc.1 sc.2.1 (by have := h1.1; omega) b2
  rw [show sc.2.2 + (n - sc.2.2) = n by omega] at hl
  refine ⟨h1, ⟨Nat.le_refl _, hl.1, by show lc.2 ≤ n; omega, fun c t g1 g2 => ?_, b5⟩, fun z => ?_, fun z => ?_⟩
  · rw [b4 c t g1 g2]
    refine lsp_congr c t g1 (fun f s s1 s2 => ?_)
    have r := tri_row s1
    have r2 := tri_mono (show s ≤ sc.2.2 by omega)
    exact (hl.2 _ (by omega)).symm
  · obtain ⟨e, bs0, cu0, hb⟩ := h3 z
    refine ⟨rfl, bs0, cu0, ?_⟩
    rw [learn_eq e]; exact hb
  · obtain ⟨e, cu0, hb⟩ := h4 z
    refine ⟨rfl, cu0, ?_⟩
    rw [learn_eq e]; exact hb
theorem RR.wg (h : RR v n pn al ph sc lc bx bg tr pm tm kn K) (S : Nat → Int32) : RR v n pn al ph sc lc bx bg tr pm tm true (wgR kn v n K S).1 := by
  obtain ⟨h1, ⟨b1, b2, b3, b4, b5⟩, h3⟩ := h
  exact ⟨h1, ⟨b1, b2, b3, b4, fun _ => wgR_ok h1.2.1 h1.1 b5⟩, h3⟩
theorem RR.kk (h : RR v n pn al ph sc lc bx bg tr pm tm true K) (hs : sc.2.2 = n) : KK n sc.1 K ∧ KB n sc.1 := by
  obtain ⟨h1, ⟨b1, b2, b3, b4, b5⟩, -⟩ := h
  rw [hs] at b2
  refine ⟨fun f t g1 g2 => (b5 rfl f t g1 g2).uniq (b2 f t g1 g2), fun f t g1 g2 => ?_⟩
  have := (b2 f t g1 g2).2
  have := h1.1
  omega
theorem RR.bestx (h : RR v n pn al ph sc lc bx bg tr pm tm kn K) (bs : BsS) :
    RR v n pn al ph (if bx.2.2.2 = true then sc else sc_learn v n sc) lc (if bx.2.2.2 = true then bx else cu_set (sc_learn v n sc).1 n pn (chT (bfL (sc_learn v n sc).1 n pn n bs) n bx)) bg tr pm tm kn K ∧
    (if bx.2.2.2 = true then sc else sc_learn v n sc).2.2 = n ∧ ∃ (bs0 : BsS) (cu0 : CuS), (if bx.2.2.2 = true then bx else cu_set (sc_learn v n sc).1 n pn (chT (bfL (sc_learn v n sc).1 n pn n bs) n bx)) = cu_set (if bx.2.2.2 = true then sc else sc_learn v n sc).1 n pn (chT (bfL (if bx.2.2.2 = true then sc else sc_learn v n sc).1 n pn n bs0) n cu0) := by
  by_cases c : bx.2.2.2 = true
  · rw [if_pos c, if_pos c]
    obtain ⟨e, bs0, cu0, hb⟩ := h.2.2.1 c
    exact ⟨h, e, bs0, cu0, hb⟩
  · rw [if_neg c, if_neg c]
    obtain ⟨h1, h2, h3, h4⟩ := h.learn
    exact ⟨⟨h1, h2, fun _ => ⟨rfl, bs, bx, rfl⟩, h4⟩, rfl, bs, bx, rfl⟩
theorem RR.greedyx (h : RR v n pn al ph sc lc bx bg tr pm tm kn K) :
    RR v n pn al ph (if bg.2.2.2 = true then sc else sc_learn v n sc) lc bx (if bg.2.2.2 = true then bg else cu_set (sc_learn v n sc).1 n pn (ggT (sc_learn v n sc).1 n pn bg)) tr pm tm kn K ∧
    (if bg.2.2.2 = true then sc else sc_learn v n sc).2.2 = n ∧ ∃ cu0 : CuS, (if bg.2.2.2 = true then bg else cu_set (sc_learn v n sc).1 n pn (ggT (sc_learn v n sc).1 n pn bg)) = cu_set (if bg.2.2.2 = true then sc else sc_learn v n sc).1 n pn (ggT (if bg.2.2.2 = true then sc else sc_learn v n sc).1 n pn cu0) := by
  by_cases c : bg.2.2.2 = true
  · rw [if_pos c, if_pos c]
    obtain ⟨e, cu0, hb⟩ := h.2.2.2 c
    exact ⟨h, e, cu0, hb⟩
  · rw [if_neg c, if_neg c]
    obtain ⟨h1, h2, h3, h4⟩ := h.learn
    exact ⟨⟨h1, h2, h3, fun _ => ⟨rfl, bg, rfl⟩⟩, rfl, bg, rfl⟩
theorem RR.leastx (h : RR v n pn al ph sc lc bx bg tr pm tm true K) (hs : sc.2.2 = n) {c : Nat} (hc : c < n) (oo ot : Nat → Int32) :
    RR v n pn al ph sc (leaL sc.1 (n - lc.2) lc.2 lc.1, n) bx bg tr pm tm true K ∧ (lsL K n c (o1L K n 1 oo) ot).1 n = leaL sc.1 (n - lc.2) lc.2 lc.1 (tri (n - 1) + c) := by
  obtain ⟨k1, k2⟩ := h.kk hs
  obtain ⟨h1, ⟨b1, b2, b3, b4, b5⟩, h3⟩ := h
  have hL := leaL_ok (n - lc.2) lc.2 lc.1 b4
  rw [show lc.2 + (n - lc.2) = n by omega] at hL
  exact ⟨⟨h1, ⟨b1, b2, by show n ≤ sc.2.2; omega, hL, b5⟩, h3⟩, least_eq h1.1 k2 k1 b4 (by omega) hc oo ot⟩
end REL
/-! a run of values -/
abbrev RRb (b : BkS) (pm : PmS) (tm : Nat → Bool) (kn : Bool) (K : Nat → Int32) : Prop := RR (bkv b) (bkn b) (bkp b) (bka b) (bkh b) (bks b) (bkl b) (bkx b) (bky b) (bkt b) pm tm kn K
theorem RR_run {x y : Int32} {K : Nat → Int32} : ∀ (d i : Nat) (b : BkS) (pm : PmS) (tm : Nat → Bool), RRb b pm tm false K → bkn b + d ≤ 120 → (∀ j, i ≤ j → j < i + d → (-1000) ≤ x + y * nI j ∧ x + y * nI j ≤ 1000) →
    RRb (bk_run x y d i b) (pmL x y d i (bkn b) pm) (tmL d (bkn b) tm) false K ∧ bkp (bk_run x y d i b) = bkp b
  | 0, i, b, pm, tm, h, _, _ => ⟨h, rfl⟩
  | d + 1, i, b, pm, tm, h, hn, hx => by
    have h1 := RR.take h (bkc b) (by omega) (hx i (Nat.le_refl _) (by omega)) K
    exact RR_run d (i + 1) (bk_take b (x + y * nI i)) (pm_end (pm_mv pm (x + y * nI i) (bkn b))) (updB tm (bkn b) false) h1 (by show bkn b + 1 + d ≤ 120; omega) (fun j j1 j2 => hx j (by omega) (by omega))
