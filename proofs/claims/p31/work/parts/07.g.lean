/-! the best cutting: none is dearer -/
def InvB (l0 : Int32) (r : Int32 × Int32 × Int32) : Prop := r.1.toInt ≤ l0.toInt ∧ (l0.toInt = r.1.toInt → r.2.1.toInt ≤ 0)
theorem ffA_min {P U : Nat → Int32} {l0 : Int32} : ∀ (d i : Nat) (lp fc ea : Int32), InvB l0 (lp, fc, ea) → InvB l0 (ffA P U d i lp fc ea)
  | 0, _, _, _, _, h => h
  | d + 1, i, lp, fc, ea, h => by
    obtain ⟨h1, h2⟩ := h
    simp only at h1 h2
    simp only [ffA]
    by_cases c1 : P i < lp
    · rw [if_pos c1]
      rw [i_lt] at c1
      refine ffA_min d (i + 1) _ _ _ ⟨?_, fun z => ?_⟩
      · show (P i).toInt ≤ l0.toInt
        omega
      · have z : l0.toInt = (P i).toInt := z
        omega
    · rw [if_neg c1]
      by_cases c2 : P i = lp
      · rw [if_pos c2]
        by_cases c3 : fc ≤ U i
        · rw [if_pos c3]
          exact ffA_min d (i + 1) _ _ _ ⟨h1, h2⟩
        · rw [if_neg c3]
          rw [i_le] at c3
          refine ffA_min d (i + 1) _ _ _ ⟨?_, fun z => ?_⟩
          · show (P i).toInt ≤ l0.toInt
            rw [c2]; exact h1
          · have z : l0.toInt = (P i).toInt := z
            rw [c2] at z
            have := h2 z
            show (U i).toInt ≤ 0
            omega
      · rw [if_neg c2]
        exact ffA_min d (i + 1) _ _ _ ⟨h1, h2⟩
/-- none of a row's ways is dearer -/
def BSmin (K : Nat → Int32) (en : Nat) (pn : Int32) (bs : BsS) (f : Nat) : Prop :=
  ((bs.1 f).toInt ≤ (K (tri (en - 1) + f)).toInt ∧ ((K (tri (en - 1) + f)).toInt = (bs.1 f).toInt → kcN bs f = 0)) ∧
  ∀ j, f < j → j < en → (bs.1 f).toInt ≤ (K (tri (j - 1) + f) + pn + bs.1 j).toInt ∧ ((K (tri (j - 1) + f) + pn + bs.1 j).toInt = (bs.1 f).toInt → kcN bs f ≤ kcN bs j + 1)
theorem BSmin_congr {K : Nat → Int32} {en : Nat} {pn : Int32} {bs bs' : BsS} {f : Nat} (h : ∀ j, f ≤ j → bs.1 j = bs'.1 j ∧ bs.2.1 j = bs'.2.1 j ∧ bs.2.2 j = bs'.2.2 j) (H : BSmin K en pn bs f) : BSmin K en pn bs' f := by
  have ek : ∀ j, f ≤ j → kcN bs' j = kcN bs j := fun j hj => by unfold kcN; rw [(h j hj).2.1]
  obtain ⟨a1, a2⟩ := H
  unfold BSmin
  rw [ek f (Nat.le_refl _), ← (h f (Nat.le_refl _)).1]
  refine ⟨a1, fun j j1 j2 => ?_⟩
  rw [ek j (by omega), ← (h j (by omega)).1]
  exact a2 j j1 j2
theorem ffT_min {K : Nat → Int32} {en : Nat} {pn : Int32} {bs : BsS} {k : Nat} (hk : k < en) (he : en ≤ 120) (h : ∀ f, k < f → f < en → BSrow K en pn bs f ∧ BSmin K en pn bs f) : ∀ f, k ≤ f → f < en → BSrow K en pn (ffT K en pn k bs) f ∧ BSmin K en pn (ffT K en pn k bs) f := by
  intro f hf1 hf2
  refine ⟨ffT_ok hk he (fun f a b => (h f a b).1) f hf1 hf2, ?_⟩
  have same : ∀ j, k < j → (ffT K en pn k bs).1 j = bs.1 j ∧ (ffT K en pn k bs).2.1 j = bs.2.1 j ∧ (ffT K en pn k bs).2.2 j = bs.2.2 j := fun j hj => ⟨up_ne (by omega), up_ne (by omega), up_ne (by omega)⟩
  by_cases c : f = k
  · subst c
    have hr := ffT_ok hk he (fun f a b => (h f a b).1) f hf1 hf2
    have hI := ffA_ok (P := fun i => K (tri (i - 1) + f) + pn + bs.1 i) (U := fun i => 1 + bs.2.1 i) (fr := f) (l0 := K (tri (en - 1) + f)) (e0 := nI en) (en - (f + 1)) (f + 1) (K (tri (en - 1) + f)) 0 (nI en) (by omega) ⟨fun j j1 j2 => absurd j1 (by omega), Or.inl rfl⟩
    have hM := ffA_min (P := fun i => K (tri (i - 1) + f) + pn + bs.1 i) (U := fun i => 1 + bs.2.1 i) (l0 := K (tri (en - 1) + f)) (en - (f + 1)) (f + 1) (K (tri (en - 1) + f)) 0 (nI en) ⟨Int.le_refl _, fun _ => by show (0 : Int32).toInt ≤ 0; decide⟩
    rw [← ffL_A, show f + 1 + (en - (f + 1)) = en by omega] at hI
    rw [← ffL_A] at hM
    have er : ffL K f pn bs (en - (f + 1)) (f + 1) (K (tri (en - 1) + f)) 0 (nI en) = ffR K en pn f bs := rfl
    rw [er] at hI hM
    have g1 : (ffT K en pn f bs).1 f = (ffR K en pn f bs).1 := up_at _ _ _
    have g2 : (ffT K en pn f bs).2.1 f = (ffR K en pn f bs).2.1 := up_at _ _ _
    have hk5 := hr.2.2.2.2.1
    have ek : (ffR K en pn f bs).2.1.toInt = (kcN (ffT K en pn f bs) f : Int) := by
      rw [← g2, hr.2.1]
      exact nI_toInt (by omega)
    unfold BSmin
    rw [g1]
    refine ⟨⟨hM.1, fun z => ?_⟩, fun j j1 j2 => ?_⟩
    · have := hM.2 z
      omega
    · rw [(same j j1).1]
      obtain ⟨i1, i2⟩ := hI.1 j j1 j2
      refine ⟨i1, fun z => ?_⟩
      have i2 := i2 z
      have hj := h j j1 j2
      have kj := hj.1.2.2.2.2.1
      have ej : kcN (ffT K en pn f bs) j = kcN bs j := by unfold kcN; rw [(same j j1).2.1]
      have ke : (1 + bs.2.1 j).toInt = (kcN bs j : Int) + 1 := by
        rw [hj.1.2.1, Int32.add_comm, nI_1]
        have := nI_toInt (n := kcN bs j + 1) (by omega)
        omega
      rw [ej]
      have i2 : (ffR K en pn f bs).2.1.toInt ≤ (1 + bs.2.1 j).toInt := i2
      omega
  · exact BSmin_congr (fun j hj => by
      have := same j (by omega)
      exact ⟨this.1.symm, this.2.1.symm, this.2.2.symm⟩) (h f (by omega) hf2).2
theorem bfL_min {K : Nat → Int32} {en : Nat} {pn : Int32} (he : en ≤ 120) : ∀ (k : Nat) (bs : BsS), k ≤ en → (∀ f, k ≤ f → f < en → BSrow K en pn bs f ∧ BSmin K en pn bs f) → ∀ f, f < en → BSrow K en pn (bfL K en pn k bs) f ∧ BSmin K en pn (bfL K en pn k bs) f
  | 0, bs, _, h => fun f hf => h f (Nat.zero_le _) hf
  | k + 1, bs, hk, h => bfL_min he k (ffT K en pn k bs) (by omega) (ffT_min (by omega) he (fun f f1 f2 => h f f1 f2))
section BEST
variable {v : Nat → Int32} {K : Nat → Int32} {n : Nat} {pn : Int32} {bs : BsS}
theorem bs_bd (hn : n ≤ 120) (hK : SC v n K) (hp : 0 ≤ pn.toInt ∧ pn.toInt ≤ 100000) (hB : ∀ f, f < n → BSrow K n pn bs f ∧ BSmin K n pn bs f) : ∀ d f, f + d = n → f < n → 0 ≤ (bs.1 f).toInt ∧ (bs.1 f).toInt ≤ 240000 := by
  intro d
  induction d using Nat.strongRecOn with
  | ind d ih =>
    intro f hd hf
    obtain ⟨⟨a1, a2, a3, a4, a5, a6, a7⟩, b1, b2⟩ := hB f hf
    have hk := KB_of hn hK f n hf (Nat.le_refl _)
    refine ⟨?_, by omega⟩
    by_cases c : nxN bs f = n
    · rw [(a6 c).2]; exact hk.1
    · have h9 := ih (n - nxN bs f) (by omega) (nxN bs f) (by omega) (by omega)
      have h8 := KB_of hn hK f (nxN bs f) a3 a4
      obtain ⟨-, e, -⟩ := a7 (by omega)
      rw [e]
      have e1 : (K (tri (nxN bs f - 1) + f) + pn).toInt = (K (tri (nxN bs f - 1) + f)).toInt + pn.toInt := ti_add (by omega) (by omega)
      rw [ti_add (by omega) (by omega), e1]
      omega
theorem bs_term (hn : n ≤ 120) (hK : SC v n K) (hp : 0 ≤ pn.toInt ∧ pn.toInt ≤ 100000) (hB : ∀ f, f < n → BSrow K n pn bs f ∧ BSmin K n pn bs f) {f j : Nat} (h1 : f < j) (h2 : j < n) : (K (tri (j - 1) + f) + pn + bs.1 j).toInt = cI v f j + pn.toInt + (bs.1 j).toInt := by
  have h9 := bs_bd hn hK hp hB (n - j) j (by omega) h2
  have h8 := KB_of hn hK f j h1 (by omega)
  have e1 : (K (tri (j - 1) + f) + pn).toInt = (K (tri (j - 1) + f)).toInt + pn.toInt := ti_add (by omega) (by omega)
  rw [ti_add (by omega) (by omega), e1, SC_c hK h1 (by omega)]
  rfl
theorem best_lo (hn : n ≤ 120) (hK : SC v n K) (hp : 0 ≤ pn.toInt ∧ pn.toInt ≤ 100000) (hB : ∀ f, f < n → BSrow K n pn bs f ∧ BSmin K n pn bs f) {P : Nat → Nat} {k : Nat} (hP : Chn P k n) : ∀ d i, i + d = k → (bs.1 (P i)).toInt ≤ sX v P d i + (d : Int) * pn.toInt ∧ (sX v P d i + (d : Int) * pn.toInt = (bs.1 (P i)).toInt → kcN bs (P i) ≤ d)
  | 0, i, hi => by
    have hl := hP.2.2 i (by omega)
    have hr : P (i + 1) = n := by rw [show i + 1 = k + 1 by omega]; exact hP.2.1
    rw [hr] at hl
    obtain ⟨-, ⟨b1, b2⟩, -⟩ := hB (P i) hl
    have e : (K (tri (n - 1) + P i)).toInt = cI v (P i) n := by rw [SC_c hK hl (Nat.le_refl _)]; rfl
    show _ ≤ cI v (P i) (P (i + 1)) + ((0 : Nat) : Int) * pn.toInt ∧ (cI v (P i) (P (i + 1)) + ((0 : Nat) : Int) * pn.toInt = _ → _)
    rw [hr]
    rw [e] at b1 b2
    rw [show ((0 : Nat) : Int) * pn.toInt = 0 from Int.zero_mul _, Int.add_zero]
    exact ⟨b1, fun z => by rw [b2 z]; exact Nat.le_refl _⟩
  | d + 1, i, hi => by
    have hl := hP.2.2 i (by omega)
    have hl2 := hP.2.2 (i + 1) (by omega)
    have hn2 := Chn_le hP (show i + 2 ≤ k + 1 by omega)
    have hl2 : P (i + 1) < P (i + 2) := hl2
    obtain ⟨-, -, b2⟩ := hB (P i) (by omega)
    obtain ⟨c1, c2⟩ := b2 (P (i + 1)) hl (by omega)
    rw [bs_term hn hK hp hB hl (by omega)] at c1 c2
    obtain ⟨d1, d2⟩ := best_lo hn hK hp hB hP d (i + 1) (by omega)
    have es : sX v P (d + 1) i = cI v (P i) (P (i + 1)) + sX v P d (i + 1) := rfl
    have ep : ((d + 1 : Nat) : Int) * pn.toInt = (d : Int) * pn.toInt + pn.toInt := by rw [Int.natCast_succ, Int.add_mul, Int.one_mul]
    rw [es, ep]
    refine ⟨by omega, fun z => ?_⟩
    have g1 := c2 (by omega)
    have g2 := d2 (by omega)
    omega
/-- the row of numbers that a search tells, from f on -/
def chP (nx : Nat → Nat) (f : Nat) : Nat → Nat
  | 0 => f
  | j + 1 => chN nx j f
theorem chP_next (nx : Nat → Nat) (f j : Nat) : chP nx f (j + 1) = chP nx (nx f) j := by
  cases j <;> rfl
theorem GCh_up {nx : Nat → Nat} {en : Nat} {G : Nat → Bool} (hx : ∀ f, f < en → f < nx f) : ∀ k f, f < en → GCh nx en G k f → chP nx f (k + 1) = en ∧ ∀ i, i ≤ k → chP nx f i < chP nx f (i + 1)
  | 0, f, hf, h => ⟨h.1, fun i hi => by
      obtain rfl : i = 0 := by omega
      exact hx f hf⟩
  | k + 1, f, hf, h => by
    have ih := GCh_up hx k (nx f) h.1 h.2.2.2
    refine ⟨by rw [chP_next]; exact ih.1, fun i hi => ?_⟩
    cases i with
    | zero => exact hx f hf
    | succ i => rw [chP_next, chP_next]; exact ih.2 i (by omega)
theorem GCh_Chn {nx : Nat → Nat} {G : Nat → Bool} {k : Nat} (hx : ∀ f, f < n → f < nx f) (h0 : 0 < n) (h : GCh nx n G k 0) : Chn (chP nx 0) k n :=
  ⟨rfl, (GCh_up hx k 0 h0 h).1, (GCh_up hx k 0 h0 h).2⟩
theorem setL_ch (hn : n ≤ 120) (hK : SC v n K) {nx : Nat → Nat} {G : Nat → Bool} (hx : ∀ f, f < n → f < nx f) : ∀ (k f : Nat) (pr : Int32), f < n → GCh nx n G k f → 0 ≤ pr.toInt → pr.toInt + 240000 * ((k + 1 : Nat) : Int) < 2147483648 → (setL K G n (n - f) (f + 1) f pr).toInt = pr.toInt + sX v (chP nx f) k 0
  | 0, f, pr, hf, h, p1, p2 => by
    have hk := KB_of hn hK f n hf (Nat.le_refl _)
    rw [show n - f = (n - f - 1) + 1 by omega, setL_skip (n - f - 1) (f + 1) (fun j j1 j2 => ⟨h.2 j (by omega) (by omega), by omega⟩), show f + 1 + (n - f - 1) = n by omega]
    simp only [setL]
    rw [if_pos trivial, ti_add (by omega) (by omega)]
    show _ = _ + cI v f (nx f)
    rw [h.1, SC_c hK hf (Nat.le_refl _)]
    rfl
  | k + 1, f, pr, hf, h, p1, p2 => by
    obtain ⟨h1, h2, h3, h4⟩ := h
    have hl := hx f hf
    have hk := KB_of hn hK f (nx f) hl (by omega)
    rw [show n - f = (nx f - f - 1) + ((n - nx f) + 1) by omega, setL_skip (nx f - f - 1) (f + 1) (fun j j1 j2 => ⟨h2 j (by omega) (by omega), by omega⟩), show f + 1 + (nx f - f - 1) = nx f by omega]
    simp only [setL]
    rw [if_neg (by omega), if_pos h3]
    have e : (pr + K (tri (nx f - 1) + f)).toInt = pr.toInt + (K (tri (nx f - 1) + f)).toInt := ti_add (by omega) (by omega)
    rw [setL_ch hn hK hx k (nx f) (pr + K (tri (nx f - 1) + f)) h1 h4 (by omega) (by omega), e]
    show _ = _ + (cI v f (chP nx f 1) + sX v (chP nx f) k 1)
    have es : sX v (chP nx f) k 1 = sX v (chP nx (nx f)) k 0 := sX_shift k 1 0 (fun m _ => by rw [Nat.add_comm 1 m, chP_next, Nat.zero_add])
    rw [es, SC_c hK hl (by omega)]
    show _ = _ + (cI v f (nx f) + _)
    unfold cI
    omega
theorem bs_sum (hn : n ≤ 120) (hK : SC v n K) (hp : 0 ≤ pn.toInt ∧ pn.toInt ≤ 100000) (hB : ∀ f, f < n → BSrow K n pn bs f ∧ BSmin K n pn bs f) : ∀ (d f : Nat), f < n → kcN bs f = d → (bs.1 f).toInt = sX v (chP (nxN bs) f) d 0 + (d : Int) * pn.toInt
  | 0, f, hf, hd => by
    obtain ⟨⟨a1, a2, a3, a4, a5, a6, a7⟩, -⟩ := hB f hf
    have e : nxN bs f = n := by
      by_cases c : nxN bs f = n
      · exact c
      · have := (a7 (by omega)).1
        omega
    rw [(a6 e).2, SC_c hK hf (Nat.le_refl _)]
    show _ = cI v f (nxN bs f) + ((0 : Nat) : Int) * pn.toInt
    rw [e, show ((0 : Nat) : Int) * pn.toInt = 0 from Int.zero_mul _, Int.add_zero]
    rfl
  | d + 1, f, hf, hd => by
    obtain ⟨⟨a1, a2, a3, a4, a5, a6, a7⟩, -⟩ := hB f hf
    have c : nxN bs f < n := by
      by_cases c : nxN bs f = n
      · have := (a6 c).1
        omega
      · omega
    obtain ⟨b1, b2, -⟩ := a7 c
    rw [b2, bs_term hn hK hp hB a3 c, bs_sum hn hK hp hB d (nxN bs f) c (by omega)]
    show _ = cI v f (nxN bs f) + sX v (chP (nxN bs) f) d 1 + _
    have es : sX v (chP (nxN bs) f) d 1 = sX v (chP (nxN bs) (nxN bs f)) d 0 := sX_shift d 1 0 (fun m _ => by rw [Nat.add_comm 1 m, chP_next, Nat.zero_add])
    rw [es, Int.natCast_succ, Int.add_mul, Int.one_mul]
    omega
end BEST
/-- what a cutting says: its changes in order, its cost -/
def CutOK (v : Nat → Int32) (n : Nat) (pn : Int32) (w : CuS) (k : Nat) (P : Nat → Nat) : Prop :=
  Chn P k n ∧ w.2.1 = nI k ∧ (∀ j, j < k → naL w.1 (nI j) 120 0 0 = nI (P (j + 1))) ∧ w.2.2.1.toInt = sX v P k 0 + (k : Int) * pn.toInt
def BestOK (v : Nat → Int32) (n : Nat) (pn : Int32) (w : CuS) : Prop :=
  (n = 0 → w.2.1 = 0 ∧ w.2.2.1 = 0) ∧ (0 < n → ∃ k P, CutOK v n pn w k P ∧ ∀ k' P', Chn P' k' n → w.2.2.1.toInt ≤ sX v P' k' 0 + (k' : Int) * pn.toInt ∧ (sX v P' k' 0 + (k' : Int) * pn.toInt = w.2.2.1.toInt → k ≤ k'))
theorem pn_mul {pn : Int32} (hp : 0 ≤ pn.toInt ∧ pn.toInt ≤ 100000) {k : Nat} (hk : k < 120) : (nI k * pn).toInt = (k : Int) * pn.toInt ∧ 0 ≤ (k : Int) * pn.toInt ∧ (k : Int) * pn.toInt ≤ 12000000 := by
  have h1 : 0 ≤ (k : Int) * pn.toInt := Int.mul_nonneg (by omega) hp.1
  have h2 : (k : Int) * pn.toInt ≤ 120 * 100000 := Int.mul_le_mul (by omega) hp.2 hp.1 (by omega)
  have e := nI_toInt (n := k) (by omega)
  refine ⟨?_, h1, by omega⟩
  rw [ti_mul (by rw [e]; omega) (by rw [e]; omega), e]
theorem cut_ok {v : Nat → Int32} {K : Nat → Int32} {n : Nat} {pn : Int32} (hn : n ≤ 120) (h0 : 0 < n) (hK : SC v n K) (hp : 0 ≤ pn.toInt ∧ pn.toInt ≤ 100000) {w : CuS} {nx : Nat → Nat} {k : Nat} (hx : ∀ f, f < n → f < nx f) (hG : GCh nx n w.1 k 0) (hw : w.1 0 = false) (hc : w.2.1 = nI k) : CutOK v n pn (cu_set K n pn w) k (chP nx 0) := by
  have hC := GCh_Chn hx h0 hG
  have hk : k < 120 := by have := Chn_lt hC; omega
  have hm := pn_mul hp hk
  refine ⟨hC, hc, fun j hj => ?_, ?_⟩
  · have := naL_ok hn hx k 0 0 j h0 (by omega) hG hj
    rw [Nat.zero_add] at this
    show naL w.1 (nI j) 120 0 0 = _
    rw [show (120 : Nat) = 1 + 119 by omega, naL_skip 1 0 (fun i i1 i2 => by obtain rfl : i = 0 := by omega
                                                                             exact hw)]
    exact this
  · show (setL K w.1 n n 1 0 (w.2.1 * pn)).toInt = _
    have := setL_ch hn hK hx k 0 (w.2.1 * pn) h0 hG (by rw [hc, hm.1]; exact hm.2.1) (by rw [hc, hm.1]; omega)
    rw [Nat.sub_zero, Nat.zero_add] at this
    rw [this, hc, hm.1]
    omega
theorem best_ok {v : Nat → Int32} {K : Nat → Int32} {n : Nat} {pn : Int32} (hn : n ≤ 120) (hK : SC v n K) (hp : 0 ≤ pn.toInt ∧ pn.toInt ≤ 100000) (bs0 : BsS) (cu0 : CuS) : BestOK v n pn (cu_set K n pn (chT (bfL K n pn n bs0) n cu0)) := by
  have hB := bfL_min (K := K) (pn := pn) hn n bs0 (Nat.le_refl _) (fun f f1 f2 => absurd f1 (by omega))
  generalize bfL K n pn n bs0 = bs at *
  refine ⟨fun h0 => ?_, fun h0 => ?_⟩
  · subst h0
    refine ⟨rfl, ?_⟩
    show (0 : Int32) * pn = 0
    rw [Int32.zero_mul]
  · have hr := (hB 0 h0).1
    have ec : chT bs n cu0 = chL bs (n - 1) 1 (nI (nxN bs 0)) (cu_join cu0) := by
      unfold chT
      rw [if_neg (by omega), hr.1]
    have hoff : ∀ j, j < 120 → (cu_join cu0).1 j = false := fun j hj => (offL_at 120 0 cu0.1).1 j (Nat.zero_le _) (by omega)
    have hj := chL_ok hn (fun f hf => (hB f hf).1) (n - 1) 1 0 (cu_join cu0) (by omega) (by omega) h0 hr.2.2.1 (fun j j1 j2 => hoff j (by omega))
    rw [← ec] at hj
    obtain ⟨g1, g2, g3⟩ := hj
    have g3 : (chT bs n cu0).2.1 = nI (kcN bs 0) := by rw [g3]; show (0 : Int32) + _ = _; rw [Int32.zero_add]
    have e0 : (chT bs n cu0).1 0 = false := by rw [g2 0 (Or.inl (Nat.le_refl _))]; exact hoff 0 (by omega)
    have hcut := cut_ok hn h0 hK hp (fun f hf => (hB f hf).1.2.2.1) g1 e0 g3
    have hsum := bs_sum hn hK hp hB (kcN bs 0) 0 h0 rfl
    refine ⟨_, _, hcut, fun k' P' hP' => ?_⟩
    have hlo := best_lo hn hK hp hB hP' k' 0 (by omega)
    rw [hP'.1] at hlo
    rw [hcut.2.2.2, ← hsum]
    exact hlo
