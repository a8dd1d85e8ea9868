/-! the best cutting: both sides -/
def ffA (P U : Nat → Int32) : Nat → Nat → Int32 → Int32 → Int32 → Int32 × Int32 × Int32
  | 0, _, lp, fc, ea => (lp, fc, ea)
  | d + 1, i, lp, fc, ea => if P i < lp then ffA P U d (i + 1) (P i) (U i) (nI i) else if P i = lp then (if fc ≤ U i then ffA P U d (i + 1) lp fc ea else ffA P U d (i + 1) (P i) (U i) (nI i)) else ffA P U d (i + 1) lp fc ea
theorem ffL_A (K : Nat → Int32) (fr : Nat) (pn : Int32) (bs : BsS) : ∀ (d i : Nat) (lp fc ea : Int32), ffL K fr pn bs d i lp fc ea = ffA (fun i => K (tri (i - 1) + fr) + pn + bs.1 i) (fun i => 1 + bs.2.1 i) d i lp fc ea
  | 0, _, _, _, _ => rfl
  | d + 1, i, lp, fc, ea => by
    simp only [ffL, ffA]
    rw [ffL_A K fr pn bs d (i + 1), ffL_A K fr pn bs d (i + 1)]
def InvA (P U : Nat → Int32) (fr : Nat) (l0 e0 : Int32) (i : Nat) (r : Int32 × Int32 × Int32) : Prop :=
  (∀ j, fr < j → j < i → r.1.toInt ≤ (P j).toInt ∧ ((P j).toInt = r.1.toInt → r.2.1.toInt ≤ (U j).toInt)) ∧
  (r = (l0, 0, e0) ∨ ∃ e, fr < e ∧ e < i ∧ r = (P e, U e, nI e) ∧ ∀ j, fr < j → j < e → ¬ ((P j).toInt = (P e).toInt ∧ (U j).toInt = (U e).toInt))
theorem ffA_ok {P U : Nat → Int32} {fr : Nat} {l0 e0 : Int32} : ∀ (d i : Nat) (lp fc ea : Int32), fr < i → InvA P U fr l0 e0 i (lp, fc, ea) → InvA P U fr l0 e0 (i + d) (ffA P U d i lp fc ea)
  | 0, i, lp, fc, ea, _, h => h
  | d + 1, i, lp, fc, ea, hi, h => by
    obtain ⟨h1, h2⟩ := h
    simp only at h1
    simp only [ffA]
    rw [show i + (d + 1) = i + 1 + d by omega]
    have keep : (lp.toInt ≤ (P i).toInt ∧ ((P i).toInt = lp.toInt → fc.toInt ≤ (U i).toInt)) → InvA P U fr l0 e0 (i + 1) (lp, fc, ea) := by
      intro hk
      refine ⟨fun j j1 j2 => ?_, ?_⟩
      · by_cases e : j = i
        · subst e; exact hk
        · exact h1 j j1 (by omega)
      · rcases h2 with h2 | ⟨e, e1, e2, e3, e4⟩
        · exact Or.inl h2
        · exact Or.inr ⟨e, e1, by omega, e3, e4⟩
    have new : ((P i).toInt < lp.toInt ∨ ((P i).toInt = lp.toInt ∧ (U i).toInt < fc.toInt)) → InvA P U fr l0 e0 (i + 1) (P i, U i, nI i) := by
      intro hk
      refine ⟨fun j j1 j2 => ?_, Or.inr ⟨i, hi, by omega, rfl, fun j j1 j2 => ?_⟩⟩
      · by_cases e : j = i
        · subst e; exact ⟨Int.le_refl _, fun _ => Int.le_refl _⟩
        · have := h1 j j1 (by omega)
          show (P i).toInt ≤ _ ∧ (_ → (U i).toInt ≤ _)
          refine ⟨by omega, fun z => ?_⟩
          have z : (P j).toInt = (P i).toInt := z
          have := this.2
          omega
      · have g := h1 j j1 j2
        have g2 := g.2
        rintro ⟨z1, z2⟩
        omega
    by_cases c1 : P i < lp
    · rw [if_pos c1]
      exact ffA_ok d (i + 1) _ _ _ (by omega) (new (Or.inl ((i_lt _ _).mp c1)))
    · rw [if_neg c1]
      rw [i_lt] at c1
      by_cases c2 : P i = lp
      · rw [if_pos c2]
        by_cases c3 : fc ≤ U i
        · rw [if_pos c3]
          exact ffA_ok d (i + 1) _ _ _ (by omega) (keep ⟨by omega, fun _ => (i_le _ _).mp c3⟩)
        · rw [if_neg c3]
          rw [i_le] at c3
          exact ffA_ok d (i + 1) _ _ _ (by omega) (new (Or.inr ⟨(i_eq _ _).mp c2, by omega⟩))
      · rw [if_neg c2]
        rw [i_eq] at c2
        exact ffA_ok d (i + 1) _ _ _ (by omega) (keep ⟨by omega, fun z => absurd z c2⟩)
def nxN (bs : BsS) (f : Nat) : Nat := (bs.2.2 f).toNatClampNeg
def kcN (bs : BsS) (f : Nat) : Nat := (bs.2.1 f).toNatClampNeg
/-- what a row of the search says -/
def BSrow (K : Nat → Int32) (en : Nat) (pn : Int32) (bs : BsS) (f : Nat) : Prop :=
  bs.2.2 f = nI (nxN bs f) ∧ bs.2.1 f = nI (kcN bs f) ∧ f < nxN bs f ∧ nxN bs f ≤ en ∧ kcN bs f < en - f ∧
  (nxN bs f = en → kcN bs f = 0 ∧ bs.1 f = K (tri (en - 1) + f)) ∧
  (nxN bs f < en → kcN bs f = kcN bs (nxN bs f) + 1 ∧ bs.1 f = K (tri (nxN bs f - 1) + f) + pn + bs.1 (nxN bs f) ∧ ∀ j, f < j → j < nxN bs f → ¬ ((K (tri (j - 1) + f) + pn + bs.1 j).toInt = (bs.1 f).toInt ∧ (1 + bs.2.1 j).toInt = (bs.2.1 f).toInt))
theorem BSrow_congr {K : Nat → Int32} {en : Nat} {pn : Int32} {bs bs' : BsS} {f : Nat} (h : ∀ j, f ≤ j → bs.1 j = bs'.1 j ∧ bs.2.1 j = bs'.2.1 j ∧ bs.2.2 j = bs'.2.2 j) (H : BSrow K en pn bs f) : BSrow K en pn bs' f := by
  have en' : nxN bs' f = nxN bs f := by unfold nxN; rw [(h f (Nat.le_refl _)).2.2]
  have ek : ∀ j, f ≤ j → kcN bs' j = kcN bs j := fun j hj => by unfold kcN; rw [(h j hj).2.1]
  obtain ⟨a1, a2, a3, a4, a5, a6, a7⟩ := H
  have h0 := h f (Nat.le_refl _)
  unfold BSrow
  rw [en', ek f (Nat.le_refl _), ← h0.1, ← h0.2.1, ← h0.2.2]
  refine ⟨a1, a2, a3, a4, a5, a6, fun z => ?_⟩
  obtain ⟨b1, b2, b3⟩ := a7 z
  have hn := h (nxN bs f) (by omega)
  rw [ek _ (by omega), ← hn.1]
  refine ⟨b1, b2, fun j j1 j2 => ?_⟩
  have hj := h j (by omega)
  rw [← hj.1, ← hj.2.1]
  exact b3 j j1 j2
theorem ffT_ok {K : Nat → Int32} {en : Nat} {pn : Int32} {bs : BsS} {k : Nat} (hk : k < en) (he : en ≤ 120) (h : ∀ f, k < f → f < en → BSrow K en pn bs f) : ∀ f, k ≤ f → f < en → BSrow K en pn (ffT K en pn k bs) f := by
  intro f hf1 hf2
  have same : ∀ j, k < j → (ffT K en pn k bs).1 j = bs.1 j ∧ (ffT K en pn k bs).2.1 j = bs.2.1 j ∧ (ffT K en pn k bs).2.2 j = bs.2.2 j := fun j hj => ⟨up_ne (by omega), up_ne (by omega), up_ne (by omega)⟩
  by_cases c : f = k
  · subst c
    have hI := ffA_ok (P := fun i => K (tri (i - 1) + f) + pn + bs.1 i) (U := fun i => 1 + bs.2.1 i) (fr := f) (l0 := K (tri (en - 1) + f)) (e0 := nI en) (en - (f + 1)) (f + 1) (K (tri (en - 1) + f)) 0 (nI en) (by omega) ⟨fun j j1 j2 => absurd j1 (by omega), Or.inl rfl⟩
    rw [← ffL_A, show f + 1 + (en - (f + 1)) = en by omega] at hI
    have er : ffL K f pn bs (en - (f + 1)) (f + 1) (K (tri (en - 1) + f)) 0 (nI en) = ffR K en pn f bs := rfl
    rw [er] at hI
    have g1 : (ffT K en pn f bs).1 f = (ffR K en pn f bs).1 := up_at _ _ _
    have g2 : (ffT K en pn f bs).2.1 f = (ffR K en pn f bs).2.1 := up_at _ _ _
    have g3 : (ffT K en pn f bs).2.2 f = (ffR K en pn f bs).2.2 := up_at _ _ _
    obtain ⟨i1, i2⟩ := hI
    rcases i2 with i2 | ⟨e, e1, e2, e3, e4⟩
    · rw [i2] at g1 g2 g3
      simp only at g1 g2 g3
      have n1 : nxN (ffT K en pn f bs) f = en := by unfold nxN; rw [g3, nI_clamp (by omega)]
      have n2 : kcN (ffT K en pn f bs) f = 0 := by unfold kcN; rw [g2]; decide
      unfold BSrow
      rw [n1, n2, g1, g2, g3]
      exact ⟨rfl, rfl, hf2, Nat.le_refl _, by omega, fun _ => ⟨rfl, rfl⟩, fun z => absurd z (by omega)⟩
    · rw [e3] at g1 g2 g3
      simp only at g1 g2 g3
      have hr := h e e1 e2
      have ke : 1 + bs.2.1 e = nI (kcN bs e + 1) := by rw [hr.2.1, Int32.add_comm, nI_1]
      have n1 : nxN (ffT K en pn f bs) f = e := by unfold nxN; rw [g3, nI_clamp (by omega)]
      have hk5 := hr.2.2.2.2.1
      have n2 : kcN (ffT K en pn f bs) f = kcN bs e + 1 := by unfold kcN; rw [g2, ke, nI_clamp (by omega)]; rfl
      have n3 : kcN (ffT K en pn f bs) e = kcN bs e := by unfold kcN; rw [(same e e1).2.1]
      unfold BSrow
      rw [n1, n2, n3, g1, g2, g3, (same e e1).1]
      refine ⟨rfl, ke, e1, by omega, by omega, fun z => absurd z (by omega), fun _ => ⟨rfl, rfl, fun j j1 j2 => ?_⟩⟩
      rw [(same j j1).1, (same j j1).2.1]
      exact e4 j j1 j2
  · exact BSrow_congr (fun j hj => by
      have := same j (by omega)
      exact ⟨this.1.symm, this.2.1.symm, this.2.2.symm⟩) (h f (by omega) hf2)
theorem bfL_ok {K : Nat → Int32} {en : Nat} {pn : Int32} (he : en ≤ 120) : ∀ (k : Nat) (bs : BsS), k ≤ en → (∀ f, k ≤ f → f < en → BSrow K en pn bs f) → ∀ f, f < en → BSrow K en pn (bfL K en pn k bs) f
  | 0, bs, _, h => fun f hf => h f (Nat.zero_le _) hf
  | k + 1, bs, hk, h => bfL_ok he k (ffT K en pn k bs) (by omega) (ffT_ok (by omega) he (fun f f1 f2 => h f f1 f2))
/-! the marks of a chain: laid, told, paid -/
def GCh (nx : Nat → Nat) (en : Nat) (G : Nat → Bool) : Nat → Nat → Prop
  | 0, f => nx f = en ∧ ∀ i, f < i → i < en → G i = false
  | k + 1, f => nx f < en ∧ (∀ i, f < i → i < nx f → G i = false) ∧ G (nx f) = true ∧ GCh nx en G k (nx f)
def chN (nx : Nat → Nat) : Nat → Nat → Nat
  | 0, f => nx f
  | j + 1, f => chN nx j (nx f)
theorem chN_succ (nx : Nat → Nat) : ∀ (j f : Nat), chN nx (j + 1) f = nx (chN nx j f)
  | 0, _ => rfl
  | j + 1, f => by
    show chN nx (j + 1) (nx f) = nx (chN nx j (nx f))
    exact chN_succ nx j (nx f)
theorem chN_lt {nx : Nat → Nat} {en : Nat} {G : Nat → Bool} : ∀ (k f j : Nat), GCh nx en G k f → j < k → chN nx j f < en
  | 0, _, _, _, h => absurd h (by omega)
  | k + 1, f, 0, h, _ => h.1
  | k + 1, f, j + 1, h, hj => chN_lt k (nx f) j h.2.2.2 (by omega)
theorem upB_at (f : Nat → Bool) (k : Nat) (x : Bool) : updB f k x k = x := by simp [updB]
theorem upB_ne {f : Nat → Bool} {k j : Nat} {x : Bool} (h : j ≠ k) : updB f k x j = f j := by simp [updB, h]
theorem offL_at : ∀ (d i : Nat) (G : Nat → Bool), (∀ j, i ≤ j → j < i + d → offL d i G j = false) ∧ (∀ j, (j < i ∨ i + d ≤ j) → offL d i G j = G j)
  | 0, i, G => ⟨fun j h1 h2 => absurd h1 (by omega), fun _ _ => rfl⟩
  | d + 1, i, G => by
    have ih := offL_at d (i + 1) (updB G i false)
    simp only [offL]
    refine ⟨fun j h1 h2 => ?_, fun j hj => ?_⟩
    · by_cases e : j = i
      · subst e; rw [ih.2 j (Or.inl (by omega)), upB_at]
      · exact ih.1 j (by omega) (by omega)
    · rw [ih.2 j (by omega), upB_ne (by omega)]
theorem chL_ok {K : Nat → Int32} {en : Nat} {pn : Int32} {bs : BsS} (he : en ≤ 120) (hB : ∀ f, f < en → BSrow K en pn bs f) : ∀ (d i f : Nat) (w : CuS), i + d = en → f < i → f < en → i ≤ nxN bs f → (∀ j, f < j → j < en → w.1 j = false) →
    GCh (nxN bs) en (chL bs d i (nI (nxN bs f)) w).1 (kcN bs f) f ∧ (∀ j, j ≤ f ∨ en ≤ j → (chL bs d i (nI (nxN bs f)) w).1 j = w.1 j) ∧ (chL bs d i (nI (nxN bs f)) w).2.1 = w.2.1 + nI (kcN bs f)
  | 0, i, f, w, hi, h1, h2, h3, h4 => by
    obtain ⟨a1, a2, a3, a4, a5, a6, a7⟩ := hB f h2
    have e : nxN bs f = en := by omega
    have k0 := (a6 e).1
    rw [k0]
    exact ⟨⟨e, h4⟩, fun _ _ => rfl, by show w.2.1 = w.2.1 + nI 0; rw [show nI 0 = 0 from rfl, Int32.add_zero]⟩
  | d + 1, i, f, w, hi, h1, h2, h3, h4 => by
    obtain ⟨a1, a2, a3, a4, a5, a6, a7⟩ := hB f h2
    simp only [chL]
    by_cases c : i = nxN bs f
    · rw [if_pos (by rw [c])]
      obtain ⟨b1, b2, b3⟩ := a7 (by omega)
      have hr := hB i (by omega)
      have e2 : bs.2.2 i = nI (nxN bs i) := hr.1
      rw [e2]
      have ih := chL_ok he hB d (i + 1) i (cu_cut w i) (by omega) (by omega) (by omega) hr.2.2.1 (fun j j1 j2 => by
        show updB w.1 i true j = false
        rw [upB_ne (by omega)]; exact h4 j (by omega) j2)
      obtain ⟨g1, g2, g3⟩ := ih
      rw [b1, ← c]
      refine ⟨⟨by omega, fun j j1 j2 => ?_, ?_, ?_⟩, fun j hj => ?_, ?_⟩
      · rw [← c] at j2
        rw [g2 j (Or.inl (by omega))]
        show updB w.1 i true j = false
        rw [upB_ne (by omega)]; exact h4 j j1 (by omega)
      · rw [← c, g2 i (Or.inl (Nat.le_refl _))]
        exact upB_at _ _ _
      · rw [← c]; exact g1
      · rw [g2 j (by omega)]
        exact upB_ne (by omega)
      · rw [g3]
        show w.2.1 + 1 + nI (kcN bs i) = w.2.1 + nI (kcN bs i + 1)
        rw [← nI_1, Int32.add_assoc, Int32.add_comm 1]
    · rw [if_neg (by rw [nI_eq (by omega) (by omega)]; exact c)]
      exact chL_ok he hB d (i + 1) f w (by omega) (by omega) h2 (by omega) h4
theorem setL_skip {K : Nat → Int32} {G : Nat → Bool} {en fr : Nat} {pr : Int32} {d : Nat} : ∀ (e i : Nat), (∀ j, i ≤ j → j < i + e → G j = false ∧ j ≠ en) → setL K G en (e + d) i fr pr = setL K G en d (i + e) fr pr
  | 0, i, _ => by rw [Nat.zero_add, Nat.add_zero]
  | e + 1, i, h => by
    have h0 := h i (Nat.le_refl _) (by omega)
    rw [show e + 1 + d = (e + d) + 1 by omega]
    simp only [setL]
    rw [if_neg h0.2, if_neg (by rw [h0.1]; decide), setL_skip e (i + 1) (fun j j1 j2 => h j (by omega) (by omega)), show i + 1 + e = i + (e + 1) by omega]
theorem setL_ok {K : Nat → Int32} {en : Nat} {pn : Int32} {bs : BsS} {G : Nat → Bool} (hB : ∀ f, f < en → BSrow K en pn bs f) : ∀ (k f : Nat) (pr : Int32), f < en → k = kcN bs f → GCh (nxN bs) en G k f → setL K G en (en - f) (f + 1) f pr + nI k * pn = pr + bs.1 f
  | 0, f, pr, hf, hk, h => by
    obtain ⟨a1, a2, a3, a4, a5, a6, a7⟩ := hB f hf
    rw [show en - f = (en - f - 1) + 1 by omega, setL_skip (en - f - 1) (f + 1) (fun j j1 j2 => ⟨h.2 j (by omega) (by omega), by omega⟩), show f + 1 + (en - f - 1) = en by omega]
    simp only [setL]
    rw [if_pos trivial, (a6 h.1).2, show nI 0 = 0 from rfl, Int32.zero_mul, Int32.add_zero]
  | k + 1, f, pr, hf, hk, h => by
    obtain ⟨a1, a2, a3, a4, a5, a6, a7⟩ := hB f hf
    obtain ⟨h1, h2, h3, h4⟩ := h
    obtain ⟨b1, b2, b3⟩ := a7 h1
    rw [show en - f = (nxN bs f - f - 1) + ((en - nxN bs f) + 1) by omega, setL_skip (nxN bs f - f - 1) (f + 1) (fun j j1 j2 => ⟨h2 j (by omega) (by omega), by omega⟩), show f + 1 + (nxN bs f - f - 1) = nxN bs f by omega]
    simp only [setL]
    rw [if_neg (by omega), if_pos h3]
    have ih := setL_ok hB k (nxN bs f) (pr + K (tri (nxN bs f - 1) + f)) h1 (by omega) h4
    rw [b2, ← nI_1, Int32.add_mul, Int32.one_mul, ← Int32.add_assoc, ih]
    simp only [Int32.add_assoc]
    rw [Int32.add_comm (bs.1 (nxN bs f)) pn]
theorem naL_skip {G : Nat → Bool} {x pa : Int32} {d : Nat} : ∀ (e i : Nat), (∀ j, i ≤ j → j < i + e → G j = false) → naL G x (e + d) i pa = naL G x d (i + e) pa
  | 0, i, _ => by rw [Nat.zero_add, Nat.add_zero]
  | e + 1, i, h => by
    have h0 := h i (Nat.le_refl _) (by omega)
    rw [show e + 1 + d = (e + d) + 1 by omega]
    simp only [naL]
    rw [if_neg (by rw [h0]; decide), naL_skip e (i + 1) (fun j j1 j2 => h j (by omega) (by omega)), show i + 1 + e = i + (e + 1) by omega]
theorem naL_ok {nx : Nat → Nat} {en : Nat} {G : Nat → Bool} (he : en ≤ 120) (hn : ∀ f, f < en → f < nx f) : ∀ (k f pa j : Nat), f < en → pa + j < 2 ^ 30 → GCh nx en G k f → j < k → naL G (nI (pa + j)) (120 - (f + 1)) (f + 1) (nI pa) = nI (chN nx j f)
  | 0, _, _, _, _, _, _, h => absurd h (by omega)
  | k + 1, f, pa, j, hf, hp, h, hj => by
    obtain ⟨h1, h2, h3, h4⟩ := h
    have hlt := hn f hf
    rw [show 120 - (f + 1) = (nx f - f - 1) + ((120 - (nx f + 1)) + 1) by omega, naL_skip (nx f - f - 1) (f + 1) (fun j j1 j2 => h2 j (by omega) (by omega)), show f + 1 + (nx f - f - 1) = nx f by omega]
    simp only [naL]
    rw [if_pos h3]
    cases j with
    | zero => rw [if_pos (by rw [Nat.add_zero])]; rfl
    | succ j =>
      rw [if_neg (by rw [nI_eq (by omega) (by omega)]; omega), nI_1, show pa + (j + 1) = pa + 1 + j by omega]
      exact naL_ok he hn k (nx f) (pa + 1) j h1 (by omega) h4 (by omega)
