/-! the best cutting: both sides -/
def ffA (P U : Nat → Int32) : Nat → Nat → Int32 → Int32 → Int32 → Int32 × Int32 × Int32
  | 0, _, lp, fc, ea => (lp, fc, ea)
  | d + 1, i, lp, fc, ea => if P i < lp then ffA P U d (i + 1) (P i) (U i) (nI i) else if P i = lp then (if fc ≤ U i then ffA P U d (i + 1) lp fc ea else ffA P U d (i + 1) (P i) (U i) (nI i)) else ffA P U d (i + 1) lp fc ea
theorem ffL_A (K : Nat → Int32) (fr : Nat) (pn : Int32) (bs : BsS) : ∀ (d i : Nat) (lp fc ea : Int32), ffL K fr pn bs d i lp fc ea = ffA (fun i => K (tri (i - 1) + fr) + pn + bs.1 i) (fun i => 1 + bs.2.1 i) d i lp fc ea
  | 0, _, _, _, _ => rfl
  | d + 1, i, lp, fc, ea => by
    simp only [ffL, ffA]
    rw [ffL_A K fr pn bs d (i + 1), ffL_A K fr pn bs d (i + 1)]
def InvA (P U : Nat → Int32) (fr : Nat) (l0 e0 : Int32) (i : Nat) (r : Int32 × Int32 × Int32) : Prop :=
  (∀ j, fr < j → j < i → r.1.toInt ≤ (P j).toInt ∧ ((P j).toInt = r.1.toInt → r.2.1.toInt ≤ (U j).toInt)) ∧
  (r = (l0, 0, e0) ∨ ∃ e, fr < e ∧ e < i ∧ r = (P e, U e, nI e) ∧ ∀ j, fr < j → j < e → ¬ ((P j).toInt = (P e).toInt ∧ (U j).toInt = (U e).toInt))
theorem ffA_ok {P U : Nat → Int32} {fr : Nat} {l0 e0 : Int32} : ∀ (d i : Nat) (lp fc ea : Int32), fr < i → InvA P U fr l0 e0 i (lp, fc, ea) → InvA P U fr l0 e0 (i + d) (ffA P U d i lp fc ea)
  | 0, i, lp, fc, ea, _, h => h
  | d + 1, i, lp, fc, ea, hi, h => by
    obtain ⟨h1, h2⟩ := h
    simp only at h1
    simp only [ffA]
    rw [show i + (d + 1) = i + 1 + d by omega]
    have keep : (lp.toInt ≤ (P i).toInt ∧ ((P i).toInt = lp.toInt → fc.toInt ≤ (U i).toInt)) → InvA P U fr l0 e0 (i + 1) (lp, fc, ea) := by
      intro hk
      refine ⟨fun j j1 j2 => ?_, ?_⟩
      · by_cases e : j = i
        · subst e; exact hk
        · exact h1 j j1 (by omega)
      · rcases h2 with h2 | ⟨e, e1, e2, e3, e4⟩
        · exact Or.inl h2
        · exact Or.inr ⟨e, e1, by omega, e3, e4⟩
    have new : ((P i).toInt < lp.toInt ∨ ((P i).toInt = lp.toInt ∧ (U i).toInt < fc.toInt)) → InvA P U fr l0 e0 (i + 1) (P i, U i, nI i) := by
      intro hk
      refine ⟨fun j j1 j2 => ?_, Or.inr ⟨i, hi, by omega, rfl, fun j j1 j2 => ?_⟩⟩
      · by_cases e : j = i
        · subst e; exact ⟨Int.le_refl _, fun _ => Int.le_refl _⟩
        · have := h1 j j1 (by omega)
          show (P i).toInt ≤ _ ∧ (_ → (U i).toInt ≤ _)
          refine ⟨by omega, fun z => ?_⟩
          have z : (P j).toInt = (P i).toInt := z
          have := this.2
          omega
      · have g := h1 j j1 j2
        have g2 := g.2
        rintro ⟨z1, z2⟩
        omega
    by_cases c1 : P i < lp
    · rw [if_pos c1]
      exact ffA_ok d (i + 1) _ _ _ (by omega) (new (Or.inl ((i_lt _ _).mp c1)))
    · rw [if_neg c1]
      rw [i_lt] at c1
      by_cases c2 : P i = lp
      · rw [if_pos c2]
        by_cases c3 : fc ≤ U i
        · rw [if_pos c3]
          exact ffA_ok d (i + 1) _ _ _ (by omega) (keep ⟨by omega, fun _ => (i_le _ _).mp c3⟩)
        · rw [if_neg c3]
          rw [i_le] at c3
          exact ffA_ok d (i + 1) _ _ _ (by omega) (new (Or.inr ⟨(i_eq _ _).mp c2, by omega⟩))
      · rw [if_neg c2]
        rw [i_eq] at c2
        exact ffA_ok d (i + 1) _ _ _ (by omega) (keep ⟨by omega, fun z => absurd z c2⟩)
def nxN (bs : BsS) (f : Nat) : Nat := (bs.2.2 f).toNatClampNeg
def kcN (bs : BsS) (f : Nat) : Nat := (bs.2.1 f).toNatClampNeg
/-- what a row of the search says -/
def BSrow (K : Nat → Int32) (en : Nat) (pn : Int32) (bs : BsS) (f : Nat) : Prop :=
  bs.2.2 f = nI (nxN bs f) ∧ bs.2.1 f = nI (kcN bs f) ∧ f < nxN bs f ∧ nxN bs f ≤ en ∧ kcN bs f < en - f ∧
  (nxN bs f = en → kcN bs f = 0 ∧ bs.1 f = K (tri (en - 1) + f)) ∧
  (nxN bs f < en → kcN bs f = kcN bs (nxN bs f) + 1 ∧ bs.1 f = K (tri (nxN bs f - 1) + f) + pn + bs.1 (nxN bs f) ∧ ∀ j, f < j → j < nxN bs f → ¬ ((K (tri (j - 1) + f) + pn + bs.1 j).toInt = (bs.1 f).toInt ∧ (1 + bs.2.1 j).toInt = (bs.2.1 f).toInt))
theorem BSrow_congr {K : Nat → Int32} {en : Nat} {pn : Int32} {bs bs' : BsS} {f : Nat} (h : ∀ j, f ≤ j → bs.1 j = bs'.1 j ∧ bs.2.1 j = bs'.2.1 j ∧ bs.2.2 j = bs'.2.2 j) (H : BSrow K en pn bs f) : BSrow K en pn bs' f := by
  have en' : nxN bs' f = nxN bs f := by unfold nxN; rw [(h f (Nat.le_refl _)).2.2]
  have ek : ∀ j, f ≤ j → kcN bs' j = kcN bs j := fun j hj => by unfold kcN; rw [(h j hj).2.1]
  obtain ⟨a1, a2, a3, a4, a5, a6, a7⟩ := H
  have h0 := h f (Nat.le_refl _)
  unfold BSrow
  rw [en', ek f (Nat.le_refl _), ← h0.1, ← h0.2.1, ← h0.2.2]
  refine ⟨a1, a2, a3, a4, a5, a6, fun z => ?_⟩
  obtain ⟨b1, b2, b3⟩ := a7 z
  have hn := h (nxN bs f) (by omega)
  rw [ek _ (by omega), ← hn.1]
  refine ⟨b1, b2, fun j j1 j2 => ?_⟩
  have hj := h j (by omega)
  rw [← hj.1, ← hj.2.1]
  exact b3 j j1 j2
theorem ffT_ok {K : Nat → Int32} {en : Nat} {pn : Int32} {bs : BsS} {k : Nat} (hk : k < en) (he : en ≤ 120) (h : ∀ f, k < f → f < en → BSrow K en pn bs f) : ∀ f, k ≤ f → f < en → BSrow K en pn (ffT K en pn k bs) f := by
  intro f hf1 hf2
  have same : ∀ j, k < j → (ffT K en pn k bs).1 j = bs.1 j ∧ (ffT K en pn k bs).2.1 j = bs.2.1 j ∧ (ffT K en pn k bs).2.2 j = bs.2.2 j := fun j hj => ⟨up_ne (by omega), up_ne (by omega), up_ne (by omega)⟩
  by_cases c : f = k
  · subst c
    have hI := ffA_ok (P := fun i => K (tri (i - 1) + f) + pn + bs.1 i) (U := fun i => 1 + bs.2.1 i) (fr := f) (l0 := K (tri (en - 1) + f)) (e0 := nI en) (en - (f + 1)) (f + 1) (K (tri (en - 1) + f)) 0 (nI en) (by omega) ⟨fun j j1 j2 => absurd j1 (by omega), Or.inl rfl⟩
    rw [← ffL_A, show f + 1 + (en - (f + 1)) = en by omega] at hI
    have er : ffL K f pn bs (en - (f + 1)) (f + 1) (K (tri (en - 1) + f)) 0 (nI en) = ffR K en pn f bs := rfl
    rw [er] at hI
    have g1 : (ffT K en pn f bs).1 f = (ffR K en pn f bs).1 := up_at _ _ _
    have g2 : (ffT K en pn f bs).2.1 f = (ffR K en pn f bs).2.1 := up_at _ _ _
    have g3 : (ffT K en pn f bs).2.2 f = (ffR K en pn f bs).2.2 := up_at _ _ _
    obtain ⟨i1, i2⟩ := hI
    rcases i2 with i2 | ⟨e, e1, e2, e3, e4⟩
    · rw [i2] at g1 g2 g3
      simp only at g1 g2 g3
      have n1 : nxN (ffT K en pn f bs) f = en := by unfold nxN; rw [g3, nI_clamp (by omega)]
      have n2 : kcN (ffT K en pn f bs) f = 0 := by unfold kcN; rw [g2]; decide
      unfold BSrow
      rw [n1, n2, g1, g2, g3]
      exact ⟨rfl, rfl, hf2, Nat.le_refl _, by omega, fun _ => ⟨rfl, rfl⟩, fun z => absurd z (by omega)⟩
    · rw [e3] at g1 g2 g3
      simp only at g1 g2 g3
      have hr := h e e1 e2
      have ke : 1 + bs.2.1 e = nI (kcN bs e + 1) := by rw [hr.2.1, Int32.add_comm, nI_1]
      have n1 : nxN (ffT K en pn f bs) f = e := by unfold nxN; rw [g3, nI_clamp (by omega)]
      have hk5 := hr.2.2.2.2.1
      have n2 : kcN (ffT K en pn f bs) f = kcN bs e + 1 := by unfold kcN; rw [g2, ke, nI_clamp (by omega)]; rfl
      have n3 : kcN (ffT K en pn f bs) e = kcN bs e := by unfold kcN; rw [(same e e1).2.1]
      unfold BSrow
      rw [n1, n2, n3, g1, g2, g3, (same e e1).1]
      refine ⟨rfl, ke, e1, by omega, by omega, fun z => absurd z (by omega), fun _ => ⟨rfl, rfl, fun j j1 j2 => ?_⟩⟩
      rw [(same j j1).1, (same j j1).2.1]
      exact e4 j j1 j2
  · exact BSrow_congr (fun j hj => by
      have := same j (by omega)
      exact ⟨this.1.symm, this.2.1.symm, this.2.2.symm⟩) (h f (by omega) hf2)
theorem bfL_ok {K : Nat → Int32} {en : Nat} {pn : Int32} (he : en ≤ 120) : ∀ (k : Nat) (bs : BsS), k ≤ en → (∀ f, k ≤ f → f < en → BSrow K en pn bs f) → ∀ f, f < en → BSrow K en pn (bfL K en pn k bs) f
  | 0, bs, _, h => fun f hf => h f (Nat.zero_le _) hf
  | k + 1, bs, hk, h => bfL_ok he k (ffT K en pn k bs) (by omega) (ffT_ok (by omega) he (fun f f1 f2 => h f f1 f2))
/-! the reference's search -/
theorem ctL_ok {M : Nat → Int32} {pn : Int32} {fr n : Nat} {P U : Nat → Int32} : ∀ (d t : Nat) (b f : Nat → Int32) (ea : Int32), fr < t → (∀ j, t ≤ j → j < t + d → M (121 * fr + j) + pn + b j = P j ∧ f j + 1 = U j) →
    (ctL M pn fr d t b f).1 fr = (ffA P U d t (b fr) (f fr) ea).1 ∧ (ctL M pn fr d t b f).2 fr = (ffA P U d t (b fr) (f fr) ea).2.1 ∧ ∀ j, j ≠ fr → (ctL M pn fr d t b f).1 j = b j ∧ (ctL M pn fr d t b f).2 j = f j
  | 0, _, _, _, _, _, _ => ⟨rfl, rfl, fun _ _ => ⟨rfl, rfl⟩⟩
  | d + 1, t, b, f, ea, ht, h => by
    obtain ⟨p1, p2⟩ := h t (Nat.le_refl _) (by omega)
    have step : ∀ (x y ea' : Int32), (ctL M pn fr d (t + 1) (upd b fr x) (upd f fr y)).1 fr = (ffA P U d (t + 1) x y ea').1 ∧ (ctL M pn fr d (t + 1) (upd b fr x) (upd f fr y)).2 fr = (ffA P U d (t + 1) x y ea').2.1 ∧ ∀ j, j ≠ fr → (ctL M pn fr d (t + 1) (upd b fr x) (upd f fr y)).1 j = b j ∧ (ctL M pn fr d (t + 1) (upd b fr x) (upd f fr y)).2 j = f j := by
      intro x y ea'
      have ih := ctL_ok (M := M) (pn := pn) (fr := fr) (n := n) (P := P) (U := U) d (t + 1) (upd b fr x) (upd f fr y) ea' (by omega) (fun j j1 j2 => by
        rw [up_ne (by omega), up_ne (by omega)]; exact h j (by omega) (by omega))
      rw [up_at, up_at] at ih
      refine ⟨ih.1, ih.2.1, fun j hj => ?_⟩
      have := ih.2.2 j hj
      rw [up_ne hj, up_ne hj] at this
      exact this
    simp only [ctL, ffA]
    rw [p1, p2]
    by_cases c1 : P t < b fr
    · rw [if_pos c1, if_pos c1]; exact step _ _ _
    · rw [if_neg c1, if_neg c1]
      by_cases c2 : P t = b fr
      · rw [if_pos c2, if_pos c2]
        by_cases c3 : f fr ≤ U t
        · rw [if_pos c3, if_pos c3]; exact step _ _ _
        · rw [if_neg c3, if_neg c3]; exact step _ _ _
      · rw [if_neg c2, if_neg c2]; exact step _ _ _
theorem cfL_ok {K M : Nat → Int32} {n : Nat} {pn : Int32} (hM : KK n K M) : ∀ (k : Nat) (b f : Nat → Int32) (bs : BsS), k ≤ n → (∀ j, k ≤ j → j < n → b j = bs.1 j ∧ f j = bs.2.1 j) →
    (∀ j, j < n → (cfL M n pn k b f).1 j = (bfL K n pn k bs).1 j ∧ (cfL M n pn k b f).2 j = (bfL K n pn k bs).2.1 j)
  | 0, b, f, bs, _, h => fun j hj => h j (Nat.zero_le _) hj
  | k + 1, b, f, bs, hk, h => by
    have hc := ctL_ok (M := M) (pn := pn) (fr := k) (n := n) (P := fun i => K (tri (i - 1) + k) + pn + bs.1 i) (U := fun i => 1 + bs.2.1 i) (n - (k + 1)) (k + 1) (upd b k (M (121 * k + n))) (upd f k 0) (nI n) (by omega) (fun j j1 j2 => by
      have hj := h j j1 (by omega)
      rw [up_ne (by omega), up_ne (by omega), hM k j (by omega) (by omega), hj.1, hj.2]
      exact ⟨rfl, Int32.add_comm _ _⟩)
    rw [up_at, up_at, ← ffL_A, hM k n (by omega) (Nat.le_refl _)] at hc
    simp only [cfL, bfL]
    refine cfL_ok hM k _ _ _ (by omega) (fun j j1 j2 => ?_)
    by_cases e : j = k
    · subst e
      rw [hM j n (by omega) (Nat.le_refl _), hc.1, hc.2.1]
      exact ⟨(up_at _ _ _).symm, (up_at _ _ _).symm⟩
    · have g := hc.2.2 j e
      rw [hM k n (by omega) (Nat.le_refl _), g.1, g.2, up_ne e, up_ne e]
      have hj := h j (by omega) j2
      rw [hj.1, hj.2]
      exact ⟨(up_ne e).symm, (up_ne e).symm⟩
theorem cutR_ok {K M : Nat → Int32} {n : Nat} {pn : Int32} (hM : KK n K M) (b f : Nat → Int32) (bs : BsS) : ∀ j, j < n → (cutR M n pn b f).1 j = (bfL K n pn n bs).1 j ∧ (cutR M n pn b f).2 j = (bfL K n pn n bs).2.1 j :=
  cfL_ok hM n _ _ bs (Nat.le_refl _) (fun j j1 j2 => absurd j1 (by omega))
theorem nxL_low {M b f : Nat → Int32} {pn : Int32} {fr : Nat} : ∀ (k : Nat) (fo : Int32), (∀ j, fr < j → j < k → ¬ (M (121 * fr + j) + pn + b j = b fr ∧ f j + 1 = f fr)) → nxL M pn b f fr k fo = fo
  | 0, _, _ => rfl
  | k + 1, fo, h => by
    simp only [nxL]
    by_cases c1 : k ≤ fr
    · rw [if_pos c1]
    · rw [if_neg c1]
      by_cases c2 : f fr ≤ 0
      · rw [if_pos c2]
      · rw [if_neg c2, if_neg (h k (by omega) (by omega))]
        exact nxL_low k fo (fun j j1 j2 => h j j1 (by omega))
theorem nxL_hit {M b f : Nat → Int32} {pn : Int32} {fr e : Nat} (h0 : fr < e) (hf : ¬ f fr ≤ 0) (he : M (121 * fr + e) + pn + b e = b fr ∧ f e + 1 = f fr) (h : ∀ j, fr < j → j < e → ¬ (M (121 * fr + j) + pn + b j = b fr ∧ f j + 1 = f fr)) : ∀ (k : Nat) (fo : Int32), e < k → nxL M pn b f fr k fo = nI e
  | 0, _, hk => absurd hk (by omega)
  | k + 1, fo, hk => by
    simp only [nxL]
    rw [if_neg (by omega), if_neg hf]
    by_cases c : k = e
    · subst c
      rw [if_pos he]
      exact nxL_low k _ h
    · by_cases c2 : M (121 * fr + k) + pn + b k = b fr ∧ f k + 1 = f fr
      · rw [if_pos c2]; exact nxL_hit h0 hf he h k _ (by omega)
      · rw [if_neg c2]; exact nxL_hit h0 hf he h k _ (by omega)
theorem nxR_ok {K M b f : Nat → Int32} {n : Nat} {pn : Int32} {bs : BsS} {fr : Nat} (hn : n ≤ 120) (hM : KK n K M) (hb : ∀ j, j < n → b j = bs.1 j ∧ f j = bs.2.1 j) (hfr : fr < n) (h : ∀ f, f < n → BSrow K n pn bs f) : nxR M pn b f n fr = nI (nxN bs fr) := by
  obtain ⟨a1, a2, a3, a4, a5, a6, a7⟩ := h fr hfr
  unfold nxR
  rw [(hb fr hfr).2, a2]
  by_cases c : nxN bs fr = n
  · have k0 := (a6 c).1
    rw [k0, if_pos (show nI 0 = 0 from rfl), c]
    obtain ⟨m, rfl⟩ : ∃ m, n = m + 1 := ⟨n - 1, by omega⟩
    simp only [nxL]
    by_cases c1 : m ≤ fr
    · rw [if_pos c1]
    · rw [if_neg c1, if_pos (by rw [(hb fr hfr).2, a2, k0]; decide)]
  · obtain ⟨b1, b2, b3⟩ := a7 (by omega)
    have he := h (nxN bs fr) (by omega)
    refine nxL_hit a3 ?_ ?_ ?_ n _ (by omega)
    · rw [(hb fr hfr).2, a2]
      exact nI_nle (by omega) (by omega)
    · rw [hM fr _ a3 (by omega), (hb fr hfr).1, (hb _ (by omega)).1, (hb fr hfr).2, (hb _ (by omega)).2]
      refine ⟨b2.symm, ?_⟩
      rw [a2, b1, ← nI_1, he.2.1]
    · intro j j1 j2
      rw [hM fr j j1 (by omega), (hb fr hfr).1, (hb j (by omega)).1, (hb fr hfr).2, (hb j (by omega)).2]
      rintro ⟨z1, z2⟩
      exact b3 j j1 j2 ⟨by rw [z1], by rw [Int32.add_comm, z2]⟩
