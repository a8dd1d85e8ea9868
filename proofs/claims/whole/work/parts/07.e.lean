/-! the marks of a chain: laid, told, paid -/
def GCh (nx : Nat → Nat) (en : Nat) (G : Nat → Bool) : Nat → Nat → Prop
  | 0, f => nx f = en ∧ ∀ i, f < i → i < en → G i = false
  | k + 1, f => nx f < en ∧ (∀ i, f < i → i < nx f → G i = false) ∧ G (nx f) = true ∧ GCh nx en G k (nx f)
def chN (nx : Nat → Nat) : Nat → Nat → Nat
  | 0, f => nx f
  | j + 1, f => chN nx j (nx f)
theorem chN_succ (nx : Nat → Nat) : ∀ (j f : Nat), chN nx (j + 1) f = nx (chN nx j f)
  | 0, _ => rfl
  | j + 1, f => by
    show chN nx (j + 1) (nx f) = nx (chN nx j (nx f))
    exact chN_succ nx j (nx f)
theorem chN_lt {nx : Nat → Nat} {en : Nat} {G : Nat → Bool} : ∀ (k f j : Nat), GCh nx en G k f → j < k → chN nx j f < en
  | 0, _, _, _, h => absurd h (by omega)
  | k + 1, f, 0, h, _ => h.1
  | k + 1, f, j + 1, h, hj => chN_lt k (nx f) j h.2.2.2 (by omega)
theorem upB_at (f : Nat → Bool) (k : Nat) (x : Bool) : updB f k x k = x := by simp [updB]
theorem upB_ne {f : Nat → Bool} {k j : Nat} {x : Bool} (h : j ≠ k) : updB f k x j = f j := by simp [updB, h]
theorem offL_at : ∀ (d i : Nat) (G : Nat → Bool), (∀ j, i ≤ j → j < i + d → offL d i G j = false) ∧ (∀ j, (j < i ∨ i + d ≤ j) → offL d i G j = G j)
  | 0, i, G => ⟨fun j h1 h2 => absurd h1 (by omega), fun _ _ => rfl⟩
  | d + 1, i, G => by
    have ih := offL_at d (i + 1) (updB G i false)
    simp only [offL]
    refine ⟨fun j h1 h2 => ?_, fun j hj => ?_⟩
    · by_cases e : j = i
      · subst e; rw [ih.2 j (Or.inl (by omega)), upB_at]
      · exact ih.1 j (by omega) (by omega)
    · rw [ih.2 j (by omega), upB_ne (by omega)]
theorem chL_ok {K : Nat → Int32} {en : Nat} {pn : Int32} {bs : BsS} (he : en ≤ 120) (hB : ∀ f, f < en → BSrow K en pn bs f) : ∀ (d i f : Nat) (w : CuS), i + d = en → f < i → f < en → i ≤ nxN bs f → (∀ j, f < j → j < en → w.1 j = false) →
    GCh (nxN bs) en (chL bs d i (nI (nxN bs f)) w).1 (kcN bs f) f ∧ (∀ j, j ≤ f ∨ en ≤ j → (chL bs d i (nI (nxN bs f)) w).1 j = w.1 j) ∧ (chL bs d i (nI (nxN bs f)) w).2.1 = w.2.1 + nI (kcN bs f)
  | 0, i, f, w, hi, h1, h2, h3, h4 => by
    obtain ⟨a1, a2, a3, a4, a5, a6, a7⟩ := hB f h2
    have e : nxN bs f = en := by omega
    have k0 := (a6 e).1
    rw [k0]
    exact ⟨⟨e, h4⟩, fun _ _ => rfl, by show w.2.1 = w.2.1 + nI 0; rw [show nI 0 = 0 from rfl, Int32.add_zero]⟩
  | d + 1, i, f, w, hi, h1, h2, h3, h4 => by
    obtain ⟨a1, a2, a3, a4, a5, a6, a7⟩ := hB f h2
    simp only [chL]
    by_cases c : i = nxN bs f
    · rw [if_pos (by rw [c])]
      obtain ⟨b1, b2, b3⟩ := a7 (by omega)
      have hr := hB i (by omega)
      have e2 : bs.2.2 i = nI (nxN bs i) := hr.1
      rw [e2]
      have ih := chL_ok he hB d (i + 1) i (cu_cut w i) (by omega) (by omega) (by omega) hr.2.2.1 (fun j j1 j2 => by
        show updB w.1 i true j = false
        rw [upB_ne (by omega)]; exact h4 j (by omega) j2)
      obtain ⟨g1, g2, g3⟩ := ih
      rw [b1, ← c]
      refine ⟨⟨by omega, fun j j1 j2 => ?_, ?_, ?_⟩, fun j hj => ?_, ?_⟩
      · rw [← c] at j2
        rw [g2 j (Or.inl (by omega))]
        show updB w.1 i true j = false
        rw [upB_ne (by omega)]; exact h4 j j1 (by omega)
      · rw [← c, g2 i (Or.inl (Nat.le_refl _))]
        exact upB_at _ _ _
      · rw [← c]; exact g1
      · rw [g2 j (by omega)]
        exact upB_ne (by omega)
      · rw [g3]
        show w.2.1 + 1 + nI (kcN bs i) = w.2.1 + nI (kcN bs i + 1)
        rw [← nI_1, Int32.add_assoc, Int32.add_comm 1]
    · rw [if_neg (by rw [nI_eq (by omega) (by omega)]; exact c)]
      exact chL_ok he hB d (i + 1) f w (by omega) (by omega) h2 (by omega) h4
theorem setL_skip {K : Nat → Int32} {G : Nat → Bool} {en fr : Nat} {pr : Int32} {d : Nat} : ∀ (e i : Nat), (∀ j, i ≤ j → j < i + e → G j = false ∧ j ≠ en) → setL K G en (e + d) i fr pr = setL K G en d (i + e) fr pr
  | 0, i, _ => by rw [Nat.zero_add, Nat.add_zero]
  | e + 1, i, h => by
    have h0 := h i (Nat.le_refl _) (by omega)
    rw [show e + 1 + d = (e + d) + 1 by omega]
    simp only [setL]
    rw [if_neg h0.2, if_neg (by rw [h0.1]; decide), setL_skip e (i + 1) (fun j j1 j2 => h j (by omega) (by omega)), show i + 1 + e = i + (e + 1) by omega]
theorem setL_ok {K : Nat → Int32} {en : Nat} {pn : Int32} {bs : BsS} {G : Nat → Bool} (hB : ∀ f, f < en → BSrow K en pn bs f) : ∀ (k f : Nat) (pr : Int32), f < en → k = kcN bs f → GCh (nxN bs) en G k f → setL K G en (en - f) (f + 1) f pr + nI k * pn = pr + bs.1 f
  | 0, f, pr, hf, hk, h => by
    obtain ⟨a1, a2, a3, a4, a5, a6, a7⟩ := hB f hf
    rw [show en - f = (en - f - 1) + 1 by omega, setL_skip (en - f - 1) (f + 1) (fun j j1 j2 => ⟨h.2 j (by omega) (by omega), by omega⟩), show f + 1 + (en - f - 1) = en by omega]
    simp only [setL]
    rw [if_pos trivial, (a6 h.1).2, show nI 0 = 0 from rfl, Int32.zero_mul, Int32.add_zero]
  | k + 1, f, pr, hf, hk, h => by
    obtain ⟨a1, a2, a3, a4, a5, a6, a7⟩ := hB f hf
    obtain ⟨h1, h2, h3, h4⟩ := h
    obtain ⟨b1, b2, b3⟩ := a7 h1
    rw [show en - f = (nxN bs f - f - 1) + ((en - nxN bs f) + 1) by omega, setL_skip (nxN bs f - f - 1) (f + 1) (fun j j1 j2 => ⟨h2 j (by omega) (by omega), by omega⟩), show f + 1 + (nxN bs f - f - 1) = nxN bs f by omega]
    simp only [setL]
    rw [if_neg (by omega), if_pos h3]
    have ih := setL_ok hB k (nxN bs f) (pr + K (tri (nxN bs f - 1) + f)) h1 (by omega) h4
    rw [b2, ← nI_1, Int32.add_mul, Int32.one_mul, ← Int32.add_assoc, ih]
    simp only [Int32.add_assoc]
    rw [Int32.add_comm (bs.1 (nxN bs f)) pn]
theorem naL_skip {G : Nat → Bool} {x pa : Int32} {d : Nat} : ∀ (e i : Nat), (∀ j, i ≤ j → j < i + e → G j = false) → naL G x (e + d) i pa = naL G x d (i + e) pa
  | 0, i, _ => by rw [Nat.zero_add, Nat.add_zero]
  | e + 1, i, h => by
    have h0 := h i (Nat.le_refl _) (by omega)
    rw [show e + 1 + d = (e + d) + 1 by omega]
    simp only [naL]
    rw [if_neg (by rw [h0]; decide), naL_skip e (i + 1) (fun j j1 j2 => h j (by omega) (by omega)), show i + 1 + e = i + (e + 1) by omega]
theorem naL_ok {nx : Nat → Nat} {en : Nat} {G : Nat → Bool} (he : en ≤ 120) (hn : ∀ f, f < en → f < nx f) : ∀ (k f pa j : Nat), f < en → pa + j < 2 ^ 30 → GCh nx en G k f → j < k → naL G (nI (pa + j)) (120 - (f + 1)) (f + 1) (nI pa) = nI (chN nx j f)
  | 0, _, _, _, _, _, _, h => absurd h (by omega)
  | k + 1, f, pa, j, hf, hp, h, hj => by
    obtain ⟨h1, h2, h3, h4⟩ := h
    have hlt := hn f hf
    rw [show 120 - (f + 1) = (nx f - f - 1) + ((120 - (nx f + 1)) + 1) by omega, naL_skip (nx f - f - 1) (f + 1) (fun j j1 j2 => h2 j (by omega) (by omega)), show f + 1 + (nx f - f - 1) = nx f by omega]
    simp only [naL]
    rw [if_pos h3]
    cases j with
    | zero => rw [if_pos (by rw [Nat.add_zero])]; rfl
    | succ j =>
      rw [if_neg (by rw [nI_eq (by omega) (by omega)]; omega), nI_1, show pa + (j + 1) = pa + 1 + j by omega]
      exact naL_ok he hn k (nx f) (pa + 1) j h1 (by omega) h4 (by omega)
/-- the finder's best cutting, whatever stood there, says what the reference's search says -/
theorem best_all {K M : Nat → Int32} {n : Nat} {pn : Int32} (hn : n ≤ 120) (hM : KK n K M) (bs0 : BsS) (cu0 : CuS) (bb ff : Nat → Int32) :
    (cu_set K n pn (chT (bfL K n pn n bs0) n cu0)).2.1 = (if n = 0 then 0 else (cutR M n pn bb ff).2 0) ∧
    (cu_set K n pn (chT (bfL K n pn n bs0) n cu0)).2.2.1 = (cutR M n pn bb ff).1 0 ∧
    (0 < n → ∃ (k : Nat) (ch : Nat → Nat), k < 120 ∧ (cutR M n pn bb ff).2 0 = nI k ∧ (∀ j, j < k → naL (cu_set K n pn (chT (bfL K n pn n bs0) n cu0)).1 (nI j) 120 0 0 = nI (ch j)) ∧
      nxR M pn (cutR M n pn bb ff).1 (cutR M n pn bb ff).2 n 0 = nI (ch 0) ∧ (∀ j, j + 1 < k + 1 → nxR M pn (cutR M n pn bb ff).1 (cutR M n pn bb ff).2 n (ch j) = nI (ch (j + 1))) ∧ ∀ j, j < k → ch j ≤ 120) := by
  have hc := cutR_ok hM (pn := pn) bb ff bs0
  have hB := bfL_ok (K := K) (pn := pn) hn n bs0 (Nat.le_refl _) (fun f f1 f2 => absurd f1 (by omega))
  generalize bfL K n pn n bs0 = bs at *
  by_cases h0 : n = 0
  · subst h0
    refine ⟨rfl, ?_, fun z => absurd z (by omega)⟩
    show (0 : Int32) * pn = upd bb 0 0 0
    rw [up_at, Int32.zero_mul]
  · have hr := hB 0 (by omega)
    have ec : chT bs n cu0 = chL bs (n - 1) 1 (nI (nxN bs 0)) (cu_join cu0) := by
      unfold chT
      rw [if_neg h0, hr.1]
    have hoff : ∀ j, j < 120 → (cu_join cu0).1 j = false := fun j hj => (offL_at 120 0 cu0.1).1 j (Nat.zero_le _) (by omega)
    have hj := chL_ok hn hB (n - 1) 1 0 (cu_join cu0) (by omega) (by omega) (by omega) hr.2.2.1 (fun j j1 j2 => hoff j (by omega))
    rw [← ec] at hj
    obtain ⟨g1, g2, g3⟩ := hj
    have g3 : (chT bs n cu0).2.1 = nI (kcN bs 0) := by rw [g3]; show (0 : Int32) + _ = _; rw [Int32.zero_add]
    have hs := setL_ok (G := (chT bs n cu0).1) hB (kcN bs 0) 0 (nI (kcN bs 0) * pn) (by omega) rfl g1
    rw [Nat.sub_zero, Nat.zero_add] at hs
    refine ⟨?_, ?_, fun _ => ⟨kcN bs 0, fun j => chN (nxN bs) j 0, by have := hr.2.2.2.2.1; omega, ?_, fun j j1 => ?_, ?_, fun j j1 => ?_, fun j j1 => ?_⟩⟩
    · show (chT bs n cu0).2.1 = _
      rw [if_neg h0, g3, (hc 0 (by omega)).2, hr.2.1]
    · show setL K (chT bs n cu0).1 n n 1 0 ((chT bs n cu0).2.1 * pn) = _
      rw [g3, (hc 0 (by omega)).1]
      have h5 : setL K (chT bs n cu0).1 n n 1 0 (nI (kcN bs 0) * pn) + nI (kcN bs 0) * pn = bs.1 0 + nI (kcN bs 0) * pn := by rw [hs, Int32.add_comm]
      exact (Int32.add_left_inj _).mp h5
    · rw [(hc 0 (by omega)).2, hr.2.1]
    · show naL (chT bs n cu0).1 (nI j) 120 0 0 = _
      have e0 : (chT bs n cu0).1 0 = false := by rw [g2 0 (Or.inl (Nat.le_refl _))]; exact hoff 0 (by omega)
      have := naL_ok hn (fun f hf => (hB f hf).2.2.1) (kcN bs 0) 0 0 j (by omega) (by have := hr.2.2.2.2.1; omega) g1 j1
      rw [Nat.zero_add] at this
      rw [show (120 : Nat) = 1 + 119 by omega, naL_skip 1 0 (fun i i1 i2 => by obtain rfl : i = 0 := by omega
                                                                               exact e0)]
      exact this
    · exact nxR_ok hn hM hc (by omega) hB
    · have := chN_lt (kcN bs 0) 0 j g1 (by omega)
      show nxR M pn _ _ n (chN (nxN bs) j 0) = nI (chN (nxN bs) (j + 1) 0)
      rw [nxR_ok hn hM hc this hB, chN_succ]
    · have := chN_lt (kcN bs 0) 0 j g1 j1
      show chN (nxN bs) j 0 ≤ 120
      omega
