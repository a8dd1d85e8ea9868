/-! the greedy cutting -/
theorem eosL_self {G : Nat → Bool} {en : Nat} : ∀ {d i : Nat}, i + d = en → i < en → (eosL G en d i = i ↔ G i = true)
  | 0, i, h, hi => absurd h (by omega)
  | d + 1, i, h, hi => by
    simp only [eosL]
    cases hG : G i with
    | true => simp
    | false =>
      have := eosL_ge G (show (i + 1) + d = en by omega)
      simp only [Bool.false_eq_true, if_false, iff_false]
      omega
def cnL (G : Nat → Bool) : Nat → Nat → Nat
  | 0, _ => 0
  | d + 1, i => (if G i = true then 1 else 0) + cnL G d (i + 1)
theorem cnL_le (G : Nat → Bool) : ∀ d i, cnL G d i ≤ d
  | 0, _ => Nat.le_refl _
  | d + 1, i => by
    simp only [cnL]
    have := cnL_le G d (i + 1)
    split <;> omega
theorem cnL_congr {G H : Nat → Bool} : ∀ d i, (∀ j, i ≤ j → j < i + d → G j = H j) → cnL G d i = cnL H d i
  | 0, _, _ => rfl
  | d + 1, i, h => by
    simp only [cnL]
    rw [h i (Nat.le_refl _) (by omega), cnL_congr d (i + 1) (fun j j1 j2 => h j (by omega) (by omega))]
theorem cnL_upd {G : Nat → Bool} {a : Nat} (hG : G a = false) : ∀ d i, i ≤ a → a < i + d → cnL (updB G a true) d i = cnL G d i + 1
  | 0, i, h1, h2 => absurd h1 (by omega)
  | d + 1, i, h1, h2 => by
    simp only [cnL]
    by_cases c : i = a
    · subst c
      rw [upB_at, hG, cnL_congr (G := updB G i true) (H := G) d (i + 1) (fun j j1 j2 => upB_ne (by omega))]
      simp
      omega
    · rw [upB_ne c, cnL_upd hG d (i + 1) (by omega) (by omega)]
      omega
theorem cnL_0 {G : Nat → Bool} : ∀ d i, (∀ j, i ≤ j → j < i + d → G j = false) → cnL G d i = 0
  | 0, _, _ => rfl
  | d + 1, i, h => by
    simp only [cnL]
    rw [h i (Nat.le_refl _) (by omega), cnL_0 d (i + 1) (fun j j1 j2 => h j (by omega) (by omega))]
    rfl
theorem eosL_ok {G : Nat → Bool} {en : Nat} : ∀ (d i : Nat), i + d = en → i ≤ eosL G en d i ∧ eosL G en d i ≤ en ∧ (∀ j, i ≤ j → j < eosL G en d i → G j = false) ∧ (eosL G en d i < en → G (eosL G en d i) = true)
  | 0, i, h => ⟨by show i ≤ en; omega, Nat.le_refl _, fun j j1 j2 => absurd j2 (by show ¬ j < en; omega), fun z => absurd z (Nat.lt_irrefl _)⟩
  | d + 1, i, h => by
    simp only [eosL]
    by_cases c : G i = true
    · rw [if_pos c]
      exact ⟨Nat.le_refl _, by omega, fun j j1 j2 => absurd j1 (by omega), fun _ => c⟩
    · rw [if_neg c]
      obtain ⟨a1, a2, a3, a4⟩ := eosL_ok (G := G) (en := en) d (i + 1) (by omega)
      refine ⟨by omega, a2, fun j j1 j2 => ?_, a4⟩
      by_cases e : j = i
      · rw [e]; cases hG : G i
        · rfl
        · exact absurd hG c
      · exact a3 j (by omega) j2
def nxG (G : Nat → Bool) (n f : Nat) : Nat := eosL G n (n - (f + 1)) (f + 1)
theorem nxG_ok {G : Nat → Bool} {n f : Nat} (h : f < n) : f < nxG G n f ∧ nxG G n f ≤ n ∧ (∀ j, f < j → j < nxG G n f → G j = false) ∧ (nxG G n f < n → G (nxG G n f) = true) := by
  obtain ⟨a1, a2, a3, a4⟩ := eosL_ok (G := G) (en := n) (n - (f + 1)) (f + 1) (by omega)
  exact ⟨a1, a2, fun j j1 j2 => a3 j j1 j2, a4⟩
theorem cnL_skip {G : Nat → Bool} {d : Nat} : ∀ (a i : Nat), (∀ j, i ≤ j → j < i + a → G j = false) → cnL G (a + d) i = cnL G d (i + a)
  | 0, i, _ => by rw [Nat.zero_add, Nat.add_zero]
  | a + 1, i, h => by
    rw [show a + 1 + d = (a + d) + 1 by omega]
    simp only [cnL]
    rw [if_neg (by rw [h i (Nat.le_refl _) (by omega)]; decide), cnL_skip a (i + 1) (fun j j1 j2 => h j (by omega) (by omega)), show i + 1 + a = i + (a + 1) by omega, Nat.zero_add]
theorem GCh_G {G : Nat → Bool} {n : Nat} : ∀ (d f : Nat), f + d = n → f < n → GCh (nxG G n) n G (cnL G (n - (f + 1)) (f + 1)) f := by
  intro d
  induction d using Nat.strongRecOn with
  | ind d ih =>
    intro f hd hf
    obtain ⟨a1, a2, a3, a4⟩ := nxG_ok (G := G) hf
    by_cases c : nxG G n f = n
    · rw [cnL_0 (n - (f + 1)) (f + 1) (fun j j1 j2 => a3 j (by omega) (by omega))]
      exact ⟨c, fun i i1 i2 => a3 i i1 (by omega)⟩
    · have hG := a4 (by omega)
      have e : cnL G (n - (f + 1)) (f + 1) = cnL G (n - (nxG G n f + 1)) (nxG G n f + 1) + 1 := by
        rw [show n - (f + 1) = (nxG G n f - (f + 1)) + ((n - (nxG G n f + 1)) + 1) by omega, cnL_skip _ _ (fun j j1 j2 => a3 j (by omega) (by omega)), show f + 1 + (nxG G n f - (f + 1)) = nxG G n f by omega]
        simp only [cnL]
        rw [if_pos hG, Nat.add_comm]
      rw [e]
      exact ⟨by omega, a3, hG, ih (n - nxG G n f) (by omega) (nxG G n f) (by omega) (by omega)⟩
/-! which number is cut next -/
theorem gnL_in {K : Nat → Int32} {en : Nat} {G : Nat → Bool} : ∀ (d i : Nat) (gr : Int32) (ng fr tt : Nat), i + d = en → tt = eosL G en d i → (gnL K en G d i gr ng fr tt = ng ∨ (i ≤ gnL K en G d i gr ng fr tt ∧ gnL K en G d i gr ng fr tt < en ∧ G (gnL K en G d i gr ng fr tt) = false))
  | 0, _, _, _, _, _, _, _ => Or.inl rfl
  | d + 1, i, gr, ng, fr, tt, hd, ht => by
    have hs := eosL_self (G := G) (d := d + 1) (i := i) hd (by omega)
    rw [← ht] at hs
    simp only [gnL]
    by_cases c : i = tt
    · rw [if_pos c]
      rcases gnL_in (K := K) (en := en) (G := G) d (i + 1) gr ng i (eosL G en (en - (i + 1)) (i + 1)) (by omega) (by rw [show en - (i + 1) = d by omega]) with h | ⟨h1, h2, h3⟩
      · exact Or.inl h
      · exact Or.inr ⟨by omega, h2, h3⟩
    · rw [if_neg c]
      have hg : G i = false := by
        cases hG : G i
        · rfl
        · exact absurd (hs.mpr hG).symm c
      have ht2 : tt = eosL G en d (i + 1) := by
        rw [ht]
        simp only [eosL]
        rw [if_neg (by rw [hg]; decide)]
      split
      · rcases gnL_in (K := K) (en := en) (G := G) d (i + 1) gr ng fr tt (by omega) ht2 with h | ⟨h1, h2, h3⟩
        · exact Or.inl h
        · exact Or.inr ⟨by omega, h2, h3⟩
      · rcases gnL_in (K := K) (en := en) (G := G) d (i + 1) (K (tri (tt - 1) + fr) - K (tri (i - 1) + fr) - K (tri (tt - 1) + i)) i fr tt (by omega) ht2 with h | ⟨h1, h2, h3⟩
        · rw [h]; exact Or.inr ⟨Nat.le_refl _, by omega, hg⟩
        · exact Or.inr ⟨by omega, h2, h3⟩
theorem gnL_pos {K : Nat → Int32} {en : Nat} {G : Nat → Bool} : ∀ (d i : Nat) (gr : Int32) (ng fr tt : Nat), 0 < i → 0 < ng → 0 < gnL K en G d i gr ng fr tt
  | 0, _, _, _, _, _, _, h => h
  | d + 1, i, gr, ng, fr, tt, hi, h => by
    simp only [gnL]
    split
    · exact gnL_pos d (i + 1) _ _ _ _ (by omega) h
    · split
      · exact gnL_pos d (i + 1) _ _ _ _ (by omega) h
      · exact gnL_pos d (i + 1) _ _ _ _ (by omega) hi
/-- through a segment: no gain there is greater, or a number is found -/
theorem gnL_seg {K : Nat → Int32} {en : Nat} {G : Nat → Bool} {gr : Int32} {fr tt : Nat} : ∀ (a d i : Nat), 0 < i → i + a = tt → gnL K en G (a + d) i gr 0 fr tt = 0 → (∀ j, i ≤ j → j < tt → K (tri (tt - 1) + fr) - K (tri (j - 1) + fr) - K (tri (tt - 1) + j) ≤ gr) ∧ gnL K en G d tt gr 0 fr tt = 0
  | 0, d, i, hi, ha, h => by
    obtain rfl : i = tt := by omega
    rw [Nat.zero_add] at h
    exact ⟨fun j j1 j2 => absurd j1 (by omega), h⟩
  | a + 1, d, i, hi, ha, h => by
    rw [show a + 1 + d = (a + d) + 1 by omega] at h
    simp only [gnL] at h
    rw [if_neg (by omega)] at h
    by_cases c : K (tri (tt - 1) + fr) - K (tri (i - 1) + fr) - K (tri (tt - 1) + i) ≤ gr
    · rw [if_pos c] at h
      have ih := gnL_seg a d (i + 1) (by omega) (by omega) h
      refine ⟨fun j j1 j2 => ?_, ih.2⟩
      by_cases e : j = i
      · rw [e]; exact c
      · exact ih.1 j (by omega) j2
    · rw [if_neg c] at h
      have := gnL_pos (K := K) (en := en) (G := G) (a + d) (i + 1) (K (tri (tt - 1) + fr) - K (tri (i - 1) + fr) - K (tri (tt - 1) + i)) i fr tt (by omega) hi
      omega
theorem gnL_all {K : Nat → Int32} {n : Nat} {G : Nat → Bool} {gr : Int32} : ∀ (k f : Nat), f < n → GCh (nxG G n) n G k f → gnL K n G (n - (f + 1)) (f + 1) gr 0 f (nxG G n f) = 0 →
    ∀ i, i ≤ k → ∀ j, chP (nxG G n) f i < j → j < chP (nxG G n) f (i + 1) → K (tri (chP (nxG G n) f (i + 1) - 1) + chP (nxG G n) f i) - K (tri (j - 1) + chP (nxG G n) f i) - K (tri (chP (nxG G n) f (i + 1) - 1) + j) ≤ gr
  | 0, f, hf, h, hg, i, hi, j, j1, j2 => by
    obtain rfl : i = 0 := by omega
    obtain ⟨a1, a2, a3, a4⟩ := nxG_ok (G := G) hf
    rw [show n - (f + 1) = (nxG G n f - (f + 1)) + (n - nxG G n f) by omega] at hg
    exact (gnL_seg (nxG G n f - (f + 1)) (n - nxG G n f) (f + 1) (by omega) (by omega) hg).1 j j1 j2
  | k + 1, f, hf, h, hg, i, hi, j, j1, j2 => by
    obtain ⟨a1, a2, a3, a4⟩ := nxG_ok (G := G) hf
    obtain ⟨h1, h2, h3, h4⟩ := h
    rw [show n - (f + 1) = (nxG G n f - (f + 1)) + ((n - (nxG G n f + 1)) + 1) by omega] at hg
    obtain ⟨g1, g2⟩ := gnL_seg (nxG G n f - (f + 1)) ((n - (nxG G n f + 1)) + 1) (f + 1) (by omega) (by omega) hg
    simp only [gnL] at g2
    rw [if_pos trivial] at g2
    cases i with
    | zero => exact g1 j j1 j2
    | succ i =>
      rw [chP_next _ f i] at j1
      rw [chP_next _ f (i + 1)] at j2
      rw [chP_next _ f (i + 1), chP_next _ f i]
      exact gnL_all k (nxG G n f) h1 h4 g2 i (by omega) j j1 j2
/-- what the greedy search leaves -/
theorem ggL_ok {K : Nat → Int32} {n : Nat} {pn : Int32} (hn0 : 0 < n) : ∀ (d : Nat) (w : CuS), w.1 0 = false → w.2.1 = nI (cnL w.1 (n - 1) 1) → n - 1 ≤ cnL w.1 (n - 1) 1 + d →
    (ggL K n pn d w).1 0 = false ∧ (ggL K n pn d w).2.1 = nI (cnL (ggL K n pn d w).1 (n - 1) 1) ∧ (gnT K n (ggL K n pn d w).1 pn = 0 ∨ n - 1 ≤ cnL (ggL K n pn d w).1 (n - 1) 1)
  | 0, w, h1, h2, h3 => ⟨h1, h2, Or.inr h3⟩
  | d + 1, w, h1, h2, h3 => by
    simp only [ggL]
    by_cases c : gnT K n w.1 pn = 0
    · rw [if_pos c]
      exact ⟨h1, h2, Or.inl c⟩
    · rw [if_neg c]
      have hin : gnT K n w.1 pn = 0 ∨ (1 ≤ gnT K n w.1 pn ∧ gnT K n w.1 pn < n ∧ w.1 (gnT K n w.1 pn) = false) := gnL_in (K := K) (en := n) (G := w.1) (n - 1) 1 pn 0 0 (eosL w.1 n (n - (0 + 1)) (0 + 1)) (by omega) rfl
      obtain ⟨i1, i2, i3⟩ := hin.resolve_left c
      generalize gnT K n w.1 pn = a at *
      have hu := cnL_upd i3 (n - 1) 1 i1 (by omega)
      refine ggL_ok hn0 d (cu_cut w a) ?_ ?_ ?_
      · show updB w.1 a true 0 = false
        rw [upB_ne (by omega)]; exact h1
      · show w.2.1 + 1 = nI (cnL (updB w.1 a true) (n - 1) 1)
        rw [hu, h2, nI_1]
      · show n - 1 ≤ cnL (updB w.1 a true) (n - 1) 1 + d
        rw [hu]; omega
theorem cnL_full {G : Nat → Bool} : ∀ (d i : Nat), d ≤ cnL G d i → ∀ j, i ≤ j → j < i + d → G j = true
  | 0, i, _, j, j1, j2 => absurd j1 (by omega)
  | d + 1, i, h, j, j1, j2 => by
    simp only [cnL] at h
    have hl := cnL_le G d (i + 1)
    by_cases c : G i = true
    · rw [if_pos c] at h
      by_cases e : j = i
      · rw [e]; exact c
      · exact cnL_full d (i + 1) (by omega) j (by omega) (by omega)
    · rw [if_neg c] at h
      omega
def GreedyOK (v : Nat → Int32) (n : Nat) (pn : Int32) (w : CuS) : Prop :=
  (n = 0 → w.2.1 = 0 ∧ w.2.2.1 = 0) ∧ (0 < n → ∃ k P, CutOK v n pn w k P ∧ ∀ i, i ≤ k → ∀ j, P i < j → j < P (i + 1) → cF v (P i) (P (i + 1)) - cF v (P i) j - cF v j (P (i + 1)) ≤ pn)
theorem greedy_ok {v : Nat → Int32} {K : Nat → Int32} {n : Nat} {pn : Int32} (hn : n ≤ 120) (hK : SC v n K) (hp : 0 ≤ pn.toInt ∧ pn.toInt ≤ 100000) (cu0 : CuS) : GreedyOK v n pn (cu_set K n pn (ggT K n pn cu0)) := by
  refine ⟨fun h0 => ?_, fun h0 => ?_⟩
  · subst h0
    refine ⟨rfl, ?_⟩
    show (0 : Int32) * pn = 0
    rw [Int32.zero_mul]
  · have hoff : ∀ j, j < 120 → (cu_join cu0).1 j = false := fun j hj => (offL_at 120 0 cu0.1).1 j (Nat.zero_le _) (by omega)
    have hz : cnL (cu_join cu0).1 (n - 1) 1 = 0 := cnL_0 (n - 1) 1 (fun j j1 j2 => hoff j (by omega))
    have hg := ggL_ok (K := K) (pn := pn) h0 (n - 1) (cu_join cu0) (hoff 0 (by omega)) (by rw [hz]; rfl) (by omega)
    have e : ggL K n pn (n - 1) (cu_join cu0) = ggT K n pn cu0 := rfl
    rw [e] at hg
    generalize ggT K n pn cu0 = w at *
    obtain ⟨g1, g2, g3⟩ := hg
    have hG := GCh_G (G := w.1) (n := n) n 0 (by omega) h0
    rw [Nat.zero_add] at hG
    have hcut := cut_ok hn h0 hK hp (fun f hf => (nxG_ok (G := w.1) hf).1) hG g1 g2
    refine ⟨_, _, hcut, fun i hi j j1 j2 => ?_⟩
    have hC := hcut.1
    have hle := Chn_le hC (show i + 1 ≤ cnL w.1 (n - 1) 1 + 1 by omega)
    have hlt := hC.2.2 i hi
    rcases g3 with g3 | g3
    · have h9 := gnL_all (K := K) (cnL w.1 (n - 1) 1) 0 h0 hG g3 i hi j j1 j2
      rw [SC_c hK (by omega) (by omega), SC_c hK (by omega) (by omega), SC_c hK (by omega) (by omega)] at h9
      exact h9
    · exfalso
      have hj := cnL_full (n - 1) 1 g3 j (by omega) (by omega)
      have hs : chP (nxG w.1 n) 0 (i + 1) = nxG w.1 n (chP (nxG w.1 n) 0 i) := by
        cases i with
        | zero => rfl
        | succ i => exact chN_succ _ _ _
      rw [hs] at j2
      have := (nxG_ok (G := w.1) (show chP (nxG w.1 n) 0 i < n by omega)).2.2.1 j j1 j2
      rw [hj] at this
      cases this
