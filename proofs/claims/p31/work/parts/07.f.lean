/-! cuttings as rising rows of numbers: what they cost, the least of them -/
def Chn (P : Nat → Nat) (k n : Nat) : Prop := P 0 = 0 ∧ P (k + 1) = n ∧ ∀ i, i ≤ k → P i < P (i + 1)
noncomputable def sX (v : Nat → Int32) (P : Nat → Nat) : Nat → Nat → Int
  | 0, i => cI v (P i) (P (i + 1))
  | d + 1, i => cI v (P i) (P (i + 1)) + sX v P d (i + 1)
theorem sX_snoc (v : Nat → Int32) (P : Nat → Nat) : ∀ d i, sX v P (d + 1) i = sX v P d i + cI v (P (i + d + 1)) (P (i + d + 2))
  | 0, i => rfl
  | d + 1, i => by
    show cI v (P i) (P (i + 1)) + sX v P (d + 1) (i + 1) = cI v (P i) (P (i + 1)) + sX v P d (i + 1) + _
    rw [sX_snoc v P d (i + 1), show i + 1 + d + 1 = i + (d + 1) + 1 by omega, show i + 1 + d + 2 = i + (d + 1) + 2 by omega]
    omega
theorem sX_shift {v : Nat → Int32} {P Q : Nat → Nat} : ∀ (d i j : Nat), (∀ m, m ≤ d + 1 → P (i + m) = Q (j + m)) → sX v P d i = sX v Q d j
  | 0, i, j, h => by
    show cI v (P i) (P (i + 1)) = cI v (Q j) (Q (j + 1))
    rw [h 1 (by omega)]
    have := h 0 (by omega)
    rw [Nat.add_zero, Nat.add_zero] at this
    rw [this]
  | d + 1, i, j, h => by
    show cI v (P i) (P (i + 1)) + sX v P d (i + 1) = cI v (Q j) (Q (j + 1)) + sX v Q d (j + 1)
    have h0 := h 0 (by omega)
    rw [Nat.add_zero, Nat.add_zero] at h0
    rw [h 1 (by omega), h0, sX_shift d (i + 1) (j + 1) (fun m hm => by
      have := h (m + 1) (by omega)
      rw [show i + 1 + m = i + (m + 1) by omega, show j + 1 + m = j + (m + 1) by omega]
      exact this)]
theorem Chn_ge {P : Nat → Nat} {k n : Nat} (h : Chn P k n) : ∀ i, i ≤ k + 1 → i ≤ P i
  | 0, _ => Nat.zero_le _
  | i + 1, hi => by
    have := Chn_ge h i (by omega)
    have := h.2.2 i (by omega)
    omega
theorem Chn_mono {P : Nat → Nat} {k n : Nat} (h : Chn P k n) : ∀ d i, i + d ≤ k + 1 → P i ≤ P (i + d)
  | 0, i, _ => Nat.le_refl _
  | d + 1, i, hi => by
    have := Chn_mono h d i (by omega)
    have := h.2.2 (i + d) (by omega)
    rw [show i + (d + 1) = i + d + 1 by omega]
    omega
theorem Chn_le {P : Nat → Nat} {k n : Nat} (h : Chn P k n) {i : Nat} (hi : i ≤ k + 1) : P i ≤ n := by
  have := Chn_mono h (k + 1 - i) i (by omega)
  rw [show i + (k + 1 - i) = k + 1 by omega, h.2.1] at this
  exact this
theorem Chn_lt {P : Nat → Nat} {k n : Nat} (h : Chn P k n) : k < n := by
  have := Chn_ge h (k + 1) (Nat.le_refl _)
  rw [h.2.1] at this
  omega
/-! the least costs -/
theorem mnF_at {P : Nat → Int32} : ∀ (d i : Nat) (fo : Int32) (j : Nat), i ≤ j → j < i + d → (mnF P d i fo).toInt ≤ (P j).toInt
  | 0, i, _, j, h1, h2 => absurd h1 (by omega)
  | d + 1, i, fo, j, h1, h2 => by
    simp only [mnF]
    by_cases e : j = i
    · subst e
      have := mnF_le (P := P) d (j + 1) (if P j < fo then P j else fo)
      by_cases c : P j < fo
      · rw [if_pos c] at this ⊢; exact this
      · rw [if_neg c] at this ⊢
        rw [i_lt] at c
        omega
    · exact mnF_at d (i + 1) _ j (by omega) (by omega)
theorem mnF_ex {P : Nat → Int32} : ∀ (d i : Nat) (fo : Int32), mnF P d i fo = fo ∨ ∃ j, i ≤ j ∧ j < i + d ∧ mnF P d i fo = P j
  | 0, _, _ => Or.inl rfl
  | d + 1, i, fo => by
    simp only [mnF]
    by_cases c : P i < fo
    · rw [if_pos c]
      rcases mnF_ex (P := P) d (i + 1) (P i) with h | ⟨j, h1, h2, h3⟩
      · exact Or.inr ⟨i, Nat.le_refl _, by omega, h⟩
      · exact Or.inr ⟨j, by omega, by omega, h3⟩
    · rw [if_neg c]
      rcases mnF_ex (P := P) d (i + 1) fo with h | ⟨j, h1, h2, h3⟩
      · exact Or.inl h
      · exact Or.inr ⟨j, by omega, by omega, h3⟩
theorem lsp_term {v : Nat → Int32} {K : Nat → Int32} {n : Nat} (hn : n ≤ 120) (hK : SC v n K) {c i t : Nat} (h1 : c < i) (h2 : i < t) (h3 : t ≤ n) :
    (lsp K c i + K (tri (t - 1) + i)).toInt = (lsp K c i).toInt + cI v i t := by
  have a := lsp_bd hn (KB_of hn hK) c i h1 (by omega)
  have b := KB_of hn hK i t h2 h3
  rw [ti_add (by omega) (by omega), SC_c hK h2 h3]
  rfl
theorem lsp_at {v : Nat → Int32} {K : Nat → Int32} {n : Nat} (hn : n ≤ 120) (hK : SC v n K) {c i t : Nat} (h1 : c < i) (h2 : i < t) (h3 : t ≤ n) :
    (lsp K (c + 1) t).toInt ≤ (lsp K c i).toInt + cI v i t := by
  rw [← lsp_term hn hK h1 h2 h3]
  simp only [lsp]
  exact mnF_at (P := fun i => lsp K c i + K (tri (t - 1) + i)) _ _ _ i (by omega) (by omega)
theorem lsp_ex {v : Nat → Int32} {K : Nat → Int32} {n : Nat} (hn : n ≤ 120) (hK : SC v n K) {c t : Nat} (h1 : c + 1 < t) (h3 : t ≤ n) :
    ∃ i, c < i ∧ i < t ∧ (lsp K (c + 1) t).toInt = (lsp K c i).toInt + cI v i t := by
  have hb := lsp_bd hn (KB_of hn hK) (c + 1) t h1 h3
  have he : lsp K (c + 1) t = mnF (fun i => lsp K c i + K (tri (t - 1) + i)) (t - (c + 1)) (c + 1) 2147483647 := rfl
  rcases mnF_ex (P := fun i => lsp K c i + K (tri (t - 1) + i)) (t - (c + 1)) (c + 1) 2147483647 with h | ⟨j, j1, j2, h⟩
  · rw [he, h, show (2147483647 : Int32).toInt = 2147483647 by decide] at hb
    omega
  · refine ⟨j, by omega, by omega, ?_⟩
    rw [he, h]
    exact lsp_term hn hK (by omega) (by omega) h3
theorem lsp_lo {v : Nat → Int32} {K : Nat → Int32} {n : Nat} (hn : n ≤ 120) (hK : SC v n K) : ∀ (k : Nat) (P : Nat → Nat) (t : Nat), t ≤ n → Chn P k t → (lsp K k t).toInt ≤ sX v P k 0
  | 0, P, t, ht, h => by
    have h0 := h.2.2 0 (Nat.le_refl _)
    rw [h.1, h.2.1] at h0
    show (K (tri (t - 1) + 0)).toInt ≤ cI v (P 0) (P 1)
    rw [SC_c hK h0 ht, h.1, show P 1 = t from h.2.1]
    exact Int.le_refl _
  | k + 1, P, t, ht, h => by
    have hc : Chn P k (P (k + 1)) := ⟨h.1, rfl, fun i hi => h.2.2 i (by omega)⟩
    have hl := h.2.2 (k + 1) (Nat.le_refl _)
    rw [h.2.1] at hl
    have ih := lsp_lo hn hK k P (P (k + 1)) (by omega) hc
    have g := lsp_at hn hK (Chn_lt hc) hl ht
    rw [sX_snoc, show 0 + k + 1 = k + 1 by omega, show 0 + k + 2 = k + 1 + 1 by omega, h.2.1]
    omega
theorem lsp_hi {v : Nat → Int32} {K : Nat → Int32} {n : Nat} (hn : n ≤ 120) (hK : SC v n K) : ∀ (c t : Nat), c < t → t ≤ n → ∃ P, Chn P c t ∧ sX v P c 0 = (lsp K c t).toInt
  | 0, t, h1, h2 => by
    refine ⟨fun i => if i = 0 then 0 else t, ⟨rfl, rfl, fun i hi => ?_⟩, ?_⟩
    · obtain rfl : i = 0 := by omega
      exact h1
    · show cI v 0 t = (K (tri (t - 1) + 0)).toInt
      rw [SC_c hK h1 h2]; rfl
  | c + 1, t, h1, h2 => by
    obtain ⟨j, j1, j2, e⟩ := lsp_ex hn hK h1 h2
    obtain ⟨P, hP, hs⟩ := lsp_hi hn hK c j j1 (by omega)
    refine ⟨fun i => if i ≤ c + 1 then P i else t, ⟨?_, ?_, fun i hi => ?_⟩, ?_⟩
    · show (if 0 ≤ c + 1 then P 0 else t) = 0
      rw [if_pos (Nat.zero_le _)]; exact hP.1
    · show (if c + 1 + 1 ≤ c + 1 then _ else t) = t
      rw [if_neg (by omega)]
    · show (if i ≤ c + 1 then P i else t) < (if i + 1 ≤ c + 1 then P (i + 1) else t)
      rw [if_pos hi]
      by_cases g : i + 1 ≤ c + 1
      · rw [if_pos g]; exact hP.2.2 i (by omega)
      · rw [if_neg g]
        obtain rfl : i = c + 1 := by omega
        rw [hP.2.1]; exact j2
    · rw [sX_snoc, e, ← hs]
      show _ + cI v (if 0 + c + 1 ≤ c + 1 then P (0 + c + 1) else t) (if 0 + c + 2 ≤ c + 1 then P (0 + c + 2) else t) = _
      rw [if_pos (by omega), if_neg (by omega), show 0 + c + 1 = c + 1 by omega, hP.2.1]
      congr 1
      exact sX_shift c 0 0 (fun m hm => by
        show (if 0 + m ≤ c + 1 then P (0 + m) else t) = P (0 + m)
        rw [if_pos (by omega)])
theorem lsp_mono {v : Nat → Int32} (hv : VB v) {K : Nat → Int32} {n : Nat} (hn : n ≤ 120) (hK : SC v n K) : ∀ (c t : Nat), c + 1 < t → t ≤ n → (lsp K (c + 1) t).toInt ≤ (lsp K c t).toInt
  | 0, t, h1, h2 => by
    have a := lsp_at (c := 0) hn hK (show 0 < 1 by omega) h1 h2
    have b : (lsp K 0 1).toInt = cI v 0 1 := by
      show (K (tri (1 - 1) + 0)).toInt = _
      rw [SC_c hK (by omega) (by omega)]; rfl
    have d : (lsp K 0 t).toInt = cI v 0 t := by
      show (K (tri (t - 1) + 0)).toInt = _
      rw [SC_c hK (by omega) h2]; rfl
    have e := cI_sup hv (show 0 < 1 by omega) (show 1 < t by omega) (by omega)
    omega
  | c + 1, t, h1, h2 => by
    obtain ⟨m, m1, m2, e⟩ := lsp_ex (c := c) hn hK (show c + 1 < t by omega) h2
    by_cases g : c + 1 < m
    · have ih := lsp_mono hv hn hK c m g (by omega)
      have a := lsp_at (c := c + 1) hn hK g m2 h2
      omega
    · obtain rfl : m = c + 1 := by omega
      have a := lsp_at (c := c + 1) hn hK (show c + 1 < c + 2 by omega) (show c + 2 < t by omega) h2
      have b := lsp_at (c := c) hn hK (show c < c + 1 by omega) (show c + 1 < c + 2 by omega) (by omega)
      have d := cI_sup hv (show c + 1 < c + 2 by omega) (show c + 2 < t by omega) (by omega)
      omega
theorem lsp_top {v : Nat → Int32} (hv : VB v) {K : Nat → Int32} {n : Nat} (hn : n ≤ 120) (hK : SC v n K) : ∀ c, c < n → (lsp K c (c + 1)).toInt = 0
  | 0, h => by
    show (K (tri (0 + 1 - 1) + 0)).toInt = _
    rw [SC_c hK (by omega) (by omega)]
    exact cI_one hv (by omega)
  | c + 1, h => by
    obtain ⟨m, m1, m2, e⟩ := lsp_ex (c := c) hn hK (show c + 1 < c + 1 + 1 by omega) (by omega)
    obtain rfl : m = c + 1 := by omega
    have ih := lsp_top hv hn hK c (by omega)
    have o := cI_one hv (show c + 1 < 120 by omega)
    omega
