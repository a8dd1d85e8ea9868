/-! least costs: both sides -/
def mnF (P : Nat → Int32) : Nat → Nat → Int32 → Int32
  | 0, _, fo => fo
  | d + 1, i, fo => mnF P d (i + 1) (if P i < fo then P i else fo)
theorem mnF_congr {P Q : Nat → Int32} : ∀ (d i : Nat) (fo : Int32), (∀ j, i ≤ j → j < i + d → P j = Q j) → mnF P d i fo = mnF Q d i fo
  | 0, _, _, _ => rfl
  | d + 1, i, fo, h => by
    simp only [mnF]
    rw [h i (Nat.le_refl _) (by omega)]
    exact mnF_congr d (i + 1) _ (fun j h1 h2 => h j (by omega) (by omega))
theorem mnF_le {P : Nat → Int32} : ∀ (d i : Nat) (fo : Int32), (mnF P d i fo).toInt ≤ fo.toInt
  | 0, _, _ => Int.le_refl _
  | d + 1, i, fo => by
    simp only [mnF]
    have := mnF_le (P := P) d (i + 1) (if P i < fo then P i else fo)
    by_cases c : P i < fo
    · rw [if_pos c] at this ⊢
      rw [i_lt] at c
      omega
    · rw [if_neg c] at this ⊢
      exact this
theorem mnF_ge {P : Nat → Int32} {B : Int} : ∀ (d i : Nat) (fo : Int32), B ≤ fo.toInt → (∀ j, i ≤ j → j < i + d → B ≤ (P j).toInt) → B ≤ (mnF P d i fo).toInt
  | 0, _, _, h, _ => h
  | d + 1, i, fo, h, hP => by
    simp only [mnF]
    refine mnF_ge d (i + 1) _ ?_ (fun j h1 h2 => hP j (by omega) (by omega))
    by_cases c : P i < fo
    · rw [if_pos c]; exact hP i (Nat.le_refl _) (by omega)
    · rw [if_neg c]; exact h
theorem mnF_max {P : Nat → Int32} {d i : Nat} (h : (P i).toInt < 2147483647) : mnF P (d + 1) i 2147483647 = mnF P d (i + 1) (P i) := by
  simp only [mnF]
  rw [if_pos ((i_lt _ _).mpr (by rw [show (2147483647 : Int32).toInt = 2147483647 by decide]; exact h))]
def lsp (K : Nat → Int32) : Nat → Nat → Int32
  | 0, t => K (tri (t - 1) + 0)
  | c + 1, t => mnF (fun i => lsp K c i + K (tri (t - 1) + i)) (t - (c + 1)) (c + 1) 2147483647
/-- costs lie in their bounds -/
def KB (n : Nat) (K : Nat → Int32) : Prop := ∀ f t, f < t → t ≤ n → 0 ≤ (K (tri (t - 1) + f)).toInt ∧ (K (tri (t - 1) + f)).toInt ≤ 240000
theorem lsp_bd {K : Nat → Int32} {n : Nat} (hn : n ≤ 120) (hK : KB n K) : ∀ c t, c < t → t ≤ n → 0 ≤ (lsp K c t).toInt ∧ (lsp K c t).toInt ≤ 240000 * ((c + 1 : Nat) : Int)
  | 0, t, h1, h2 => by
    have := hK 0 t h1 h2
    simp only [lsp]
    omega
  | c + 1, t, h1, h2 => by
    have ih := fun i => lsp_bd hn hK c i
    have key : ∀ i, c + 1 ≤ i → i < t → 0 ≤ (lsp K c i + K (tri (t - 1) + i)).toInt ∧ (lsp K c i + K (tri (t - 1) + i)).toInt ≤ 240000 * ((c + 1 + 1 : Nat) : Int) := by
      intro i g1 g2
      have a := ih i (by omega) (by omega)
      have b := hK i t g2 h2
      rw [ti_add (by omega) (by omega)]
      omega
    simp only [lsp]
    obtain ⟨d, hd⟩ : ∃ d, t - (c + 1) = d + 1 := ⟨t - (c + 1) - 1, by omega⟩
    have k1 := key (c + 1) (Nat.le_refl _) h1
    rw [hd, mnF_max (P := fun i => lsp K c i + K (tri (t - 1) + i)) (by omega)]
    have g := mnF_le (P := fun i => lsp K c i + K (tri (t - 1) + i)) d (c + 1 + 1) (lsp K c (c + 1) + K (tri (t - 1) + (c + 1)))
    have g2 := mnF_ge (P := fun i => lsp K c i + K (tri (t - 1) + i)) (B := 0) d (c + 1 + 1) (lsp K c (c + 1) + K (tri (t - 1) + (c + 1))) k1.1 (fun j j1 j2 => (key j (by omega) (by omega)).1)
    omega
theorem lsp_congr {K K' : Nat → Int32} : ∀ c t, c < t → (∀ f s, f < s → s ≤ t → K (tri (s - 1) + f) = K' (tri (s - 1) + f)) → lsp K c t = lsp K' c t
  | 0, t, h1, h => h 0 t h1 (Nat.le_refl _)
  | c + 1, t, h1, h => by
    simp only [lsp]
    refine mnF_congr _ _ _ (fun j j1 j2 => ?_)
    show lsp K c j + K (tri (t - 1) + j) = lsp K' c j + K' (tri (t - 1) + j)
    rw [lsp_congr c j (by omega) (fun f s s1 s2 => h f s s1 (by omega)), h j t (by omega) (Nat.le_refl _)]
theorem lwL_mn (L K : Nat → Int32) (ch tt : Nat) : ∀ (d i : Nat) (fo : Int32), lwL L K ch tt d i fo = mnF (fun i => L (tri (i - 1) + (ch - 1)) + K (tri (tt - 1) + i)) d i fo
  | 0, _, _ => rfl
  | d + 1, i, fo => by
    simp only [lwL, mnF]
    exact lwL_mn L K ch tt d (i + 1) _
def LM (K : Nat → Int32) (n : Nat) (L : Nat → Int32) : Prop := ∀ c t, c < t → t ≤ n → L (tri (t - 1) + c) = lsp K c t
theorem tri_ne {f t g s : Nat} (h1 : f < t) (h2 : s < t) (h3 : g < s) : tri (s - 1) + g ≠ tri (t - 1) + f := by
  have a := tri_row h3
  have b := tri_mono (show s ≤ t - 1 by omega)
  omega
theorem lcL_ok {K : Nat → Int32} {tt : Nat} : ∀ (d ch : Nat) (L : Nat → Int32), 0 < ch → ch + d = tt → (∀ c t, c < t → t < tt → L (tri (t - 1) + c) = lsp K c t) → (∀ c, c < ch → L (tri (tt - 1) + c) = lsp K c tt) → ∀ c t, c < t → t ≤ tt → (lcL K tt d ch L) (tri (t - 1) + c) = lsp K c t
  | 0, ch, L, h0, hd, h1, h2, c, t, g1, g2 => by
    by_cases e : t = tt
    · subst e; exact h2 c (by omega)
    · exact h1 c t g1 (by omega)
  | d + 1, ch, L, h0, hd, h1, h2, c, t, g1, g2 => by
    simp only [lcL]
    have ev : lwL L K ch tt (tt - ch) ch 2147483647 = lsp K ch tt := by
      obtain ⟨c', rfl⟩ : ∃ c', ch = c' + 1 := ⟨ch - 1, by omega⟩
      rw [lwL_mn]
      simp only [lsp]
      refine mnF_congr _ _ _ (fun j j1 j2 => ?_)
      show L (tri (j - 1) + (c' + 1 - 1)) + _ = _
      rw [Nat.add_sub_cancel, h1 c' j (by omega) (by omega)]
    rw [ev]
    refine lcL_ok d (ch + 1) _ (by omega) (by omega) (fun c t k1 k2 => ?_) (fun c k1 => ?_) c t g1 g2
    · rw [up_ne (tri_ne (by omega) k2 k1)]; exact h1 c t k1 k2
    · by_cases e : c = ch
      · subst e; rw [up_at]
      · rw [up_ne (by omega)]; exact h2 c (by omega)
theorem leaL_ok {K : Nat → Int32} : ∀ (d g : Nat) (L : Nat → Int32), LM K g L → LM K (g + d) (leaL K d g L)
  | 0, g, L, h => h
  | d + 1, g, L, h => by
    simp only [leaL]
    rw [show g + (d + 1) = g + 1 + d by omega]
    refine leaL_ok d (g + 1) _ ?_
    intro c t h1 h2
    refine lcL_ok (g + 1 - 1) 1 _ (by omega) (by omega) (fun c t k1 k2 => ?_) (fun c k1 => ?_) c t h1 h2
    · have := tri_row k1
      have := tri_mono (show t ≤ g + 1 - 1 by omega)
      rw [up_ne (by omega)]
      exact h c t k1 (by omega)
    · obtain rfl : c = 0 := by omega
      show upd L (tri (g + 1 - 1)) (K (tri (g + 1 - 1) + 0)) (tri (g + 1 - 1)) = _
      rw [up_at]
      rfl
