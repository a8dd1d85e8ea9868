/-! least costs: both sides -/
def mnF (P : Nat → Int32) : Nat → Nat → Int32 → Int32
  | 0, _, fo => fo
  | d + 1, i, fo => mnF P d (i + 1) (if P i < fo then P i else fo)
theorem mnF_congr {P Q : Nat → Int32} : ∀ (d i : Nat) (fo : Int32), (∀ j, i ≤ j → j < i + d → P j = Q j) → mnF P d i fo = mnF Q d i fo
  | 0, _, _, _ => rfl
  | d + 1, i, fo, h => by
    simp only [mnF]
    rw [h i (Nat.le_refl _) (by omega)]
    exact mnF_congr d (i + 1) _ (fun j h1 h2 => h j (by omega) (by omega))
theorem mnF_le {P : Nat → Int32} : ∀ (d i : Nat) (fo : Int32), (mnF P d i fo).toInt ≤ fo.toInt
  | 0, _, _ => Int.le_refl _
  | d + 1, i, fo => by
    simp only [mnF]
    have := mnF_le (P := P) d (i + 1) (if P i < fo then P i else fo)
    by_cases c : P i < fo
    · rw [if_pos c] at this ⊢
      rw [i_lt] at c
      omega
    · rw [if_neg c] at this ⊢
      exact this
theorem mnF_ge {P : Nat → Int32} {B : Int} : ∀ (d i : Nat) (fo : Int32), B ≤ fo.toInt → (∀ j, i ≤ j → j < i + d → B ≤ (P j).toInt) → B ≤ (mnF P d i fo).toInt
  | 0, _, _, h, _ => h
  | d + 1, i, fo, h, hP => by
    simp only [mnF]
    refine mnF_ge d (i + 1) _ ?_ (fun j h1 h2 => hP j (by omega) (by omega))
    by_cases c : P i < fo
    · rw [if_pos c]; exact hP i (Nat.le_refl _) (by omega)
    · rw [if_neg c]; exact h
theorem mnF_max {P : Nat → Int32} {d i : Nat} (h : (P i).toInt < 2147483647) : mnF P (d + 1) i 2147483647 = mnF P d (i + 1) (P i) := by
  simp only [mnF]
  rw [if_pos ((i_lt _ _).mpr (by rw [show (2147483647 : Int32).toInt = 2147483647 by decide]; exact h))]
def lsp (K : Nat → Int32) : Nat → Nat → Int32
  | 0, t => K (tri (t - 1) + 0)
  | c + 1, t => mnF (fun i => lsp K c i + K (tri (t - 1) + i)) (t - (c + 1)) (c + 1) 2147483647
/-- costs lie in their bounds -/
def KB (n : Nat) (K : Nat → Int32) : Prop := ∀ f t, f < t → t ≤ n → 0 ≤ (K (tri (t - 1) + f)).toInt ∧ (K (tri (t - 1) + f)).toInt ≤ 240000
theorem lsp_bd {K : Nat → Int32} {n : Nat} (hn : n ≤ 120) (hK : KB n K) : ∀ c t, c < t → t ≤ n → 0 ≤ (lsp K c t).toInt ∧ (lsp K c t).toInt ≤ 240000 * ((c + 1 : Nat) : Int)
  | 0, t, h1, h2 => by
    have := hK 0 t h1 h2
    simp only [lsp]
    omega
  | c + 1, t, h1, h2 => by
    have ih := fun i => lsp_bd hn hK c i
    have key : ∀ i, c + 1 ≤ i → i < t → 0 ≤ (lsp K c i + K (tri (t - 1) + i)).toInt ∧ (lsp K c i + K (tri (t - 1) + i)).toInt ≤ 240000 * ((c + 1 + 1 : Nat) : Int) := by
      intro i g1 g2
      have a := ih i (by omega) (by omega)
      have b := hK i t g2 h2
      rw [ti_add (by omega) (by omega)]
      omega
    simp only [lsp]
    obtain ⟨d, hd⟩ : ∃ d, t - (c + 1) = d + 1 := ⟨t - (c + 1) - 1, by omega⟩
    have k1 := key (c + 1) (Nat.le_refl _) h1
    rw [hd, mnF_max (P := fun i => lsp K c i + K (tri (t - 1) + i)) (by omega)]
    have g := mnF_le (P := fun i => lsp K c i + K (tri (t - 1) + i)) d (c + 1 + 1) (lsp K c (c + 1) + K (tri (t - 1) + (c + 1)))
    have g2 := mnF_ge (P := fun i => lsp K c i + K (tri (t - 1) + i)) (B := 0) d (c + 1 + 1) (lsp K c (c + 1) + K (tri (t - 1) + (c + 1))) k1.1 (fun j j1 j2 => (key j (by omega) (by omega)).1)
    omega
theorem lsp_congr {K K' : Nat → Int32} : ∀ c t, c < t → (∀ f s, f < s → s ≤ t → K (tri (s - 1) + f) = K' (tri (s - 1) + f)) → lsp K c t = lsp K' c t
  | 0, t, h1, h => h 0 t h1 (Nat.le_refl _)
  | c + 1, t, h1, h => by
    simp only [lsp]
    refine mnF_congr _ _ _ (fun j j1 j2 => ?_)
    show lsp K c j + K (tri (t - 1) + j) = lsp K' c j + K' (tri (t - 1) + j)
    rw [lsp_congr c j (by omega) (fun f s s1 s2 => h f s s1 (by omega)), h j t (by omega) (Nat.le_refl _)]
theorem lwL_mn (L K : Nat → Int32) (ch tt : Nat) : ∀ (d i : Nat) (fo : Int32), lwL L K ch tt d i fo = mnF (fun i => L (tri (i - 1) + (ch - 1)) + K (tri (tt - 1) + i)) d i fo
  | 0, _, _ => rfl
  | d + 1, i, fo => by
    simp only [lwL, mnF]
    exact lwL_mn L K ch tt d (i + 1) _
def LM (K : Nat → Int32) (n : Nat) (L : Nat → Int32) : Prop := ∀ c t, c < t → t ≤ n → L (tri (t - 1) + c) = lsp K c t
theorem tri_ne {f t g s : Nat} (h1 : f < t) (h2 : s < t) (h3 : g < s) : tri (s - 1) + g ≠ tri (t - 1) + f := by
  have a := tri_row h3
  have b := tri_mono (show s ≤ t - 1 by omega)
  omega
theorem lcL_ok {K : Nat → Int32} {tt : Nat} : ∀ (d ch : Nat) (L : Nat → Int32), 0 < ch → ch + d = tt → (∀ c t, c < t → t < tt → L (tri (t - 1) + c) = lsp K c t) → (∀ c, c < ch → L (tri (tt - 1) + c) = lsp K c tt) → ∀ c t, c < t → t ≤ tt → (lcL K tt d ch L) (tri (t - 1) + c) = lsp K c t
  | 0, ch, L, h0, hd, h1, h2, c, t, g1, g2 => by
    by_cases e : t = tt
    · subst e; exact h2 c (by omega)
    · exact h1 c t g1 (by omega)
  | d + 1, ch, L, h0, hd, h1, h2, c, t, g1, g2 => by
    simp only [lcL]
    have ev : lwL L K ch tt (tt - ch) ch 2147483647 = lsp K ch tt := by
      obtain ⟨c', rfl⟩ : ∃ c', ch = c' + 1 := ⟨ch - 1, by omega⟩
      rw [lwL_mn]
      simp only [lsp]
      refine mnF_congr _ _ _ (fun j j1 j2 => ?_)
      show L (tri (j - 1) + (c' + 1 - 1)) + _ = _
      rw [Nat.add_sub_cancel, h1 c' j (by omega) (by omega)]
    rw [ev]
    refine lcL_ok d (ch + 1) _ (by omega) (by omega) (fun c t k1 k2 => ?_) (fun c k1 => ?_) c t g1 g2
    · rw [up_ne (tri_ne (by omega) k2 k1)]; exact h1 c t k1 k2
    · by_cases e : c = ch
      · subst e; rw [up_at]
      · rw [up_ne (by omega)]; exact h2 c (by omega)
theorem leaL_ok {K : Nat → Int32} : ∀ (d g : Nat) (L : Nat → Int32), LM K g L → LM K (g + d) (leaL K d g L)
  | 0, g, L, h => h
  | d + 1, g, L, h => by
    simp only [leaL]
    rw [show g + (d + 1) = g + 1 + d by omega]
    refine leaL_ok d (g + 1) _ ?_
    intro c t h1 h2
    refine lcL_ok (g + 1 - 1) 1 _ (by omega) (by omega) (fun c t k1 k2 => ?_) (fun c k1 => ?_) c t h1 h2
    · have := tri_row k1
      have := tri_mono (show t ≤ g + 1 - 1 by omega)
      rw [up_ne (by omega)]
      exact h c t k1 (by omega)
    · obtain rfl : c = 0 := by omega
      show upd L (tri (g + 1 - 1)) (K (tri (g + 1 - 1) + 0)) (tri (g + 1 - 1)) = _
      rw [up_at]
      rfl
/-! the reference's rows -/
/-- both rows of costs say the same -/
def KK (n : Nat) (K M : Nat → Int32) : Prop := ∀ f t, f < t → t ≤ n → M (121 * f + t) = K (tri (t - 1) + f)
theorem o1L_at (M : Nat → Int32) : ∀ (d t : Nat) (o : Nat → Int32), (∀ j, t ≤ j → j < t + d → o1L M d t o j = M (121 * 0 + j)) ∧ (∀ j, (j < t ∨ t + d ≤ j) → o1L M d t o j = o j)
  | 0, t, o => ⟨fun j h1 h2 => absurd h1 (by omega), fun _ _ => rfl⟩
  | d + 1, t, o => by
    have ih := o1L_at M d (t + 1) (upd o t (M (121 * 0 + t)))
    simp only [o1L]
    refine ⟨fun j h1 h2 => ?_, fun j hj => ?_⟩
    · by_cases e : j = t
      · subst e; rw [ih.2 j (Or.inl (by omega)), up_at]
      · exact ih.1 j (by omega) (by omega)
    · rw [ih.2 j (by omega), up_ne (by omega)]
theorem olL_ne (M o : Nat → Int32) (tt : Nat) : ∀ (d fr : Nat) (t : Nat → Int32) (j : Nat), j ≠ tt → olL M o tt d fr t j = t j
  | 0, _, _, _, _ => rfl
  | d + 1, fr, t, j, h => by
    simp only [olL]
    split
    · split
      · rw [olL_ne M o tt d (fr + 1) _ j h, up_ne h]
      · split
        · rw [olL_ne M o tt d (fr + 1) _ j h, up_ne h]
        · split
          · rw [olL_ne M o tt d (fr + 1) _ j h, up_ne h]
          · rw [olL_ne M o tt d (fr + 1) _ j h, up_ne h]
    · rw [olL_ne M o tt d (fr + 1) _ j h, up_ne h]
theorem olL_skip {M o : Nat → Int32} {tt : Nat} {e : Nat} : ∀ (d fr : Nat) (t : Nat → Int32), (∀ j, fr ≤ j → j < fr + d → (o j).toInt < 0) → olL M o tt (d + e) fr t tt = olL M o tt e (fr + d) t tt
  | 0, fr, t, _ => by rw [Nat.zero_add, Nat.add_zero]
  | d + 1, fr, t, h => by
    have h0 := h fr (Nat.le_refl _) (by omega)
    rw [show d + 1 + e = (d + e) + 1 by omega]
    simp only [olL]
    rw [if_neg (by rw [i_le, show (0 : Int32).toInt = 0 by decide]; omega), olL_skip d (fr + 1) _ (fun j j1 j2 => h j (by omega) (by omega)), show fr + 1 + d = fr + (d + 1) by omega]
    congr 1
    funext j
    by_cases c : j = tt
    · subst c; rw [up_at]
    · rw [up_ne c]
theorem olL_mn {M o : Nat → Int32} {tt : Nat} : ∀ (d fr : Nat) (t : Nat → Int32), (∀ j, fr ≤ j → j < fr + d → 0 ≤ (o j).toInt ∧ 0 ≤ (o j + M (121 * j + tt)).toInt) → 0 ≤ (t tt).toInt → olL M o tt d fr t tt = mnF (fun j => o j + M (121 * j + tt)) d fr (t tt)
  | 0, _, _, _, _ => rfl
  | d + 1, fr, t, h, h0 => by
    have hf := h fr (Nat.le_refl _) (by omega)
    simp only [olL, mnF]
    have z : (0 : Int32).toInt = 0 := by decide
    rw [if_pos (by rw [i_le, z]; exact hf.1), if_neg (by rw [i_lt, z]; omega), if_neg (by rw [i_lt, z]; omega)]
    by_cases c : t tt ≤ o fr + M (121 * fr + tt)
    · rw [if_pos c, olL_mn d (fr + 1) _ (fun j j1 j2 => h j (by omega) (by omega)) (by rw [up_at]; exact h0), up_at, if_neg (by rw [i_lt]; rw [i_le] at c; omega)]
    · rw [if_neg c, olL_mn d (fr + 1) _ (fun j j1 j2 => h j (by omega) (by omega)) (by rw [up_at]; exact hf.2), up_at, if_pos (by rw [i_lt]; rw [i_le] at c; omega)]
/-- the reference's row behind so many changes -/
def OneOk (K : Nat → Int32) (n c : Nat) (o : Nat → Int32) : Prop := ∀ t, 1 ≤ t → t ≤ n → (c < t → o t = lsp K c t) ∧ (t ≤ c → (o t).toInt < 0)
theorem olL_ok {K M o : Nat → Int32} {n c tt : Nat} (hn : n ≤ 120) (hK : KB n K) (hM : KK n K M) (ho : OneOk K n c o) (h1 : 1 ≤ tt) (h2 : tt ≤ n) (t : Nat → Int32) : (c + 1 < tt → olL M o tt (tt - 1) 1 (upd t tt (-1)) tt = lsp K (c + 1) tt) ∧ (tt ≤ c + 1 → (olL M o tt (tt - 1) 1 (upd t tt (-1)) tt).toInt < 0) := by
  refine ⟨fun hc => ?_, fun hc => ?_⟩
  · have e : tt - 1 = c + (tt - 1 - c) := by omega
    rw [e, olL_skip c 1 _ (fun j j1 j2 => (ho j (by omega) (by omega)).2 (by omega))]
    have lb := lsp_bd hn hK c
    have key : ∀ j, c + 1 ≤ j → j < tt → o j + M (121 * j + tt) = lsp K c j + K (tri (tt - 1) + j) ∧ 0 ≤ (o j).toInt ∧ 0 ≤ (o j + M (121 * j + tt)).toInt ∧ (o j + M (121 * j + tt)).toInt < 2147483647 := by
      intro j j1 j2
      have a := (ho j (by omega) (by omega)).1 (by omega)
      have b := lb j (by omega) (by omega)
      have k := hK j tt j2 h2
      rw [a, hM j tt j2 h2]
      refine ⟨rfl, b.1, ?_⟩
      rw [ti_add (by omega) (by omega)]
      omega
    obtain ⟨d, hd⟩ : ∃ d, tt - 1 - c = d + 1 := ⟨tt - 1 - c - 1, by omega⟩
    have k1 := key (c + 1) (Nat.le_refl _) hc
    rw [hd, show 1 + c = c + 1 by omega]
    simp only [olL]
    have z : (0 : Int32).toInt = 0 := by decide
    rw [if_pos (by rw [i_le, z]; exact k1.2.1), if_neg (by rw [i_lt, z]; omega), up_at, if_pos (by decide), olL_mn d (c + 1 + 1) _ (fun j j1 j2 => ⟨(key j (by omega) (by omega)).2.1, (key j (by omega) (by omega)).2.2.1⟩) (by rw [up_at]; exact k1.2.2.1), up_at]
    simp only [lsp]
    rw [show tt - (c + 1) = d + 1 by omega, mnF_max (P := fun i => lsp K c i + K (tri (tt - 1) + i)) (by rw [← k1.1]; exact k1.2.2.2), k1.1]
    exact mnF_congr _ _ _ (fun j j1 j2 => (key j (by omega) (by omega)).1)
  · have e : tt - 1 = (tt - 1) + 0 := by omega
    rw [e, olL_skip (tt - 1) 1 _ (fun j j1 j2 => (ho j (by omega) (by omega)).2 (by omega))]
    show (upd t tt (-1) tt).toInt < 0
    rw [up_at]; decide
theorem o2L_ok {K M o : Nat → Int32} {n c : Nat} (hn : n ≤ 120) (hK : KB n K) (hM : KK n K M) (ho : OneOk K n c o) : ∀ (d tt : Nat) (t : Nat → Int32), 1 ≤ tt → tt + d = n + 1 → (∀ j, 1 ≤ j → j < tt → (c + 1 < j → t j = lsp K (c + 1) j) ∧ (j ≤ c + 1 → (t j).toInt < 0)) → OneOk K n (c + 1) (o2L M o d tt t)
  | 0, tt, t, h1, hd, h => fun j j1 j2 => h j j1 (by omega)
  | d + 1, tt, t, h1, hd, h => by
    simp only [o2L]
    refine o2L_ok hn hK hM ho d (tt + 1) _ (by omega) (by omega) (fun j j1 j2 => ?_)
    by_cases e : j = tt
    · subst e; exact olL_ok hn hK hM ho j1 (by omega) t
    · rw [olL_ne _ _ _ _ _ _ _ e, up_ne e]; exact h j j1 (by omega)
theorem cpL_at (t : Nat → Int32) : ∀ (d i : Nat) (o : Nat → Int32) (j : Nat), i ≤ j → j < i + d → cpL t d i o j = t j
  | 0, i, o, j, h1, h2 => absurd h1 (by omega)
  | d + 1, i, o, j, h1, h2 => by
    simp only [cpL]
    by_cases e : j = i
    · subst e
      have : ∀ (d i : Nat) (o : Nat → Int32), j < i → cpL t d i o j = o j := by
        intro d
        induction d with
        | zero => intro i o _; rfl
        | succ d ih => intro i o hi; simp only [cpL]; rw [ih _ _ (by omega), up_ne (by omega)]
      rw [this d (j + 1) _ (by omega), up_at]
    · exact cpL_at t d (i + 1) _ j (by omega) (by omega)
theorem lsL_ok {K M : Nat → Int32} {n : Nat} (hn : n ≤ 120) (hK : KB n K) (hM : KK n K M) : ∀ (d c : Nat) (o t : Nat → Int32), OneOk K n c o → OneOk K n (c + d) (lsL M n d o t).1
  | 0, c, o, t, h => h
  | d + 1, c, o, t, h => by
    simp only [lsL]
    rw [show c + (d + 1) = c + 1 + d by omega]
    refine lsL_ok hn hK hM d (c + 1) _ _ ?_
    have h2 := o2L_ok hn hK hM h n 1 t (Nat.le_refl _) (by omega) (fun j j1 j2 => absurd j1 (by omega))
    intro j j1 j2
    rw [cpL_at _ n 1 o j j1 (by omega)]
    exact h2 j j1 j2
theorem least_eq {K M L : Nat → Int32} {n c g : Nat} (hn : n ≤ 120) (hK : KB n K) (hM : KK n K M) (hL : LM K g L) (hg : g ≤ n) (hc : c < n) (oo ot : Nat → Int32) : (lsL M n c (o1L M n 1 oo) ot).1 n = leaL K (n - g) g L (tri (n - 1) + c) := by
  have h0 : OneOk K n 0 (o1L M n 1 oo) := by
    intro t t1 t2
    rw [(o1L_at M n 1 oo).1 t t1 (by omega), hM 0 t (by omega) t2]
    exact ⟨fun _ => rfl, fun z => absurd t1 (by omega)⟩
  have h1 := (lsL_ok hn hK hM c 0 _ ot h0 n (by omega) (Nat.le_refl _)).1 (by omega)
  have h2 := leaL_ok (n - g) g L hL
  rw [show g + (n - g) = n by omega] at h2
  rw [h1, Nat.zero_add, h2 c n hc (Nat.le_refl _)]
