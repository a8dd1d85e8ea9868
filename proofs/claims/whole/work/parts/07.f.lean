/-! the greedy cutting: both sides -/
theorem glL_congr {G H : Nat → Bool} : ∀ k : Nat, (∀ j, j ≤ k → G j = H j) → glL G k = glL H k
  | 0, _ => rfl
  | k + 1, h => by
    simp only [glL]
    rw [h (k + 1) (Nat.le_refl _), glL_congr k (fun j hj => h j (by omega))]
theorem glL_le (G : Nat → Bool) : ∀ k : Nat, glL G k ≤ k
  | 0 => Nat.le_refl _
  | k + 1 => by
    simp only [glL]
    have := glL_le G k
    split <;> omega
theorem grL_eos (G : Nat → Bool) : ∀ (d t : Nat), grL G d t = eosL G (t + d) d t
  | 0, t => rfl
  | d + 1, t => by
    simp only [grL, eosL]
    cases h : G t with
    | true => simp
    | false =>
      simp only [if_true]
      rw [grL_eos G d (t + 1), show t + 1 + d = t + (d + 1) by omega]
      simp
theorem grL_congr {G H : Nat → Bool} : ∀ (d t : Nat), (∀ j, t ≤ j → j < t + d → G j = H j) → grL G d t = grL H d t
  | 0, _, _ => rfl
  | d + 1, t, h => by
    simp only [grL]
    rw [h t (Nat.le_refl _) (by omega), grL_congr d (t + 1) (fun j j1 j2 => h j (by omega) (by omega))]
theorem gpL_congr {M : Nat → Int32} {G H : Nat → Bool} {n : Nat} (h : ∀ j, j < n → G j = H j) : ∀ (d k : Nat) (mo : Int32) (a : Nat), 0 < k → k + d = n → gpL M G n d k mo a = gpL M H n d k mo a
  | 0, _, _, _, _, _ => rfl
  | d + 1, k, mo, a, h0, hk => by
    simp only [gpL]
    rw [h k (by omega), glL_congr (k - 1) (fun j hj => h j (by omega)), grL_congr (n - (k + 1)) (k + 1) (fun j j1 j2 => h j (by omega))]
    simp only [gpL_congr h d (k + 1) _ _ (Nat.succ_pos k) (show k + 1 + d = n by omega)]
theorem gpT_congr {M : Nat → Int32} {G H : Nat → Bool} {n : Nat} (hn : 0 < n) (h : ∀ j, j < n → G j = H j) : gpT M G n = gpT M H n :=
  gpL_congr h (n - 1) 1 0 0 (by omega) (by omega)
def GRel (pn mo : Int32) (a : Nat) (gr : Int32) (ng : Nat) : Prop := (a ≠ 0 ∧ pn < mo → gr = mo ∧ ng = a) ∧ (¬ (a ≠ 0 ∧ pn < mo) → gr = pn ∧ ng = 0)
theorem GRel_step {pn mo gr g : Int32} {a ng i : Nat} (hi : 0 < i) (h : GRel pn mo a gr ng) :
    GRel pn (if a = 0 then g else if g ≤ mo then mo else g) (if a = 0 then i else if g ≤ mo then a else i) (if g ≤ gr then gr else g) (if g ≤ gr then ng else i) := by
  unfold GRel at *
  obtain ⟨h1, h2⟩ := h
  simp only [i_lt, i_le] at *
  by_cases c : a ≠ 0 ∧ pn.toInt < mo.toInt
  · obtain ⟨rfl, rfl⟩ := h1 c
    rw [if_neg c.1, if_neg c.1]
    by_cases c2 : g.toInt ≤ gr.toInt
    · simp only [if_pos c2]
      exact ⟨fun _ => ⟨trivial, trivial⟩, fun z => absurd c z⟩
    · simp only [if_neg c2]
      exact ⟨fun _ => ⟨trivial, trivial⟩, fun z => absurd ⟨by omega, by omega⟩ z⟩
  · obtain ⟨rfl, rfl⟩ := h2 c
    by_cases c2 : g.toInt ≤ gr.toInt
    · simp only [if_pos c2]
      refine ⟨fun z => ?_, fun _ => ⟨trivial, trivial⟩⟩
      exfalso
      by_cases c3 : a = 0
      · rw [if_pos c3, if_pos c3] at z; omega
      · rw [if_neg c3, if_neg c3] at z
        by_cases c4 : g.toInt ≤ mo.toInt
        · rw [if_pos c4, if_pos c4] at z; exact c z
        · rw [if_neg c4, if_neg c4] at z; omega
    · simp only [if_neg c2]
      by_cases c3 : a = 0
      · simp only [if_pos c3]
        exact ⟨fun _ => ⟨trivial, trivial⟩, fun z => absurd ⟨by omega, by omega⟩ z⟩
      · simp only [if_neg c3]
        have c4 : ¬ g.toInt ≤ mo.toInt := fun z => c ⟨c3, by omega⟩
        simp only [if_neg c4]
        exact ⟨fun _ => ⟨trivial, trivial⟩, fun z => absurd ⟨by omega, by omega⟩ z⟩
theorem eosL_self {G : Nat → Bool} {en : Nat} : ∀ {d i : Nat}, i + d = en → i < en → (eosL G en d i = i ↔ G i = true)
  | 0, i, h, hi => absurd h (by omega)
  | d + 1, i, h, hi => by
    simp only [eosL]
    cases hG : G i with
    | true => simp
    | false =>
      have := eosL_ge G (show (i + 1) + d = en by omega)
      simp only [Bool.false_eq_true, if_false, iff_false]
      omega
theorem gnL_gp {K M : Nat → Int32} {n : Nat} {pn : Int32} {G : Nat → Bool} (hM : KK n K M) : ∀ (d i : Nat) (gr : Int32) (ng : Nat) (mo : Int32) (a : Nat), 0 < i → i + d = n → GRel pn mo a gr ng →
    ∃ gr' : Int32, GRel pn (gpL M G n d i mo a).1 (gpL M G n d i mo a).2 gr' (gnL K n G d i gr ng (glL G (i - 1)) (eosL G n (n - i) i))
  | 0, i, gr, ng, mo, a, _, _, h => ⟨gr, h⟩
  | d + 1, i, gr, ng, mo, a, h0, hi, h => by
    have e1 : n - i = (n - (i + 1)) + 1 := by omega
    simp only [gnL, gpL]
    have hs := eosL_self (G := G) (en := n) (d := n - i) (i := i) (by omega) (by omega)
    by_cases c : G i = true
    · rw [if_pos (hs.mpr c).symm, if_neg (by rw [c]; decide)]
      have ih := gnL_gp (K := K) (G := G) hM d (i + 1) gr ng mo a (by omega) (by omega) h
      rw [Nat.add_sub_cancel, glL_stop c] at ih
      exact ih
    · have cf : G i = false := by cases hG : G i with
        | true => exact absurd hG c
        | false => rfl
      rw [if_pos cf, if_neg (show ¬ i = eosL G n (n - i) i from fun z => c (hs.mp z.symm))]
      have eo : eosL G n (n - i) i = eosL G n (n - (i + 1)) (i + 1) := by
        rw [e1]; simp only [eosL]; rw [if_neg c]
      have er : grL G (n - (i + 1)) (i + 1) = eosL G n (n - (i + 1)) (i + 1) := by
        rw [grL_eos, show i + 1 + (n - (i + 1)) = n by omega]
      have r1 := eosL_ge G (en := n) (d := n - (i + 1)) (i := i + 1) (by omega)
      have r2 := eosL_le G (en := n) (d := n - (i + 1)) (i := i + 1) (by omega)
      have l1 := glL_le G (i - 1)
      rw [er, eo, hM (glL G (i - 1)) _ (by omega) r2, hM (glL G (i - 1)) i (by omega) (by omega), hM i _ (by omega) r2]
      have st := GRel_step (g := K (tri (eosL G n (n - (i + 1)) (i + 1) - 1) + glL G (i - 1)) - K (tri (i - 1) + glL G (i - 1)) - K (tri (eosL G n (n - (i + 1)) (i + 1) - 1) + i)) h0 h
      generalize K (tri (eosL G n (n - (i + 1)) (i + 1) - 1) + glL G (i - 1)) - K (tri (i - 1) + glL G (i - 1)) - K (tri (eosL G n (n - (i + 1)) (i + 1) - 1) + i) = g at *
      have ih := gnL_gp (K := K) (G := G) hM d (i + 1) _ _ _ _ (by omega) (by omega) st
      rw [Nat.add_sub_cancel, glL_go h0 cf] at ih
      by_cases k1 : a = 0
      · simp only [if_pos k1] at ih ⊢
        by_cases k2 : g ≤ gr
        · simp only [if_pos k2] at ih ⊢; exact ih
        · simp only [if_neg k2] at ih ⊢; exact ih
      · simp only [if_neg k1] at ih ⊢
        by_cases k3 : g ≤ mo
        · simp only [if_pos k3] at ih ⊢
          by_cases k2 : g ≤ gr
          · simp only [if_pos k2] at ih ⊢; exact ih
          · simp only [if_neg k2] at ih ⊢; exact ih
        · simp only [if_neg k3] at ih ⊢
          by_cases k2 : g ≤ gr
          · simp only [if_pos k2] at ih ⊢; exact ih
          · simp only [if_neg k2] at ih ⊢; exact ih
theorem gnT_gp {K M : Nat → Int32} {n : Nat} {pn : Int32} {G H : Nat → Bool} (hn : 0 < n) (hM : KK n K M) (hG : ∀ j, j < n → G j = H j) :
    gnT K n G pn = (if (gpT M H n).2 ≠ 0 ∧ pn < (gpT M H n).1 then (gpT M H n).2 else 0) := by
  rw [← gpT_congr hn hG]
  obtain ⟨gr', h1, h2⟩ := gnL_gp (K := K) (pn := pn) (G := G) hM (n - 1) 1 pn 0 0 0 (by omega) (by omega) ⟨fun z => absurd rfl z.1, fun _ => ⟨rfl, rfl⟩⟩
  have e : gnL K n G (n - 1) 1 pn 0 (glL G (1 - 1)) (eosL G n (n - 1) 1) = gnT K n G pn := rfl
  rw [e] at h1 h2
  have e2 : gpL M G n (n - 1) 1 0 0 = gpT M G n := rfl
  rw [e2] at h1 h2
  by_cases c : (gpT M G n).2 ≠ 0 ∧ pn < (gpT M G n).1
  · rw [if_pos c]; exact (h1 c).2
  · rw [if_neg c]; exact (h2 c).2
/-! what a cutting costs -/
theorem setL_add {K : Nat → Int32} {G : Nat → Bool} {en : Nat} : ∀ (d i fr : Nat) (pr de : Int32), setL K G en d i fr (pr + de) = setL K G en d i fr pr + de
  | 0, _, _, _, _ => rfl
  | d + 1, i, fr, pr, de => by
    have e : pr + de + K (tri (i - 1) + fr) = pr + K (tri (i - 1) + fr) + de := by rw [Int32.add_assoc, Int32.add_comm de, ← Int32.add_assoc]
    simp only [setL]
    rw [e, setL_add d (i + 1) i, setL_add d (i + 1) fr]
    split
    · rfl
    · split <;> rfl
theorem setL_congr {K : Nat → Int32} {G H : Nat → Bool} {en : Nat} : ∀ (d i fr : Nat) (pr : Int32), (∀ j, i ≤ j → j < i + d → j ≠ en → G j = H j) → setL K G en d i fr pr = setL K H en d i fr pr
  | 0, _, _, _, _ => rfl
  | d + 1, i, fr, pr, h => by
    simp only [setL]
    have ih := fun fr pr => setL_congr (K := K) (G := G) (H := H) (en := en) d (i + 1) fr pr (fun j j1 j2 j3 => h j (by omega) (by omega) j3)
    by_cases c : i = en
    · rw [if_pos c, if_pos c, ih]
    · rw [if_neg c, if_neg c, h i (Nat.le_refl _) (by omega) c, ih, ih]
/-- behind the new cut a, ahead of the next one -/
theorem setL_mid {K : Nat → Int32} {G : Nat → Bool} {en fr a : Nat} : ∀ (d i : Nat) (pr : Int32), i + d = en + 1 → 0 < d → setL K G en d i a pr + K (tri (eosL G en (en - i) i - 1) + fr) = setL K G en d i fr pr + K (tri (eosL G en (en - i) i - 1) + a)
  | 0, _, _, _, h => absurd h (by omega)
  | d + 1, i, pr, h, _ => by
    simp only [setL]
    by_cases c : i = en
    · rw [if_pos c, if_pos c]
      have : eosL G en (en - i) i = i := by rw [c, Nat.sub_self]; rfl
      rw [this, setL_add, setL_add, Int32.add_assoc, Int32.add_assoc, Int32.add_comm (K (tri (i - 1) + a))]
    · rw [if_neg c, if_neg c]
      by_cases g : G i = true
      · rw [if_pos g, if_pos g, (eosL_self (G := G) (en := en) (d := en - i) (i := i) (by omega) (by omega)).mpr g, setL_add, setL_add, Int32.add_assoc, Int32.add_assoc, Int32.add_comm (K (tri (i - 1) + a))]
      · rw [if_neg g, if_neg g]
        have eo : eosL G en (en - i) i = eosL G en (en - (i + 1)) (i + 1) := by
          rw [show en - i = (en - (i + 1)) + 1 by omega]; simp only [eosL]; rw [if_neg g]
        rw [eo]
        exact setL_mid d (i + 1) pr (by omega) (by omega)
theorem setL_cut {K : Nat → Int32} {G : Nat → Bool} {en a : Nat} (ha : a < en) (hG : G a = false) : ∀ (d i : Nat) (pr : Int32), 0 < i → i ≤ a → i + d = en + 1 →
    setL K (updB G a true) en d i (glL G (i - 1)) pr + K (tri (eosL G en (en - (a + 1)) (a + 1) - 1) + glL G (a - 1)) = setL K G en d i (glL G (i - 1)) pr + K (tri (a - 1) + glL G (a - 1)) + K (tri (eosL G en (en - (a + 1)) (a + 1) - 1) + a)
  | 0, i, pr, _, h1, h2 => absurd h2 (by omega)
  | d + 1, i, pr, h0, h1, h2 => by
    simp only [setL]
    rw [if_neg (show i ≠ en by omega), if_neg (show i ≠ en by omega)]
    by_cases c : i = a
    · subst c
      rw [if_pos (upB_at _ _ _), if_neg (by rw [hG]; decide), setL_add, setL_congr (G := updB G i true) (H := G) d (i + 1) i pr (fun j j1 j2 _ => upB_ne (by omega))]
      have := setL_mid (K := K) (G := G) (en := en) (fr := glL G (i - 1)) (a := i) d (i + 1) pr (by omega) (by omega)
      rw [Int32.add_assoc, Int32.add_comm (K (tri (i - 1) + glL G (i - 1))), ← Int32.add_assoc, this, Int32.add_assoc, Int32.add_assoc, Int32.add_comm (K (tri (i - 1) + glL G (i - 1)))]
    · rw [upB_ne c]
      by_cases g : G i = true
      · rw [if_pos g, if_pos g]
        have ih := setL_cut (K := K) ha hG d (i + 1) (pr + K (tri (i - 1) + glL G (i - 1))) (by omega) (by omega) (by omega)
        rw [Nat.add_sub_cancel, glL_stop g] at ih
        exact ih
      · rw [if_neg g, if_neg g]
        have gf : G i = false := by cases hh : G i with
          | true => exact absurd hh g
          | false => rfl
        have ih := setL_cut (K := K) ha hG d (i + 1) pr (by omega) (by omega) (by omega)
        rw [Nat.add_sub_cancel, glL_go h0 gf] at ih
        exact ih
/-! how many marks -/
def cnL (G : Nat → Bool) : Nat → Nat → Nat
  | 0, _ => 0
  | d + 1, i => (if G i = true then 1 else 0) + cnL G d (i + 1)
theorem cnL_le (G : Nat → Bool) : ∀ d i, cnL G d i ≤ d
  | 0, _ => Nat.le_refl _
  | d + 1, i => by
    simp only [cnL]
    have := cnL_le G d (i + 1)
    split <;> omega
theorem cnL_congr {G H : Nat → Bool} : ∀ d i, (∀ j, i ≤ j → j < i + d → G j = H j) → cnL G d i = cnL H d i
  | 0, _, _ => rfl
  | d + 1, i, h => by
    simp only [cnL]
    rw [h i (Nat.le_refl _) (by omega), cnL_congr d (i + 1) (fun j j1 j2 => h j (by omega) (by omega))]
theorem cnL_upd {G : Nat → Bool} {a : Nat} (hG : G a = false) : ∀ d i, i ≤ a → a < i + d → cnL (updB G a true) d i = cnL G d i + 1
  | 0, i, h1, h2 => absurd h1 (by omega)
  | d + 1, i, h1, h2 => by
    simp only [cnL]
    by_cases c : i = a
    · subst c
      rw [upB_at, hG, cnL_congr (G := updB G i true) (H := G) d (i + 1) (fun j j1 j2 => upB_ne (by omega))]
      simp
      omega
    · rw [upB_ne c, cnL_upd hG d (i + 1) (by omega) (by omega)]
      omega
theorem cnL_0 {G : Nat → Bool} : ∀ d i, (∀ j, i ≤ j → j < i + d → G j = false) → cnL G d i = 0
  | 0, _, _ => rfl
  | d + 1, i, h => by
    simp only [cnL]
    rw [h i (Nat.le_refl _) (by omega), cnL_0 d (i + 1) (fun j j1 j2 => h j (by omega) (by omega))]
    rfl
theorem ckL_hit {G H : Nat → Bool} {e : Nat} : ∀ (d i c p : Nat), (∀ j, i ≤ j → j < i + d → G j = H j) → c + d < 2 ^ 30 → i + d < 2 ^ 30 → c ≤ p → p < c + cnL G d i → ∃ q, q < 2 ^ 30 ∧ naL G (nI p) (d + e) i (nI c) = nI q ∧ ckL H (nI p) d i (nI c) = nI q
  | 0, i, c, p, _, _, _, h1, h2 => by
    simp only [cnL] at h2
    exact absurd h1 (by omega)
  | d + 1, i, c, p, hG, hb, hb2, h1, h2 => by
    rw [show d + 1 + e = (d + e) + 1 by omega]
    simp only [naL, ckL, ← hG i (Nat.le_refl _) (by omega)]
    simp only [cnL] at h2
    have hl := cnL_le G d (i + 1)
    by_cases g : G i = true
    · rw [if_pos g, if_pos g]
      rw [if_pos g] at h2
      by_cases k : c = p
      · subst k
        rw [if_pos rfl, if_pos rfl]
        exact ⟨i, by omega, rfl, rfl⟩
      · have kn : ¬ nI c = nI p := by rw [nI_eq (by omega) (by omega)]; exact k
        rw [if_neg kn, if_neg kn, nI_1]
        exact ckL_hit d (i + 1) (c + 1) p (fun j j1 j2 => hG j (by omega) (by omega)) (by omega) (by omega) (by omega) (by omega)
    · rw [if_neg g, if_neg g]
      rw [if_neg g] at h2
      exact ckL_hit d (i + 1) c p (fun j j1 j2 => hG j (by omega) (by omega)) (by omega) (by omega) h1 (by omega)
theorem ckL_miss {G : Nat → Bool} {x : Int32} : ∀ (d i c : Nat), c + d < 2 ^ 30 → (∀ p, c ≤ p → p < c + cnL G d i → ¬ nI p = x) → ckL G x d i (nI c) = (-1) - nI (c + cnL G d i)
  | 0, i, c, _, _ => rfl
  | d + 1, i, c, hb, h => by
    simp only [ckL]
    simp only [cnL] at h ⊢
    by_cases g : G i = true
    · rw [if_pos g] at h ⊢
      rw [if_neg (h c (Nat.le_refl _) (by omega)), nI_1, ckL_miss d (i + 1) (c + 1) (by omega) (fun p p1 p2 => h p (by omega) (by omega)), show c + 1 + cnL G d (i + 1) = c + (1 + cnL G d (i + 1)) by omega, if_pos g]
    · rw [if_neg g] at h ⊢
      rw [ckL_miss d (i + 1) c (by omega) (fun p p1 p2 => h p p1 (by omega)), if_neg g, Nat.zero_add]
def gnM (M : Nat → Int32) (G : Nat → Bool) (n k : Nat) : Int32 := M (121 * glL G (k - 1) + grL G (n - (k + 1)) (k + 1)) - M (121 * glL G (k - 1) + k) - M (121 * k + grL G (n - (k + 1)) (k + 1))
theorem gpL_val {M : Nat → Int32} {G : Nat → Bool} {n : Nat} : ∀ (d k : Nat) (mo : Int32) (a : Nat), (a ≠ 0 → mo = gnM M G n a) → (gpL M G n d k mo a).2 ≠ 0 → (gpL M G n d k mo a).1 = gnM M G n (gpL M G n d k mo a).2
  | 0, _, _, _, h, h2 => h h2
  | d + 1, k, mo, a, h, h2 => by
    simp only [gpL] at h2 ⊢
    by_cases c : G k = false
    · rw [if_pos c] at h2 ⊢
      by_cases c2 : a = 0
      · rw [if_pos c2] at h2 ⊢
        exact gpL_val d (k + 1) _ _ (fun _ => rfl) h2
      · rw [if_neg c2] at h2 ⊢
        by_cases c3 : M (121 * glL G (k - 1) + grL G (n - (k + 1)) (k + 1)) - M (121 * glL G (k - 1) + k) - M (121 * k + grL G (n - (k + 1)) (k + 1)) ≤ mo
        · rw [if_pos c3] at h2 ⊢
          exact gpL_val d (k + 1) _ _ h h2
        · rw [if_neg c3] at h2 ⊢
          exact gpL_val d (k + 1) _ _ (fun _ => rfl) h2
    · rw [if_neg c] at h2 ⊢
      exact gpL_val d (k + 1) _ _ h h2
theorem ring_a (A B p q r c pn : Int32) (h : A + p = B + q + r) : c * pn + B + (pn - (p - q - r)) = (c + 1) * pn + A := by grind
theorem ring_b (a b : Int32) : a - (a - b) = b := by grind
/-- both loops together -/
theorem ggL_go {K M : Nat → Int32} {n : Nat} {pn : Int32} (hn0 : 0 < n) (hn : n ≤ 120) (hM : KK n K M) : ∀ (d : Nat) (w : CuS) (H : Nat → Bool) (y : Int32), (∀ j, j < n → w.1 j = H j) → w.1 0 = false → w.2.1 = nI (cnL w.1 (n - 1) 1) → y = w.2.1 * pn + setL K w.1 n n 1 0 0 →
    (∀ j, j < n → (ggL K n pn d w).1 j = (goL M n pn d H y).1 j) ∧ (ggL K n pn d w).1 0 = false ∧ (ggL K n pn d w).2.1 = nI (cnL (ggL K n pn d w).1 (n - 1) 1) ∧ (goL M n pn d H y).2 = (ggL K n pn d w).2.1 * pn + setL K (ggL K n pn d w).1 n n 1 0 0
  | 0, w, H, y, h1, h2, h3, h4 => ⟨h1, h2, h3, h4⟩
  | d + 1, w, H, y, h1, h2, h3, h4 => by
    have eg := gnT_gp (pn := pn) hn0 hM h1
    simp only [ggL, goL]
    by_cases c : (gpT M H n).2 ≠ 0 ∧ pn < (gpT M H n).1
    · rw [if_pos c] at eg ⊢
      rw [eg, if_neg c.1]
      obtain ⟨m1, m2, m3⟩ := gpT_mem hn0 c.1
      have hv : (gpT M H n).1 = gnM M H n (gpT M H n).2 := gpL_val (n - 1) 1 0 0 (fun z => absurd rfl z) c.1
      rw [hv]
      generalize (gpT M H n).2 = a at *
      have wa : w.1 a = false := by rw [h1 a m2]; exact m3
      have el : glL H (a - 1) = glL w.1 (a - 1) := glL_congr _ (fun j hj => (h1 j (by omega)).symm)
      have er : grL H (n - (a + 1)) (a + 1) = eosL w.1 n (n - (a + 1)) (a + 1) := by
        rw [← grL_congr (G := w.1) _ _ (fun j j1 j2 => h1 j (by omega)), grL_eos, show a + 1 + (n - (a + 1)) = n by omega]
      have r1 := eosL_ge w.1 (en := n) (d := n - (a + 1)) (i := a + 1) (by omega)
      have r2 := eosL_le w.1 (en := n) (d := n - (a + 1)) (i := a + 1) (by omega)
      have l1 := glL_le w.1 (a - 1)
      have es := setL_cut (K := K) (G := w.1) (en := n) m2 wa n 1 0 (by omega) (by omega) (by omega)
      refine ggL_go hn0 hn hM d (cu_cut w a) (updB H a true) _ (fun j hj => ?_) ?_ ?_ ?_
      · show updB w.1 a true j = updB H a true j
        by_cases e : j = a
        · subst e; rw [upB_at, upB_at]
        · rw [upB_ne e, upB_ne e]; exact h1 j hj
      · show updB w.1 a true 0 = false
        rw [upB_ne (by omega)]; exact h2
      · show w.2.1 + 1 = nI (cnL (updB w.1 a true) (n - 1) 1)
        rw [cnL_upd wa (n - 1) 1 (by omega) (by omega), h3, nI_1]
      · show y + (pn - gnM M H n a) = (w.2.1 + 1) * pn + setL K (updB w.1 a true) n n 1 0 0
        unfold gnM
        rw [el, er, hM _ _ (by omega) r2, hM _ a (by omega) (by omega), hM a _ (by omega) r2, h4]
        exact ring_a _ _ _ _ _ _ _ es
    · rw [if_neg c] at eg ⊢
      rw [if_pos eg]
      exact ⟨h1, h2, h3, h4⟩
/-- the finder's greedy cutting, whatever stood there, says what the reference's says -/
theorem greedy_all {K M : Nat → Int32} {n : Nat} {pn : Int32} (hn : n ≤ 120) (hM : KK n K M) (cu0 : CuS) (ic : Nat → Bool) :
    (cu_set K n pn (ggT K n pn cu0)).2.1 = (-1) - ckL (goT M n pn ic).1 (-1) (n - 1) 1 0 ∧ (cu_set K n pn (ggT K n pn cu0)).2.2.1 = (goT M n pn ic).2 ∧
    ∀ x, ((0 ≤ x ∧ x < (cu_set K n pn (ggT K n pn cu0)).2.1) → naL (cu_set K n pn (ggT K n pn cu0)).1 x 120 0 0 = ckL (goT M n pn ic).1 x (n - 1) 1 0 ∧ 0 ≤ ckL (goT M n pn ic).1 x (n - 1) 1 0) ∧
      (¬ (0 ≤ x ∧ x < (cu_set K n pn (ggT K n pn cu0)).2.1) → ¬ (0 ≤ x ∧ 0 ≤ ckL (goT M n pn ic).1 x (n - 1) 1 0)) := by
  by_cases h0 : n = 0
  · subst h0
    refine ⟨by show (0 : Int32) = (-1) - ((-1) - 0); decide, by show (0 : Int32) * pn = 0; rw [Int32.zero_mul], fun x => ⟨fun h => ?_, fun _ h => ?_⟩⟩
    · exfalso
      have h2 : x < 0 := h.2
      have h1 := h.1
      rw [i_lt] at h2
      rw [i_le] at h1
      omega
    · have h2 : (0 : Int32) ≤ (-1) - 0 := h.2
      exact absurd h2 (by decide)
  · have hoff : ∀ j, j < 120 → (cu_join cu0).1 j = false := fun j hj => (offL_at 120 0 cu0.1).1 j (Nat.zero_le _) (by omega)
    have hoff2 := offL_at 121 0 ic
    have eK : setL K (cu_join cu0).1 n n 1 0 0 = K (tri (n - 1) + 0) := by
      obtain ⟨q, rfl⟩ : ∃ q, n = q + 1 := ⟨n - 1, by omega⟩
      rw [setL_skip (d := 1) q 1 (fun j j1 j2 => ⟨hoff j (by omega), by omega⟩)]
      simp only [setL]
      rw [if_pos (by omega), show 1 + q - 1 = q + 1 - 1 by omega, Int32.zero_add]
    have eo : goT M n pn ic = goL M n pn (n - 1) (offL 121 0 ic) (M (121 * 0 + n)) := by unfold goT; rw [if_neg h0]
    have hg := ggL_go (pn := pn) (by omega) hn hM (n - 1) (cu_join cu0) (offL 121 0 ic) (M (121 * 0 + n)) (fun j hj => by
      rw [hoff2.1 j (by omega) (by omega)]; exact hoff j (by omega)) (hoff 0 (by omega)) (by
        rw [cnL_0 _ _ (fun j j1 j2 => hoff j (by omega))]; rfl) (by
        rw [eK, hM 0 n (by omega) (Nat.le_refl _)]
        show _ = (0 : Int32) * pn + _
        rw [Int32.zero_mul, Int32.zero_add])
    rw [← eo] at hg
    obtain ⟨g1, g2, g3, g4⟩ := hg
    have ew : ggT K n pn cu0 = ggL K n pn (n - 1) (cu_join cu0) := rfl
    rw [← ew] at g1 g2 g3 g4
    generalize ggT K n pn cu0 = w at *
    generalize goT M n pn ic = z at *
    have ec : cnL w.1 (n - 1) 1 = cnL z.1 (n - 1) 1 := cnL_congr _ _ (fun j j1 j2 => g1 j (by omega))
    have hcl := cnL_le w.1 (n - 1) 1
    refine ⟨?_, ?_, fun x => ⟨fun h => ?_, fun h h2 => ?_⟩⟩
    · have := ckL_miss (G := z.1) (x := -1) (n - 1) 1 0 (by omega) (fun p p1 p2 => nI_ne_m1 (by omega))
      rw [show nI 0 = 0 from rfl, Nat.zero_add] at this
      rw [this, ring_b, ← ec]
      exact g3
    · show setL K w.1 n n 1 0 (w.2.1 * pn) = z.2
      rw [g4, ← Int32.zero_add (w.2.1 * pn), setL_add, Int32.zero_add, Int32.add_comm]
    · obtain ⟨hx, hlt⟩ := h
      have hlt : x < w.2.1 := hlt
      obtain ⟨p, hp, rfl⟩ := nI_of (x := x) (by rw [i_lt]; rw [i_le] at hx; omega)
      rw [g3, nI_ltI hp (by omega)] at hlt
      obtain ⟨q, q1, q2, q3⟩ := ckL_hit (G := w.1) (H := z.1) (e := 120 - n) (n - 1) 1 0 p (fun j j1 j2 => g1 j (by omega)) (by omega) (by omega) (by omega) (by omega)
      rw [show nI 0 = 0 from rfl] at q2 q3
      rw [q3]
      refine ⟨?_, nI_pos' (by omega)⟩
      show naL w.1 (nI p) 120 0 0 = nI q
      rw [show (120 : Nat) = 1 + (n - 1 + (120 - n)) by omega, naL_skip 1 0 (fun i i1 i2 => by
        obtain rfl : i = 0 := by omega
        exact g2)]
      exact q2
    · obtain ⟨hx, hck⟩ := h2
      obtain ⟨p, hp, rfl⟩ := nI_of (x := x) (by rw [i_lt]; rw [i_le] at hx; omega)
      have hge : ¬ p < cnL w.1 (n - 1) 1 := fun c => h ⟨hx, by show nI p < w.2.1; rw [g3, nI_ltI hp (by omega)]; exact c⟩
      have := ckL_miss (G := z.1) (x := nI p) (n - 1) 1 0 (by omega) (fun p' p1 p2 => by rw [nI_eq (by omega) hp]; omega)
      rw [show nI 0 = 0 from rfl, Nat.zero_add] at this
      rw [this, i_le, ti_sub (by rw [nI_toInt (by omega), show (-1 : Int32).toInt = -1 by decide]; omega) (by rw [nI_toInt (by omega), show (-1 : Int32).toInt = -1 by decide]; omega), nI_toInt (by omega), show (-1 : Int32).toInt = -1 by decide, show (0 : Int32).toInt = 0 by decide] at hck
      omega
