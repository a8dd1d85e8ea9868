/-! the middle of a segment -/
theorem midL_ok {v : Nat → Int32} (hv : VB v) {fr : Nat} : ∀ (d i : Nat) (S : Nat → Int32), fr ≤ i → RowOf S v fr (i - fr) → RowOf (midL v fr d i S) v fr (i - fr + d)
  | 0, i, S, _, h => h
  | d + 1, i, S, hi, h => by
    have h9 := Row_back hv h
    rw [show fr + (i - fr) = i by omega] at h9
    have ih := midL_ok (fr := fr) hv d (i + 1) (sortL (v i) (i - fr) S) (by omega) (by rw [show i + 1 - fr = i - fr + 1 by omega]; exact h9)
    rw [show i + 1 - fr + d = i - fr + (d + 1) by omega] at ih
    exact ih
def gL (m : Int32) : Int32 → Int := fun x => if x.toInt < m.toInt then 1 else 0
def gM (m : Int32) : Int32 → Int := fun x => if m.toInt < x.toInt then 1 else 0
def gE (m : Int32) : Int32 → Int := fun x => if x.toInt = m.toInt then 1 else 0
theorem sg_lo {g : Int32 → Int} {S : Nat → Int32} {h : Nat} (h1 : ∀ x, g x ≤ 1) : ∀ n, (∀ k, h ≤ k → k < n → g (S k) ≤ 0) → sg g S n ≤ (h : Int)
  | 0, _ => by show (0 : Int) ≤ _; omega
  | n + 1, H => by
    have ih := sg_lo h1 n (fun k k1 k2 => H k k1 (by omega))
    show sg g S n + g (S n) ≤ _
    by_cases c : h ≤ n
    · have := H n c (by omega)
      omega
    · have h2 : ∀ m, m ≤ n → sg g S m ≤ (m : Int) := by
        intro m
        induction m with
        | zero => intro _; show (0 : Int) ≤ _; omega
        | succ m ih2 =>
          intro hm
          have := ih2 (by omega)
          have := h1 (S m)
          show sg g S m + g (S m) ≤ _
          omega
      have := h2 n (Nat.le_refl _)
      have := h1 (S n)
      omega
theorem sg_hi {g : Int32 → Int} {S : Nat → Int32} {h : Nat} (h1 : ∀ x, g x ≤ 1) : ∀ n, h ≤ n → (∀ k, k < h → g (S k) ≤ 0) → sg g S n ≤ (n : Int) - h
  | 0, hn, _ => by show (0 : Int) ≤ _; omega
  | n + 1, hn, H => by
    show sg g S n + g (S n) ≤ _
    by_cases c : h = n + 1
    · have h2 : ∀ m, m ≤ n → sg g S m ≤ 0 := by
        intro m
        induction m with
        | zero => intro _; exact Int.le_refl _
        | succ m ih2 =>
          intro hm
          have := ih2 (by omega)
          have := H m (by omega)
          show sg g S m + g (S m) ≤ _
          omega
      have := h2 n (Nat.le_refl _)
      have := H n (by omega)
      omega
    · have ih := sg_hi h1 n (by omega) H
      have := h1 (S n)
      omega
theorem sg_one {g : Int32 → Int} {S : Nat → Int32} {i : Nat} (h0 : ∀ x, 0 ≤ g x) (h1 : g (S i) = 1) : ∀ n, i < n → 1 ≤ sg g S n
  | 0, h => absurd h (by omega)
  | n + 1, h => by
    show 1 ≤ sg g S n + g (S n)
    have p : ∀ m, 0 ≤ sg g S m := by
      intro m
      induction m with
      | zero => exact Int.le_refl _
      | succ m ih => have := h0 (S m); show 0 ≤ sg g S m + g (S m); omega
    by_cases c : i = n
    · subst c; rw [h1]; have := p i; omega
    · have := sg_one h0 h1 n (by omega)
      have := h0 (S n)
      omega
/-- what a segment's middle is -/
theorem mid_ok {v : Nat → Int32} (hv : VB v) {f t : Nat} (h1 : f < t) (h2 : t ≤ 120) (S : Nat → Int32) {m : Int32} (hm : m = midL v f (t - f) f S ((t - f - 1) / 2)) :
    rs (gL m) v f (t - f) ≤ (((t - f - 1) / 2 : Nat) : Int) ∧ rs (gM m) v f (t - f) ≤ (((t - f) / 2 : Nat) : Int) ∧ 1 ≤ rs (gE m) v f (t - f) ∧ (cF v f t).toInt = rs (ab m.toInt) v f (t - f) ∧ bd m := by
  have hR := midL_ok hv (t - f) f S (Nat.le_refl _) (by rw [Nat.sub_self]; exact Row_0 S v f)
  rw [Nat.sub_self, Nat.zero_add] at hR
  generalize midL v f (t - f) f S = M at *
  obtain ⟨r1, r2, r3⟩ := hR
  rw [← r2, ← r2, ← r2, ← r2]
  subst hm
  refine ⟨sg_lo (fun x => by unfold gL; split <;> omega) _ (fun k k1 k2 => ?_), ?_, sg_one (i := (t - f - 1) / 2) (fun x => by unfold gE; split <;> omega) (by unfold gE; rw [if_pos rfl]) _ (by omega), ?_, r3 _ (by omega)⟩
  · have := Srt_le r1 k1 k2
    unfold gL
    rw [if_neg (by omega)]
    exact Int.le_refl _
  · have := sg_hi (g := gM (M ((t - f - 1) / 2))) (S := M) (h := (t - f - 1) / 2 + 1) (fun x => by unfold gM; split <;> omega) (t - f) (by omega) (fun k hk => by
      have := Srt_le r1 (show k ≤ (t - f - 1) / 2 by omega) (by omega)
      unfold gM
      rw [if_neg (by omega)]
      exact Int.le_refl _)
    omega
  · have hmin := (md_all r1 (show 0 < t - f by omega)).1
    refine IsM.uniq (cF_ok hv h1 h2).1 ⟨fun y => ?_, (M ((t - f - 1) / 2)).toInt, ?_⟩
    · show _ ≤ rs (ab y) v f (t - f)
      rw [← r2]; exact hmin y
    · show rs (ab _) v f (t - f) = _
      rw [← r2]
