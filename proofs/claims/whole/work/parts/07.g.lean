/-! alarms matched with marks: both sides -/
theorem fnd_congr {P Q : Nat → Bool} {lo : Nat} : ∀ m : Nat, (∀ k, k < m → P k = Q k) → fnd P lo m = fnd Q lo m
  | 0, _ => rfl
  | m + 1, h => by
    simp only [fnd]
    rw [h m (by omega), fnd_congr m (fun k hk => h k (by omega))]
theorem fnd_lt {P : Nat → Bool} {lo : Nat} : ∀ (m k : Nat), fnd P lo m = some k → k < m
  | 0, k, h => by simp [fnd] at h
  | m + 1, k, h => by
    simp only [fnd] at h
    split at h
    · cases h
    · split at h
      · cases h; omega
      · have := fnd_lt m k h; omega
theorem mat_go {al : AlS} {kd : Int32} {w : Nat} {tm : Nat → Bool} : ∀ (d j : Nat) (t : TrS) (G : Nat → Bool) (y : Int32) (nc : Nat), (∀ i, j ≤ i → i < j + d → al.2.1 i < 120) → t.1 = tm → (∀ k, k < 120 → t.2.1 k = G k) → t.2.2.1 = nI nc → t.2.2.2.2 = y →
    (matL al kd w d j t).1 = tm ∧ (matL al kd w d j t).2.2.1 = nI (mxL al tm kd w d j G y nc).2.2 ∧ (matL al kd w d j t).2.2.2.2 = (mxL al tm kd w d j G y nc).2.1 ∧ (mxL al tm kd w d j G y nc).2.2 ≤ nc + d
  | 0, j, t, G, y, nc, _, h1, h2, h3, h4 => ⟨h1, h3, h4, Nat.le_refl _⟩
  | d + 1, j, t, G, y, nc, ha, h1, h2, h3, h4 => by
    simp only [matL, mxL]
    by_cases c : nI (al.1 j) = kd
    · rw [if_pos c, if_pos c]
      have hj := ha j (Nat.le_refl _) (by omega)
      have ef : fnd (fun k => t.1 k && !t.2.1 k) (al.2.1 j - w) (al.2.1 j + 1) = fnd (fun k => tm k && !G k) (al.2.1 j - w) (al.2.1 j + 1) := fnd_congr _ (fun k hk => by rw [h1, h2 k (by omega)])
      unfold tr_one
      rw [ef]
      cases hf : fnd (fun k => tm k && !G k) (al.2.1 j - w) (al.2.1 j + 1) with
      | none =>
        have ih := mat_go (al := al) (kd := kd) (w := w) (tm := tm) d (j + 1) (t.1, t.2.1, t.2.2.1, t.2.2.2.1 + 1, t.2.2.2.2) G y nc (fun i i1 i2 => ha i (by omega) (by omega)) h1 h2 h3 h4
        exact ⟨ih.1, ih.2.1, ih.2.2.1, by have := ih.2.2.2; show (mxL al tm kd w d (j + 1) G y nc).2.2 ≤ _; omega⟩
      | some k =>
        have ih := mat_go (al := al) (kd := kd) (w := w) (tm := tm) d (j + 1) (t.1, updB t.2.1 k true, t.2.2.1 + 1, t.2.2.2.1, t.2.2.2.2 + (nI (al.2.1 j) - nI k)) (updB G k true) (y + (nI (al.2.1 j) - nI k)) (nc + 1) (fun i i1 i2 => ha i (by omega) (by omega)) h1 (fun i hi => by
          show updB t.2.1 k true i = updB G k true i
          by_cases e : i = k
          · subst e; rw [upB_at, upB_at]
          · rw [upB_ne e, upB_ne e]; exact h2 i hi) (by show t.2.2.1 + 1 = _; rw [h3, nI_1]) (by show t.2.2.2.2 + _ = _; rw [h4])
        exact ⟨ih.1, ih.2.1, ih.2.2.1, by have := ih.2.2.2; show (mxL al tm kd w d (j + 1) (updB G k true) (y + (nI (al.2.1 j) - nI k)) (nc + 1)).2.2 ≤ _; omega⟩
    · rw [if_neg c, if_neg c]
      have ih := mat_go (al := al) (kd := kd) (w := w) (tm := tm) d (j + 1) t G y nc (fun i i1 i2 => ha i (by omega) (by omega)) h1 h2 h3 h4
      exact ⟨ih.1, ih.2.1, ih.2.2.1, by have := ih.2.2.2; omega⟩
theorem mat_miss {al : AlS} {kd : Int32} {w : Nat} : ∀ (d j : Nat) (t : TrS), (matL al kd w d j t).2.2.2.1 + (matL al kd w d j t).2.2.1 = faL al kd d j (t.2.2.2.1 + t.2.2.1)
  | 0, _, _ => rfl
  | d + 1, j, t => by
    simp only [matL, faL]
    by_cases c : nI (al.1 j) = kd
    · rw [if_pos c, if_pos c, mat_miss d (j + 1)]
      unfold tr_one
      cases hf : fnd (fun k => t.1 k && !t.2.1 k) (al.2.1 j - w) (al.2.1 j + 1) with
      | none =>
        show faL al kd d (j + 1) (t.2.2.2.1 + 1 + t.2.2.1) = _
        congr 1
        rw [Int32.add_assoc, Int32.add_assoc, Int32.add_comm 1]
      | some k =>
        show faL al kd d (j + 1) (t.2.2.2.1 + (t.2.2.1 + 1)) = _
        congr 1
        rw [Int32.add_assoc]
    · rw [if_neg c, if_neg c, mat_miss d (j + 1), Int32.add_zero]
theorem faL_add {al : AlS} {x : Int32} : ∀ (d j : Nat) (y z : Int32), faL al x d j (y + z) = faL al x d j y + z
  | 0, _, _, _ => rfl
  | d + 1, j, y, z => by
    simp only [faL]
    have e1 : y + z + 1 = y + 1 + z := by rw [Int32.add_assoc, Int32.add_assoc, Int32.add_comm z]
    have e2 : y + z + 0 = y + 0 + z := by rw [Int32.add_zero, Int32.add_zero]
    rw [e1, e2, faL_add d (j + 1) (y + 1) z, faL_add d (j + 1) (y + 0) z]
    split <;> rfl
/-- a matching of the finder says what the reference's says -/
theorem match_all {al : AlS} {kd : Int32} {w : Nat} {tr : TrS} {im : Nat → Bool} (ha : ∀ j, j < al.2.2.2 → al.2.1 j < 120) (h3 : al.2.2.2 ≤ 360) :
    (matL al kd w al.2.2.2 0 (tr_begin tr)).1 = tr.1 ∧
    (matL al kd w al.2.2.2 0 (tr_begin tr)).2.2.1 = nI (mxL al tr.1 kd w al.2.2.2 0 (offL 120 0 im) 0 0).2.2 ∧
    (matL al kd w al.2.2.2 0 (tr_begin tr)).2.2.2.2 = (mxL al tr.1 kd w al.2.2.2 0 (offL 120 0 im) 0 0).2.1 ∧
    (mxL al tr.1 kd w al.2.2.2 0 (offL 120 0 im) 0 0).2.2 ≤ 360 ∧
    (matL al kd w al.2.2.2 0 (tr_begin tr)).2.2.2.1 = faL al kd al.2.2.2 0 (-(nI (mxL al tr.1 kd w al.2.2.2 0 (offL 120 0 im) 0 0).2.2)) := by
  obtain ⟨g1, g2, g3, g4⟩ := mat_go (al := al) (kd := kd) (w := w) (tm := tr.1) al.2.2.2 0 (tr_begin tr) (offL 120 0 im) 0 0 (fun i _ i2 => ha i (by omega)) rfl (fun k hk => by
    show offL 120 0 tr.2.1 k = _
    rw [(offL_at 120 0 tr.2.1).1 k (Nat.zero_le _) (by omega), (offL_at 120 0 im).1 k (Nat.zero_le _) (by omega)]) rfl rfl
  have hm := mat_miss (al := al) (kd := kd) (w := w) al.2.2.2 0 (tr_begin tr)
  refine ⟨g1, g2, g3, by omega, ?_⟩
  rw [← g2]
  generalize (matL al kd w al.2.2.2 0 (tr_begin tr)).2.2.1 = h at *
  generalize (matL al kd w al.2.2.2 0 (tr_begin tr)).2.2.2.1 = q at *
  have e : (tr_begin tr).2.2.2.1 + (tr_begin tr).2.2.1 = (0 : Int32) := by show (0 : Int32) + 0 = 0; decide
  rw [e] at hm
  rw [← Int32.zero_add (-h), faL_add, ← hm]
  grind
