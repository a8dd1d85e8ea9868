/-! alarms matched with marks -/
theorem fnd_congr {P Q : Nat → Bool} {lo : Nat} : ∀ m : Nat, (∀ k, k < m → P k = Q k) → fnd P lo m = fnd Q lo m
  | 0, _ => rfl
  | m + 1, h => by
    simp only [fnd]
    rw [h m (by omega), fnd_congr m (fun k hk => h k (by omega))]
theorem fnd_ok {P : Nat → Bool} {lo : Nat} : ∀ (m k : Nat), fnd P lo m = some k → lo ≤ k ∧ k < m ∧ P k = true
  | 0, k, h => by simp [fnd] at h
  | m + 1, k, h => by
    simp only [fnd] at h
    by_cases c : m < lo
    · rw [if_pos c] at h; cases h
    · rw [if_neg c] at h
      by_cases c2 : P m = true
      · rw [if_pos c2] at h
        obtain rfl : m = k := Option.some.inj h
        exact ⟨by omega, by omega, c2⟩
      · rw [if_neg c2] at h
        have := fnd_ok m k h
        exact ⟨this.1, by omega, this.2.2⟩
/-- two states of the marks that no matching tells apart -/
def TrE (t u : TrS) : Prop := t.1 = u.1 ∧ (∀ k, k < 120 → t.2.1 k = u.2.1 k) ∧ t.2.2 = u.2.2
theorem TrE_one {t u : TrS} (h : TrE t u) {nu : Nat} (hn : nu < 120) (w : Nat) : TrE (tr_one t nu w) (tr_one u nu w) := by
  obtain ⟨h1, h2, h3⟩ := h
  have e : fnd (fun k => t.1 k && !t.2.1 k) (nu - w) (nu + 1) = fnd (fun k => u.1 k && !u.2.1 k) (nu - w) (nu + 1) := fnd_congr _ (fun k hk => by rw [h1, h2 k (by omega)])
  unfold tr_one
  rw [e]
  cases fnd (fun k => u.1 k && !u.2.1 k) (nu - w) (nu + 1) with
  | none =>
    show TrE (t.1, t.2.1, t.2.2.1, t.2.2.2.1 + 1, t.2.2.2.2) (u.1, u.2.1, u.2.2.1, u.2.2.2.1 + 1, u.2.2.2.2)
    rw [h3]
    exact ⟨h1, h2, rfl⟩
  | some k =>
    show TrE (t.1, updB t.2.1 k true, t.2.2.1 + 1, t.2.2.2.1, t.2.2.2.2 + (nI nu - nI k)) (u.1, updB u.2.1 k true, u.2.2.1 + 1, u.2.2.2.1, u.2.2.2.2 + (nI nu - nI k))
    rw [h3]
    refine ⟨h1, fun j hj => ?_, rfl⟩
    show updB t.2.1 k true j = updB u.2.1 k true j
    by_cases c : j = k
    · rw [c, upB_at, upB_at]
    · rw [upB_ne c, upB_ne c]; exact h2 j hj
theorem TrE_mat {al : AlS} {kd : Int32} {w : Nat} : ∀ (d j : Nat) (t u : TrS), (∀ i, j ≤ i → i < j + d → al.2.1 i < 120) → TrE t u → TrE (matL al kd w d j t) (matL al kd w d j u)
  | 0, _, _, _, _, h => h
  | d + 1, j, t, u, ha, h => by
    simp only [matL]
    split
    · exact TrE_mat d (j + 1) _ _ (fun i i1 i2 => ha i (by omega) (by omega)) (TrE_one h (ha j (Nat.le_refl _) (by omega)) w)
    · exact TrE_mat d (j + 1) _ _ (fun i i1 i2 => ha i (by omega) (by omega)) h
/-- a matching, as the alarms and the marks alone tell it -/
def mtc (al : AlS) (tm : Nat → Bool) (kd : Int32) (w : Nat) : TrS := matL al kd w al.2.2.2 0 (tm, (fun _ => false), 0, 0, 0)
theorem mtc_eq {al : AlS} {kd : Int32} {w : Nat} {tr : TrS} (ha : ∀ j, j < al.2.2.2 → al.2.1 j < 120) : (matL al kd w al.2.2.2 0 (tr_begin tr)).2.2 = (mtc al tr.1 kd w).2.2 ∧ (matL al kd w al.2.2.2 0 (tr_begin tr)).1 = (mtc al tr.1 kd w).1 := by
  have := TrE_mat (al := al) (kd := kd) (w := w) al.2.2.2 0 (tr_begin tr) (tr.1, (fun _ => false), 0, 0, 0) (fun i _ i2 => ha i (by omega)) ⟨rfl, fun k hk => (offL_at 120 0 tr.2.1).1 k (Nat.zero_le _) (by omega), rfl⟩
  exact ⟨this.2.2, this.1⟩
/-- how many of the first alarms are of a kind -/
def kc (al : AlS) (kd : Nat) : Nat → Nat
  | 0 => 0
  | k + 1 => kc al kd k + (if al.1 k = kd then 1 else 0)
theorem kc_le (al : AlS) (kd : Nat) : ∀ k, kc al kd k ≤ k
  | 0 => Nat.le_refl _
  | k + 1 => by
    have := kc_le al kd k
    show kc al kd k + (if al.1 k = kd then 1 else 0) ≤ k + 1
    split <;> omega
def MtI (al : AlS) (tm : Nat → Bool) (kd w j : Nat) (t : TrS) : Prop := t.1 = tm ∧ ∃ h ms dl : Nat, t.2.2 = (nI h, nI ms, nI dl) ∧ h + ms = kc al kd j ∧ cnL t.2.1 120 0 = h ∧ (∀ k, k < 120 → t.2.1 k = true → tm k = true) ∧ dl ≤ w * h
theorem MtI_go {al : AlS} {tm : Nat → Bool} {kd w : Nat} (hk : kd ≤ 2) : ∀ (d j : Nat) (t : TrS), (∀ i, j ≤ i → i < j + d → al.2.1 i < 120 ∧ al.1 i ≤ 2) → MtI al tm kd w j t → MtI al tm kd w (j + d) (matL al (nI kd) w d j t)
  | 0, _, _, _, h => h
  | d + 1, j, t, ha, H => by
    simp only [matL]
    obtain ⟨a1, a2⟩ := ha j (Nat.le_refl _) (by omega)
    have ih := fun u hu => MtI_go (al := al) (tm := tm) (w := w) hk d (j + 1) u (fun i i1 i2 => ha i (by omega) (by omega)) hu
    rw [show j + (d + 1) = j + 1 + d by omega]
    obtain ⟨h1, h, ms, dl, h2, h3, h4, h5, h6⟩ := H
    by_cases c : al.1 j = kd
    · rw [if_pos (by rw [c])]
      refine ih _ ?_
      have ek : kc al kd (j + 1) = kc al kd j + 1 := by show kc al kd j + (if al.1 j = kd then 1 else 0) = _; rw [if_pos c]
      unfold tr_one
      cases hf : fnd (fun k => t.1 k && !t.2.1 k) (al.2.1 j - w) (al.2.1 j + 1) with
      | none =>
        refine ⟨h1, h, ms + 1, dl, ?_, by omega, h4, h5, h6⟩
        show (t.2.2.1, t.2.2.2.1 + 1, t.2.2.2.2) = _
        rw [h2, ← nI_1]
      | some k =>
        obtain ⟨f1, f2, f3⟩ := fnd_ok _ _ hf
        rw [Bool.and_eq_true, Bool.not_eq_true'] at f3
        have hm : w * (h + 1) = w * h + w := Nat.mul_succ w h
        refine ⟨h1, h + 1, ms, dl + (al.2.1 j - k), ?_, by omega, ?_, ?_, by omega⟩
        · show (t.2.2.1 + 1, t.2.2.2.1, t.2.2.2.2 + (nI (al.2.1 j) - nI k)) = _
          rw [h2, nI_1, pk_sub (show k ≤ al.2.1 j by omega), nI_add]
        · show cnL (updB t.2.1 k true) 120 0 = h + 1
          rw [cnL_upd f3.2 120 0 (Nat.zero_le _) (by omega), h4]
        · intro i hi hz
          have hz : updB t.2.1 k true i = true := hz
          by_cases e : i = k
          · rw [e, ← h1]; exact f3.1
          · rw [upB_ne e] at hz; exact h5 i hi hz
    · rw [if_neg (by rw [nI_eq (by omega) (by omega)]; exact c)]
      refine ih _ ⟨h1, h, ms, dl, h2, ?_, h4, h5, h6⟩
      rw [h3]
      show kc al kd j = kc al kd j + (if al.1 j = kd then 1 else 0)
      rw [if_neg c]; rfl
theorem cnL_sub {G H : Nat → Bool} : ∀ d i, (∀ j, i ≤ j → j < i + d → G j = true → H j = true) → cnL G d i ≤ cnL H d i
  | 0, _, _ => Nat.le_refl _
  | d + 1, i, h => by
    simp only [cnL]
    have ih := cnL_sub (G := G) (H := H) d (i + 1) (fun j j1 j2 => h j (by omega) (by omega))
    by_cases c : G i = true
    · rw [if_pos c, if_pos (h i (Nat.le_refl _) (by omega) c)]; omega
    · rw [if_neg c]; omega
theorem mtc_ok {al : AlS} {n : Nat} (hA : Alp al n) (hn : n ≤ 120) (tm : Nat → Bool) {kd : Nat} (hk : kd ≤ 2) (w : Nat) :
    ∃ h ms dl : Nat, (mtc al tm (nI kd) w).2.2 = (nI h, nI ms, nI dl) ∧ h + ms = kc al kd al.2.2.2 ∧ h ≤ cnL tm 120 0 ∧ dl ≤ w * h := by
  have := MtI_go (al := al) (tm := tm) (w := w) hk al.2.2.2 0 (tm, (fun _ => false), 0, 0, 0) (fun i i1 i2 => ⟨by have := (hA.1 i (by omega)).2.1; omega, (hA.1 i (by omega)).1⟩) ⟨rfl, 0, 0, 0, rfl, rfl, cnL_0 120 0 (fun _ _ _ => rfl), fun k _ z => Bool.noConfusion z, Nat.zero_le _⟩
  rw [Nat.zero_add] at this
  obtain ⟨h1, h, ms, dl, h2, h3, h4, h5, h6⟩ := this
  refine ⟨h, ms, dl, h2, h3, ?_, h6⟩
  rw [← h4]
  exact cnL_sub 120 0 (fun j _ j2 z => h5 j (by omega) z)
/-- the marks counted -/
theorem cnL_tog {G : Nat → Bool} {a d : Nat} (ha : a < d) : cnL (updB G a (!(G a))) d 0 + (if G a = true then 1 else 0) = cnL G d 0 + (if G a = true then 0 else 1) := by
  cases hG : G a with
  | false =>
    have h1 := cnL_upd hG d 0 (Nat.zero_le _) (by omega)
    rw [Bool.not_false, h1]
    rfl
  | true =>
    have h1 := cnL_upd (G := updB G a false) (a := a) (upB_at _ _ _) d 0 (Nat.zero_le _) (by omega)
    have e : updB (updB G a false) a true = G := by
      funext j
      by_cases c : j = a
      · rw [c, upB_at, hG]
      · rw [upB_ne c, upB_ne c]
    rw [e] at h1
    rw [Bool.not_true, h1]
    rfl
