/-! the cost of a segment as a number of the values alone -/
theorem CK_ex {v : Nat → Int32} (hv : VB v) {f t : Nat} (h : f < t) (ht : t ≤ 120) : ∃ x, CK v f t x := by
  have hl := learL_ok hv t 0 (fun _ => 0) (fun _ => 0) (by omega) (fun f t h1 h2 => absurd h2 (by omega))
  rw [Nat.zero_add] at hl
  exact ⟨_, hl.1 f t h (Nat.le_refl _)⟩
theorem ck_sig (v : Nat → Int32) (f t : Nat) : ∃ y : Int32, ∀ x, CK v f t x → x = y := by
  by_cases h : ∃ x, CK v f t x
  · obtain ⟨y, hy⟩ := h
    exact ⟨y, fun x hx => hx.uniq hy⟩
  · exact ⟨0, fun x hx => absurd ⟨x, hx⟩ h⟩
noncomputable def cF (v : Nat → Int32) (f t : Nat) : Int32 := Classical.choose (ck_sig v f t)
theorem cF_eq {v : Nat → Int32} {f t : Nat} {x : Int32} (h : CK v f t x) : x = cF v f t := Classical.choose_spec (ck_sig v f t) x h
theorem cF_ok {v : Nat → Int32} (hv : VB v) {f t : Nat} (h : f < t) (ht : t ≤ 120) : CK v f t (cF v f t) := by
  obtain ⟨x, hx⟩ := CK_ex hv h ht
  rw [← cF_eq hx]; exact hx
theorem SC_c {v : Nat → Int32} {n : Nat} {K : Nat → Int32} (h : SC v n K) {f t : Nat} (h1 : f < t) (h2 : t ≤ n) : K (tri (t - 1) + f) = cF v f t := cF_eq (h f t h1 h2)
noncomputable def cI (v : Nat → Int32) (f t : Nat) : Int := (cF v f t).toInt
theorem cI_bd {v : Nat → Int32} (hv : VB v) {f t : Nat} (h : f < t) (ht : t ≤ 120) : 0 ≤ cI v f t ∧ cI v f t ≤ 240000 := by
  have := (cF_ok hv h ht).2
  unfold cI
  omega
theorem rs_split (g : Int32 → Int) (v : Nat → Int32) (f a : Nat) : ∀ b, rs g v f (a + b) = rs g v f a + rs g v (f + a) b
  | 0 => by show rs g v f a = rs g v f a + 0; omega
  | b + 1 => by
    rw [show a + (b + 1) = a + b + 1 by omega, rs_back, rs_back, rs_split g v f a b, show f + (a + b) = f + a + b by omega]
    omega
theorem cI_sup {v : Nat → Int32} (hv : VB v) {f m t : Nat} (h1 : f < m) (h2 : m < t) (ht : t ≤ 120) : cI v f m + cI v m t ≤ cI v f t := by
  obtain ⟨⟨-, y, hy⟩, -⟩ := cF_ok hv (show f < t by omega) ht
  have a := (cF_ok hv h1 (by omega)).1.1 y
  have b := (cF_ok hv h2 ht).1.1 y
  have e := rs_split (ab y) v f (m - f) (t - m)
  rw [show m - f + (t - m) = t - f by omega, show f + (m - f) = m by omega] at e
  have hy : rs (ab y) v f (t - f) = (cF v f t).toInt := hy
  have a : (cF v f m).toInt ≤ rs (ab y) v f (m - f) := a
  have b : (cF v m t).toInt ≤ rs (ab y) v m (t - m) := b
  unfold cI
  omega
theorem cI_one {v : Nat → Int32} (hv : VB v) {i : Nat} (h : i < 120) : cI v i (i + 1) = 0 := by
  have a := (cF_ok hv (show i < i + 1 by omega) (by omega)).1.1 (v i).toInt
  have b := (cF_ok hv (show i < i + 1 by omega) (by omega)).2.1
  have e : rs (ab (v i).toInt) v i (i + 1 - i) = 0 := by
    rw [show i + 1 - i = 0 + 1 by omega, rs_back]
    show (0 : Int) + ab (v i).toInt (v (i + 0)) = 0
    rw [Nat.add_zero]
    unfold ab
    rw [if_pos (Int.le_refl _)]
    omega
  have a : (cF v i (i + 1)).toInt ≤ rs (ab (v i).toInt) v i (i + 1 - i) := a
  unfold cI
  omega
theorem KB_of {v : Nat → Int32} {n : Nat} {K : Nat → Int32} (hn : n ≤ 120) (h : SC v n K) : KB n K := fun f t h1 h2 => by
  have := (h f t h1 h2).2
  omega
