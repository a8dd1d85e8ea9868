/-! costs of segments: both sides are the least sum of distances -/
theorem i_lt (a b : Int32) : a < b ↔ a.toInt < b.toInt := Int32.lt_iff_toInt_lt
theorem i_le (a b : Int32) : a ≤ b ↔ a.toInt ≤ b.toInt := Int32.le_iff_toInt_le
theorem i_eq (a b : Int32) : a = b ↔ a.toInt = b.toInt := Int32.toInt_inj.symm
theorem up_at (f : Nat → Int32) (k : Nat) (x : Int32) : upd f k x k = x := by simp [upd]
theorem up_ne {f : Nat → Int32} {k j : Nat} {x : Int32} (h : j ≠ k) : upd f k x j = f j := by simp [upd, h]
def sg (g : Int32 → Int) (S : Nat → Int32) : Nat → Int
  | 0 => 0
  | n + 1 => sg g S n + g (S n)
theorem sg_congr {g : Int32 → Int} {S T : Nat → Int32} : ∀ n, (∀ k, k < n → S k = T k) → sg g S n = sg g T n
  | 0, _ => rfl
  | n + 1, h => by
    show sg g S n + g (S n) = sg g T n + g (T n)
    rw [sg_congr n (fun k hk => h k (by omega)), h n (by omega)]
theorem sortL_hi {x : Int32} : ∀ (p : Nat) (S : Nat → Int32) (k : Nat), p < k → sortL x p S k = S k
  | 0, S, k, h => up_ne (by omega)
  | p + 1, S, k, h => by
    simp only [sortL]
    split
    · exact up_ne (by omega)
    · rw [sortL_hi p _ k (by omega)]; exact up_ne (by omega)
theorem sortL_sg (g : Int32 → Int) {x : Int32} : ∀ (p : Nat) (S : Nat → Int32), sg g (sortL x p S) (p + 1) = sg g S p + g x
  | 0, S => by
    show (0 : Int) + g (upd S 0 x 0) = 0 + g x
    rw [up_at]
  | p + 1, S => by
    show sg g (sortL x (p + 1) S) (p + 1) + g (sortL x (p + 1) S (p + 1)) = sg g S p + g (S p) + g x
    simp only [sortL]
    split
    · rw [up_at, sg_congr (T := S) (p + 1) (fun k hk => up_ne (by omega))]
      rfl
    · rw [sortL_sg g p, sortL_hi p _ (p + 1) (by omega), up_at, sg_congr (T := S) p (fun k hk => up_ne (by omega))]
      omega
def Srt (S : Nat → Int32) (n : Nat) : Prop := ∀ i, i + 1 < n → (S i).toInt ≤ (S (i + 1)).toInt
theorem Srt_le {S : Nat → Int32} {n : Nat} (h : Srt S n) {i : Nat} : ∀ {j : Nat}, i ≤ j → j < n → (S i).toInt ≤ (S j).toInt := by
  intro j
  induction j with
  | zero => intro h1 _; obtain rfl : i = 0 := by omega
            exact Int.le_refl _
  | succ j ih =>
    intro h1 h2
    by_cases e : i = j + 1
    · subst e; exact Int.le_refl _
    · exact Int.le_trans (ih (by omega) (by omega)) (h j h2)
theorem sortL_le {x : Int32} {B : Int} : ∀ (p : Nat) (S : Nat → Int32), x.toInt ≤ B → (∀ k, k < p → (S k).toInt ≤ B) → (sortL x p S p).toInt ≤ B
  | 0, S, hx, _ => by simp only [sortL, up_at]; exact hx
  | p + 1, S, hx, h => by
    simp only [sortL]
    split
    · rw [up_at]; exact hx
    · rw [sortL_hi p _ (p + 1) (by omega), up_at]; exact h p (by omega)
theorem sortL_srt {x : Int32} : ∀ (p : Nat) (S : Nat → Int32), Srt S p → Srt (sortL x p S) (p + 1)
  | 0, S, _ => fun i hi => absurd hi (by omega)
  | p + 1, S, h => by
    simp only [sortL]
    split
    · rename_i c
      intro i hi
      by_cases e : i = p
      · subst e; rw [up_at, up_ne (by omega)]; exact (i_le _ _).mp c
      · rw [up_ne (by omega), up_ne (by omega)]; exact h i (by omega)
    · rename_i c
      intro i hi
      have hS : Srt (upd S (p + 1) (S p)) p := fun i hi => by
        rw [up_ne (by omega), up_ne (by omega)]; exact h i (by omega)
      by_cases e : i = p
      · subst e
        rw [sortL_hi i _ (i + 1) (by omega), up_at]
        have c2 : x.toInt < (S i).toInt := by rw [i_le] at c; omega
        exact sortL_le i _ (by omega) (fun k hk => by rw [up_ne (by omega)]; exact Srt_le h (by omega) (by omega))
      · exact sortL_srt p _ hS i (by omega)
theorem sortL_all {P : Int32 → Prop} {x : Int32} (hx : P x) : ∀ (p : Nat) (S : Nat → Int32), (∀ k, k < p → P (S k)) → ∀ k, k < p + 1 → P (sortL x p S k)
  | 0, S, _, k, hk => by
    obtain rfl : k = 0 := by omega
    simp only [sortL, up_at]; exact hx
  | p + 1, S, h, k, hk => by
    simp only [sortL]
    split
    · by_cases e : k = p + 1
      · subst e; rw [up_at]; exact hx
      · rw [up_ne e]; exact h k (by omega)
    · by_cases e : k = p + 1
      · subst e; rw [sortL_hi p _ (p + 1) (by omega), up_at]; exact h p (by omega)
      · exact sortL_all hx p _ (fun j hj => by rw [up_ne (by omega)]; exact h j (by omega)) k (by omega)
theorem sortL_congr {x : Int32} : ∀ (p : Nat) (S T : Nat → Int32), (∀ k, k < p → S k = T k) → ∀ k, k < p + 1 → sortL x p S k = sortL x p T k
  | 0, S, T, _, k, hk => by
    obtain rfl : k = 0 := by omega
    simp only [sortL, up_at]
  | p + 1, S, T, h, k, hk => by
    simp only [sortL]
    rw [h p (by omega)]
    split
    · by_cases e : k = p + 1
      · subst e; rw [up_at, up_at]
      · rw [up_ne e, up_ne e]; exact h k (by omega)
    · by_cases e : k = p + 1
      · subst e; rw [sortL_hi p _ (p + 1) (by omega), sortL_hi p _ (p + 1) (by omega), up_at, up_at]
      · exact sortL_congr p _ _ (fun j hj => by rw [up_ne (by omega), up_ne (by omega)]; exact h j (by omega)) k (by omega)
theorem midL_congr (v : Nat → Int32) (fr : Nat) : ∀ (d i : Nat) (S T : Nat → Int32), fr ≤ i → (∀ k, k < i - fr → S k = T k) → ∀ k, k < i - fr + d → midL v fr d i S k = midL v fr d i T k
  | 0, i, S, T, _, h, k, hk => h k (by omega)
  | d + 1, i, S, T, hi, h, k, hk => by
    simp only [midL]
    exact midL_congr v fr d (i + 1) _ _ (by omega) (fun j hj => sortL_congr _ _ _ h j (by omega)) k (by omega)
/-- how far a value is from a point -/
def ab (y : Int) (x : Int32) : Int := if x.toInt ≤ y then y - x.toInt else x.toInt - y
def wt (h : Nat) (d : Int) : Nat → Int
  | 0 => 0
  | n + 1 => wt h d n + (if n < h then d else -d)
theorem wt_lo {h : Nat} {d : Int} : ∀ n : Nat, n ≤ h → wt h d n = (n : Int) * d
  | 0, _ => by simp [wt]
  | n + 1, hn => by
    show wt h d n + _ = _
    rw [wt_lo n (by omega), if_pos (by omega), Int.natCast_succ, Int.add_mul, Int.one_mul]
theorem wt_hi {h : Nat} {d : Int} : ∀ j : Nat, wt h d (h + j) = (h : Int) * d - (j : Int) * d
  | 0 => by rw [Nat.add_zero, wt_lo h (Nat.le_refl h)]; simp
  | j + 1 => by
    show wt h d (h + j) + (if h + j < h then d else -d) = _
    rw [wt_hi j, if_neg (by omega), Int.natCast_succ, Int.add_mul, Int.one_mul]
    omega
theorem wt_eq {h n : Nat} {d : Int} (hn : h ≤ n) : wt h d n = ((h : Int) - ((n : Int) - h)) * d := by
  obtain ⟨j, rfl⟩ : ∃ j, n = h + j := ⟨n - h, by omega⟩
  rw [wt_hi, Int.sub_mul, show (((h + j : Nat) : Int) - (h : Int)) = (j : Int) by omega]
theorem sg_ge {S : Nat → Int32} {y z : Int} {h : Nat} {d : Int} : ∀ n, (∀ k, k < n → ab z (S k) + (if k < h then d else -d) ≤ ab y (S k)) → sg (ab z) S n + wt h d n ≤ sg (ab y) S n
  | 0, _ => by simp [sg, wt]
  | n + 1, H => by
    have h1 := sg_ge n (fun k hk => H k (by omega))
    have h2 := H n (by omega)
    show sg (ab z) S n + ab z (S n) + (wt h d n + (if n < h then d else -d)) ≤ sg (ab y) S n + ab y (S n)
    omega
theorem ab_g1 (y : Int) (x : Int32) : y - x.toInt ≤ ab y x := by unfold ab; split <;> omega
theorem ab_g2 (y : Int) (x : Int32) : x.toInt - y ≤ ab y x := by unfold ab; split <;> omega
theorem ab_pos (y : Int) (x : Int32) : 0 ≤ ab y x := by unfold ab; split <;> omega
theorem md_all {S : Nat → Int32} {n : Nat} (h : Srt S n) (h0 : 0 < n) :
    (∀ y, sg (ab (S ((n - 1) / 2)).toInt) S n ≤ sg (ab y) S n)
    ∧ (∀ y, (S (n / 2)).toInt ≤ y → sg (ab (S ((n - 1) / 2)).toInt) S n + (y - (S (n / 2)).toInt) ≤ sg (ab y) S n)
    ∧ (∀ y, y ≤ (S ((n - 1) / 2)).toInt → sg (ab (S ((n - 1) / 2)).toInt) S n + ((S ((n - 1) / 2)).toInt - y) ≤ sg (ab y) S n)
    ∧ (∀ y, (S ((n - 1) / 2)).toInt ≤ y → y ≤ (S (n / 2)).toInt → sg (ab y) S n ≤ sg (ab (S ((n - 1) / 2)).toInt) S n) := by
  obtain ⟨lo, hlo⟩ : ∃ z, (S ((n - 1) / 2)).toInt = z := ⟨_, rfl⟩
  obtain ⟨u, hu⟩ : ∃ z, (S (n / 2)).toInt = z := ⟨_, rfl⟩
  rw [hlo, hu]
  have a3 : ∀ y, y ≤ lo → sg (ab lo) S n + (lo - y) ≤ sg (ab y) S n := by
    intro y hy
    have := sg_ge (S := S) (y := y) (z := lo) (h := (n - 1) / 2) (d := -(lo - y)) n (fun k hk => by
      have g1 : ¬ k < (n - 1) / 2 → lo ≤ (S k).toInt := fun z => by rw [← hlo]; exact Srt_le h (by omega) hk
      unfold ab
      by_cases c : k < (n - 1) / 2
      · rw [if_pos c]; split <;> split <;> omega
      · have := g1 c
        rw [if_neg c]; split <;> split <;> omega)
    rw [wt_eq (by omega)] at this
    have hm : (1 : Int) * (lo - y) ≤ ((n : Int) - (((n - 1) / 2 : Nat) : Int) - (((n - 1) / 2 : Nat) : Int)) * (lo - y) := Int.mul_le_mul_of_nonneg_right (by omega) (by omega)
    rw [Int.one_mul] at hm
    have e : (((((n - 1) / 2 : Nat) : Int)) - ((n : Int) - (((n - 1) / 2 : Nat) : Int))) * -(lo - y) = ((n : Int) - (((n - 1) / 2 : Nat) : Int) - (((n - 1) / 2 : Nat) : Int)) * (lo - y) := by
      rw [Int.mul_neg, ← Int.neg_mul]; congr 1; omega
    rw [e] at this
    omega
  have a1 : ∀ y, sg (ab lo) S n ≤ sg (ab y) S n := by
    intro y
    by_cases hy : y ≤ lo
    · have := a3 y hy; omega
    · have := sg_ge (S := S) (y := y) (z := lo) (h := (n - 1) / 2 + 1) (d := y - lo) n (fun k hk => by
        have g1 : k < (n - 1) / 2 + 1 → (S k).toInt ≤ lo := fun z => by rw [← hlo]; exact Srt_le h (by omega) (by omega)
        unfold ab
        by_cases c : k < (n - 1) / 2 + 1
        · have := g1 c
          rw [if_pos c]; split <;> split <;> omega
        · rw [if_neg c]; split <;> split <;> omega)
      rw [wt_eq (by omega)] at this
      have hm : (0 : Int) ≤ ((((n - 1) / 2 + 1 : Nat) : Int) - ((n : Int) - (((n - 1) / 2 + 1 : Nat) : Int))) * (y - lo) := Int.mul_nonneg (by omega) (by omega)
      omega
  have a4 : ∀ y, lo ≤ y → y ≤ u → sg (ab y) S n ≤ sg (ab lo) S n := by
    intro y h1 h2
    have := sg_ge (S := S) (y := lo) (z := y) (h := n / 2) (d := -(y - lo)) n (fun k hk => by
      have g1 : ¬ k < n / 2 → u ≤ (S k).toInt := fun z => by rw [← hu]; exact Srt_le h (by omega) hk
      unfold ab
      by_cases c : k < n / 2
      · rw [if_pos c]; split <;> split <;> omega
      · have := g1 c
        rw [if_neg c]; split <;> split <;> omega)
    rw [wt_eq (by omega)] at this
    have hm : (0 : Int) ≤ ((n : Int) - ((n / 2 : Nat) : Int) - ((n / 2 : Nat) : Int)) * (y - lo) := Int.mul_nonneg (by omega) (by omega)
    have e : (((n / 2 : Nat) : Int) - ((n : Int) - ((n / 2 : Nat) : Int))) * -(y - lo) = ((n : Int) - ((n / 2 : Nat) : Int) - ((n / 2 : Nat) : Int)) * (y - lo) := by
      rw [Int.mul_neg, ← Int.neg_mul]; congr 1; omega
    rw [e] at this
    omega
  have hlu : lo ≤ u := by rw [← hlo, ← hu]; exact Srt_le h (by omega) (by omega)
  refine ⟨a1, ?_, a3, a4⟩
  intro y hy
  have := sg_ge (S := S) (y := y) (z := u) (h := n / 2 + 1) (d := y - u) n (fun k hk => by
    have g1 : k < n / 2 + 1 → (S k).toInt ≤ u := fun z => by rw [← hu]; exact Srt_le h (by omega) (by omega)
    unfold ab
    by_cases c : k < n / 2 + 1
    · have := g1 c
      rw [if_pos c]; split <;> split <;> omega
    · rw [if_neg c]; split <;> split <;> omega)
  rw [wt_eq (by omega)] at this
  have hm : (1 : Int) * (y - u) ≤ (((n / 2 + 1 : Nat) : Int) - ((n : Int) - ((n / 2 + 1 : Nat) : Int))) * (y - u) := Int.mul_le_mul_of_nonneg_right (by omega) (by omega)
  rw [Int.one_mul] at hm
  have := a1 u
  omega
/-- a least value -/
def IsM (F : Int → Int) (m : Int) : Prop := (∀ y, m ≤ F y) ∧ ∃ y, F y = m
theorem IsM.uniq {F : Int → Int} {a b : Int} (h1 : IsM F a) (h2 : IsM F b) : a = b := by
  obtain ⟨h1, y, h3⟩ := h1
  obtain ⟨h2, z, h4⟩ := h2
  have := h1 z
  have := h2 y
  omega
theorem IsM.ext {F G : Int → Int} {a : Int} (h1 : IsM F a) (h : ∀ y, F y = G y) : IsM G a := by
  have e : F = G := funext h
  rw [← e]; exact h1
def bd (x : Int32) : Prop := -1000 ≤ x.toInt ∧ x.toInt ≤ 1000
theorem dm_ok {S : Nat → Int32} {n : Nat} {x : Int32} {m : Int} (h : Srt S n) (hb : ∀ k, k < n → bd (S k)) (hx : bd x) (hm : IsM (fun y => sg (ab y) S n) m) :
    IsM (fun y => sg (ab y) S n + ab y x) (m + (dm S n x).toInt) ∧ 0 ≤ (dm S n x).toInt ∧ (dm S n x).toInt ≤ 2000 := by
  unfold dm
  unfold bd at hx
  by_cases h0 : n = 0
  · subst h0
    rw [if_pos rfl]
    obtain ⟨-, y, hy⟩ := hm
    have e0 : m = 0 := hy.symm
    subst e0
    refine ⟨⟨fun y => ?_, ⟨x.toInt, ?_⟩⟩, by decide, by decide⟩
    · show (0 : Int) + 0 ≤ 0 + ab y x
      have := ab_pos y x
      omega
    · show (0 : Int) + ab x.toInt x = 0 + 0
      unfold ab; rw [if_pos (Int.le_refl _)]; omega
  · rw [if_neg h0]
    obtain ⟨a1, a2, a3, a4⟩ := md_all h (by omega)
    have bl := hb ((n - 1) / 2) (by omega)
    have bu := hb (n / 2) (by omega)
    have hlu : (S ((n - 1) / 2)).toInt ≤ (S (n / 2)).toInt := Srt_le h (by omega) (by omega)
    have em : m = sg (ab (S ((n - 1) / 2)).toInt) S n := IsM.uniq hm ⟨a1, _, rfl⟩
    unfold bd at bl bu
    generalize S ((n - 1) / 2) = lo at *
    generalize S (n / 2) = u at *
    subst em
    by_cases c1 : x < lo
    · rw [if_pos c1, ti_sub (by omega) (by omega)]
      rw [i_lt] at c1
      refine ⟨⟨fun y => ?_, ⟨lo.toInt, ?_⟩⟩, by omega, by omega⟩
      · show _ ≤ sg (ab y) S n + ab y x
        have g1 := a1 y
        have g2 := ab_pos y x
        by_cases c : y ≤ lo.toInt
        · have := a3 y c
          have := ab_g2 y x
          have := ab_g1 y x
          omega
        · have e : ab y x = y - x.toInt := by unfold ab; rw [if_pos (by omega)]
          omega
      · show sg (ab lo.toInt) S n + ab lo.toInt x = _
        unfold ab; rw [if_pos (by omega)]
    · rw [if_neg c1]
      rw [i_lt] at c1
      by_cases c2 : x ≤ u
      · rw [if_pos c2]
        rw [i_le] at c2
        refine ⟨⟨fun y => ?_, ⟨x.toInt, ?_⟩⟩, by decide, by decide⟩
        · show _ + (0 : Int) ≤ sg (ab y) S n + ab y x
          have g1 := a1 y
          have g2 := ab_pos y x
          omega
        · show sg (ab x.toInt) S n + ab x.toInt x = _ + (0 : Int)
          have g1 := a1 x.toInt
          have g2 := a4 x.toInt (by omega) c2
          have e : ab x.toInt x = 0 := by unfold ab; rw [if_pos (Int.le_refl _)]; omega
          omega
      · rw [if_neg c2, ti_sub (by omega) (by omega)]
        rw [i_le] at c2
        refine ⟨⟨fun y => ?_, ⟨u.toInt, ?_⟩⟩, by omega, by omega⟩
        · show _ ≤ sg (ab y) S n + ab y x
          have g1 := a1 y
          have g2 := ab_pos y x
          by_cases c : u.toInt ≤ y
          · have g3 := a2 y c
            have := ab_g2 y x
            have := ab_g1 y x
            omega
          · have e : ab y x = x.toInt - y := by unfold ab; rw [if_neg (by omega)]
            omega
        · show sg (ab u.toInt) S n + ab u.toInt x = _
          have g1 := a1 u.toInt
          have g2 := a4 u.toInt hlu (Int.le_refl _)
          have e : ab u.toInt x = x.toInt - u.toInt := by unfold ab; rw [if_neg (by omega)]
          omega
