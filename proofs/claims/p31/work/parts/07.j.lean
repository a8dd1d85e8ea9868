/-! the detectors, the alarms -/
def Csp (c : CsS) (n : Nat) : Prop := 0 ≤ c.2.2.1.toInt ∧ 0 ≤ c.2.2.2.1.toInt ∧ 0 ≤ c.2.2.2.2.1.toInt ∧ (c.2.2.2.1 = 0 ∨ c.2.2.2.2.2.1 ≤ n) ∧ (c.2.2.2.2.1 = 0 ∨ c.2.2.2.2.2.2 ≤ n)
def Csq (c : CsS) (n : Nat) : Prop := 0 ≤ c.2.2.1.toInt ∧ 0 ≤ c.2.2.2.1.toInt ∧ 0 ≤ c.2.2.2.2.1.toInt ∧ c.2.2.2.2.2.1 ≤ n ∧ c.2.2.2.2.2.2 ≤ n
def Php (p : PhS) (n : Nat) : Prop := (0 ≤ p.1.toInt ∧ p.1.toInt ≤ 1000) ∧ (0 ≤ p.2.1.toInt ∧ p.2.1.toInt ≤ 1000) ∧ 0 ≤ p.2.2.1.toInt ∧ p.2.2.2.1 ≤ n ∧
  (-1000 * (p.2.2.2.1 : Int) ≤ p.2.2.2.2.1.toInt ∧ p.2.2.2.2.1.toInt ≤ 1000 * (p.2.2.2.1 : Int)) ∧
  (-3001 * (p.2.2.2.1 : Int) ≤ p.2.2.2.2.2.1.toInt ∧ p.2.2.2.2.2.1.toInt ≤ 3001 * (p.2.2.2.1 : Int)) ∧
  (-3001 * (p.2.2.2.1 : Int) ≤ p.2.2.2.2.2.2.1.toInt ∧ p.2.2.2.2.2.2.1.toInt ≤ p.2.2.2.2.2.1.toInt ∧ p.2.2.2.2.2.2.1.toInt ≤ 0) ∧
  (p.2.2.2.2.2.2.1.toInt < 0 → p.2.2.2.2.2.2.2 < n)
theorem i00 : (0 : Int32).toInt = 0 := by decide
theorem Csp_set (c : CsS) (n : Nat) (x y z : Int32) (hz : 0 ≤ z.toInt) : Csp (cs_set c x y z) n :=
  ⟨hz, by show 0 ≤ (0 : Int32).toInt; decide, by show 0 ≤ (0 : Int32).toInt; decide, Or.inl rfl, Or.inl rfl⟩
theorem Csp_anew {c : CsS} (h : 0 ≤ c.2.2.1.toInt) (n : Nat) : Csp (cs_anew c) n :=
  ⟨h, by show 0 ≤ (0 : Int32).toInt; decide, by show 0 ≤ (0 : Int32).toInt; decide, Or.inl rfl, Or.inl rfl⟩
theorem Csp_mv {c : CsS} {n : Nat} (h : Csp c n) (x : Int32) : Csq (cs_mv c x n) n := by
  obtain ⟨h1, h2, h3, h4, h5⟩ := h
  have z : ∀ y : Int32, 0 ≤ (if 0 < y then y else 0).toInt := by
    intro y
    by_cases c : 0 < y
    · rw [if_pos c]; rw [i_lt, i00] at c; omega
    · rw [if_neg c]; decide
  refine ⟨h1, z _, z _, ?_, ?_⟩
  · show (if c.2.2.2.1 = 0 then n else c.2.2.2.2.2.1) ≤ n
    by_cases e : c.2.2.2.1 = 0
    · rw [if_pos e]; exact Nat.le_refl _
    · rw [if_neg e]; exact h4.resolve_left e
  · show (if c.2.2.2.2.1 = 0 then n else c.2.2.2.2.2.2) ≤ n
    by_cases e : c.2.2.2.2.1 = 0
    · rw [if_pos e]; exact Nat.le_refl _
    · rw [if_neg e]; exact h5.resolve_left e
theorem Csq_end {c : CsS} {n : Nat} (h : Csq c n) : Csp (cs_end c) (n + 1) := by
  have h0 : Csp c (n + 1) := ⟨h.1, h.2.1, h.2.2.1, Or.inr (by have := h.2.2.2.1; omega), Or.inr (by have := h.2.2.2.2; omega)⟩
  unfold cs_end
  split
  · split
    · exact h0
    · exact Csp_anew h.1 _
  · exact Csp_anew h.1 _
theorem Php_zero {x y z : Int32} (hx : 0 ≤ x.toInt ∧ x.toInt ≤ 1000) (hy : 0 ≤ y.toInt ∧ y.toInt ≤ 1000) (hz : 0 ≤ z.toInt) (n : Nat) : Php (x, y, z, 0, 0, 0, 0, 0) n := by
  refine ⟨hx, hy, hz, Nat.zero_le _, ⟨?_, ?_⟩, ⟨?_, ?_⟩, ⟨?_, ?_, ?_⟩, ?_⟩
  all_goals (first | (show -1000 * ((0 : Nat) : Int) ≤ (0 : Int32).toInt; decide) | (show (0 : Int32).toInt ≤ 1000 * ((0 : Nat) : Int); decide) | (show -3001 * ((0 : Nat) : Int) ≤ (0 : Int32).toInt; decide) | (show (0 : Int32).toInt ≤ 3001 * ((0 : Nat) : Int); decide) | (show (0 : Int32).toInt ≤ (0 : Int32).toInt; decide) | (show (0 : Int32).toInt ≤ 0; decide) | (intro z9; exact absurd z9 (by show ¬ (0 : Int32).toInt < 0; decide)))
theorem Php_anew {p : PhS} {n : Nat} (h : Php p n) (m : Nat) : Php (ph_anew p) m := Php_zero h.1 h.2.1 h.2.2.1 m
theorem tdiv_bd {a : Int} {B : Int} (h0 : 0 ≤ B) (h : -1000 * B ≤ a ∧ a ≤ 1000 * B) : -B ≤ a.tdiv 1000 ∧ a.tdiv 1000 ≤ B := by
  by_cases c : 0 ≤ a
  · rw [Int.tdiv_eq_ediv_of_nonneg c]
    omega
  · obtain ⟨P, hP⟩ : ∃ P : Int, P = -a := ⟨_, rfl⟩
    rw [show a = -P by omega, Int.neg_tdiv, Int.tdiv_eq_ediv_of_nonneg (by omega)]
    omega
theorem Php_mv {p : PhS} {n : Nat} (h : Php p n) (hn : n < 120) {x : Int32} (hx : -1000 ≤ x.toInt ∧ x.toInt ≤ 1000) : Php (ph_mv p x n) (n + 1) := by
  obtain ⟨h1, h2, h3, h4, ⟨g1, g2⟩, ⟨k1, k2⟩, ⟨l1, l2, l3⟩, h8⟩ := h
  have e : (p.2.2.2.2.1 + x).toInt = p.2.2.2.2.1.toInt + x.toInt := ti_add (by omega) (by omega)
  have hj := jfd_bd (x := p.2.2.2.2.1 + x) (c := p.2.2.2.1 + 1) (by omega) (by omega) (by rw [e]; omega)
  have hm1 : -1000 * (3001 * (p.2.2.2.1 : Int)) ≤ p.2.2.2.2.2.1.toInt * p.2.1.toInt := by
    by_cases c : 0 ≤ p.2.2.2.2.2.1.toInt
    · have := Int.mul_nonneg c h2.1
      omega
    · have := Int.mul_le_mul_of_nonneg_left h2.2 (show 0 ≤ -p.2.2.2.2.2.1.toInt by omega)
      rw [Int.neg_mul] at this
      omega
  have hm2 : p.2.2.2.2.2.1.toInt * p.2.1.toInt ≤ 1000 * (3001 * (p.2.2.2.1 : Int)) := by
    by_cases c : 0 ≤ p.2.2.2.2.2.1.toInt
    · have := Int.mul_le_mul_of_nonneg_left h2.2 c
      omega
    · have := Int.mul_nonneg (show 0 ≤ -p.2.2.2.2.2.1.toInt by omega) h2.1
      rw [Int.neg_mul] at this
      omega
  have em : (p.2.2.2.2.2.1 * p.2.1).toInt = p.2.2.2.2.2.1.toInt * p.2.1.toInt := ti_mul (by omega) (by omega)
  have ed : (p.2.2.2.2.2.1 * p.2.1 / 1000).toInt = (p.2.2.2.2.2.1.toInt * p.2.1.toInt).tdiv 1000 := by
    rw [Int32.toInt_div_of_ne_right _ _ (by decide), em, show (1000 : Int32).toInt = 1000 by decide]
  have hd := tdiv_bd (a := p.2.2.2.2.2.1.toInt * p.2.1.toInt) (B := 3001 * (p.2.2.2.1 : Int)) (by omega) ⟨hm1, hm2⟩
  rw [← ed] at hd
  have hs : -3001 * ((p.2.2.2.1 + 1 : Nat) : Int) ≤ (ph_sum p x).toInt ∧ (ph_sum p x).toInt ≤ 3001 * ((p.2.2.2.1 + 1 : Nat) : Int) := by
    unfold ph_sum
    have a1 : (p.2.2.2.2.2.1 * p.2.1 / 1000 + x).toInt = (p.2.2.2.2.2.1 * p.2.1 / 1000).toInt + x.toInt := ti_add (by omega) (by omega)
    have a2 : (p.2.2.2.2.2.1 * p.2.1 / 1000 + x - jfd (p.2.2.2.2.1 + x) (nI (p.2.2.2.1 + 1))).toInt = (p.2.2.2.2.2.1 * p.2.1 / 1000).toInt + x.toInt - (jfd (p.2.2.2.2.1 + x) (nI (p.2.2.2.1 + 1))).toInt := by
      rw [ti_sub (by rw [a1]; omega) (by rw [a1]; omega), a1]
    rw [ti_sub (by rw [a2]; omega) (by rw [a2]; omega), a2]
    omega
  refine ⟨h1, h2, h3, by show p.2.2.2.1 + 1 ≤ n + 1; omega, ?_, hs, ?_, ?_⟩
  · show -1000 * ((p.2.2.2.1 + 1 : Nat) : Int) ≤ (p.2.2.2.2.1 + x).toInt ∧ (p.2.2.2.2.1 + x).toInt ≤ 1000 * ((p.2.2.2.1 + 1 : Nat) : Int)
    rw [e]; omega
  · show -3001 * ((p.2.2.2.1 + 1 : Nat) : Int) ≤ (if p.2.2.2.2.2.2.1 ≤ ph_sum p x then p.2.2.2.2.2.2.1 else ph_sum p x).toInt ∧ (if p.2.2.2.2.2.2.1 ≤ ph_sum p x then p.2.2.2.2.2.2.1 else ph_sum p x).toInt ≤ (ph_sum p x).toInt ∧ (if p.2.2.2.2.2.2.1 ≤ ph_sum p x then p.2.2.2.2.2.2.1 else ph_sum p x).toInt ≤ 0
    by_cases c : p.2.2.2.2.2.2.1 ≤ ph_sum p x
    · rw [if_pos c]; rw [i_le] at c; omega
    · rw [if_neg c]; rw [i_le] at c; omega
  · show (if p.2.2.2.2.2.2.1 ≤ ph_sum p x then p.2.2.2.2.2.2.1 else ph_sum p x).toInt < 0 → (if p.2.2.2.2.2.2.1 ≤ ph_sum p x then p.2.2.2.2.2.2.2 else n) < n + 1
    by_cases c : p.2.2.2.2.2.2.1 ≤ ph_sum p x
    · rw [if_pos c, if_pos c]; intro z; have := h8 z; omega
    · rw [if_neg c, if_neg c]; intro _; omega
theorem Php_end {p : PhS} {n : Nat} (h : Php p n) : Php (ph_end p) n := by
  unfold ph_end
  split
  · exact Php_anew h n
  · exact h
theorem Php_diff {p : PhS} {n : Nat} (h : Php p n) (hn : n ≤ 120) : 0 ≤ (p.2.2.2.2.2.1 - p.2.2.2.2.2.2.1).toInt := by
  obtain ⟨h1, h2, h3, h4, ⟨g1, g2⟩, ⟨k1, k2⟩, ⟨l1, l2, l3⟩, h8⟩ := h
  rw [ti_sub (by omega) (by omega)]
  omega
/-- the alarms: in order, none behind the values, their starts not behind them -/
def Alp (a : AlS) (n : Nat) : Prop := (∀ j, j < a.2.2.2 → a.1 j ≤ 2 ∧ a.2.1 j < n ∧ a.2.2.1 j ≤ a.2.1 j) ∧ ∀ j, j + 1 < a.2.2.2 → a.2.1 j < a.2.1 (j + 1) ∨ (a.2.1 j = a.2.1 (j + 1) ∧ a.1 j < a.1 (j + 1))
/-- at the value n, kinds below k raised already at most -/
def Alq (a : AlS) (n k : Nat) : Prop := Alp a (n + 1) ∧ ∀ j, j + 1 = a.2.2.2 → a.2.1 j < n ∨ (a.2.1 j = n ∧ a.1 j < k)
theorem Alq_0 {a : AlS} {n : Nat} (h : Alp a n) : Alq a n 0 :=
  ⟨⟨fun j hj => by have := h.1 j hj; exact ⟨this.1, by omega, this.2.2⟩, h.2⟩, fun j hj => Or.inl (h.1 j (by omega)).2.1⟩
theorem Alq_up {a : AlS} {n k m : Nat} (h : Alq a n k) (hk : k ≤ m) : Alq a n m := ⟨h.1, fun j hj => (h.2 j hj).imp id (fun z => ⟨z.1, by omega⟩)⟩
theorem upN_at (f : Nat → Nat) (k x : Nat) : updN f k x k = x := by simp [updN]
theorem upN_ne {f : Nat → Nat} {k j x : Nat} (h : j ≠ k) : updN f k x j = f j := by simp [updN, h]
theorem Alq_raise {a : AlS} {n k f : Nat} (h : Alq a n k) (hk : k ≤ 2) (hf : f ≤ n) : Alq (al_raise a k n f) n (k + 1) := by
  obtain ⟨⟨h1, h2⟩, h3⟩ := h
  refine ⟨⟨fun j hj => ?_, fun j hj => ?_⟩, fun j hj => ?_⟩
  · have hj : j < a.2.2.2 + 1 := hj
    show updN a.1 a.2.2.2 k j ≤ 2 ∧ updN a.2.1 a.2.2.2 n j < n + 1 ∧ updN a.2.2.1 a.2.2.2 f j ≤ updN a.2.1 a.2.2.2 n j
    by_cases e : j = a.2.2.2
    · subst e; rw [upN_at, upN_at, upN_at]; exact ⟨hk, Nat.lt_succ_self _, hf⟩
    · rw [upN_ne e, upN_ne e, upN_ne e]; exact h1 j (by omega)
  · have hj : j + 1 < a.2.2.2 + 1 := hj
    show updN a.2.1 a.2.2.2 n j < updN a.2.1 a.2.2.2 n (j + 1) ∨ (updN a.2.1 a.2.2.2 n j = updN a.2.1 a.2.2.2 n (j + 1) ∧ updN a.1 a.2.2.2 k j < updN a.1 a.2.2.2 k (j + 1))
    rw [upN_ne (show j ≠ a.2.2.2 by omega), upN_ne (show j ≠ a.2.2.2 by omega)]
    by_cases e : j + 1 = a.2.2.2
    · rw [e, upN_at, upN_at]; exact h3 j e
    · rw [upN_ne e, upN_ne e]; exact h2 j (by omega)
  · have hj : j + 1 = a.2.2.2 + 1 := hj
    obtain rfl : j = a.2.2.2 := by omega
    show updN a.2.1 a.2.2.2 n a.2.2.2 < n ∨ (updN a.2.1 a.2.2.2 n a.2.2.2 = n ∧ updN a.1 a.2.2.2 k a.2.2.2 < k + 1)
    rw [upN_at, upN_at]
    exact Or.inr ⟨rfl, Nat.lt_succ_self _⟩
theorem Alq_cs {c : CsS} {a : AlS} {n : Nat} (hc : Csq c n) (h : Alq a n 0) : Alq (cs_al c a n) n 2 := by
  obtain ⟨-, -, -, c4, c5⟩ := hc
  unfold cs_al
  split
  · split
    · exact Alq_up h (by omega)
    · exact Alq_raise (Alq_up h (show 0 ≤ 1 by omega)) (by omega) c5
  · split
    · exact Alq_up (Alq_raise h (by omega) c4) (by omega)
    · exact Alq_raise (Alq_raise h (by omega) c4) (by omega) c5
theorem Alq_ph {p : PhS} {a : AlS} {n : Nat} (hn : n < 120) (h0 : Php p n) {x : Int32} (hx : -1000 ≤ x.toInt ∧ x.toInt ≤ 1000) (h : Alq a n 2) : Alq (ph_al (ph_mv p x n) a n) n 3 := by
  have hm := Php_mv h0 hn hx
  unfold ph_al
  split
  · rename_i c
    refine Alq_raise h (by omega) ?_
    unfold ph_start
    obtain ⟨h1, h2, h3, h4, g, ⟨k1, k2⟩, ⟨l1, l2, l3⟩, h8⟩ := hm
    by_cases c2 : (ph_mv p x n).2.2.2.2.2.2.1 < 0
    · rw [if_pos c2]
      have c3 : p.2.2.2.2.2.2.1 ≤ ph_sum p x := by
        by_cases c3 : p.2.2.2.2.2.2.1 ≤ ph_sum p x
        · exact c3
        · exfalso
          have e : (ph_mv p x n).2.2.2.2.2.2.1 = ph_sum p x := by
            show (if p.2.2.2.2.2.2.1 ≤ ph_sum p x then p.2.2.2.2.2.2.1 else ph_sum p x) = _
            rw [if_neg c3]
          rw [e] at c
          have e2 : (ph_mv p x n).2.2.2.2.2.1 = ph_sum p x := rfl
          rw [e2, Int32.sub_self, i_lt, i00] at c
          omega
      have e : (ph_mv p x n).2.2.2.2.2.2.1 = p.2.2.2.2.2.2.1 := by
        show (if p.2.2.2.2.2.2.1 ≤ ph_sum p x then p.2.2.2.2.2.2.1 else ph_sum p x) = _
        rw [if_pos c3]
      have e2 : (ph_mv p x n).2.2.2.2.2.2.2 = p.2.2.2.2.2.2.2 := by
        show (if p.2.2.2.2.2.2.1 ≤ ph_sum p x then p.2.2.2.2.2.2.2 else n) = _
        rw [if_pos c3]
      rw [e, i_lt, i00] at c2
      have := h0.2.2.2.2.2.2.2 c2
      rw [e2]
      omega
    · rw [if_neg c2]
      have : (ph_mv p x n).2.2.2.1 = p.2.2.2.1 + 1 := rfl
      omega
  · exact Alq_up h (by omega)
/-- how many alarms a value raises, by its bits -/
theorem bits_ok (c : CsS) (p : PhS) (a : AlS) (n : Nat) : ∃ b : Nat, b < 8 ∧ cs_bits c ||| ph_bits p = nI b ∧ (ph_al p (cs_al c a n) n).2.2.2 = a.2.2.2 + (b % 2 + b / 2 % 2 + b / 4) := by
  have hp : (ph_bits p = 0 ∧ ∀ a, ph_al p a n = a) ∨ (ph_bits p = 4 ∧ ∀ a, (ph_al p a n).2.2.2 = a.2.2.2 + 1) := by
    unfold ph_bits ph_al
    split
    · exact Or.inr ⟨rfl, fun _ => rfl⟩
    · exact Or.inl ⟨rfl, fun _ => rfl⟩
  have hc : (cs_bits c = 0 ∧ (cs_al c a n).2.2.2 = a.2.2.2) ∨ (cs_bits c = 1 ∧ (cs_al c a n).2.2.2 = a.2.2.2 + 1) ∨ (cs_bits c = 2 ∧ (cs_al c a n).2.2.2 = a.2.2.2 + 1) ∨ (cs_bits c = 3 ∧ (cs_al c a n).2.2.2 = a.2.2.2 + 2) := by
    unfold cs_bits cs_al
    split
    · split
      · exact Or.inl ⟨rfl, rfl⟩
      · exact Or.inr (Or.inr (Or.inl ⟨rfl, rfl⟩))
    · split
      · exact Or.inr (Or.inl ⟨rfl, rfl⟩)
      · exact Or.inr (Or.inr (Or.inr ⟨rfl, rfl⟩))
  rcases hp with ⟨e1, e2⟩ | ⟨e1, e2⟩ <;> rcases hc with ⟨f1, f2⟩ | ⟨f1, f2⟩ | ⟨f1, f2⟩ | ⟨f1, f2⟩
  · exact ⟨0, by decide, by rw [e1, f1]; decide, by rw [e2, f2]; rfl⟩
  · exact ⟨1, by decide, by rw [e1, f1]; decide, by rw [e2, f2]⟩
  · exact ⟨2, by decide, by rw [e1, f1]; decide, by rw [e2, f2]⟩
  · exact ⟨3, by decide, by rw [e1, f1]; decide, by rw [e2, f2]⟩
  · exact ⟨4, by decide, by rw [e1, f1]; decide, by rw [e2, f2]⟩
  · exact ⟨5, by decide, by rw [e1, f1]; decide, by rw [e2, f2]⟩
  · exact ⟨6, by decide, by rw [e1, f1]; decide, by rw [e2, f2]⟩
  · exact ⟨7, by decide, by rw [e1, f1]; decide, by rw [e2, f2]⟩
/-- the alarms of before stay, new ones are at the new value -/
def Kp (a b : AlS) (n : Nat) : Prop := a.2.2.2 ≤ b.2.2.2 ∧ (∀ j, a.2.2.2 ≤ j → j < b.2.2.2 → b.2.1 j = n) ∧ ∀ j, j < a.2.2.2 → b.2.1 j = a.2.1 j
theorem Kp_raise {a b : AlS} {n : Nat} (h : Kp a b n) (k f : Nat) : Kp a (al_raise b k n f) n := by
  obtain ⟨h1, h2, h3⟩ := h
  refine ⟨by show a.2.2.2 ≤ b.2.2.2 + 1; omega, fun j j1 j2 => ?_, fun j hj => ?_⟩
  · have j2 : j < b.2.2.2 + 1 := j2
    show updN b.2.1 b.2.2.2 n j = n
    by_cases e : j = b.2.2.2
    · rw [e, upN_at]
    · rw [upN_ne e]; exact h2 j j1 (by omega)
  · show updN b.2.1 b.2.2.2 n j = a.2.1 j
    rw [upN_ne (by omega)]; exact h3 j hj
theorem Kp_take (c : CsS) (p : PhS) (a : AlS) (n : Nat) : Kp a (ph_al p (cs_al c a n) n) n := by
  have h0 : Kp a a n := ⟨Nat.le_refl _, fun j j1 j2 => absurd j1 (by omega), fun _ _ => rfl⟩
  have hcs : Kp a (cs_al c a n) n := by
    unfold cs_al
    split
    · split
      · exact h0
      · exact Kp_raise h0 _ _
    · split
      · exact Kp_raise h0 _ _
      · exact Kp_raise (Kp_raise h0 _ _) _ _
  unfold ph_al
  split
  · exact Kp_raise hcs _ _
  · exact hcs
