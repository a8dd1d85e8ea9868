/-! numbers of both sides: sums, floors, the test -/
theorem ti_ok {z : Int} (h1 : -2147483648 ≤ z) (h2 : z < 2147483648) : z.bmod (2 ^ 32) = z := Int.bmod_eq_of_le_mul_two (by omega) (by omega)
theorem ti_add {a b : Int32} (h1 : -2147483648 ≤ a.toInt + b.toInt) (h2 : a.toInt + b.toInt < 2147483648) : (a + b).toInt = a.toInt + b.toInt := by
  rw [Int32.toInt_add, ti_ok h1 h2]
theorem ti_sub {a b : Int32} (h1 : -2147483648 ≤ a.toInt - b.toInt) (h2 : a.toInt - b.toInt < 2147483648) : (a - b).toInt = a.toInt - b.toInt := by
  rw [Int32.toInt_sub, ti_ok h1 h2]
theorem ti_mul {a b : Int32} (h1 : -2147483648 ≤ a.toInt * b.toInt) (h2 : a.toInt * b.toInt < 2147483648) : (a * b).toInt = a.toInt * b.toInt := by
  rw [Int32.toInt_mul, ti_ok h1 h2]
theorem ti_neg {a : Int32} (h1 : -2147483648 < a.toInt) : (-a).toInt = -a.toInt := by
  have := Int32.toInt_lt a
  rw [Int32.toInt_neg, ti_ok (by omega) (by omega)]
theorem mx_eq (h : Int32) : (if 0 ≤ h then h else 0) = (if 0 < h then h else 0) := by
  by_cases h1 : 0 < h
  · rw [if_pos h1, if_pos (Int32.le_of_lt h1)]
  · rw [if_neg h1]
    by_cases h2 : 0 ≤ h
    · rw [if_pos h2]
      exact Int32.le_antisymm (Int32.not_lt.mp h1) h2
    · rw [if_neg h2]
theorem cm_mv_eq (c : CsS) (x : Int32) (n : Nat) : cm_mv c x n = cs_mv c x n := by
  unfold cm_mv cs_mv
  rw [mx_eq, mx_eq]
  have e1 : c.2.2.2.1 + (x - c.1 - c.2.1) = c.2.2.2.1 + x - c.1 - c.2.1 := by simp only [Int32.sub_eq_add_neg, Int32.add_assoc]
  have e2 : c.2.2.2.2.1 + (c.1 - c.2.1 - x) = c.2.2.2.2.1 + c.1 - c.2.1 - x := by simp only [Int32.sub_eq_add_neg, Int32.add_assoc]
  rw [e1, e2]
theorem xor_nn {x y : Int32} (hy : 0 ≤ y.toInt) : (0 ≤ x ^^^ y) ↔ 0 ≤ x.toInt := by
  have h1 : ∀ z : Int32, z.toBitVec.msb = decide (z.toInt < 0) := fun z => BitVec.msb_eq_toInt
  have h2 : (x ^^^ y).toBitVec.msb = (x.toBitVec.msb ^^ y.toBitVec.msb) := by
    rw [show (x ^^^ y).toBitVec = x.toBitVec ^^^ y.toBitVec from rfl, BitVec.msb_xor]
  rw [h1, h1, h1] at h2
  have h3 : decide (y.toInt < 0) = false := decide_eq_false (by omega)
  rw [h3, Bool.xor_false] at h2
  have h4 := decide_eq_decide.mp h2
  rw [Int32.le_iff_toInt_le]
  show (0 : Int) ≤ _ ↔ _
  omega
theorem nI_ne_m1 {c : Nat} (h : c < 2 ^ 31) : nI c ≠ -1 := by
  intro z
  have h1 := nI_toInt h
  rw [z] at h1
  have h2 : (-1 : Int32).toInt = -1 := by decide
  omega
theorem ceil_div {P c : Int} (hc : 0 < c) : (P + c - 1) / c = if P % c = 0 then P / c else P / c + 1 := by
  have h := Int.mul_ediv_add_emod P c
  have h1 := Int.emod_nonneg P (Int.ne_of_gt hc)
  have h2 := Int.emod_lt_of_pos P hc
  split
  · next h0 =>
    have e : P + c - 1 = (c - 1) + c * (P / c) := by omega
    rw [e, Int.add_mul_ediv_left _ _ (Int.ne_of_gt hc), Int.ediv_eq_zero_of_lt (by omega) (by omega), Int.zero_add]
  · next h0 =>
    have e : P + c - 1 = (P % c - 1) + c * (P / c + 1) := by rw [Int.mul_add, Int.mul_one]; omega
    rw [e, Int.add_mul_ediv_left _ _ (Int.ne_of_gt hc), Int.ediv_eq_zero_of_lt (by omega) (by omega), Int.zero_add]
theorem fl_eq {x : Int32} {c : Nat} (h0 : 0 < c) (hc : c ≤ 1000) (hx : -1000000 ≤ x.toInt ∧ x.toInt ≤ 1000000) : jfl x (nI c) = jfd x (nI c) := by
  have hci := nI_toInt (n := c) (by omega)
  have hne := nI_ne_m1 (c := c) (by omega)
  have hxn := xor_nn (x := x) (y := nI c) (by omega)
  unfold jfl jfd
  by_cases hn : x.toInt < 0
  · have hlt : x < 0 := Int32.lt_iff_toInt_lt.mpr hn
    rw [if_pos hlt, if_neg (by rw [hxn]; omega)]
    obtain ⟨P, hP⟩ : ∃ P : Int, P = -x.toInt := ⟨_, rfl⟩
    have hcp : (0 : Int) < c := by omega
    have e1 : (-x).toInt = P := by rw [ti_neg (by omega), hP]
    have e2 : (-x + nI c).toInt = P + c := by rw [ti_add (by omega) (by omega), e1, hci]
    have e3 : (-x + nI c - 1).toInt = P + c - 1 := by
      have h1 : (1 : Int32).toInt = 1 := by decide
      rw [ti_sub (by omega) (by omega), e2, h1]
    have e4 : ((-x + nI c - 1) / nI c).toInt = (P + c - 1) / c := by
      rw [Int32.toInt_div_of_ne_right _ _ hne, e3, hci, Int.tdiv_eq_ediv_of_nonneg (by omega)]
    have q1 := Int.mul_ediv_add_emod P c
    have q2 := Int.emod_nonneg P (Int.ne_of_gt hcp)
    have q3 := Int.emod_lt_of_pos P hcp
    have q4 : 0 ≤ P / c := Int.ediv_nonneg (by omega) (by omega)
    have q5 : P / c ≤ P := Int.ediv_le_self c (by omega)
    have e5 : (x / nI c).toInt = -(P / c) := by
      rw [Int32.toInt_div_of_ne_right _ _ hne, hci, show x.toInt = -P by omega, Int.neg_tdiv, Int.tdiv_eq_ediv_of_nonneg (by omega)]
    have e6 : (x / nI c * nI c).toInt = -(P / c) * c := by
      have hb : -(P / c) * (c : Int) = -(c * (P / c)) := by rw [Int.neg_mul, Int.mul_comm]
      rw [ti_mul (by rw [e5, hci, hb]; omega) (by rw [e5, hci, hb]; omega), e5, hci]
    have hb : -(P / c) * (c : Int) = -(c * (P / c)) := by rw [Int.neg_mul, Int.mul_comm]
    have e7 := ceil_div (P := P) hcp
    have hq : (x / nI c * nI c = x) ↔ P % c = 0 := by
      rw [← Int32.toInt_inj, e6, hb]
      omega
    apply Int32.toInt_inj.mp
    rw [ti_neg (by rw [e4]; split at e7 <;> omega), e4, e7]
    by_cases h9 : P % c = 0
    · rw [if_pos h9, if_pos (hq.mpr h9), e5]
    · have h1 : (1 : Int32).toInt = 1 := by decide
      rw [if_neg h9, if_neg (mt hq.mp h9), ti_sub (by omega) (by omega), e5, h1]
      omega
  · rw [if_neg (by rw [Int32.lt_iff_toInt_lt]; exact hn), if_pos (hxn.mpr (by omega))]
/-- the test of the finder and that of the reference -/
def Rph (p : PhS) (q : PmS) (n : Nat) : Prop := p.1 = q.1 ∧ p.2.1 = q.2.1 ∧ p.2.2.1 = q.2.2.1 ∧ p.2.2.2.1 = q.2.2.2.1 ∧ p.2.2.2.2.1 = q.2.2.2.2.1 ∧ p.2.2.2.2.2.1 = q.2.2.2.2.2.1 ∧ p.2.2.2.2.2.2.1 = q.2.2.2.2.2.2.1 ∧ p.2.2.2.1 ≤ n ∧ p.2.2.2.2.2.2.1 ≤ 0 ∧ (-1000 * (p.2.2.2.1 : Int) ≤ p.2.2.2.2.1.toInt ∧ p.2.2.2.2.1.toInt ≤ 1000 * (p.2.2.2.1 : Int)) ∧ (p.2.2.2.2.2.2.1 < 0 → q.2.2.2.2.2.2.2 = nI p.2.2.2.2.2.2.2) ∧ (¬ p.2.2.2.2.2.2.1 < 0 → 0 < p.2.2.2.1 → q.2.2.2.2.2.2.2 = nI (n - p.2.2.2.1) - 1) ∧ (p.2.2.2.1 = 0 → ¬ p.2.2.2.2.2.2.1 < 0)
theorem i0_le : (0 : Int32) ≤ 0 := by decide
theorem i0_nlt : ¬ (0 : Int32) < 0 := by decide
theorem i0_a : -1000 * ((0 : Nat) : Int) ≤ (0 : Int32).toInt := by decide
theorem i0_b : (0 : Int32).toInt ≤ 1000 * ((0 : Nat) : Int) := by decide
theorem Rph_0 {p : PhS} {q : PmS} {n : Nat} (h : Rph p q n) (m : Nat) : Rph (ph_anew p) (pm_anew q) m := by
  obtain ⟨h1, h2, h3, -⟩ := h
  exact ⟨h1, h2, h3, rfl, rfl, rfl, rfl, Nat.zero_le _, i0_le, ⟨i0_a, i0_b⟩, fun z => absurd z i0_nlt, fun _ z => absurd z (Nat.lt_irrefl 0), fun _ => i0_nlt⟩
theorem Rph_set {p : PhS} {q : PmS} (x y z : Int32) (m : Nat) : Rph (ph_set p x y z) ((x, y, z, 0, 0, 0, 0, (-1)) : PmS) m := by
  exact ⟨rfl, rfl, rfl, rfl, rfl, rfl, rfl, Nat.zero_le _, i0_le, ⟨i0_a, i0_b⟩, fun z => absurd z i0_nlt, fun _ z => absurd z (Nat.lt_irrefl 0), fun _ => i0_nlt⟩
theorem ph_sums {p : PhS} {q : PmS} {n : Nat} (h : Rph p q n) (hn : n < 120) {x : Int32} (hx : -1000 ≤ x.toInt ∧ x.toInt ≤ 1000) : ph_sum p x = pm_sum q x := by
  obtain ⟨h1, h2, h3, h4, h5, h6, h7, h8, h9, ⟨g1, g2⟩, -⟩ := h
  unfold ph_sum pm_sum
  have e : (p.2.2.2.2.1 + x).toInt = p.2.2.2.2.1.toInt + x.toInt := ti_add (by omega) (by omega)
  rw [← h1, ← h2, ← h4, ← h5, ← h6, fl_eq (by omega) (by omega) (by rw [e]; omega)]
theorem Rph_mv {p : PhS} {q : PmS} {n : Nat} (h : Rph p q n) (hn : n < 120) {x : Int32} (hx : -1000 ≤ x.toInt ∧ x.toInt ≤ 1000) : Rph (ph_mv p x n) (pm_mv q x n) (n + 1) := by
  have hs := ph_sums h hn hx
  obtain ⟨h1, h2, h3, h4, h5, h6, h7, h8, h9, ⟨g1, g2⟩, k1, k2, k3⟩ := h
  have e : (p.2.2.2.2.1 + x).toInt = p.2.2.2.2.1.toInt + x.toInt := ti_add (by omega) (by omega)
  refine ⟨h1, h2, h3, ?_, ?_, hs, ?_, ?_, ?_, ⟨?_, ?_⟩, ?_, ?_, ?_⟩
  · show p.2.2.2.1 + 1 = q.2.2.2.1 + 1
    rw [h4]
  · show p.2.2.2.2.1 + x = q.2.2.2.2.1 + x
    rw [h5]
  · show (if p.2.2.2.2.2.2.1 ≤ ph_sum p x then p.2.2.2.2.2.2.1 else ph_sum p x) = (if q.2.2.2.2.2.2.1 ≤ pm_sum q x then q.2.2.2.2.2.2.1 else pm_sum q x)
    rw [hs, h7]
  · show p.2.2.2.1 + 1 ≤ n + 1
    omega
  · show (if p.2.2.2.2.2.2.1 ≤ ph_sum p x then p.2.2.2.2.2.2.1 else ph_sum p x) ≤ 0
    split
    · exact h9
    · next hh => exact Int32.le_trans (Int32.le_of_lt (Int32.not_le.mp hh)) h9
  · show -1000 * ((p.2.2.2.1 + 1 : Nat) : Int) ≤ (p.2.2.2.2.1 + x).toInt
    rw [e]; omega
  · show (p.2.2.2.2.1 + x).toInt ≤ 1000 * ((p.2.2.2.1 + 1 : Nat) : Int)
    rw [e]; omega
  · show (if p.2.2.2.2.2.2.1 ≤ ph_sum p x then p.2.2.2.2.2.2.1 else ph_sum p x) < 0 → (if q.2.2.2.2.2.2.1 ≤ pm_sum q x then (if nI q.2.2.2.1 = 0 then nI n - 1 else q.2.2.2.2.2.2.2) else nI n) = nI (if p.2.2.2.2.2.2.1 ≤ ph_sum p x then p.2.2.2.2.2.2.2 else n)
    rw [← hs, ← h7]
    by_cases hh : p.2.2.2.2.2.2.1 ≤ ph_sum p x
    · rw [if_pos hh, if_pos hh, if_pos hh]
      intro hl
      have hc : p.2.2.2.1 ≠ 0 := fun z => k3 z hl
      rw [← h4, if_neg (nI_ne0 (by omega) (by omega))]
      exact k1 hl
    · rw [if_neg hh, if_neg hh, if_neg hh]
      intro _
      rfl
  · show ¬ (if p.2.2.2.2.2.2.1 ≤ ph_sum p x then p.2.2.2.2.2.2.1 else ph_sum p x) < 0 → 0 < p.2.2.2.1 + 1 → (if q.2.2.2.2.2.2.1 ≤ pm_sum q x then (if nI q.2.2.2.1 = 0 then nI n - 1 else q.2.2.2.2.2.2.2) else nI n) = nI (n + 1 - (p.2.2.2.1 + 1)) - 1
    rw [← hs, ← h7]
    by_cases hh : p.2.2.2.2.2.2.1 ≤ ph_sum p x
    · rw [if_pos hh, if_pos hh]
      intro hl _
      rw [Nat.add_sub_add_right]
      by_cases hc : p.2.2.2.1 = 0
      · rw [← h4, hc, if_pos nI_0, Nat.sub_zero]
      · rw [← h4, if_neg (nI_ne0 (by omega) (by omega))]
        exact k2 hl (by omega)
    · rw [if_neg hh]
      intro hl _
      exact absurd (Int32.lt_of_lt_of_le (Int32.not_le.mp hh) h9) hl
  · intro z
    exact absurd z (Nat.succ_ne_zero _)
theorem Rph_end {p : PhS} {q : PmS} {n : Nat} (h : Rph p q n) : Rph (ph_end p) (pm_end q) n := by
  have h' := h
  obtain ⟨h1, h2, h3, h4, h5, h6, h7, -⟩ := h'
  unfold ph_end pm_end
  rw [← h3, ← h6, ← h7]
  split
  · exact Rph_0 h n
  · exact h
theorem Rph_start {p : PhS} {q : PmS} {n : Nat} (h : Rph p q (n + 1)) (h0 : 0 < p.2.2.2.1) : q.2.2.2.2.2.2.2 + 1 = nI (ph_start p n) := by
  obtain ⟨-, -, -, -, -, -, -, h8, h9, -, k1, k2, -⟩ := h
  unfold ph_start
  by_cases hl : p.2.2.2.2.2.2.1 < 0
  · rw [if_pos hl, k1 hl, nI_1]
  · rw [if_neg hl, k2 hl h0]
    rw [Int32.sub_eq_add_neg, Int32.add_assoc, show (-1 : Int32) + 1 = 0 by decide, Int32.add_zero]
theorem ph_bits_eq {p : PhS} {q : PmS} {n : Nat} (h : Rph p q n) : pm_bits q = ph_bits p := by
  obtain ⟨-, -, h3, -, -, h6, h7, -⟩ := h
  unfold pm_bits ph_bits
  rw [← h3, ← h6, ← h7]
theorem ph_al_eq {p : PhS} {q : PmS} {n : Nat} (h : Rph p q (n + 1)) (a : AlS) : pm_al q a n (ph_start p n) = ph_al p a n := by
  obtain ⟨-, -, h3, -, -, h6, h7, -⟩ := h
  unfold pm_al ph_al
  rw [← h3, ← h6, ← h7]
theorem bits_or (c : CsS) (p : PhS) : cs_bits c + ph_bits p = cs_bits c ||| ph_bits p := by
  unfold cs_bits ph_bits
  split <;> split <;> split <;> decide
