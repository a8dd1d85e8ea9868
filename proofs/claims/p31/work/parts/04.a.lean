/-! numbers -/
theorem ti_ok {z : Int} (h1 : -2147483648 ≤ z) (h2 : z < 2147483648) : z.bmod (2 ^ 32) = z := Int.bmod_eq_of_le_mul_two (by omega) (by omega)
theorem ti_add {a b : Int32} (h1 : -2147483648 ≤ a.toInt + b.toInt) (h2 : a.toInt + b.toInt < 2147483648) : (a + b).toInt = a.toInt + b.toInt := by
  rw [Int32.toInt_add, ti_ok h1 h2]
theorem ti_sub {a b : Int32} (h1 : -2147483648 ≤ a.toInt - b.toInt) (h2 : a.toInt - b.toInt < 2147483648) : (a - b).toInt = a.toInt - b.toInt := by
  rw [Int32.toInt_sub, ti_ok h1 h2]
theorem ti_mul {a b : Int32} (h1 : -2147483648 ≤ a.toInt * b.toInt) (h2 : a.toInt * b.toInt < 2147483648) : (a * b).toInt = a.toInt * b.toInt := by
  rw [Int32.toInt_mul, ti_ok h1 h2]
theorem ti_neg {a : Int32} (h1 : -2147483648 < a.toInt) : (-a).toInt = -a.toInt := by
  have := Int32.toInt_lt a
  rw [Int32.toInt_neg, ti_ok (by omega) (by omega)]
theorem xor_nn {x y : Int32} (hy : 0 ≤ y.toInt) : (0 ≤ x ^^^ y) ↔ 0 ≤ x.toInt := by
  have h1 : ∀ z : Int32, z.toBitVec.msb = decide (z.toInt < 0) := fun z => BitVec.msb_eq_toInt
  have h2 : (x ^^^ y).toBitVec.msb = (x.toBitVec.msb ^^ y.toBitVec.msb) := by
    rw [show (x ^^^ y).toBitVec = x.toBitVec ^^^ y.toBitVec from rfl, BitVec.msb_xor]
  rw [h1, h1, h1] at h2
  have h3 : decide (y.toInt < 0) = false := decide_eq_false (by omega)
  rw [h3, Bool.xor_false] at h2
  have h4 := decide_eq_decide.mp h2
  rw [Int32.le_iff_toInt_le]
  show (0 : Int) ≤ _ ↔ _
  omega
theorem nI_ne_m1 {c : Nat} (h : c < 2 ^ 31) : nI c ≠ -1 := by
  intro z
  have h1 := nI_toInt h
  rw [z] at h1
  have h2 : (-1 : Int32).toInt = -1 := by decide
  omega
theorem amt_ti {x : Int32} (h : (-1000) ≤ x ∧ x ≤ 1000) : -1000 ≤ x.toInt ∧ x.toInt ≤ 1000 := by
  have h1 := Int32.le_iff_toInt_le.mp h.1
  have h2 := Int32.le_iff_toInt_le.mp h.2
  have e1 : (-1000 : Int32).toInt = -1000 := by decide
  have e2 : (1000 : Int32).toInt = 1000 := by decide
  omega
theorem ti_amt {x : Int32} (h : -1000 ≤ x.toInt ∧ x.toInt ≤ 1000) : (-1000) ≤ x ∧ x ≤ 1000 := by
  have e1 : (-1000 : Int32).toInt = -1000 := by decide
  have e2 : (1000 : Int32).toInt = 1000 := by decide
  exact ⟨Int32.le_iff_toInt_le.mpr (by omega), Int32.le_iff_toInt_le.mpr (by omega)⟩
theorem in_ok {c b : Nat} (h : c ≤ b) (hb : b < 2 ^ 31) : (0 : Int32) ≤ nI c ∧ nI c ≤ nI b := ⟨nI_pos' (by omega), (nI_leI (by omega) hb).mpr h⟩
theorem jfd_bd {x : Int32} {c : Nat} (h0 : 0 < c) (hc : c ≤ 1000) (hx : -1000 * (c : Int) ≤ x.toInt ∧ x.toInt ≤ 1000 * (c : Int)) : -1001 ≤ (jfd x (nI c)).toInt ∧ (jfd x (nI c)).toInt ≤ 1000 := by
  have hci := nI_toInt (n := c) (by omega)
  have hne := nI_ne_m1 (c := c) (by omega)
  have hcp : (0 : Int) < c := by omega
  have hd : -1000 ≤ (x / nI c).toInt ∧ (x / nI c).toInt ≤ 1000 := by
    by_cases hn : x.toInt < 0
    · obtain ⟨P, hP⟩ : ∃ P : Int, P = -x.toInt := ⟨_, rfl⟩
      have q4 : 0 ≤ P / c := Int.ediv_nonneg (by omega) (by omega)
      have q5 : P / c ≤ 1000 := by
        have := Int.ediv_le_ediv hcp (show P ≤ 1000 * (c : Int) by omega)
        rw [Int.mul_ediv_cancel _ (Int.ne_of_gt hcp)] at this
        exact this
      have e5 : (x / nI c).toInt = -(P / c) := by
        rw [Int32.toInt_div_of_ne_right _ _ hne, hci, show x.toInt = -P by omega, Int.neg_tdiv, Int.tdiv_eq_ediv_of_nonneg (by omega)]
      omega
    · have q4 : 0 ≤ x.toInt / c := Int.ediv_nonneg (by omega) (by omega)
      have q5 : x.toInt / c ≤ 1000 := by
        have := Int.ediv_le_ediv hcp (show x.toInt ≤ 1000 * (c : Int) by omega)
        rw [Int.mul_ediv_cancel _ (Int.ne_of_gt hcp)] at this
        exact this
      have e5 : (x / nI c).toInt = x.toInt / c := by
        rw [Int32.toInt_div_of_ne_right _ _ hne, hci, Int.tdiv_eq_ediv_of_nonneg (by omega)]
      omega
  have h1 : (1 : Int32).toInt = 1 := by decide
  unfold jfd
  split
  · omega
  · split
    · omega
    · rw [ti_sub (by omega) (by omega), h1]; omega
