/-! the mean of the delays: a float from 0 to 3 -/
theorem i2f_fin {n : Nat} (hn : n < 2 ^ 24) : ∃ s c q, FP.Core.val32 (FP.Core.i2f (nI n)) = .fin s c q ∧ (c : Int) * ((2 ^ q.toNat : Nat) : Int) = (n : Int) * ((2 ^ (-q).toNat : Nat) : Int) ∧ (0 < n → s = false) := by
  have hs : FP.Core.Small24 (nI n).toInt64 := by
    unfold FP.Core.Small24
    rw [Int32.toInt_toInt64, nI_toInt (by omega)]
    omega
  have hw := FP.Core.l2f_whole hs
  rw [← FP.Core.i2f_l2f, Int32.toInt_toInt64, nI_toInt (by omega)] at hw
  sorry
