/-! the mean of the delays: a float from 0 to 3 -/
theorem i2f_fin {n : Nat} (hn : n < 2 ^ 24) : ∃ c q, FP.Core.val32 (FP.Core.i2f (nI n)) = .fin false c q ∧ c * 2 ^ q.toNat = n * 2 ^ (-q).toNat := by
  have hs : FP.Core.Small24 (nI n).toInt64 := by
    unfold FP.Core.Small24
    rw [Int32.toInt_toInt64, nI_toInt (by omega)]
    omega
  have hw := FP.Core.l2f_whole hs
  obtain ⟨c, q, hc⟩ := FP.Core.l2f_shape (nI n).toInt64
  rw [Int32.toInt_toInt64, nI_toInt (by omega)] at hw hc
  rw [decide_eq_false (show ¬ (n : Int) < 0 by omega)] at hc
  rw [hc] at hw
  have hw : FP.Core.signed false (c * 2 ^ q.toNat) = (n : Int) * ((2 ^ (-q).toNat : Nat) : Int) := hw
  refine ⟨c, q, by rw [FP.Core.i2f_l2f]; exact hc, ?_⟩
  have e : FP.Core.signed false (c * 2 ^ q.toNat) = ((c * 2 ^ q.toNat : Nat) : Int) := rfl
  rw [e, ← Int.natCast_mul] at hw
  exact Int.ofNat_inj.mp hw
theorem fdv_R {a b : Nat} (ha : a < 2 ^ 24) (h0 : 0 < b) (hb : b < 2 ^ 24) : ∃ c q d r, FP.Core.val32 (FP.Core.fdiv (FP.Core.i2f (nI a)) (FP.Core.i2f (nI b))) = FP.Core.roundRatio FP.Core.b32 false c d (q - r) ∧ 0 < d ∧ c * 2 ^ q.toNat = a * 2 ^ (-q).toNat ∧ d * 2 ^ r.toNat = b * 2 ^ (-r).toNat := by
  obtain ⟨c, q, h1, h2⟩ := i2f_fin ha
  obtain ⟨d, r, h3, h4⟩ := i2f_fin hb
  have hd : 0 < d := by
    rcases Nat.eq_zero_or_pos d with z | z
    · subst z
      rw [Nat.zero_mul] at h4
      have := Nat.mul_pos h0 (Nat.two_pow_pos (-r).toNat)
      omega
    · exact z
  refine ⟨c, q, d, r, ?_, hd, h2, h4⟩
  rw [FP.Core.val32_fdiv, h1, h3]
  show (if d = 0 then _ else _) = _
  rw [if_neg (by omega)]
  rfl
theorem three_val : FP.Core.val32 1077936128 = .fin false 12582912 (-22) := by decide +kernel
theorem fdv_ge {a b : Nat} (ha : a < 2 ^ 24) (h0 : 0 < b) (hb : b < 2 ^ 24) : ¬ Op.cmpValue (FP.fcmp (FP.fdiv (FP.i2f (nI a)) (FP.i2f (nI b))) FP.fconst0) .l < 0 := by
  obtain ⟨c, q, d, r, h1, h2, h3, h4⟩ := fdv_R ha h0 hb
  have hz : 0 ≤ FP.Core.zval FP.Core.b32 (FP.Core.roundRatio FP.Core.b32 false c d (q - r)) := by
    unfold FP.Core.zval
    rw [FP.Core.sgn_roundRatio]
    exact Int.natCast_nonneg _
  have := (FP.Core.fcmp_ge (a := FP.Core.fdiv (FP.Core.i2f (nI a)) (FP.Core.i2f (nI b))) (b := 0)).mpr ⟨by rw [h1]; exact FP.Core.roundRatio_ne_nan _ _ _ _ _, by rw [FP.Core.val32_zero]; exact FP.Core.Datum.noConfusion, by rw [FP.Core.zval32_zero, h1]; exact hz⟩
  show ¬ Op.cmpValue (FP.Core.fcmp (FP.Core.fdiv (FP.Core.i2f (nI a)) (FP.Core.i2f (nI b))) 0) .l < 0
  rcases this with h | h <;> rw [h] <;> decide
theorem fdv_le {a b : Nat} (ha : a ≤ 3 * b) (h0 : 0 < b) (hb : b < 2 ^ 20) : ¬ 0 < Op.cmpValue (FP.fcmp (FP.fdiv (FP.i2f (nI a)) (FP.i2f (nI b))) 1077936128) .g := by
  obtain ⟨c, q, d, r, h1, h2, h3, h4⟩ := fdv_R (show a < 2 ^ 24 by omega) h0 (show b < 2 ^ 24 by omega)
  have hq : FP.Core.b32.qmin = -149 := by decide +kernel
  obtain ⟨e0, he0⟩ : ∃ e0 : Int, e0 = min (-149) (q - r) := ⟨_, rfl⟩
  have l1 : e0 ≤ -149 := by rw [he0]; exact Int.min_le_left _ _
  have l2 : e0 ≤ q - r := by rw [he0]; exact Int.min_le_right _ _
  have hV : FP.Core.fits FP.Core.b32 (FP.Core.val32 1077936128) := FP.Core.val32_fits _
  have hm3 : FP.Core.zmag FP.Core.b32 (FP.Core.val32 1077936128) = 3 * 2 ^ 149 := by rw [three_val]; decide +kernel
  have key : c * 2 ^ (q - r - e0).toNat ≤ 3 * 2 ^ (-e0).toNat * d := by
    refine Nat.le_of_mul_le_mul_right (c := 2 ^ ((-q).toNat + r.toNat)) ?_ (Nat.two_pow_pos _)
    have e1 : c * 2 ^ (q - r - e0).toNat * 2 ^ ((-q).toNat + r.toNat) = a * (2 ^ (-q).toNat * (2 ^ (-r).toNat * 2 ^ (-e0).toNat)) := by
      rw [Nat.mul_assoc, ← Nat.pow_add, show (q - r - e0).toNat + ((-q).toNat + r.toNat) = q.toNat + ((-r).toNat + (-e0).toNat) by omega, Nat.pow_add, ← Nat.mul_assoc, h3, Nat.pow_add, Nat.mul_assoc]
    have e2 : 3 * 2 ^ (-e0).toNat * d * 2 ^ ((-q).toNat + r.toNat) = 3 * b * (2 ^ (-q).toNat * (2 ^ (-r).toNat * 2 ^ (-e0).toNat)) := by
      calc 3 * 2 ^ (-e0).toNat * d * 2 ^ ((-q).toNat + r.toNat) = 3 * 2 ^ (-e0).toNat * 2 ^ (-q).toNat * (d * 2 ^ r.toNat) := by rw [Nat.pow_add]; ac_rfl
        _ = 3 * b * (2 ^ (-q).toNat * (2 ^ (-r).toNat * 2 ^ (-e0).toNat)) := by rw [h4]; ac_rfl
    rw [e1, e2]
    exact Nat.mul_le_mul_right _ ha
  have hle := FP.Core.zmag_roundRatio_le FP.Core.good_b32 (s := false) (A := c) (B := d) (e := q - r) (e0 := e0) (V := FP.Core.val32 1077936128) h2 hV (by rw [three_val]; exact FP.Core.Datum.noConfusion) (by rw [hq]; exact l1) l2 (by
    show c * 2 ^ (q - r - e0).toNat ≤ _
    rw [hm3, hq]
    refine Nat.le_trans key (Nat.mul_le_mul_right d ?_)
    rw [Nat.mul_assoc, ← Nat.pow_add, show 149 + (-149 - e0).toNat = (-e0).toNat by omega]
    exact Nat.le_refl _)
  have hz : FP.Core.zval FP.Core.b32 (FP.Core.roundRatio FP.Core.b32 false c d (q - r)) ≤ FP.Core.zval FP.Core.b32 (FP.Core.val32 1077936128) := by
    have e1 : FP.Core.zval FP.Core.b32 (FP.Core.roundRatio FP.Core.b32 false c d (q - r)) = ((FP.Core.zmag FP.Core.b32 (FP.Core.roundRatio FP.Core.b32 false c d (q - r)) : Nat) : Int) := by
      unfold FP.Core.zval
      rw [FP.Core.sgn_roundRatio]
      rfl
    have e2 : FP.Core.zval FP.Core.b32 (FP.Core.val32 1077936128) = ((FP.Core.zmag FP.Core.b32 (FP.Core.val32 1077936128) : Nat) : Int) := by
      unfold FP.Core.zval
      rw [three_val]
      rfl
    rw [e1, e2]
    exact Int.ofNat_le.mpr hle
  have := (FP.Core.fcmp_le (a := FP.Core.fdiv (FP.Core.i2f (nI a)) (FP.Core.i2f (nI b))) (b := 1077936128)).mpr ⟨by rw [h1]; exact FP.Core.roundRatio_ne_nan _ _ _ _ _, by rw [three_val]; exact FP.Core.Datum.noConfusion, by rw [h1]; exact hz⟩
  show ¬ 0 < Op.cmpValue (FP.Core.fcmp (FP.Core.fdiv (FP.Core.i2f (nI a)) (FP.Core.i2f (nI b))) 1077936128) .g
  rcases this with h | h <;> rw [h] <;> decide
