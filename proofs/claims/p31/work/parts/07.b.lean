/-! the rows of costs that both sides learn -/
def rs (g : Int32 → Int) (v : Nat → Int32) (a n : Nat) : Int := sg g (fun k => v (a + k)) n
theorem rs_front (g : Int32 → Int) (v : Nat → Int32) (a : Nat) : ∀ n, rs g v a (n + 1) = rs g v (a + 1) n + g (v a)
  | 0 => by show (0 : Int) + g (v (a + 0)) = 0 + g (v a); rw [Nat.add_zero]
  | n + 1 => by
    have h := rs_front g v a n
    show sg g (fun k => v (a + k)) (n + 1) + g (v (a + (n + 1))) = sg g (fun k => v (a + 1 + k)) n + g (v (a + 1 + n)) + g (v a)
    have e : sg g (fun k => v (a + k)) (n + 1) = rs g v a (n + 1) := rfl
    have e2 : sg g (fun k => v (a + 1 + k)) n = rs g v (a + 1) n := rfl
    rw [e, e2, h, show a + (n + 1) = a + 1 + n by omega]
    omega
theorem rs_back (g : Int32 → Int) (v : Nat → Int32) (a n : Nat) : rs g v a (n + 1) = rs g v a n + g (v (a + n)) := rfl
theorem rs_congr {g : Int32 → Int} {v w : Nat → Int32} {a n : Nat} (h : ∀ k, a ≤ k → k < a + n → v k = w k) : rs g v a n = rs g w a n :=
  sg_congr n (fun k hk => h (a + k) (by omega) (by omega))
def VB (v : Nat → Int32) : Prop := ∀ k, bd (v k)
/-- a row holds the values of a segment in order -/
def RowOf (S v : Nat → Int32) (a n : Nat) : Prop := Srt S n ∧ (∀ g, sg g S n = rs g v a n) ∧ ∀ k, k < n → bd (S k)
theorem Row_0 (S v : Nat → Int32) (a : Nat) : RowOf S v a 0 := ⟨fun i hi => absurd hi (by omega), fun _ => rfl, fun k hk => absurd hk (by omega)⟩
theorem Row_front {S v : Nat → Int32} {a n : Nat} (hv : VB v) (h : RowOf S v (a + 1) n) : RowOf (sortL (v a) n S) v a (n + 1) :=
  ⟨sortL_srt n S h.1, fun g => by rw [sortL_sg, h.2.1, rs_front], fun k hk => sortL_all (P := bd) (hv a) n S h.2.2 k hk⟩
theorem Row_back {S v : Nat → Int32} {a n : Nat} (hv : VB v) (h : RowOf S v a n) : RowOf (sortL (v (a + n)) n S) v a (n + 1) :=
  ⟨sortL_srt n S h.1, fun g => by rw [sortL_sg, h.2.1, rs_back], fun k hk => sortL_all (P := bd) (hv _) n S h.2.2 k hk⟩
/-- x is the cost of the segment from f to t -/
def CK (v : Nat → Int32) (f t : Nat) (x : Int32) : Prop := IsM (fun y => rs (ab y) v f (t - f)) x.toInt ∧ 0 ≤ x.toInt ∧ x.toInt ≤ 2000 * ((t - f : Nat) : Int)
theorem CK.uniq {v : Nat → Int32} {f t : Nat} {x y : Int32} (h1 : CK v f t x) (h2 : CK v f t y) : x = y := (i_eq x y).mpr (h1.1.uniq h2.1)
theorem CK.v {v w : Nat → Int32} {f t : Nat} {x : Int32} (h : CK v f t x) (e : ∀ k, f ≤ k → k < t → v k = w k) (hft : f ≤ t) : CK w f t x :=
  ⟨h.1.ext (fun y => rs_congr (fun k h1 h2 => e k h1 (by omega))), h.2⟩
theorem segL_ok {v : Nat → Int32} (hv : VB v) {tt : Nat} (ht : tt ≤ 120) : ∀ (k : Nat) (co : Int32) (K S : Nat → Int32), k ≤ tt → RowOf S v k (tt - k) → IsM (fun y => sg (ab y) S (tt - k)) co.toInt → 0 ≤ co.toInt → co.toInt ≤ 2000 * ((tt - k : Nat) : Int) →
    (∀ f, f < k → CK v f tt ((segL v tt k co K S).1 (tri (tt - 1) + f))) ∧ (∀ i, (i < tri (tt - 1) ∨ tri (tt - 1) + k ≤ i) → (segL v tt k co K S).1 i = K i)
  | 0, co, K, S, _, _, _, _, _ => ⟨fun f hf => absurd hf (by omega), fun i _ => rfl⟩
  | k + 1, co, K, S, hk, hR, hm, h0, h1 => by
    have en : tt - (k + 1) = tt - 1 - k := by omega
    rw [en] at hR hm h1
    obtain ⟨d1, d2, d3⟩ := dm_ok (x := v k) hR.1 hR.2.2 (hv k) hm
    obtain ⟨co', hco⟩ : ∃ z, z = co + dm S (tt - 1 - k) (v k) := ⟨_, rfl⟩
    have eti : co'.toInt = co.toInt + (dm S (tt - 1 - k) (v k)).toInt := by rw [hco]; exact ti_add (by omega) (by omega)
    have e1 : tt - k = tt - 1 - k + 1 := by omega
    have hR' : RowOf (sortL (v k) (tt - 1 - k) S) v k (tt - k) := by rw [e1]; exact Row_front hv hR
    have hm' : IsM (fun y => sg (ab y) (sortL (v k) (tt - 1 - k) S) (tt - k)) co'.toInt := by
      rw [eti]
      exact d1.ext (fun y => by rw [e1, sortL_sg])
    have hb : co'.toInt ≤ 2000 * ((tt - k : Nat) : Int) := by omega
    have ih := segL_ok hv ht k co' (upd K (tri (tt - 1) + k) co') (sortL (v k) (tt - 1 - k) S) (by omega) hR' hm' (by omega) hb
    have es : segL v tt (k + 1) co K S = segL v tt k co' (upd K (tri (tt - 1) + k) co') (sortL (v k) (tt - 1 - k) S) := by rw [hco]; rfl
    rw [es]
    refine ⟨fun f hf => ?_, fun i hi => ?_⟩
    · by_cases e : f = k
      · subst e
        rw [ih.2 _ (Or.inr (Nat.le_refl _)), up_at]
        exact ⟨hm'.ext (fun y => hR'.2.1 _), by omega, hb⟩
      · exact ih.1 f (by omega)
    · rw [ih.2 i (by omega), up_ne (by omega)]
/-- the finder's row of costs is right up to n -/
def SC (v : Nat → Int32) (n : Nat) (K : Nat → Int32) : Prop := ∀ f t, f < t → t ≤ n → CK v f t (K (tri (t - 1) + f))
theorem tri_row {f t : Nat} (h : f < t) : tri (t - 1) + f < tri t := by
  obtain ⟨c, rfl⟩ : ∃ c, t = c + 1 := ⟨t - 1, by omega⟩
  rw [tri_succ, Nat.add_sub_cancel]
  omega
theorem learL_ok {v : Nat → Int32} (hv : VB v) : ∀ (d g : Nat) (K S : Nat → Int32), g + d ≤ 120 → SC v g K → SC v (g + d) (learL v d g K S).1 ∧ ∀ i, i < tri g → (learL v d g K S).1 i = K i
  | 0, g, K, S, _, h => ⟨h, fun _ _ => rfl⟩
  | d + 1, g, K, S, hd, h => by
    have hs := segL_ok hv (tt := g + 1) (by omega) (g + 1) 0 K S (Nat.le_refl _) (by rw [Nat.sub_self]; exact Row_0 S v _) (by rw [Nat.sub_self]; exact ⟨fun y => Int.le_refl _, 0, rfl⟩) (by decide) (by rw [Nat.sub_self]; decide)
    rw [Nat.add_sub_cancel] at hs
    have hS : SC v (g + 1) (segL v (g + 1) (g + 1) 0 K S).1 := by
      intro f t hf ht
      by_cases e : t = g + 1
      · subst e
        rw [Nat.add_sub_cancel]
        exact hs.1 f hf
      · have h3 := tri_row hf
        have h4 := tri_mono (show t ≤ g by omega)
        rw [hs.2 _ (Or.inl (by omega))]
        exact h f t hf (by omega)
    have ih := learL_ok hv d (g + 1) (segL v (g + 1) (g + 1) 0 K S).1 (segL v (g + 1) (g + 1) 0 K S).2 (by omega) hS
    rw [show g + 1 + d = g + (d + 1) by omega] at ih
    refine ⟨ih.1, fun i hi => ?_⟩
    have h4 := tri_mono (show g ≤ g + 1 by omega)
    show (learL v d (g + 1) (segL v (g + 1) (g + 1) 0 K S).1 (segL v (g + 1) (g + 1) 0 K S).2).1 i = K i
    rw [ih.2 i (by omega), hs.2 i (Or.inl hi)]
