/-! steps: searches, matching, calls without arguments -/
set_option maxHeartbeats 1000000 in
set_option maxRecDepth 100000 in
theorem st_change (l : Launch) (hl0 : l.stackTraces = false) (D : va_G) (cI cZ cJ cD : ClassId) (q u : Nat → Nat) {th : Int32} {wb wm : va_W} (h : RW cI cZ q u th wb wm) (qo : Nat) (f : Nat → Int64) (x : Int32) : ∃ (wb' wm' : va_W) (f' : Nat → Int64) (k : Int32) (r : Int32), HStep l D cI cZ cJ cD yL_change cL_change 4 [(0, 9, 12, 34)] [.ref (q 0), .int x, .ref qo] ([(qo, .inl (cJ, 1, .inr (.inl f)))] ++ wb) ([(qo, .inl (cJ, 1, .inr (.inl f')))] ++ wb') k ∧ MSi l D cI cZ yX10_change cX10_change 4 (some .int) [.ref (u 0), .int x] wm wm' r ∧ RW cI cZ q u k wb' wm' ∧ (k = 0 → f' 0 = r.toInt64) := by
  obtain ⟨v, n, pn, al, cs, ph, sc, lc, bs, bx, bg, tr, pm, tm, kn, K, S, bb, ff, oo, ot, ic, im, dl, rfl, rfl, hR⟩ := h
  have h120 := hR.1.1
  have h1 := hR.2.1.1
  obtain ⟨hR1, hs, bs0, cu0, hb⟩ := hR.bestx bs
  have hR2 := hR1.wg S
  have hk := hR2.kk hs
  obtain ⟨g1, g2, g3⟩ := best_all (pn := pn) h120 hk.1 bs0 cu0 bb ff
  rw [← hb] at g1 g2 g3
  by_cases hc : 0 ≤ x ∧ x < (if bx.2.2.2 = true then bx else cu_set (sc_learn v n sc).1 n pn (chT (bfL (sc_learn v n sc).1 n pn n bs) n bx)).2.1
  · skip
    have hc2 := hc.2
    rw [g1] at hc2
    by_cases h0 : n = 0
    · rw [if_pos h0] at hc2
      exfalso
      have e1 := (i_le _ _).mp hc.1
      have e2 := (i_lt _ _).mp hc2
      omega
    · rw [if_neg h0] at hc2
      obtain ⟨k, ch, hk1, e2, e3, e4, e5, e6⟩ := g3 (by omega)
      obtain ⟨p0, hp0, rfl⟩ : ∃ p0 : Nat, p0 < k ∧ x = nI p0 := lt_nI (by omega) ⟨hc.1, by rw [← e2]; exact hc2⟩
      exact ⟨_, _, _, 0, _, hs_mk (c_L_change_ok l hl0 D cI cZ cJ cD (q 0) qo f (nI p0) (wB cI cZ q v n pn al cs ph sc lc bs bx bg tr) (wB cI cZ q v n pn al cs ph (if bx.2.2.2 = true then sc else (sc_learn v n sc)) lc (if bx.2.2.2 = true then bs else bfL (sc_learn v n sc).1 n pn n bs) (if bx.2.2.2 = true then bx else cu_set (sc_learn v n sc).1 n pn (chT (bfL (sc_learn v n sc).1 n pn n bs) n bx)) bg tr) _ (c_X9_change l D cI cZ (q 0) (q 1) (q 2) (q 3) (q 4) (q 5) (q 6) (q 7) (q 8) (q 9) (q 10) (q 11) (q 12) (q 13) (q 14) (q 15) (q 16) (q 17) (q 18) (q 19) (q 20) (q 21) (q 22) (q 23) v n pn al cs ph sc lc bs bx bg tr (nI p0) h1 h120 hc) ⟨_, rfl⟩ rfl) (Nat.le_of_ble_eq_true rfl) (Nat.le_of_ble_eq_true rfl) rfl rfl (Nat.le_of_ble_eq_true rfl) (Nat.le_of_ble_eq_true rfl), ms_mki (c_X10_change_ok l D cI cZ (u 0) (u 1) (u 2) (u 3) (u 4) (u 5) (u 6) (u 7) (u 8) (u 9) (u 10) (u 11) (u 12) (u 13) cs pm pn n v tm al th kn K S bb ff oo ot ic im dl p0 ch h120 (by omega) hc2 (by omega) e4 (fun j hj => e5 j (by omega)) (fun j hj => e6 j (by omega))) (Nat.le_of_ble_eq_true rfl) (Nat.le_of_ble_eq_true rfl) rfl rfl, ⟨v, n, pn, al, cs, ph, (if bx.2.2.2 = true then sc else (sc_learn v n sc)), lc, (if bx.2.2.2 = true then bs else bfL (sc_learn v n sc).1 n pn n bs), (if bx.2.2.2 = true then bx else cu_set (sc_learn v n sc).1 n pn (chT (bfL (sc_learn v n sc).1 n pn n bs) n bx)), bg, tr, pm, tm, true, (wgR kn v n K S).1, (wgR kn v n K S).2, (cutR (wgR kn v n K S).1 n pn bb ff).1, (cutR (wgR kn v n K S).1 n pn bb ff).2, oo, ot, ic, im, dl, rfl, rfl, hR2⟩, fun _ => out_eq (e3 p0 hp0)⟩
  · skip
    exact ⟨_, _, f, 1, _, hs_mk (c_L_change_x1 l hl0 D cI cZ cJ cD (q 0) qo f x (wB cI cZ q v n pn al cs ph sc lc bs bx bg tr) (wB cI cZ q v n pn al cs ph (if bx.2.2.2 = true then sc else (sc_learn v n sc)) lc (if bx.2.2.2 = true then bs else bfL (sc_learn v n sc).1 n pn n bs) (if bx.2.2.2 = true then bx else cu_set (sc_learn v n sc).1 n pn (chT (bfL (sc_learn v n sc).1 n pn n bs) n bx)) bg tr) (c_X9_change_x l hl0 D cI cZ (q 0) (q 1) (q 2) (q 3) (q 4) (q 5) (q 6) (q 7) (q 8) (q 9) (q 10) (q 11) (q 12) (q 13) (q 14) (q 15) (q 16) (q 17) (q 18) (q 19) (q 20) (q 21) (q 22) (q 23) v n pn al cs ph sc lc bs bx bg tr x h1 h120 hc) ⟨_, rfl⟩ rfl) (Nat.le_of_ble_eq_true rfl) (Nat.le_of_ble_eq_true rfl) rfl rfl (Nat.le_of_ble_eq_true rfl) (Nat.le_of_ble_eq_true rfl), ms_mki (c_X10_change_bad l D cI cZ (u 0) (u 1) (u 2) (u 3) (u 4) (u 5) (u 6) (u 7) (u 8) (u 9) (u 10) (u 11) (u 12) (u 13) cs pm pn n v tm al th kn K S bb ff oo ot ic im dl x h120 (fun hb9 => hc ⟨hb9.2.1, by rw [g1, if_neg (by omega)]; exact hb9.2.2⟩)) (Nat.le_of_ble_eq_true rfl) (Nat.le_of_ble_eq_true rfl) rfl rfl, ⟨v, n, pn, al, cs, ph, (if bx.2.2.2 = true then sc else (sc_learn v n sc)), lc, (if bx.2.2.2 = true then bs else bfL (sc_learn v n sc).1 n pn n bs), (if bx.2.2.2 = true then bx else cu_set (sc_learn v n sc).1 n pn (chT (bfL (sc_learn v n sc).1 n pn n bs) n bx)), bg, tr, pm, tm, true, (wgR kn v n K S).1, (wgR kn v n K S).2, (cutR (wgR kn v n K S).1 n pn bb ff).1, (cutR (wgR kn v n K S).1 n pn bb ff).2, oo, ot, ic, im, dl, rfl, rfl, hR2⟩, fun z => absurd z (by decide)⟩
set_option maxHeartbeats 1000000 in
set_option maxRecDepth 100000 in
theorem st_leastCost (l : Launch) (hl0 : l.stackTraces = false) (D : va_G) (cI cZ cJ cD : ClassId) (q u : Nat → Nat) {th : Int32} {wb wm : va_W} (h : RW cI cZ q u th wb wm) (qo : Nat) (f : Nat → Int64) (x : Int32) : ∃ (wb' wm' : va_W) (f' : Nat → Int64) (k : Int32) (r : Int32), HStep l D cI cZ cJ cD yL_leastCost cL_leastCost 4 [(0, 9, 12, 13), (0, 9, 15, 25)] [.ref (q 0), .int x, .ref qo] ([(qo, .inl (cJ, 1, .inr (.inl f)))] ++ wb) ([(qo, .inl (cJ, 1, .inr (.inl f')))] ++ wb') k ∧ MSi l D cI cZ yX10_leastCost cX10_leastCost 6 (some .int) [.ref (u 0), .int x] wm wm' r ∧ RW cI cZ q u k wb' wm' ∧ (k = 0 → f' 0 = r.toInt64) := by
  obtain ⟨v, n, pn, al, cs, ph, sc, lc, bs, bx, bg, tr, pm, tm, kn, K, S, bb, ff, oo, ot, ic, im, dl, rfl, rfl, hR⟩ := h
  have h120 := hR.1.1
  have h1 := hR.2.1.1
  have h4 := hR.2.1.2.2.1
  by_cases hc : 0 ≤ x ∧ x ≤ 119
  · obtain ⟨cN, hcN, rfl⟩ : ∃ cN : Nat, cN ≤ 119 ∧ x = nI cN := le_nI (by decide) hc
    by_cases hn : cN < n
    · skip
      have hl := ((hR.learn).wg S).leastx rfl hn oo ot
      exact ⟨_, _, _, 0, _, hs_mk (c_L_leastCost_ok l hl0 D cI cZ cJ cD (q 0) qo f (nI cN) (wB cI cZ q v n pn al cs ph sc lc bs bx bg tr) (wB cI cZ q v n pn al cs ph (sc_learn v n sc) (leaL (sc_learn v n sc).1 (n - lc.2) lc.2 lc.1, n) bs bx bg tr) _ (c_X9_leastCost l D cI cZ (q 0) (q 1) (q 2) (q 3) (q 4) (q 5) (q 6) (q 7) (q 8) (q 9) (q 10) (q 11) (q 12) (q 13) (q 14) (q 15) (q 16) (q 17) (q 18) (q 19) (q 20) (q 21) (q 22) (q 23) v n pn al cs ph sc lc bs bx bg tr cN h1 h120 (by omega) hn) ⟨_, rfl⟩ rfl) (Nat.le_of_ble_eq_true rfl) (Nat.le_of_ble_eq_true rfl) rfl rfl (Nat.le_of_ble_eq_true rfl) (Nat.le_of_ble_eq_true rfl), ms_mki (c_X10_leastCost_ok l D cI cZ (u 0) (u 1) (u 2) (u 3) (u 4) (u 5) (u 6) (u 7) (u 8) (u 9) (u 10) (u 11) (u 12) (u 13) cs pm pn n v tm al th kn K S bb ff oo ot ic im dl cN h120 hn) (Nat.le_of_ble_eq_true rfl) (Nat.le_of_ble_eq_true rfl) rfl rfl, ⟨v, n, pn, al, cs, ph, sc_learn v n sc, (leaL (sc_learn v n sc).1 (n - lc.2) lc.2 lc.1, n), bs, bx, bg, tr, pm, tm, true, (wgR kn v n K S).1, (wgR kn v n K S).2, bb, ff, (lsL (wgR kn v n K S).1 n cN (o1L (wgR kn v n K S).1 n 1 oo) ot).1, (lsL (wgR kn v n K S).1 n cN (o1L (wgR kn v n K S).1 n 1 oo) ot).2, ic, im, dl, rfl, rfl, hl.1⟩, fun _ => out_eq hl.2.symm⟩
    · skip
      exact ⟨_, _, f, 2, _, hs_mk (c_L_leastCost_x2 l hl0 D cI cZ cJ cD (q 0) qo f (nI cN) (wB cI cZ q v n pn al cs ph sc lc bs bx bg tr) (wB cI cZ q v n pn al cs ph sc lc bs bx bg tr) (c_X9_leastCost_x2 l hl0 D cI cZ (q 0) (q 1) (q 2) (q 3) (q 4) (q 5) (q 6) (q 7) (q 8) (q 9) (q 10) (q 11) (q 12) (q 13) (q 14) (q 15) (q 16) (q 17) (q 18) (q 19) (q 20) (q 21) (q 22) (q 23) v n pn al cs ph sc lc bs bx bg tr cN h120 hcN (by omega)) ⟨_, rfl⟩ rfl) (Nat.le_of_ble_eq_true rfl) (Nat.le_of_ble_eq_true rfl) rfl rfl (Nat.le_of_ble_eq_true rfl) (Nat.le_of_ble_eq_true rfl), ms_mki (c_X10_leastCost_b2 l D cI cZ (u 0) (u 1) (u 2) (u 3) (u 4) (u 5) (u 6) (u 7) (u 8) (u 9) (u 10) (u 11) (u 12) (u 13) cs pm pn n v tm al th kn K S bb ff oo ot ic im dl cN h120 hcN (by omega)) (Nat.le_of_ble_eq_true rfl) (Nat.le_of_ble_eq_true rfl) rfl rfl, ⟨v, n, pn, al, cs, ph, sc, lc, bs, bx, bg, tr, pm, tm, kn, K, S, bb, ff, oo, ot, ic, im, dl, rfl, rfl, hR⟩, fun z => absurd z (by decide)⟩
  · skip
    exact ⟨_, _, f, 1, _, hs_mk (c_L_leastCost_x1 l hl0 D cI cZ cJ cD (q 0) qo f x (wB cI cZ q v n pn al cs ph sc lc bs bx bg tr) (wB cI cZ q v n pn al cs ph sc lc bs bx bg tr) (c_X9_leastCost_x1 l hl0 D cI cZ (q 0) (q 1) (q 2) (q 3) (q 4) (q 5) (q 6) (q 7) (q 8) (q 9) (q 10) (q 11) (q 12) (q 13) (q 14) (q 15) (q 16) (q 17) (q 18) (q 19) (q 20) (q 21) (q 22) (q 23) v n pn al cs ph sc lc bs bx bg tr x hc) ⟨_, rfl⟩ rfl) (Nat.le_of_ble_eq_true rfl) (Nat.le_of_ble_eq_true rfl) rfl rfl (Nat.le_of_ble_eq_true rfl) (Nat.le_of_ble_eq_true rfl), ms_mki (c_X10_leastCost_b1 l D cI cZ (u 0) (u 1) (u 2) (u 3) (u 4) (u 5) (u 6) (u 7) (u 8) (u 9) (u 10) (u 11) (u 12) (u 13) cs pm pn n v tm al th kn K S bb ff oo ot ic im dl x hc) (Nat.le_of_ble_eq_true rfl) (Nat.le_of_ble_eq_true rfl) rfl rfl, ⟨v, n, pn, al, cs, ph, sc, lc, bs, bx, bg, tr, pm, tm, kn, K, S, bb, ff, oo, ot, ic, im, dl, rfl, rfl, hR⟩, fun z => absurd z (by decide)⟩
set_option maxHeartbeats 1000000 in
set_option maxRecDepth 100000 in
theorem st_greedyChange (l : Launch) (hl0 : l.stackTraces = false) (D : va_G) (cI cZ cJ cD : ClassId) (q u : Nat → Nat) {th : Int32} {wb wm : va_W} (h : RW cI cZ q u th wb wm) (qo : Nat) (f : Nat → Int64) (x : Int32) : ∃ (wb' wm' : va_W) (f' : Nat → Int64) (k : Int32) (r : Int32), HStep l D cI cZ cJ cD yL_greedyChange cL_greedyChange 4 [(0, 9, 12, 34)] [.ref (q 0), .int x, .ref qo] ([(qo, .inl (cJ, 1, .inr (.inl f)))] ++ wb) ([(qo, .inl (cJ, 1, .inr (.inl f')))] ++ wb') k ∧ MSi l D cI cZ yX10_greedyChange cX10_greedyChange 3 (some .int) [.ref (u 0), .int x] wm wm' r ∧ RW cI cZ q u k wb' wm' ∧ (k = 0 → f' 0 = r.toInt64) := by
  obtain ⟨v, n, pn, al, cs, ph, sc, lc, bs, bx, bg, tr, pm, tm, kn, K, S, bb, ff, oo, ot, ic, im, dl, rfl, rfl, hR⟩ := h
  have h120 := hR.1.1
  have h1 := hR.2.1.1
  obtain ⟨hR1, hs, cu0, hb⟩ := hR.greedyx
  have hR2 := hR1.wg S
  have hk := hR2.kk hs
  obtain ⟨g1, g2, g3⟩ := greedy_all (pn := pn) h120 hk.1 cu0 ic
  rw [← hb] at g1 g2 g3
  by_cases hc : 0 ≤ x ∧ x < (if bg.2.2.2 = true then bg else cu_set (sc_learn v n sc).1 n pn (ggT (sc_learn v n sc).1 n pn bg)).2.1
  · skip
    have g4 := (g3 x).1 hc
    exact ⟨_, _, _, 0, _, hs_mk (c_L_greedyChange_ok l hl0 D cI cZ cJ cD (q 0) qo f x (wB cI cZ q v n pn al cs ph sc lc bs bx bg tr) (wB cI cZ q v n pn al cs ph (if bg.2.2.2 = true then sc else (sc_learn v n sc)) lc bs bx (if bg.2.2.2 = true then bg else cu_set (sc_learn v n sc).1 n pn (ggT (sc_learn v n sc).1 n pn bg)) tr) _ (c_X9_greedyChange l D cI cZ (q 0) (q 1) (q 2) (q 3) (q 4) (q 5) (q 6) (q 7) (q 8) (q 9) (q 10) (q 11) (q 12) (q 13) (q 14) (q 15) (q 16) (q 17) (q 18) (q 19) (q 20) (q 21) (q 22) (q 23) v n pn al cs ph sc lc bs bx bg tr x h1 h120 hc) ⟨_, rfl⟩ rfl) (Nat.le_of_ble_eq_true rfl) (Nat.le_of_ble_eq_true rfl) rfl rfl (Nat.le_of_ble_eq_true rfl) (Nat.le_of_ble_eq_true rfl), ms_mki (c_X10_greedyChange_ok l D cI cZ (u 0) (u 1) (u 2) (u 3) (u 4) (u 5) (u 6) (u 7) (u 8) (u 9) (u 10) (u 11) (u 12) (u 13) cs pm pn n v tm al th kn K S bb ff oo ot ic im dl x h120 hc.1 g4.2) (Nat.le_of_ble_eq_true rfl) (Nat.le_of_ble_eq_true rfl) rfl rfl, ⟨v, n, pn, al, cs, ph, (if bg.2.2.2 = true then sc else (sc_learn v n sc)), lc, bs, bx, (if bg.2.2.2 = true then bg else cu_set (sc_learn v n sc).1 n pn (ggT (sc_learn v n sc).1 n pn bg)), tr, pm, tm, true, (wgR kn v n K S).1, (wgR kn v n K S).2, bb, ff, oo, ot, (goT (wgR kn v n K S).1 n pn ic).1, im, dl, rfl, rfl, hR2⟩, fun _ => out_eq g4.1⟩
  · skip
    exact ⟨_, _, f, 1, _, hs_mk (c_L_greedyChange_x1 l hl0 D cI cZ cJ cD (q 0) qo f x (wB cI cZ q v n pn al cs ph sc lc bs bx bg tr) (wB cI cZ q v n pn al cs ph (if bg.2.2.2 = true then sc else (sc_learn v n sc)) lc bs bx (if bg.2.2.2 = true then bg else cu_set (sc_learn v n sc).1 n pn (ggT (sc_learn v n sc).1 n pn bg)) tr) (c_X9_greedyChange_x l hl0 D cI cZ (q 0) (q 1) (q 2) (q 3) (q 4) (q 5) (q 6) (q 7) (q 8) (q 9) (q 10) (q 11) (q 12) (q 13) (q 14) (q 15) (q 16) (q 17) (q 18) (q 19) (q 20) (q 21) (q 22) (q 23) v n pn al cs ph sc lc bs bx bg tr x h1 h120 hc) ⟨_, rfl⟩ rfl) (Nat.le_of_ble_eq_true rfl) (Nat.le_of_ble_eq_true rfl) rfl rfl (Nat.le_of_ble_eq_true rfl) (Nat.le_of_ble_eq_true rfl), ms_mki (c_X10_greedyChange_bad l D cI cZ (u 0) (u 1) (u 2) (u 3) (u 4) (u 5) (u 6) (u 7) (u 8) (u 9) (u 10) (u 11) (u 12) (u 13) cs pm pn n v tm al th kn K S bb ff oo ot ic im dl x h120 ((g3 x).2 hc)) (Nat.le_of_ble_eq_true rfl) (Nat.le_of_ble_eq_true rfl) rfl rfl, ⟨v, n, pn, al, cs, ph, (if bg.2.2.2 = true then sc else (sc_learn v n sc)), lc, bs, bx, (if bg.2.2.2 = true then bg else cu_set (sc_learn v n sc).1 n pn (ggT (sc_learn v n sc).1 n pn bg)), tr, pm, tm, true, (wgR kn v n K S).1, (wgR kn v n K S).2, bb, ff, oo, ot, (goT (wgR kn v n K S).1 n pn ic).1, im, dl, rfl, rfl, hR2⟩, fun z => absurd z (by decide)⟩
set_option maxHeartbeats 1000000 in
set_option maxRecDepth 100000 in
theorem st_toggleTruth (l : Launch) (hl0 : l.stackTraces = false) (D : va_G) (cI cZ cJ cD : ClassId) (q u : Nat → Nat) {th : Int32} {wb wm : va_W} (h : RW cI cZ q u th wb wm) (qo : Nat) (f : Nat → Int64) (x : Int32) : ∃ (wb' wm' : va_W) (f' : Nat → Int64) (k : Int32) (r : Bool), HStep l D cI cZ cJ cD yL_toggleTruth cL_toggleTruth 4 [(0, 16, 19, 34)] [.ref (q 0), .int x, .ref qo] ([(qo, .inl (cJ, 1, .inr (.inl f)))] ++ wb) ([(qo, .inl (cJ, 1, .inr (.inl f')))] ++ wb') k ∧ MSi l D cI cZ yX10_toggleTruth cX10_toggleTruth 2 (some .boolean) [.ref (u 0), .int x] wm wm' (zb r) ∧ RW cI cZ q u k wb' wm' ∧ (k = 0 → f' 0 = (zb r).toInt64) := by
  obtain ⟨v, n, pn, al, cs, ph, sc, lc, bs, bx, bg, tr, pm, tm, kn, K, S, bb, ff, oo, ot, ic, im, dl, rfl, rfl, hR⟩ := h
  have h120 := hR.1.1
  have htm := hR.1.2.2.2.2.2.1
  by_cases hc : 0 ≤ x ∧ x < nI n
  · obtain ⟨nu, hnu, rfl⟩ := lt_nI (by omega) hc
    exact ⟨_, _, _, 0, (!(tm nu)), hs_mk (c_L_toggleTruth_ok l hl0 D cI cZ cJ cD (q 0) qo f (nI nu) (wB cI cZ q v n pn al cs ph sc lc bs bx bg tr) (wB cI cZ q v n pn al cs ph sc lc bs bx bg (updB tr.1 nu (!(tr.1 nu)), tr.2.1, tr.2.2.1, tr.2.2.2.1, tr.2.2.2.2)) (!(tr.1 nu)) (c_X9_toggleTruth l D cI cZ (q 0) (q 1) (q 2) (q 3) (q 4) (q 5) (q 6) (q 7) (q 8) (q 9) (q 10) (q 11) (q 12) (q 13) (q 14) (q 15) (q 16) (q 17) (q 18) (q 19) (q 20) (q 21) (q 22) (q 23) v n pn al cs ph sc lc bs bx bg tr nu hnu h120) ⟨_, rfl⟩ rfl) (Nat.le_of_ble_eq_true rfl) (Nat.le_of_ble_eq_true rfl) rfl rfl (Nat.le_of_ble_eq_true rfl) (Nat.le_of_ble_eq_true rfl), ms_mki (c_X10_toggleTruth_ok l D cI cZ (u 0) (u 1) (u 2) (u 3) (u 4) (u 5) (u 6) (u 7) (u 8) (u 9) (u 10) (u 11) (u 12) (u 13) cs pm pn n v tm al th kn K S bb ff oo ot ic im dl nu hnu h120) (Nat.le_of_ble_eq_true rfl) (Nat.le_of_ble_eq_true rfl) rfl rfl, ⟨v, n, pn, al, cs, ph, sc, lc, bs, bx, bg, (updB tr.1 nu (!(tr.1 nu)), tr.2.1, tr.2.2.1, tr.2.2.2.1, tr.2.2.2.2), pm, updB tm nu (!(tm nu)), kn, K, S, bb, ff, oo, ot, ic, im, dl, rfl, rfl, hR.tog hnu⟩, fun _ => out_eq (by rw [htm])⟩
  · skip
    exact ⟨_, _, f, 1, false, hs_mk (c_L_toggleTruth_x1 l hl0 D cI cZ cJ cD (q 0) qo f x (wB cI cZ q v n pn al cs ph sc lc bs bx bg tr) (wB cI cZ q v n pn al cs ph sc lc bs bx bg tr) (c_X9_toggleTruth_x l hl0 D cI cZ (q 0) (q 1) (q 2) (q 3) (q 4) (q 5) (q 6) (q 7) (q 8) (q 9) (q 10) (q 11) (q 12) (q 13) (q 14) (q 15) (q 16) (q 17) (q 18) (q 19) (q 20) (q 21) (q 22) (q 23) v n pn al cs ph sc lc bs bx bg tr x hc) ⟨_, rfl⟩ rfl) (Nat.le_of_ble_eq_true rfl) (Nat.le_of_ble_eq_true rfl) rfl rfl (Nat.le_of_ble_eq_true rfl) (Nat.le_of_ble_eq_true rfl), ms_mki (c_X10_toggleTruth_bad l D cI cZ (u 0) (u 1) (u 2) (u 3) (u 4) (u 5) (u 6) (u 7) (u 8) (u 9) (u 10) (u 11) (u 12) (u 13) cs pm pn n v tm al th kn K S bb ff oo ot ic im dl x hc h120) (Nat.le_of_ble_eq_true rfl) (Nat.le_of_ble_eq_true rfl) rfl rfl, ⟨v, n, pn, al, cs, ph, sc, lc, bs, bx, bg, tr, pm, tm, kn, K, S, bb, ff, oo, ot, ic, im, dl, rfl, rfl, hR⟩, fun z => absurd z (by decide)⟩
set_option maxHeartbeats 1000000 in
set_option maxRecDepth 100000 in
theorem st_matched (l : Launch) (hl0 : l.stackTraces = false) (D : va_G) (cI cZ cJ cD : ClassId) (q u : Nat → Nat) {th : Int32} {wb wm : va_W} (h : RW cI cZ q u th wb wm) (qo : Nat) (f : Nat → Int64) (x y : Int32) : ∃ (wb' wm' : va_W) (f' : Nat → Int64) (k : Int32) (r : Int32), HStep l D cI cZ cJ cD yL_matched cL_matched 5 [(0, 10, 13, 13)] [.ref (q 0), .int x, .int y, .ref qo] ([(qo, .inl (cJ, 1, .inr (.inl f)))] ++ wb) ([(qo, .inl (cJ, 1, .inr (.inl f')))] ++ wb') k ∧ MSi l D cI cZ yX10_matched cX10_matched 3 (some .int) [.ref (u 0), .int x, .int y] wm wm' r ∧ RW cI cZ q u k wb' wm' ∧ (k = 0 → f' 0 = r.toInt64) := by
  obtain ⟨v, n, pn, al, cs, ph, sc, lc, bs, bx, bg, tr, pm, tm, kn, K, S, bb, ff, oo, ot, ic, im, dl, rfl, rfl, hR⟩ := h
  have htm := hR.1.2.2.2.2.2.1
  subst htm
  have h360 := hR.al360
  by_cases hc : (0 ≤ x ∧ x ≤ 2) ∧ (0 ≤ y ∧ y ≤ 120)
  · obtain ⟨kd, hkd, rfl⟩ : ∃ kd : Nat, kd ≤ 2 ∧ x = nI kd := le_nI (by decide) hc.1
    obtain ⟨w, hw, rfl⟩ : ∃ w : Nat, w ≤ 120 ∧ y = nI w := le_nI (by decide) hc.2
    obtain ⟨m1, m2, m3, m4, m5⟩ := match_all (kd := nI kd) (w := w) (tr := tr) (im := im) hR.num h360
    exact ⟨_, _, _, 0, _, hs_mk (c_L_matched_ok l hl0 D cI cZ cJ cD (q 0) qo f (nI kd) (nI w) (wB cI cZ q v n pn al cs ph sc lc bs bx bg tr) (wB cI cZ q v n pn al cs ph sc lc bs bx bg (matL al (nI kd) w al.2.2.2 0 (tr_begin tr))) _ (c_X9_matched l D cI cZ (q 0) (q 1) (q 2) (q 3) (q 4) (q 5) (q 6) (q 7) (q 8) (q 9) (q 10) (q 11) (q 12) (q 13) (q 14) (q 15) (q 16) (q 17) (q 18) (q 19) (q 20) (q 21) (q 22) (q 23) v n pn al cs ph sc lc bs bx bg tr (nI kd) w hR.num h360 hc.1 hw) ⟨_, rfl⟩ rfl) (Nat.le_of_ble_eq_true rfl) (Nat.le_of_ble_eq_true rfl) rfl rfl (Nat.le_of_ble_eq_true rfl) (Nat.le_of_ble_eq_true rfl), ms_mki (c_X10_matched_ok l D cI cZ (u 0) (u 1) (u 2) (u 3) (u 4) (u 5) (u 6) (u 7) (u 8) (u 9) (u 10) (u 11) (u 12) (u 13) cs pm pn n v tr.1 al th kn K S bb ff oo ot ic im dl kd w h360 hR.num hw hkd hR.knd) (Nat.le_of_ble_eq_true rfl) (Nat.le_of_ble_eq_true rfl) rfl rfl, ⟨v, n, pn, al, cs, ph, sc, lc, bs, bx, bg, (matL al (nI kd) w al.2.2.2 0 (tr_begin tr)), pm, tr.1, kn, K, S, bb, ff, oo, ot, ic, (mxL al tr.1 (nI kd) w al.2.2.2 0 (offL 120 0 im) 0 0).1, (mxL al tr.1 (nI kd) w al.2.2.2 0 (offL 120 0 im) 0 0).2.1, rfl, rfl, hR.trth _ m1⟩, fun _ => out_eq m2⟩
  · skip
    exact ⟨_, _, f, 1, _, hs_mk (c_L_matched_x1 l hl0 D cI cZ cJ cD (q 0) qo f x y (wB cI cZ q v n pn al cs ph sc lc bs bx bg tr) (wB cI cZ q v n pn al cs ph sc lc bs bx bg tr) (c_X9_matched_x l hl0 D cI cZ (q 0) (q 1) (q 2) (q 3) (q 4) (q 5) (q 6) (q 7) (q 8) (q 9) (q 10) (q 11) (q 12) (q 13) (q 14) (q 15) (q 16) (q 17) (q 18) (q 19) (q 20) (q 21) (q 22) (q 23) v n pn al cs ph sc lc bs bx bg tr x y hc) ⟨_, rfl⟩ rfl) (Nat.le_of_ble_eq_true rfl) (Nat.le_of_ble_eq_true rfl) rfl rfl (Nat.le_of_ble_eq_true rfl) (Nat.le_of_ble_eq_true rfl), ms_mki (c_X10_matched_bad l D cI cZ (u 0) (u 1) (u 2) (u 3) (u 4) (u 5) (u 6) (u 7) (u 8) (u 9) (u 10) (u 11) (u 12) (u 13) cs pm pn n v tr.1 al th kn K S bb ff oo ot ic im dl x y hc) (Nat.le_of_ble_eq_true rfl) (Nat.le_of_ble_eq_true rfl) rfl rfl, ⟨v, n, pn, al, cs, ph, sc, lc, bs, bx, bg, tr, pm, tr.1, kn, K, S, bb, ff, oo, ot, ic, im, dl, rfl, rfl, hR⟩, fun z => absurd z (by decide)⟩
set_option maxHeartbeats 1000000 in
set_option maxRecDepth 100000 in
theorem st_falseAlarms (l : Launch) (hl0 : l.stackTraces = false) (D : va_G) (cI cZ cJ cD : ClassId) (q u : Nat → Nat) {th : Int32} {wb wm : va_W} (h : RW cI cZ q u th wb wm) (qo : Nat) (f : Nat → Int64) (x y : Int32) : ∃ (wb' wm' : va_W) (f' : Nat → Int64) (k : Int32) (r : Int32), HStep l D cI cZ cJ cD yL_falseAlarms cL_falseAlarms 5 [(0, 10, 13, 13)] [.ref (q 0), .int x, .int y, .ref qo] ([(qo, .inl (cJ, 1, .inr (.inl f)))] ++ wb) ([(qo, .inl (cJ, 1, .inr (.inl f')))] ++ wb') k ∧ MSi l D cI cZ yX10_falseAlarms cX10_falseAlarms 5 (some .int) [.ref (u 0), .int x, .int y] wm wm' r ∧ RW cI cZ q u k wb' wm' ∧ (k = 0 → f' 0 = r.toInt64) := by
  obtain ⟨v, n, pn, al, cs, ph, sc, lc, bs, bx, bg, tr, pm, tm, kn, K, S, bb, ff, oo, ot, ic, im, dl, rfl, rfl, hR⟩ := h
  have htm := hR.1.2.2.2.2.2.1
  subst htm
  have h360 := hR.al360
  by_cases hc : (0 ≤ x ∧ x ≤ 2) ∧ (0 ≤ y ∧ y ≤ 120)
  · obtain ⟨kd, hkd, rfl⟩ : ∃ kd : Nat, kd ≤ 2 ∧ x = nI kd := le_nI (by decide) hc.1
    obtain ⟨w, hw, rfl⟩ : ∃ w : Nat, w ≤ 120 ∧ y = nI w := le_nI (by decide) hc.2
    obtain ⟨m1, m2, m3, m4, m5⟩ := match_all (kd := nI kd) (w := w) (tr := tr) (im := im) hR.num h360
    exact ⟨_, _, _, 0, _, hs_mk (c_L_falseAlarms_ok l hl0 D cI cZ cJ cD (q 0) qo f (nI kd) (nI w) (wB cI cZ q v n pn al cs ph sc lc bs bx bg tr) (wB cI cZ q v n pn al cs ph sc lc bs bx bg (matL al (nI kd) w al.2.2.2 0 (tr_begin tr))) _ (c_X9_falseAlarms l D cI cZ (q 0) (q 1) (q 2) (q 3) (q 4) (q 5) (q 6) (q 7) (q 8) (q 9) (q 10) (q 11) (q 12) (q 13) (q 14) (q 15) (q 16) (q 17) (q 18) (q 19) (q 20) (q 21) (q 22) (q 23) v n pn al cs ph sc lc bs bx bg tr (nI kd) w hR.num h360 hc.1 hw) ⟨_, rfl⟩ rfl) (Nat.le_of_ble_eq_true rfl) (Nat.le_of_ble_eq_true rfl) rfl rfl (Nat.le_of_ble_eq_true rfl) (Nat.le_of_ble_eq_true rfl), ms_mki (c_X10_falseAlarms_ok l D cI cZ (u 0) (u 1) (u 2) (u 3) (u 4) (u 5) (u 6) (u 7) (u 8) (u 9) (u 10) (u 11) (u 12) (u 13) cs pm pn n v tr.1 al th kn K S bb ff oo ot ic im dl kd w h360 hR.num hw hkd hR.knd) (Nat.le_of_ble_eq_true rfl) (Nat.le_of_ble_eq_true rfl) rfl rfl, ⟨v, n, pn, al, cs, ph, sc, lc, bs, bx, bg, (matL al (nI kd) w al.2.2.2 0 (tr_begin tr)), pm, tr.1, kn, K, S, bb, ff, oo, ot, ic, (mxL al tr.1 (nI kd) w al.2.2.2 0 (offL 120 0 im) 0 0).1, (mxL al tr.1 (nI kd) w al.2.2.2 0 (offL 120 0 im) 0 0).2.1, rfl, rfl, hR.trth _ m1⟩, fun _ => out_eq m5⟩
  · skip
    exact ⟨_, _, f, 1, _, hs_mk (c_L_falseAlarms_x1 l hl0 D cI cZ cJ cD (q 0) qo f x y (wB cI cZ q v n pn al cs ph sc lc bs bx bg tr) (wB cI cZ q v n pn al cs ph sc lc bs bx bg tr) (c_X9_falseAlarms_x l hl0 D cI cZ (q 0) (q 1) (q 2) (q 3) (q 4) (q 5) (q 6) (q 7) (q 8) (q 9) (q 10) (q 11) (q 12) (q 13) (q 14) (q 15) (q 16) (q 17) (q 18) (q 19) (q 20) (q 21) (q 22) (q 23) v n pn al cs ph sc lc bs bx bg tr x y hc) ⟨_, rfl⟩ rfl) (Nat.le_of_ble_eq_true rfl) (Nat.le_of_ble_eq_true rfl) rfl rfl (Nat.le_of_ble_eq_true rfl) (Nat.le_of_ble_eq_true rfl), ms_mki (c_X10_falseAlarms_bad l D cI cZ (u 0) (u 1) (u 2) (u 3) (u 4) (u 5) (u 6) (u 7) (u 8) (u 9) (u 10) (u 11) (u 12) (u 13) cs pm pn n v tr.1 al th kn K S bb ff oo ot ic im dl x y hc) (Nat.le_of_ble_eq_true rfl) (Nat.le_of_ble_eq_true rfl) rfl rfl, ⟨v, n, pn, al, cs, ph, sc, lc, bs, bx, bg, tr, pm, tr.1, kn, K, S, bb, ff, oo, ot, ic, im, dl, rfl, rfl, hR⟩, fun z => absurd z (by decide)⟩
theorem fd_nn (x : Int32) {n : Nat} (h0 : 0 < n) (hn : n < 2 ^ 24) : FP.fIsNaN (FP.fdiv (FP.i2f x) (FP.i2f (nI n))) = false := by
  have h := fd_ok x h0 hn
  unfold vf_n32 at h
  rw [UInt32.le_iff_toNat_le, FP.Core.mask_toNat32] at h
  cases hc : FP.fIsNaN (FP.fdiv (FP.i2f x) (FP.i2f (nI n))) with
  | false => rfl
  | true =>
    have h2 := (FP.Core.isNaN_bits32 _).mp hc
    have e : (0x7f800000 : UInt32).toNat = 2139095040 := by decide
    rw [e] at h
    exact absurd h2 (Nat.not_lt.mpr h)
theorem f2d_nn {r : UInt32} (h : FP.fIsNaN r = false) : vf_n64 (FP.f2d r) ∧ FP.dcmp (FP.f2d r) (FP.f2d r) = some .eq := by
  have h1 : FP.dIsNaN (FP.f2d r) = false := by rw [FP.f2d_nan]; exact h
  refine ⟨?_, FP.Core.dcmp_self ((FP.Core.notNaN_iff _).mp h1)⟩
  show (FP.f2d r &&& 0x7fffffffffffffff) ≤ 0x7ff0000000000000
  rw [UInt64.le_iff_toNat_le, FP.Core.mask_toNat]
  refine Nat.not_lt.mp (fun z => ?_)
  have h2 := (FP.Core.isNaN_bits (FP.f2d r)).mpr z
  rw [show FP.Core.dIsNaN (FP.f2d r) = false from h1] at h2
  cases h2
set_option maxHeartbeats 1000000 in
set_option maxRecDepth 100000 in
theorem st_averageDelay (l : Launch) (hl0 : l.stackTraces = false) (D : va_G) (cI cZ cJ cD : ClassId) (q u : Nat → Nat) {th : Int32} {wb wm : va_W} (h : RW cI cZ q u th wb wm) (qo qo2 : Nat) (f : Nat → Int64) (g : Nat → UInt64) (x y : Int32) : ∃ (wb' wm' : va_W) (g' : Nat → UInt64) (k : Int32) (r : UInt32), HStep l D cI cZ cJ cD yL_averageDelay cL_averageDelay 5 [(0, 10, 13, 13), (0, 10, 17, 25)] [.ref (q 0), .int x, .int y, .ref qo] ([(qo, .inl (cD, 1, .inr (.inr (.inr (.inl g))))), (qo2, .inl (cJ, 1, .inr (.inl f)))] ++ wb) ([(qo, .inl (cD, 1, .inr (.inr (.inr (.inl g'))))), (qo2, .inl (cJ, 1, .inr (.inl f)))] ++ wb') k ∧ MSf l D cI cZ yX10_averageDelay cX10_averageDelay 4 (some .float) [.ref (u 0), .int x, .int y] wm wm' r ∧ RW cI cZ q u k wb' wm' ∧ (k = 0 → g' 0 = FP.f2d r ∧ vf_n64 (FP.f2d r) ∧ FP.dcmp (FP.f2d r) (FP.f2d r) = some .eq) := by
  obtain ⟨v, n, pn, al, cs, ph, sc, lc, bs, bx, bg, tr, pm, tm, kn, K, S, bb, ff, oo, ot, ic, im, dl, rfl, rfl, hR⟩ := h
  have htm := hR.1.2.2.2.2.2.1
  subst htm
  have h360 := hR.al360
  by_cases hc : (0 ≤ x ∧ x ≤ 2) ∧ (0 ≤ y ∧ y ≤ 120)
  · obtain ⟨kd, hkd, rfl⟩ : ∃ kd : Nat, kd ≤ 2 ∧ x = nI kd := le_nI (by decide) hc.1
    obtain ⟨w, hw, rfl⟩ : ∃ w : Nat, w ≤ 120 ∧ y = nI w := le_nI (by decide) hc.2
    obtain ⟨m1, m2, m3, m4, m5⟩ := match_all (kd := nI kd) (w := w) (tr := tr) (im := im) hR.num h360
    by_cases h9 : (mxL al tr.1 (nI kd) w al.2.2.2 0 (offL 120 0 im) 0 0).2.2 = 0
    · skip
      exact ⟨_, _, g, 2, _, hs_mk (c_L_averageDelay_x2 l hl0 D cI cZ cJ cD (q 0) qo qo2 f g (nI kd) (nI w) (wB cI cZ q v n pn al cs ph sc lc bs bx bg tr) (wB cI cZ q v n pn al cs ph sc lc bs bx bg (matL al (nI kd) w al.2.2.2 0 (tr_begin tr))) (c_X9_averageDelay_x2 l hl0 D cI cZ (q 0) (q 1) (q 2) (q 3) (q 4) (q 5) (q 6) (q 7) (q 8) (q 9) (q 10) (q 11) (q 12) (q 13) (q 14) (q 15) (q 16) (q 17) (q 18) (q 19) (q 20) (q 21) (q 22) (q 23) v n pn al cs ph sc lc bs bx bg tr (nI kd) w hR.num h360 hc.1 hw (by rw [m2, h9]; decide)) ⟨_, rfl⟩ rfl) (Nat.le_of_ble_eq_true rfl) (Nat.le_of_ble_eq_true rfl) rfl rfl (Nat.le_of_ble_eq_true rfl) (Nat.le_of_ble_eq_true rfl), ms_mkf (c_X10_averageDelay_b2 l D cI cZ (u 0) (u 1) (u 2) (u 3) (u 4) (u 5) (u 6) (u 7) (u 8) (u 9) (u 10) (u 11) (u 12) (u 13) cs pm pn n v tr.1 al th kn K S bb ff oo ot ic im dl kd w h360 hR.num hw hkd hR.knd h9) (Nat.le_of_ble_eq_true rfl) (Nat.le_of_ble_eq_true rfl) rfl rfl, ⟨v, n, pn, al, cs, ph, sc, lc, bs, bx, bg, (matL al (nI kd) w al.2.2.2 0 (tr_begin tr)), pm, tr.1, kn, K, S, bb, ff, oo, ot, ic, (mxL al tr.1 (nI kd) w al.2.2.2 0 (offL 120 0 im) 0 0).1, (mxL al tr.1 (nI kd) w al.2.2.2 0 (offL 120 0 im) 0 0).2.1, rfl, rfl, hR.trth _ m1⟩, fun z => absurd z (by decide)⟩
    · skip
      have er : FP.fdiv (FP.i2f (matL al (nI kd) w al.2.2.2 0 (tr_begin tr)).2.2.2.2) (FP.i2f (matL al (nI kd) w al.2.2.2 0 (tr_begin tr)).2.2.1) = FP.fdiv (FP.i2f (mxL al tr.1 (nI kd) w al.2.2.2 0 (offL 120 0 im) 0 0).2.1) (FP.i2f (nI (mxL al tr.1 (nI kd) w al.2.2.2 0 (offL 120 0 im) 0 0).2.2)) := by rw [m2, m3]
      have hnn := fd_nn (mxL al tr.1 (nI kd) w al.2.2.2 0 (offL 120 0 im) 0 0).2.1 (n := (mxL al tr.1 (nI kd) w al.2.2.2 0 (offL 120 0 im) 0 0).2.2) (by omega) (by omega)
      have hf := f2d_nn hnn
      have hv := fd_ok (mxL al tr.1 (nI kd) w al.2.2.2 0 (offL 120 0 im) 0 0).2.1 (n := (mxL al tr.1 (nI kd) w al.2.2.2 0 (offL 120 0 im) 0 0).2.2) (by omega) (by omega)
      have hm2 : 0 < (matL al (nI kd) w al.2.2.2 0 (tr_begin tr)).2.2.1 := by rw [m2]; exact (nI_ltI (a := 0) (by decide) (by omega)).mpr (by omega)
      rw [← er] at hf hv
      exact ⟨_, _, _, 0, _, hs_mk (c_L_averageDelay_ok l hl0 D cI cZ cJ cD (q 0) qo qo2 f g (nI kd) (nI w) (wB cI cZ q v n pn al cs ph sc lc bs bx bg tr) (wB cI cZ q v n pn al cs ph sc lc bs bx bg (matL al (nI kd) w al.2.2.2 0 (tr_begin tr))) _ hf.1 (c_X9_averageDelay l D cI cZ (q 0) (q 1) (q 2) (q 3) (q 4) (q 5) (q 6) (q 7) (q 8) (q 9) (q 10) (q 11) (q 12) (q 13) (q 14) (q 15) (q 16) (q 17) (q 18) (q 19) (q 20) (q 21) (q 22) (q 23) v n pn al cs ph sc lc bs bx bg tr (nI kd) w hR.num h360 hc.1 hw hm2 hv) ⟨_, rfl⟩ rfl) (Nat.le_of_ble_eq_true rfl) (Nat.le_of_ble_eq_true rfl) rfl rfl (Nat.le_of_ble_eq_true rfl) (Nat.le_of_ble_eq_true rfl), ms_mkf (c_X10_averageDelay_ok l D cI cZ (u 0) (u 1) (u 2) (u 3) (u 4) (u 5) (u 6) (u 7) (u 8) (u 9) (u 10) (u 11) (u 12) (u 13) cs pm pn n v tr.1 al th kn K S bb ff oo ot ic im dl kd w h360 hR.num hw hkd hR.knd (by omega) (by omega)) (Nat.le_of_ble_eq_true rfl) (Nat.le_of_ble_eq_true rfl) rfl rfl, ⟨v, n, pn, al, cs, ph, sc, lc, bs, bx, bg, (matL al (nI kd) w al.2.2.2 0 (tr_begin tr)), pm, tr.1, kn, K, S, bb, ff, oo, ot, ic, (mxL al tr.1 (nI kd) w al.2.2.2 0 (offL 120 0 im) 0 0).1, (mxL al tr.1 (nI kd) w al.2.2.2 0 (offL 120 0 im) 0 0).2.1, rfl, rfl, hR.trth _ m1⟩, fun _ => ⟨by rw [← er]; rfl, by rw [← er]; exact hf.1, by rw [← er]; exact hf.2⟩⟩
  · skip
    exact ⟨_, _, g, 1, _, hs_mk (c_L_averageDelay_x1 l hl0 D cI cZ cJ cD (q 0) qo qo2 f g x y (wB cI cZ q v n pn al cs ph sc lc bs bx bg tr) (wB cI cZ q v n pn al cs ph sc lc bs bx bg tr) (c_X9_averageDelay_x1 l hl0 D cI cZ (q 0) (q 1) (q 2) (q 3) (q 4) (q 5) (q 6) (q 7) (q 8) (q 9) (q 10) (q 11) (q 12) (q 13) (q 14) (q 15) (q 16) (q 17) (q 18) (q 19) (q 20) (q 21) (q 22) (q 23) v n pn al cs ph sc lc bs bx bg tr x y hc) ⟨_, rfl⟩ rfl) (Nat.le_of_ble_eq_true rfl) (Nat.le_of_ble_eq_true rfl) rfl rfl (Nat.le_of_ble_eq_true rfl) (Nat.le_of_ble_eq_true rfl), ms_mkf (c_X10_averageDelay_bad l D cI cZ (u 0) (u 1) (u 2) (u 3) (u 4) (u 5) (u 6) (u 7) (u 8) (u 9) (u 10) (u 11) (u 12) (u 13) cs pm pn n v tr.1 al th kn K S bb ff oo ot ic im dl x y hc) (Nat.le_of_ble_eq_true rfl) (Nat.le_of_ble_eq_true rfl) rfl rfl, ⟨v, n, pn, al, cs, ph, sc, lc, bs, bx, bg, tr, pm, tr.1, kn, K, S, bb, ff, oo, ot, ic, im, dl, rfl, rfl, hR⟩, fun z => absurd z (by decide)⟩
set_option maxHeartbeats 1000000 in
set_option maxRecDepth 100000 in
theorem st_clear (l : Launch) (D : va_G) (cI cZ : ClassId) (q u : Nat → Nat) {th : Int32} {wb wm : va_W} (h : RW cI cZ q u th wb wm) : ∃ (wb' wm' : va_W) (r : Int32), MSi l D cI cZ yX9_clear cX9_clear 2 (some .int) [.ref (q 0)] wb wb' r ∧ MSi l D cI cZ yX10_clear cX10_clear 3 (some .int) [.ref (u 0)] wm wm' r ∧ RW cI cZ q u 0 wb' wm' := by
  obtain ⟨v, n, pn, al, cs, ph, sc, lc, bs, bx, bg, tr, pm, tm, kn, K, S, bb, ff, oo, ot, ic, im, dl, rfl, rfl, hR⟩ := h
  have e9 : MSi l D cI cZ yX9_clear cX9_clear 2 (some .int) [.ref (q 0)] (wB cI cZ q v n pn al cs ph sc lc bs bx bg tr) (wB cI cZ q v 0 pn (al.1, al.2.1, al.2.2.1, 0) (cs_anew cs) (ph_anew ph) (sc.1, sc.2.1, 0) (lc.1, 0) bs (cu_off bx) (cu_off bg) (tr_off tr)) _ := ms_mki (c_X9_clear l D cI cZ (q 0) (q 1) (q 2) (q 3) (q 4) (q 5) (q 6) (q 7) (q 8) (q 9) (q 10) (q 11) (q 12) (q 13) (q 14) (q 15) (q 16) (q 17) (q 18) (q 19) (q 20) (q 21) (q 22) (q 23) v n pn al cs ph sc lc bs bx bg tr ) (Nat.le_of_ble_eq_true rfl) (Nat.le_of_ble_eq_true rfl) rfl rfl
  exact ⟨_, _, _, e9, ms_mki (c_X10_clear l D cI cZ (u 0) (u 1) (u 2) (u 3) (u 4) (u 5) (u 6) (u 7) (u 8) (u 9) (u 10) (u 11) (u 12) (u 13) cs pm pn n v tm al th kn K S bb ff oo ot ic im dl ) (Nat.le_of_ble_eq_true rfl) (Nat.le_of_ble_eq_true rfl) rfl rfl, ⟨v, 0, pn, (al.1, al.2.1, al.2.2.1, 0), cs_anew cs, ph_anew ph, (sc.1, sc.2.1, 0), (lc.1, 0), bs, cu_off bx, cu_off bg, tr_off tr, pm_anew pm, offL 120 0 tm, false, K, S, bb, ff, oo, ot, ic, im, dl, rfl, rfl, hR.clear⟩⟩
set_option maxHeartbeats 1000000 in
set_option maxRecDepth 100000 in
theorem st_size (l : Launch) (D : va_G) (cI cZ : ClassId) (q u : Nat → Nat) {th : Int32} {wb wm : va_W} (h : RW cI cZ q u th wb wm) : ∃ (wb' wm' : va_W) (r : Int32), MSi l D cI cZ yX9_size cX9_size 1 (some .int) [.ref (q 0)] wb wb' r ∧ MSi l D cI cZ yX10_size cX10_size 1 (some .int) [.ref (u 0)] wm wm' r ∧ RW cI cZ q u 0 wb' wm' := by
  obtain ⟨v, n, pn, al, cs, ph, sc, lc, bs, bx, bg, tr, pm, tm, kn, K, S, bb, ff, oo, ot, ic, im, dl, rfl, rfl, hR⟩ := h
  have e9 : MSi l D cI cZ yX9_size cX9_size 1 (some .int) [.ref (q 0)] (wB cI cZ q v n pn al cs ph sc lc bs bx bg tr) (wB cI cZ q v n pn al cs ph sc lc bs bx bg tr) _ := ms_mki (c_X9_size l D cI cZ (q 0) (q 1) (q 2) (q 3) (q 4) (q 5) (q 6) (q 7) (q 8) (q 9) (q 10) (q 11) (q 12) (q 13) (q 14) (q 15) (q 16) (q 17) (q 18) (q 19) (q 20) (q 21) (q 22) (q 23) v n pn al cs ph sc lc bs bx bg tr ) (Nat.le_of_ble_eq_true rfl) (Nat.le_of_ble_eq_true rfl) rfl rfl
  exact ⟨_, _, _, e9, ms_mki (c_X10_size l D cI cZ (u 0) (u 1) (u 2) (u 3) (u 4) (u 5) (u 6) (u 7) (u 8) (u 9) (u 10) (u 11) (u 12) (u 13) cs pm pn n v tm al th kn K S bb ff oo ot ic im dl ) (Nat.le_of_ble_eq_true rfl) (Nat.le_of_ble_eq_true rfl) rfl rfl, ⟨v, n, pn, al, cs, ph, sc, lc, bs, bx, bg, tr, pm, tm, kn, K, S, bb, ff, oo, ot, ic, im, dl, rfl, rfl, hR⟩⟩
set_option maxHeartbeats 1000000 in
set_option maxRecDepth 100000 in
theorem st_highSum (l : Launch) (D : va_G) (cI cZ : ClassId) (q u : Nat → Nat) {th : Int32} {wb wm : va_W} (h : RW cI cZ q u th wb wm) : ∃ (wb' wm' : va_W) (r : Int32), MSi l D cI cZ yX9_highSum cX9_highSum 1 (some .int) [.ref (q 0)] wb wb' r ∧ MSi l D cI cZ yX10_highSum cX10_highSum 1 (some .int) [.ref (u 0)] wm wm' r ∧ RW cI cZ q u 0 wb' wm' := by
  obtain ⟨v, n, pn, al, cs, ph, sc, lc, bs, bx, bg, tr, pm, tm, kn, K, S, bb, ff, oo, ot, ic, im, dl, rfl, rfl, hR⟩ := h
  have e9 : MSi l D cI cZ yX9_highSum cX9_highSum 1 (some .int) [.ref (q 0)] (wB cI cZ q v n pn al cs ph sc lc bs bx bg tr) (wB cI cZ q v n pn al cs ph sc lc bs bx bg tr) _ := ms_mki (c_X9_highSum l D cI cZ (q 0) (q 1) (q 2) (q 3) (q 4) (q 5) (q 6) (q 7) (q 8) (q 9) (q 10) (q 11) (q 12) (q 13) (q 14) (q 15) (q 16) (q 17) (q 18) (q 19) (q 20) (q 21) (q 22) (q 23) v n pn al cs ph sc lc bs bx bg tr ) (Nat.le_of_ble_eq_true rfl) (Nat.le_of_ble_eq_true rfl) rfl rfl
  exact ⟨_, _, _, e9, ms_mki (c_X10_highSum l D cI cZ (u 0) (u 1) (u 2) (u 3) (u 4) (u 5) (u 6) (u 7) (u 8) (u 9) (u 10) (u 11) (u 12) (u 13) cs pm pn n v tm al th kn K S bb ff oo ot ic im dl ) (Nat.le_of_ble_eq_true rfl) (Nat.le_of_ble_eq_true rfl) rfl rfl, ⟨v, n, pn, al, cs, ph, sc, lc, bs, bx, bg, tr, pm, tm, kn, K, S, bb, ff, oo, ot, ic, im, dl, rfl, rfl, hR⟩⟩
set_option maxHeartbeats 1000000 in
set_option maxRecDepth 100000 in
theorem st_lowSum (l : Launch) (D : va_G) (cI cZ : ClassId) (q u : Nat → Nat) {th : Int32} {wb wm : va_W} (h : RW cI cZ q u th wb wm) : ∃ (wb' wm' : va_W) (r : Int32), MSi l D cI cZ yX9_lowSum cX9_lowSum 1 (some .int) [.ref (q 0)] wb wb' r ∧ MSi l D cI cZ yX10_lowSum cX10_lowSum 1 (some .int) [.ref (u 0)] wm wm' r ∧ RW cI cZ q u 0 wb' wm' := by
  obtain ⟨v, n, pn, al, cs, ph, sc, lc, bs, bx, bg, tr, pm, tm, kn, K, S, bb, ff, oo, ot, ic, im, dl, rfl, rfl, hR⟩ := h
  have e9 : MSi l D cI cZ yX9_lowSum cX9_lowSum 1 (some .int) [.ref (q 0)] (wB cI cZ q v n pn al cs ph sc lc bs bx bg tr) (wB cI cZ q v n pn al cs ph sc lc bs bx bg tr) _ := ms_mki (c_X9_lowSum l D cI cZ (q 0) (q 1) (q 2) (q 3) (q 4) (q 5) (q 6) (q 7) (q 8) (q 9) (q 10) (q 11) (q 12) (q 13) (q 14) (q 15) (q 16) (q 17) (q 18) (q 19) (q 20) (q 21) (q 22) (q 23) v n pn al cs ph sc lc bs bx bg tr ) (Nat.le_of_ble_eq_true rfl) (Nat.le_of_ble_eq_true rfl) rfl rfl
  exact ⟨_, _, _, e9, ms_mki (c_X10_lowSum l D cI cZ (u 0) (u 1) (u 2) (u 3) (u 4) (u 5) (u 6) (u 7) (u 8) (u 9) (u 10) (u 11) (u 12) (u 13) cs pm pn n v tm al th kn K S bb ff oo ot ic im dl ) (Nat.le_of_ble_eq_true rfl) (Nat.le_of_ble_eq_true rfl) rfl rfl, ⟨v, n, pn, al, cs, ph, sc, lc, bs, bx, bg, tr, pm, tm, kn, K, S, bb, ff, oo, ot, ic, im, dl, rfl, rfl, hR⟩⟩
set_option maxHeartbeats 1000000 in
set_option maxRecDepth 100000 in
theorem st_alarms (l : Launch) (D : va_G) (cI cZ : ClassId) (q u : Nat → Nat) {th : Int32} {wb wm : va_W} (h : RW cI cZ q u th wb wm) : ∃ (wb' wm' : va_W) (r : Int32), MSi l D cI cZ yX9_alarms cX9_alarms 1 (some .int) [.ref (q 0)] wb wb' r ∧ MSi l D cI cZ yX10_alarms cX10_alarms 1 (some .int) [.ref (u 0)] wm wm' r ∧ RW cI cZ q u 0 wb' wm' := by
  obtain ⟨v, n, pn, al, cs, ph, sc, lc, bs, bx, bg, tr, pm, tm, kn, K, S, bb, ff, oo, ot, ic, im, dl, rfl, rfl, hR⟩ := h
  have e9 : MSi l D cI cZ yX9_alarms cX9_alarms 1 (some .int) [.ref (q 0)] (wB cI cZ q v n pn al cs ph sc lc bs bx bg tr) (wB cI cZ q v n pn al cs ph sc lc bs bx bg tr) _ := ms_mki (c_X9_alarms l D cI cZ (q 0) (q 1) (q 2) (q 3) (q 4) (q 5) (q 6) (q 7) (q 8) (q 9) (q 10) (q 11) (q 12) (q 13) (q 14) (q 15) (q 16) (q 17) (q 18) (q 19) (q 20) (q 21) (q 22) (q 23) v n pn al cs ph sc lc bs bx bg tr ) (Nat.le_of_ble_eq_true rfl) (Nat.le_of_ble_eq_true rfl) rfl rfl
  exact ⟨_, _, _, e9, ms_mki (c_X10_alarms l D cI cZ (u 0) (u 1) (u 2) (u 3) (u 4) (u 5) (u 6) (u 7) (u 8) (u 9) (u 10) (u 11) (u 12) (u 13) cs pm pn n v tm al th kn K S bb ff oo ot ic im dl ) (Nat.le_of_ble_eq_true rfl) (Nat.le_of_ble_eq_true rfl) rfl rfl, ⟨v, n, pn, al, cs, ph, sc, lc, bs, bx, bg, tr, pm, tm, kn, K, S, bb, ff, oo, ot, ic, im, dl, rfl, rfl, hR⟩⟩
set_option maxHeartbeats 1000000 in
set_option maxRecDepth 100000 in
theorem st_testSum (l : Launch) (D : va_G) (cI cZ : ClassId) (q u : Nat → Nat) {th : Int32} {wb wm : va_W} (h : RW cI cZ q u th wb wm) : ∃ (wb' wm' : va_W) (r : Int32), MSi l D cI cZ yX9_testSum cX9_testSum 1 (some .int) [.ref (q 0)] wb wb' r ∧ MSi l D cI cZ yX10_testSum cX10_testSum 1 (some .int) [.ref (u 0)] wm wm' r ∧ RW cI cZ q u 0 wb' wm' := by
  obtain ⟨v, n, pn, al, cs, ph, sc, lc, bs, bx, bg, tr, pm, tm, kn, K, S, bb, ff, oo, ot, ic, im, dl, rfl, rfl, hR⟩ := h
  have e1 := hR.1.2.2.2.1.2.2.2.2.2.1
  have e2 := hR.1.2.2.2.1.2.2.2.2.2.2.1
  have e9 : MSi l D cI cZ yX9_testSum cX9_testSum 1 (some .int) [.ref (q 0)] (wB cI cZ q v n pn al cs ph sc lc bs bx bg tr) (wB cI cZ q v n pn al cs ph sc lc bs bx bg tr) _ := ms_mki (c_X9_testSum l D cI cZ (q 0) (q 1) (q 2) (q 3) (q 4) (q 5) (q 6) (q 7) (q 8) (q 9) (q 10) (q 11) (q 12) (q 13) (q 14) (q 15) (q 16) (q 17) (q 18) (q 19) (q 20) (q 21) (q 22) (q 23) v n pn al cs ph sc lc bs bx bg tr ) (Nat.le_of_ble_eq_true rfl) (Nat.le_of_ble_eq_true rfl) rfl rfl
  rw [e1, e2] at e9
  exact ⟨_, _, _, e9, ms_mki (c_X10_testSum l D cI cZ (u 0) (u 1) (u 2) (u 3) (u 4) (u 5) (u 6) (u 7) (u 8) (u 9) (u 10) (u 11) (u 12) (u 13) cs pm pn n v tm al th kn K S bb ff oo ot ic im dl ) (Nat.le_of_ble_eq_true rfl) (Nat.le_of_ble_eq_true rfl) rfl rfl, ⟨v, n, pn, al, cs, ph, sc, lc, bs, bx, bg, tr, pm, tm, kn, K, S, bb, ff, oo, ot, ic, im, dl, rfl, rfl, hR⟩⟩
set_option maxHeartbeats 1000000 in
set_option maxRecDepth 100000 in
theorem st_changes (l : Launch) (D : va_G) (cI cZ : ClassId) (q u : Nat → Nat) {th : Int32} {wb wm : va_W} (h : RW cI cZ q u th wb wm) : ∃ (wb' wm' : va_W) (r : Int32), MSi l D cI cZ yX9_changes cX9_changes 1 (some .int) [.ref (q 0)] wb wb' r ∧ MSi l D cI cZ yX10_changes cX10_changes 1 (some .int) [.ref (u 0)] wm wm' r ∧ RW cI cZ q u 0 wb' wm' := by
  obtain ⟨v, n, pn, al, cs, ph, sc, lc, bs, bx, bg, tr, pm, tm, kn, K, S, bb, ff, oo, ot, ic, im, dl, rfl, rfl, hR⟩ := h
  have h120 := hR.1.1
  have h1 := hR.2.1.1
  obtain ⟨hR1, hs, bs0, cu0, hb⟩ := hR.bestx bs
  have hR2 := hR1.wg S
  have hk := hR2.kk hs
  obtain ⟨g1, g2, g3⟩ := best_all (pn := pn) h120 hk.1 bs0 cu0 bb ff
  rw [← hb] at g1 g2 g3
  have e9 : MSi l D cI cZ yX9_changes cX9_changes 1 (some .int) [.ref (q 0)] (wB cI cZ q v n pn al cs ph sc lc bs bx bg tr) (wB cI cZ q v n pn al cs ph (if bx.2.2.2 = true then sc else (sc_learn v n sc)) lc (if bx.2.2.2 = true then bs else bfL (sc_learn v n sc).1 n pn n bs) (if bx.2.2.2 = true then bx else cu_set (sc_learn v n sc).1 n pn (chT (bfL (sc_learn v n sc).1 n pn n bs) n bx)) bg tr) _ := ms_mki (c_X9_changes l D cI cZ (q 0) (q 1) (q 2) (q 3) (q 4) (q 5) (q 6) (q 7) (q 8) (q 9) (q 10) (q 11) (q 12) (q 13) (q 14) (q 15) (q 16) (q 17) (q 18) (q 19) (q 20) (q 21) (q 22) (q 23) v n pn al cs ph sc lc bs bx bg tr h1 h120) (Nat.le_of_ble_eq_true rfl) (Nat.le_of_ble_eq_true rfl) rfl rfl
  rw [g1] at e9
  exact ⟨_, _, _, e9, ms_mki (c_X10_changes l D cI cZ (u 0) (u 1) (u 2) (u 3) (u 4) (u 5) (u 6) (u 7) (u 8) (u 9) (u 10) (u 11) (u 12) (u 13) cs pm pn n v tm al th kn K S bb ff oo ot ic im dl h120) (Nat.le_of_ble_eq_true rfl) (Nat.le_of_ble_eq_true rfl) rfl rfl, ⟨v, n, pn, al, cs, ph, (if bx.2.2.2 = true then sc else (sc_learn v n sc)), lc, (if bx.2.2.2 = true then bs else bfL (sc_learn v n sc).1 n pn n bs), (if bx.2.2.2 = true then bx else cu_set (sc_learn v n sc).1 n pn (chT (bfL (sc_learn v n sc).1 n pn n bs) n bx)), bg, tr, pm, tm, true, (wgR kn v n K S).1, (wgR kn v n K S).2, (cutR (wgR kn v n K S).1 n pn bb ff).1, (cutR (wgR kn v n K S).1 n pn bb ff).2, oo, ot, ic, im, dl, rfl, rfl, hR2⟩⟩
set_option maxHeartbeats 1000000 in
set_option maxRecDepth 100000 in
theorem st_bestCost (l : Launch) (D : va_G) (cI cZ : ClassId) (q u : Nat → Nat) {th : Int32} {wb wm : va_W} (h : RW cI cZ q u th wb wm) : ∃ (wb' wm' : va_W) (r : Int32), MSi l D cI cZ yX9_bestCost cX9_bestCost 1 (some .int) [.ref (q 0)] wb wb' r ∧ MSi l D cI cZ yX10_bestCost cX10_bestCost 1 (some .int) [.ref (u 0)] wm wm' r ∧ RW cI cZ q u 0 wb' wm' := by
  obtain ⟨v, n, pn, al, cs, ph, sc, lc, bs, bx, bg, tr, pm, tm, kn, K, S, bb, ff, oo, ot, ic, im, dl, rfl, rfl, hR⟩ := h
  have h120 := hR.1.1
  have h1 := hR.2.1.1
  obtain ⟨hR1, hs, bs0, cu0, hb⟩ := hR.bestx bs
  have hR2 := hR1.wg S
  have hk := hR2.kk hs
  obtain ⟨g1, g2, g3⟩ := best_all (pn := pn) h120 hk.1 bs0 cu0 bb ff
  rw [← hb] at g1 g2 g3
  have e9 : MSi l D cI cZ yX9_bestCost cX9_bestCost 1 (some .int) [.ref (q 0)] (wB cI cZ q v n pn al cs ph sc lc bs bx bg tr) (wB cI cZ q v n pn al cs ph (if bx.2.2.2 = true then sc else (sc_learn v n sc)) lc (if bx.2.2.2 = true then bs else bfL (sc_learn v n sc).1 n pn n bs) (if bx.2.2.2 = true then bx else cu_set (sc_learn v n sc).1 n pn (chT (bfL (sc_learn v n sc).1 n pn n bs) n bx)) bg tr) _ := ms_mki (c_X9_bestCost l D cI cZ (q 0) (q 1) (q 2) (q 3) (q 4) (q 5) (q 6) (q 7) (q 8) (q 9) (q 10) (q 11) (q 12) (q 13) (q 14) (q 15) (q 16) (q 17) (q 18) (q 19) (q 20) (q 21) (q 22) (q 23) v n pn al cs ph sc lc bs bx bg tr h1 h120) (Nat.le_of_ble_eq_true rfl) (Nat.le_of_ble_eq_true rfl) rfl rfl
  rw [g2] at e9
  exact ⟨_, _, _, e9, ms_mki (c_X10_bestCost l D cI cZ (u 0) (u 1) (u 2) (u 3) (u 4) (u 5) (u 6) (u 7) (u 8) (u 9) (u 10) (u 11) (u 12) (u 13) cs pm pn n v tm al th kn K S bb ff oo ot ic im dl h120) (Nat.le_of_ble_eq_true rfl) (Nat.le_of_ble_eq_true rfl) rfl rfl, ⟨v, n, pn, al, cs, ph, (if bx.2.2.2 = true then sc else (sc_learn v n sc)), lc, (if bx.2.2.2 = true then bs else bfL (sc_learn v n sc).1 n pn n bs), (if bx.2.2.2 = true then bx else cu_set (sc_learn v n sc).1 n pn (chT (bfL (sc_learn v n sc).1 n pn n bs) n bx)), bg, tr, pm, tm, true, (wgR kn v n K S).1, (wgR kn v n K S).2, (cutR (wgR kn v n K S).1 n pn bb ff).1, (cutR (wgR kn v n K S).1 n pn bb ff).2, oo, ot, ic, im, dl, rfl, rfl, hR2⟩⟩
set_option maxHeartbeats 1000000 in
set_option maxRecDepth 100000 in
theorem st_greedyChanges (l : Launch) (D : va_G) (cI cZ : ClassId) (q u : Nat → Nat) {th : Int32} {wb wm : va_W} (h : RW cI cZ q u th wb wm) : ∃ (wb' wm' : va_W) (r : Int32), MSi l D cI cZ yX9_greedyChanges cX9_greedyChanges 1 (some .int) [.ref (q 0)] wb wb' r ∧ MSi l D cI cZ yX10_greedyChanges cX10_greedyChanges 1 (some .int) [.ref (u 0)] wm wm' r ∧ RW cI cZ q u 0 wb' wm' := by
  obtain ⟨v, n, pn, al, cs, ph, sc, lc, bs, bx, bg, tr, pm, tm, kn, K, S, bb, ff, oo, ot, ic, im, dl, rfl, rfl, hR⟩ := h
  have h120 := hR.1.1
  have h1 := hR.2.1.1
  obtain ⟨hR1, hs, cu0, hb⟩ := hR.greedyx
  have hR2 := hR1.wg S
  have hk := hR2.kk hs
  obtain ⟨g1, g2, g3⟩ := greedy_all (pn := pn) h120 hk.1 cu0 ic
  rw [← hb] at g1 g2 g3
  have e9 : MSi l D cI cZ yX9_greedyChanges cX9_greedyChanges 1 (some .int) [.ref (q 0)] (wB cI cZ q v n pn al cs ph sc lc bs bx bg tr) (wB cI cZ q v n pn al cs ph (if bg.2.2.2 = true then sc else (sc_learn v n sc)) lc bs bx (if bg.2.2.2 = true then bg else cu_set (sc_learn v n sc).1 n pn (ggT (sc_learn v n sc).1 n pn bg)) tr) _ := ms_mki (c_X9_greedyChanges l D cI cZ (q 0) (q 1) (q 2) (q 3) (q 4) (q 5) (q 6) (q 7) (q 8) (q 9) (q 10) (q 11) (q 12) (q 13) (q 14) (q 15) (q 16) (q 17) (q 18) (q 19) (q 20) (q 21) (q 22) (q 23) v n pn al cs ph sc lc bs bx bg tr h1 h120) (Nat.le_of_ble_eq_true rfl) (Nat.le_of_ble_eq_true rfl) rfl rfl
  rw [g1] at e9
  exact ⟨_, _, _, e9, ms_mki (c_X10_greedyChanges l D cI cZ (u 0) (u 1) (u 2) (u 3) (u 4) (u 5) (u 6) (u 7) (u 8) (u 9) (u 10) (u 11) (u 12) (u 13) cs pm pn n v tm al th kn K S bb ff oo ot ic im dl h120) (Nat.le_of_ble_eq_true rfl) (Nat.le_of_ble_eq_true rfl) rfl rfl, ⟨v, n, pn, al, cs, ph, (if bg.2.2.2 = true then sc else (sc_learn v n sc)), lc, bs, bx, (if bg.2.2.2 = true then bg else cu_set (sc_learn v n sc).1 n pn (ggT (sc_learn v n sc).1 n pn bg)), tr, pm, tm, true, (wgR kn v n K S).1, (wgR kn v n K S).2, bb, ff, oo, ot, (goT (wgR kn v n K S).1 n pn ic).1, im, dl, rfl, rfl, hR2⟩⟩
set_option maxHeartbeats 1000000 in
set_option maxRecDepth 100000 in
theorem st_greedyCost (l : Launch) (D : va_G) (cI cZ : ClassId) (q u : Nat → Nat) {th : Int32} {wb wm : va_W} (h : RW cI cZ q u th wb wm) : ∃ (wb' wm' : va_W) (r : Int32), MSi l D cI cZ yX9_greedyCost cX9_greedyCost 1 (some .int) [.ref (q 0)] wb wb' r ∧ MSi l D cI cZ yX10_greedyCost cX10_greedyCost 1 (some .int) [.ref (u 0)] wm wm' r ∧ RW cI cZ q u 0 wb' wm' := by
  obtain ⟨v, n, pn, al, cs, ph, sc, lc, bs, bx, bg, tr, pm, tm, kn, K, S, bb, ff, oo, ot, ic, im, dl, rfl, rfl, hR⟩ := h
  have h120 := hR.1.1
  have h1 := hR.2.1.1
  obtain ⟨hR1, hs, cu0, hb⟩ := hR.greedyx
  have hR2 := hR1.wg S
  have hk := hR2.kk hs
  obtain ⟨g1, g2, g3⟩ := greedy_all (pn := pn) h120 hk.1 cu0 ic
  rw [← hb] at g1 g2 g3
  have e9 : MSi l D cI cZ yX9_greedyCost cX9_greedyCost 1 (some .int) [.ref (q 0)] (wB cI cZ q v n pn al cs ph sc lc bs bx bg tr) (wB cI cZ q v n pn al cs ph (if bg.2.2.2 = true then sc else (sc_learn v n sc)) lc bs bx (if bg.2.2.2 = true then bg else cu_set (sc_learn v n sc).1 n pn (ggT (sc_learn v n sc).1 n pn bg)) tr) _ := ms_mki (c_X9_greedyCost l D cI cZ (q 0) (q 1) (q 2) (q 3) (q 4) (q 5) (q 6) (q 7) (q 8) (q 9) (q 10) (q 11) (q 12) (q 13) (q 14) (q 15) (q 16) (q 17) (q 18) (q 19) (q 20) (q 21) (q 22) (q 23) v n pn al cs ph sc lc bs bx bg tr h1 h120) (Nat.le_of_ble_eq_true rfl) (Nat.le_of_ble_eq_true rfl) rfl rfl
  rw [g2] at e9
  exact ⟨_, _, _, e9, ms_mki (c_X10_greedyCost l D cI cZ (u 0) (u 1) (u 2) (u 3) (u 4) (u 5) (u 6) (u 7) (u 8) (u 9) (u 10) (u 11) (u 12) (u 13) cs pm pn n v tm al th kn K S bb ff oo ot ic im dl h120) (Nat.le_of_ble_eq_true rfl) (Nat.le_of_ble_eq_true rfl) rfl rfl, ⟨v, n, pn, al, cs, ph, (if bg.2.2.2 = true then sc else (sc_learn v n sc)), lc, bs, bx, (if bg.2.2.2 = true then bg else cu_set (sc_learn v n sc).1 n pn (ggT (sc_learn v n sc).1 n pn bg)), tr, pm, tm, true, (wgR kn v n K S).1, (wgR kn v n K S).2, bb, ff, oo, ot, (goT (wgR kn v n K S).1 n pn ic).1, im, dl, rfl, rfl, hR2⟩⟩
theorem st_thrown (l : Launch) (D : va_G) (cI cZ : ClassId) (q u : Nat → Nat) {th : Int32} {wb wm : va_W} (h : RW cI cZ q u th wb wm) : MSi l D cI cZ yX10_thrown cX10_thrown 1 (some .int) [.ref (u 0)] wm wm th := by
  obtain ⟨v, n, pn, al, cs, ph, sc, lc, bs, bx, bg, tr, pm, tm, kn, K, S, bb, ff, oo, ot, ic, im, dl, rfl, rfl, hR⟩ := h
  exact ms_mki (c_X10_thrown l D cI cZ (u 0) (u 1) (u 2) (u 3) (u 4) (u 5) (u 6) (u 7) (u 8) (u 9) (u 10) (u 11) (u 12) (u 13) cs pm pn n v tm al th kn K S bb ff oo ot ic im dl) (Nat.le_of_ble_eq_true rfl) (Nat.le_of_ble_eq_true rfl) rfl rfl
