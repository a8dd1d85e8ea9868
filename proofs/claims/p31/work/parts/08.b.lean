/-! the finder's world hidden behind what the law sees of it; a step for each call -/
def wB (cI cZ : ClassId) (q : Nat → Nat) (v : Nat → Int32) (n : Nat) (pn : Int32) (al : AlS) (cs : CsS) (ph : PhS) (sc : ScS) (lc : LcS) (bs : BsS) (bx bg : CuS) (tr : TrS) : va_W := [((q 0), .inr (8, [.ref (q 1), .ref (q 2), .ref (q 6), .ref (q 7), .ref (q 8), .ref (q 11), .ref (q 13), .ref (q 17), .ref (q 19), .ref (q 21), .int (nI n), .int pn])), ((q 1), .inl (cI, 120, .inl v)), ((q 2), .inr (0, [.ref (q 3), .ref (q 4), .ref (q 5), .int (nI al.2.2.2)])), ((q 3), .inl (cI, 360, .inl (nIf al.1))), ((q 4), .inl (cI, 360, .inl (nIf al.2.1))), ((q 5), .inl (cI, 360, .inl (nIf al.2.2.1))), ((q 6), .inr (2, [.int cs.1, .int cs.2.1, .int cs.2.2.1, .int cs.2.2.2.1, .int cs.2.2.2.2.1, .int (nI cs.2.2.2.2.2.1), .int (nI cs.2.2.2.2.2.2)])), ((q 7), .inr (5, [.int ph.1, .int ph.2.1, .int ph.2.2.1, .int (nI ph.2.2.2.1), .int ph.2.2.2.2.1, .int ph.2.2.2.2.2.1, .int ph.2.2.2.2.2.2.1, .int (nI ph.2.2.2.2.2.2.2)])), ((q 8), .inr (6, [.ref (q 9), .ref (q 10), .int (nI sc.2.2)])), ((q 9), .inl (cI, 7260, .inl sc.1)), ((q 10), .inl (cI, 120, .inl sc.2.1)), ((q 11), .inr (4, [.ref (q 12), .int (nI lc.2)])), ((q 12), .inl (cI, 7260, .inl lc.1)), ((q 13), .inr (1, [.ref (q 14), .ref (q 15), .ref (q 16)])), ((q 14), .inl (cI, 120, .inl bs.1)), ((q 15), .inl (cI, 120, .inl bs.2.1)), ((q 16), .inl (cI, 120, .inl bs.2.2)), ((q 17), .inr (3, [.ref (q 18), .int bx.2.1, .int bx.2.2.1, .int (zb bx.2.2.2)])), ((q 18), .inl (cZ, 120, .inl (zbf bx.1))), ((q 19), .inr (3, [.ref (q 20), .int bg.2.1, .int bg.2.2.1, .int (zb bg.2.2.2)])), ((q 20), .inl (cZ, 120, .inl (zbf bg.1))), ((q 21), .inr (7, [.ref (q 22), .ref (q 23), .int tr.2.2.1, .int tr.2.2.2.1, .int tr.2.2.2.2])), ((q 22), .inl (cZ, 120, .inl (zbf tr.1))), ((q 23), .inl (cZ, 120, .inl (zbf tr.2.1)))]
def PW (cI cZ : ClassId) (q : Nat → Nat) (v : Nat → Int32) (n : Nat) (pn : Int32) (al : AlS) (cs : CsS) (ph : PhS) (tm : Nat → Bool) (bx bg : CuS) (wb : va_W) : Prop := PV v n pn al cs ph tm ∧ ∃ (sc : ScS) (lc : LcS) (bs : BsS) (tr : TrS), wb = wB cI cZ q v n pn al cs ph sc lc bs bx bg tr ∧ tr.1 = tm ∧ PC v n pn sc lc bx bg
def adB (q : Nat → Nat) : List Nat := [q 0, q 1, q 2, q 3, q 4, q 5, q 6, q 7, q 8, q 9, q 10, q 11, q 12, q 13, q 14, q 15, q 16, q 17, q 18, q 19, q 20, q 21, q 22, q 23]
theorem PW.ads {cI cZ : ClassId} {q : Nat → Nat} {v : Nat → Int32} {n : Nat} {pn : Int32} {al : AlS} {cs : CsS} {ph : PhS} {tm : Nat → Bool} {bx bg : CuS} {wb : va_W} (h : PW cI cZ q v n pn al cs ph tm bx bg wb) : wb.map (·.1) = adB q := by
  obtain ⟨hv, sc, lc, bs, tr, rfl, ht, hc⟩ := h
  rfl
theorem PW.hd {cI cZ : ClassId} {q : Nat → Nat} {v : Nat → Int32} {n : Nat} {pn : Int32} {al : AlS} {cs : CsS} {ph : PhS} {tm : Nat → Bool} {bx bg : CuS} {wb : va_W} (h : PW cI cZ q v n pn al cs ph tm bx bg wb) : ∃ fs, wb[0]? = some (q 0, .inr (8, fs)) := by
  obtain ⟨hv, sc, lc, bs, tr, rfl, ht, hc⟩ := h
  exact ⟨_, rfl⟩
def MSi (l : Launch) (D : va_G) (cI cZ : ClassId) (y : MethodName) (bytes : ByteArray) (maxL : Nat) (ret : Option FieldType) (av : List Value) (w0 w1 : va_W) (r : Int32) : Prop :=
  ∃ rm : Room, rm.frames + 1 ≤ 10 ∧ 8 + (maxL + 11) + rm.locals ≤ 200 ∧ rm.cells = 0 ∧ rm.slots = 0 ∧ Ci l y (aw y bytes maxL ret) rm D cI cZ av w0 w1 r
theorem ms_mki {l : Launch} {D : va_G} {cI cZ : ClassId} {y : MethodName} {bytes : ByteArray} {maxL : Nat} {ret : Option FieldType} {av : List Value} {w0 w1 : va_W} {r : Int32} {rm : Room} (h : Ci l y (aw y bytes maxL ret) rm D cI cZ av w0 w1 r) (h1 : rm.frames + 1 ≤ 10) (h2 : 8 + (maxL + 11) + rm.locals ≤ 200) (h3 : rm.cells = 0) (h4 : rm.slots = 0) : MSi l D cI cZ y bytes maxL ret av w0 w1 r := ⟨rm, h1, h2, h3, h4, h⟩
def HSi (l : Launch) (D : va_G) (cI cZ : ClassId) (y : MethodName) (bytes : ByteArray) (maxL : Nat) (hh : List (Nat × Nat × Nat × Nat)) (av : List Value) (w0 w1 : va_W) (r : Int32) (mc ms : Nat) : Prop :=
  ∃ rm : Room, rm.frames + 1 ≤ 10 ∧ 8 + (maxL + 11) + rm.locals ≤ 200 ∧ rm.cells = mc ∧ rm.slots = ms ∧ Ch l y (awh y bytes maxL (some .int) hh) rm D cI cZ av w0 w1 r mc ms
theorem mk_HSi {l : Launch} {D : va_G} {cI cZ : ClassId} {y : MethodName} {bytes : ByteArray} {maxL : Nat} {hh : List (Nat × Nat × Nat × Nat)} {av : List Value} {w0 w1 : va_W} {r : Int32} {mc ms : Nat} {rm : Room} (h : Ch l y (awh y bytes maxL (some .int) hh) rm D cI cZ av w0 w1 r mc ms) (h1 : rm.frames + 1 ≤ 10) (h2 : 8 + (maxL + 11) + rm.locals ≤ 200) (h3 : rm.cells = mc) (h4 : rm.slots = ms) : HSi l D cI cZ y bytes maxL hh av w0 w1 r mc ms := ⟨rm, h1, h2, h3, h4, h⟩
def HSf (l : Launch) (D : va_G) (cI cZ : ClassId) (y : MethodName) (bytes : ByteArray) (maxL : Nat) (hh : List (Nat × Nat × Nat × Nat)) (av : List Value) (w0 w1 : va_W) (r : UInt32) (mc ms : Nat) : Prop :=
  ∃ rm : Room, rm.frames + 1 ≤ 10 ∧ 8 + (maxL + 11) + rm.locals ≤ 200 ∧ rm.cells = mc ∧ rm.slots = ms ∧ Chf l y (awh y bytes maxL (some .float) hh) rm D cI cZ av w0 w1 r mc ms
theorem mk_HSf {l : Launch} {D : va_G} {cI cZ : ClassId} {y : MethodName} {bytes : ByteArray} {maxL : Nat} {hh : List (Nat × Nat × Nat × Nat)} {av : List Value} {w0 w1 : va_W} {r : UInt32} {mc ms : Nat} {rm : Room} (h : Chf l y (awh y bytes maxL (some .float) hh) rm D cI cZ av w0 w1 r mc ms) (h1 : rm.frames + 1 ≤ 10) (h2 : 8 + (maxL + 11) + rm.locals ≤ 200) (h3 : rm.cells = mc) (h4 : rm.slots = ms) : HSf l D cI cZ y bytes maxL hh av w0 w1 r mc ms := ⟨rm, h1, h2, h3, h4, h⟩
set_option maxHeartbeats 1000000 in
set_option maxRecDepth 100000 in
theorem sp_size (l : Launch) (D : va_G) (cI cZ : ClassId) (q : Nat → Nat) {v : Nat → Int32} {n : Nat} {pn : Int32} {al : AlS} {cs : CsS} {ph : PhS} {tm : Nat → Bool} {bx bg : CuS} {wb : va_W} (h : PW cI cZ q v n pn al cs ph tm bx bg wb) : MSi l D cI cZ yX9_size cX9_size 1 (some .int) [.ref (q 0)] wb wb (nI n) := by
  obtain ⟨hv, sc, lc, bs, tr, rfl, rfl, hc⟩ := h
  exact ms_mki (c_X9_size l D cI cZ (q 0) (q 1) (q 2) (q 3) (q 4) (q 5) (q 6) (q 7) (q 8) (q 9) (q 10) (q 11) (q 12) (q 13) (q 14) (q 15) (q 16) (q 17) (q 18) (q 19) (q 20) (q 21) (q 22) (q 23) v n pn al cs ph sc lc bs bx bg tr ) (Nat.le_of_ble_eq_true rfl) (Nat.le_of_ble_eq_true rfl) rfl rfl
set_option maxHeartbeats 1000000 in
set_option maxRecDepth 100000 in
theorem sp_highSum (l : Launch) (D : va_G) (cI cZ : ClassId) (q : Nat → Nat) {v : Nat → Int32} {n : Nat} {pn : Int32} {al : AlS} {cs : CsS} {ph : PhS} {tm : Nat → Bool} {bx bg : CuS} {wb : va_W} (h : PW cI cZ q v n pn al cs ph tm bx bg wb) : MSi l D cI cZ yX9_highSum cX9_highSum 1 (some .int) [.ref (q 0)] wb wb cs.2.2.2.1 := by
  obtain ⟨hv, sc, lc, bs, tr, rfl, rfl, hc⟩ := h
  exact ms_mki (c_X9_highSum l D cI cZ (q 0) (q 1) (q 2) (q 3) (q 4) (q 5) (q 6) (q 7) (q 8) (q 9) (q 10) (q 11) (q 12) (q 13) (q 14) (q 15) (q 16) (q 17) (q 18) (q 19) (q 20) (q 21) (q 22) (q 23) v n pn al cs ph sc lc bs bx bg tr ) (Nat.le_of_ble_eq_true rfl) (Nat.le_of_ble_eq_true rfl) rfl rfl
set_option maxHeartbeats 1000000 in
set_option maxRecDepth 100000 in
theorem sp_lowSum (l : Launch) (D : va_G) (cI cZ : ClassId) (q : Nat → Nat) {v : Nat → Int32} {n : Nat} {pn : Int32} {al : AlS} {cs : CsS} {ph : PhS} {tm : Nat → Bool} {bx bg : CuS} {wb : va_W} (h : PW cI cZ q v n pn al cs ph tm bx bg wb) : MSi l D cI cZ yX9_lowSum cX9_lowSum 1 (some .int) [.ref (q 0)] wb wb cs.2.2.2.2.1 := by
  obtain ⟨hv, sc, lc, bs, tr, rfl, rfl, hc⟩ := h
  exact ms_mki (c_X9_lowSum l D cI cZ (q 0) (q 1) (q 2) (q 3) (q 4) (q 5) (q 6) (q 7) (q 8) (q 9) (q 10) (q 11) (q 12) (q 13) (q 14) (q 15) (q 16) (q 17) (q 18) (q 19) (q 20) (q 21) (q 22) (q 23) v n pn al cs ph sc lc bs bx bg tr ) (Nat.le_of_ble_eq_true rfl) (Nat.le_of_ble_eq_true rfl) rfl rfl
set_option maxHeartbeats 1000000 in
set_option maxRecDepth 100000 in
theorem sp_testSum (l : Launch) (D : va_G) (cI cZ : ClassId) (q : Nat → Nat) {v : Nat → Int32} {n : Nat} {pn : Int32} {al : AlS} {cs : CsS} {ph : PhS} {tm : Nat → Bool} {bx bg : CuS} {wb : va_W} (h : PW cI cZ q v n pn al cs ph tm bx bg wb) : MSi l D cI cZ yX9_testSum cX9_testSum 1 (some .int) [.ref (q 0)] wb wb (ph.2.2.2.2.2.1 - ph.2.2.2.2.2.2.1) := by
  obtain ⟨hv, sc, lc, bs, tr, rfl, rfl, hc⟩ := h
  exact ms_mki (c_X9_testSum l D cI cZ (q 0) (q 1) (q 2) (q 3) (q 4) (q 5) (q 6) (q 7) (q 8) (q 9) (q 10) (q 11) (q 12) (q 13) (q 14) (q 15) (q 16) (q 17) (q 18) (q 19) (q 20) (q 21) (q 22) (q 23) v n pn al cs ph sc lc bs bx bg tr ) (Nat.le_of_ble_eq_true rfl) (Nat.le_of_ble_eq_true rfl) rfl rfl
set_option maxHeartbeats 1000000 in
set_option maxRecDepth 100000 in
theorem sp_alarms (l : Launch) (D : va_G) (cI cZ : ClassId) (q : Nat → Nat) {v : Nat → Int32} {n : Nat} {pn : Int32} {al : AlS} {cs : CsS} {ph : PhS} {tm : Nat → Bool} {bx bg : CuS} {wb : va_W} (h : PW cI cZ q v n pn al cs ph tm bx bg wb) : MSi l D cI cZ yX9_alarms cX9_alarms 1 (some .int) [.ref (q 0)] wb wb (nI al.2.2.2) := by
  obtain ⟨hv, sc, lc, bs, tr, rfl, rfl, hc⟩ := h
  exact ms_mki (c_X9_alarms l D cI cZ (q 0) (q 1) (q 2) (q 3) (q 4) (q 5) (q 6) (q 7) (q 8) (q 9) (q 10) (q 11) (q 12) (q 13) (q 14) (q 15) (q 16) (q 17) (q 18) (q 19) (q 20) (q 21) (q 22) (q 23) v n pn al cs ph sc lc bs bx bg tr ) (Nat.le_of_ble_eq_true rfl) (Nat.le_of_ble_eq_true rfl) rfl rfl
set_option maxHeartbeats 1000000 in
set_option maxRecDepth 100000 in
theorem sp_value (l : Launch) (D : va_G) (cI cZ : ClassId) (q : Nat → Nat) {v : Nat → Int32} {n : Nat} {pn : Int32} {al : AlS} {cs : CsS} {ph : PhS} {tm : Nat → Bool} {bx bg : CuS} {wb : va_W} (h : PW cI cZ q v n pn al cs ph tm bx bg wb) {nu : Nat} (h1 : nu < n) : MSi l D cI cZ yX9_value cX9_value 2 (some .int) [.ref (q 0), .int (nI nu)] wb wb (v nu) := by
  obtain ⟨hv, sc, lc, bs, tr, rfl, rfl, hc⟩ := h
  exact ms_mki (c_X9_value l D cI cZ (q 0) (q 1) (q 2) (q 3) (q 4) (q 5) (q 6) (q 7) (q 8) (q 9) (q 10) (q 11) (q 12) (q 13) (q 14) (q 15) (q 16) (q 17) (q 18) (q 19) (q 20) (q 21) (q 22) (q 23) v n pn al cs ph sc lc bs bx bg tr nu h1 hv.1) (Nat.le_of_ble_eq_true rfl) (Nat.le_of_ble_eq_true rfl) rfl rfl
set_option maxHeartbeats 1000000 in
set_option maxRecDepth 100000 in
theorem sp_alarmKind (l : Launch) (D : va_G) (cI cZ : ClassId) (q : Nat → Nat) {v : Nat → Int32} {n : Nat} {pn : Int32} {al : AlS} {cs : CsS} {ph : PhS} {tm : Nat → Bool} {bx bg : CuS} {wb : va_W} (h : PW cI cZ q v n pn al cs ph tm bx bg wb) {j : Nat} (h1 : j < al.2.2.2) : MSi l D cI cZ yX9_alarmKind cX9_alarmKind 2 (some .int) [.ref (q 0), .int (nI j)] wb wb (nI (al.1 j)) := by
  obtain ⟨hv, sc, lc, bs, tr, rfl, rfl, hc⟩ := h
  exact ms_mki (c_X9_alarmKind l D cI cZ (q 0) (q 1) (q 2) (q 3) (q 4) (q 5) (q 6) (q 7) (q 8) (q 9) (q 10) (q 11) (q 12) (q 13) (q 14) (q 15) (q 16) (q 17) (q 18) (q 19) (q 20) (q 21) (q 22) (q 23) v n pn al cs ph sc lc bs bx bg tr j h1 hv.al360) (Nat.le_of_ble_eq_true rfl) (Nat.le_of_ble_eq_true rfl) rfl rfl
set_option maxHeartbeats 1000000 in
set_option maxRecDepth 100000 in
theorem sp_alarmNumber (l : Launch) (D : va_G) (cI cZ : ClassId) (q : Nat → Nat) {v : Nat → Int32} {n : Nat} {pn : Int32} {al : AlS} {cs : CsS} {ph : PhS} {tm : Nat → Bool} {bx bg : CuS} {wb : va_W} (h : PW cI cZ q v n pn al cs ph tm bx bg wb) {j : Nat} (h1 : j < al.2.2.2) : MSi l D cI cZ yX9_alarmNumber cX9_alarmNumber 2 (some .int) [.ref (q 0), .int (nI j)] wb wb (nI (al.2.1 j)) := by
  obtain ⟨hv, sc, lc, bs, tr, rfl, rfl, hc⟩ := h
  exact ms_mki (c_X9_alarmNumber l D cI cZ (q 0) (q 1) (q 2) (q 3) (q 4) (q 5) (q 6) (q 7) (q 8) (q 9) (q 10) (q 11) (q 12) (q 13) (q 14) (q 15) (q 16) (q 17) (q 18) (q 19) (q 20) (q 21) (q 22) (q 23) v n pn al cs ph sc lc bs bx bg tr j h1 hv.al360) (Nat.le_of_ble_eq_true rfl) (Nat.le_of_ble_eq_true rfl) rfl rfl
set_option maxHeartbeats 1000000 in
set_option maxRecDepth 100000 in
theorem sp_alarmStart (l : Launch) (D : va_G) (cI cZ : ClassId) (q : Nat → Nat) {v : Nat → Int32} {n : Nat} {pn : Int32} {al : AlS} {cs : CsS} {ph : PhS} {tm : Nat → Bool} {bx bg : CuS} {wb : va_W} (h : PW cI cZ q v n pn al cs ph tm bx bg wb) {j : Nat} (h1 : j < al.2.2.2) : MSi l D cI cZ yX9_alarmStart cX9_alarmStart 2 (some .int) [.ref (q 0), .int (nI j)] wb wb (nI (al.2.2.1 j)) := by
  obtain ⟨hv, sc, lc, bs, tr, rfl, rfl, hc⟩ := h
  exact ms_mki (c_X9_alarmStart l D cI cZ (q 0) (q 1) (q 2) (q 3) (q 4) (q 5) (q 6) (q 7) (q 8) (q 9) (q 10) (q 11) (q 12) (q 13) (q 14) (q 15) (q 16) (q 17) (q 18) (q 19) (q 20) (q 21) (q 22) (q 23) v n pn al cs ph sc lc bs bx bg tr j h1 hv.al360) (Nat.le_of_ble_eq_true rfl) (Nat.le_of_ble_eq_true rfl) rfl rfl
set_option maxHeartbeats 1000000 in
set_option maxRecDepth 100000 in
theorem sp_cost (l : Launch) (D : va_G) (cI cZ : ClassId) (q : Nat → Nat) {v : Nat → Int32} {n : Nat} {pn : Int32} {al : AlS} {cs : CsS} {ph : PhS} {tm : Nat → Bool} {bx bg : CuS} {wb : va_W} (h : PW cI cZ q v n pn al cs ph tm bx bg wb) {f t : Nat} (h1 : f < t) (h2 : t ≤ n) : ∃ wb', PW cI cZ q v n pn al cs ph tm bx bg wb' ∧ MSi l D cI cZ yX9_cost cX9_cost 3 (some .int) [.ref (q 0), .int (nI f), .int (nI t)] wb wb' (cF v f t) := by
  obtain ⟨hv, sc, lc, bs, tr, rfl, rfl, hc⟩ := h
  have hl := hc.learn hv.2.1 hv.1
  rw [← SC_c hl.2 h1 h2]
  exact ⟨_, ⟨hv, _, _, _, _, rfl, rfl, hl.1⟩, ms_mki (c_X9_cost l D cI cZ (q 0) (q 1) (q 2) (q 3) (q 4) (q 5) (q 6) (q 7) (q 8) (q 9) (q 10) (q 11) (q 12) (q 13) (q 14) (q 15) (q 16) (q 17) (q 18) (q 19) (q 20) (q 21) (q 22) (q 23) v n pn al cs ph sc lc bs bx bg tr f t hc.1.1 hv.1 h1 h2) (Nat.le_of_ble_eq_true rfl) (Nat.le_of_ble_eq_true rfl) rfl rfl⟩
set_option maxHeartbeats 1000000 in
set_option maxRecDepth 100000 in
theorem sp_middle (l : Launch) (D : va_G) (cI cZ : ClassId) (q : Nat → Nat) {v : Nat → Int32} {n : Nat} {pn : Int32} {al : AlS} {cs : CsS} {ph : PhS} {tm : Nat → Bool} {bx bg : CuS} {wb : va_W} (h : PW cI cZ q v n pn al cs ph tm bx bg wb) {f t : Nat} (h1 : f < t) (h2 : t ≤ n) : ∃ wb' m, PW cI cZ q v n pn al cs ph tm bx bg wb' ∧ MSi l D cI cZ yX9_middle cX9_middle 3 (some .int) [.ref (q 0), .int (nI f), .int (nI t)] wb wb' m ∧ rs (gL m) v f (t - f) ≤ (((t - f - 1) / 2 : Nat) : Int) ∧ rs (gM m) v f (t - f) ≤ (((t - f) / 2 : Nat) : Int) ∧ 1 ≤ rs (gE m) v f (t - f) ∧ (cF v f t).toInt = rs (ab m.toInt) v f (t - f) ∧ bd m := by
  obtain ⟨hv, sc, lc, bs, tr, rfl, rfl, hc⟩ := h
  have hm := mid_ok hv.2.1 h1 (show t ≤ 120 by have := hv.1; omega) sc.2.1 rfl
  exact ⟨_, _, ⟨hv, (sc.1, midL v f (t - f) f sc.2.1, sc.2.2), _, _, _, rfl, rfl, hc⟩, ms_mki (c_X9_middle l D cI cZ (q 0) (q 1) (q 2) (q 3) (q 4) (q 5) (q 6) (q 7) (q 8) (q 9) (q 10) (q 11) (q 12) (q 13) (q 14) (q 15) (q 16) (q 17) (q 18) (q 19) (q 20) (q 21) (q 22) (q 23) v n pn al cs ph sc lc bs bx bg tr f t hv.1 h1 h2) (Nat.le_of_ble_eq_true rfl) (Nat.le_of_ble_eq_true rfl) rfl rfl, hm⟩
set_option maxHeartbeats 1000000 in
set_option maxRecDepth 100000 in
theorem sp_bestCost (l : Launch) (D : va_G) (cI cZ : ClassId) (q : Nat → Nat) {v : Nat → Int32} {n : Nat} {pn : Int32} {al : AlS} {cs : CsS} {ph : PhS} {tm : Nat → Bool} {bx bg : CuS} {wb : va_W} (h : PW cI cZ q v n pn al cs ph tm bx bg wb) : ∃ wb' bx', PW cI cZ q v n pn al cs ph tm bx' bg wb' ∧ MSi l D cI cZ yX9_bestCost cX9_bestCost 1 (some .int) [.ref (q 0)] wb wb' bx'.2.2.1 ∧ bx'.2.2.2 = true ∧ (bx.2.2.2 = true → bx' = bx) ∧ BestOK v n pn bx' := by
  obtain ⟨hv, sc, lc, bs, tr, rfl, rfl, hc⟩ := h
  have hb := hc.bestx hv.2.1 hv.1 hv.2.2.1 bs
  exact ⟨_, _, ⟨hv, _, _, _, _, rfl, rfl, hb.1⟩, ms_mki (c_X9_bestCost l D cI cZ (q 0) (q 1) (q 2) (q 3) (q 4) (q 5) (q 6) (q 7) (q 8) (q 9) (q 10) (q 11) (q 12) (q 13) (q 14) (q 15) (q 16) (q 17) (q 18) (q 19) (q 20) (q 21) (q 22) (q 23) v n pn al cs ph sc lc bs bx bg tr hc.1.1 hv.1) (Nat.le_of_ble_eq_true rfl) (Nat.le_of_ble_eq_true rfl) rfl rfl, hb.2, fun z => if_pos z, hb.1.2.1 hb.2⟩
set_option maxHeartbeats 1000000 in
set_option maxRecDepth 100000 in
theorem sp_changes (l : Launch) (D : va_G) (cI cZ : ClassId) (q : Nat → Nat) {v : Nat → Int32} {n : Nat} {pn : Int32} {al : AlS} {cs : CsS} {ph : PhS} {tm : Nat → Bool} {bx bg : CuS} {wb : va_W} (h : PW cI cZ q v n pn al cs ph tm bx bg wb) : ∃ wb' bx', PW cI cZ q v n pn al cs ph tm bx' bg wb' ∧ MSi l D cI cZ yX9_changes cX9_changes 1 (some .int) [.ref (q 0)] wb wb' bx'.2.1 ∧ bx'.2.2.2 = true ∧ (bx.2.2.2 = true → bx' = bx) ∧ BestOK v n pn bx' := by
  obtain ⟨hv, sc, lc, bs, tr, rfl, rfl, hc⟩ := h
  have hb := hc.bestx hv.2.1 hv.1 hv.2.2.1 bs
  exact ⟨_, _, ⟨hv, _, _, _, _, rfl, rfl, hb.1⟩, ms_mki (c_X9_changes l D cI cZ (q 0) (q 1) (q 2) (q 3) (q 4) (q 5) (q 6) (q 7) (q 8) (q 9) (q 10) (q 11) (q 12) (q 13) (q 14) (q 15) (q 16) (q 17) (q 18) (q 19) (q 20) (q 21) (q 22) (q 23) v n pn al cs ph sc lc bs bx bg tr hc.1.1 hv.1) (Nat.le_of_ble_eq_true rfl) (Nat.le_of_ble_eq_true rfl) rfl rfl, hb.2, fun z => if_pos z, hb.1.2.1 hb.2⟩
set_option maxHeartbeats 1000000 in
set_option maxRecDepth 100000 in
theorem sp_greedyCost (l : Launch) (D : va_G) (cI cZ : ClassId) (q : Nat → Nat) {v : Nat → Int32} {n : Nat} {pn : Int32} {al : AlS} {cs : CsS} {ph : PhS} {tm : Nat → Bool} {bx bg : CuS} {wb : va_W} (h : PW cI cZ q v n pn al cs ph tm bx bg wb) : ∃ wb' bg', PW cI cZ q v n pn al cs ph tm bx bg' wb' ∧ MSi l D cI cZ yX9_greedyCost cX9_greedyCost 1 (some .int) [.ref (q 0)] wb wb' bg'.2.2.1 ∧ bg'.2.2.2 = true ∧ (bg.2.2.2 = true → bg' = bg) ∧ GreedyOK v n pn bg' := by
  obtain ⟨hv, sc, lc, bs, tr, rfl, rfl, hc⟩ := h
  have hb := hc.greedyx hv.2.1 hv.1 hv.2.2.1
  exact ⟨_, _, ⟨hv, _, _, _, _, rfl, rfl, hb.1⟩, ms_mki (c_X9_greedyCost l D cI cZ (q 0) (q 1) (q 2) (q 3) (q 4) (q 5) (q 6) (q 7) (q 8) (q 9) (q 10) (q 11) (q 12) (q 13) (q 14) (q 15) (q 16) (q 17) (q 18) (q 19) (q 20) (q 21) (q 22) (q 23) v n pn al cs ph sc lc bs bx bg tr hc.1.1 hv.1) (Nat.le_of_ble_eq_true rfl) (Nat.le_of_ble_eq_true rfl) rfl rfl, hb.2, fun z => if_pos z, hb.1.2.2 hb.2⟩
set_option maxHeartbeats 1000000 in
set_option maxRecDepth 100000 in
theorem sp_greedyChanges (l : Launch) (D : va_G) (cI cZ : ClassId) (q : Nat → Nat) {v : Nat → Int32} {n : Nat} {pn : Int32} {al : AlS} {cs : CsS} {ph : PhS} {tm : Nat → Bool} {bx bg : CuS} {wb : va_W} (h : PW cI cZ q v n pn al cs ph tm bx bg wb) : ∃ wb' bg', PW cI cZ q v n pn al cs ph tm bx bg' wb' ∧ MSi l D cI cZ yX9_greedyChanges cX9_greedyChanges 1 (some .int) [.ref (q 0)] wb wb' bg'.2.1 ∧ bg'.2.2.2 = true ∧ (bg.2.2.2 = true → bg' = bg) ∧ GreedyOK v n pn bg' := by
  obtain ⟨hv, sc, lc, bs, tr, rfl, rfl, hc⟩ := h
  have hb := hc.greedyx hv.2.1 hv.1 hv.2.2.1
  exact ⟨_, _, ⟨hv, _, _, _, _, rfl, rfl, hb.1⟩, ms_mki (c_X9_greedyChanges l D cI cZ (q 0) (q 1) (q 2) (q 3) (q 4) (q 5) (q 6) (q 7) (q 8) (q 9) (q 10) (q 11) (q 12) (q 13) (q 14) (q 15) (q 16) (q 17) (q 18) (q 19) (q 20) (q 21) (q 22) (q 23) v n pn al cs ph sc lc bs bx bg tr hc.1.1 hv.1) (Nat.le_of_ble_eq_true rfl) (Nat.le_of_ble_eq_true rfl) rfl rfl, hb.2, fun z => if_pos z, hb.1.2.2 hb.2⟩
set_option maxHeartbeats 1000000 in
set_option maxRecDepth 100000 in
theorem sp_change (l : Launch) (D : va_G) (cI cZ : ClassId) (q : Nat → Nat) {v : Nat → Int32} {n : Nat} {pn : Int32} {al : AlS} {cs : CsS} {ph : PhS} {tm : Nat → Bool} {bx bg : CuS} {wb : va_W} (h : PW cI cZ q v n pn al cs ph tm bx bg wb) (hs : bx.2.2.2 = true) {x : Int32} (h1 : 0 ≤ x ∧ x < bx.2.1) : ∃ wb', PW cI cZ q v n pn al cs ph tm bx bg wb' ∧ MSi l D cI cZ yX9_change cX9_change 3 (some .int) [.ref (q 0), .int x] wb wb' (naL bx.1 x 120 0 0) := by
  obtain ⟨hv, sc, lc, bs, tr, rfl, rfl, hc⟩ := h
  have hb := hc.bestx hv.2.1 hv.1 hv.2.2.1 bs
  have e : (if bx.2.2.2 = true then bx else cu_set (sc_learn v n sc).1 n pn (chT (bfL (sc_learn v n sc).1 n pn n bs) n bx)) = bx := if_pos hs
  have e9 := c_X9_change l D cI cZ (q 0) (q 1) (q 2) (q 3) (q 4) (q 5) (q 6) (q 7) (q 8) (q 9) (q 10) (q 11) (q 12) (q 13) (q 14) (q 15) (q 16) (q 17) (q 18) (q 19) (q 20) (q 21) (q 22) (q 23) v n pn al cs ph sc lc bs bx bg tr x hc.1.1 hv.1 (by rw [e]; exact h1)
  rw [e] at e9 hb
  exact ⟨_, ⟨hv, _, _, _, _, rfl, rfl, hb.1⟩, ms_mki e9 (Nat.le_of_ble_eq_true rfl) (Nat.le_of_ble_eq_true rfl) rfl rfl⟩
set_option maxHeartbeats 1000000 in
set_option maxRecDepth 100000 in
theorem sp_greedyChange (l : Launch) (D : va_G) (cI cZ : ClassId) (q : Nat → Nat) {v : Nat → Int32} {n : Nat} {pn : Int32} {al : AlS} {cs : CsS} {ph : PhS} {tm : Nat → Bool} {bx bg : CuS} {wb : va_W} (h : PW cI cZ q v n pn al cs ph tm bx bg wb) (hs : bg.2.2.2 = true) {x : Int32} (h1 : 0 ≤ x ∧ x < bg.2.1) : ∃ wb', PW cI cZ q v n pn al cs ph tm bx bg wb' ∧ MSi l D cI cZ yX9_greedyChange cX9_greedyChange 3 (some .int) [.ref (q 0), .int x] wb wb' (naL bg.1 x 120 0 0) := by
  obtain ⟨hv, sc, lc, bs, tr, rfl, rfl, hc⟩ := h
  have hb := hc.greedyx hv.2.1 hv.1 hv.2.2.1
  have e : (if bg.2.2.2 = true then bg else cu_set (sc_learn v n sc).1 n pn (ggT (sc_learn v n sc).1 n pn bg)) = bg := if_pos hs
  have e9 := c_X9_greedyChange l D cI cZ (q 0) (q 1) (q 2) (q 3) (q 4) (q 5) (q 6) (q 7) (q 8) (q 9) (q 10) (q 11) (q 12) (q 13) (q 14) (q 15) (q 16) (q 17) (q 18) (q 19) (q 20) (q 21) (q 22) (q 23) v n pn al cs ph sc lc bs bx bg tr x hc.1.1 hv.1 (by rw [e]; exact h1)
  rw [e] at e9 hb
  exact ⟨_, ⟨hv, _, _, _, _, rfl, rfl, hb.1⟩, ms_mki e9 (Nat.le_of_ble_eq_true rfl) (Nat.le_of_ble_eq_true rfl) rfl rfl⟩
set_option maxHeartbeats 1000000 in
set_option maxRecDepth 100000 in
theorem sp_clear (l : Launch) (D : va_G) (cI cZ : ClassId) (q : Nat → Nat) {v : Nat → Int32} {n : Nat} {pn : Int32} {al : AlS} {cs : CsS} {ph : PhS} {tm : Nat → Bool} {bx bg : CuS} {wb : va_W} (h : PW cI cZ q v n pn al cs ph tm bx bg wb) : ∃ wb', PW cI cZ q v 0 pn (al.1, al.2.1, al.2.2.1, 0) (cs_anew cs) (ph_anew ph) (offL 120 0 tm) (cu_off bx) (cu_off bg) wb' ∧ MSi l D cI cZ yX9_clear cX9_clear 2 (some .int) [.ref (q 0)] wb wb' (nI n) := by
  obtain ⟨hv, sc, lc, bs, tr, rfl, rfl, hc⟩ := h
  exact ⟨_, ⟨hv.clear, (sc.1, sc.2.1, 0), (lc.1, 0), bs, tr_off tr, rfl, rfl, hc.clear⟩, ms_mki (c_X9_clear l D cI cZ (q 0) (q 1) (q 2) (q 3) (q 4) (q 5) (q 6) (q 7) (q 8) (q 9) (q 10) (q 11) (q 12) (q 13) (q 14) (q 15) (q 16) (q 17) (q 18) (q 19) (q 20) (q 21) (q 22) (q 23) v n pn al cs ph sc lc bs bx bg tr ) (Nat.le_of_ble_eq_true rfl) (Nat.le_of_ble_eq_true rfl) rfl rfl⟩
set_option maxHeartbeats 1000000 in
set_option maxRecDepth 100000 in
theorem sh_sets0 (l : Launch) (hl0 : l.stackTraces = false) (D : va_G) (cI cZ : ClassId) (q : Nat → Nat) {v : Nat → Int32} {n : Nat} {pn : Int32} {al : AlS} {cs : CsS} {ph : PhS} {tm : Nat → Bool} {bx bg : CuS} {wb : va_W} (h : PW cI cZ q v n pn al cs ph tm bx bg wb) {x y z : Int32} (h1 : ((-1000) ≤ x ∧ x ≤ 1000) ∧ (0 ≤ y ∧ y ≤ 1000) ∧ (0 ≤ z ∧ z ≤ 100000)) : ∃ wb', PW cI cZ q v n pn al (cs_set cs x y z) ph tm bx bg wb' ∧ HSi l D cI cZ yL_sets cL_sets 6 [(0, 22, 23, 27)] [.ref (q 0), .int 0, .int x, .int y, .int z] wb wb' 0 0 0 := by
  obtain ⟨hv, sc, lc, bs, tr, rfl, rfl, hc⟩ := h
  exact ⟨_, ⟨hv.sums h1.2.2.1, _, _, _, _, rfl, rfl, hc⟩, mk_HSi (c_L_sets_0 l hl0 D cI cZ (q 0) x y z (wB cI cZ q v n pn al cs ph sc lc bs bx bg tr) (wB cI cZ q v n pn al (cs_set cs x y z) ph sc lc bs bx bg tr) 0 (c_L_set_0 l hl0 D cI cZ (q 0) x y z (wB cI cZ q v n pn al cs ph sc lc bs bx bg tr) (wB cI cZ q v n pn al (cs_set cs x y z) ph sc lc bs bx bg tr) (c_X9_setSums l D cI cZ (q 0) (q 1) (q 2) (q 3) (q 4) (q 5) (q 6) (q 7) (q 8) (q 9) (q 10) (q 11) (q 12) (q 13) (q 14) (q 15) (q 16) (q 17) (q 18) (q 19) (q 20) (q 21) (q 22) (q 23) v n pn al cs ph sc lc bs bx bg tr x y z h1.1 h1.2.1 h1.2.2) ⟨_, rfl⟩ rfl) ⟨_, rfl⟩ rfl) (Nat.le_of_ble_eq_true rfl) (Nat.le_of_ble_eq_true rfl) rfl rfl⟩
set_option maxHeartbeats 1000000 in
set_option maxRecDepth 100000 in
theorem sh_sets0x (l : Launch) (hl0 : l.stackTraces = false) (D : va_G) (cI cZ : ClassId) (q : Nat → Nat) {v : Nat → Int32} {n : Nat} {pn : Int32} {al : AlS} {cs : CsS} {ph : PhS} {tm : Nat → Bool} {bx bg : CuS} {wb : va_W} (h : PW cI cZ q v n pn al cs ph tm bx bg wb) {x y z : Int32} (h1 : ¬ (((-1000) ≤ x ∧ x ≤ 1000) ∧ (0 ≤ y ∧ y ≤ 1000) ∧ (0 ≤ z ∧ z ≤ 100000))) : HSi l D cI cZ yL_sets cL_sets 6 [(0, 22, 23, 27)] [.ref (q 0), .int 0, .int x, .int y, .int z] wb wb (-20) 1 6 := by
  obtain ⟨hv, sc, lc, bs, tr, rfl, rfl, hc⟩ := h
  exact mk_HSi (c_L_sets_0x l hl0 D cI cZ (q 0) x y z (wB cI cZ q v n pn al cs ph sc lc bs bx bg tr) (wB cI cZ q v n pn al cs ph sc lc bs bx bg tr) (c_L_set_0x l hl0 D cI cZ (q 0) x y z (wB cI cZ q v n pn al cs ph sc lc bs bx bg tr) (wB cI cZ q v n pn al cs ph sc lc bs bx bg tr) (c_X9_setSums_x l hl0 D cI cZ (q 0) (q 1) (q 2) (q 3) (q 4) (q 5) (q 6) (q 7) (q 8) (q 9) (q 10) (q 11) (q 12) (q 13) (q 14) (q 15) (q 16) (q 17) (q 18) (q 19) (q 20) (q 21) (q 22) (q 23) v n pn al cs ph sc lc bs bx bg tr x y z h1) ⟨_, rfl⟩ rfl) ⟨_, rfl⟩ rfl) (Nat.le_of_ble_eq_true rfl) (Nat.le_of_ble_eq_true rfl) rfl rfl
set_option maxHeartbeats 1000000 in
set_option maxRecDepth 100000 in
theorem sh_sets1 (l : Launch) (hl0 : l.stackTraces = false) (D : va_G) (cI cZ : ClassId) (q : Nat → Nat) {v : Nat → Int32} {n : Nat} {pn : Int32} {al : AlS} {cs : CsS} {ph : PhS} {tm : Nat → Bool} {bx bg : CuS} {wb : va_W} (h : PW cI cZ q v n pn al cs ph tm bx bg wb) {x y z : Int32} (h1 : (0 ≤ x ∧ x ≤ 1000) ∧ (0 ≤ y ∧ y ≤ 1000) ∧ (0 ≤ z ∧ z ≤ 100000)) : ∃ wb', PW cI cZ q v n pn al cs (ph_set ph x y z) tm bx bg wb' ∧ HSi l D cI cZ yL_sets cL_sets 6 [(0, 22, 23, 27)] [.ref (q 0), .int 1, .int x, .int y, .int z] wb wb' 0 0 0 := by
  obtain ⟨hv, sc, lc, bs, tr, rfl, rfl, hc⟩ := h
  exact ⟨_, ⟨hv.test h1.1 h1.2.1 h1.2.2.1, _, _, _, _, rfl, rfl, hc⟩, mk_HSi (c_L_sets_1 l hl0 D cI cZ (q 0) x y z (wB cI cZ q v n pn al cs ph sc lc bs bx bg tr) (wB cI cZ q v n pn al cs (ph_set ph x y z) sc lc bs bx bg tr) 0 (c_L_set_1 l hl0 D cI cZ (q 0) x y z (wB cI cZ q v n pn al cs ph sc lc bs bx bg tr) (wB cI cZ q v n pn al cs (ph_set ph x y z) sc lc bs bx bg tr) (c_X9_setTest l D cI cZ (q 0) (q 1) (q 2) (q 3) (q 4) (q 5) (q 6) (q 7) (q 8) (q 9) (q 10) (q 11) (q 12) (q 13) (q 14) (q 15) (q 16) (q 17) (q 18) (q 19) (q 20) (q 21) (q 22) (q 23) v n pn al cs ph sc lc bs bx bg tr x y z h1.1 h1.2.1 h1.2.2) ⟨_, rfl⟩ rfl) ⟨_, rfl⟩ rfl) (Nat.le_of_ble_eq_true rfl) (Nat.le_of_ble_eq_true rfl) rfl rfl⟩
set_option maxHeartbeats 1000000 in
set_option maxRecDepth 100000 in
theorem sh_sets1x (l : Launch) (hl0 : l.stackTraces = false) (D : va_G) (cI cZ : ClassId) (q : Nat → Nat) {v : Nat → Int32} {n : Nat} {pn : Int32} {al : AlS} {cs : CsS} {ph : PhS} {tm : Nat → Bool} {bx bg : CuS} {wb : va_W} (h : PW cI cZ q v n pn al cs ph tm bx bg wb) {x y z : Int32} (h1 : ¬ ((0 ≤ x ∧ x ≤ 1000) ∧ (0 ≤ y ∧ y ≤ 1000) ∧ (0 ≤ z ∧ z ≤ 100000))) : HSi l D cI cZ yL_sets cL_sets 6 [(0, 22, 23, 27)] [.ref (q 0), .int 1, .int x, .int y, .int z] wb wb (-20) 1 6 := by
  obtain ⟨hv, sc, lc, bs, tr, rfl, rfl, hc⟩ := h
  exact mk_HSi (c_L_sets_1x l hl0 D cI cZ (q 0) x y z (wB cI cZ q v n pn al cs ph sc lc bs bx bg tr) (wB cI cZ q v n pn al cs ph sc lc bs bx bg tr) (c_L_set_1x l hl0 D cI cZ (q 0) x y z (wB cI cZ q v n pn al cs ph sc lc bs bx bg tr) (wB cI cZ q v n pn al cs ph sc lc bs bx bg tr) (c_X9_setTest_x l hl0 D cI cZ (q 0) (q 1) (q 2) (q 3) (q 4) (q 5) (q 6) (q 7) (q 8) (q 9) (q 10) (q 11) (q 12) (q 13) (q 14) (q 15) (q 16) (q 17) (q 18) (q 19) (q 20) (q 21) (q 22) (q 23) v n pn al cs ph sc lc bs bx bg tr x y z h1) ⟨_, rfl⟩ rfl) ⟨_, rfl⟩ rfl) (Nat.le_of_ble_eq_true rfl) (Nat.le_of_ble_eq_true rfl) rfl rfl
set_option maxHeartbeats 1000000 in
set_option maxRecDepth 100000 in
theorem sh_sets2 (l : Launch) (hl0 : l.stackTraces = false) (D : va_G) (cI cZ : ClassId) (q : Nat → Nat) {v : Nat → Int32} {n : Nat} {pn : Int32} {al : AlS} {cs : CsS} {ph : PhS} {tm : Nat → Bool} {bx bg : CuS} {wb : va_W} (h : PW cI cZ q v n pn al cs ph tm bx bg wb) {x : Int32} (y z : Int32) (h1 : 0 ≤ x ∧ x ≤ 100000) : ∃ wb', PW cI cZ q v n x al cs ph tm (cu_off bx) (cu_off bg) wb' ∧ HSi l D cI cZ yL_sets cL_sets 6 [(0, 22, 23, 27)] [.ref (q 0), .int 2, .int x, .int y, .int z] wb wb' pn 0 0 := by
  obtain ⟨hv, sc, lc, bs, tr, rfl, rfl, hc⟩ := h
  exact ⟨_, ⟨hv.pen h1, _, _, _, _, rfl, rfl, hc.off x⟩, mk_HSi (c_L_sets_2 l hl0 D cI cZ (q 0) x y z (wB cI cZ q v n pn al cs ph sc lc bs bx bg tr) (wB cI cZ q v n x al cs ph sc lc bs (cu_off bx) (cu_off bg) tr) pn (c_X9_setPenalty l D cI cZ (q 0) (q 1) (q 2) (q 3) (q 4) (q 5) (q 6) (q 7) (q 8) (q 9) (q 10) (q 11) (q 12) (q 13) (q 14) (q 15) (q 16) (q 17) (q 18) (q 19) (q 20) (q 21) (q 22) (q 23) v n pn al cs ph sc lc bs bx bg tr x h1) ⟨_, rfl⟩ rfl) (Nat.le_of_ble_eq_true rfl) (Nat.le_of_ble_eq_true rfl) rfl rfl⟩
set_option maxHeartbeats 1000000 in
set_option maxRecDepth 100000 in
theorem sh_sets2x (l : Launch) (hl0 : l.stackTraces = false) (D : va_G) (cI cZ : ClassId) (q : Nat → Nat) {v : Nat → Int32} {n : Nat} {pn : Int32} {al : AlS} {cs : CsS} {ph : PhS} {tm : Nat → Bool} {bx bg : CuS} {wb : va_W} (h : PW cI cZ q v n pn al cs ph tm bx bg wb) {x : Int32} (y z : Int32) (h1 : ¬ (0 ≤ x ∧ x ≤ 100000)) : HSi l D cI cZ yL_sets cL_sets 6 [(0, 22, 23, 27)] [.ref (q 0), .int 2, .int x, .int y, .int z] wb wb (-20) 1 6 := by
  obtain ⟨hv, sc, lc, bs, tr, rfl, rfl, hc⟩ := h
  exact mk_HSi (c_L_sets_2x l hl0 D cI cZ (q 0) x y z (wB cI cZ q v n pn al cs ph sc lc bs bx bg tr) (wB cI cZ q v n pn al cs ph sc lc bs bx bg tr) (c_X9_setPenalty_x l hl0 D cI cZ (q 0) (q 1) (q 2) (q 3) (q 4) (q 5) (q 6) (q 7) (q 8) (q 9) (q 10) (q 11) (q 12) (q 13) (q 14) (q 15) (q 16) (q 17) (q 18) (q 19) (q 20) (q 21) (q 22) (q 23) v n pn al cs ph sc lc bs bx bg tr x h1) ⟨_, rfl⟩ rfl) (Nat.le_of_ble_eq_true rfl) (Nat.le_of_ble_eq_true rfl) rfl rfl
set_option maxHeartbeats 1000000 in
set_option maxRecDepth 100000 in
theorem sh_adds0 (l : Launch) (hl0 : l.stackTraces = false) (D : va_G) (cI cZ : ClassId) (q : Nat → Nat) {v : Nat → Int32} {n : Nat} {pn : Int32} {al : AlS} {cs : CsS} {ph : PhS} {tm : Nat → Bool} {bx bg : CuS} {wb : va_W} (h : PW cI cZ q v n pn al cs ph tm bx bg wb) {x : Int32} (y z : Int32) (h1 : (-1000) ≤ x ∧ x ≤ 1000) (h2 : n < 120) : ∃ (wb' : va_W) (v' : Nat → Int32) (al' : AlS) (cs' : CsS) (ph' : PhS) (bx' bg' : CuS) (b : Nat), PW cI cZ q v' (n + 1) pn al' cs' ph' tm bx' bg' wb' ∧ HSi l D cI cZ yL_adds cL_adds 6 [(0, 20, 21, 27), (0, 20, 26, 36)] [.ref (q 0), .int 0, .int x, .int y, .int z] wb wb' (nI b) 0 0 ∧ b < 8 ∧ al'.2.2.2 = al.2.2.2 + (b % 2 + b / 2 % 2 + b / 4) ∧ (∀ j, al.2.2.2 ≤ j → j < al'.2.2.2 → n ≤ al'.2.1 j) ∧ v' n = x := by
  obtain ⟨hv, sc, lc, bs, tr, rfl, rfl, hc⟩ := h
  obtain ⟨b, b1, b2, b3⟩ := bits_ok (cs_mv cs x n) (ph_mv ph x n) al n
  have h3n := hv.2.2.2.1
  have e9 := c_X9_add l D cI cZ (q 0) (q 1) (q 2) (q 3) (q 4) (q 5) (q 6) (q 7) (q 8) (q 9) (q 10) (q 11) (q 12) (q 13) (q 14) (q 15) (q 16) (q 17) (q 18) (q 19) (q 20) (q 21) (q 22) (q 23) v n pn al cs ph sc lc bs bx bg tr x h1 h2 (by omega) hv.ph_n
  rw [b2] at e9
  obtain ⟨k1, k2, k3⟩ := Kp_take (cs_mv cs x n) (ph_mv ph x n) al n
  exact ⟨_, _, _, _, _, _, _, b, ⟨hv.take h2 h1, sc, lc, bs, tr, rfl, rfl, hc.take x⟩, mk_HSi (c_L_adds_0 l hl0 D cI cZ (q 0) x y z (wB cI cZ q v n pn al cs ph sc lc bs bx bg tr) (wB cI cZ q (upd v n x) (n + 1) pn (ph_al (ph_mv ph x n) (cs_al (cs_mv cs x n) al n) n) (cs_end (cs_mv cs x n)) (ph_end (ph_mv ph x n)) sc lc bs (cu_off bx) (cu_off bg) tr) (nI b) e9 ⟨_, rfl⟩ rfl) (Nat.le_of_ble_eq_true rfl) (Nat.le_of_ble_eq_true rfl) rfl rfl, b1, b3, fun j j1 j2 => by rw [k2 j j1 j2]; exact Nat.le_refl _, up_at _ _ _⟩
set_option maxHeartbeats 1000000 in
set_option maxRecDepth 100000 in
theorem sh_adds0x1 (l : Launch) (hl0 : l.stackTraces = false) (D : va_G) (cI cZ : ClassId) (q : Nat → Nat) {v : Nat → Int32} {n : Nat} {pn : Int32} {al : AlS} {cs : CsS} {ph : PhS} {tm : Nat → Bool} {bx bg : CuS} {wb : va_W} (h : PW cI cZ q v n pn al cs ph tm bx bg wb) {x : Int32} (y z : Int32) (h1 : ¬ ((-1000) ≤ x ∧ x ≤ 1000)) : HSi l D cI cZ yL_adds cL_adds 6 [(0, 20, 21, 27), (0, 20, 26, 36)] [.ref (q 0), .int 0, .int x, .int y, .int z] wb wb (-20) 1 6 := by
  obtain ⟨hv, sc, lc, bs, tr, rfl, rfl, hc⟩ := h
  exact mk_HSi (c_L_adds_0x1 l hl0 D cI cZ (q 0) x y z (wB cI cZ q v n pn al cs ph sc lc bs bx bg tr) (wB cI cZ q v n pn al cs ph sc lc bs bx bg tr) (c_X9_add_x1 l hl0 D cI cZ (q 0) (q 1) (q 2) (q 3) (q 4) (q 5) (q 6) (q 7) (q 8) (q 9) (q 10) (q 11) (q 12) (q 13) (q 14) (q 15) (q 16) (q 17) (q 18) (q 19) (q 20) (q 21) (q 22) (q 23) v n pn al cs ph sc lc bs bx bg tr x h1) ⟨_, rfl⟩ rfl) (Nat.le_of_ble_eq_true rfl) (Nat.le_of_ble_eq_true rfl) rfl rfl
set_option maxHeartbeats 1000000 in
set_option maxRecDepth 100000 in
theorem sh_adds0x2 (l : Launch) (hl0 : l.stackTraces = false) (D : va_G) (cI cZ : ClassId) (q : Nat → Nat) {v : Nat → Int32} {n : Nat} {pn : Int32} {al : AlS} {cs : CsS} {ph : PhS} {tm : Nat → Bool} {bx bg : CuS} {wb : va_W} (h : PW cI cZ q v n pn al cs ph tm bx bg wb) {x : Int32} (y z : Int32) (h1 : (-1000) ≤ x ∧ x ≤ 1000) (h2 : n = 120) : HSi l D cI cZ yL_adds cL_adds 6 [(0, 20, 21, 27), (0, 20, 26, 36)] [.ref (q 0), .int 0, .int x, .int y, .int z] wb wb (-10) 1 6 := by
  obtain ⟨hv, sc, lc, bs, tr, rfl, rfl, hc⟩ := h
  exact mk_HSi (c_L_adds_0x2 l hl0 D cI cZ (q 0) x y z (wB cI cZ q v n pn al cs ph sc lc bs bx bg tr) (wB cI cZ q v n pn al cs ph sc lc bs bx bg tr) (c_X9_add_x2 l hl0 D cI cZ (q 0) (q 1) (q 2) (q 3) (q 4) (q 5) (q 6) (q 7) (q 8) (q 9) (q 10) (q 11) (q 12) (q 13) (q 14) (q 15) (q 16) (q 17) (q 18) (q 19) (q 20) (q 21) (q 22) (q 23) v n pn al cs ph sc lc bs bx bg tr x h1 h2) ⟨_, rfl⟩ rfl) (Nat.le_of_ble_eq_true rfl) (Nat.le_of_ble_eq_true rfl) rfl rfl
set_option maxHeartbeats 1000000 in
set_option maxRecDepth 100000 in
theorem sh_adds1 (l : Launch) (hl0 : l.stackTraces = false) (D : va_G) (cI cZ : ClassId) (q : Nat → Nat) {v : Nat → Int32} {n : Nat} {pn : Int32} {al : AlS} {cs : CsS} {ph : PhS} {tm : Nat → Bool} {bx bg : CuS} {wb : va_W} (h : PW cI cZ q v n pn al cs ph tm bx bg wb) {x y : Int32} {ct : Nat} (h1 : ((-1000) ≤ x ∧ x ≤ 1000) ∧ ((-1000) ≤ y ∧ y ≤ 1000) ∧ (1 ≤ ct ∧ ct ≤ 40) ∧ ((-1000) ≤ (x + y * (nI ct - 1)) ∧ (x + y * (nI ct - 1)) ≤ 1000)) (h2 : n + ct ≤ 120) : ∃ (wb' : va_W) (v' : Nat → Int32) (al' : AlS) (cs' : CsS) (ph' : PhS) (bx' bg' : CuS), PW cI cZ q v' (n + ct) pn al' cs' ph' tm bx' bg' wb' ∧ HSi l D cI cZ yL_adds cL_adds 6 [(0, 20, 21, 27), (0, 20, 26, 36)] [.ref (q 0), .int 1, .int x, .int y, .int (nI ct)] wb wb' (nI al'.2.2.2 - nI al.2.2.2) 0 0 ∧ al.2.2.2 ≤ al'.2.2.2 ∧ (∀ j, al.2.2.2 ≤ j → j < al'.2.2.2 → n ≤ al'.2.1 j) ∧ ∀ k, k < ct → v' (n + k) = x + y * nI k := by
  obtain ⟨hv, sc, lc, bs, tr, rfl, rfl, hc⟩ := h
  obtain ⟨hx1, hx2, ⟨h0, h40⟩, hx4⟩ := h1
  obtain ⟨g1, g2, g3, g4, ⟨g5, g6, g7⟩, g8, g9⟩ := PB_run (x := x) (y := y) ct 0 (mkB v n pn al cs ph sc lc bs bx bg tr) ⟨hv, hc⟩ h2 (fun j _ j2 => run_ok hx1 hx2 h40 hx4 (by omega))
  have e9 := c_X9_addRun l D cI cZ (q 0) (q 1) (q 2) (q 3) (q 4) (q 5) (q 6) (q 7) (q 8) (q 9) (q 10) (q 11) (q 12) (q 13) (q 14) (q 15) (q 16) (q 17) (q 18) (q 19) (q 20) (q 21) (q 22) (q 23) v n pn al cs ph sc lc bs bx bg tr x y ct hx1 hx2 h0 h40 hx4 h2 hv.2.2.2.1 hv.ph_n
  have g2 : bkn (bk_run x y ct 0 (mkB v n pn al cs ph sc lc bs bx bg tr)) = n + ct := g2
  have g3 : bkp (bk_run x y ct 0 (mkB v n pn al cs ph sc lc bs bx bg tr)) = pn := g3
  have g4 : (bkt (bk_run x y ct 0 (mkB v n pn al cs ph sc lc bs bx bg tr))).1 = tr.1 := g4
  have e8 := mk_HSi (c_L_adds_1 l hl0 D cI cZ (q 0) x y (nI ct) (wB cI cZ q v n pn al cs ph sc lc bs bx bg tr) (wB cI cZ q (bkv (bk_run x y ct 0 (mkB v n pn al cs ph sc lc bs bx bg tr))) (bkn (bk_run x y ct 0 (mkB v n pn al cs ph sc lc bs bx bg tr))) (bkp (bk_run x y ct 0 (mkB v n pn al cs ph sc lc bs bx bg tr))) (bka (bk_run x y ct 0 (mkB v n pn al cs ph sc lc bs bx bg tr))) (bkc (bk_run x y ct 0 (mkB v n pn al cs ph sc lc bs bx bg tr))) (bkh (bk_run x y ct 0 (mkB v n pn al cs ph sc lc bs bx bg tr))) (bks (bk_run x y ct 0 (mkB v n pn al cs ph sc lc bs bx bg tr))) (bkl (bk_run x y ct 0 (mkB v n pn al cs ph sc lc bs bx bg tr))) (bkb (bk_run x y ct 0 (mkB v n pn al cs ph sc lc bs bx bg tr))) (bkx (bk_run x y ct 0 (mkB v n pn al cs ph sc lc bs bx bg tr))) (bky (bk_run x y ct 0 (mkB v n pn al cs ph sc lc bs bx bg tr))) (bkt (bk_run x y ct 0 (mkB v n pn al cs ph sc lc bs bx bg tr)))) _ e9 ⟨_, rfl⟩ rfl) (Nat.le_of_ble_eq_true rfl) (Nat.le_of_ble_eq_true rfl) rfl rfl
  generalize hb : (bk_run x y ct 0 (mkB v n pn al cs ph sc lc bs bx bg tr)) = b at *
  refine ⟨_, bkv b, bka b, bkc b, bkh b, bkx b, bky b, ⟨?_, bks b, bkl b, bkb b, bkt b, ?_, g4, ?_⟩, e8, g5, g6, fun k hk => ?_⟩
  · have := g1.1
    rw [g2, g3, g4] at this
    exact this
  · rw [g2, g3]
  · have := g1.2
    rw [g2, g3] at this
    exact this
  · have := g8 k hk
    rw [Nat.zero_add] at this
    exact this
set_option maxHeartbeats 1000000 in
set_option maxRecDepth 100000 in
theorem sh_adds1x1 (l : Launch) (hl0 : l.stackTraces = false) (D : va_G) (cI cZ : ClassId) (q : Nat → Nat) {v : Nat → Int32} {n : Nat} {pn : Int32} {al : AlS} {cs : CsS} {ph : PhS} {tm : Nat → Bool} {bx bg : CuS} {wb : va_W} (h : PW cI cZ q v n pn al cs ph tm bx bg wb) {x y z : Int32} (h1 : ¬ (((-1000) ≤ x ∧ x ≤ 1000) ∧ ((-1000) ≤ y ∧ y ≤ 1000) ∧ (1 ≤ z ∧ z ≤ 40) ∧ ((-1000) ≤ (x + y * (z - 1)) ∧ (x + y * (z - 1)) ≤ 1000))) : HSi l D cI cZ yL_adds cL_adds 6 [(0, 20, 21, 27), (0, 20, 26, 36)] [.ref (q 0), .int 1, .int x, .int y, .int z] wb wb (-20) 1 6 := by
  obtain ⟨hv, sc, lc, bs, tr, rfl, rfl, hc⟩ := h
  exact mk_HSi (c_L_adds_1x1 l hl0 D cI cZ (q 0) x y z (wB cI cZ q v n pn al cs ph sc lc bs bx bg tr) (wB cI cZ q v n pn al cs ph sc lc bs bx bg tr) (c_X9_addRun_x1 l hl0 D cI cZ (q 0) (q 1) (q 2) (q 3) (q 4) (q 5) (q 6) (q 7) (q 8) (q 9) (q 10) (q 11) (q 12) (q 13) (q 14) (q 15) (q 16) (q 17) (q 18) (q 19) (q 20) (q 21) (q 22) (q 23) v n pn al cs ph sc lc bs bx bg tr x y z h1) ⟨_, rfl⟩ rfl) (Nat.le_of_ble_eq_true rfl) (Nat.le_of_ble_eq_true rfl) rfl rfl
set_option maxHeartbeats 1000000 in
set_option maxRecDepth 100000 in
theorem sh_adds1x2 (l : Launch) (hl0 : l.stackTraces = false) (D : va_G) (cI cZ : ClassId) (q : Nat → Nat) {v : Nat → Int32} {n : Nat} {pn : Int32} {al : AlS} {cs : CsS} {ph : PhS} {tm : Nat → Bool} {bx bg : CuS} {wb : va_W} (h : PW cI cZ q v n pn al cs ph tm bx bg wb) {x y : Int32} {ct : Nat} (h1 : ((-1000) ≤ x ∧ x ≤ 1000) ∧ ((-1000) ≤ y ∧ y ≤ 1000) ∧ (1 ≤ ct ∧ ct ≤ 40) ∧ ((-1000) ≤ (x + y * (nI ct - 1)) ∧ (x + y * (nI ct - 1)) ≤ 1000)) (h2 : 120 < n + ct) : HSi l D cI cZ yL_adds cL_adds 6 [(0, 20, 21, 27), (0, 20, 26, 36)] [.ref (q 0), .int 1, .int x, .int y, .int (nI ct)] wb wb (-10) 1 6 := by
  obtain ⟨hv, sc, lc, bs, tr, rfl, rfl, hc⟩ := h
  exact mk_HSi (c_L_adds_1x2 l hl0 D cI cZ (q 0) x y (nI ct) (wB cI cZ q v n pn al cs ph sc lc bs bx bg tr) (wB cI cZ q v n pn al cs ph sc lc bs bx bg tr) (c_X9_addRun_x2 l hl0 D cI cZ (q 0) (q 1) (q 2) (q 3) (q 4) (q 5) (q 6) (q 7) (q 8) (q 9) (q 10) (q 11) (q 12) (q 13) (q 14) (q 15) (q 16) (q 17) (q 18) (q 19) (q 20) (q 21) (q 22) (q 23) v n pn al cs ph sc lc bs bx bg tr x y ct h1.1 h1.2.1 h1.2.2.1.1 h1.2.2.1.2 h1.2.2.2 h2 hv.1) ⟨_, rfl⟩ rfl) (Nat.le_of_ble_eq_true rfl) (Nat.le_of_ble_eq_true rfl) rfl rfl
set_option maxHeartbeats 1000000 in
set_option maxRecDepth 100000 in
theorem sh_asks0x (l : Launch) (hl0 : l.stackTraces = false) (D : va_G) (cI cZ : ClassId) (q : Nat → Nat) {v : Nat → Int32} {n : Nat} {pn : Int32} {al : AlS} {cs : CsS} {ph : PhS} {tm : Nat → Bool} {bx bg : CuS} {wb : va_W} (h : PW cI cZ q v n pn al cs ph tm bx bg wb) {x : Int32} (y : Int32) (h1 : ¬ (0 ≤ x ∧ x < nI n)) : HSi l D cI cZ yL_asks cL_asks 5 [(0, 120, 121, 67)] [.ref (q 0), .int 0, .int x, .int y] wb wb (-3000) 1 6 := by
  obtain ⟨hv, sc, lc, bs, tr, rfl, rfl, hc⟩ := h
  exact mk_HSi (c_L_asks_0x l hl0 D cI cZ (q 0) x y (wB cI cZ q v n pn al cs ph sc lc bs bx bg tr) (wB cI cZ q v n pn al cs ph sc lc bs bx bg tr) (c_X9_value_x l hl0 D cI cZ (q 0) (q 1) (q 2) (q 3) (q 4) (q 5) (q 6) (q 7) (q 8) (q 9) (q 10) (q 11) (q 12) (q 13) (q 14) (q 15) (q 16) (q 17) (q 18) (q 19) (q 20) (q 21) (q 22) (q 23) v n pn al cs ph sc lc bs bx bg tr x h1) ⟨_, rfl⟩ rfl) (Nat.le_of_ble_eq_true rfl) (Nat.le_of_ble_eq_true rfl) rfl rfl
set_option maxHeartbeats 1000000 in
set_option maxRecDepth 100000 in
theorem sh_asks1x (l : Launch) (hl0 : l.stackTraces = false) (D : va_G) (cI cZ : ClassId) (q : Nat → Nat) {v : Nat → Int32} {n : Nat} {pn : Int32} {al : AlS} {cs : CsS} {ph : PhS} {tm : Nat → Bool} {bx bg : CuS} {wb : va_W} (h : PW cI cZ q v n pn al cs ph tm bx bg wb) {x : Int32} (y : Int32) (h1 : ¬ (0 ≤ x ∧ x < nI al.2.2.2)) : HSi l D cI cZ yL_asks cL_asks 5 [(0, 120, 121, 67)] [.ref (q 0), .int 1, .int x, .int y] wb wb (-3000) 1 6 := by
  obtain ⟨hv, sc, lc, bs, tr, rfl, rfl, hc⟩ := h
  exact mk_HSi (c_L_asks_1x l hl0 D cI cZ (q 0) x y (wB cI cZ q v n pn al cs ph sc lc bs bx bg tr) (wB cI cZ q v n pn al cs ph sc lc bs bx bg tr) (c_X9_alarmKind_x l hl0 D cI cZ (q 0) (q 1) (q 2) (q 3) (q 4) (q 5) (q 6) (q 7) (q 8) (q 9) (q 10) (q 11) (q 12) (q 13) (q 14) (q 15) (q 16) (q 17) (q 18) (q 19) (q 20) (q 21) (q 22) (q 23) v n pn al cs ph sc lc bs bx bg tr x hv.al360 h1) ⟨_, rfl⟩ rfl) (Nat.le_of_ble_eq_true rfl) (Nat.le_of_ble_eq_true rfl) rfl rfl
set_option maxHeartbeats 1000000 in
set_option maxRecDepth 100000 in
theorem sh_asks2x (l : Launch) (hl0 : l.stackTraces = false) (D : va_G) (cI cZ : ClassId) (q : Nat → Nat) {v : Nat → Int32} {n : Nat} {pn : Int32} {al : AlS} {cs : CsS} {ph : PhS} {tm : Nat → Bool} {bx bg : CuS} {wb : va_W} (h : PW cI cZ q v n pn al cs ph tm bx bg wb) {x : Int32} (y : Int32) (h1 : ¬ (0 ≤ x ∧ x < nI al.2.2.2)) : HSi l D cI cZ yL_asks cL_asks 5 [(0, 120, 121, 67)] [.ref (q 0), .int 2, .int x, .int y] wb wb (-3000) 1 6 := by
  obtain ⟨hv, sc, lc, bs, tr, rfl, rfl, hc⟩ := h
  exact mk_HSi (c_L_asks_2x l hl0 D cI cZ (q 0) x y (wB cI cZ q v n pn al cs ph sc lc bs bx bg tr) (wB cI cZ q v n pn al cs ph sc lc bs bx bg tr) (c_X9_alarmNumber_x l hl0 D cI cZ (q 0) (q 1) (q 2) (q 3) (q 4) (q 5) (q 6) (q 7) (q 8) (q 9) (q 10) (q 11) (q 12) (q 13) (q 14) (q 15) (q 16) (q 17) (q 18) (q 19) (q 20) (q 21) (q 22) (q 23) v n pn al cs ph sc lc bs bx bg tr x hv.al360 h1) ⟨_, rfl⟩ rfl) (Nat.le_of_ble_eq_true rfl) (Nat.le_of_ble_eq_true rfl) rfl rfl
set_option maxHeartbeats 1000000 in
set_option maxRecDepth 100000 in
theorem sh_asks4x (l : Launch) (hl0 : l.stackTraces = false) (D : va_G) (cI cZ : ClassId) (q : Nat → Nat) {v : Nat → Int32} {n : Nat} {pn : Int32} {al : AlS} {cs : CsS} {ph : PhS} {tm : Nat → Bool} {bx bg : CuS} {wb : va_W} (h : PW cI cZ q v n pn al cs ph tm bx bg wb) {x y : Int32} (h1 : ¬ (0 ≤ x ∧ x < y ∧ y ≤ nI n)) : HSi l D cI cZ yL_asks cL_asks 5 [(0, 120, 121, 67)] [.ref (q 0), .int 4, .int x, .int y] wb wb (-3000) 1 6 := by
  obtain ⟨hv, sc, lc, bs, tr, rfl, rfl, hc⟩ := h
  exact mk_HSi (c_L_asks_4x l hl0 D cI cZ (q 0) x y (wB cI cZ q v n pn al cs ph sc lc bs bx bg tr) (wB cI cZ q v n pn al cs ph sc lc bs bx bg tr) (c_X9_cost_x l hl0 D cI cZ (q 0) (q 1) (q 2) (q 3) (q 4) (q 5) (q 6) (q 7) (q 8) (q 9) (q 10) (q 11) (q 12) (q 13) (q 14) (q 15) (q 16) (q 17) (q 18) (q 19) (q 20) (q 21) (q 22) (q 23) v n pn al cs ph sc lc bs bx bg tr x y h1) ⟨_, rfl⟩ rfl) (Nat.le_of_ble_eq_true rfl) (Nat.le_of_ble_eq_true rfl) rfl rfl
set_option maxHeartbeats 1000000 in
set_option maxRecDepth 100000 in
theorem sh_asks5x (l : Launch) (hl0 : l.stackTraces = false) (D : va_G) (cI cZ : ClassId) (q : Nat → Nat) {v : Nat → Int32} {n : Nat} {pn : Int32} {al : AlS} {cs : CsS} {ph : PhS} {tm : Nat → Bool} {bx bg : CuS} {wb : va_W} (h : PW cI cZ q v n pn al cs ph tm bx bg wb) {x y : Int32} (h1 : ¬ (0 ≤ x ∧ x < y ∧ y ≤ nI n)) : HSi l D cI cZ yL_asks cL_asks 5 [(0, 120, 121, 67)] [.ref (q 0), .int 5, .int x, .int y] wb wb (-3000) 1 6 := by
  obtain ⟨hv, sc, lc, bs, tr, rfl, rfl, hc⟩ := h
  exact mk_HSi (c_L_asks_5x l hl0 D cI cZ (q 0) x y (wB cI cZ q v n pn al cs ph sc lc bs bx bg tr) (wB cI cZ q v n pn al cs ph sc lc bs bx bg tr) (c_X9_middle_x l hl0 D cI cZ (q 0) (q 1) (q 2) (q 3) (q 4) (q 5) (q 6) (q 7) (q 8) (q 9) (q 10) (q 11) (q 12) (q 13) (q 14) (q 15) (q 16) (q 17) (q 18) (q 19) (q 20) (q 21) (q 22) (q 23) v n pn al cs ph sc lc bs bx bg tr x y h1) ⟨_, rfl⟩ rfl) (Nat.le_of_ble_eq_true rfl) (Nat.le_of_ble_eq_true rfl) rfl rfl
set_option maxHeartbeats 1000000 in
set_option maxRecDepth 100000 in
theorem sh_asks6x (l : Launch) (hl0 : l.stackTraces = false) (D : va_G) (cI cZ : ClassId) (q : Nat → Nat) {v : Nat → Int32} {n : Nat} {pn : Int32} {al : AlS} {cs : CsS} {ph : PhS} {tm : Nat → Bool} {bx bg : CuS} {wb : va_W} (h : PW cI cZ q v n pn al cs ph tm bx bg wb) (hs : bx.2.2.2 = true) {x : Int32} (y : Int32) (h1 : ¬ (0 ≤ x ∧ x < bx.2.1)) : ∃ wb', PW cI cZ q v n pn al cs ph tm bx bg wb' ∧ HSi l D cI cZ yL_asks cL_asks 5 [(0, 120, 121, 67)] [.ref (q 0), .int 6, .int x, .int y] wb wb' (-3000) 1 6 := by
  obtain ⟨hv, sc, lc, bs, tr, rfl, rfl, hc⟩ := h
  have hb := hc.bestx hv.2.1 hv.1 hv.2.2.1 bs
  have e : (if bx.2.2.2 = true then bx else cu_set (sc_learn v n sc).1 n pn (chT (bfL (sc_learn v n sc).1 n pn n bs) n bx)) = bx := if_pos hs
  have e9 := c_X9_change_x l hl0 D cI cZ (q 0) (q 1) (q 2) (q 3) (q 4) (q 5) (q 6) (q 7) (q 8) (q 9) (q 10) (q 11) (q 12) (q 13) (q 14) (q 15) (q 16) (q 17) (q 18) (q 19) (q 20) (q 21) (q 22) (q 23) v n pn al cs ph sc lc bs bx bg tr x hc.1.1 hv.1 (by rw [e]; exact h1)
  rw [e] at e9 hb
  exact ⟨_, ⟨hv, _, _, _, _, rfl, rfl, hb.1⟩, mk_HSi (c_L_asks_6x l hl0 D cI cZ (q 0) x y _ _ e9 ⟨_, rfl⟩ rfl) (Nat.le_of_ble_eq_true rfl) (Nat.le_of_ble_eq_true rfl) rfl rfl⟩
set_option maxHeartbeats 1000000 in
set_option maxRecDepth 100000 in
theorem sh_asks7x (l : Launch) (hl0 : l.stackTraces = false) (D : va_G) (cI cZ : ClassId) (q : Nat → Nat) {v : Nat → Int32} {n : Nat} {pn : Int32} {al : AlS} {cs : CsS} {ph : PhS} {tm : Nat → Bool} {bx bg : CuS} {wb : va_W} (h : PW cI cZ q v n pn al cs ph tm bx bg wb) (hs : bg.2.2.2 = true) {x : Int32} (y : Int32) (h1 : ¬ (0 ≤ x ∧ x < bg.2.1)) : ∃ wb', PW cI cZ q v n pn al cs ph tm bx bg wb' ∧ HSi l D cI cZ yL_asks cL_asks 5 [(0, 120, 121, 67)] [.ref (q 0), .int 7, .int x, .int y] wb wb' (-3000) 1 6 := by
  obtain ⟨hv, sc, lc, bs, tr, rfl, rfl, hc⟩ := h
  have hb := hc.greedyx hv.2.1 hv.1 hv.2.2.1
  have e : (if bg.2.2.2 = true then bg else cu_set (sc_learn v n sc).1 n pn (ggT (sc_learn v n sc).1 n pn bg)) = bg := if_pos hs
  have e9 := c_X9_greedyChange_x l hl0 D cI cZ (q 0) (q 1) (q 2) (q 3) (q 4) (q 5) (q 6) (q 7) (q 8) (q 9) (q 10) (q 11) (q 12) (q 13) (q 14) (q 15) (q 16) (q 17) (q 18) (q 19) (q 20) (q 21) (q 22) (q 23) v n pn al cs ph sc lc bs bx bg tr x hc.1.1 hv.1 (by rw [e]; exact h1)
  rw [e] at e9 hb
  exact ⟨_, ⟨hv, _, _, _, _, rfl, rfl, hb.1⟩, mk_HSi (c_L_asks_7x l hl0 D cI cZ (q 0) x y _ _ e9 ⟨_, rfl⟩ rfl) (Nat.le_of_ble_eq_true rfl) (Nat.le_of_ble_eq_true rfl) rfl rfl⟩
set_option maxHeartbeats 1000000 in
set_option maxRecDepth 100000 in
theorem sh_asks8x (l : Launch) (hl0 : l.stackTraces = false) (D : va_G) (cI cZ : ClassId) (q : Nat → Nat) {v : Nat → Int32} {n : Nat} {pn : Int32} {al : AlS} {cs : CsS} {ph : PhS} {tm : Nat → Bool} {bx bg : CuS} {wb : va_W} (h : PW cI cZ q v n pn al cs ph tm bx bg wb) {x : Int32} (y : Int32) (h1 : ¬ (0 ≤ x ∧ x < nI n)) : HSi l D cI cZ yL_asks cL_asks 5 [(0, 120, 121, 67)] [.ref (q 0), .int 8, .int x, .int y] wb wb (-3000) 1 6 := by
  obtain ⟨hv, sc, lc, bs, tr, rfl, rfl, hc⟩ := h
  exact mk_HSi (c_L_asks_8x l hl0 D cI cZ (q 0) x y (wB cI cZ q v n pn al cs ph sc lc bs bx bg tr) (wB cI cZ q v n pn al cs ph sc lc bs bx bg tr) (c_X9_toggleTruth_x l hl0 D cI cZ (q 0) (q 1) (q 2) (q 3) (q 4) (q 5) (q 6) (q 7) (q 8) (q 9) (q 10) (q 11) (q 12) (q 13) (q 14) (q 15) (q 16) (q 17) (q 18) (q 19) (q 20) (q 21) (q 22) (q 23) v n pn al cs ph sc lc bs bx bg tr x h1) ⟨_, rfl⟩ rfl) (Nat.le_of_ble_eq_true rfl) (Nat.le_of_ble_eq_true rfl) rfl rfl
set_option maxHeartbeats 1000000 in
set_option maxRecDepth 100000 in
theorem sh_asks8 (l : Launch) (hl0 : l.stackTraces = false) (D : va_G) (cI cZ : ClassId) (q : Nat → Nat) {v : Nat → Int32} {n : Nat} {pn : Int32} {al : AlS} {cs : CsS} {ph : PhS} {tm : Nat → Bool} {bx bg : CuS} {wb : va_W} (h : PW cI cZ q v n pn al cs ph tm bx bg wb) {nu : Nat} (y : Int32) (h1 : nu < n) : ∃ wb', PW cI cZ q v n pn al cs ph (updB tm nu (!(tm nu))) bx bg wb' ∧ HSi l D cI cZ yL_asks cL_asks 5 [(0, 120, 121, 67)] [.ref (q 0), .int 8, .int (nI nu), .int y] wb wb' (zb (!(tm nu))) 0 0 := by
  obtain ⟨hv, sc, lc, bs, tr, rfl, rfl, hc⟩ := h
  exact ⟨_, ⟨hv.tog h1 _, sc, lc, bs, (updB tr.1 nu (!(tr.1 nu)), tr.2.1, tr.2.2.1, tr.2.2.2.1, tr.2.2.2.2), rfl, rfl, hc⟩, mk_HSi (c_L_asks_8 l hl0 D cI cZ (q 0) (nI nu) y (wB cI cZ q v n pn al cs ph sc lc bs bx bg tr) (wB cI cZ q v n pn al cs ph sc lc bs bx bg (updB tr.1 nu (!(tr.1 nu)), tr.2.1, tr.2.2.1, tr.2.2.2.1, tr.2.2.2.2)) (!(tr.1 nu)) (c_X9_toggleTruth l D cI cZ (q 0) (q 1) (q 2) (q 3) (q 4) (q 5) (q 6) (q 7) (q 8) (q 9) (q 10) (q 11) (q 12) (q 13) (q 14) (q 15) (q 16) (q 17) (q 18) (q 19) (q 20) (q 21) (q 22) (q 23) v n pn al cs ph sc lc bs bx bg tr nu h1 hv.1) ⟨_, rfl⟩ rfl) (Nat.le_of_ble_eq_true rfl) (Nat.le_of_ble_eq_true rfl) rfl rfl⟩
set_option maxHeartbeats 1000000 in
set_option maxRecDepth 100000 in
theorem sh_leastCost (l : Launch) (hl0 : l.stackTraces = false) (D : va_G) (cI cZ : ClassId) (q : Nat → Nat) {v : Nat → Int32} {n : Nat} {pn : Int32} {al : AlS} {cs : CsS} {ph : PhS} {tm : Nat → Bool} {bx bg : CuS} {wb : va_W} (h : PW cI cZ q v n pn al cs ph tm bx bg wb) {c : Nat} (h1 : c < n) : ∃ wb' r, PW cI cZ q v n pn al cs ph tm bx bg wb' ∧ HSi l D cI cZ yL_leastCost cL_leastCost 3 [(0, 5, 6, 27), (0, 5, 10, 36)] [.ref (q 0), .int (nI c)] wb wb' r 0 0 ∧ ∀ K, SC v n K → r = lsp K c n := by
  obtain ⟨hv, sc, lc, bs, tr, rfl, rfl, hc⟩ := h
  have hl := hc.least hv.2.1 hv.1
  exact ⟨_, _, ⟨hv, _, _, _, _, rfl, rfl, hl.1⟩, mk_HSi (c_L_leastCost_ok l hl0 D cI cZ (q 0) (nI c) (wB cI cZ q v n pn al cs ph sc lc bs bx bg tr) (wB cI cZ q v n pn al cs ph (sc_learn v n sc) (leaL (sc_learn v n sc).1 (n - lc.2) lc.2 lc.1, n) bs bx bg tr) _ (c_X9_leastCost l D cI cZ (q 0) (q 1) (q 2) (q 3) (q 4) (q 5) (q 6) (q 7) (q 8) (q 9) (q 10) (q 11) (q 12) (q 13) (q 14) (q 15) (q 16) (q 17) (q 18) (q 19) (q 20) (q 21) (q 22) (q 23) v n pn al cs ph sc lc bs bx bg tr c hc.1.1 hv.1 (by have := hc.1.1; have := hc.1.2.2.1; omega) h1) ⟨_, rfl⟩ rfl) (Nat.le_of_ble_eq_true rfl) (Nat.le_of_ble_eq_true rfl) rfl rfl, fun K hK => hl.2 c h1 K hK⟩
set_option maxHeartbeats 1000000 in
set_option maxRecDepth 100000 in
theorem sh_leastCostx1 (l : Launch) (hl0 : l.stackTraces = false) (D : va_G) (cI cZ : ClassId) (q : Nat → Nat) {v : Nat → Int32} {n : Nat} {pn : Int32} {al : AlS} {cs : CsS} {ph : PhS} {tm : Nat → Bool} {bx bg : CuS} {wb : va_W} (h : PW cI cZ q v n pn al cs ph tm bx bg wb) {x : Int32} (h1 : ¬ (0 ≤ x ∧ x ≤ 119)) : HSi l D cI cZ yL_leastCost cL_leastCost 3 [(0, 5, 6, 27), (0, 5, 10, 36)] [.ref (q 0), .int x] wb wb (-20) 1 6 := by
  obtain ⟨hv, sc, lc, bs, tr, rfl, rfl, hc⟩ := h
  exact mk_HSi (c_L_leastCost_x1 l hl0 D cI cZ (q 0) x (wB cI cZ q v n pn al cs ph sc lc bs bx bg tr) (wB cI cZ q v n pn al cs ph sc lc bs bx bg tr) (c_X9_leastCost_x1 l hl0 D cI cZ (q 0) (q 1) (q 2) (q 3) (q 4) (q 5) (q 6) (q 7) (q 8) (q 9) (q 10) (q 11) (q 12) (q 13) (q 14) (q 15) (q 16) (q 17) (q 18) (q 19) (q 20) (q 21) (q 22) (q 23) v n pn al cs ph sc lc bs bx bg tr x h1) ⟨_, rfl⟩ rfl) (Nat.le_of_ble_eq_true rfl) (Nat.le_of_ble_eq_true rfl) rfl rfl
set_option maxHeartbeats 1000000 in
set_option maxRecDepth 100000 in
theorem sh_leastCostx2 (l : Launch) (hl0 : l.stackTraces = false) (D : va_G) (cI cZ : ClassId) (q : Nat → Nat) {v : Nat → Int32} {n : Nat} {pn : Int32} {al : AlS} {cs : CsS} {ph : PhS} {tm : Nat → Bool} {bx bg : CuS} {wb : va_W} (h : PW cI cZ q v n pn al cs ph tm bx bg wb) {c : Nat} (h1 : c ≤ 119) (h2 : n ≤ c) : HSi l D cI cZ yL_leastCost cL_leastCost 3 [(0, 5, 6, 27), (0, 5, 10, 36)] [.ref (q 0), .int (nI c)] wb wb (-10) 1 6 := by
  obtain ⟨hv, sc, lc, bs, tr, rfl, rfl, hc⟩ := h
  exact mk_HSi (c_L_leastCost_x2 l hl0 D cI cZ (q 0) (nI c) (wB cI cZ q v n pn al cs ph sc lc bs bx bg tr) (wB cI cZ q v n pn al cs ph sc lc bs bx bg tr) (c_X9_leastCost_x2 l hl0 D cI cZ (q 0) (q 1) (q 2) (q 3) (q 4) (q 5) (q 6) (q 7) (q 8) (q 9) (q 10) (q 11) (q 12) (q 13) (q 14) (q 15) (q 16) (q 17) (q 18) (q 19) (q 20) (q 21) (q 22) (q 23) v n pn al cs ph sc lc bs bx bg tr c hv.1 h1 h2) ⟨_, rfl⟩ rfl) (Nat.le_of_ble_eq_true rfl) (Nat.le_of_ble_eq_true rfl) rfl rfl
set_option maxHeartbeats 1000000 in
set_option maxRecDepth 100000 in
theorem sh_matched0 (l : Launch) (hl0 : l.stackTraces = false) (D : va_G) (cI cZ : ClassId) (q : Nat → Nat) {v : Nat → Int32} {n : Nat} {pn : Int32} {al : AlS} {cs : CsS} {ph : PhS} {tm : Nat → Bool} {bx bg : CuS} {wb : va_W} (h : PW cI cZ q v n pn al cs ph tm bx bg wb) {kd w : Nat} (h1 : kd ≤ 2) (h2 : w ≤ 120) : ∃ wb', PW cI cZ q v n pn al cs ph tm bx bg wb' ∧ HSi l D cI cZ yL_matched cL_matched 5 [(0, 19, 20, 27)] [.ref (q 0), .int 0, .int (nI kd), .int (nI w)] wb wb' (mtc al tm (nI kd) w).2.2.1 0 0 := by
  obtain ⟨hv, sc, lc, bs, tr, rfl, rfl, hc⟩ := h
  have hm := mtc_eq (al := al) (kd := nI kd) (w := w) (tr := tr) hv.num
  have e : (matL al (nI kd) w al.2.2.2 0 (tr_begin tr)).2.2.1 = (mtc al tr.1 (nI kd) w).2.2.1 := by rw [hm.1]
  have e8 : HSi l D cI cZ yL_matched cL_matched 5 [(0, 19, 20, 27)] [.ref (q 0), .int 0, .int (nI kd), .int (nI w)] (wB cI cZ q v n pn al cs ph sc lc bs bx bg tr) (wB cI cZ q v n pn al cs ph sc lc bs bx bg (matL al (nI kd) w al.2.2.2 0 (tr_begin tr))) ((matL al (nI kd) w al.2.2.2 0 (tr_begin tr)).2.2.1) 0 0 := mk_HSi (c_L_matched_0 l hl0 D cI cZ (q 0) (nI kd) (nI w) (wB cI cZ q v n pn al cs ph sc lc bs bx bg tr) (wB cI cZ q v n pn al cs ph sc lc bs bx bg (matL al (nI kd) w al.2.2.2 0 (tr_begin tr))) _ (c_X9_matched l D cI cZ (q 0) (q 1) (q 2) (q 3) (q 4) (q 5) (q 6) (q 7) (q 8) (q 9) (q 10) (q 11) (q 12) (q 13) (q 14) (q 15) (q 16) (q 17) (q 18) (q 19) (q 20) (q 21) (q 22) (q 23) v n pn al cs ph sc lc bs bx bg tr (nI kd) w hv.num hv.al360 ⟨nI_pos' (by omega), (nI_leI (by omega) (by decide)).mpr h1⟩ h2) ⟨_, rfl⟩ rfl) (Nat.le_of_ble_eq_true rfl) (Nat.le_of_ble_eq_true rfl) rfl rfl
  rw [e] at e8
  exact ⟨_, ⟨hv, sc, lc, bs, (matL al (nI kd) w al.2.2.2 0 (tr_begin tr)), rfl, matL_1 _ _ _, hc⟩, e8⟩
set_option maxHeartbeats 1000000 in
set_option maxRecDepth 100000 in
theorem sh_matched0x (l : Launch) (hl0 : l.stackTraces = false) (D : va_G) (cI cZ : ClassId) (q : Nat → Nat) {v : Nat → Int32} {n : Nat} {pn : Int32} {al : AlS} {cs : CsS} {ph : PhS} {tm : Nat → Bool} {bx bg : CuS} {wb : va_W} (h : PW cI cZ q v n pn al cs ph tm bx bg wb) {x y : Int32} (h1 : ¬ ((0 ≤ x ∧ x ≤ 2) ∧ (0 ≤ y ∧ y ≤ 120))) : HSi l D cI cZ yL_matched cL_matched 5 [(0, 19, 20, 27)] [.ref (q 0), .int 0, .int x, .int y] wb wb (-20) 1 6 := by
  obtain ⟨hv, sc, lc, bs, tr, rfl, rfl, hc⟩ := h
  exact mk_HSi (c_L_matched_0x l hl0 D cI cZ (q 0) x y (wB cI cZ q v n pn al cs ph sc lc bs bx bg tr) (wB cI cZ q v n pn al cs ph sc lc bs bx bg tr) (c_X9_matched_x l hl0 D cI cZ (q 0) (q 1) (q 2) (q 3) (q 4) (q 5) (q 6) (q 7) (q 8) (q 9) (q 10) (q 11) (q 12) (q 13) (q 14) (q 15) (q 16) (q 17) (q 18) (q 19) (q 20) (q 21) (q 22) (q 23) v n pn al cs ph sc lc bs bx bg tr x y h1) ⟨_, rfl⟩ rfl) (Nat.le_of_ble_eq_true rfl) (Nat.le_of_ble_eq_true rfl) rfl rfl
set_option maxHeartbeats 1000000 in
set_option maxRecDepth 100000 in
theorem sh_matched1 (l : Launch) (hl0 : l.stackTraces = false) (D : va_G) (cI cZ : ClassId) (q : Nat → Nat) {v : Nat → Int32} {n : Nat} {pn : Int32} {al : AlS} {cs : CsS} {ph : PhS} {tm : Nat → Bool} {bx bg : CuS} {wb : va_W} (h : PW cI cZ q v n pn al cs ph tm bx bg wb) {kd w : Nat} (h1 : kd ≤ 2) (h2 : w ≤ 120) : ∃ wb', PW cI cZ q v n pn al cs ph tm bx bg wb' ∧ HSi l D cI cZ yL_matched cL_matched 5 [(0, 19, 20, 27)] [.ref (q 0), .int 1, .int (nI kd), .int (nI w)] wb wb' (mtc al tm (nI kd) w).2.2.2.1 0 0 := by
  obtain ⟨hv, sc, lc, bs, tr, rfl, rfl, hc⟩ := h
  have hm := mtc_eq (al := al) (kd := nI kd) (w := w) (tr := tr) hv.num
  have e : (matL al (nI kd) w al.2.2.2 0 (tr_begin tr)).2.2.2.1 = (mtc al tr.1 (nI kd) w).2.2.2.1 := by rw [hm.1]
  have e8 : HSi l D cI cZ yL_matched cL_matched 5 [(0, 19, 20, 27)] [.ref (q 0), .int 1, .int (nI kd), .int (nI w)] (wB cI cZ q v n pn al cs ph sc lc bs bx bg tr) (wB cI cZ q v n pn al cs ph sc lc bs bx bg (matL al (nI kd) w al.2.2.2 0 (tr_begin tr))) ((matL al (nI kd) w al.2.2.2 0 (tr_begin tr)).2.2.2.1) 0 0 := mk_HSi (c_L_matched_1 l hl0 D cI cZ (q 0) (nI kd) (nI w) (wB cI cZ q v n pn al cs ph sc lc bs bx bg tr) (wB cI cZ q v n pn al cs ph sc lc bs bx bg (matL al (nI kd) w al.2.2.2 0 (tr_begin tr))) _ (c_X9_falseAlarms l D cI cZ (q 0) (q 1) (q 2) (q 3) (q 4) (q 5) (q 6) (q 7) (q 8) (q 9) (q 10) (q 11) (q 12) (q 13) (q 14) (q 15) (q 16) (q 17) (q 18) (q 19) (q 20) (q 21) (q 22) (q 23) v n pn al cs ph sc lc bs bx bg tr (nI kd) w hv.num hv.al360 ⟨nI_pos' (by omega), (nI_leI (by omega) (by decide)).mpr h1⟩ h2) ⟨_, rfl⟩ rfl) (Nat.le_of_ble_eq_true rfl) (Nat.le_of_ble_eq_true rfl) rfl rfl
  rw [e] at e8
  exact ⟨_, ⟨hv, sc, lc, bs, (matL al (nI kd) w al.2.2.2 0 (tr_begin tr)), rfl, matL_1 _ _ _, hc⟩, e8⟩
set_option maxHeartbeats 1000000 in
set_option maxRecDepth 100000 in
theorem sh_matched1x (l : Launch) (hl0 : l.stackTraces = false) (D : va_G) (cI cZ : ClassId) (q : Nat → Nat) {v : Nat → Int32} {n : Nat} {pn : Int32} {al : AlS} {cs : CsS} {ph : PhS} {tm : Nat → Bool} {bx bg : CuS} {wb : va_W} (h : PW cI cZ q v n pn al cs ph tm bx bg wb) {x y : Int32} (h1 : ¬ ((0 ≤ x ∧ x ≤ 2) ∧ (0 ≤ y ∧ y ≤ 120))) : HSi l D cI cZ yL_matched cL_matched 5 [(0, 19, 20, 27)] [.ref (q 0), .int 1, .int x, .int y] wb wb (-20) 1 6 := by
  obtain ⟨hv, sc, lc, bs, tr, rfl, rfl, hc⟩ := h
  exact mk_HSi (c_L_matched_1x l hl0 D cI cZ (q 0) x y (wB cI cZ q v n pn al cs ph sc lc bs bx bg tr) (wB cI cZ q v n pn al cs ph sc lc bs bx bg tr) (c_X9_falseAlarms_x l hl0 D cI cZ (q 0) (q 1) (q 2) (q 3) (q 4) (q 5) (q 6) (q 7) (q 8) (q 9) (q 10) (q 11) (q 12) (q 13) (q 14) (q 15) (q 16) (q 17) (q 18) (q 19) (q 20) (q 21) (q 22) (q 23) v n pn al cs ph sc lc bs bx bg tr x y h1) ⟨_, rfl⟩ rfl) (Nat.le_of_ble_eq_true rfl) (Nat.le_of_ble_eq_true rfl) rfl rfl
set_option maxHeartbeats 1000000 in
set_option maxRecDepth 100000 in
theorem sh_delay (l : Launch) (hl0 : l.stackTraces = false) (D : va_G) (cI cZ : ClassId) (q : Nat → Nat) {v : Nat → Int32} {n : Nat} {pn : Int32} {al : AlS} {cs : CsS} {ph : PhS} {tm : Nat → Bool} {bx bg : CuS} {wb : va_W} (h : PW cI cZ q v n pn al cs ph tm bx bg wb) {kd w hh dl : Nat} {z : Int32} (h1 : kd ≤ 2) (h2 : w ≤ 120) (h3 : (mtc al tm (nI kd) w).2.2 = (nI hh, z, nI dl)) (h4 : 0 < hh) (h5 : hh ≤ 120) : ∃ wb', PW cI cZ q v n pn al cs ph tm bx bg wb' ∧ HSf l D cI cZ yL_delay cL_delay 4 [(0, 6, 7, 27), (0, 6, 11, 36)] [.ref (q 0), .int (nI kd), .int (nI w)] wb wb' (FP.fdiv (FP.i2f (nI dl)) (FP.i2f (nI hh))) 0 0 := by
  obtain ⟨hv, sc, lc, bs, tr, rfl, rfl, hc⟩ := h
  have hm := mtc_eq (al := al) (kd := nI kd) (w := w) (tr := tr) hv.num
  have e1 : (matL al (nI kd) w al.2.2.2 0 (tr_begin tr)).2.2.1 = nI hh := by rw [hm.1, h3]
  have e2 : (matL al (nI kd) w al.2.2.2 0 (tr_begin tr)).2.2.2.2 = nI dl := by rw [hm.1, h3]
  have h8 : 0 < (matL al (nI kd) w al.2.2.2 0 (tr_begin tr)).2.2.1 := by rw [e1]; exact (nI_ltI (a := 0) (by decide) (by omega)).mpr h4
  have h9 : vf_n32 (FP.fdiv (FP.i2f (matL al (nI kd) w al.2.2.2 0 (tr_begin tr)).2.2.2.2) (FP.i2f (matL al (nI kd) w al.2.2.2 0 (tr_begin tr)).2.2.1)) := by rw [e1]; exact fd_ok _ h4 (by omega)
  have e8 : HSf l D cI cZ yL_delay cL_delay 4 [(0, 6, 7, 27), (0, 6, 11, 36)] [.ref (q 0), .int (nI kd), .int (nI w)] (wB cI cZ q v n pn al cs ph sc lc bs bx bg tr) (wB cI cZ q v n pn al cs ph sc lc bs bx bg (matL al (nI kd) w al.2.2.2 0 (tr_begin tr))) (FP.fdiv (FP.i2f (matL al (nI kd) w al.2.2.2 0 (tr_begin tr)).2.2.2.2) (FP.i2f (matL al (nI kd) w al.2.2.2 0 (tr_begin tr)).2.2.1)) 0 0 := mk_HSf (c_L_delay_ok l hl0 D cI cZ (q 0) (nI kd) (nI w) (wB cI cZ q v n pn al cs ph sc lc bs bx bg tr) (wB cI cZ q v n pn al cs ph sc lc bs bx bg (matL al (nI kd) w al.2.2.2 0 (tr_begin tr))) _ (c_X9_averageDelay l D cI cZ (q 0) (q 1) (q 2) (q 3) (q 4) (q 5) (q 6) (q 7) (q 8) (q 9) (q 10) (q 11) (q 12) (q 13) (q 14) (q 15) (q 16) (q 17) (q 18) (q 19) (q 20) (q 21) (q 22) (q 23) v n pn al cs ph sc lc bs bx bg tr (nI kd) w hv.num hv.al360 ⟨nI_pos' (by omega), (nI_leI (by omega) (by decide)).mpr h1⟩ h2 h8 h9) ⟨_, rfl⟩ rfl) (Nat.le_of_ble_eq_true rfl) (Nat.le_of_ble_eq_true rfl) rfl rfl
  rw [e1, e2] at e8
  exact ⟨_, ⟨hv, sc, lc, bs, (matL al (nI kd) w al.2.2.2 0 (tr_begin tr)), rfl, matL_1 _ _ _, hc⟩, e8⟩
set_option maxHeartbeats 1000000 in
set_option maxRecDepth 100000 in
theorem sh_delayx2 (l : Launch) (hl0 : l.stackTraces = false) (D : va_G) (cI cZ : ClassId) (q : Nat → Nat) {v : Nat → Int32} {n : Nat} {pn : Int32} {al : AlS} {cs : CsS} {ph : PhS} {tm : Nat → Bool} {bx bg : CuS} {wb : va_W} (h : PW cI cZ q v n pn al cs ph tm bx bg wb) {kd w dl : Nat} {z : Int32} (h1 : kd ≤ 2) (h2 : w ≤ 120) (h3 : (mtc al tm (nI kd) w).2.2 = (nI 0, z, nI dl)) : ∃ wb', PW cI cZ q v n pn al cs ph tm bx bg wb' ∧ HSf l D cI cZ yL_delay cL_delay 4 [(0, 6, 7, 27), (0, 6, 11, 36)] [.ref (q 0), .int (nI kd), .int (nI w)] wb wb' 3240099840 1 6 := by
  obtain ⟨hv, sc, lc, bs, tr, rfl, rfl, hc⟩ := h
  have hm := mtc_eq (al := al) (kd := nI kd) (w := w) (tr := tr) hv.num
  have e1 : (matL al (nI kd) w al.2.2.2 0 (tr_begin tr)).2.2.1 = nI 0 := by rw [hm.1, h3]
  exact ⟨_, ⟨hv, sc, lc, bs, (matL al (nI kd) w al.2.2.2 0 (tr_begin tr)), rfl, matL_1 _ _ _, hc⟩, mk_HSf (c_L_delay_x2 l hl0 D cI cZ (q 0) (nI kd) (nI w) (wB cI cZ q v n pn al cs ph sc lc bs bx bg tr) (wB cI cZ q v n pn al cs ph sc lc bs bx bg (matL al (nI kd) w al.2.2.2 0 (tr_begin tr))) (c_X9_averageDelay_x2 l hl0 D cI cZ (q 0) (q 1) (q 2) (q 3) (q 4) (q 5) (q 6) (q 7) (q 8) (q 9) (q 10) (q 11) (q 12) (q 13) (q 14) (q 15) (q 16) (q 17) (q 18) (q 19) (q 20) (q 21) (q 22) (q 23) v n pn al cs ph sc lc bs bx bg tr (nI kd) w hv.num hv.al360 ⟨nI_pos' (by omega), (nI_leI (by omega) (by decide)).mpr h1⟩ h2 (by rw [e1]; decide)) ⟨_, rfl⟩ rfl) (Nat.le_of_ble_eq_true rfl) (Nat.le_of_ble_eq_true rfl) rfl rfl⟩
set_option maxHeartbeats 1000000 in
set_option maxRecDepth 100000 in
theorem sh_delayx1 (l : Launch) (hl0 : l.stackTraces = false) (D : va_G) (cI cZ : ClassId) (q : Nat → Nat) {v : Nat → Int32} {n : Nat} {pn : Int32} {al : AlS} {cs : CsS} {ph : PhS} {tm : Nat → Bool} {bx bg : CuS} {wb : va_W} (h : PW cI cZ q v n pn al cs ph tm bx bg wb) {x y : Int32} (h1 : ¬ ((0 ≤ x ∧ x ≤ 2) ∧ (0 ≤ y ∧ y ≤ 120))) : HSf l D cI cZ yL_delay cL_delay 4 [(0, 6, 7, 27), (0, 6, 11, 36)] [.ref (q 0), .int x, .int y] wb wb 3248488448 1 6 := by
  obtain ⟨hv, sc, lc, bs, tr, rfl, rfl, hc⟩ := h
  exact mk_HSf (c_L_delay_x1 l hl0 D cI cZ (q 0) x y (wB cI cZ q v n pn al cs ph sc lc bs bx bg tr) (wB cI cZ q v n pn al cs ph sc lc bs bx bg tr) (c_X9_averageDelay_x1 l hl0 D cI cZ (q 0) (q 1) (q 2) (q 3) (q 4) (q 5) (q 6) (q 7) (q 8) (q 9) (q 10) (q 11) (q 12) (q 13) (q 14) (q 15) (q 16) (q 17) (q 18) (q 19) (q 20) (q 21) (q 22) (q 23) v n pn al cs ph sc lc bs bx bg tr x y h1) ⟨_, rfl⟩ rfl) (Nat.le_of_ble_eq_true rfl) (Nat.le_of_ble_eq_true rfl) rfl rfl
