/-! The reference's plotted. -/
def bxV (X Y D : Nat → Int64) (q : Nat) (a b c d : Int64) : Prop := ∃ k, q = k + 1 ∧ mnF X D k = a ∧ mnF Y D k = b ∧ mxF X D k = c ∧ mxF Y D k = d
def plOK (px py sg : Nat → Int32) (n : Nat) (fi se tk : Nat → Int32) (z m : Nat) (bl bb br bt : Nat → Int64) (L : Nat → Nat) : Prop := (∀ p, p < z → paP px py sg n (fi p) (se p) ∧ (∃ X' Y' D' q, rnR px py sg (fi p).toNatClampNeg (se p).toNatClampNeg X' Y' D' q) ∧ ∀ X' Y' D' q, rnR px py sg (fi p).toNatClampNeg (se p).toNatClampNeg X' Y' D' q → bxV X' Y' D' q (bl p) (bb p) (br p) (bt p)) ∧ ∀ t, t < m → lsP tk z (nI t) (L t)
abbrev sqM (bl bb br bt : Nat → Int64) (a b c d : Int64) (p : Nat) : Int64 := gmF a c (bl p) (br p) * gmF a c (bl p) (br p) + gmF b d (bb p) (bt p) * gmF b d (bb p) (bt p)
abbrev wyM (sg fi : Nat → Int32) (sp mu : Int32) (p : Nat) : Int64 := sp.toInt64 * (mu - sg (6 * (fi p).toNatClampNeg + 1)).toInt64
abbrev nmP (sg fi : Nat → Int32) (bl bb br bt : Nat → Int64) (sp mu : Int32) (a b c d : Int64) (p : Nat) (N : Int32 × Int64) : Prop := 0 < mu - sg (6 * (fi p).toNatClampNeg + 1) ∧ sqM bl bb br bt a b c d p ≤ wyM sg fi sp mu p * wyM sg fi sp mu p ∧ (N.1 = -1 ∨ sqM bl bb br bt a b c d p < N.2)
def nmF (sg fi : Nat → Int32) (bl bb br bt : Nat → Int64) (L : Nat → Nat) (sp mu : Int32) (a b c d : Int64) : Nat → Int32 × Int64
  | 0 => (-1, 0)
  | t + 1 => if nmP sg fi bl bb br bt sp mu a b c d (L t) (nmF sg fi bl bb br bt L sp mu a b c d t) then (nI t, sqM bl bb br bt a b c d (L t)) else nmF sg fi bl bb br bt L sp mu a b c d t
theorem nmF_in (sg fi : Nat → Int32) (bl bb br bt : Nat → Int64) (L : Nat → Nat) (sp mu : Int32) (a b c d : Int64) : ∀ m, (nmF sg fi bl bb br bt L sp mu a b c d m).1 = -1 ∨ ∃ t, t < m ∧ (nmF sg fi bl bb br bt L sp mu a b c d m).1 = nI t
  | 0 => Or.inl rfl
  | t + 1 => by
    unfold nmF
    split
    · exact Or.inr ⟨t, by omega, rfl⟩
    · rcases nmF_in sg fi bl bb br bt L sp mu a b c d t with z | ⟨u, z1, z2⟩
      · exact Or.inl z
      · exact Or.inr ⟨u, by omega, z2⟩
abbrev wMz (o : rz_C) (px py sg fi se tk : Nat → Int32) (A B C X Y D bx : Nat → Int64) : rz_W := [(50, o), (51, ri 6 px), (52, ri 6 py), (57, ri 600 sg), (67, rl 4 A), (68, rl 4 B), (69, rl 4 C), (70, rl 8 X), (71, rl 8 Y), (72, rl 8 D), (73, rl 4 bx), (58, ri 60 fi), (59, ri 60 se), (60, ri 60 tk)]
abbrev kMz : List Nat := [50, 51, 52, 57, 67, 68, 69, 70, 71, 72, 73, 58, 59, 60]
def sMz (w : rz_W) (A B C X Y D bx : Nat → Int64) (k : Int32) : rz_W := rz_set (sMq w A B C X Y D k) 73 (rl 4 bx)
def hbP (px py sg : Nat → Int32) (i j : Nat) (bx : Nat → Int64) (a b c d : Int64) : Prop := ∃ (X2 Y2 D2 : Nat → Int64) (q : Nat), rnR px py sg i j X2 Y2 D2 q ∧ a = bxN X2 Y2 D2 bx q 0 ∧ b = bxN X2 Y2 D2 bx q 1 ∧ c = bxN X2 Y2 D2 bx q 2 ∧ d = bxN X2 Y2 D2 bx q 3
theorem bxV_N {X Y D bx : Nat → Int64} {q : Nat} {a b c d : Int64} (h : bxV X Y D q a b c d) : bxN X Y D bx q 0 = a ∧ bxN X Y D bx q 1 = b ∧ bxN X Y D bx q 2 = c ∧ bxN X Y D bx q 3 = d := by
  obtain ⟨k, rfl, rfl, rfl, rfl, rfl⟩ := h
  exact ⟨rfl, rfl, rfl, rfl⟩
def ce_X7_plotted : rz_K := (3, kMz, 0, false, fun av w => ∃ (px py sg fi se tk : Nat → Int32) (A B C X Y D bx bl bb br bt : Nat → Int64) (L : Nat → Nat) (th po re nw bo pn ca sp co x y : Int32) (n z m : Nat), av = [.ref 50, .int x, .int y] ∧ w = wMz (oMo th po re nw (nI n) (nI z) (nI m) bo pn ca sp co) px py sg fi se tk A B C X Y D bx ∧ n ≤ 100 ∧ z ≤ 60 ∧ m ≤ z ∧ (∀ i, i < n → vp_in (sg (6 * i + 0)) 6) ∧ plOK px py sg n fi se tk z m bl bb br bt L, fun av w o w' => ∀ n z m, rF w 50 10 = nI n → n ≤ 100 → rF w 50 11 = nI z → z ≤ 60 → rF w 50 12 = nI m → m ≤ z → ∃ (A' B' C' X' Y' D' : Nat → Int64) (k r : Int32), mmR (rI w 51) (rI w 52) (rI w 57) n (rJ w 67) (rJ w 68) (rJ w 69) (rJ w 70) (rJ w 71) (rJ w 72) (rF w 50 33) (rA av 1) (rA av 2) r A' B' C' X' Y' D' k ∧ if r = 1 ∧ (z < 60 ∧ ∀ p, p < z → ¬ duP (rI w 58) (rI w 59) (rA av 1) (rA av 2) p) then ∃ (bl bb br bt : Nat → Int64) (L : Nat → Nat) (a b c d : Int64), plOK (rI w 51) (rI w 52) (rI w 57) n (rI w 58) (rI w 59) (rI w 60) z m bl bb br bt L ∧ hbP (rI w 51) (rI w 52) (rI w 57) (rA av 1).toNatClampNeg (rA av 2).toNatClampNeg (rJ w 73) a b c d ∧ ∃ T, T = trF (nmF (rI w 57) (rI w 58) bl bb br bt L (rF w 50 16) (rI w 57 (6 * (rA av 1).toNatClampNeg + 1)) a b c d m).1 m ∧ rR o = nI T ∧ T ≤ m ∧ ∃ (A3 B3 C3 X3 Y3 D3 bx3 : Nat → Int64) (k3 : Int32), w' = rz_set (rz_set (rz_set (mset (mset (sMz (mset w 0 0) A3 B3 C3 X3 Y3 D3 bx3 k3) 11 (nI (z + 1))) 12 (nI (if T = m then m + 1 else m))) 58 (ri 60 (upd (rI w 58) z (rA av 1)))) 59 (ri 60 (upd (rI w 59) z (rA av 2)))) 60 (ri 60 (upd (rI w 60) z (nI T))) else rR o = -1 ∧ w' = sMq (mset w 0 0) A' B' C' X' Y' D' k)
def cl_X7_plotted : List (Nat × rz_K) := [(184, ce_X7_gap)]
def cv_X7_plotted : List (Nat × rz_K) := [(119, ce_X7_of), (150, ce_X7_meets), (172, ce_X7_boxOf), (181, ce_X7_latest)]
set_option maxHeartbeats 16000000 in
theorem vc_X7_plotted : rz_VC k_X7_plotted fl_X7 cl_X7_plotted cv_X7_plotted s_X7_plotted false 26 ce_X7_plotted := by
  intro av w hlen hk hpre
  obtain ⟨px, py, sg, fi, se, tk, A, B, C, X, Y, D, bx, bl, bb, br, bt, L, th, po, re, nw, bo, pn, ca, sp, co, x, y, n, z, m, rfl, rfl, hn, hz, hm, hsg, hpl⟩ := hpre
  have b0 : vp_in 0 4 := vp_in_iff.mpr (by decide)
  have b1 : vp_in 1 4 := vp_in_iff.mpr (by decide)
  have b2 : vp_in 2 4 := vp_in_iff.mpr (by decide)
  have b3 : vp_in 3 4 := vp_in_iff.mpr (by decide)
  have no : ∀ (A' B' C' X' Y' D' : Nat → Int64) (k r : Int32), mmR px py sg n A B C X Y D co x y r A' B' C' X' Y' D' k → ¬ (r = 1 ∧ (z < 60 ∧ ∀ p, p < z → ¬ duP fi se x y p)) → rz_end ce_X7_plotted [.ref 50, .int x, .int y] (wMz (oMo th po re nw (nI n) (nI z) (nI m) bo pn ca sp co) px py sg fi se tk A B C X Y D bx) (some (.int (-1))) (wMz (oMo 0 po re nw (nI n) (nI z) (nI m) bo pn ca sp k) px py sg fi se tk A' B' C' X' Y' D' bx) := by
    intro A' B' C' X' Y' D' k r h1 h2
    refine ⟨⟨_, rfl⟩, fun z => (by cases z), ?_⟩
    intro n' z' m' e1 g1 e2 g2 e3 g3
    have e1 : n = n' := nI_inj (by omega) (by omega) e1
    have e2 : z = z' := nI_inj (by omega) (by omega) e2
    have e3 : m = m' := nI_inj (by omega) (by omega) e3
    subst e1 e2 e3
    exact ⟨A', B', C', X', Y', D', k, r, h1, if_no h2 ⟨rfl, rfl⟩⟩
  have e1w : ∀ (t : Int32) (k k' : Int32) (A1 B1 C1 X1 Y1 D1 A' B' C' X' Y' D' bx' : Nat → Int64), rz_back (wMz (oMo t po re nw (nI n) (nI z) (nI m) bo pn ca sp k) px py sg fi se tk A1 B1 C1 X1 Y1 D1 bx') (wMq (oMo t po re nw (nI n) (nI z) (nI m) bo pn ca sp k') px py sg A' B' C' X' Y' D') = wMz (oMo t po re nw (nI n) (nI z) (nI m) bo pn ca sp k') px py sg fi se tk A' B' C' X' Y' D' bx' := fun t k k' A1 B1 C1 X1 Y1 D1 A' B' C' X' Y' D' bx' => rz_back_pre (w := wMq (oMo t po re nw (nI n) (nI z) (nI m) bo pn ca sp k) px py sg A1 B1 C1 X1 Y1 D1) (q := [(73, rl 4 bx'), (58, ri 60 fi), (59, ri 60 se), (60, ri 60 tk)]) rfl (show kMq.Nodup by decide +kernel)
  have e2w : ∀ (t : Int32) (k k' : Int32) (A1 B1 C1 X1 Y1 D1 A' B' C' X' Y' D' bx1 bx' : Nat → Int64), rz_back (wMz (oMo t po re nw (nI n) (nI z) (nI m) bo pn ca sp k) px py sg fi se tk A1 B1 C1 X1 Y1 D1 bx1) (wMy (oMo t po re nw (nI n) (nI z) (nI m) bo pn ca sp k') px py sg A' B' C' X' Y' D' bx') = wMz (oMo t po re nw (nI n) (nI z) (nI m) bo pn ca sp k') px py sg fi se tk A' B' C' X' Y' D' bx' := fun t k k' A1 B1 C1 X1 Y1 D1 A' B' C' X' Y' D' bx1 bx' => rz_back_pre (w := wMy (oMo t po re nw (nI n) (nI z) (nI m) bo pn ca sp k) px py sg A1 B1 C1 X1 Y1 D1 bx1) (q := [(58, ri 60 fi), (59, ri 60 se), (60, ri 60 tk)]) rfl (show kMy.Nodup by decide +kernel)
  refine ⟨Nat.le_of_ble_eq_true rfl, [
    (5, [0, 1, 2], fun v lv w' => lv = [(0, .ref 50), (1, .int x), (2, .int y)] ∧ w' = wMz (oMo 0 po re nw (nI n) (nI z) (nI m) bo pn ca sp co) px py sg fi se tk A B C X Y D bx ∧ v = 1990),
    (28, [0, 1, 2, 3], fun v lv w' => ∃ (A' B' C' X' Y' D' : Nat → Int64) (k r : Int32) (p : Nat), mmR px py sg n A B C X Y D co x y r A' B' C' X' Y' D' k ∧ r = 1 ∧ z < 60 ∧ p ≤ z ∧ (∀ q, q < p → ¬ duP fi se x y q) ∧ lv = [(0, .ref 50), (1, .int x), (2, .int y), (3, .int (nI p))] ∧ w' = wMz (oMo 0 po re nw (nI n) (nI z) (nI m) bo pn ca sp k) px py sg fi se tk A' B' C' X' Y' D' bx ∧ v = 1000 + (z - p) * 10 + 1),
    (78, [0, 1, 2, 3], fun v lv w' => ∃ (A' B' C' X' Y' D' : Nat → Int64) (k r : Int32) (p : Nat), mmR px py sg n A B C X Y D co x y r A' B' C' X' Y' D' k ∧ r = 1 ∧ z < 60 ∧ p < z ∧ (∀ q, q < p + 1 → ¬ duP fi se x y q) ∧ lv = [(0, .ref 50), (1, .int x), (2, .int y), (3, .int (nI p))] ∧ w' = wMz (oMo 0 po re nw (nI n) (nI z) (nI m) bo pn ca sp k) px py sg fi se tk A' B' C' X' Y' D' bx ∧ v = 1000 + (z - p) * 10),
    (90, [0, 1, 2], fun v lv w' => ∃ (A' B' C' X' Y' D' : Nat → Int64) (k r : Int32), mmR px py sg n A B C X Y D co x y r A' B' C' X' Y' D' k ∧ (r = 1 ∧ z < 60 ∧ ∀ q, q < z → ¬ duP fi se x y q) ∧ ∃ (A2 B2 C2 X2 Y2 D2 : Nat → Int64) (q : Nat), rnR px py sg x.toNatClampNeg y.toNatClampNeg X2 Y2 D2 q ∧ lv = [(0, .ref 50), (1, .int x), (2, .int y)] ∧ w' = wMz (oMo 0 po re nw (nI n) (nI z) (nI m) bo pn ca sp (nI q)) px py sg fi se tk A2 B2 C2 X2 Y2 D2 (bxN X2 Y2 D2 bx q) ∧ v = 900),
    (138, [0, 1, 2, 3, 5, 7, 9, 11, 12, 13, 15], fun v lv w' => ∃ (A' B' C' X' Y' D' : Nat → Int64) (k r : Int32), mmR px py sg n A B C X Y D co x y r A' B' C' X' Y' D' k ∧ (r = 1 ∧ z < 60 ∧ ∀ q, q < z → ¬ duP fi se x y q) ∧ ∃ (a b c d : Int64) (t : Nat), hbP px py sg x.toNatClampNeg y.toNatClampNeg bx a b c d ∧ t ≤ m ∧ ∃ (A2 B2 C2 X2 Y2 D2 bx2 : Nat → Int64) (k2 : Int32), lv = [(0, .ref 50), (1, .int x), (2, .int y), (3, .long a), (5, .long b), (7, .long c), (9, .long d), (11, .int (sg (6 * x.toNatClampNeg + 1))), (12, .int (nmF sg fi bl bb br bt L sp (sg (6 * x.toNatClampNeg + 1)) a b c d t).1), (13, .long (nmF sg fi bl bb br bt L sp (sg (6 * x.toNatClampNeg + 1)) a b c d t).2), (15, .int (nI t))] ∧ w' = wMz (oMo 0 po re nw (nI n) (nI z) (nI m) bo pn ca sp k2) px py sg fi se tk A2 B2 C2 X2 Y2 D2 bx2 ∧ v = (m - t) * 10 + 105),
    (198, [0, 1, 2, 3, 5, 7, 9, 11, 12, 13, 15, 17], fun v lv w' => ∃ (A' B' C' X' Y' D' : Nat → Int64) (k r : Int32), mmR px py sg n A B C X Y D co x y r A' B' C' X' Y' D' k ∧ (r = 1 ∧ z < 60 ∧ ∀ q, q < z → ¬ duP fi se x y q) ∧ ∃ (a b c d : Int64) (t : Nat), hbP px py sg x.toNatClampNeg y.toNatClampNeg bx a b c d ∧ t < m ∧ ∃ (A2 B2 C2 X2 Y2 D2 bx2 : Nat → Int64) (k2 : Int32), 0 < sg (6 * x.toNatClampNeg + 1) - sg (6 * (fi (L t)).toNatClampNeg + 1) ∧ (bx2 0 = bl (L t) ∧ bx2 1 = bb (L t) ∧ bx2 2 = br (L t) ∧ bx2 3 = bt (L t)) ∧ lv = [(0, .ref 50), (1, .int x), (2, .int y), (3, .long a), (5, .long b), (7, .long c), (9, .long d), (11, .int (sg (6 * x.toNatClampNeg + 1))), (12, .int (nmF sg fi bl bb br bt L sp (sg (6 * x.toNatClampNeg + 1)) a b c d t).1), (13, .long (nmF sg fi bl bb br bt L sp (sg (6 * x.toNatClampNeg + 1)) a b c d t).2), (15, .int (nI t)), (17, .int (sg (6 * x.toNatClampNeg + 1) - sg (6 * (fi (L t)).toNatClampNeg + 1)))] ∧ w' = wMz (oMo 0 po re nw (nI n) (nI z) (nI m) bo pn ca sp k2) px py sg fi se tk A2 B2 C2 X2 Y2 D2 bx2 ∧ v = (m - t) * 10 + 104),
    (299, [0, 1, 2, 3, 5, 7, 9, 11, 12, 13, 15], fun v lv w' => ∃ (A' B' C' X' Y' D' : Nat → Int64) (k r : Int32), mmR px py sg n A B C X Y D co x y r A' B' C' X' Y' D' k ∧ (r = 1 ∧ z < 60 ∧ ∀ q, q < z → ¬ duP fi se x y q) ∧ ∃ (a b c d : Int64) (t : Nat), hbP px py sg x.toNatClampNeg y.toNatClampNeg bx a b c d ∧ t < m ∧ ∃ (A2 B2 C2 X2 Y2 D2 bx2 : Nat → Int64) (k2 : Int32) (N : Int32 × Int64), N = nmF sg fi bl bb br bt L sp (sg (6 * x.toNatClampNeg + 1)) a b c d (t + 1) ∧ lv = [(0, .ref 50), (1, .int x), (2, .int y), (3, .long a), (5, .long b), (7, .long c), (9, .long d), (11, .int (sg (6 * x.toNatClampNeg + 1))), (12, .int N.1), (13, .long N.2), (15, .int (nI t))] ∧ w' = wMz (oMo 0 po re nw (nI n) (nI z) (nI m) bo pn ca sp k2) px py sg fi se tk A2 B2 C2 X2 Y2 D2 bx2 ∧ v = (m - t) * 10 + 103),
    (327, [0, 1, 2, 12], fun v lv w' => ∃ (A' B' C' X' Y' D' : Nat → Int64) (k r : Int32), mmR px py sg n A B C X Y D co x y r A' B' C' X' Y' D' k ∧ (r = 1 ∧ z < 60 ∧ ∀ q, q < z → ¬ duP fi se x y q) ∧ ∃ (a b c d : Int64) (T : Nat), hbP px py sg x.toNatClampNeg y.toNatClampNeg bx a b c d ∧ T = trF (nmF sg fi bl bb br bt L sp (sg (6 * x.toNatClampNeg + 1)) a b c d m).1 m ∧ T ≤ m ∧ ∃ (A2 B2 C2 X2 Y2 D2 bx2 : Nat → Int64) (k2 : Int32), lv = [(0, .ref 50), (1, .int x), (2, .int y), (12, .int (nI T))] ∧ w' = wMz (oMo 0 po re nw (nI n) (nI z) (nI (if T = m then m + 1 else m)) bo pn ca sp k2) px py sg fi se tk A2 B2 C2 X2 Y2 D2 bx2 ∧ v = 5)], 130, 2000, ?_, ?_⟩
  · intro y1 hq1 v lv w' hJ
    rcases List.mem_cons.mp hq1 with rfl | hq1
    · obtain ⟨rfl, rfl, rfl⟩ := hJ
      conv => whnf
      refine ⟨⟨px, py, sg, A, B, C, X, Y, D, 0, po, re, nw, nI z, nI m, bo, pn, ca, sp, co, x, y, n, rfl, rfl, hn, hsg⟩, ?_⟩
      intro r wc hwc
      obtain ⟨A', B', C', X', Y', D', k, h1, hw⟩ := hwc n rfl hn
      have hw : wc = wMq (oMo 0 po re nw (nI n) (nI z) (nI m) bo pn ca sp k) px py sg A' B' C' X' Y' D' := hw
      have h1 : mmR px py sg n A B C X Y D co x y r A' B' C' X' Y' D' k := h1
      subst hw
      rw [show rz_back _ _ = _ from e1w 0 co k A B C X Y D A' B' C' X' Y' D' bx]
      conv => whnf
      refine ⟨fun h2 => ?_, fun h2 => ?_⟩
      · have h2 : r = 1 := h2
        conv => whnf
        refine ⟨fun h3 => ?_, fun h3 => ?_⟩
        · have h3 : nI z = nI 60 := h3
          have h3 : z = 60 := nI_inj (by omega) (by omega) h3
          exact no _ _ _ _ _ _ _ _ h1 (fun q => by omega)
        · have h3 : ¬ nI z = nI 60 := h3
          have h3 : ¬ z = 60 := fun q => h3 (by rw [q])
          conv => whnf
          rintro _ rfl
          conv => whnf
          refine ⟨1000 + (z - 0) * 10 + 1, by omega, A', B', C', X', Y', D', k, r, 0, h1, h2, by omega, by omega, lt_0, rfl, rfl, rfl⟩
      · exact no _ _ _ _ _ _ _ _ h1 (fun q => h2 q.1)
    rcases List.mem_cons.mp hq1 with rfl | hq1
    · obtain ⟨A', B', C', X', Y', D', k, r, p, h1, hr, hz6, hp, hdu, rfl, rfl, rfl⟩ := hJ
      have hcl : (nI p).toNatClampNeg = p := nI_clamp (by omega)
      have ok := mmR_ok h1 hr
      conv => whnf
      refine ⟨fun h => ?_, fun h => ?_⟩
      · have e : p = z := by
          have := (nI_leI (by omega) (by omega)).mp h
          omega
        subst e
        conv => whnf
        refine ⟨⟨px, py, sg, A', B', C', X', Y', D', bx, 0, po, re, nw, nI p, nI m, bo, pn, ca, sp, k, x, y, n, rfl, rfl, hn, hsg, ok⟩, ?_⟩
        intro wc hwc
        obtain ⟨A2, B2, C2, X2, Y2, D2, q, hq6, hrn, hw⟩ := hwc
        have hw : wc = wMy (oMo 0 po re nw (nI n) (nI p) (nI m) bo pn ca sp (nI q)) px py sg A2 B2 C2 X2 Y2 D2 (bxN X2 Y2 D2 bx q) := hw
        have hrn : rnR px py sg x.toNatClampNeg y.toNatClampNeg X2 Y2 D2 q := hrn
        subst hw
        conv => whnf
        refine ⟨900, by omega, A', B', C', X', Y', D', k, r, h1, ⟨hr, hz6, hdu⟩, A2, B2, C2, X2, Y2, D2, q, hrn, rfl, e2w _ _ _ _ _ _ _ _ _ _ _ _ _ _ _ _ _, rfl⟩
      · have hp2 : p < z := by
          rcases Nat.lt_or_ge p z with g | g
          · exact g
          · exact absurd (nI_le g (by omega)) h
        have hv : vp_in (nI p) 60 := vp_in_nI (by omega) (by omega)
        conv => whnf
        refine ⟨hv, ?_⟩
        conv => whnf
        refine ⟨fun k1 => ?_, fun k1 => ?_⟩
        · have k1 : fi (nI p).toNatClampNeg = x := k1
          rw [hcl] at k1
          conv => whnf
          refine ⟨hv, ?_⟩
          conv => whnf
          refine ⟨fun k2 => ?_, fun k2 => ?_⟩
          · have k2 : se (nI p).toNatClampNeg = y := k2
            rw [hcl] at k2
            exact no _ _ _ _ _ _ _ _ h1 (fun q => q.2.2 p hp2 (Or.inl ⟨k1, k2⟩))
          · have k2 : ¬ se (nI p).toNatClampNeg = y := k2
            rw [hcl] at k2
            conv => whnf
            refine ⟨hv, ?_⟩
            conv => whnf
            refine ⟨fun k3 => ?_, fun k3 => ?_⟩
            · have k3 : fi (nI p).toNatClampNeg = y := k3
              rw [hcl] at k3
              conv => whnf
              refine ⟨hv, ?_⟩
              conv => whnf
              refine ⟨fun k4 => ?_, fun k4 => ?_⟩
              · have k4 : se (nI p).toNatClampNeg = x := k4
                rw [hcl] at k4
                exact no _ _ _ _ _ _ _ _ h1 (fun q => q.2.2 p hp2 (Or.inr ⟨k3, k4⟩))
              · have k4 : ¬ se (nI p).toNatClampNeg = x := k4
                rw [hcl] at k4
                conv => whnf
                refine ⟨1000 + (z - p) * 10, by omega, A', B', C', X', Y', D', k, r, p, h1, hr, hz6, hp2, lt_s hdu (fun q => q.elim (fun q => k2 q.2) (fun q => k4 q.2)), rfl, rfl, rfl⟩
            · have k3 : ¬ fi (nI p).toNatClampNeg = y := k3
              rw [hcl] at k3
              conv => whnf
              refine ⟨1000 + (z - p) * 10, by omega, A', B', C', X', Y', D', k, r, p, h1, hr, hz6, hp2, lt_s hdu (fun q => q.elim (fun q => k2 q.2) (fun q => k3 q.1)), rfl, rfl, rfl⟩
        · have k1 : ¬ fi (nI p).toNatClampNeg = x := k1
          rw [hcl] at k1
          conv => whnf
          refine ⟨hv, ?_⟩
          conv => whnf
          refine ⟨fun k3 => ?_, fun k3 => ?_⟩
          · have k3 : fi (nI p).toNatClampNeg = y := k3
            rw [hcl] at k3
            conv => whnf
            refine ⟨hv, ?_⟩
            conv => whnf
            refine ⟨fun k4 => ?_, fun k4 => ?_⟩
            · have k4 : se (nI p).toNatClampNeg = x := k4
              rw [hcl] at k4
              exact no _ _ _ _ _ _ _ _ h1 (fun q => q.2.2 p hp2 (Or.inr ⟨k3, k4⟩))
            · have k4 : ¬ se (nI p).toNatClampNeg = x := k4
              rw [hcl] at k4
              conv => whnf
              refine ⟨1000 + (z - p) * 10, by omega, A', B', C', X', Y', D', k, r, p, h1, hr, hz6, hp2, lt_s hdu (fun q => q.elim (fun q => k1 q.1) (fun q => k4 q.2)), rfl, rfl, rfl⟩
          · have k3 : ¬ fi (nI p).toNatClampNeg = y := k3
            rw [hcl] at k3
            conv => whnf
            refine ⟨1000 + (z - p) * 10, by omega, A', B', C', X', Y', D', k, r, p, h1, hr, hz6, hp2, lt_s hdu (fun q => q.elim (fun q => k1 q.1) (fun q => k3 q.1)), rfl, rfl, rfl⟩
    rcases List.mem_cons.mp hq1 with rfl | hq1
    · obtain ⟨A', B', C', X', Y', D', k, r, p, h1, hr, hz6, hp, hdu, rfl, rfl, rfl⟩ := hJ
      conv => whnf
      rintro _ rfl
      conv => whnf
      refine ⟨1000 + (z - (p + 1)) * 10 + 1, by omega, A', B', C', X', Y', D', k, r, p + 1, h1, hr, hz6, by omega, hdu, ?_, rfl, rfl⟩
      show [_, _, _, (3, Value.int (nI p + 1))] = _
      rw [nI_1]
    rcases List.mem_cons.mp hq1 with rfl | hq1
    · obtain ⟨A', B', C', X', Y', D', k, r, h1, hr, A2, B2, C2, X2, Y2, D2, q, hrn, rfl, rfl, rfl⟩ := hJ
      have ok := mmR_ok h1 hr.1
      obtain ⟨i1, hi1, ex⟩ := okS_nat ok.1 (by omega)
      subst ex
      have hci : (nI i1).toNatClampNeg = i1 := nI_clamp (by omega)
      conv => whnf
      refine ⟨b0, ?_⟩
      conv => whnf
      intro a ea
      conv => whnf
      refine ⟨b1, ?_⟩
      conv => whnf
      intro b eb
      conv => whnf
      refine ⟨b2, ?_⟩
      conv => whnf
      intro c ec
      conv => whnf
      refine ⟨b3, ?_⟩
      conv => whnf
      intro d ed
      conv => whnf
      refine ⟨⟨sg, 0, po, re, nw, nI n, nI z, nI m, bo, pn, ca, sp, nI q, i1, 1, rfl, rfl, by omega, by omega⟩, ?_⟩
      intro mu hmu
      have hmu : mu = sg (6 * i1 + 1) := hmu i1 1 rfl rfl (by omega) (by omega)
      subst hmu
      conv => whnf
      intro v_ ev_
      have ev_ := ev_.symm
      subst ev_
      conv => whnf
      rintro _ rfl
      conv => whnf
      rintro _ rfl
      conv => whnf
      rintro _ rfl
      conv => whnf
      refine ⟨(m - 0) * 10 + 105, by omega, A', B', C', X', Y', D', k, r, h1, hr, a, b, c, d, 0, ⟨X2, Y2, D2, q, hrn, ea, eb, ec, ed⟩, Nat.zero_le _, A2, B2, C2, X2, Y2, D2, bxN X2 Y2 D2 bx q, nI q, ?_, rfl, rfl⟩
      rw [hci]
      rfl
    rcases List.mem_cons.mp hq1 with rfl | hq1
    · obtain ⟨A', B', C', X', Y', D', k, r, h1, hr, a, b, c, d, t, hb, ht, A2, B2, C2, X2, Y2, D2, bx2, k2, rfl, rfl, rfl⟩ := hJ
      have hm60 : m ≤ 60 := by omega
      conv => whnf
      refine ⟨fun h => ?_, fun h => ?_⟩
      · have e : t = m := by
          have := (nI_leI (by omega) (by omega)).mp h
          omega
        subst e
        conv => whnf
        refine ⟨fun h2 => ?_, fun h2 => ?_⟩
        · have h2 : (nmF sg fi bl bb br bt L sp (sg (6 * x.toNatClampNeg + 1)) a b c d t).1 = -1 := h2
          conv => whnf
          rintro _ rfl
          conv => whnf
          refine ⟨5, by omega, A', B', C', X', Y', D', k, r, h1, hr, a, b, c, d, t, hb, ?_, Nat.le_refl _, A2, B2, C2, X2, Y2, D2, bx2, k2, rfl, ?_, rfl⟩
          · rw [trF, if_pos h2]
          · show wMz (oMo 0 po re nw (nI n) (nI z) (nI t + 1) bo pn ca sp k2) px py sg fi se tk A2 B2 C2 X2 Y2 D2 bx2 = _
            rw [nI_1, if_pos rfl]
        · have h2 : ¬ (nmF sg fi bl bb br bt L sp (sg (6 * x.toNatClampNeg + 1)) a b c d t).1 = -1 := h2
          rcases nmF_in sg fi bl bb br bt L sp (sg (6 * x.toNatClampNeg + 1)) a b c d t with g | ⟨u, g1, g2⟩
          · exact absurd g h2
          · conv => whnf
            refine ⟨5, by omega, A', B', C', X', Y', D', k, r, h1, hr, a, b, c, d, u, hb, ?_, by omega, A2, B2, C2, X2, Y2, D2, bx2, k2, ?_, ?_, rfl⟩
            · rw [trF, if_neg h2, g2, nI_clamp (by omega)]
            · rw [← g2]
              rfl
            · rw [if_neg (by omega)]
      · have ht2 : t < m := by
          rcases Nat.lt_or_ge t m with g | g
          · exact g
          · exact absurd (nI_le g (by omega)) h
        have hL := hpl.2 t ht2
        obtain ⟨okL, -, hbL⟩ := hpl.1 (L t) hL.1
        have hL1 := hL.1
        have hcl : (nI (L t)).toNatClampNeg = L t := nI_clamp (by omega)
        have hvL : vp_in (nI (L t)) 60 := vp_in_nI (by omega) (by omega)
        obtain ⟨i1, hi1, ex⟩ := okS_nat okL.1 (by omega)
        have hci : (nI i1).toNatClampNeg = i1 := nI_clamp (by omega)
        conv => whnf
        refine ⟨⟨tk, 0, po, re, nw, nI n, nI m, bo, pn, ca, sp, k2, nI t, z, L t, rfl, rfl, hz, hL⟩, ?_⟩
        intro r3 hr3
        have hr3 : r3 = nI (L t) := hr3 z (L t) rfl hz hL
        subst hr3
        conv => whnf
        rintro _ rfl
        conv => whnf
        refine ⟨hvL, ?_⟩
        have ex2 : fi (nI (L t)).toNatClampNeg = nI i1 := by rw [hcl]; exact ex
        conv => whnf
        refine ⟨⟨sg, 0, po, re, nw, nI n, nI z, nI m, bo, pn, ca, sp, k2, i1, 1, by rw [ex2]; rfl, rfl, by omega, by omega⟩, ?_⟩
        intro mu hmu
        have hmu : mu = sg (6 * i1 + 1) := hmu i1 1 ex2 rfl (by omega) (by omega)
        have hmu : mu = sg (6 * (fi (L t)).toNatClampNeg + 1) := by rw [hmu, ex, hci]
        subst hmu
        conv => whnf
        intro bw9 ebw9
        conv => whnf
        refine ⟨fun h3 => ?_, fun h3 => ?_⟩
        · conv => whnf
          refine ⟨hvL, ?_⟩
          conv => whnf
          refine ⟨hvL, ?_⟩
          conv => whnf
          refine ⟨⟨px, py, sg, A2, B2, C2, X2, Y2, D2, bx2, 0, po, re, nw, nI z, nI m, bo, pn, ca, sp, k2, fi (nI (L t)).toNatClampNeg, se (nI (L t)).toNatClampNeg, n, rfl, rfl, hn, hsg, by rw [hcl]; exact okL⟩, ?_⟩
          intro wc hwc
          obtain ⟨A4, B4, C4, X4, Y4, D4, q4, hq6, hrn4, hw⟩ := hwc
          have hw : wc = wMy (oMo 0 po re nw (nI n) (nI z) (nI m) bo pn ca sp (nI q4)) px py sg A4 B4 C4 X4 Y4 D4 (bxN X4 Y4 D4 bx2 q4) := hw
          have hrn4 : rnR px py sg (fi (nI (L t)).toNatClampNeg).toNatClampNeg (se (nI (L t)).toNatClampNeg).toNatClampNeg X4 Y4 D4 q4 := hrn4
          rw [hcl] at hrn4
          subst hw
          conv => whnf
          refine ⟨(m - t) * 10 + 104, by omega, A', B', C', X', Y', D', k, r, h1, hr, a, b, c, d, t, hb, ht2, A4, B4, C4, X4, Y4, D4, bxN X4 Y4 D4 bx2 q4, nI q4, ebw9 ▸ h3, bxV_N (hbL _ _ _ _ hrn4), by rw [ebw9]; rfl, e2w _ _ _ _ _ _ _ _ _ _ _ _ _ _ _ _ _, rfl⟩
        · conv => whnf
          refine ⟨(m - t) * 10 + 103, by omega, A', B', C', X', Y', D', k, r, h1, hr, a, b, c, d, t, hb, ht2, A2, B2, C2, X2, Y2, D2, bx2, k2, nmF sg fi bl bb br bt L sp (sg (6 * x.toNatClampNeg + 1)) a b c d t, ?_, rfl, rfl, rfl⟩
          have h3 : ¬ 0 < sg (6 * x.toNatClampNeg + 1) - sg (6 * (fi (L t)).toNatClampNeg + 1) := ebw9 ▸ h3
          show _ = if _ then _ else _
          rw [if_neg (fun q => h3 q.1)]
    rcases List.mem_cons.mp hq1 with rfl | hq1
    · obtain ⟨A', B', C', X', Y', D', k, r, h1, hr, a, b, c, d, t, hb, ht, A2, B2, C2, X2, Y2, D2, bx2, k2, hbt, ⟨c0, c1, c2, c3⟩, rfl, rfl, rfl⟩ := hJ
      conv => whnf
      refine ⟨b0, ?_⟩
      conv => whnf
      refine ⟨b2, ?_⟩
      conv => whnf
      refine ⟨⟨_, _, _, _, rfl, rfl, trivial⟩, ?_⟩
      intro gx hgx
      have hgx : gx = gmF a c (bx2 0) (bx2 2) := hgx
      rw [c0, c2] at hgx
      conv => whnf
      intro v_ ev_
      have ev_ := ev_.symm
      subst ev_
      conv => whnf
      refine ⟨b1, ?_⟩
      conv => whnf
      refine ⟨b3, ?_⟩
      conv => whnf
      refine ⟨⟨_, _, _, _, rfl, rfl, trivial⟩, ?_⟩
      intro gy hgy
      have hgy : gy = gmF b d (bx2 1) (bx2 3) := hgy
      rw [c1, c3] at hgy
      conv => whnf
      intro v_ ev_
      have ev_ := ev_.symm
      subst ev_
      conv => whnf
      intro sq esq
      have esq : sq = sqM bl bb br bt a b c d (L t) := by rw [esq, hgx, hgy]
      conv => whnf
      intro wy ewy
      have ewy : wy = wyM sg fi sp (sg (6 * x.toNatClampNeg + 1)) (L t) := ewy
      have yes : nmP sg fi bl bb br bt sp (sg (6 * x.toNatClampNeg + 1)) a b c d (L t) (nmF sg fi bl bb br bt L sp (sg (6 * x.toNatClampNeg + 1)) a b c d t) → (nI t, sq) = nmF sg fi bl bb br bt L sp (sg (6 * x.toNatClampNeg + 1)) a b c d (t + 1) := by
        intro q
        show _ = if _ then _ else _
        rw [if_pos q, esq]
      have non : ¬ nmP sg fi bl bb br bt sp (sg (6 * x.toNatClampNeg + 1)) a b c d (L t) (nmF sg fi bl bb br bt L sp (sg (6 * x.toNatClampNeg + 1)) a b c d t) → nmF sg fi bl bb br bt L sp (sg (6 * x.toNatClampNeg + 1)) a b c d t = nmF sg fi bl bb br bt L sp (sg (6 * x.toNatClampNeg + 1)) a b c d (t + 1) := by
        intro q
        show _ = if _ then _ else _
        rw [if_neg q]
      conv => whnf
      refine ⟨fun g1 => ?_, fun g1 => ?_⟩
      · have g1 : wy * wy < sq := (lg_gt0 _ _).mp g1
        rw [esq, ewy] at g1
        conv => whnf
        refine ⟨(m - t) * 10 + 103, by omega, A', B', C', X', Y', D', k, r, h1, hr, a, b, c, d, t, hb, ht, A2, B2, C2, X2, Y2, D2, bx2, k2, _, non (fun q => (i64_not_le _ _).mpr g1 q.2.1), rfl, rfl, rfl⟩
      · have g1 : sq ≤ wy * wy := (i64_not_lt _ _).mp (fun q => g1 ((lg_gt0 _ _).mpr q))
        have g1' := g1
        rw [esq, ewy] at g1'
        conv => whnf
        refine ⟨fun g2 => ?_, fun g2 => ?_⟩
        · have g2 : (nmF sg fi bl bb br bt L sp (sg (6 * x.toNatClampNeg + 1)) a b c d t).1 = -1 := g2
          conv => whnf
          intro v_ ev_
          have ev_ := ev_.symm
          subst ev_
          conv => whnf
          intro v_ ev_
          have ev_ := ev_.symm
          subst ev_
          conv => whnf
          refine ⟨(m - t) * 10 + 103, by omega, A', B', C', X', Y', D', k, r, h1, hr, a, b, c, d, t, hb, ht, A2, B2, C2, X2, Y2, D2, bx2, k2, (nI t, sq), yes ⟨hbt, g1', Or.inl g2⟩, rfl, rfl, rfl⟩
        · have g2 : ¬ (nmF sg fi bl bb br bt L sp (sg (6 * x.toNatClampNeg + 1)) a b c d t).1 = -1 := g2
          conv => whnf
          refine ⟨fun g3 => ?_, fun g3 => ?_⟩
          · have g3 : sq < (nmF sg fi bl bb br bt L sp (sg (6 * x.toNatClampNeg + 1)) a b c d t).2 := (lg_lt0 _ _).mp g3
            have g3' := g3
            rw [esq] at g3'
            conv => whnf
            intro v_ ev_
            have ev_ := ev_.symm
            subst ev_
            conv => whnf
            intro v_ ev_
            have ev_ := ev_.symm
            subst ev_
            conv => whnf
            refine ⟨(m - t) * 10 + 103, by omega, A', B', C', X', Y', D', k, r, h1, hr, a, b, c, d, t, hb, ht, A2, B2, C2, X2, Y2, D2, bx2, k2, (nI t, sq), yes ⟨hbt, g1', Or.inr g3'⟩, rfl, rfl, rfl⟩
          · have g3 : ¬ sq < (nmF sg fi bl bb br bt L sp (sg (6 * x.toNatClampNeg + 1)) a b c d t).2 := fun q => g3 ((lg_lt0 _ _).mpr q)
            rw [esq] at g3
            conv => whnf
            refine ⟨(m - t) * 10 + 103, by omega, A', B', C', X', Y', D', k, r, h1, hr, a, b, c, d, t, hb, ht, A2, B2, C2, X2, Y2, D2, bx2, k2, _, non (fun q => q.2.2.elim g2 g3), rfl, rfl, rfl⟩
    rcases List.mem_cons.mp hq1 with rfl | hq1
    · obtain ⟨A', B', C', X', Y', D', k, r, h1, hr, a, b, c, d, t, hb, ht, A2, B2, C2, X2, Y2, D2, bx2, k2, N, eN, rfl, rfl, rfl⟩ := hJ
      conv => whnf
      rintro _ rfl
      conv => whnf
      refine ⟨(m - (t + 1)) * 10 + 105, by omega, A', B', C', X', Y', D', k, r, h1, hr, a, b, c, d, t + 1, hb, by omega, A2, B2, C2, X2, Y2, D2, bx2, k2, ?_, rfl, rfl⟩
      rw [← eN]
      show [_, _, _, _, _, _, _, _, _, _, (15, Value.int (nI t + 1))] = _
      rw [nI_1]
    rcases List.mem_cons.mp hq1 with rfl | hq1
    · obtain ⟨A', B', C', X', Y', D', k, r, h1, hr, a, b, c, d, T, hb, hT, hTm, A2, B2, C2, X2, Y2, D2, bx2, k2, rfl, rfl, rfl⟩ := hJ
      have hvz : vp_in (nI z) 60 := vp_in_nI (by omega) (by omega)
      have hcz : (nI z).toNatClampNeg = z := nI_clamp (by omega)
      conv => whnf
      refine ⟨hvz, ?_⟩
      conv => whnf
      refine ⟨hvz, ?_⟩
      conv => whnf
      refine ⟨hvz, ?_⟩
      conv => whnf
      refine ⟨⟨_, rfl⟩, fun z => (by cases z), ?_⟩
      intro n' z' m' e1 q1 e2 q2 e3 q3
      have e1 : n = n' := nI_inj (by omega) (by omega) e1
      have e2 : z = z' := nI_inj (by omega) (by omega) e2
      have e3 : m = m' := nI_inj (by omega) (by omega) e3
      subst e1 e2 e3
      refine ⟨A', B', C', X', Y', D', k, r, h1, if_yes hr ⟨bl, bb, br, bt, L, a, b, c, d, hpl, hb, T, hT, rfl, hTm, A2, B2, C2, X2, Y2, D2, bx2, k2, ?_⟩⟩
      show wMz (oMo 0 po re nw (nI n) (nI z + 1) (nI (if T = m then m + 1 else m)) bo pn ca sp k2) px py sg (upd fi (nI z).toNatClampNeg x) (upd se (nI z).toNatClampNeg y) (upd tk (nI z).toNatClampNeg (nI T)) A2 B2 C2 X2 Y2 D2 bx2 = _
      rw [hcz, nI_1]
      rfl
    · exact absurd hq1 List.not_mem_nil
  · conv => whnf
    refine ⟨1990, by omega, rfl, rfl, rfl⟩
theorem rv_X7_plotted : rz_Rv yX7_plotted.cls ce_X7_plotted := fun av w h => by
  obtain ⟨_, _, _, _, _, _, _, _, _, _, _, _, _, _, _, _, _, _, _, _, _, _, _, _, _, _, _, _, _, _, _, _, rfl, rfl, _⟩ := h
  exact ⟨_, _, _, _, _, _, rfl, rfl, rfl⟩
theorem cn_X7_plotted (l : Launch) : rz_Con l yX7_plotted cX7_plotted 26 (some .int) 5 0 0 ce_X7_plotted := rz_con (by decide +kernel) fo_X7 (by
  intro q hq
  rcases List.mem_cons.mp hq with rfl | hq
  · exact rz_callS (cn_X7_gap l) (by decide +kernel) ⟨Nat.le_of_ble_eq_true rfl, Nat.le_of_ble_eq_true rfl⟩ m_X7_gap t_X7_gap n_X7_184
  exact absurd hq List.not_mem_nil) (by
  intro q hq
  rcases List.mem_cons.mp hq with rfl | hq
  · exact rz_callV (cn_X7_of l) (by decide +kernel) ⟨Nat.le_of_ble_eq_true rfl, Nat.le_of_ble_eq_true rfl⟩ m_X7_of rfl i_X7_of v_X7_of rv_X7_of n_X7_119
  rcases List.mem_cons.mp hq with rfl | hq
  · exact rz_callV (cn_X7_meets l) (by decide +kernel) ⟨Nat.le_of_ble_eq_true rfl, Nat.le_of_ble_eq_true rfl⟩ m_X7_meets rfl i_X7_meets v_X7_meets rv_X7_meets n_X7_150
  rcases List.mem_cons.mp hq with rfl | hq
  · exact rz_callV (cn_X7_boxOf l) (by decide +kernel) ⟨Nat.le_of_ble_eq_true rfl, Nat.le_of_ble_eq_true rfl⟩ m_X7_boxOf rfl i_X7_boxOf v_X7_boxOf rv_X7_boxOf n_X7_172
  rcases List.mem_cons.mp hq with rfl | hq
  · exact rz_callV (cn_X7_latest l) (by decide +kernel) ⟨Nat.le_of_ble_eq_true rfl, Nat.le_of_ble_eq_true rfl⟩ m_X7_latest rfl i_X7_latest v_X7_latest rv_X7_latest n_X7_181
  exact absurd hq List.not_mem_nil) r_X7_plotted vc_X7_plotted
