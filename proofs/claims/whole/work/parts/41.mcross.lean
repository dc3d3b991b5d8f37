/-! The reference's pairs, crossings. -/
abbrev wMo2 (o : rz_C) (px py sg : Nat → Int32) : rz_W := [(50, o), (51, ri 6 px), (52, ri 6 py), (57, ri 600 sg)]
abbrev mFx (px sg : Nat → Int32) (i : Nat) : Int32 := px (sg (6 * i + 0)).toNatClampNeg
abbrev paP (px py sg : Nat → Int32) (n : Nat) (x y : Int32) : Prop := okS x n ∧ okS y n ∧ sg (6 * x.toNatClampNeg + 1) = sg (6 * y.toNatClampNeg + 1) ∧ ¬ (mFx px sg x.toNatClampNeg = mFx px sg y.toNatClampNeg ∧ mFx py sg x.toNatClampNeg = mFx py sg y.toNatClampNeg)
def ce_X7_isPair : rz_K := (3, [50, 51, 52, 57], 0, true, fun av w => ∃ (px py sg : Nat → Int32) (th po re nw pl tr bo pn ca sp co x y : Int32) (n : Nat), av = [.ref 50, .int x, .int y] ∧ w = wMo2 (oMo th po re nw (nI n) pl tr bo pn ca sp co) px py sg ∧ n ≤ 100 ∧ ∀ i, i < n → vp_in (sg (6 * i + 0)) 6, fun av w o _ => ∀ n, rF w 50 10 = nI n → n ≤ 100 → rR o = bI (paP (rI w 51) (rI w 52) (rI w 57) n (rA av 1) (rA av 2)))
def cl_X7_isPair : List (Nat × rz_K) := [(87, ce_X7_isIn)]
def cv_X7_isPair : List (Nat × rz_K) := [(119, ce_X7_of)]
set_option maxHeartbeats 4000000 in
theorem vc_X7_isPair : rz_VC k_X7_isPair fl_X7 cl_X7_isPair cv_X7_isPair s_X7_isPair true 5 ce_X7_isPair := by
  intro av w hlen hk hpre
  obtain ⟨px, py, sg, th, po, re, nw, pl, tr, bo, pn, ca, sp, co, x, y, n, rfl, rfl, hn, hsg⟩ := hpre
  refine ⟨Nat.le_of_ble_eq_true rfl, [], 60, 0, fun q h => absurd h List.not_mem_nil, ?_⟩
  have fin : ∀ v : Int32, v = bI (paP px py sg n x y) → (v = 0 ∨ v = 1) ∧ rz_end ce_X7_isPair [.ref 50, .int x, .int y] (wMo2 (oMo th po re nw (nI n) pl tr bo pn ca sp co) px py sg) (some (.int v)) (wMo2 (oMo th po re nw (nI n) pl tr bo pn ca sp co) px py sg) := by
    intro v hv
    refine ⟨by rw [hv]; exact bI_01 _, ⟨_, rfl⟩, fun _ => rfl, ?_⟩
    intro n' e h
    have e : n = n' := nI_inj (by omega) (by omega) e
    subst e
    exact hv
  conv => whnf
  refine ⟨⟨_, _, _, rfl, rfl, trivial⟩, ?_⟩
  intro r hr
  obtain rfl : r = bI (okS x n) := hr
  conv => whnf
  refine ⟨fun h0 => ?_, fun h0 => ?_⟩
  · exact fin _ (bI_f (fun z => bI_0 h0 z.1))
  · conv => whnf
    refine ⟨⟨_, _, _, rfl, rfl, trivial⟩, ?_⟩
    intro r hr
    obtain rfl : r = bI (okS y n) := hr
    conv => whnf
    refine ⟨fun h1 => ?_, fun h1 => ?_⟩
    · exact fin _ (bI_f (fun z => bI_0 h1 z.2.1))
    · have ok0 := bI_n h0
      have ok1 := bI_n h1
      obtain ⟨i, hi, rfl⟩ := okS_nat ok0 (by omega)
      obtain ⟨j, hj, rfl⟩ := okS_nat ok1 (by omega)
      have hci : (nI i).toNatClampNeg = i := nI_clamp (by omega)
      have hcj : (nI j).toNatClampNeg = j := nI_clamp (by omega)
      have hP : paP px py sg n (nI i) (nI j) ↔ (okS (nI i) n ∧ okS (nI j) n ∧ sg (6 * i + 1) = sg (6 * j + 1) ∧ ¬ (mFx px sg i = mFx px sg j ∧ mFx py sg i = mFx py sg j)) := by rw [paP, hci, hcj]
      conv => whnf
      refine ⟨⟨sg, th, po, re, nw, nI n, pl, tr, bo, pn, ca, sp, co, i, 1, rfl, rfl, by omega, by omega⟩, ?_⟩
      intro r hr
      have hr : r = sg (6 * i + 1) := hr i 1 rfl rfl (by omega) (by omega)
      subst hr
      conv => whnf
      refine ⟨⟨sg, th, po, re, nw, nI n, pl, tr, bo, pn, ca, sp, co, j, 1, rfl, rfl, by omega, by omega⟩, ?_⟩
      intro r hr
      have hr : r = sg (6 * j + 1) := hr j 1 rfl rfl (by omega) (by omega)
      subst hr
      conv => whnf
      refine ⟨fun h2 => ?_, fun h2 => ?_⟩
      · conv => whnf
        refine ⟨⟨sg, th, po, re, nw, nI n, pl, tr, bo, pn, ca, sp, co, i, 0, rfl, rfl, by omega, by omega⟩, ?_⟩
        intro r hr
        have hr : r = sg (6 * i + 0) := hr i 0 rfl rfl (by omega) (by omega)
        subst hr
        conv => whnf
        rintro _ rfl
        conv => whnf
        refine ⟨⟨sg, th, po, re, nw, nI n, pl, tr, bo, pn, ca, sp, co, j, 0, rfl, rfl, by omega, by omega⟩, ?_⟩
        intro r hr
        have hr : r = sg (6 * j + 0) := hr j 0 rfl rfl (by omega) (by omega)
        subst hr
        conv => whnf
        rintro _ rfl
        have hvi := hsg i hi
        have hvj := hsg j hj
        conv => whnf
        refine ⟨hvi, ?_⟩
        conv => whnf
        refine ⟨hvj, ?_⟩
        conv => whnf
        refine ⟨fun h3 => ?_, fun h3 => ?_⟩
        · conv => whnf
          refine ⟨hvi, ?_⟩
          conv => whnf
          refine ⟨hvj, ?_⟩
          conv => whnf
          refine ⟨fun h4 => ?_, fun h4 => ?_⟩
          · exact fin _ (bI_f (fun z => (hP.mp z).2.2.2 ⟨h3, h4⟩))
          · exact fin _ (bI_t (hP.mpr ⟨ok0, ok1, h2, fun z => h4 z.2⟩))
        · exact fin _ (bI_t (hP.mpr ⟨ok0, ok1, h2, fun z => h3 z.1⟩))
      · exact fin _ (bI_f (fun z => h2 (hP.mp z).2.2.1))
theorem rv_X7_isPair : rz_Rv yX7_isPair.cls ce_X7_isPair := fun av w h => by
  obtain ⟨_, _, _, _, _, _, _, _, _, _, _, _, _, _, _, _, _, rfl, rfl, _⟩ := h
  exact ⟨_, _, _, _, _, _, rfl, rfl, rfl⟩
theorem cn_X7_isPair (l : Launch) : rz_Con l yX7_isPair cX7_isPair 5 (some .boolean) 1 0 0 ce_X7_isPair := rz_con (by decide +kernel) fo_X7 (by
  intro q hq
  rcases List.mem_cons.mp hq with rfl | hq
  · exact rz_callS (cn_X7_isIn l) (by decide +kernel) ⟨Nat.le_of_ble_eq_true rfl, Nat.le_of_ble_eq_true rfl⟩ m_X7_isIn t_X7_isIn n_X7_87
  exact absurd hq List.not_mem_nil) (by
  intro q hq
  rcases List.mem_cons.mp hq with rfl | hq
  · exact rz_callV (cn_X7_of l) (by decide +kernel) ⟨Nat.le_of_ble_eq_true rfl, Nat.le_of_ble_eq_true rfl⟩ m_X7_of rfl i_X7_of v_X7_of rv_X7_of n_X7_119
  exact absurd hq List.not_mem_nil) r_X7_isPair vc_X7_isPair
abbrev wMc (o : rz_C) (X Y D : Nat → Int64) : rz_W := [(50, o), (70, rl 8 X), (71, rl 8 Y), (72, rl 8 D)]
def ce_X7_compare : rz_K := (5, [50, 70, 71, 72], 0, true, fun av w => ∃ (X Y D : Nat → Int64) (th po re nw si pl tr bo pn ca sp co : Int32) (k : Nat) (x y d : Int64), av = [.ref 50, .int (nI k), .long x, .long y, .long d] ∧ w = wMc (oMo th po re nw si pl tr bo pn ca sp co) X Y D ∧ k < 8, fun av w o _ => ∀ k, rA av 1 = nI k → k < 8 → rR o = orF (rJ w 70) (rJ w 72) (rJ w 71) (rJ w 72) k (rB av 2) (rB av 3) (rB av 4))
def cl_X7_compare : List (Nat × rz_K) := [(145, ce_J13_compare_74951)]
def cv_X7_compare : List (Nat × rz_K) := []
theorem vc_X7_compare : rz_VC k_X7_compare fl_X7 cl_X7_compare cv_X7_compare s_X7_compare false 9 ce_X7_compare := by
  intro av w hlen hk hpre
  obtain ⟨X, Y, D, th, po, re, nw, si, pl, tr, bo, pn, ca, sp, co, k, x, y, d, rfl, rfl, hk8⟩ := hpre
  refine ⟨Nat.le_of_ble_eq_true rfl, [], 60, 0, fun q h => absurd h List.not_mem_nil, ?_⟩
  have hv : vp_in (nI k) 8 := vp_in_nI hk8 (by omega)
  have hc : (nI k).toNatClampNeg = k := nI_clamp (by omega)
  have fin : ∀ v : Int32, v = orF X D Y D k x y d → rz_end ce_X7_compare [.ref 50, .int (nI k), .long x, .long y, .long d] (wMc (oMo th po re nw si pl tr bo pn ca sp co) X Y D) (some (.int v)) (wMc (oMo th po re nw si pl tr bo pn ca sp co) X Y D) := by
    intro v hv
    refine ⟨⟨_, rfl⟩, fun _ => rfl, ?_⟩
    intro k' e h
    have e : k = k' := nI_inj (by omega) (by omega) e
    subst e
    exact hv
  conv => whnf
  refine ⟨hv, ?_⟩
  conv => whnf
  refine ⟨hv, ?_⟩
  conv => whnf
  refine ⟨⟨_, _, rfl, rfl, trivial⟩, ?_⟩
  intro r hr
  have hr : r = lg_cmp (X (nI k).toNatClampNeg * d) (x * D (nI k).toNatClampNeg) := hr
  rw [hc] at hr
  subst hr
  conv => whnf
  rintro _ rfl
  conv => whnf
  refine ⟨fun h => ?_, fun h => ?_⟩
  · conv => whnf
    refine ⟨hv, ?_⟩
    conv => whnf
    refine ⟨hv, ?_⟩
    conv => whnf
    refine ⟨⟨_, _, rfl, rfl, trivial⟩, ?_⟩
    intro r hr
    have hr : r = lg_cmp (Y (nI k).toNatClampNeg * d) (y * D (nI k).toNatClampNeg) := hr
    rw [hc] at hr
    subst hr
    conv => whnf
    exact fin _ (by rw [orF, if_neg (fun z => z h)])
  · exact fin _ (by rw [orF, if_pos h])
theorem rv_X7_compare : rz_Rv yX7_compare.cls ce_X7_compare := fun av w h => by
  obtain ⟨_, _, _, _, _, _, _, _, _, _, _, _, _, _, _, _, _, _, _, rfl, rfl, _⟩ := h
  exact ⟨_, _, _, _, _, _, rfl, rfl, rfl⟩
theorem cn_X7_compare (l : Launch) : rz_Con l yX7_compare cX7_compare 9 (some .int) 1 0 0 ce_X7_compare := rz_con (by decide +kernel) fo_X7 (by
  intro q hq
  rcases List.mem_cons.mp hq with rfl | hq
  · exact rz_callS (cn_J13_compare_74951 l) (by decide +kernel) ⟨Nat.le_of_ble_eq_true rfl, Nat.le_of_ble_eq_true rfl⟩ m_J13_compare_74951 t_J13_compare_74951 n_X7_145
  exact absurd hq List.not_mem_nil) (fun _ h => absurd h List.not_mem_nil) r_X7_compare vc_X7_compare
/-- a crossing put among n ones, as it is -/
def minR (X Y D : Nat → Int64) (n : Nat) (x y d : Int64) (X' Y' D' : Nat → Int64) (n' : Nat) : Prop := ∃ t, t ≤ n ∧ (∀ k, k < t → orF X D Y D k x y d < 0) ∧ (t < n → ¬ orF X D Y D t x y d < 0) ∧
  if t < n ∧ orF X D Y D t x y d = 0 then X' = X ∧ Y' = Y ∧ D' = D ∧ n' = n else X' = insA X n t x ∧ Y' = insA Y n t y ∧ D' = insA D n t d ∧ n' = n + 1
def mcR (a b c : Nat → Int64) (i j : Nat) (X Y D : Nat → Int64) (n : Nat) (X' Y' D' : Nat → Int64) (n' : Nat) : Prop :=
  if crD a b i j = 0 ∨ ¬ inA a b c (sgn (crD a b i j) (crX b c i j)) (sgn (crD a b i j) (crY a c i j)) (sgn (crD a b i j) (crD a b i j)) then X' = X ∧ Y' = Y ∧ D' = D ∧ n' = n else minR X Y D n (sgn (crD a b i j) (crX b c i j)) (sgn (crD a b i j) (crY a c i j)) (sgn (crD a b i j) (crD a b i j)) X' Y' D' n'
abbrev wMx (o : rz_C) (A B C X Y D : Nat → Int64) : rz_W := [(50, o), (67, rl 4 A), (68, rl 4 B), (69, rl 4 C), (70, rl 8 X), (71, rl 8 Y), (72, rl 8 D)]
abbrev kMx : List Nat := [50, 67, 68, 69, 70, 71, 72]
def ce_X7_cross : rz_K := (3, kMx, 2, false, fun av w => ∃ (A B C X Y D : Nat → Int64) (th po re nw si pl tr bo pn ca sp : Int32) (n i j : Nat), av = [.ref 50, .int (nI i), .int (nI j)] ∧ w = wMx (oMo th po re nw si pl tr bo pn ca sp (nI n)) A B C X Y D ∧ n < 6 ∧ i < 4 ∧ j < 4, fun av w _ w' => ∀ n i j, rF w 50 33 = nI n → n < 6 → rA av 1 = nI i → i < 4 → rA av 2 = nI j → j < 4 → ∃ X' Y' D' n', mcR (rJ w 67) (rJ w 68) (rJ w 69) i j (rJ w 70) (rJ w 71) (rJ w 72) n X' Y' D' n' ∧ w' = rz_set (rz_set (rz_set (mset w 33 (nI n')) 70 (rl 8 X')) 71 (rl 8 Y')) 72 (rl 8 D'))
def cl_X7_cross : List (Nat × rz_K) := []
def cv_X7_cross : List (Nat × rz_K) := [(137, ce_X7_isWithin), (141, ce_X7_compare)]
set_option maxHeartbeats 4000000 in
theorem vc_X7_cross : rz_VC k_X7_cross fl_X7 cl_X7_cross cv_X7_cross s_X7_cross false 11 ce_X7_cross := by
  intro av w hlen hk hpre
  obtain ⟨a, b, c, tx, ty, ly, th, po, re, nw, si, pl, tr, bo, pn, ca, sp, n, i, j, rfl, rfl, hn, hi, hj⟩ := hpre
  have fin : ∀ tx' ty' ly' n', mcR a b c i j tx ty ly n tx' ty' ly' n' → rz_end ce_X7_cross [.ref 50, .int (nI i), .int (nI j)] (wMx (oMo th po re nw si pl tr bo pn ca sp (nI n)) a b c tx ty ly) none (wMx (oMo th po re nw si pl tr bo pn ca sp (nI n')) a b c tx' ty' ly') := by
    intro tx' ty' ly' n' hr
    refine ⟨rfl, fun z => (by cases z), ?_⟩
    intro m i' j' e hm e2 hi' e3 hj'
    have e : n = m := nI_inj (by omega) (by omega) e
    have e2 : i = i' := nI_inj (by omega) (by omega) e2
    have e3 : j = j' := nI_inj (by omega) (by omega) e3
    subst e e2 e3
    exact ⟨tx', ty', ly', n', hr, rfl⟩
  have hvi := nI4 i hi
  have hvj := nI4 j hj
  have hci : (nI i).toNatClampNeg = i := nI_clamp (by omega)
  have hcj : (nI j).toNatClampNeg = j := nI_clamp (by omega)
  generalize hXX : sgn (crD a b i j) (crX b c i j) = x
  generalize hYY : sgn (crD a b i j) (crY a c i j) = y
  generalize hDD : sgn (crD a b i j) (crD a b i j) = d
  have fin2 : ∀ tx' ty' ly' n', ¬ crD a b i j = 0 → inA a b c x y d → minR tx ty ly n x y d tx' ty' ly' n' → rz_end ce_X7_cross [.ref 50, .int (nI i), .int (nI j)] (wMx (oMo th po re nw si pl tr bo pn ca sp (nI n)) a b c tx ty ly) none (wMx (oMo th po re nw si pl tr bo pn ca sp (nI n')) a b c tx' ty' ly') := by
    intro tx' ty' ly' n' h1 h2 h3
    refine fin _ _ _ _ ?_
    unfold mcR
    rw [hXX, hYY, hDD]
    exact if_no (fun z => z.elim h1 (fun y => y h2)) h3
  have ord : ∀ (k : Nat) (r : Int32), k < 8 → ce_X7_compare.2.2.2.2.2 [.ref 50, .int (nI k), .long x, .long y, .long d] (wMc (oMo th po re nw si pl tr bo pn ca sp (nI n)) tx ty ly) (some (.int r)) (wMc (oMo th po re nw si pl tr bo pn ca sp (nI n)) tx ty ly) → r = orF tx ly ty ly k x y d := fun k r hk hr => hr k rfl hk
  refine ⟨Nat.le_of_ble_eq_true rfl, [
    (112, [0, 1, 2, 3, 5, 7], fun z lv w' => ¬ crD a b i j = 0 ∧ lv = [(0, .ref 50), (1, .int (nI i)), (2, .int (nI j)), (3, .long d), (5, .long x), (7, .long y)] ∧ w' = wMx (oMo th po re nw si pl tr bo pn ca sp (nI n)) a b c tx ty ly ∧ z = 300),
    (129, [0, 1, 2, 3, 5, 7, 9], fun z lv w' => ∃ t : Nat, ¬ crD a b i j = 0 ∧ inA a b c x y d ∧ t ≤ n ∧ (∀ k, k < t → orF tx ly ty ly k x y d < 0) ∧ lv = [(0, .ref 50), (1, .int (nI i)), (2, .int (nI j)), (3, .long d), (5, .long x), (7, .long y), (9, .int (nI t))] ∧ w' = wMx (oMo th po re nw si pl tr bo pn ca sp (nI n)) a b c tx ty ly ∧ z = 100 + (n - t)),
    (158, [0, 1, 2, 3, 5, 7, 9], fun z lv w' => ∃ t : Nat, ¬ crD a b i j = 0 ∧ inA a b c x y d ∧ t ≤ n ∧ (∀ k, k < t → orF tx ly ty ly k x y d < 0) ∧ (t < n → ¬ orF tx ly ty ly t x y d < 0) ∧ lv = [(0, .ref 50), (1, .int (nI i)), (2, .int (nI j)), (3, .long d), (5, .long x), (7, .long y), (9, .int (nI t))] ∧ w' = wMx (oMo th po re nw si pl tr bo pn ca sp (nI n)) a b c tx ty ly ∧ z = 50),
    (188, [0, 1, 2, 3, 5, 7, 9, 10], fun z lv w' => ∃ t q : Nat, ¬ crD a b i j = 0 ∧ inA a b c x y d ∧ t ≤ q ∧ q ≤ n ∧ (∀ k, k < t → orF tx ly ty ly k x y d < 0) ∧ (t < n → ¬ orF tx ly ty ly t x y d < 0) ∧ ¬ (t < n ∧ orF tx ly ty ly t x y d = 0) ∧ lv = [(0, .ref 50), (1, .int (nI i)), (2, .int (nI j)), (3, .long d), (5, .long x), (7, .long y), (9, .int (nI t)), (10, .int (nI q))] ∧ w' = wMx (oMo th po re nw si pl tr bo pn ca sp (nI n)) a b c (shA tx n q) (shA ty n q) (shA ly n q) ∧ z = q - t)], 150, 400, ?_, ?_⟩
  · intro y1 hq z lv w' hJ
    rcases List.mem_cons.mp hq with rfl | hq
    · obtain ⟨hne, rfl, rfl, rfl⟩ := hJ
      conv => whnf
      refine ⟨⟨a, b, c, th, po, re, nw, si, pl, tr, bo, pn, ca, sp, nI n, x, y, d, 0, rfl, rfl, trivial⟩, ?_⟩
      intro r hr
      obtain rfl : r = bI (inA a b c x y d) := hr
      conv => whnf
      refine ⟨fun h => ?_, fun h => ?_⟩
      · refine fin tx ty ly n ?_
        unfold mcR
        rw [hXX, hYY, hDD]
        exact if_yes (Or.inr (bI_0 h)) ⟨rfl, rfl, rfl, rfl⟩
      · conv => whnf
        rintro _ rfl
        conv => whnf
        refine ⟨100 + (n - 0), by omega, 0, hne, bI_n h, by omega, lt_0, rfl, rfl, rfl⟩
    rcases List.mem_cons.mp hq with rfl | hq
    · obtain ⟨t, hne, hin, ht, hall, rfl, rfl, rfl⟩ := hJ
      conv => whnf
      refine ⟨fun k => ?_, fun k => ?_⟩
      · have e : t = n := by
          have := (nI_leI (by omega) (by omega)).mp k
          omega
        subst e
        conv => whnf
        refine ⟨50, by omega, t, hne, hin, ht, hall, fun z => absurd z (by omega), rfl, rfl, rfl⟩
      · have ht2 : t < n := by
          rcases Nat.lt_or_ge t n with z | z
          · exact z
          · exact absurd (nI_le z (by omega)) k
        conv => whnf
        refine ⟨⟨tx, ty, ly, th, po, re, nw, si, pl, tr, bo, pn, ca, sp, nI n, t, x, y, d, rfl, rfl, by omega⟩, ?_⟩
        intro r hr
        obtain rfl := ord t r (by omega) hr
        conv => whnf
        refine ⟨fun k2 => ?_, fun k2 => ?_⟩
        · conv => whnf
          refine ⟨50, by omega, t, hne, hin, ht, hall, fun _ => (i32_not_lt _ _).mpr k2, rfl, rfl, rfl⟩
        · conv => whnf
          rintro _ rfl
          conv => whnf
          refine ⟨100 + (n - (t + 1)), by omega, t + 1, hne, hin, by omega, lt_s hall ((i32_not_le _ _).mp k2), ?_, rfl, rfl⟩
          show [_, _, _, _, _, _, (9, Value.int (nI t + 1))] = _
          rw [nI_1]
    rcases List.mem_cons.mp hq with rfl | hq
    · obtain ⟨t, hne, hin, ht, hall, hno, rfl, rfl, rfl⟩ := hJ
      have e3 : wMx (oMo th po re nw si pl tr bo pn ca sp (nI n)) a b c tx ty ly = wMx (oMo th po re nw si pl tr bo pn ca sp (nI n)) a b c (shA tx n n) (shA ty n n) (shA ly n n) := by rw [shA_n, shA_n, shA_n]
      conv => whnf
      refine ⟨fun k => ?_, fun k => ?_⟩
      · have k := (nI_leI (by omega) (by omega)).mp k
        conv => whnf
        rintro _ rfl
        conv => whnf
        refine ⟨n - t, by omega, t, n, hne, hin, ht, Nat.le_refl n, hall, hno, fun z => absurd z.1 (by omega), rfl, e3, rfl⟩
      · have ht2 : t < n := by
          rcases Nat.lt_or_ge t n with z | z
          · exact z
          · exact absurd (nI_le z (by omega)) k
        conv => whnf
        refine ⟨⟨tx, ty, ly, th, po, re, nw, si, pl, tr, bo, pn, ca, sp, nI n, t, x, y, d, rfl, rfl, by omega⟩, ?_⟩
        intro r hr
        obtain rfl := ord t r (by omega) hr
        conv => whnf
        refine ⟨fun k2 => ?_, fun k2 => ?_⟩
        · exact fin2 tx ty ly n hne hin ⟨t, ht, hall, hno, if_yes ⟨ht2, k2⟩ ⟨rfl, rfl, rfl, rfl⟩⟩
        · conv => whnf
          rintro _ rfl
          conv => whnf
          refine ⟨n - t, by omega, t, n, hne, hin, ht, Nat.le_refl n, hall, hno, fun z => k2 z.2, rfl, e3, rfl⟩
    rcases List.mem_cons.mp hq with rfl | hq
    · obtain ⟨t, i2, hne, hin, hti, hin2, hall, hno, hnz, rfl, rfl, rfl⟩ := hJ
      have hvt : vp_in (nI t) 8 := vp_in_nI (by omega) (by omega)
      have hct : (nI t).toNatClampNeg = t := nI_clamp (by omega)
      conv => whnf
      refine ⟨fun k => ?_, fun k => ?_⟩
      · have k := (nI_leI (by omega) (by omega)).mp k
        have e : i2 = t := by omega
        subst e
        conv => whnf
        refine ⟨hvt, ?_⟩
        conv => whnf
        refine ⟨hvt, ?_⟩
        conv => whnf
        refine ⟨hvt, ?_⟩
        conv => whnf
        have res := fin2 _ _ _ _ hne hin ⟨i2, by omega, hall, hno, if_no hnz ⟨rfl, rfl, rfl, rfl⟩⟩
        rw [← shA_ins, ← shA_ins, ← shA_ins, ← nI_1] at res
        have hw : wMx (oMo th po re nw si pl tr bo pn ca sp (nI n + 1)) a b c (vp_updL (shA tx n i2) (nI i2).toNatClampNeg x) (vp_updL (shA ty n i2) (nI i2).toNatClampNeg y) (vp_updL (shA ly n i2) (nI i2).toNatClampNeg d) = wMx (oMo th po re nw si pl tr bo pn ca sp (nI n + 1)) a b c (vp_updL (shA tx n i2) i2 x) (vp_updL (shA ty n i2) i2 y) (vp_updL (shA ly n i2) i2 d) := by rw [hct]
        rw [← hw] at res
        exact res
      · have hlt : t < i2 := by
          rcases Nat.lt_or_ge t i2 with z | z
          · exact z
          · exact absurd (nI_le z (by omega)) k
        obtain ⟨q, rfl⟩ : ∃ q, i2 = q + 1 := ⟨i2 - 1, by omega⟩
        have hp : nI (q + 1) - 1 = nI q := nI_pred q
        have hv1 : vp_in (nI (q + 1)) 8 := vp_in_nI (by omega) (by omega)
        have hv0 : vp_in (nI (q + 1) - 1) 8 := by rw [hp]; exact vp_in_nI (by omega) (by omega)
        have hc1 : (nI (q + 1)).toNatClampNeg = q + 1 := nI_clamp (by omega)
        have hc0 : (nI (q + 1) - 1).toNatClampNeg = q := by rw [hp]; exact nI_clamp (by omega)
        conv => whnf
        refine ⟨hv0, ?_⟩
        conv => whnf
        refine ⟨hv1, ?_⟩
        conv => whnf
        refine ⟨hv0, ?_⟩
        conv => whnf
        refine ⟨hv1, ?_⟩
        conv => whnf
        refine ⟨hv0, ?_⟩
        conv => whnf
        refine ⟨hv1, ?_⟩
        conv => whnf
        rintro _ rfl
        conv => whnf
        refine ⟨q - t, by omega, t, q, hne, hin, by omega, by omega, hall, hno, hnz, ?_, ?_, rfl⟩
        · show [_, _, _, _, _, _, _, (10, Value.int (nI (q + 1) + (-1)))] = _
          rw [pk_m1]
        · have step : ∀ f : Nat → Int64, vp_updL (shA f n (q + 1)) (nI (q + 1)).toNatClampNeg (shA f n (q + 1) (nI (q + 1) - 1).toNatClampNeg) = shA f n q := fun f => by rw [hc1, hc0]; exact shA_s f (by omega)
          show wMx (oMo th po re nw si pl tr bo pn ca sp (nI n)) a b c (vp_updL (shA tx n (q + 1)) (nI (q + 1)).toNatClampNeg (shA tx n (q + 1) (nI (q + 1) - 1).toNatClampNeg)) (vp_updL (shA ty n (q + 1)) (nI (q + 1)).toNatClampNeg (shA ty n (q + 1) (nI (q + 1) - 1).toNatClampNeg)) (vp_updL (shA ly n (q + 1)) (nI (q + 1)).toNatClampNeg (shA ly n (q + 1) (nI (q + 1) - 1).toNatClampNeg)) = _
          rw [step, step, step]
    · exact absurd hq List.not_mem_nil
  · conv => whnf
    refine ⟨hvi, ?_⟩
    conv => whnf
    refine ⟨hvj, ?_⟩
    conv => whnf
    refine ⟨hvj, ?_⟩
    conv => whnf
    refine ⟨hvi, ?_⟩
    conv => whnf
    intro d0 ed0
    have ed : d0 = crD a b i j := by
      rw [ed0]
      show a (nI i).toNatClampNeg * b (nI j).toNatClampNeg - a (nI j).toNatClampNeg * b (nI i).toNatClampNeg = _
      rw [hci, hcj]
    conv => whnf
    refine ⟨fun h => ?_, fun h => ?_⟩
    · have h : d0 = 0 := (lg_eq0 d0 0).mp h
      refine fin tx ty ly n ?_
      exact if_yes (Or.inl (by rw [← ed]; exact h)) ⟨rfl, rfl, rfl, rfl⟩
    · have h : ¬ d0 = 0 := fun z => h ((lg_eq0 d0 0).mpr z)
      have h' : ¬ crD a b i j = 0 := by rw [← ed]; exact h
      conv => whnf
      refine ⟨hvi, ?_⟩
      conv => whnf
      refine ⟨hvj, ?_⟩
      conv => whnf
      refine ⟨hvj, ?_⟩
      conv => whnf
      refine ⟨hvi, ?_⟩
      conv => whnf
      intro xr exr
      have hx1 : xr = crX b c i j := by
        rw [exr]
        show c (nI i).toNatClampNeg * b (nI j).toNatClampNeg - c (nI j).toNatClampNeg * b (nI i).toNatClampNeg = _
        rw [hci, hcj]
      conv => whnf
      refine ⟨hvi, ?_⟩
      conv => whnf
      refine ⟨hvj, ?_⟩
      conv => whnf
      refine ⟨hvj, ?_⟩
      conv => whnf
      refine ⟨hvi, ?_⟩
      conv => whnf
      intro yr eyr
      have hy1 : yr = crY a c i j := by
        rw [eyr]
        show a (nI i).toNatClampNeg * c (nI j).toNatClampNeg - a (nI j).toNatClampNeg * c (nI i).toNatClampNeg = _
        rw [hci, hcj]
      conv => whnf
      refine ⟨fun h2 => ?_, fun h2 => ?_⟩
      · have h2 : ¬ d0 < 0 := (i64_not_lt _ _).mpr ((lg_ge0 d0 0).mp h2)
        have q1 : xr = x := by rw [← hXX, sgn, ← ed, if_neg h2, hx1]
        have q2 : yr = y := by rw [← hYY, sgn, ← ed, if_neg h2, hy1]
        have q3 : d0 = d := by rw [← hDD, sgn, ← ed, if_neg h2]
        conv => whnf
        refine ⟨300, by omega, h', ?_, rfl, rfl⟩
        rw [← q1, ← q2, ← q3]
        rfl
      · have h2 : d0 < 0 := (i64_not_le _ _).mp (fun z => h2 ((lg_ge0 d0 0).mpr z))
        conv => whnf
        intro d1 ed1
        conv => whnf
        intro x1 ex1
        conv => whnf
        intro y1 ey1
        have q1 : x1 = x := by rw [← hXX, sgn, ← ed, if_pos h2, ex1, hx1]
        have q2 : y1 = y := by rw [← hYY, sgn, ← ed, if_pos h2, ey1, hy1]
        have q3 : d1 = d := by rw [← hDD, sgn, ← ed, if_pos h2, ed1]
        conv => whnf
        refine ⟨300, by omega, h', ?_, rfl, rfl⟩
        rw [← q1, ← q2, ← q3]
        rfl
theorem rv_X7_cross : rz_Rv yX7_cross.cls ce_X7_cross := fun av w h => by
  obtain ⟨_, _, _, _, _, _, _, _, _, _, _, _, _, _, _, _, _, _, _, _, rfl, rfl, _⟩ := h
  exact ⟨_, _, _, _, _, _, rfl, rfl, rfl⟩
theorem cn_X7_cross (l : Launch) : rz_Con l yX7_cross cX7_cross 11 none 2 0 0 ce_X7_cross := rz_con (by decide +kernel) fo_X7 (fun _ h => absurd h List.not_mem_nil) (by
  intro q hq
  rcases List.mem_cons.mp hq with rfl | hq
  · exact rz_callV (cn_X7_isWithin l) (by decide +kernel) ⟨Nat.le_of_ble_eq_true rfl, Nat.le_of_ble_eq_true rfl⟩ m_X7_isWithin rfl i_X7_isWithin v_X7_isWithin rv_X7_isWithin n_X7_137
  rcases List.mem_cons.mp hq with rfl | hq
  · exact rz_callV (cn_X7_compare l) (by decide +kernel) ⟨Nat.le_of_ble_eq_true rfl, Nat.le_of_ble_eq_true rfl⟩ m_X7_compare rfl i_X7_compare v_X7_compare rv_X7_compare n_X7_141
  exact absurd hq List.not_mem_nil) r_X7_cross vc_X7_cross
