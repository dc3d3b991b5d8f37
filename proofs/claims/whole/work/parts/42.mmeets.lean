/-! The reference's meets, plot, corners. -/
theorem minR_n {X Y D : Nat → Int64} {n : Nat} {x y d : Int64} {X' Y' D' : Nat → Int64} {n' : Nat} (h : minR X Y D n x y d X' Y' D' n') : n' ≤ n + 1 := by
  obtain ⟨t, h1, h2, h3, h4⟩ := h
  by_cases z : t < n ∧ orF X D Y D t x y d = 0
  · have := (if_y h4 z).2.2.2; omega
  · have := (if_n h4 z).2.2.2; omega
theorem mcR_n {a b c : Nat → Int64} {i j : Nat} {X Y D : Nat → Int64} {n : Nat} {X' Y' D' : Nat → Int64} {n' : Nat} (h : mcR a b c i j X Y D n X' Y' D' n') : n' ≤ n + 1 := by
  unfold mcR at h
  split at h
  · have := h.2.2.2; omega
  · exact minR_n h
def fmS (a b c X Y D : Nat → Int64) : Nat → (Nat → Int64) → (Nat → Int64) → (Nat → Int64) → Nat → Prop
  | 0, t, y, m, n => t = X ∧ y = Y ∧ m = D ∧ n = 0
  | s + 1, t, y, m, n => ∃ t0 y0 m0 n0, fmS a b c X Y D s t0 y0 m0 n0 ∧ mcR a b c (pP s).1 (pP s).2 t0 y0 m0 n0 t y m n
theorem fmS_n {a b c X Y D : Nat → Int64} : ∀ {s : Nat} {t y m : Nat → Int64} {n : Nat}, fmS a b c X Y D s t y m n → n ≤ s
  | 0, _, _, _, _, h => by have := h.2.2.2; omega
  | s + 1, _, _, _, _, h => by
    obtain ⟨t0, y0, m0, n0, h1, h2⟩ := h
    have := fmS_n h1
    have := mcR_n h2
    omega
def eiM (i j e : Nat) : Nat := if e < 2 then i else j
def exM (sg : Nat → Int32) (i j e : Nat) : Int64 := (sg (6 * eiM i j e + (2 + 2 * (e % 2)))).toInt64
def eyM (sg : Nat → Int32) (i j e : Nat) : Int64 := (sg (6 * eiM i j e + (3 + 2 * (e % 2)))).toInt64
def mmR (px py sg : Nat → Int32) (n : Nat) (A B C X Y D : Nat → Int64) (co x y r : Int32) (A' B' C' X' Y' D' : Nat → Int64) (k : Int32) : Prop :=
  if paP px py sg n x y then
    A' = bdF (bvA sg y.toNatClampNeg) 2 (bdF (bvA sg x.toNatClampNeg) 0 A 2) 2 ∧ B' = bdF (bvB sg y.toNatClampNeg) 2 (bdF (bvB sg x.toNatClampNeg) 0 B 2) 2 ∧ C' = bdF (bvC sg px py y.toNatClampNeg) 2 (bdF (bvC sg px py x.toNatClampNeg) 0 C 2) 2 ∧ ∃ j, k = nI j ∧ fmS A' B' C' X Y D 6 X' Y' D' j ∧ r = kdF k A' B' (exM sg x.toNatClampNeg y.toNatClampNeg) (eyM sg x.toNatClampNeg y.toNatClampNeg)
  else r = -1 ∧ A' = A ∧ B' = B ∧ C' = C ∧ X' = X ∧ Y' = Y ∧ D' = D ∧ k = co
theorem mmR_1 {px py sg : Nat → Int32} {n : Nat} {A B C X Y D : Nat → Int64} {co x y r : Int32} {A' B' C' X' Y' D' : Nat → Int64} {k : Int32} (h : mmR px py sg n A B C X Y D co x y r A' B' C' X' Y' D' k) (hr : r = 1) : okS x n ∧ okS y n ∧ ∃ j, j ≤ 6 ∧ k = nI j := by
  by_cases z : paP px py sg n x y
  · obtain ⟨-, -, -, j, h1, h2, -⟩ := if_y h z
    exact ⟨z.1, z.2.1, j, fmS_n h2, h1⟩
  · have := (if_n h z).1
    rw [hr] at this
    exact absurd this (by decide)
abbrev wMq (o : rz_C) (px py sg : Nat → Int32) (A B C X Y D : Nat → Int64) : rz_W := [(50, o), (51, ri 6 px), (52, ri 6 py), (57, ri 600 sg), (67, rl 4 A), (68, rl 4 B), (69, rl 4 C), (70, rl 8 X), (71, rl 8 Y), (72, rl 8 D)]
abbrev kMq : List Nat := [50, 51, 52, 57, 67, 68, 69, 70, 71, 72]
def sMq (w : rz_W) (A B C X Y D : Nat → Int64) (k : Int32) : rz_W := rz_set (rz_set (rz_set (rz_set (rz_set (rz_set (mset w 33 k) 67 (rl 4 A)) 68 (rl 4 B)) 69 (rl 4 C)) 70 (rl 8 X)) 71 (rl 8 Y)) 72 (rl 8 D)
theorem any4 {A B : Nat → Int64} {ex ey : Nat → Int64} (e : Nat) (h : e < 4) (hr : ruA A B (ex e) (ey e)) : enA A B ex ey := by
  match e, h, hr with
  | 0, _, hr => exact Or.inl hr
  | 1, _, hr => exact Or.inr (Or.inl hr)
  | 2, _, hr => exact Or.inr (Or.inr (Or.inl hr))
  | 3, _, hr => exact Or.inr (Or.inr (Or.inr hr))
theorem none4 {A B : Nat → Int64} {ex ey : Nat → Int64} (h : ∀ e, e < 4 → ¬ ruA A B (ex e) (ey e)) : ¬ enA A B ex ey := fun z => by
  rcases z with z | z | z | z
  · exact h 0 (by omega) z
  · exact h 1 (by omega) z
  · exact h 2 (by omega) z
  · exact h 3 (by omega) z
def ce_X7_meets : rz_K := (3, kMq, 0, false, fun av w => ∃ (px py sg : Nat → Int32) (A B C X Y D : Nat → Int64) (th po re nw pl tr bo pn ca sp co x y : Int32) (n : Nat), av = [.ref 50, .int x, .int y] ∧ w = wMq (oMo th po re nw (nI n) pl tr bo pn ca sp co) px py sg A B C X Y D ∧ n ≤ 100 ∧ ∀ i, i < n → vp_in (sg (6 * i + 0)) 6, fun av w o w' => ∀ n, rF w 50 10 = nI n → n ≤ 100 → ∃ (A' B' C' X' Y' D' : Nat → Int64) (k : Int32), mmR (rI w 51) (rI w 52) (rI w 57) n (rJ w 67) (rJ w 68) (rJ w 69) (rJ w 70) (rJ w 71) (rJ w 72) (rF w 50 33) (rA av 1) (rA av 2) (rR o) A' B' C' X' Y' D' k ∧ w' = sMq w A' B' C' X' Y' D' k)
def cl_X7_meets : List (Nat × rz_K) := []
def cv_X7_meets : List (Nat × rz_K) := [(119, ce_X7_of), (124, ce_X7_isPair), (127, ce_X7_bounds), (134, ce_X7_cross), (137, ce_X7_isWithin)]
set_option maxHeartbeats 8000000 in
theorem vc_X7_meets : rz_VC k_X7_meets fl_X7 cl_X7_meets cv_X7_meets s_X7_meets false 5 ce_X7_meets := by
  intro av w hlen hk hpre
  obtain ⟨px, py, sg, A, B, C, X, Y, D, th, po, re, nw, pl, tr, bo, pn, ca, sp, co, x, y, n, rfl, rfl, hn, hsg⟩ := hpre
  by_cases ok : paP px py sg n x y
  · obtain ⟨i, hi, rfl⟩ := okS_nat ok.1 (by omega)
    obtain ⟨j, hj, rfl⟩ := okS_nat ok.2.1 (by omega)
    have hci : (nI i).toNatClampNeg = i := nI_clamp (by omega)
    have hcj : (nI j).toNatClampNeg = j := nI_clamp (by omega)
    generalize hA1 : bdF (bvA sg i) 0 A 2 = A1
    generalize hB1 : bdF (bvB sg i) 0 B 2 = B1
    generalize hC1 : bdF (bvC sg px py i) 0 C 2 = C1
    generalize hA2 : bdF (bvA sg j) 2 A1 2 = A2
    generalize hB2 : bdF (bvB sg j) 2 B1 2 = B2
    generalize hC2 : bdF (bvC sg px py j) 2 C1 2 = C2
    have fin : ∀ (t u m : Nat → Int64) (q : Nat) (v : Int32), fmS A2 B2 C2 X Y D 6 t u m q → v = kdF (nI q) A2 B2 (exM sg i j) (eyM sg i j) → rz_end ce_X7_meets [.ref 50, .int (nI i), .int (nI j)] (wMq (oMo th po re nw (nI n) pl tr bo pn ca sp co) px py sg A B C X Y D) (some (.int v)) (wMq (oMo th po re nw (nI n) pl tr bo pn ca sp (nI q)) px py sg A2 B2 C2 t u m) := by
      intro t u m q v h1 h2
      refine ⟨⟨_, rfl⟩, fun z => (by cases z), ?_⟩
      intro n' e1 g1
      have e1 : n = n' := nI_inj (by omega) (by omega) e1
      subst e1
      refine ⟨A2, B2, C2, t, u, m, nI q, if_yes ok ⟨?_, ?_, ?_, q, rfl, h1, ?_⟩, rfl⟩
      · show A2 = bdF (bvA sg (nI j).toNatClampNeg) 2 (bdF (bvA sg (nI i).toNatClampNeg) 0 A 2) 2
        rw [hci, hcj, hA1, hA2]
      · show B2 = bdF (bvB sg (nI j).toNatClampNeg) 2 (bdF (bvB sg (nI i).toNatClampNeg) 0 B 2) 2
        rw [hci, hcj, hB1, hB2]
      · show C2 = bdF (bvC sg px py (nI j).toNatClampNeg) 2 (bdF (bvC sg px py (nI i).toNatClampNeg) 0 C 2) 2
        rw [hci, hcj, hC1, hC2]
      · show v = kdF (nI q) A2 B2 (exM sg (nI i).toNatClampNeg (nI j).toNatClampNeg) (eyM sg (nI i).toNatClampNeg (nI j).toNatClampNeg)
        rw [hci, hcj, h2]
    refine ⟨Nat.le_of_ble_eq_true rfl, [
      (17, [0, 1, 2], fun z lv w' => lv = [(0, .ref 50), (1, .int (nI i)), (2, .int (nI j))] ∧ w' = wMq (oMo th po re nw (nI n) pl tr bo pn ca sp co) px py sg A1 B1 C1 X Y D ∧ z = 500),
      (23, [0, 1, 2], fun z lv w' => lv = [(0, .ref 50), (1, .int (nI i)), (2, .int (nI j))] ∧ w' = wMq (oMo th po re nw (nI n) pl tr bo pn ca sp co) px py sg A2 B2 C2 X Y D ∧ z = 400),
      (30, [0, 1, 2, 3], fun z lv w' => ∃ (s : Nat) (t u m : Nat → Int64) (q : Nat), s ≤ 4 ∧ fmS A2 B2 C2 X Y D (oP s) t u m q ∧ lv = [(0, .ref 50), (1, .int (nI i)), (2, .int (nI j)), (3, .int (nI s))] ∧ w' = wMq (oMo th po re nw (nI n) pl tr bo pn ca sp (nI q)) px py sg A2 B2 C2 t u m ∧ z = (4 - s) * 20 + 110),
      (40, [0, 1, 2, 3, 4], fun z lv w' => ∃ (s g : Nat) (t u m : Nat → Int64) (q : Nat), s < 4 ∧ s < g ∧ g ≤ 4 ∧ fmS A2 B2 C2 X Y D (oP s + (g - (s + 1))) t u m q ∧ lv = [(0, .ref 50), (1, .int (nI i)), (2, .int (nI j)), (3, .int (nI s)), (4, .int (nI g))] ∧ w' = wMq (oMo th po re nw (nI n) pl tr bo pn ca sp (nI q)) px py sg A2 B2 C2 t u m ∧ z = (4 - s) * 20 + 109 - g),
      (76, [0, 1, 2, 3], fun z lv w' => ∃ (s : Nat) (t u m : Nat → Int64) (q : Nat), s ≤ 2 ∧ fmS A2 B2 C2 X Y D 6 t u m q ∧ ¬ nI q = 0 ∧ (∀ e, e < 2 * s → ¬ ruA A2 B2 (exM sg i j e) (eyM sg i j e)) ∧ lv = [(0, .ref 50), (1, .int (nI i)), (2, .int (nI j)), (3, .int (nI s))] ∧ w' = wMq (oMo th po re nw (nI n) pl tr bo pn ca sp (nI q)) px py sg A2 B2 C2 t u m ∧ z = (2 - s) * 10 + 5),
      (84, [0, 1, 2, 3, 4], fun z lv w' => ∃ (s g : Nat) (t u m : Nat → Int64) (q : Nat), s < 2 ∧ g ≤ 2 ∧ fmS A2 B2 C2 X Y D 6 t u m q ∧ ¬ nI q = 0 ∧ (∀ e, e < 2 * s + g → ¬ ruA A2 B2 (exM sg i j e) (eyM sg i j e)) ∧ lv = [(0, .ref 50), (1, .int (nI i)), (2, .int (nI j)), (3, .int (nI s)), (4, .int (nI g))] ∧ w' = wMq (oMo th po re nw (nI n) pl tr bo pn ca sp (nI q)) px py sg A2 B2 C2 t u m ∧ z = (2 - s) * 10 + 4 - g)], 100, 600, ?_, ?_⟩
    · intro y1 hq z lv w' hJ
      rcases List.mem_cons.mp hq with rfl | hq
      · obtain ⟨rfl, rfl, rfl⟩ := hJ
        conv => whnf
        refine ⟨⟨px, py, sg, A1, B1, C1, th, po, re, nw, nI n, pl, tr, bo, pn, ca, sp, co, j, 2, rfl, rfl, by omega, by omega, hsg j hj⟩, ?_⟩
        intro wc hwc
        have hwc : wc = wMd (oMo th po re nw (nI n) pl tr bo pn ca sp co) px py sg (bdF (bvA sg j) 2 A1 2) (bdF (bvB sg j) 2 B1 2) (bdF (bvC sg px py j) 2 C1 2) := hwc j 2 rfl (by omega) rfl (by omega)
        rw [hA2, hB2, hC2] at hwc
        subst hwc
        conv => whnf
        refine ⟨400, by omega, rfl, rfl, rfl⟩
      rcases List.mem_cons.mp hq with rfl | hq
      · obtain ⟨rfl, rfl, rfl⟩ := hJ
        conv => whnf
        rintro _ rfl
        conv => whnf
        refine ⟨(4 - 0) * 20 + 110, by omega, 0, X, Y, D, 0, by omega, ⟨rfl, rfl, rfl, rfl⟩, rfl, rfl, rfl⟩
      rcases List.mem_cons.mp hq with rfl | hq
      · obtain ⟨s, t, u, m, q, hs, hfc, rfl, rfl, rfl⟩ := hJ
        conv => whnf
        refine ⟨fun k => ?_, fun k => ?_⟩
        · have k : nI 4 ≤ nI s := k
          have e : s = 4 := by
            have := (nI_leI (by omega) (by omega)).mp k
            omega
          subst e
          conv => whnf
          refine ⟨fun k2 => ?_, fun k2 => ?_⟩
          · exact fin t u m q 0 hfc (by rw [kdF, if_pos k2])
          · conv => whnf
            rintro _ rfl
            conv => whnf
            refine ⟨(2 - 0) * 10 + 5, by omega, 0, t, u, m, q, by omega, hfc, k2, fun e he => absurd he (by omega), rfl, rfl, rfl⟩
        · have k : ¬ nI 4 ≤ nI s := k
          have hi2 : s < 4 := by
            rcases Nat.lt_or_ge s 4 with z | z
            · exact z
            · exact absurd (nI_le z (by omega)) k
          conv => whnf
          rintro _ rfl
          conv => whnf
          refine ⟨(4 - s) * 20 + 109 - (s + 1), by omega, s, s + 1, t, u, m, q, hi2, by omega, by omega, ?_, ?_, rfl, rfl⟩
          · rw [show oP s + (s + 1 - (s + 1)) = oP s by omega]
            exact hfc
          · show [_, _, _, _, (4, Value.int (nI s + 1))] = _
            rw [nI_1]
      rcases List.mem_cons.mp hq with rfl | hq
      · obtain ⟨s, g, t, u, m, q, hs, hsg2, hg4, hfc, rfl, rfl, rfl⟩ := hJ
        conv => whnf
        refine ⟨fun k => ?_, fun k => ?_⟩
        · have k : nI 4 ≤ nI g := k
          have e : g = 4 := by
            have := (nI_leI (by omega) (by omega)).mp k
            omega
          subst e
          conv => whnf
          rintro _ rfl
          conv => whnf
          refine ⟨(4 - (s + 1)) * 20 + 110, by omega, s + 1, t, u, m, q, by omega, ?_, ?_, rfl, rfl⟩
          · rw [← oP_s s hs]
            exact hfc
          · show [_, _, _, (3, Value.int (nI s + 1))] = _
            rw [nI_1]
        · have k : ¬ nI 4 ≤ nI g := k
          have hj2 : g < 4 := by
            rcases Nat.lt_or_ge g 4 with z | z
            · exact z
            · exact absurd (nI_le z (by omega)) k
          obtain ⟨hpp, hs6⟩ := pP_at s hs g hj2 hsg2
          have hn6 : q < 6 := Nat.lt_of_le_of_lt (fmS_n hfc) hs6
          conv => whnf
          refine ⟨⟨A2, B2, C2, t, u, m, th, po, re, nw, nI n, pl, tr, bo, pn, ca, sp, q, s, g, rfl, rfl, hn6, hs, hj2⟩, ?_⟩
          intro wc hwc
          obtain ⟨t', u', m', q', g1, hw⟩ := hwc q s g rfl hn6 rfl hs rfl hj2
          have g1 : mcR A2 B2 C2 s g t u m q t' u' m' q' := g1
          have hw : wc = wMx (oMo th po re nw (nI n) pl tr bo pn ca sp (nI q')) A2 B2 C2 t' u' m' := hw
          subst hw
          conv => whnf
          rintro _ rfl
          conv => whnf
          refine ⟨(4 - s) * 20 + 109 - (g + 1), by omega, s, g + 1, t', u', m', q', hs, by omega, by omega, ?_, ?_, rfl, rfl⟩
          · rw [show oP s + (g + 1 - (s + 1)) = oP s + (g - (s + 1)) + 1 by omega]
            refine ⟨t, u, m, q, hfc, ?_⟩
            rw [hpp]
            exact g1
          · show [_, _, _, _, (4, Value.int (nI g + 1))] = _
            rw [nI_1]
      rcases List.mem_cons.mp hq with rfl | hq
      · obtain ⟨s, t, u, m, q, hs, hfc, hq0, hall, rfl, rfl, rfl⟩ := hJ
        conv => whnf
        refine ⟨fun k => ?_, fun k => ?_⟩
        · have k : nI 2 ≤ nI s := k
          have e : s = 2 := by
            have := (nI_leI (by omega) (by omega)).mp k
            omega
          subst e
          exact fin t u m q 1 hfc (by rw [kdF, if_neg hq0, if_neg (none4 (fun e he => hall e (by omega)))])
        · have k : ¬ nI 2 ≤ nI s := k
          have hi2 : s < 2 := by
            rcases Nat.lt_or_ge s 2 with z | z
            · exact z
            · exact absurd (nI_le z (by omega)) k
          conv => whnf
          rintro _ rfl
          conv => whnf
          refine ⟨(2 - s) * 10 + 4 - 0, by omega, s, 0, t, u, m, q, hi2, by omega, hfc, hq0, hall, rfl, rfl, rfl⟩
      rcases List.mem_cons.mp hq with rfl | hq
      · obtain ⟨s, g, t, u, m, q, hs, hg, hfc, hq0, hall, rfl, rfl, rfl⟩ := hJ
        conv => whnf
        refine ⟨fun k => ?_, fun k => ?_⟩
        · have k : nI 2 ≤ nI g := k
          have e : g = 2 := by
            have := (nI_leI (by omega) (by omega)).mp k
            omega
          subst e
          conv => whnf
          rintro _ rfl
          conv => whnf
          refine ⟨(2 - (s + 1)) * 10 + 5, by omega, s + 1, t, u, m, q, by omega, hfc, hq0, fun e he => hall e (by omega), ?_, rfl, rfl⟩
          show [_, _, _, (3, Value.int (nI s + 1))] = _
          rw [nI_1]
        · have k : ¬ nI 2 ≤ nI g := k
          have hg2 : g < 2 := by
            rcases Nat.lt_or_ge g 2 with z | z
            · exact z
            · exact absurd (nI_le z (by omega)) k
          have e2 : (2 : Int32) + 2 * nI g = nI (2 + 2 * g) := by
            show nI 2 + nI 2 * nI g = _
            rw [pk_mul, nI_add]
          have e3 : (3 : Int32) + 2 * nI g = nI (3 + 2 * g) := by
            show nI 3 + nI 2 * nI g = _
            rw [pk_mul, nI_add]
          have hgm : (2 * s + g) % 2 = g := by omega
          have rest : ∀ r : Int32, r = bI (ruA A2 B2 (exM sg i j (2 * s + g)) (eyM sg i j (2 * s + g))) → (¬ r = 0 → rz_end ce_X7_meets [.ref 50, .int (nI i), .int (nI j)] (wMq (oMo th po re nw (nI n) pl tr bo pn ca sp co) px py sg A B C X Y D) (some (.int 2)) (wMq (oMo th po re nw (nI n) pl tr bo pn ca sp (nI q)) px py sg A2 B2 C2 t u m)) ∧ (r = 0 → ∀ e, e < 2 * s + (g + 1) → ¬ ruA A2 B2 (exM sg i j e) (eyM sg i j e)) := by
            intro r hr
            refine ⟨fun z => ?_, fun z => ?_⟩
            · rw [hr] at z
              exact fin t u m q 2 hfc (by rw [kdF, if_neg hq0, if_pos (any4 (2 * s + g) (by omega) (bI_n z))])
            · rw [hr] at z
              intro e he
              rcases Nat.lt_or_ge e (2 * s + g) with y | y
              · exact hall e y
              · have : e = 2 * s + g := by omega
                rw [this]
                exact bI_0 z
          rcases (by omega : s = 0 ∨ s = 1) with rfl | rfl
          · have hx : exM sg i j (2 * 0 + g) = (sg (6 * i + (2 + 2 * g))).toInt64 := by rw [exM, hgm, eiM, if_pos (by omega)]
            have hy : eyM sg i j (2 * 0 + g) = (sg (6 * i + (3 + 2 * g))).toInt64 := by rw [eyM, hgm, eiM, if_pos (by omega)]
            rw [hx, hy] at rest
            conv => whnf
            refine ⟨fun k0 => ?_, fun k0 => ?_⟩
            · conv => whnf
              refine ⟨⟨sg, th, po, re, nw, nI n, pl, tr, bo, pn, ca, sp, nI q, i, 2 + 2 * g, (by show [_, _, Value.int ((2 : Int32) + 2 * nI g)] = _; rw [e2]), rfl, by omega, by omega⟩, ?_⟩
              intro r hr
              have hr : r = sg (6 * i + (2 + 2 * g)) := hr i (2 + 2 * g) rfl e2 (by omega) (by omega)
              subst hr
              conv => whnf
              refine ⟨fun k1 => ?_, fun k1 => ?_⟩
              · conv => whnf
                refine ⟨⟨sg, th, po, re, nw, nI n, pl, tr, bo, pn, ca, sp, nI q, i, 3 + 2 * g, (by show [_, _, Value.int ((3 : Int32) + 2 * nI g)] = _; rw [e3]), rfl, by omega, by omega⟩, ?_⟩
                intro r hr
                have hr : r = sg (6 * i + (3 + 2 * g)) := hr i (3 + 2 * g) rfl e3 (by omega) (by omega)
                subst hr
                conv => whnf
                refine ⟨⟨A2, B2, C2, th, po, re, nw, nI n, pl, tr, bo, pn, ca, sp, nI q, _, _, _, 1, rfl, rfl, trivial⟩, ?_⟩
                intro r hr
                have rs := rest r hr
                conv => whnf
                refine ⟨fun k2 => ?_, fun k2 => ?_⟩
                · conv => whnf
                  rintro _ rfl
                  conv => whnf
                  refine ⟨(2 - 0) * 10 + 4 - (g + 1), by omega, 0, g + 1, t, u, m, q, by omega, by omega, hfc, hq0, rs.2 k2, ?_, rfl, rfl⟩
                  show [_, _, _, _, (4, Value.int (nI g + 1))] = _
                  rw [nI_1]
                · exact rs.1 k2
              · exact absurd rfl k1
            · exact absurd rfl k0
          · have hx : exM sg i j (2 * 1 + g) = (sg (6 * j + (2 + 2 * g))).toInt64 := by rw [exM, hgm, eiM, if_neg (by omega)]
            have hy : eyM sg i j (2 * 1 + g) = (sg (6 * j + (3 + 2 * g))).toInt64 := by rw [eyM, hgm, eiM, if_neg (by omega)]
            rw [hx, hy] at rest
            conv => whnf
            refine ⟨fun k0 => ?_, fun k0 => ?_⟩
            · exact absurd k0 (by decide)
            · conv => whnf
              refine ⟨⟨sg, th, po, re, nw, nI n, pl, tr, bo, pn, ca, sp, nI q, j, 2 + 2 * g, (by show [_, _, Value.int ((2 : Int32) + 2 * nI g)] = _; rw [e2]), rfl, by omega, by omega⟩, ?_⟩
              intro r hr
              have hr : r = sg (6 * j + (2 + 2 * g)) := hr j (2 + 2 * g) rfl e2 (by omega) (by omega)
              subst hr
              conv => whnf
              refine ⟨fun k1 => ?_, fun k1 => ?_⟩
              · exact absurd k1 (by decide)
              · conv => whnf
                refine ⟨⟨sg, th, po, re, nw, nI n, pl, tr, bo, pn, ca, sp, nI q, j, 3 + 2 * g, (by show [_, _, Value.int ((3 : Int32) + 2 * nI g)] = _; rw [e3]), rfl, by omega, by omega⟩, ?_⟩
                intro r hr
                have hr : r = sg (6 * j + (3 + 2 * g)) := hr j (3 + 2 * g) rfl e3 (by omega) (by omega)
                subst hr
                conv => whnf
                refine ⟨⟨A2, B2, C2, th, po, re, nw, nI n, pl, tr, bo, pn, ca, sp, nI q, _, _, _, 1, rfl, rfl, trivial⟩, ?_⟩
                intro r hr
                have rs := rest r hr
                conv => whnf
                refine ⟨fun k2 => ?_, fun k2 => ?_⟩
                · conv => whnf
                  rintro _ rfl
                  conv => whnf
                  refine ⟨(2 - 1) * 10 + 4 - (g + 1), by omega, 1, g + 1, t, u, m, q, by omega, by omega, hfc, hq0, rs.2 k2, ?_, rfl, rfl⟩
                  show [_, _, _, _, (4, Value.int (nI g + 1))] = _
                  rw [nI_1]
                · exact rs.1 k2
      · exact absurd hq List.not_mem_nil
    · conv => whnf
      refine ⟨⟨px, py, sg, th, po, re, nw, pl, tr, bo, pn, ca, sp, co, nI i, nI j, n, rfl, rfl, hn, hsg⟩, ?_⟩
      intro r hr
      obtain rfl : r = bI (paP px py sg n (nI i) (nI j)) := hr n rfl hn
      conv => whnf
      refine ⟨fun h => ?_, fun h => ?_⟩
      · exact absurd ok (bI_0 h)
      · conv => whnf
        refine ⟨⟨px, py, sg, A, B, C, th, po, re, nw, nI n, pl, tr, bo, pn, ca, sp, co, i, 0, rfl, rfl, by omega, by omega, hsg i hi⟩, ?_⟩
        intro wc hwc
        have hwc : wc = wMd (oMo th po re nw (nI n) pl tr bo pn ca sp co) px py sg (bdF (bvA sg i) 0 A 2) (bdF (bvB sg i) 0 B 2) (bdF (bvC sg px py i) 0 C 2) := hwc i 0 rfl (by omega) rfl (by omega)
        rw [hA1, hB1, hC1] at hwc
        subst hwc
        conv => whnf
        refine ⟨500, by omega, rfl, rfl, rfl⟩
  · refine ⟨Nat.le_of_ble_eq_true rfl, [], 60, 0, fun q h => absurd h List.not_mem_nil, ?_⟩
    conv => whnf
    refine ⟨⟨px, py, sg, th, po, re, nw, pl, tr, bo, pn, ca, sp, co, x, y, n, rfl, rfl, hn, hsg⟩, ?_⟩
    intro r hr
    obtain rfl : r = bI (paP px py sg n x y) := hr n rfl hn
    conv => whnf
    refine ⟨fun h => ?_, fun h => ?_⟩
    · refine ⟨⟨_, rfl⟩, fun z => (by cases z), ?_⟩
      intro n' e1 g1
      have e1 : n = n' := nI_inj (by omega) (by omega) e1
      subst e1
      exact ⟨A, B, C, X, Y, D, co, if_no ok ⟨rfl, rfl, rfl, rfl, rfl, rfl, rfl, rfl⟩, rfl⟩
    · exact absurd (bI_n h) ok
theorem rv_X7_meets : rz_Rv yX7_meets.cls ce_X7_meets := fun av w h => by
  obtain ⟨_, _, _, _, _, _, _, _, _, _, _, _, _, _, _, _, _, _, _, _, _, _, _, rfl, rfl, _⟩ := h
  exact ⟨_, _, _, _, _, _, rfl, rfl, rfl⟩
theorem cn_X7_meets (l : Launch) : rz_Con l yX7_meets cX7_meets 5 (some .int) 3 0 0 ce_X7_meets := rz_con (by decide +kernel) fo_X7 (fun _ h => absurd h List.not_mem_nil) (by
  intro q hq
  rcases List.mem_cons.mp hq with rfl | hq
  · exact rz_callV (cn_X7_of l) (by decide +kernel) ⟨Nat.le_of_ble_eq_true rfl, Nat.le_of_ble_eq_true rfl⟩ m_X7_of rfl i_X7_of v_X7_of rv_X7_of n_X7_119
  rcases List.mem_cons.mp hq with rfl | hq
  · exact rz_callV (cn_X7_isPair l) (by decide +kernel) ⟨Nat.le_of_ble_eq_true rfl, Nat.le_of_ble_eq_true rfl⟩ m_X7_isPair rfl i_X7_isPair v_X7_isPair rv_X7_isPair n_X7_124
  rcases List.mem_cons.mp hq with rfl | hq
  · exact rz_callV (cn_X7_bounds l) (by decide +kernel) ⟨Nat.le_of_ble_eq_true rfl, Nat.le_of_ble_eq_true rfl⟩ m_X7_bounds rfl i_X7_bounds v_X7_bounds rv_X7_bounds n_X7_127
  rcases List.mem_cons.mp hq with rfl | hq
  · exact rz_callV (cn_X7_cross l) (by decide +kernel) ⟨Nat.le_of_ble_eq_true rfl, Nat.le_of_ble_eq_true rfl⟩ m_X7_cross rfl i_X7_cross v_X7_cross rv_X7_cross n_X7_134
  rcases List.mem_cons.mp hq with rfl | hq
  · exact rz_callV (cn_X7_isWithin l) (by decide +kernel) ⟨Nat.le_of_ble_eq_true rfl, Nat.le_of_ble_eq_true rfl⟩ m_X7_isWithin rfl i_X7_isWithin v_X7_isWithin rv_X7_isWithin n_X7_137
  exact absurd hq List.not_mem_nil) r_X7_meets vc_X7_meets
