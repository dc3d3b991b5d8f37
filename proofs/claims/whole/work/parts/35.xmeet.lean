/-! CoastWatch: sight, meet, plot, corners, plotted, speed, track. -/
def pA (ay b2 : Nat → Int32) (a : Nat → Int64) (q s : Nat) : Nat → Int64 := up2 a q (-(ay s)).toInt64 (-(-(b2 s))).toInt64
def pB (ax bx : Nat → Int32) (b : Nat → Int64) (q s : Nat) : Nat → Int64 := up2 b q (ax s).toInt64 (-(bx s)).toInt64
def pC (fx fy ax ay bx b2 : Nat → Int32) (c : Nat → Int64) (q s : Nat) : Nat → Int64 := up2 c q (-(ay s) * fx s + ax s * fy s).toInt64 (-(-(b2 s)) * fx s + -(bx s) * fy s).toInt64
def pX (ax bx : Nat → Int32) (e : Nat → Int64) (q s : Nat) : Nat → Int64 := up2 e q (ax s).toInt64 (bx s).toInt64
def kdF (k : Int32) (a b ex ey : Nat → Int64) : Int32 := if k = 0 then 0 else if enA a b ex ey then 2 else 1
/-- what meet does: r the answer, then the shape -/
def mtR (fx fy mi ax ay bx b2 : Nat → Int32) (n : Nat) (a b c ex ey tx lx ty ly : Nat → Int64) (co x y r : Int32) (a' b' c' ex' ey' tx' lx' ty' ly' : Nat → Int64) (k : Int32) : Prop :=
  if okS x n ∧ okS y n ∧ cmP fx fy mi x.toNatClampNeg y.toNatClampNeg then
    a' = pA ay b2 (pA ay b2 a 0 x.toNatClampNeg) 2 y.toNatClampNeg ∧ b' = pB ax bx (pB ax bx b 0 x.toNatClampNeg) 2 y.toNatClampNeg ∧ c' = pC fx fy ax ay bx b2 (pC fx fy ax ay bx b2 c 0 x.toNatClampNeg) 2 y.toNatClampNeg ∧ ex' = pX ax bx (pX ax bx ex 0 x.toNatClampNeg) 2 y.toNatClampNeg ∧ ey' = pX ay b2 (pX ay b2 ey 0 x.toNatClampNeg) 2 y.toNatClampNeg ∧ ∃ j, k = nI j ∧ fcS a' b' c' tx lx ty ly 6 tx' lx' ty' ly' j ∧ r = kdF k a' b' ex' ey'
  else r = -1 ∧ a' = a ∧ b' = b ∧ c' = c ∧ ex' = ex ∧ ey' = ey ∧ tx' = tx ∧ lx' = lx ∧ ty' = ty ∧ ly' = ly ∧ k = co
theorem mtR_1 {fx fy mi ax ay bx b2 : Nat → Int32} {n : Nat} {a b c ex ey tx lx ty ly : Nat → Int64} {co x y r : Int32} {a' b' c' ex' ey' tx' lx' ty' ly' : Nat → Int64} {k : Int32} (h : mtR fx fy mi ax ay bx b2 n a b c ex ey tx lx ty ly co x y r a' b' c' ex' ey' tx' lx' ty' ly' k) (hr : r = 1) : okS x n ∧ okS y n ∧ ∃ j, j ≤ 6 ∧ k = nI j := by
  by_cases z : okS x n ∧ okS y n ∧ cmP fx fy mi x.toNatClampNeg y.toNatClampNeg
  · obtain ⟨-, -, -, -, -, j, h1, h2, -⟩ := if_y h z
    exact ⟨z.1, z.2.1, j, fcS_n h2, h1⟩
  · have := (if_n h z).1
    rw [hr] at this
    exact absurd this (by decide)
def ce_X6_meet : rz_K := (3, 0 :: kSS, 0, false, fun av w => ∃ (fx fy mi ax ay bx b2 : Nat → Int32) (a b c ex ey tx lx ty ly : Nat → Int64) (nw co x y : Int32) (n : Nat), av = [.ref 0, .int x, .int y] ∧ w = (0, oCW nw) :: wSS fx fy mi ax ay bx b2 (nI n) a b c ex ey tx lx ty ly co ∧ n ≤ 100, fun av w o w' => ∀ n, rF w 9 7 = nI n → n ≤ 100 → ∃ (a' b' c' ex' ey' tx' lx' ty' ly' : Nat → Int64) (k : Int32), mtR (rI w 10) (rI w 11) (rI w 12) (rI w 13) (rI w 14) (rI w 15) (rI w 16) n (rJ w 18) (rJ w 19) (rJ w 20) (rJ w 21) (rJ w 22) (rJ w 23) (rJ w 24) (rJ w 25) (rJ w 26) (rF w 17 9) (rA av 1) (rA av 2) (rR o) a' b' c' ex' ey' tx' lx' ty' ly' k ∧ w' = (0, oCW (rF w 0 6)) :: wSS (rI w 10) (rI w 11) (rI w 12) (rI w 13) (rI w 14) (rI w 15) (rI w 16) (rF w 9 7) a' b' c' ex' ey' tx' lx' ty' ly' k)
def cl_X6_meet : List (Nat × rz_K) := []
def cv_X6_meet : List (Nat × rz_K) := [(190, ce_X5_has), (193, ce_X5_canMeet), (196, ce_X5_putHalfPlanes), (200, ce_X4_findCorners), (203, ce_X4_kind)]
set_option maxHeartbeats 4000000 in
theorem vc_X6_meet : rz_VC k_X6_meet fl_X6 cl_X6_meet cv_X6_meet s_X6_meet false 3 ce_X6_meet := by
  intro av w hlen hk hpre
  obtain ⟨fx, fy, mi, ax, ay, bx, b2, a, b, c, ex, ey, tx, lx, ty, ly, nw, co, x, y, n, rfl, rfl, hn⟩ := hpre
  have no : ¬ (okS x n ∧ okS y n ∧ cmP fx fy mi x.toNatClampNeg y.toNatClampNeg) → rz_end ce_X6_meet [.ref 0, .int x, .int y] ((0, oCW nw) :: wSS fx fy mi ax ay bx b2 (nI n) a b c ex ey tx lx ty ly co) (some (.int (-1))) ((0, oCW nw) :: wSS fx fy mi ax ay bx b2 (nI n) a b c ex ey tx lx ty ly co) := by
    intro z1
    refine ⟨⟨_, rfl⟩, fun z => (by cases z), ?_⟩
    intro n' e1 h1
    have e1 : n = n' := nI_inj (by omega) (by omega) e1
    subst e1
    exact ⟨a, b, c, ex, ey, tx, lx, ty, ly, co, if_no z1 ⟨rfl, rfl, rfl, rfl, rfl, rfl, rfl, rfl, rfl, rfl, rfl⟩, rfl⟩
  generalize hA : pA ay b2 a 0 x.toNatClampNeg = A1
  generalize hB : pB ax bx b 0 x.toNatClampNeg = B1
  generalize hC : pC fx fy ax ay bx b2 c 0 x.toNatClampNeg = C1
  generalize hX : pX ax bx ex 0 x.toNatClampNeg = X1
  generalize hY : pX ay b2 ey 0 x.toNatClampNeg = Y1
  generalize hA2 : pA ay b2 A1 2 y.toNatClampNeg = A2
  generalize hB2 : pB ax bx B1 2 y.toNatClampNeg = B2
  generalize hC2 : pC fx fy ax ay bx b2 C1 2 y.toNatClampNeg = C2
  generalize hX2 : pX ax bx X1 2 y.toNatClampNeg = X2
  generalize hY2 : pX ay b2 Y1 2 y.toNatClampNeg = Y2
  refine ⟨Nat.le_of_ble_eq_true rfl, [
    (49, [0, 1, 2], fun z lv w' => (okS x n ∧ okS y n ∧ cmP fx fy mi x.toNatClampNeg y.toNatClampNeg) ∧ lv = [(0, .ref 0), (1, .int x), (2, .int y)] ∧ w' = (0, oCW nw) :: wSS fx fy mi ax ay bx b2 (nI n) A1 B1 C1 X1 Y1 tx lx ty ly co ∧ z = 2),
    (62, [0, 1, 2], fun z lv w' => (okS x n ∧ okS y n ∧ cmP fx fy mi x.toNatClampNeg y.toNatClampNeg) ∧ lv = [(0, .ref 0), (1, .int x), (2, .int y)] ∧ w' = (0, oCW nw) :: wSS fx fy mi ax ay bx b2 (nI n) A2 B2 C2 X2 Y2 tx lx ty ly co ∧ z = 1),
    (69, [0, 1, 2], fun z lv w' => ∃ (t l u m : Nat → Int64) (j : Nat), (okS x n ∧ okS y n ∧ cmP fx fy mi x.toNatClampNeg y.toNatClampNeg) ∧ fcS A2 B2 C2 tx lx ty ly 6 t l u m j ∧ lv = [(0, .ref 0), (1, .int x), (2, .int y)] ∧ w' = (0, oCW nw) :: wSS fx fy mi ax ay bx b2 (nI n) A2 B2 C2 X2 Y2 t l u m (nI j) ∧ z = 0)], 100, 3, ?_, ?_⟩
  · intro y1 hq1 z lv w' hj
    rcases List.mem_cons.mp hq1 with rfl | hq1
    · obtain ⟨ok, rfl, rfl, rfl⟩ := hj
      conv => whnf
      refine ⟨⟨fx, fy, mi, ax, ay, bx, b2, nI n, A1, B1, C1, X1, Y1, tx, lx, ty, ly, co, y, 2, rfl, rfl, okS_vp ok.2.1 hn (by omega), by omega⟩, ?_⟩
      intro wc hwc
      have hwc : wc = wSS fx fy mi ax ay bx b2 (nI n) (pA ay b2 A1 2 y.toNatClampNeg) (pB ax bx B1 2 y.toNatClampNeg) (pC fx fy ax ay bx b2 C1 2 y.toNatClampNeg) (pX ax bx X1 2 y.toNatClampNeg) (pX ay b2 Y1 2 y.toNatClampNeg) tx lx ty ly co := hwc 2 rfl (by omega)
      rw [hA2, hB2, hC2, hX2, hY2] at hwc
      subst hwc
      conv => whnf
      refine ⟨1, by omega, ok, rfl, rfl, rfl⟩
    rcases List.mem_cons.mp hq1 with rfl | hq1
    · obtain ⟨ok, rfl, rfl, rfl⟩ := hj
      conv => whnf
      refine ⟨⟨A2, B2, C2, X2, Y2, tx, lx, ty, ly, co, rfl, rfl, trivial⟩, ?_⟩
      intro wc hwc
      obtain ⟨t, l, u, m, j, h1, rfl⟩ := hwc
      have h1 : fcS A2 B2 C2 tx lx ty ly 6 t l u m j := h1
      conv => whnf
      refine ⟨0, by omega, t, l, u, m, j, ok, h1, rfl, rfl, rfl⟩
    rcases List.mem_cons.mp hq1 with rfl | hq1
    · obtain ⟨t, l, u, m, j, ok, h1, rfl, rfl, rfl⟩ := hj
      conv => whnf
      refine ⟨⟨A2, B2, C2, X2, Y2, t, l, u, m, nI j, rfl, rfl, trivial⟩, ?_⟩
      intro r hr
      obtain rfl : r = kdF (nI j) A2 B2 X2 Y2 := hr
      conv => whnf
      refine ⟨⟨_, rfl⟩, fun z => (by cases z), ?_⟩
      intro n' e1 g1
      have e1 : n = n' := nI_inj (by omega) (by omega) e1
      subst e1
      subst hA2 hB2 hC2 hX2 hY2 hA hB hC hX hY
      exact ⟨_, _, _, _, _, t, l, u, m, nI j, if_yes ok ⟨rfl, rfl, rfl, rfl, rfl, j, rfl, h1, rfl⟩, rfl⟩
    · exact absurd hq1 List.not_mem_nil
  · conv => whnf
    refine ⟨⟨fx, fy, mi, ax, ay, bx, b2, nI n, x, rfl, rfl, trivial⟩, ?_⟩
    intro r hr
    obtain rfl : r = bI (okS x n) := hr
    conv => whnf
    refine ⟨fun h1 => ?_, fun h1 => ?_⟩
    · exact no (fun z => bI_0 h1 z.1)
    · conv => whnf
      refine ⟨⟨fx, fy, mi, ax, ay, bx, b2, nI n, y, rfl, rfl, trivial⟩, ?_⟩
      intro r hr
      obtain rfl : r = bI (okS y n) := hr
      conv => whnf
      refine ⟨fun h2 => ?_, fun h2 => ?_⟩
      · exact no (fun z => bI_0 h2 z.2.1)
      · have hv1 := okS_vp (bI_n h1) hn (by omega)
        have hv2 := okS_vp (bI_n h2) hn (by omega)
        conv => whnf
        refine ⟨⟨fx, fy, mi, ax, ay, bx, b2, nI n, x, y, rfl, rfl, hv1, hv2⟩, ?_⟩
        intro r hr
        obtain rfl : r = bI (cmP fx fy mi x.toNatClampNeg y.toNatClampNeg) := hr
        conv => whnf
        refine ⟨fun h3 => ?_, fun h3 => ?_⟩
        · exact no (fun z => bI_0 h3 z.2.2)
        · conv => whnf
          refine ⟨⟨fx, fy, mi, ax, ay, bx, b2, nI n, a, b, c, ex, ey, tx, lx, ty, ly, co, x, 0, rfl, rfl, hv1, by omega⟩, ?_⟩
          intro wc hwc
          have hwc : wc = wSS fx fy mi ax ay bx b2 (nI n) (pA ay b2 a 0 x.toNatClampNeg) (pB ax bx b 0 x.toNatClampNeg) (pC fx fy ax ay bx b2 c 0 x.toNatClampNeg) (pX ax bx ex 0 x.toNatClampNeg) (pX ay b2 ey 0 x.toNatClampNeg) tx lx ty ly co := hwc 0 rfl (by omega)
          rw [hA, hB, hC, hX, hY] at hwc
          subst hwc
          conv => whnf
          refine ⟨2, by omega, ⟨bI_n h1, bI_n h2, bI_n h3⟩, rfl, rfl, rfl⟩
theorem rv_X6_meet : rz_Rv yX6_meet.cls ce_X6_meet := fun av w h => by
  obtain ⟨_, _, _, _, _, _, _, _, _, _, _, _, _, _, _, _, _, _, _, _, _, rfl, rfl, _⟩ := h
  exact ⟨_, _, _, _, _, _, rfl, rfl, rfl⟩
theorem cn_X6_meet (l : Launch) : rz_Con l yX6_meet cX6_meet 3 (some .int) 5 0 0 ce_X6_meet := rz_con (by decide +kernel) fo_X6 (fun _ h => absurd h List.not_mem_nil) (by
  intro q hq
  rcases List.mem_cons.mp hq with rfl | hq
  · exact rz_callVN (cn_X5_has l) (by decide +kernel) ⟨Nat.le_of_ble_eq_true rfl, Nat.le_of_ble_eq_true rfl⟩ m_X5_has rfl i_X5_has v_X5_has rv_X5_has n_X6_190
  rcases List.mem_cons.mp hq with rfl | hq
  · exact rz_callVN (cn_X5_canMeet l) (by decide +kernel) ⟨Nat.le_of_ble_eq_true rfl, Nat.le_of_ble_eq_true rfl⟩ m_X5_canMeet rfl i_X5_canMeet v_X5_canMeet rv_X5_canMeet n_X6_193
  rcases List.mem_cons.mp hq with rfl | hq
  · exact rz_callVN (cn_X5_putHalfPlanes l) (by decide +kernel) ⟨Nat.le_of_ble_eq_true rfl, Nat.le_of_ble_eq_true rfl⟩ m_X5_putHalfPlanes rfl i_X5_putHalfPlanes v_X5_putHalfPlanes rv_X5_putHalfPlanes n_X6_196
  rcases List.mem_cons.mp hq with rfl | hq
  · exact rz_callVN (cn_X4_findCorners l) (by decide +kernel) ⟨Nat.le_of_ble_eq_true rfl, Nat.le_of_ble_eq_true rfl⟩ m_X4_findCorners rfl i_X4_findCorners v_X4_findCorners rv_X4_findCorners n_X6_200
  rcases List.mem_cons.mp hq with rfl | hq
  · exact rz_callVN (cn_X4_kind l) (by decide +kernel) ⟨Nat.le_of_ble_eq_true rfl, Nat.le_of_ble_eq_true rfl⟩ m_X4_kind rfl i_X4_kind v_X4_kind rv_X4_kind n_X6_203
  exact absurd hq List.not_mem_nil) r_X6_meet vc_X6_meet
theorem rz_set_pre {c : rz_C} {k : Nat} : ∀ (p w : rz_W), k ∉ p.map Prod.fst → rz_set (p ++ w) k c = p ++ rz_set w k c
  | [], _, _ => rfl
  | (i, x) :: p, w, h => by
    have h1 : Nat.beq i k = false := by
      cases e : Nat.beq i k with
      | false => rfl
      | true => exact absurd (List.mem_cons.mpr (Or.inl (Nat.eq_of_beq_eq_true e).symm)) h
    show rz_set ((i, x) :: (p ++ w)) k c = (i, x) :: (p ++ rz_set w k c)
    rw [← rz_set_pre p w (fun z => h (List.mem_cons_of_mem _ z))]
    show (match Nat.beq i k with | true => _ | false => _) = _
    rw [h1]
theorem rz_back_at (q : rz_W) : ∀ (w' p w : rz_W), w'.map Prod.fst = w.map Prod.fst → ((p ++ w).map Prod.fst).Nodup → rz_back (p ++ (w ++ q)) w' = p ++ (w' ++ q)
  | [], p, w, h, _ => by
    have : w = [] := List.map_eq_nil_iff.mp h.symm
    rw [this]; rfl
  | (k, c) :: r, p, w, h, hd => by
    match w, h with
    | (k2, c2) :: t, h =>
      have e1 : k = k2 := (List.cons.inj h).1
      have e2 : r.map Prod.fst = t.map Prod.fst := (List.cons.inj h).2
      subst e1
      have hk : k ∉ p.map Prod.fst := by
        intro z
        rw [List.map_append, List.nodup_append] at hd
        exact hd.2.2 k z k (List.mem_cons_self) rfl
      have h0 : rz_set (p ++ ((k, c2) :: t ++ q)) k c = (p ++ [(k, c)]) ++ (t ++ q) := by
        rw [rz_set_pre p _ hk, List.append_assoc]
        congr 1
        show (match Nat.beq k k with | true => (k, c) :: (t ++ q) | false => _) = (k, c) :: (t ++ q)
        rw [Nat.beq_refl]
      show rz_back (rz_set (p ++ ((k, c2) :: t ++ q)) k c) r = _
      rw [h0, rz_back_at q r (p ++ [(k, c)]) t e2 (by rw [List.append_assoc]; simpa using hd), List.append_assoc]
      rfl
/-- a callee's cells, when they are the first ones -/
theorem rz_back_pre {w w' q : rz_W} (h : w'.map Prod.fst = w.map Prod.fst) (hd : (w.map Prod.fst).Nodup) : rz_back (w ++ q) w' = w' ++ q := rz_back_at q w' [] w h hd
def ce_X6_plot : rz_K := (3, 0 :: kSS, 0, false, ce_X6_meet.2.2.2.2.1, ce_X6_meet.2.2.2.2.2)
def cl_X6_plot : List (Nat × rz_K) := []
def cv_X6_plot : List (Nat × rz_K) := [(109, ce_X6_meet)]
theorem vc_X6_plot : rz_VC k_X6_plot fl_X6 cl_X6_plot cv_X6_plot s_X6_plot false 3 ce_X6_plot := by
  intro av w hlen hk hpre
  obtain ⟨fx, fy, mi, ax, ay, bx, b2, a, b, c, ex, ey, tx, lx, ty, ly, nw, co, x, y, n, rfl, rfl, hn⟩ := hpre
  refine ⟨Nat.le_of_ble_eq_true rfl, [], 60, 0, fun q h => absurd h List.not_mem_nil, ?_⟩
  conv => whnf
  refine ⟨⟨fx, fy, mi, ax, ay, bx, b2, a, b, c, ex, ey, tx, lx, ty, ly, nw, co, x, y, n, rfl, rfl, hn⟩, ?_⟩
  intro r wc hwc
  obtain ⟨a', b', c', ex', ey', tx', lx', ty', ly', k, h1, hw⟩ := hwc n rfl hn
  have hw : wc = (0, oCW nw) :: wSS fx fy mi ax ay bx b2 (nI n) a' b' c' ex' ey' tx' lx' ty' ly' k := hw
  have h1 : mtR fx fy mi ax ay bx b2 n a b c ex ey tx lx ty ly co x y r a' b' c' ex' ey' tx' lx' ty' ly' k := h1
  subst hw
  have e : rz_back ((0, oCW nw) :: wSS fx fy mi ax ay bx b2 (nI n) a b c ex ey tx lx ty ly co) ((0, oCW nw) :: wSS fx fy mi ax ay bx b2 (nI n) a' b' c' ex' ey' tx' lx' ty' ly' k) = (0, oCW nw) :: wSS fx fy mi ax ay bx b2 (nI n) a' b' c' ex' ey' tx' lx' ty' ly' k := rz_back_pre (w := (0, oCW nw) :: wSS fx fy mi ax ay bx b2 (nI n) a b c ex ey tx lx ty ly co) (q := []) rfl (show (0 :: kSS).Nodup by decide +kernel)
  rw [e]
  conv => whnf
  refine ⟨⟨_, rfl⟩, fun z => (by cases z), ?_⟩
  intro n' e1 g1
  have e1 : n = n' := nI_inj (by omega) (by omega) e1
  subst e1
  exact ⟨a', b', c', ex', ey', tx', lx', ty', ly', k, h1, rfl⟩
theorem rv_X6_plot : rz_Rv yX6_plot.cls ce_X6_plot := fun av w h => by
  obtain ⟨_, _, _, _, _, _, _, _, _, _, _, _, _, _, _, _, _, _, _, _, _, rfl, rfl, _⟩ := h
  exact ⟨_, _, _, _, _, _, rfl, rfl, rfl⟩
theorem cn_X6_plot (l : Launch) : rz_Con l yX6_plot cX6_plot 3 (some .int) 6 0 0 ce_X6_plot := rz_con (by decide +kernel) fo_X6 (fun _ h => absurd h List.not_mem_nil) (by
  intro q hq
  rcases List.mem_cons.mp hq with rfl | hq
  · exact rz_callV (cn_X6_meet l) (by decide +kernel) ⟨Nat.le_of_ble_eq_true rfl, Nat.le_of_ble_eq_true rfl⟩ m_X6_meet rfl i_X6_meet v_X6_meet rv_X6_meet n_X6_109
  exact absurd hq List.not_mem_nil) r_X6_plot vc_X6_plot
def ce_X6_corners : rz_K := (3, 0 :: kSS, 0, false, ce_X6_meet.2.2.2.2.1, fun av w o w' => ∀ n, rF w 9 7 = nI n → n ≤ 100 → ∃ (a' b' c' ex' ey' tx' lx' ty' ly' : Nat → Int64) (k r : Int32), mtR (rI w 10) (rI w 11) (rI w 12) (rI w 13) (rI w 14) (rI w 15) (rI w 16) n (rJ w 18) (rJ w 19) (rJ w 20) (rJ w 21) (rJ w 22) (rJ w 23) (rJ w 24) (rJ w 25) (rJ w 26) (rF w 17 9) (rA av 1) (rA av 2) r a' b' c' ex' ey' tx' lx' ty' ly' k ∧ rR o = (if r = 1 then k else -1) ∧ w' = (0, oCW (rF w 0 6)) :: wSS (rI w 10) (rI w 11) (rI w 12) (rI w 13) (rI w 14) (rI w 15) (rI w 16) (rF w 9 7) a' b' c' ex' ey' tx' lx' ty' ly' k)
def cl_X6_corners : List (Nat × rz_K) := []
def cv_X6_corners : List (Nat × rz_K) := [(109, ce_X6_meet)]
theorem vc_X6_corners : rz_VC k_X6_corners fl_X6 cl_X6_corners cv_X6_corners s_X6_corners false 3 ce_X6_corners := by
  intro av w hlen hk hpre
  obtain ⟨fx, fy, mi, ax, ay, bx, b2, a, b, c, ex, ey, tx, lx, ty, ly, nw, co, x, y, n, rfl, rfl, hn⟩ := hpre
  refine ⟨Nat.le_of_ble_eq_true rfl, [], 60, 0, fun q h => absurd h List.not_mem_nil, ?_⟩
  conv => whnf
  refine ⟨⟨fx, fy, mi, ax, ay, bx, b2, a, b, c, ex, ey, tx, lx, ty, ly, nw, co, x, y, n, rfl, rfl, hn⟩, ?_⟩
  intro r wc hwc
  obtain ⟨a', b', c', ex', ey', tx', lx', ty', ly', k, h1, hw⟩ := hwc n rfl hn
  have hw : wc = (0, oCW nw) :: wSS fx fy mi ax ay bx b2 (nI n) a' b' c' ex' ey' tx' lx' ty' ly' k := hw
  have h1 : mtR fx fy mi ax ay bx b2 n a b c ex ey tx lx ty ly co x y r a' b' c' ex' ey' tx' lx' ty' ly' k := h1
  subst hw
  have e : rz_back ((0, oCW nw) :: wSS fx fy mi ax ay bx b2 (nI n) a b c ex ey tx lx ty ly co) ((0, oCW nw) :: wSS fx fy mi ax ay bx b2 (nI n) a' b' c' ex' ey' tx' lx' ty' ly' k) = (0, oCW nw) :: wSS fx fy mi ax ay bx b2 (nI n) a' b' c' ex' ey' tx' lx' ty' ly' k := rz_back_pre (w := (0, oCW nw) :: wSS fx fy mi ax ay bx b2 (nI n) a b c ex ey tx lx ty ly co) (q := []) rfl (show (0 :: kSS).Nodup by decide +kernel)
  rw [e]
  conv => whnf
  refine ⟨fun h2 => ?_, fun h2 => ?_⟩
  · refine ⟨⟨_, rfl⟩, fun z => (by cases z), ?_⟩
    intro n' e1 g1
    have e1 : n = n' := nI_inj (by omega) (by omega) e1
    subst e1
    exact ⟨a', b', c', ex', ey', tx', lx', ty', ly', k, r, h1, (if_pos h2).symm, rfl⟩
  · refine ⟨⟨_, rfl⟩, fun z => (by cases z), ?_⟩
    intro n' e1 g1
    have e1 : n = n' := nI_inj (by omega) (by omega) e1
    subst e1
    exact ⟨a', b', c', ex', ey', tx', lx', ty', ly', k, r, h1, (if_neg h2).symm, rfl⟩
theorem rv_X6_corners : rz_Rv yX6_corners.cls ce_X6_corners := fun av w h => by
  obtain ⟨_, _, _, _, _, _, _, _, _, _, _, _, _, _, _, _, _, _, _, _, _, rfl, rfl, _⟩ := h
  exact ⟨_, _, _, _, _, _, rfl, rfl, rfl⟩
theorem cn_X6_corners (l : Launch) : rz_Con l yX6_corners cX6_corners 3 (some .int) 6 0 0 ce_X6_corners := rz_con (by decide +kernel) fo_X6 (fun _ h => absurd h List.not_mem_nil) (by
  intro q hq
  rcases List.mem_cons.mp hq with rfl | hq
  · exact rz_callV (cn_X6_meet l) (by decide +kernel) ⟨Nat.le_of_ble_eq_true rfl, Nat.le_of_ble_eq_true rfl⟩ m_X6_meet rfl i_X6_meet v_X6_meet rv_X6_meet n_X6_109
  exact absurd hq List.not_mem_nil) r_X6_corners vc_X6_corners
abbrev wLS (px py ph rx ry vi sp : Nat → Int32) (po re : Int32) (fx fy mi ax ay bx b2 : Nat → Int32) (n : Int32) : rz_W := [(1, ro 2 [.ref 2, .ref 3, .ref 4, .ref 5, .ref 6, .ref 7, .ref 8, .int po, .int re]), (2, ri 6 px), (3, ri 6 py), (4, ri 6 ph), (5, ri 8 rx), (6, ri 8 ry), (7, ri 334 vi), (8, ri 6 sp), (9, ro 5 [.ref 10, .ref 11, .ref 12, .ref 13, .ref 14, .ref 15, .ref 16, .int n]), (10, ri 100 fx), (11, ri 100 fy), (12, ri 100 mi), (13, ri 100 ax), (14, ri 100 ay), (15, ri 100 bx), (16, ri 100 b2)]
abbrev kLS : List Nat := [1, 2, 3, 4, 5, 6, 7, 8, 9, 10, 11, 12, 13, 14, 15, 16]
abbrev okE (x y : Int32) : Prop := -50 ≤ x ∧ x ≤ 50 ∧ -50 ≤ y ∧ y ≤ 50
abbrev okG (p : Int32) (g : Nat) (a b c d : Int32) : Prop := okS p g ∧ okE a b ∧ okE c d ∧ 0 < a * d - b * c
def ce_X6_sight : rz_K := (6, 0 :: kLS, 0, false, fun av w => ∃ (px py ph rx ry vi sp fx fy mi ax ay bx b2 : Nat → Int32) (nw re p a b c d : Int32) (g n : Nat), av = [.ref 0, .int p, .int a, .int b, .int c, .int d] ∧ w = (0, oCW nw) :: wLS px py ph rx ry vi sp (nI g) re fx fy mi ax ay bx b2 (nI n) ∧ g ≤ 6 ∧ n ≤ 100, fun av w o w' => ∀ g n, rF w 1 7 = nI g → g ≤ 6 → rF w 9 7 = nI n → n ≤ 100 → if okG (rA av 1) g (rA av 2) (rA av 3) (rA av 4) (rA av 5) ∧ n < 100 then rR o = nI n ∧ w' = (0, oCW (rF w 0 6)) :: wLS (rI w 2) (rI w 3) (rI w 4) (rI w 5) (rI w 6) (rI w 7) (rI w 8) (rF w 1 7) (rF w 1 8) (upd (rI w 10) n (rI w 2 (rA av 1).toNatClampNeg)) (upd (rI w 11) n (rI w 3 (rA av 1).toNatClampNeg)) (upd (rI w 12) n (rF w 0 6)) (upd (rI w 13) n (rA av 2)) (upd (rI w 14) n (rA av 3)) (upd (rI w 15) n (rA av 4)) (upd (rI w 16) n (rA av 5)) (nI (n + 1)) else rR o = -1 ∧ w' = w)
def cl_X6_sight : List (Nat × rz_K) := [(93, ce_X6_isEdge)]
def cv_X6_sight : List (Nat × rz_K) := [(79, ce_X2_hasPost), (102, ce_X5_add), (105, ce_X5_setEdges)]
set_option maxHeartbeats 4000000 in
theorem vc_X6_sight : rz_VC k_X6_sight fl_X6 cl_X6_sight cv_X6_sight s_X6_sight false 7 ce_X6_sight := by
  intro av w hlen hk hpre
  obtain ⟨px, py, ph, rx, ry, vi, sp, fx, fy, mi, ax, ay, bx, b2, nw, re, p, a, b, c, d, g, n, rfl, rfl, hg, hn⟩ := hpre
  have no : ¬ (okG p g a b c d ∧ n < 100) → rz_end ce_X6_sight [.ref 0, .int p, .int a, .int b, .int c, .int d] ((0, oCW nw) :: wLS px py ph rx ry vi sp (nI g) re fx fy mi ax ay bx b2 (nI n)) (some (.int (-1))) ((0, oCW nw) :: wLS px py ph rx ry vi sp (nI g) re fx fy mi ax ay bx b2 (nI n)) := by
    intro z1
    refine ⟨⟨_, rfl⟩, fun z => (by cases z), ?_⟩
    intro g' n' e1 h1 e2 h2
    have e1 : g = g' := nI_inj (by omega) (by omega) e1
    have e2 : n = n' := nI_inj (by omega) (by omega) e2
    subst e1 e2
    exact if_no z1 ⟨rfl, rfl⟩
  refine ⟨Nat.le_of_ble_eq_true rfl, [(76, [0, 1, 2, 3, 4, 5, 6], fun z lv w' => (okG p g a b c d ∧ n < 100 ∧ lv = [(0, .ref 0), (1, .int p), (2, .int a), (3, .int b), (4, .int c), (5, .int d), (6, .int (nI n))] ∧ w' = (0, oCW nw) :: wLS px py ph rx ry vi sp (nI g) re (upd fx n (px p.toNatClampNeg)) (upd fy n (py p.toNatClampNeg)) (upd mi n nw) ax ay bx b2 (nI (n + 1)) ∧ z = 1) ∨ (¬ n < 100 ∧ lv = [(0, .ref 0), (1, .int p), (2, .int a), (3, .int b), (4, .int c), (5, .int d), (6, .int (-1))] ∧ w' = (0, oCW nw) :: wLS px py ph rx ry vi sp (nI g) re fx fy mi ax ay bx b2 (nI n) ∧ z = 1)),
    (97, [0, 1, 2, 3, 4, 5, 6], fun z lv w' => (okG p g a b c d ∧ n < 100 ∧ lv = [(0, .ref 0), (1, .int p), (2, .int a), (3, .int b), (4, .int c), (5, .int d), (6, .int (nI n))] ∧ w' = (0, oCW nw) :: wLS px py ph rx ry vi sp (nI g) re (upd fx n (px p.toNatClampNeg)) (upd fy n (py p.toNatClampNeg)) (upd mi n nw) (upd ax n a) (upd ay n b) (upd bx n c) (upd b2 n d) (nI (n + 1)) ∧ z = 0) ∨ (¬ n < 100 ∧ lv = [(0, .ref 0), (1, .int p), (2, .int a), (3, .int b), (4, .int c), (5, .int d), (6, .int (-1))] ∧ w' = (0, oCW nw) :: wLS px py ph rx ry vi sp (nI g) re fx fy mi ax ay bx b2 (nI n) ∧ z = 0))], 100, 2, ?_, ?_⟩
  · intro y1 hq1 z lv w' hj
    rcases List.mem_cons.mp hq1 with rfl | hq1
    · rcases hj with hj | hj
      · obtain ⟨ok, hn2, rfl, rfl, rfl⟩ := hj
        have hcn : (nI n).toNatClampNeg = n := nI_clamp (by omega)
        generalize upd fx n (px p.toNatClampNeg) = fx1
        generalize upd fy n (py p.toNatClampNeg) = fy1
        generalize upd mi n nw = mi1
        conv => whnf
        refine ⟨fun h1 => ?_, fun h1 => ?_⟩
        · have h1 : nI n = -1 := h1
          exact absurd h1 (nI_ne_m1 (by omega))
        · conv => whnf
          refine ⟨⟨fx1, fy1, mi1, ax, ay, bx, b2, nI (n + 1), nI n, a, b, c, d, rfl, rfl, vp_in_nI hn2 (by omega)⟩, ?_⟩
          intro wc hwc
          have hwc : wc = wSg fx1 fy1 mi1 (upd ax (nI n).toNatClampNeg a) (upd ay (nI n).toNatClampNeg b) (upd bx (nI n).toNatClampNeg c) (upd b2 (nI n).toNatClampNeg d) (nI (n + 1)) := hwc
          rw [hcn] at hwc
          subst hwc
          conv => whnf
          refine ⟨0, by omega, Or.inl ⟨ok, hn2, rfl, rfl, rfl⟩⟩
      · obtain ⟨hn2, rfl, rfl, rfl⟩ := hj
        conv => whnf
        refine ⟨fun h1 => ?_, fun h1 => ?_⟩
        · conv => whnf
          refine ⟨0, by omega, Or.inr ⟨hn2, rfl, rfl, rfl⟩⟩
        · exact absurd rfl h1
    rcases List.mem_cons.mp hq1 with rfl | hq1
    · rcases hj with hj | hj
      · obtain ⟨ok, hn2, rfl, rfl, rfl⟩ := hj
        conv => whnf
        refine ⟨⟨_, rfl⟩, fun z => (by cases z), ?_⟩
        intro g' n' e1 h1 e2 h2
        have e1 : g = g' := nI_inj (by omega) (by omega) e1
        have e2 : n = n' := nI_inj (by omega) (by omega) e2
        subst e1 e2
        exact if_yes ⟨ok, hn2⟩ ⟨rfl, rfl⟩
      · obtain ⟨hn2, rfl, rfl, rfl⟩ := hj
        conv => whnf
        exact no (fun z => hn2 z.2)
    · exact absurd hq1 List.not_mem_nil
  · conv => whnf
    refine ⟨⟨px, py, ph, rx, ry, vi, sp, nI g, re, p, rfl, rfl, trivial⟩, ?_⟩
    intro r hr
    obtain rfl : r = bI (okS p g) := hr
    conv => whnf
    refine ⟨fun h1 => ?_, fun h1 => ?_⟩
    · exact no (fun z => bI_0 h1 z.1.1)
    · conv => whnf
      refine ⟨⟨_, _, rfl, rfl, trivial⟩, ?_⟩
      intro r hr
      obtain rfl : r = bI (okE a b) := hr
      conv => whnf
      refine ⟨fun h2 => ?_, fun h2 => ?_⟩
      · exact no (fun z => bI_0 h2 z.1.2.1)
      · conv => whnf
        refine ⟨⟨_, _, rfl, rfl, trivial⟩, ?_⟩
        intro r hr
        obtain rfl : r = bI (okE c d) := hr
        conv => whnf
        refine ⟨fun h3 => ?_, fun h3 => ?_⟩
        · exact no (fun z => bI_0 h3 z.1.2.2.1)
        · conv => whnf
          refine ⟨fun h4 => ?_, fun h4 => ?_⟩
          · have hv := okS_vp (bI_n h1) hg (by omega)
            conv => whnf
            refine ⟨hv, ?_⟩
            conv => whnf
            refine ⟨hv, ?_⟩
            conv => whnf
            refine ⟨⟨fx, fy, mi, ax, ay, bx, b2, _, _, _, n, rfl, rfl, hn⟩, ?_⟩
            intro r wc hwc
            have hwc := hwc n rfl hn
            by_cases hn2 : n < 100
            · obtain ⟨rfl, rfl⟩ := if_y hwc hn2
              conv => whnf
              rintro _ rfl
              conv => whnf
              refine ⟨1, by omega, Or.inl ⟨⟨bI_n h1, bI_n h2, bI_n h3, h4⟩, hn2, rfl, rfl, rfl⟩⟩
            · obtain ⟨hr, rfl⟩ := if_n hwc hn2
              have hr : r = -1 := hr
              subst hr
              conv => whnf
              rintro _ rfl
              conv => whnf
              refine ⟨1, by omega, Or.inr ⟨hn2, rfl, rfl, rfl⟩⟩
          · exact no (fun z => h4 z.1.2.2.2)
theorem rv_X6_sight : rz_Rv yX6_sight.cls ce_X6_sight := fun av w h => by
  obtain ⟨_, _, _, _, _, _, _, _, _, _, _, _, _, _, _, _, _, _, _, _, _, _, _, rfl, rfl, _⟩ := h
  exact ⟨_, _, _, _, _, _, rfl, rfl, rfl⟩
theorem cn_X6_sight (l : Launch) : rz_Con l yX6_sight cX6_sight 7 (some .int) 2 0 0 ce_X6_sight := rz_con (by decide +kernel) fo_X6 (by
  intro q hq
  rcases List.mem_cons.mp hq with rfl | hq
  · exact rz_callS (cn_X6_isEdge l) (by decide +kernel) ⟨Nat.le_of_ble_eq_true rfl, Nat.le_of_ble_eq_true rfl⟩ m_X6_isEdge t_X6_isEdge n_X6_93
  exact absurd hq List.not_mem_nil) (by
  intro q hq
  rcases List.mem_cons.mp hq with rfl | hq
  · exact rz_callVN (cn_X2_hasPost l) (by decide +kernel) ⟨Nat.le_of_ble_eq_true rfl, Nat.le_of_ble_eq_true rfl⟩ m_X2_hasPost rfl i_X2_hasPost v_X2_hasPost rv_X2_hasPost n_X6_79
  rcases List.mem_cons.mp hq with rfl | hq
  · exact rz_callVN (cn_X5_add l) (by decide +kernel) ⟨Nat.le_of_ble_eq_true rfl, Nat.le_of_ble_eq_true rfl⟩ m_X5_add rfl i_X5_add v_X5_add rv_X5_add n_X6_102
  rcases List.mem_cons.mp hq with rfl | hq
  · exact rz_callVN (cn_X5_setEdges l) (by decide +kernel) ⟨Nat.le_of_ble_eq_true rfl, Nat.le_of_ble_eq_true rfl⟩ m_X5_setEdges rfl i_X5_setEdges v_X5_setEdges rv_X5_setEdges n_X6_105
  exact absurd hq List.not_mem_nil) r_X6_sight vc_X6_sight
def ce_X6_speed : rz_K := (2, 0 :: kPl, 0, false, fun av w => ∃ (fi se mi tk le bo rg tp la : Nat → Int32) (nw sz tr sp x : Int32), av = [.ref 0, .int x] ∧ w = (0, oCW nw) :: wPl fi se mi tk le bo rg tp la sz tr sp ∧ True, fun av w o w' => if 1 ≤ rA av 1 ∧ rA av 1 ≤ 100 then rR o = 1 ∧ w' = (0, oCW (rF w 0 6)) :: wPl (rI w 28) (rI w 29) (rI w 30) (rI w 31) (rI w 32) (rI w 33) (rI w 34) (rI w 35) (rI w 36) (rF w 27 9) (rF w 27 10) (rA av 1) else rR o = 0 ∧ w' = w)
def cl_X6_speed : List (Nat × rz_K) := [(59, ce_X6_isWithin)]
def cv_X6_speed : List (Nat × rz_K) := []
theorem vc_X6_speed : rz_VC k_X6_speed fl_X6 cl_X6_speed cv_X6_speed s_X6_speed true 2 ce_X6_speed := by
  intro av w hlen hk hpre
  obtain ⟨fi, se, mi, tk, le, bo, rg, tp, la, nw, sz, tr, sp, x, rfl, rfl, -⟩ := hpre
  refine ⟨Nat.le_of_ble_eq_true rfl, [], 60, 0, fun q h => absurd h List.not_mem_nil, ?_⟩
  conv => whnf
  refine ⟨⟨_, _, _, rfl, rfl, trivial⟩, ?_⟩
  intro r hr
  obtain rfl : r = bI (1 ≤ x ∧ x ≤ 100) := hr
  conv => whnf
  refine ⟨fun h1 => ?_, fun h1 => ?_⟩
  · exact ⟨Or.inl rfl, ⟨_, rfl⟩, fun z => (by cases z), if_no (bI_0 h1) ⟨rfl, rfl⟩⟩
  · exact ⟨Or.inr rfl, ⟨_, rfl⟩, fun z => (by cases z), if_yes (bI_n h1) ⟨rfl, rfl⟩⟩
theorem rv_X6_speed : rz_Rv yX6_speed.cls ce_X6_speed := fun av w h => by
  obtain ⟨_, _, _, _, _, _, _, _, _, _, _, _, _, _, rfl, rfl, _⟩ := h
  exact ⟨_, _, _, _, _, _, rfl, rfl, rfl⟩
theorem cn_X6_speed (l : Launch) : rz_Con l yX6_speed cX6_speed 2 (some .boolean) 1 0 0 ce_X6_speed := rz_con (by decide +kernel) fo_X6 (by
  intro q hq
  rcases List.mem_cons.mp hq with rfl | hq
  · exact rz_callS (cn_X6_isWithin l) (by decide +kernel) ⟨Nat.le_of_ble_eq_true rfl, Nat.le_of_ble_eq_true rfl⟩ m_X6_isWithin t_X6_isWithin n_X6_59
  exact absurd hq List.not_mem_nil) (fun _ h => absurd h List.not_mem_nil) r_X6_speed vc_X6_speed
def ce_X6_track : rz_K := (3, 0 :: kPl, 0, true, fun av w => ∃ (fi se mi tk le bo rg tp la : Nat → Int32) (nw tr sp p q : Int32) (n : Nat), av = [.ref 0, .int p, .int q] ∧ w = (0, oCW nw) :: wPl fi se mi tk le bo rg tp la (nI n) tr sp ∧ n ≤ 60, fun av w o _ => ∀ n, rF w 27 9 = nI n → n ≤ 60 → rR o = if okS (rA av 1) n then (if rA av 2 = 0 then rI w 31 (rA av 1).toNatClampNeg else if rA av 2 = 1 then rI w 28 (rA av 1).toNatClampNeg else if rA av 2 = 2 then rI w 29 (rA av 1).toNatClampNeg else if rA av 2 = 3 then rI w 30 (rA av 1).toNatClampNeg else -1) else -1)
def cl_X6_track : List (Nat × rz_K) := []
def cv_X6_track : List (Nat × rz_K) := [(137, ce_X3_partOf)]
theorem vc_X6_track : rz_VC k_X6_track fl_X6 cl_X6_track cv_X6_track s_X6_track false 3 ce_X6_track := by
  intro av w hlen hk hpre
  obtain ⟨fi, se, mi, tk, le, bo, rg, tp, la, nw, tr, sp, p, q, n, rfl, rfl, hn⟩ := hpre
  refine ⟨Nat.le_of_ble_eq_true rfl, [], 60, 0, fun q h => absurd h List.not_mem_nil, ?_⟩
  conv => whnf
  refine ⟨⟨fi, se, mi, tk, le, bo, rg, tp, la, tr, sp, p, q, n, rfl, rfl, hn⟩, ?_⟩
  intro r hr
  conv => whnf
  exact ⟨⟨_, rfl⟩, fun _ => rfl, hr⟩
theorem rv_X6_track : rz_Rv yX6_track.cls ce_X6_track := fun av w h => by
  obtain ⟨_, _, _, _, _, _, _, _, _, _, _, _, _, _, _, rfl, rfl, _⟩ := h
  exact ⟨_, _, _, _, _, _, rfl, rfl, rfl⟩
theorem cn_X6_track (l : Launch) : rz_Con l yX6_track cX6_track 3 (some .int) 2 0 0 ce_X6_track := rz_con (by decide +kernel) fo_X6 (fun _ h => absurd h List.not_mem_nil) (by
  intro q hq
  rcases List.mem_cons.mp hq with rfl | hq
  · exact rz_callVN (cn_X3_partOf l) (by decide +kernel) ⟨Nat.le_of_ble_eq_true rfl, Nat.le_of_ble_eq_true rfl⟩ m_X3_partOf rfl i_X3_partOf v_X3_partOf rv_X3_partOf n_X6_137
  exact absurd hq List.not_mem_nil) r_X6_track vc_X6_track
