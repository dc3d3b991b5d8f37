/-! CoastWatch: plotted. -/
abbrev wSP (fx fy mi ax ay bx b2 : Nat → Int32) (n : Int32) (a b c ex ey tx lx ty ly : Nat → Int64) (co : Int32) (fi se mj tk le bo rg tp la : Nat → Int32) (sz tr sp : Int32) : rz_W := [(9, ro 5 [.ref 10, .ref 11, .ref 12, .ref 13, .ref 14, .ref 15, .ref 16, .int n]), (10, ri 100 fx), (11, ri 100 fy), (12, ri 100 mi), (13, ri 100 ax), (14, ri 100 ay), (15, ri 100 bx), (16, ri 100 b2), (17, ro 4 [.ref 18, .ref 19, .ref 20, .ref 21, .ref 22, .ref 23, .ref 24, .ref 25, .ref 26, .int co]), (18, rl 4 a), (19, rl 4 b), (20, rl 4 c), (21, rl 4 ex), (22, rl 4 ey), (23, rl 6 tx), (24, rl 6 lx), (25, rl 6 ty), (26, rl 6 ly), (27, ro 3 [.ref 28, .ref 29, .ref 30, .ref 31, .ref 32, .ref 33, .ref 34, .ref 35, .ref 36, .int sz, .int tr, .int sp]), (28, ri 60 fi), (29, ri 60 se), (30, ri 60 mj), (31, ri 60 tk), (32, ri 60 le), (33, ri 60 bo), (34, ri 60 rg), (35, ri 60 tp), (36, ri 60 la)]
abbrev kSP : List Nat := [9, 10, 11, 12, 13, 14, 15, 16, 17, 18, 19, 20, 21, 22, 23, 24, 25, 26, 27, 28, 29, 30, 31, 32, 33, 34, 35, 36]
theorem rz_back_app : ∀ (w u v : rz_W), rz_back w (u ++ v) = rz_back (rz_back w u) v
  | _, [], _ => rfl
  | w, (k, c) :: u, v => rz_back_app (rz_set w k c) u v
def ce_X6_plotted : rz_K := (3, 0 :: kSP, 0, false, fun av w => ∃ (fx fy mi ax ay bx b2 : Nat → Int32) (a b c ex ey tx lx ty ly : Nat → Int64) (fi se mj tk le bo rg tp la : Nat → Int32) (nw co sp x y : Int32) (n z m : Nat), av = [.ref 0, .int x, .int y] ∧ w = (0, oCW nw) :: wSP fx fy mi ax ay bx b2 (nI n) a b c ex ey tx lx ty ly co fi se mj tk le bo rg tp la (nI z) (nI m) sp ∧ n ≤ 100 ∧ z ≤ 60 ∧ m ≤ z ∧ ∀ t, t < m → vp_in (la t) 60, fun av w o w' => ∀ n z m, rF w 9 7 = nI n → n ≤ 100 → rF w 27 9 = nI z → z ≤ 60 → rF w 27 10 = nI m → m ≤ z → ∃ (a' b' c' ex' ey' tx' lx' ty' ly' : Nat → Int64) (k r : Int32), mtR (rI w 10) (rI w 11) (rI w 12) (rI w 13) (rI w 14) (rI w 15) (rI w 16) n (rJ w 18) (rJ w 19) (rJ w 20) (rJ w 21) (rJ w 22) (rJ w 23) (rJ w 24) (rJ w 25) (rJ w 26) (rF w 17 9) (rA av 1) (rA av 2) r a' b' c' ex' ey' tx' lx' ty' ly' k ∧
  if r = 1 ∧ (z < 60 ∧ ∀ p, p < z → ¬ duP (rI w 28) (rI w 29) (rA av 1) (rA av 2) p) then ∃ j, j ≤ 6 ∧ k = nI j ∧ ∀ mi' le' bo' rg' tp' : Nat → Int32, mi' = upd (rI w 30) z (rI w 12 (rA av 1).toNatClampNeg) → le' = upd (rI w 32) z (bxF tx' lx' ty' ly' j 0) → bo' = upd (rI w 33) z (bxF tx' lx' ty' ly' j 1) → rg' = upd (rI w 34) z (bxF tx' lx' ty' ly' j 2) → tp' = upd (rI w 35) z (bxF tx' lx' ty' ly' j 3) → ∀ T, T = trF (ntF mi' (rI w 36) le' bo' rg' tp' (rF w 27 11) z m).1 m → rR o = nI T ∧ T ≤ m ∧ w' = (0, oCW (rF w 0 6)) :: wSP (rI w 10) (rI w 11) (rI w 12) (rI w 13) (rI w 14) (rI w 15) (rI w 16) (rF w 9 7) a' b' c' ex' ey' tx' lx' ty' ly' k (upd (rI w 28) z (rA av 1)) (upd (rI w 29) z (rA av 2)) mi' (upd (rI w 31) z (nI T)) le' bo' rg' tp' (upd (rI w 36) T (nI z)) (nI (z + 1)) (nI (if T = m then m + 1 else m)) (rF w 27 11)
  else rR o = -1 ∧ w' = (0, oCW (rF w 0 6)) :: wSP (rI w 10) (rI w 11) (rI w 12) (rI w 13) (rI w 14) (rI w 15) (rI w 16) (rF w 9 7) a' b' c' ex' ey' tx' lx' ty' ly' k (rI w 28) (rI w 29) (rI w 30) (rI w 31) (rI w 32) (rI w 33) (rI w 34) (rI w 35) (rI w 36) (rF w 27 9) (rF w 27 10) (rF w 27 11))
def cl_X6_plotted : List (Nat × rz_K) := []
def cv_X6_plotted : List (Nat × rz_K) := [(109, ce_X6_meet), (125, ce_X3_takes), (131, ce_X3_add)]
set_option maxHeartbeats 4000000 in
theorem vc_X6_plotted : rz_VC k_X6_plotted fl_X6 cl_X6_plotted cv_X6_plotted s_X6_plotted false 3 ce_X6_plotted := by
  intro av w hlen hk hpre
  obtain ⟨fx, fy, mi, ax, ay, bx, b2, a, b, c, ex, ey, tx, lx, ty, ly, fi, se, mj, tk, le, bo, rg, tp, la, nw, co, sp, x, y, n, z, m, rfl, rfl, hn, hz, hm, hla⟩ := hpre
  refine ⟨Nat.le_of_ble_eq_true rfl, [], 60, 0, fun q h => absurd h List.not_mem_nil, ?_⟩
  have no : ∀ (a' b' c' ex' ey' tx' lx' ty' ly' : Nat → Int64) (k r : Int32), mtR fx fy mi ax ay bx b2 n a b c ex ey tx lx ty ly co x y r a' b' c' ex' ey' tx' lx' ty' ly' k → ¬ (r = 1 ∧ (z < 60 ∧ ∀ p, p < z → ¬ duP fi se x y p)) → rz_end ce_X6_plotted [.ref 0, .int x, .int y] ((0, oCW nw) :: wSP fx fy mi ax ay bx b2 (nI n) a b c ex ey tx lx ty ly co fi se mj tk le bo rg tp la (nI z) (nI m) sp) (some (.int (-1))) ((0, oCW nw) :: wSP fx fy mi ax ay bx b2 (nI n) a' b' c' ex' ey' tx' lx' ty' ly' k fi se mj tk le bo rg tp la (nI z) (nI m) sp) := by
    intro a' b' c' ex' ey' tx' lx' ty' ly' k r h1 h2
    refine ⟨⟨_, rfl⟩, fun z => (by cases z), ?_⟩
    intro n' z' m' e1 g1 e2 g2 e3 g3
    have e1 : n = n' := nI_inj (by omega) (by omega) e1
    have e2 : z = z' := nI_inj (by omega) (by omega) e2
    have e3 : m = m' := nI_inj (by omega) (by omega) e3
    subst e1 e2 e3
    exact ⟨a', b', c', ex', ey', tx', lx', ty', ly', k, r, h1, if_no h2 ⟨rfl, rfl⟩⟩
  conv => whnf
  refine ⟨⟨fx, fy, mi, ax, ay, bx, b2, a, b, c, ex, ey, tx, lx, ty, ly, nw, co, x, y, n, rfl, rfl, hn⟩, ?_⟩
  intro r wc hwc
  obtain ⟨a', b', c', ex', ey', tx', lx', ty', ly', k, h1, hw⟩ := hwc n rfl hn
  have hw : wc = (0, oCW nw) :: wSS fx fy mi ax ay bx b2 (nI n) a' b' c' ex' ey' tx' lx' ty' ly' k := hw
  have h1 : mtR fx fy mi ax ay bx b2 n a b c ex ey tx lx ty ly co x y r a' b' c' ex' ey' tx' lx' ty' ly' k := h1
  subst hw
  have e : rz_back ((0, oCW nw) :: wSP fx fy mi ax ay bx b2 (nI n) a b c ex ey tx lx ty ly co fi se mj tk le bo rg tp la (nI z) (nI m) sp) ((0, oCW nw) :: wSS fx fy mi ax ay bx b2 (nI n) a' b' c' ex' ey' tx' lx' ty' ly' k) = (0, oCW nw) :: wSP fx fy mi ax ay bx b2 (nI n) a' b' c' ex' ey' tx' lx' ty' ly' k fi se mj tk le bo rg tp la (nI z) (nI m) sp := rz_back_pre (w := (0, oCW nw) :: wSS fx fy mi ax ay bx b2 (nI n) a b c ex ey tx lx ty ly co) (q := wPl fi se mj tk le bo rg tp la (nI z) (nI m) sp) rfl (show (0 :: kSS).Nodup by decide +kernel)
  rw [e]
  conv => whnf
  refine ⟨fun h2 => ?_, fun h2 => ?_⟩
  · have h2 : r = 1 := h2
    obtain ⟨ok1, ok2, j, hj, rfl⟩ := mtR_1 h1 h2
    conv => whnf
    refine ⟨⟨fi, se, mj, tk, le, bo, rg, tp, la, nI m, sp, x, y, z, rfl, rfl, hz⟩, ?_⟩
    intro r2 hr2
    obtain rfl : r2 = bI (z < 60 ∧ ∀ p, p < z → ¬ duP fi se x y p) := hr2 z rfl hz
    conv => whnf
    refine ⟨fun h3 => ?_, fun h3 => ?_⟩
    · exact no _ _ _ _ _ _ _ _ _ _ _ h1 (fun q => bI_0 h3 q.2)
    · have h3 := bI_n h3
      conv => whnf
      refine ⟨okS_vp ok1 hn (by omega), ?_⟩
      conv => whnf
      refine ⟨⟨fi, se, mj, tk, le, bo, rg, tp, la, sp, a', b', c', ex', ey', tx', lx', ty', ly', x, y, mi x.toNatClampNeg, z, m, j, rfl, rfl, h3.1, hm, hj, hla⟩, ?_⟩
      intro r3 wd hwd
      have hwd := hwd z m j rfl h3.1 rfl hm rfl hj _ _ _ _ _ rfl rfl rfl rfl rfl _ rfl
      obtain ⟨g1, g2, hw⟩ := hwd
      have g1 : r3 = _ := g1
      generalize hT : trF _ m = T at g1 g2 hw
      have hT : trF (ntF (upd mj z (mi x.toNatClampNeg)) la (upd le z (bxF tx' lx' ty' ly' j 0)) (upd bo z (bxF tx' lx' ty' ly' j 1)) (upd rg z (bxF tx' lx' ty' ly' j 2)) (upd tp z (bxF tx' lx' ty' ly' j 3)) sp z m).1 m = T := hT
      have hw : wd = wPS (upd fi z x) (upd se z y) (upd mj z (mi x.toNatClampNeg)) (upd tk z (nI T)) (upd le z (bxF tx' lx' ty' ly' j 0)) (upd bo z (bxF tx' lx' ty' ly' j 1)) (upd rg z (bxF tx' lx' ty' ly' j 2)) (upd tp z (bxF tx' lx' ty' ly' j 3)) (upd la T (nI z)) (nI (z + 1)) (nI (if T = m then m + 1 else m)) sp a' b' c' ex' ey' tx' lx' ty' ly' (nI j) := hw
      subst hw
      subst g1
      have e2 : rz_back ((0, oCW nw) :: wSP fx fy mi ax ay bx b2 (nI n) a' b' c' ex' ey' tx' lx' ty' ly' (nI j) fi se mj tk le bo rg tp la (nI z) (nI m) sp) (wPS (upd fi z x) (upd se z y) (upd mj z (mi x.toNatClampNeg)) (upd tk z (nI T)) (upd le z (bxF tx' lx' ty' ly' j 0)) (upd bo z (bxF tx' lx' ty' ly' j 1)) (upd rg z (bxF tx' lx' ty' ly' j 2)) (upd tp z (bxF tx' lx' ty' ly' j 3)) (upd la T (nI z)) (nI (z + 1)) (nI (if T = m then m + 1 else m)) sp a' b' c' ex' ey' tx' lx' ty' ly' (nI j)) = (0, oCW nw) :: wSP fx fy mi ax ay bx b2 (nI n) a' b' c' ex' ey' tx' lx' ty' ly' (nI j) (upd fi z x) (upd se z y) (upd mj z (mi x.toNatClampNeg)) (upd tk z (nI T)) (upd le z (bxF tx' lx' ty' ly' j 0)) (upd bo z (bxF tx' lx' ty' ly' j 1)) (upd rg z (bxF tx' lx' ty' ly' j 2)) (upd tp z (bxF tx' lx' ty' ly' j 3)) (upd la T (nI z)) (nI (z + 1)) (nI (if T = m then m + 1 else m)) sp := by
        generalize upd fi z x = fi'
        generalize upd se z y = se'
        generalize upd mj z (mi x.toNatClampNeg) = mj'
        generalize upd tk z (nI T) = tk'
        generalize upd le z (bxF tx' lx' ty' ly' j 0) = le'
        generalize upd bo z (bxF tx' lx' ty' ly' j 1) = bo'
        generalize upd rg z (bxF tx' lx' ty' ly' j 2) = rg'
        generalize upd tp z (bxF tx' lx' ty' ly' j 3) = tp'
        generalize upd la T (nI z) = la'
        have q1 := rz_back_at [] (wPl fi' se' mj' tk' le' bo' rg' tp' la' (nI (z + 1)) (nI (if T = m then m + 1 else m)) sp) ((0, oCW nw) :: wSS fx fy mi ax ay bx b2 (nI n) a' b' c' ex' ey' tx' lx' ty' ly' (nI j)) (wPl fi se mj tk le bo rg tp la (nI z) (nI m) sp) rfl (show (0 :: kSP).Nodup by decide +kernel)
        have q2 := rz_back_at (wPl fi' se' mj' tk' le' bo' rg' tp' la' (nI (z + 1)) (nI (if T = m then m + 1 else m)) sp) (wSh a' b' c' ex' ey' tx' lx' ty' ly' (nI j)) ((0, oCW nw) :: wSg fx fy mi ax ay bx b2 (nI n)) (wSh a' b' c' ex' ey' tx' lx' ty' ly' (nI j)) rfl (show (0 :: kSS).Nodup by decide +kernel)
        exact (rz_back_app _ _ _).trans ((congrArg (fun q => rz_back q (wSh a' b' c' ex' ey' tx' lx' ty' ly' (nI j))) q1).trans q2)
      rw [e2]
      conv => whnf
      refine ⟨⟨_, rfl⟩, fun z => (by cases z), ?_⟩
      intro n' z' m' e1 q1 e2 q2 e3 q3
      have e1 : n = n' := nI_inj (by omega) (by omega) e1
      have e2 : z = z' := nI_inj (by omega) (by omega) e2
      have e3 : m = m' := nI_inj (by omega) (by omega) e3
      subst e1 e2 e3
      refine ⟨a', b', c', ex', ey', tx', lx', ty', ly', nI j, r, h1, if_yes ⟨h2, h3⟩ ⟨j, hj, rfl, ?_⟩⟩
      intro mi' le' bo' rg' tp' q1 q2 q3 q4 q5 T' hT'
      subst q1 q2 q3 q4 q5
      have hT' : T' = T := hT'.trans hT
      subst hT'
      exact ⟨rfl, g2, rfl⟩
  · exact no _ _ _ _ _ _ _ _ _ _ _ h1 (fun q => h2 q.1)
theorem rv_X6_plotted : rz_Rv yX6_plotted.cls ce_X6_plotted := fun av w h => by
  obtain ⟨_, _, _, _, _, _, _, _, _, _, _, _, _, _, _, _, _, _, _, _, _, _, _, _, _, _, _, _, _, _, _, _, _, rfl, rfl, _⟩ := h
  exact ⟨_, _, _, _, _, _, rfl, rfl, rfl⟩
theorem cn_X6_plotted (l : Launch) : rz_Con l yX6_plotted cX6_plotted 3 (some .int) 6 0 0 ce_X6_plotted := rz_con (by decide +kernel) fo_X6 (fun _ h => absurd h List.not_mem_nil) (by
  intro q hq
  rcases List.mem_cons.mp hq with rfl | hq
  · exact rz_callV (cn_X6_meet l) (by decide +kernel) ⟨Nat.le_of_ble_eq_true rfl, Nat.le_of_ble_eq_true rfl⟩ m_X6_meet rfl i_X6_meet v_X6_meet rv_X6_meet n_X6_109
  rcases List.mem_cons.mp hq with rfl | hq
  · exact rz_callVN (cn_X3_takes l) (by decide +kernel) ⟨Nat.le_of_ble_eq_true rfl, Nat.le_of_ble_eq_true rfl⟩ m_X3_takes rfl i_X3_takes v_X3_takes rv_X3_takes n_X6_125
  rcases List.mem_cons.mp hq with rfl | hq
  · exact rz_callVN (cn_X3_add l) (by decide +kernel) ⟨Nat.le_of_ble_eq_true rfl, Nat.le_of_ble_eq_true rfl⟩ m_X3_add rfl i_X3_add v_X3_add rv_X3_add n_X6_131
  exact absurd hq List.not_mem_nil) r_X6_plotted vc_X6_plotted
