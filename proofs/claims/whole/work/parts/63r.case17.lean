/-! The law: case 17. -/
set_option maxHeartbeats 8000000 in
set_option maxRecDepth 20000 in
theorem lw_c17 {L : Nat} {xs : Nat → Int32} (hL : L ≤ 3072) {i : Nat} (hi : i + 6 ≤ L) {lv : rz_L} {w : rz_W} {cs sl : Nat} (hJ : LI i 0 lv w cs sl) : rz_xrun L xs ksL x_df [] ck_l17 xa_l17 k_l17 [] [] [] [] true 601024 7293034 (J50 i) (fun _ _ => False) 1 120 926 lv [] w cs sl := by
  obtain ⟨px, py, ph, rx, ry, vi, spx, fx, fy, mi, ax, ay, bx, b2, fi, se, mj, tk, le, bo, rg, tp, la, pb, pl, pe, pt, lp, im, de, sg, pa, s, a, b0, c, ex, ey, tx, lx, ty, ly, A, B, C, X, Y, D, bx9, ou, t, g, h, n, z, m, k, b, sp, co, th, co2, rfl, rfl, ⟨⟨ht, hg, hh, hn, hz, hm, hk, hb, hq⟩, hpo, hsg, hpl, hbo, hde⟩, hcs, hsl⟩ := hJ
  have v1 : vp_in (nI i + 1) L := vL hL hi 1 (by omega)
  have v2 : vp_in (nI i + 2) L := vL hL hi 2 (by omega)
  have v3 : vp_in (nI i + 3) L := vL hL hi 3 (by omega)
  have v4 : vp_in (nI i + 4) L := vL hL hi 4 (by omega)
  have v5 : vp_in (nI i + 5) L := vL hL hi 5 (by omega)
  conv => whnf
  refine ⟨v1, rfl, ?_⟩
  conv => whnf
  refine ⟨v2, rfl, ?_⟩
  conv => whnf
  refine ⟨show cs + 0 ≤ 601024 by omega, show sl + 0 ≤ 7293034 by omega, ?_⟩
  conv => whnf
  refine ⟨⟨de, s.1, s.2.1, s.2.2.1, nI t, nI s.2.2.2, _, _, rfl, rfl, trivial⟩, ?_⟩
  intro r wc hwc
  have hwc : if okR (xs (nI i + 1).toNatClampNeg) (xs (nI i + 2).toNatClampNeg) then r = 1 ∧ wc = (0, oCW (nI t)) :: wCl (upd de (xs (nI i + 1).toNatClampNeg).toNatClampNeg (xs (nI i + 2).toNatClampNeg)) s.1 s.2.1 s.2.2.1 (nI s.2.2.2) else r = 0 ∧ wc = (0, oCW (nI t)) :: wCl de s.1 s.2.1 s.2.2.1 (nI s.2.2.2) := hwc
  by_cases q : okR (xs (nI i + 1).toNatClampNeg) (xs (nI i + 2).toNatClampNeg)
  · rw [if_pos q] at hwc
    obtain ⟨rfl, rfl⟩ := hwc
    have e1 : rz_back ((0, oCW (nI t)) :: (wLk px py ph rx ry vi spx (nI g) (nI h) ++ (wSg fx fy mi ax ay bx b2 (nI n) ++ (wSh a b0 c ex ey tx lx ty ly co ++ (wPl fi se mj tk le bo rg tp la (nI z) (nI m) sp ++ (wBo pb pl pe pt lp im (nI k) (nI b) ++ (wCl de s.1 s.2.1 s.2.2.1 (nI s.2.2.2) ++ wM (oMo th (nI g) (nI h) (nI t) (nI n) (nI z) (nI m) (nI b) (nI k) (nI s.2.2.2) sp co2) px py ph rx ry vi sg fi se tk pa im de s.1 s.2.1 s.2.2.1 A B C X Y D bx9 ou))))))) ((0, oCW (nI t)) :: wCl (upd de (xs (nI i + 1).toNatClampNeg).toNatClampNeg (xs (nI i + 2).toNatClampNeg)) s.1 s.2.1 s.2.2.1 (nI s.2.2.2)) = (0, oCW (nI t)) :: (wLk px py ph rx ry vi spx (nI g) (nI h) ++ (wSg fx fy mi ax ay bx b2 (nI n) ++ (wSh a b0 c ex ey tx lx ty ly co ++ (wPl fi se mj tk le bo rg tp la (nI z) (nI m) sp ++ (wBo pb pl pe pt lp im (nI k) (nI b) ++ (wCl (upd de (xs (nI i + 1).toNatClampNeg).toNatClampNeg (xs (nI i + 2).toNatClampNeg)) s.1 s.2.1 s.2.2.1 (nI s.2.2.2) ++ wM (oMo th (nI g) (nI h) (nI t) (nI n) (nI z) (nI m) (nI b) (nI k) (nI s.2.2.2) sp co2) px py ph rx ry vi sg fi se tk pa im de s.1 s.2.1 s.2.2.1 A B C X Y D bx9 ou)))))) := bkF rfl rfl rfl rfl rfl rfl rfl
    rw [e1]
    conv => whnf
    refine ⟨v1, rfl, ?_⟩
    conv => whnf
    refine ⟨v2, rfl, ?_⟩
    conv => whnf
    refine ⟨show cs + 0 + 0 ≤ 601024 by omega, show sl + 0 + 0 ≤ 7293034 by omega, ?_⟩
    conv => whnf
    refine ⟨⟨de, th, nI g, nI h, nI t, nI n, nI z, nI m, nI b, nI k, nI s.2.2.2, sp, co2, _, _, rfl, rfl, trivial⟩, ?_⟩
    intro r2 wd hwd
    have hwd : if okR (xs (nI i + 1).toNatClampNeg) (xs (nI i + 2).toNatClampNeg) then r2 = 1 ∧ wd = wMr (oMo 0 (nI g) (nI h) (nI t) (nI n) (nI z) (nI m) (nI b) (nI k) (nI s.2.2.2) sp co2) (upd de (xs (nI i + 1).toNatClampNeg).toNatClampNeg (xs (nI i + 2).toNatClampNeg)) else r2 = 0 ∧ wd = wMr (oMo 0 (nI g) (nI h) (nI t) (nI n) (nI z) (nI m) (nI b) (nI k) (nI s.2.2.2) sp co2) de := hwd
    rw [if_pos q] at hwd
    obtain ⟨rfl, rfl⟩ := hwd
    have m2 : rz_back (wM (oMo th (nI g) (nI h) (nI t) (nI n) (nI z) (nI m) (nI b) (nI k) (nI s.2.2.2) sp co2) px py ph rx ry vi sg fi se tk pa im de s.1 s.2.1 s.2.2.1 A B C X Y D bx9 ou) (wMr (oMo 0 (nI g) (nI h) (nI t) (nI n) (nI z) (nI m) (nI b) (nI k) (nI s.2.2.2) sp co2) (upd de (xs (nI i + 1).toNatClampNeg).toNatClampNeg (xs (nI i + 2).toNatClampNeg))) = wM (oMo 0 (nI g) (nI h) (nI t) (nI n) (nI z) (nI m) (nI b) (nI k) (nI s.2.2.2) sp co2) px py ph rx ry vi sg fi se tk pa im (upd de (xs (nI i + 1).toNatClampNeg).toNatClampNeg (xs (nI i + 2).toNatClampNeg)) s.1 s.2.1 s.2.2.1 A B C X Y D bx9 ou := rfl
    have e2 : rz_back ((0, oCW (nI t)) :: (wLk px py ph rx ry vi spx (nI g) (nI h) ++ (wSg fx fy mi ax ay bx b2 (nI n) ++ (wSh a b0 c ex ey tx lx ty ly co ++ (wPl fi se mj tk le bo rg tp la (nI z) (nI m) sp ++ (wBo pb pl pe pt lp im (nI k) (nI b) ++ (wCl (upd de (xs (nI i + 1).toNatClampNeg).toNatClampNeg (xs (nI i + 2).toNatClampNeg)) s.1 s.2.1 s.2.2.1 (nI s.2.2.2) ++ wM (oMo th (nI g) (nI h) (nI t) (nI n) (nI z) (nI m) (nI b) (nI k) (nI s.2.2.2) sp co2) px py ph rx ry vi sg fi se tk pa im de s.1 s.2.1 s.2.2.1 A B C X Y D bx9 ou))))))) (wMr (oMo 0 (nI g) (nI h) (nI t) (nI n) (nI z) (nI m) (nI b) (nI k) (nI s.2.2.2) sp co2) (upd de (xs (nI i + 1).toNatClampNeg).toNatClampNeg (xs (nI i + 2).toNatClampNeg))) = (0, oCW (nI t)) :: (wLk px py ph rx ry vi spx (nI g) (nI h) ++ (wSg fx fy mi ax ay bx b2 (nI n) ++ (wSh a b0 c ex ey tx lx ty ly co ++ (wPl fi se mj tk le bo rg tp la (nI z) (nI m) sp ++ (wBo pb pl pe pt lp im (nI k) (nI b) ++ (wCl (upd de (xs (nI i + 1).toNatClampNeg).toNatClampNeg (xs (nI i + 2).toNatClampNeg)) s.1 s.2.1 s.2.2.1 (nI s.2.2.2) ++ wM (oMo 0 (nI g) (nI h) (nI t) (nI n) (nI z) (nI m) (nI b) (nI k) (nI s.2.2.2) sp co2) px py ph rx ry vi sg fi se tk pa im (upd de (xs (nI i + 1).toNatClampNeg).toNatClampNeg (xs (nI i + 2).toNatClampNeg)) s.1 s.2.1 s.2.2.1 A B C X Y D bx9 ou)))))) := by
      rw [← m2]
      exact bkM (ks := [50, 63]) rfl rfl rfl rfl rfl rfl rfl (by decide)
    rw [e2]
    conv => whnf
    refine ⟨fun _ => ?_, fun y9 => absurd (rfl) y9⟩
    conv => whnf
    refine ⟨0, Nat.zero_lt_one, px, py, ph, rx, ry, vi, spx, fx, fy, mi, ax, ay, bx, b2, fi, se, mj, tk, le, bo, rg, tp, la, pb, pl, pe, pt, lp, im, upd de (xs (nI i + 1).toNatClampNeg).toNatClampNeg (xs (nI i + 2).toNatClampNeg), sg, pa, s, a, b0, c, ex, ey, tx, lx, ty, ly, A, B, C, X, Y, D, bx9, ou, t, g, h, n, z, m, k, b, sp, co, 0, co2, rfl, rfl, ⟨⟨ht, hg, hh, hn, hz, hm, hk, hb, hq⟩, hpo, hsg, hpl, hbo, deI_call hde q⟩, show cs + 0 + 0 ≤ 74 + i + 1 by omega, show sl + 0 + 0 ≤ 5741 + 6 * (i + 1) by omega⟩
  · rw [if_neg q] at hwc
    obtain ⟨rfl, rfl⟩ := hwc
    have e1 : rz_back ((0, oCW (nI t)) :: (wLk px py ph rx ry vi spx (nI g) (nI h) ++ (wSg fx fy mi ax ay bx b2 (nI n) ++ (wSh a b0 c ex ey tx lx ty ly co ++ (wPl fi se mj tk le bo rg tp la (nI z) (nI m) sp ++ (wBo pb pl pe pt lp im (nI k) (nI b) ++ (wCl de s.1 s.2.1 s.2.2.1 (nI s.2.2.2) ++ wM (oMo th (nI g) (nI h) (nI t) (nI n) (nI z) (nI m) (nI b) (nI k) (nI s.2.2.2) sp co2) px py ph rx ry vi sg fi se tk pa im de s.1 s.2.1 s.2.2.1 A B C X Y D bx9 ou))))))) ((0, oCW (nI t)) :: wCl de s.1 s.2.1 s.2.2.1 (nI s.2.2.2)) = (0, oCW (nI t)) :: (wLk px py ph rx ry vi spx (nI g) (nI h) ++ (wSg fx fy mi ax ay bx b2 (nI n) ++ (wSh a b0 c ex ey tx lx ty ly co ++ (wPl fi se mj tk le bo rg tp la (nI z) (nI m) sp ++ (wBo pb pl pe pt lp im (nI k) (nI b) ++ (wCl de s.1 s.2.1 s.2.2.1 (nI s.2.2.2) ++ wM (oMo th (nI g) (nI h) (nI t) (nI n) (nI z) (nI m) (nI b) (nI k) (nI s.2.2.2) sp co2) px py ph rx ry vi sg fi se tk pa im de s.1 s.2.1 s.2.2.1 A B C X Y D bx9 ou)))))) := bkF rfl rfl rfl rfl rfl rfl rfl
    rw [e1]
    conv => whnf
    refine ⟨v1, rfl, ?_⟩
    conv => whnf
    refine ⟨v2, rfl, ?_⟩
    conv => whnf
    refine ⟨show cs + 0 + 0 ≤ 601024 by omega, show sl + 0 + 0 ≤ 7293034 by omega, ?_⟩
    conv => whnf
    refine ⟨⟨de, th, nI g, nI h, nI t, nI n, nI z, nI m, nI b, nI k, nI s.2.2.2, sp, co2, _, _, rfl, rfl, trivial⟩, ?_⟩
    intro r2 wd hwd
    have hwd : if okR (xs (nI i + 1).toNatClampNeg) (xs (nI i + 2).toNatClampNeg) then r2 = 1 ∧ wd = wMr (oMo 0 (nI g) (nI h) (nI t) (nI n) (nI z) (nI m) (nI b) (nI k) (nI s.2.2.2) sp co2) (upd de (xs (nI i + 1).toNatClampNeg).toNatClampNeg (xs (nI i + 2).toNatClampNeg)) else r2 = 0 ∧ wd = wMr (oMo 0 (nI g) (nI h) (nI t) (nI n) (nI z) (nI m) (nI b) (nI k) (nI s.2.2.2) sp co2) de := hwd
    rw [if_neg q] at hwd
    obtain ⟨rfl, rfl⟩ := hwd
    have m2 : rz_back (wM (oMo th (nI g) (nI h) (nI t) (nI n) (nI z) (nI m) (nI b) (nI k) (nI s.2.2.2) sp co2) px py ph rx ry vi sg fi se tk pa im de s.1 s.2.1 s.2.2.1 A B C X Y D bx9 ou) (wMr (oMo 0 (nI g) (nI h) (nI t) (nI n) (nI z) (nI m) (nI b) (nI k) (nI s.2.2.2) sp co2) de) = wM (oMo 0 (nI g) (nI h) (nI t) (nI n) (nI z) (nI m) (nI b) (nI k) (nI s.2.2.2) sp co2) px py ph rx ry vi sg fi se tk pa im de s.1 s.2.1 s.2.2.1 A B C X Y D bx9 ou := rfl
    have e2 : rz_back ((0, oCW (nI t)) :: (wLk px py ph rx ry vi spx (nI g) (nI h) ++ (wSg fx fy mi ax ay bx b2 (nI n) ++ (wSh a b0 c ex ey tx lx ty ly co ++ (wPl fi se mj tk le bo rg tp la (nI z) (nI m) sp ++ (wBo pb pl pe pt lp im (nI k) (nI b) ++ (wCl de s.1 s.2.1 s.2.2.1 (nI s.2.2.2) ++ wM (oMo th (nI g) (nI h) (nI t) (nI n) (nI z) (nI m) (nI b) (nI k) (nI s.2.2.2) sp co2) px py ph rx ry vi sg fi se tk pa im de s.1 s.2.1 s.2.2.1 A B C X Y D bx9 ou))))))) (wMr (oMo 0 (nI g) (nI h) (nI t) (nI n) (nI z) (nI m) (nI b) (nI k) (nI s.2.2.2) sp co2) de) = (0, oCW (nI t)) :: (wLk px py ph rx ry vi spx (nI g) (nI h) ++ (wSg fx fy mi ax ay bx b2 (nI n) ++ (wSh a b0 c ex ey tx lx ty ly co ++ (wPl fi se mj tk le bo rg tp la (nI z) (nI m) sp ++ (wBo pb pl pe pt lp im (nI k) (nI b) ++ (wCl de s.1 s.2.1 s.2.2.1 (nI s.2.2.2) ++ wM (oMo 0 (nI g) (nI h) (nI t) (nI n) (nI z) (nI m) (nI b) (nI k) (nI s.2.2.2) sp co2) px py ph rx ry vi sg fi se tk pa im de s.1 s.2.1 s.2.2.1 A B C X Y D bx9 ou)))))) := by
      rw [← m2]
      exact bkM (ks := [50, 63]) rfl rfl rfl rfl rfl rfl rfl (by decide)
    rw [e2]
    conv => whnf
    refine ⟨fun _ => ?_, fun y9 => absurd (rfl) y9⟩
    conv => whnf
    refine ⟨0, Nat.zero_lt_one, px, py, ph, rx, ry, vi, spx, fx, fy, mi, ax, ay, bx, b2, fi, se, mj, tk, le, bo, rg, tp, la, pb, pl, pe, pt, lp, im, de, sg, pa, s, a, b0, c, ex, ey, tx, lx, ty, ly, A, B, C, X, Y, D, bx9, ou, t, g, h, n, z, m, k, b, sp, co, 0, co2, rfl, rfl, ⟨⟨ht, hg, hh, hn, hz, hm, hk, hb, hq⟩, hpo, hsg, hpl, hbo, hde⟩, show cs + 0 + 0 ≤ 74 + i + 1 by omega, show sl + 0 + 0 ≤ 5741 + 6 * (i + 1) by omega⟩
