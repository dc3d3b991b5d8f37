/-! The law: case 13. -/
set_option maxHeartbeats 8000000 in
set_option maxRecDepth 20000 in
theorem lw_c13 {L : Nat} {xs : Nat → Int32} (hL : L ≤ 3072) {i : Nat} (hi : i + 6 ≤ L) {lv : rz_L} {w : rz_W} {cs sl : Nat} (hJ : LI i 0 lv w cs sl) : rz_xrun L xs ksL x_df [] ck_l13 xa_l13 k_l13 [] [] [] [] true 601024 7293034 (J50 i) (fun _ _ => False) 1 120 754 lv [] w cs sl := by
  obtain ⟨px, py, ph, rx, ry, vi, spx, fx, fy, mi, ax, ay, bx, b2, fi, se, mj, tk, le, bo, rg, tp, la, pb, pl, pe, pt, lp, im, de, sg, pa, s, a, b0, c, ex, ey, tx, lx, ty, ly, A, B, C, X, Y, D, bx9, ou, t, g, h, n, z, m, k, b, sp, co, th, co2, rfl, rfl, ⟨⟨ht, hg, hh, hn, hz, hm, hk, hb, hq⟩, hpo, hsg, hpl, hbo, hde⟩, hcs, hsl⟩ := hJ
  have v1 : vp_in (nI i + 1) L := vL hL hi 1 (by omega)
  have v2 : vp_in (nI i + 2) L := vL hL hi 2 (by omega)
  have v3 : vp_in (nI i + 3) L := vL hL hi 3 (by omega)
  have v4 : vp_in (nI i + 4) L := vL hL hi 4 (by omega)
  have v5 : vp_in (nI i + 5) L := vL hL hi 5 (by omega)
  conv => whnf
  refine ⟨v1, rfl, ?_⟩
  conv => whnf
  refine ⟨v2, rfl, ?_⟩
  conv => whnf
  refine ⟨show cs + 0 ≤ 601024 by omega, show sl + 0 ≤ 7293034 by omega, ?_⟩
  conv => whnf
  refine ⟨⟨fi, se, mj, tk, le, bo, rg, tp, la, nI t, nI m, sp, _, _, z, rfl, rfl, hz⟩, ?_⟩
  intro r hr
  have hr : r = if okS (xs (nI i + 1).toNatClampNeg) z then (if (xs (nI i + 2).toNatClampNeg) = 0 then tk (xs (nI i + 1).toNatClampNeg).toNatClampNeg else if (xs (nI i + 2).toNatClampNeg) = 1 then fi (xs (nI i + 1).toNatClampNeg).toNatClampNeg else if (xs (nI i + 2).toNatClampNeg) = 2 then se (xs (nI i + 1).toNatClampNeg).toNatClampNeg else if (xs (nI i + 2).toNatClampNeg) = 3 then mj (xs (nI i + 1).toNatClampNeg).toNatClampNeg else -1) else -1 := hr z rfl hz
  conv => whnf
  refine ⟨v1, rfl, ?_⟩
  conv => whnf
  refine ⟨v2, rfl, ?_⟩
  conv => whnf
  refine ⟨show cs + 0 + 0 ≤ 601024 by omega, show sl + 0 + 0 ≤ 7293034 by omega, ?_⟩
  conv => whnf
  refine ⟨⟨sg, fi, se, tk, th, nI g, nI h, nI t, nI n, nI m, nI b, nI k, nI s.2.2.2, sp, co2, _, _, z, rfl, rfl, hz, fun p9 hp9 => okS_vp (hpl.1.1 p9 hp9).1.1 hn (by omega)⟩, ?_⟩
  intro r2 wd hwd
  have hwd : r2 = (if okS (xs (nI i + 1).toNatClampNeg) z then (if (xs (nI i + 2).toNatClampNeg) = 0 then tk (xs (nI i + 1).toNatClampNeg).toNatClampNeg else if (xs (nI i + 2).toNatClampNeg) = 1 then fi (xs (nI i + 1).toNatClampNeg).toNatClampNeg else if (xs (nI i + 2).toNatClampNeg) = 2 then se (xs (nI i + 1).toNatClampNeg).toNatClampNeg else if (xs (nI i + 2).toNatClampNeg) = 3 then sg (6 * (fi (xs (nI i + 1).toNatClampNeg).toNatClampNeg).toNatClampNeg + 1) else -1) else -1) ∧ wd = wMt (oMo 0 (nI g) (nI h) (nI t) (nI n) (nI z) (nI m) (nI b) (nI k) (nI s.2.2.2) sp co2) sg fi se tk := ⟨hwd.2 z rfl hz, hwd.1⟩
  obtain ⟨hr2, rfl⟩ := hwd
  have m2 : rz_back (wM (oMo th (nI g) (nI h) (nI t) (nI n) (nI z) (nI m) (nI b) (nI k) (nI s.2.2.2) sp co2) px py ph rx ry vi sg fi se tk pa im de s.1 s.2.1 s.2.2.1 A B C X Y D bx9 ou) (wMt (oMo 0 (nI g) (nI h) (nI t) (nI n) (nI z) (nI m) (nI b) (nI k) (nI s.2.2.2) sp co2) sg fi se tk) = wM (oMo 0 (nI g) (nI h) (nI t) (nI n) (nI z) (nI m) (nI b) (nI k) (nI s.2.2.2) sp co2) px py ph rx ry vi sg fi se tk pa im de s.1 s.2.1 s.2.2.1 A B C X Y D bx9 ou := rfl
  have e2 : rz_back ((0, oCW (nI t)) :: (wLk px py ph rx ry vi spx (nI g) (nI h) ++ (wSg fx fy mi ax ay bx b2 (nI n) ++ (wSh a b0 c ex ey tx lx ty ly co ++ (wPl fi se mj tk le bo rg tp la (nI z) (nI m) sp ++ (wBo pb pl pe pt lp im (nI k) (nI b) ++ (wCl de s.1 s.2.1 s.2.2.1 (nI s.2.2.2) ++ wM (oMo th (nI g) (nI h) (nI t) (nI n) (nI z) (nI m) (nI b) (nI k) (nI s.2.2.2) sp co2) px py ph rx ry vi sg fi se tk pa im de s.1 s.2.1 s.2.2.1 A B C X Y D bx9 ou))))))) (wMt (oMo 0 (nI g) (nI h) (nI t) (nI n) (nI z) (nI m) (nI b) (nI k) (nI s.2.2.2) sp co2) sg fi se tk) = (0, oCW (nI t)) :: (wLk px py ph rx ry vi spx (nI g) (nI h) ++ (wSg fx fy mi ax ay bx b2 (nI n) ++ (wSh a b0 c ex ey tx lx ty ly co ++ (wPl fi se mj tk le bo rg tp la (nI z) (nI m) sp ++ (wBo pb pl pe pt lp im (nI k) (nI b) ++ (wCl de s.1 s.2.1 s.2.2.1 (nI s.2.2.2) ++ wM (oMo 0 (nI g) (nI h) (nI t) (nI n) (nI z) (nI m) (nI b) (nI k) (nI s.2.2.2) sp co2) px py ph rx ry vi sg fi se tk pa im de s.1 s.2.1 s.2.2.1 A B C X Y D bx9 ou)))))) := by
    rw [← m2]
    exact bkM (ks := [50, 57, 58, 59, 60]) rfl rfl rfl rfl rfl rfl rfl (by decide)
  rw [e2]
  conv => whnf
  refine ⟨fun _ => ?_, fun y9 => absurd (track_eq hpl hz hr hr2) y9⟩
  conv => whnf
  refine ⟨0, Nat.zero_lt_one, px, py, ph, rx, ry, vi, spx, fx, fy, mi, ax, ay, bx, b2, fi, se, mj, tk, le, bo, rg, tp, la, pb, pl, pe, pt, lp, im, de, sg, pa, s, a, b0, c, ex, ey, tx, lx, ty, ly, A, B, C, X, Y, D, bx9, ou, t, g, h, n, z, m, k, b, sp, co, 0, co2, rfl, rfl, ⟨⟨ht, hg, hh, hn, hz, hm, hk, hb, hq⟩, hpo, hsg, hpl, hbo, hde⟩, show cs + 0 + 0 ≤ 74 + i + 1 by omega, show sl + 0 + 0 ≤ 5741 + 6 * (i + 1) by omega⟩
