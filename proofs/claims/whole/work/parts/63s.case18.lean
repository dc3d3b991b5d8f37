/-! The law: case 18. -/
set_option maxHeartbeats 8000000 in
set_option maxRecDepth 20000 in
theorem lw_c18 {L : Nat} {xs : Nat → Int32} (hL : L ≤ 3072) {i : Nat} (hi : i + 6 ≤ L) {lv : rz_L} {w : rz_W} {cs sl : Nat} (hJ : LI i 0 lv w cs sl) : rz_xrun L xs ksL x_df [] ck_l18 xa_l18 k_l18 [] [] [] [] true 601024 7293034 (J50 i) (fun _ _ => False) 1 120 963 lv [] w cs sl := by
  obtain ⟨px, py, ph, rx, ry, vi, spx, fx, fy, mi, ax, ay, bx, b2, fi, se, mj, tk, le, bo, rg, tp, la, pb, pl, pe, pt, lp, im, de, sg, pa, s, a, b0, c, ex, ey, tx, lx, ty, ly, A, B, C, X, Y, D, bx9, ou, t, g, h, n, z, m, k, b, sp, co, th, co2, rfl, rfl, ⟨⟨ht, hg, hh, hn, hz, hm, hk, hb, hq⟩, hpo, hsg, hpl, hbo, hde⟩, hcs, hsl⟩ := hJ
  have v1 : vp_in (nI i + 1) L := vL hL hi 1 (by omega)
  have v2 : vp_in (nI i + 2) L := vL hL hi 2 (by omega)
  have v3 : vp_in (nI i + 3) L := vL hL hi 3 (by omega)
  have v4 : vp_in (nI i + 4) L := vL hL hi 4 (by omega)
  have v5 : vp_in (nI i + 5) L := vL hL hi 5 (by omega)
  conv => whnf
  refine ⟨v1, rfl, ?_⟩
  conv => whnf
  refine ⟨show cs + 0 ≤ 601024 by omega, show sl + 0 ≤ 7293034 by omega, ?_⟩
  conv => whnf
  refine ⟨⟨de, s, pb, pl, pe, pt, lp, im, nI t, nI k, _, b, rfl, rfl, hb, lp_vp hk hbo, by omega⟩, ?_⟩
  intro r wc hwc
  have hwc : if okN (xs (nI i + 1).toNatClampNeg) (nI t) then r = nI t + (xs (nI i + 1).toNatClampNeg) ∧ wc = (0, oCW (nI t + (xs (nI i + 1).toNatClampNeg))) :: wCBs de (wsF (cmJ de pe lp im) b (nI t + (xs (nI i + 1).toNatClampNeg)) 150 (nxF (cmJ de pe lp im) (nI t) (5 * b)) s) pb pl pe pt lp im (nI k) (nI b) else r = -1 ∧ wc = (0, oCW (nI t)) :: wCBs de s pb pl pe pt lp im (nI k) (nI b) := hwc b s.2.2.2 rfl hb rfl (by omega)
  by_cases q : okN (xs (nI i + 1).toNatClampNeg) (nI t)
  · rw [if_pos q] at hwc
    obtain ⟨x, hx, hxt⟩ := okN_nat ht q
    rw [hx, nIa, step_tie hk hb hbo hde x s hxt] at hwc
    obtain ⟨hr, rfl⟩ := hwc
    have e1 : rz_back ((0, oCW (nI t)) :: (wLk px py ph rx ry vi spx (nI g) (nI h) ++ (wSg fx fy mi ax ay bx b2 (nI n) ++ (wSh a b0 c ex ey tx lx ty ly co ++ (wPl fi se mj tk le bo rg tp la (nI z) (nI m) sp ++ (wBo pb pl pe pt lp im (nI k) (nI b) ++ (wCl de s.1 s.2.1 s.2.2.1 (nI s.2.2.2) ++ wM (oMo th (nI g) (nI h) (nI t) (nI n) (nI z) (nI m) (nI b) (nI k) (nI s.2.2.2) sp co2) px py ph rx ry vi sg fi se tk pa im de s.1 s.2.1 s.2.2.1 A B C X Y D bx9 ou))))))) ((0, oCW (nI (t + x))) :: wCBs de (spF pa im de k b t s x) pb pl pe pt lp im (nI k) (nI b)) = (0, oCW (nI (t + x))) :: (wLk px py ph rx ry vi spx (nI g) (nI h) ++ (wSg fx fy mi ax ay bx b2 (nI n) ++ (wSh a b0 c ex ey tx lx ty ly co ++ (wPl fi se mj tk le bo rg tp la (nI z) (nI m) sp ++ (wBo pb pl pe pt lp im (nI k) (nI b) ++ (wCl de (spF pa im de k b t s x).1 (spF pa im de k b t s x).2.1 (spF pa im de k b t s x).2.2.1 (nI (spF pa im de k b t s x).2.2.2) ++ wM (oMo th (nI g) (nI h) (nI t) (nI n) (nI z) (nI m) (nI b) (nI k) (nI s.2.2.2) sp co2) px py ph rx ry vi sg fi se tk pa im de s.1 s.2.1 s.2.2.1 A B C X Y D bx9 ou)))))) := bkFE (F' := wCl de (spF pa im de k b t s x).1 (spF pa im de k b t s x).2.1 (spF pa im de k b t s x).2.2.1 (nI (spF pa im de k b t s x).2.2.2)) (E' := wBo pb pl pe pt lp im (nI k) (nI b)) rfl rfl rfl rfl rfl rfl rfl rfl
    rw [e1]
    conv => whnf
    refine ⟨v1, rfl, ?_⟩
    conv => whnf
    refine ⟨show cs + 0 + 0 ≤ 601024 by omega, show sl + 0 + 0 ≤ 7293034 by omega, ?_⟩
    conv => whnf
    refine ⟨⟨pa, im, de, s, th, nI g, nI h, nI n, nI z, nI m, sp, co2, _, k, b, t, rfl, rfl, hk, hb, ht, by omega⟩, ?_⟩
    intro r2 wd hwd
    have hwd : if okN (xs (nI i + 1).toNatClampNeg) (nI t) then r2 = nI t + (xs (nI i + 1).toNatClampNeg) ∧ wd = wMl (oMo 0 (nI g) (nI h) (nI t + (xs (nI i + 1).toNatClampNeg)) (nI n) (nI z) (nI m) (nI b) (nI k) (nI (spF pa im de k b t s (xs (nI i + 1).toNatClampNeg).toNatClampNeg).2.2.2) sp co2) pa im de (spF pa im de k b t s (xs (nI i + 1).toNatClampNeg).toNatClampNeg).1 (spF pa im de k b t s (xs (nI i + 1).toNatClampNeg).toNatClampNeg).2.1 (spF pa im de k b t s (xs (nI i + 1).toNatClampNeg).toNatClampNeg).2.2.1 else r2 = -1 ∧ wd = wMl (oMo 0 (nI g) (nI h) (nI t) (nI n) (nI z) (nI m) (nI b) (nI k) (nI s.2.2.2) sp co2) pa im de s.1 s.2.1 s.2.2.1 := hwd k b t s.2.2.2 rfl hk rfl hb rfl ht rfl (by omega)
    rw [if_pos q] at hwd
    rw [hx, nIa, nI_clamp (by omega)] at hwd
    obtain ⟨hr2, rfl⟩ := hwd
    have hsn := spF_n pa im de k b t s hb x
    have m2 : rz_back (wM (oMo th (nI g) (nI h) (nI t) (nI n) (nI z) (nI m) (nI b) (nI k) (nI s.2.2.2) sp co2) px py ph rx ry vi sg fi se tk pa im de s.1 s.2.1 s.2.2.1 A B C X Y D bx9 ou) (wMl (oMo 0 (nI g) (nI h) (nI (t + x)) (nI n) (nI z) (nI m) (nI b) (nI k) (nI (spF pa im de k b t s x).2.2.2) sp co2) pa im de (spF pa im de k b t s x).1 (spF pa im de k b t s x).2.1 (spF pa im de k b t s x).2.2.1) = wM (oMo 0 (nI g) (nI h) (nI (t + x)) (nI n) (nI z) (nI m) (nI b) (nI k) (nI (spF pa im de k b t s x).2.2.2) sp co2) px py ph rx ry vi sg fi se tk pa im de (spF pa im de k b t s x).1 (spF pa im de k b t s x).2.1 (spF pa im de k b t s x).2.2.1 A B C X Y D bx9 ou := rfl
    have e2 : rz_back ((0, oCW (nI (t + x))) :: (wLk px py ph rx ry vi spx (nI g) (nI h) ++ (wSg fx fy mi ax ay bx b2 (nI n) ++ (wSh a b0 c ex ey tx lx ty ly co ++ (wPl fi se mj tk le bo rg tp la (nI z) (nI m) sp ++ (wBo pb pl pe pt lp im (nI k) (nI b) ++ (wCl de (spF pa im de k b t s x).1 (spF pa im de k b t s x).2.1 (spF pa im de k b t s x).2.2.1 (nI (spF pa im de k b t s x).2.2.2) ++ wM (oMo th (nI g) (nI h) (nI t) (nI n) (nI z) (nI m) (nI b) (nI k) (nI s.2.2.2) sp co2) px py ph rx ry vi sg fi se tk pa im de s.1 s.2.1 s.2.2.1 A B C X Y D bx9 ou))))))) (wMl (oMo 0 (nI g) (nI h) (nI (t + x)) (nI n) (nI z) (nI m) (nI b) (nI k) (nI (spF pa im de k b t s x).2.2.2) sp co2) pa im de (spF pa im de k b t s x).1 (spF pa im de k b t s x).2.1 (spF pa im de k b t s x).2.2.1) = (0, oCW (nI (t + x))) :: (wLk px py ph rx ry vi spx (nI g) (nI h) ++ (wSg fx fy mi ax ay bx b2 (nI n) ++ (wSh a b0 c ex ey tx lx ty ly co ++ (wPl fi se mj tk le bo rg tp la (nI z) (nI m) sp ++ (wBo pb pl pe pt lp im (nI k) (nI b) ++ (wCl de (spF pa im de k b t s x).1 (spF pa im de k b t s x).2.1 (spF pa im de k b t s x).2.2.1 (nI (spF pa im de k b t s x).2.2.2) ++ wM (oMo 0 (nI g) (nI h) (nI (t + x)) (nI n) (nI z) (nI m) (nI b) (nI k) (nI (spF pa im de k b t s x).2.2.2) sp co2) px py ph rx ry vi sg fi se tk pa im de (spF pa im de k b t s x).1 (spF pa im de k b t s x).2.1 (spF pa im de k b t s x).2.2.1 A B C X Y D bx9 ou)))))) := by
      rw [← m2]
      exact bkM (ks := [50, 61, 62, 63, 64, 65, 66]) rfl rfl rfl rfl rfl rfl rfl (by decide)
    rw [e2]
    conv => whnf
    refine ⟨fun _ => ?_, fun y9 => absurd (hr.trans hr2.symm) y9⟩
    conv => whnf
    refine ⟨0, Nat.zero_lt_one, px, py, ph, rx, ry, vi, spx, fx, fy, mi, ax, ay, bx, b2, fi, se, mj, tk, le, bo, rg, tp, la, pb, pl, pe, pt, lp, im, de, sg, pa, spF pa im de k b t s x, a, b0, c, ex, ey, tx, lx, ty, ly, A, B, C, X, Y, D, bx9, ou, t + x, g, h, n, z, m, k, b, sp, co, 0, co2, rfl, rfl, ⟨⟨hxt, hg, hh, hn, hz, hm, hk, hb, (show (spF pa im de k b t s x).2.2.2 ≤ 150 * (t + x) by omega)⟩, hpo, sgI_mono hsg (by omega), hpl, boI_mono hbo (by omega), hde⟩, show cs + 0 + 0 ≤ 74 + i + 1 by omega, show sl + 0 + 0 ≤ 5741 + 6 * (i + 1) by omega⟩
  · rw [if_neg q] at hwc
    obtain ⟨hr, rfl⟩ := hwc
    have e1 : rz_back ((0, oCW (nI t)) :: (wLk px py ph rx ry vi spx (nI g) (nI h) ++ (wSg fx fy mi ax ay bx b2 (nI n) ++ (wSh a b0 c ex ey tx lx ty ly co ++ (wPl fi se mj tk le bo rg tp la (nI z) (nI m) sp ++ (wBo pb pl pe pt lp im (nI k) (nI b) ++ (wCl de s.1 s.2.1 s.2.2.1 (nI s.2.2.2) ++ wM (oMo th (nI g) (nI h) (nI t) (nI n) (nI z) (nI m) (nI b) (nI k) (nI s.2.2.2) sp co2) px py ph rx ry vi sg fi se tk pa im de s.1 s.2.1 s.2.2.1 A B C X Y D bx9 ou))))))) ((0, oCW (nI t)) :: wCBs de s pb pl pe pt lp im (nI k) (nI b)) = (0, oCW (nI t)) :: (wLk px py ph rx ry vi spx (nI g) (nI h) ++ (wSg fx fy mi ax ay bx b2 (nI n) ++ (wSh a b0 c ex ey tx lx ty ly co ++ (wPl fi se mj tk le bo rg tp la (nI z) (nI m) sp ++ (wBo pb pl pe pt lp im (nI k) (nI b) ++ (wCl de s.1 s.2.1 s.2.2.1 (nI s.2.2.2) ++ wM (oMo th (nI g) (nI h) (nI t) (nI n) (nI z) (nI m) (nI b) (nI k) (nI s.2.2.2) sp co2) px py ph rx ry vi sg fi se tk pa im de s.1 s.2.1 s.2.2.1 A B C X Y D bx9 ou)))))) := bkFE (F' := wCl de s.1 s.2.1 s.2.2.1 (nI s.2.2.2)) (E' := wBo pb pl pe pt lp im (nI k) (nI b)) rfl rfl rfl rfl rfl rfl rfl rfl
    rw [e1]
    conv => whnf
    refine ⟨v1, rfl, ?_⟩
    conv => whnf
    refine ⟨show cs + 0 + 0 ≤ 601024 by omega, show sl + 0 + 0 ≤ 7293034 by omega, ?_⟩
    conv => whnf
    refine ⟨⟨pa, im, de, s, th, nI g, nI h, nI n, nI z, nI m, sp, co2, _, k, b, t, rfl, rfl, hk, hb, ht, by omega⟩, ?_⟩
    intro r2 wd hwd
    have hwd : if okN (xs (nI i + 1).toNatClampNeg) (nI t) then r2 = nI t + (xs (nI i + 1).toNatClampNeg) ∧ wd = wMl (oMo 0 (nI g) (nI h) (nI t + (xs (nI i + 1).toNatClampNeg)) (nI n) (nI z) (nI m) (nI b) (nI k) (nI (spF pa im de k b t s (xs (nI i + 1).toNatClampNeg).toNatClampNeg).2.2.2) sp co2) pa im de (spF pa im de k b t s (xs (nI i + 1).toNatClampNeg).toNatClampNeg).1 (spF pa im de k b t s (xs (nI i + 1).toNatClampNeg).toNatClampNeg).2.1 (spF pa im de k b t s (xs (nI i + 1).toNatClampNeg).toNatClampNeg).2.2.1 else r2 = -1 ∧ wd = wMl (oMo 0 (nI g) (nI h) (nI t) (nI n) (nI z) (nI m) (nI b) (nI k) (nI s.2.2.2) sp co2) pa im de s.1 s.2.1 s.2.2.1 := hwd k b t s.2.2.2 rfl hk rfl hb rfl ht rfl (by omega)
    rw [if_neg q] at hwd
    obtain ⟨hr2, rfl⟩ := hwd
    have m2 : rz_back (wM (oMo th (nI g) (nI h) (nI t) (nI n) (nI z) (nI m) (nI b) (nI k) (nI s.2.2.2) sp co2) px py ph rx ry vi sg fi se tk pa im de s.1 s.2.1 s.2.2.1 A B C X Y D bx9 ou) (wMl (oMo 0 (nI g) (nI h) (nI t) (nI n) (nI z) (nI m) (nI b) (nI k) (nI s.2.2.2) sp co2) pa im de s.1 s.2.1 s.2.2.1) = wM (oMo 0 (nI g) (nI h) (nI t) (nI n) (nI z) (nI m) (nI b) (nI k) (nI s.2.2.2) sp co2) px py ph rx ry vi sg fi se tk pa im de s.1 s.2.1 s.2.2.1 A B C X Y D bx9 ou := rfl
    have e2 : rz_back ((0, oCW (nI t)) :: (wLk px py ph rx ry vi spx (nI g) (nI h) ++ (wSg fx fy mi ax ay bx b2 (nI n) ++ (wSh a b0 c ex ey tx lx ty ly co ++ (wPl fi se mj tk le bo rg tp la (nI z) (nI m) sp ++ (wBo pb pl pe pt lp im (nI k) (nI b) ++ (wCl de s.1 s.2.1 s.2.2.1 (nI s.2.2.2) ++ wM (oMo th (nI g) (nI h) (nI t) (nI n) (nI z) (nI m) (nI b) (nI k) (nI s.2.2.2) sp co2) px py ph rx ry vi sg fi se tk pa im de s.1 s.2.1 s.2.2.1 A B C X Y D bx9 ou))))))) (wMl (oMo 0 (nI g) (nI h) (nI t) (nI n) (nI z) (nI m) (nI b) (nI k) (nI s.2.2.2) sp co2) pa im de s.1 s.2.1 s.2.2.1) = (0, oCW (nI t)) :: (wLk px py ph rx ry vi spx (nI g) (nI h) ++ (wSg fx fy mi ax ay bx b2 (nI n) ++ (wSh a b0 c ex ey tx lx ty ly co ++ (wPl fi se mj tk le bo rg tp la (nI z) (nI m) sp ++ (wBo pb pl pe pt lp im (nI k) (nI b) ++ (wCl de s.1 s.2.1 s.2.2.1 (nI s.2.2.2) ++ wM (oMo 0 (nI g) (nI h) (nI t) (nI n) (nI z) (nI m) (nI b) (nI k) (nI s.2.2.2) sp co2) px py ph rx ry vi sg fi se tk pa im de s.1 s.2.1 s.2.2.1 A B C X Y D bx9 ou)))))) := by
      rw [← m2]
      exact bkM (ks := [50, 61, 62, 63, 64, 65, 66]) rfl rfl rfl rfl rfl rfl rfl (by decide)
    rw [e2]
    conv => whnf
    refine ⟨fun _ => ?_, fun y9 => absurd (hr.trans hr2.symm) y9⟩
    conv => whnf
    refine ⟨0, Nat.zero_lt_one, px, py, ph, rx, ry, vi, spx, fx, fy, mi, ax, ay, bx, b2, fi, se, mj, tk, le, bo, rg, tp, la, pb, pl, pe, pt, lp, im, de, sg, pa, s, a, b0, c, ex, ey, tx, lx, ty, ly, A, B, C, X, Y, D, bx9, ou, t, g, h, n, z, m, k, b, sp, co, 0, co2, rfl, rfl, ⟨⟨ht, hg, hh, hn, hz, hm, hk, hb, hq⟩, hpo, hsg, hpl, hbo, hde⟩, show cs + 0 + 0 ≤ 74 + i + 1 by omega, show sl + 0 + 0 ≤ 5741 + 6 * (i + 1) by omega⟩
