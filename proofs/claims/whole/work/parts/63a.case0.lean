/-! The law: case 0. -/
set_option maxHeartbeats 8000000 in
set_option maxRecDepth 20000 in
theorem lw_c0 {L : Nat} {xs : Nat → Int32} (hL : L ≤ 3072) {i : Nat} (hi : i + 6 ≤ L) {lv : rz_L} {w : rz_W} {cs sl : Nat} (hJ : LI i 0 lv w cs sl) : rz_xrun L xs ksL x_df [] ck_l0 xa_l0 k_l0 [] [] [] [] true 601024 7293034 (J50 i) (fun _ _ => False) 1 120 140 lv [] w cs sl := by
  obtain ⟨px, py, ph, rx, ry, vi, spx, fx, fy, mi, ax, ay, bx, b2, fi, se, mj, tk, le, bo, rg, tp, la, pb, pl, pe, pt, lp, im, de, sg, pa, s, a, b0, c, ex, ey, tx, lx, ty, ly, A, B, C, X, Y, D, bx9, ou, t, g, h, n, z, m, k, b, sp, co, th, co2, rfl, rfl, ⟨⟨ht, hg, hh, hn, hz, hm, hk, hb, hq⟩, hpo, hsg, hpl, hbo, hde⟩, hcs, hsl⟩ := hJ
  have v1 : vp_in (nI i + 1) L := vL hL hi 1 (by omega)
  have v2 : vp_in (nI i + 2) L := vL hL hi 2 (by omega)
  have v3 : vp_in (nI i + 3) L := vL hL hi 3 (by omega)
  have v4 : vp_in (nI i + 4) L := vL hL hi 4 (by omega)
  have v5 : vp_in (nI i + 5) L := vL hL hi 5 (by omega)
  conv => whnf
  refine ⟨v1, rfl, ?_⟩
  conv => whnf
  refine ⟨v2, rfl, ?_⟩
  conv => whnf
  refine ⟨v3, rfl, ?_⟩
  conv => whnf
  refine ⟨show cs + 0 ≤ 601024 by omega, show sl + 0 ≤ 7293034 by omega, ?_⟩
  conv => whnf
  refine ⟨⟨px, py, ph, rx, ry, vi, spx, nI t, nI h, _, _, _, g, rfl, rfl, hg⟩, ?_⟩
  intro r wc hwc
  have hwc : if okP (xs (nI i + 1).toNatClampNeg) (xs (nI i + 2).toNatClampNeg) ∧ okH (xs (nI i + 3).toNatClampNeg) ∧ g < 6 then r = nI g ∧ wc = (0, oCW (nI t)) :: wLk (upd px g (xs (nI i + 1).toNatClampNeg)) (upd py g (xs (nI i + 2).toNatClampNeg)) (upd ph g (xs (nI i + 3).toNatClampNeg)) rx ry vi spx (nI (g + 1)) (nI h) else r = -1 ∧ wc = (0, oCW (nI t)) :: wLk px py ph rx ry vi spx (nI g) (nI h) := hwc g rfl hg
  by_cases q : okP (xs (nI i + 1).toNatClampNeg) (xs (nI i + 2).toNatClampNeg) ∧ okH (xs (nI i + 3).toNatClampNeg) ∧ g < 6
  · rw [if_pos q] at hwc
    obtain ⟨rfl, rfl⟩ := hwc
    have e1 : rz_back ((0, oCW (nI t)) :: (wLk px py ph rx ry vi spx (nI g) (nI h) ++ (wSg fx fy mi ax ay bx b2 (nI n) ++ (wSh a b0 c ex ey tx lx ty ly co ++ (wPl fi se mj tk le bo rg tp la (nI z) (nI m) sp ++ (wBo pb pl pe pt lp im (nI k) (nI b) ++ (wCl de s.1 s.2.1 s.2.2.1 (nI s.2.2.2) ++ wM (oMo th (nI g) (nI h) (nI t) (nI n) (nI z) (nI m) (nI b) (nI k) (nI s.2.2.2) sp co2) px py ph rx ry vi sg fi se tk pa im de s.1 s.2.1 s.2.2.1 A B C X Y D bx9 ou))))))) ((0, oCW (nI t)) :: wLk (upd px g (xs (nI i + 1).toNatClampNeg)) (upd py g (xs (nI i + 2).toNatClampNeg)) (upd ph g (xs (nI i + 3).toNatClampNeg)) rx ry vi spx (nI (g + 1)) (nI h)) = (0, oCW (nI t)) :: (wLk (upd px g (xs (nI i + 1).toNatClampNeg)) (upd py g (xs (nI i + 2).toNatClampNeg)) (upd ph g (xs (nI i + 3).toNatClampNeg)) rx ry vi spx (nI (g + 1)) (nI h) ++ (wSg fx fy mi ax ay bx b2 (nI n) ++ (wSh a b0 c ex ey tx lx ty ly co ++ (wPl fi se mj tk le bo rg tp la (nI z) (nI m) sp ++ (wBo pb pl pe pt lp im (nI k) (nI b) ++ (wCl de s.1 s.2.1 s.2.2.1 (nI s.2.2.2) ++ wM (oMo th (nI g) (nI h) (nI t) (nI n) (nI z) (nI m) (nI b) (nI k) (nI s.2.2.2) sp co2) px py ph rx ry vi sg fi se tk pa im de s.1 s.2.1 s.2.2.1 A B C X Y D bx9 ou)))))) := bkA rfl rfl
    rw [e1]
    conv => whnf
    refine ⟨v1, rfl, ?_⟩
    conv => whnf
    refine ⟨v2, rfl, ?_⟩
    conv => whnf
    refine ⟨v3, rfl, ?_⟩
    conv => whnf
    refine ⟨show cs + 0 + 0 ≤ 601024 by omega, show sl + 0 + 0 ≤ 7293034 by omega, ?_⟩
    conv => whnf
    refine ⟨⟨px, py, ph, rx, ry, vi, th, nI h, nI t, nI n, nI z, nI m, nI b, nI k, nI s.2.2.2, sp, co2, _, _, _, g, rfl, rfl, hg⟩, ?_⟩
    intro r2 wd hwd
    have hwd : if okP (xs (nI i + 1).toNatClampNeg) (xs (nI i + 2).toNatClampNeg) ∧ okH (xs (nI i + 3).toNatClampNeg) ∧ g < 6 then r2 = nI g ∧ wd = wMk (oMo 0 (nI (g + 1)) (nI h) (nI t) (nI n) (nI z) (nI m) (nI b) (nI k) (nI s.2.2.2) sp co2) (upd px g (xs (nI i + 1).toNatClampNeg)) (upd py g (xs (nI i + 2).toNatClampNeg)) (upd ph g (xs (nI i + 3).toNatClampNeg)) rx ry vi else r2 = -1 ∧ wd = wMk (oMo 0 (nI g) (nI h) (nI t) (nI n) (nI z) (nI m) (nI b) (nI k) (nI s.2.2.2) sp co2) px py ph rx ry vi := hwd g rfl hg
    rw [if_pos q] at hwd
    obtain ⟨rfl, rfl⟩ := hwd
    have m2 : rz_back (wM (oMo th (nI g) (nI h) (nI t) (nI n) (nI z) (nI m) (nI b) (nI k) (nI s.2.2.2) sp co2) px py ph rx ry vi sg fi se tk pa im de s.1 s.2.1 s.2.2.1 A B C X Y D bx9 ou) (wMk (oMo 0 (nI (g + 1)) (nI h) (nI t) (nI n) (nI z) (nI m) (nI b) (nI k) (nI s.2.2.2) sp co2) (upd px g (xs (nI i + 1).toNatClampNeg)) (upd py g (xs (nI i + 2).toNatClampNeg)) (upd ph g (xs (nI i + 3).toNatClampNeg)) rx ry vi) = wM (oMo 0 (nI (g + 1)) (nI h) (nI t) (nI n) (nI z) (nI m) (nI b) (nI k) (nI s.2.2.2) sp co2) (upd px g (xs (nI i + 1).toNatClampNeg)) (upd py g (xs (nI i + 2).toNatClampNeg)) (upd ph g (xs (nI i + 3).toNatClampNeg)) rx ry vi sg fi se tk pa im de s.1 s.2.1 s.2.2.1 A B C X Y D bx9 ou := rfl
    have e2 : rz_back ((0, oCW (nI t)) :: (wLk (upd px g (xs (nI i + 1).toNatClampNeg)) (upd py g (xs (nI i + 2).toNatClampNeg)) (upd ph g (xs (nI i + 3).toNatClampNeg)) rx ry vi spx (nI (g + 1)) (nI h) ++ (wSg fx fy mi ax ay bx b2 (nI n) ++ (wSh a b0 c ex ey tx lx ty ly co ++ (wPl fi se mj tk le bo rg tp la (nI z) (nI m) sp ++ (wBo pb pl pe pt lp im (nI k) (nI b) ++ (wCl de s.1 s.2.1 s.2.2.1 (nI s.2.2.2) ++ wM (oMo th (nI g) (nI h) (nI t) (nI n) (nI z) (nI m) (nI b) (nI k) (nI s.2.2.2) sp co2) px py ph rx ry vi sg fi se tk pa im de s.1 s.2.1 s.2.2.1 A B C X Y D bx9 ou))))))) (wMk (oMo 0 (nI (g + 1)) (nI h) (nI t) (nI n) (nI z) (nI m) (nI b) (nI k) (nI s.2.2.2) sp co2) (upd px g (xs (nI i + 1).toNatClampNeg)) (upd py g (xs (nI i + 2).toNatClampNeg)) (upd ph g (xs (nI i + 3).toNatClampNeg)) rx ry vi) = (0, oCW (nI t)) :: (wLk (upd px g (xs (nI i + 1).toNatClampNeg)) (upd py g (xs (nI i + 2).toNatClampNeg)) (upd ph g (xs (nI i + 3).toNatClampNeg)) rx ry vi spx (nI (g + 1)) (nI h) ++ (wSg fx fy mi ax ay bx b2 (nI n) ++ (wSh a b0 c ex ey tx lx ty ly co ++ (wPl fi se mj tk le bo rg tp la (nI z) (nI m) sp ++ (wBo pb pl pe pt lp im (nI k) (nI b) ++ (wCl de s.1 s.2.1 s.2.2.1 (nI s.2.2.2) ++ wM (oMo 0 (nI (g + 1)) (nI h) (nI t) (nI n) (nI z) (nI m) (nI b) (nI k) (nI s.2.2.2) sp co2) (upd px g (xs (nI i + 1).toNatClampNeg)) (upd py g (xs (nI i + 2).toNatClampNeg)) (upd ph g (xs (nI i + 3).toNatClampNeg)) rx ry vi sg fi se tk pa im de s.1 s.2.1 s.2.2.1 A B C X Y D bx9 ou)))))) := by
      rw [← m2]
      exact bkM (ks := [50, 51, 52, 53, 54, 55, 56]) rfl rfl rfl rfl rfl rfl rfl (by decide)
    rw [e2]
    conv => whnf
    refine ⟨fun _ => ?_, fun y9 => absurd (rfl) y9⟩
    conv => whnf
    refine ⟨0, Nat.zero_lt_one, upd px g (xs (nI i + 1).toNatClampNeg), upd py g (xs (nI i + 2).toNatClampNeg), upd ph g (xs (nI i + 3).toNatClampNeg), rx, ry, vi, spx, fx, fy, mi, ax, ay, bx, b2, fi, se, mj, tk, le, bo, rg, tp, la, pb, pl, pe, pt, lp, im, de, sg, pa, s, a, b0, c, ex, ey, tx, lx, ty, ly, A, B, C, X, Y, D, bx9, ou, t, g + 1, h, n, z, m, k, b, sp, co, 0, co2, rfl, rfl, ⟨⟨ht, q.2.2, hh, hn, hz, hm, hk, hb, hq⟩, poI_s hpo q.1, sgI_post hsg hg, plI_post hsg hg hn hpl, hbo, hde⟩, show cs + 0 + 0 ≤ 74 + i + 1 by omega, show sl + 0 + 0 ≤ 5741 + 6 * (i + 1) by omega⟩
  · rw [if_neg q] at hwc
    obtain ⟨rfl, rfl⟩ := hwc
    have e1 : rz_back ((0, oCW (nI t)) :: (wLk px py ph rx ry vi spx (nI g) (nI h) ++ (wSg fx fy mi ax ay bx b2 (nI n) ++ (wSh a b0 c ex ey tx lx ty ly co ++ (wPl fi se mj tk le bo rg tp la (nI z) (nI m) sp ++ (wBo pb pl pe pt lp im (nI k) (nI b) ++ (wCl de s.1 s.2.1 s.2.2.1 (nI s.2.2.2) ++ wM (oMo th (nI g) (nI h) (nI t) (nI n) (nI z) (nI m) (nI b) (nI k) (nI s.2.2.2) sp co2) px py ph rx ry vi sg fi se tk pa im de s.1 s.2.1 s.2.2.1 A B C X Y D bx9 ou))))))) ((0, oCW (nI t)) :: wLk px py ph rx ry vi spx (nI g) (nI h)) = (0, oCW (nI t)) :: (wLk px py ph rx ry vi spx (nI g) (nI h) ++ (wSg fx fy mi ax ay bx b2 (nI n) ++ (wSh a b0 c ex ey tx lx ty ly co ++ (wPl fi se mj tk le bo rg tp la (nI z) (nI m) sp ++ (wBo pb pl pe pt lp im (nI k) (nI b) ++ (wCl de s.1 s.2.1 s.2.2.1 (nI s.2.2.2) ++ wM (oMo th (nI g) (nI h) (nI t) (nI n) (nI z) (nI m) (nI b) (nI k) (nI s.2.2.2) sp co2) px py ph rx ry vi sg fi se tk pa im de s.1 s.2.1 s.2.2.1 A B C X Y D bx9 ou)))))) := bkA rfl rfl
    rw [e1]
    conv => whnf
    refine ⟨v1, rfl, ?_⟩
    conv => whnf
    refine ⟨v2, rfl, ?_⟩
    conv => whnf
    refine ⟨v3, rfl, ?_⟩
    conv => whnf
    refine ⟨show cs + 0 + 0 ≤ 601024 by omega, show sl + 0 + 0 ≤ 7293034 by omega, ?_⟩
    conv => whnf
    refine ⟨⟨px, py, ph, rx, ry, vi, th, nI h, nI t, nI n, nI z, nI m, nI b, nI k, nI s.2.2.2, sp, co2, _, _, _, g, rfl, rfl, hg⟩, ?_⟩
    intro r2 wd hwd
    have hwd : if okP (xs (nI i + 1).toNatClampNeg) (xs (nI i + 2).toNatClampNeg) ∧ okH (xs (nI i + 3).toNatClampNeg) ∧ g < 6 then r2 = nI g ∧ wd = wMk (oMo 0 (nI (g + 1)) (nI h) (nI t) (nI n) (nI z) (nI m) (nI b) (nI k) (nI s.2.2.2) sp co2) (upd px g (xs (nI i + 1).toNatClampNeg)) (upd py g (xs (nI i + 2).toNatClampNeg)) (upd ph g (xs (nI i + 3).toNatClampNeg)) rx ry vi else r2 = -1 ∧ wd = wMk (oMo 0 (nI g) (nI h) (nI t) (nI n) (nI z) (nI m) (nI b) (nI k) (nI s.2.2.2) sp co2) px py ph rx ry vi := hwd g rfl hg
    rw [if_neg q] at hwd
    obtain ⟨rfl, rfl⟩ := hwd
    have m2 : rz_back (wM (oMo th (nI g) (nI h) (nI t) (nI n) (nI z) (nI m) (nI b) (nI k) (nI s.2.2.2) sp co2) px py ph rx ry vi sg fi se tk pa im de s.1 s.2.1 s.2.2.1 A B C X Y D bx9 ou) (wMk (oMo 0 (nI g) (nI h) (nI t) (nI n) (nI z) (nI m) (nI b) (nI k) (nI s.2.2.2) sp co2) px py ph rx ry vi) = wM (oMo 0 (nI g) (nI h) (nI t) (nI n) (nI z) (nI m) (nI b) (nI k) (nI s.2.2.2) sp co2) px py ph rx ry vi sg fi se tk pa im de s.1 s.2.1 s.2.2.1 A B C X Y D bx9 ou := rfl
    have e2 : rz_back ((0, oCW (nI t)) :: (wLk px py ph rx ry vi spx (nI g) (nI h) ++ (wSg fx fy mi ax ay bx b2 (nI n) ++ (wSh a b0 c ex ey tx lx ty ly co ++ (wPl fi se mj tk le bo rg tp la (nI z) (nI m) sp ++ (wBo pb pl pe pt lp im (nI k) (nI b) ++ (wCl de s.1 s.2.1 s.2.2.1 (nI s.2.2.2) ++ wM (oMo th (nI g) (nI h) (nI t) (nI n) (nI z) (nI m) (nI b) (nI k) (nI s.2.2.2) sp co2) px py ph rx ry vi sg fi se tk pa im de s.1 s.2.1 s.2.2.1 A B C X Y D bx9 ou))))))) (wMk (oMo 0 (nI g) (nI h) (nI t) (nI n) (nI z) (nI m) (nI b) (nI k) (nI s.2.2.2) sp co2) px py ph rx ry vi) = (0, oCW (nI t)) :: (wLk px py ph rx ry vi spx (nI g) (nI h) ++ (wSg fx fy mi ax ay bx b2 (nI n) ++ (wSh a b0 c ex ey tx lx ty ly co ++ (wPl fi se mj tk le bo rg tp la (nI z) (nI m) sp ++ (wBo pb pl pe pt lp im (nI k) (nI b) ++ (wCl de s.1 s.2.1 s.2.2.1 (nI s.2.2.2) ++ wM (oMo 0 (nI g) (nI h) (nI t) (nI n) (nI z) (nI m) (nI b) (nI k) (nI s.2.2.2) sp co2) px py ph rx ry vi sg fi se tk pa im de s.1 s.2.1 s.2.2.1 A B C X Y D bx9 ou)))))) := by
      rw [← m2]
      exact bkM (ks := [50, 51, 52, 53, 54, 55, 56]) rfl rfl rfl rfl rfl rfl rfl (by decide)
    rw [e2]
    conv => whnf
    refine ⟨fun _ => ?_, fun y9 => absurd (rfl) y9⟩
    conv => whnf
    refine ⟨0, Nat.zero_lt_one, px, py, ph, rx, ry, vi, spx, fx, fy, mi, ax, ay, bx, b2, fi, se, mj, tk, le, bo, rg, tp, la, pb, pl, pe, pt, lp, im, de, sg, pa, s, a, b0, c, ex, ey, tx, lx, ty, ly, A, B, C, X, Y, D, bx9, ou, t, g, h, n, z, m, k, b, sp, co, 0, co2, rfl, rfl, ⟨⟨ht, hg, hh, hn, hz, hm, hk, hb, hq⟩, hpo, hsg, hpl, hbo, hde⟩, show cs + 0 + 0 ≤ 74 + i + 1 by omega, show sl + 0 + 0 ≤ 5741 + 6 * (i + 1) by omega⟩
