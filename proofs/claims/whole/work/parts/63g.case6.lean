/-! The law: case 6. -/
set_option maxHeartbeats 8000000 in
set_option maxRecDepth 20000 in
theorem lw_c6 {L : Nat} {xs : Nat → Int32} (hL : L ≤ 3072) {i : Nat} (hi : i + 6 ≤ L) {lv : rz_L} {w : rz_W} {cs sl : Nat} (hJ : LI i 0 lv w cs sl) : rz_xrun L xs ksL x_df [] ck_l6 xa_l6 k_l6 [] [] [] [] true 601024 7293034 (J50 i) (fun _ _ => False) 1 120 374 lv [] w cs sl := by
  obtain ⟨px, py, ph, rx, ry, vi, spx, fx, fy, mi, ax, ay, bx, b2, fi, se, mj, tk, le, bo, rg, tp, la, pb, pl, pe, pt, lp, im, de, sg, pa, s, a, b0, c, ex, ey, tx, lx, ty, ly, A, B, C, X, Y, D, bx9, ou, t, g, h, n, z, m, k, b, sp, co, th, co2, rfl, rfl, ⟨⟨ht, hg, hh, hn, hz, hm, hk, hb, hq⟩, hpo, hsg, hpl, hbo, hde⟩, hcs, hsl⟩ := hJ
  have v1 : vp_in (nI i + 1) L := vL hL hi 1 (by omega)
  have v2 : vp_in (nI i + 2) L := vL hL hi 2 (by omega)
  have v3 : vp_in (nI i + 3) L := vL hL hi 3 (by omega)
  have v4 : vp_in (nI i + 4) L := vL hL hi 4 (by omega)
  have v5 : vp_in (nI i + 5) L := vL hL hi 5 (by omega)
  conv => whnf
  refine ⟨v1, rfl, ?_⟩
  conv => whnf
  refine ⟨v2, rfl, ?_⟩
  conv => whnf
  refine ⟨v3, rfl, ?_⟩
  conv => whnf
  refine ⟨v4, rfl, ?_⟩
  conv => whnf
  refine ⟨v5, rfl, ?_⟩
  conv => whnf
  refine ⟨show cs + 0 ≤ 601024 by omega, show sl + 0 ≤ 7293034 by omega, ?_⟩
  conv => whnf
  refine ⟨⟨px, py, ph, rx, ry, vi, spx, fx, fy, mi, ax, ay, bx, b2, nI t, nI h, _, _, _, _, _, g, n, rfl, rfl, hg, hn⟩, ?_⟩
  intro r wc hwc
  have hwc : if okG (xs (nI i + 1).toNatClampNeg) g (xs (nI i + 2).toNatClampNeg) (xs (nI i + 3).toNatClampNeg) (xs (nI i + 4).toNatClampNeg) (xs (nI i + 5).toNatClampNeg) ∧ n < 100 then r = nI n ∧ wc = (0, oCW (nI t)) :: wLS px py ph rx ry vi spx (nI g) (nI h) (upd fx n (px (xs (nI i + 1).toNatClampNeg).toNatClampNeg)) (upd fy n (py (xs (nI i + 1).toNatClampNeg).toNatClampNeg)) (upd mi n (nI t)) (upd ax n (xs (nI i + 2).toNatClampNeg)) (upd ay n (xs (nI i + 3).toNatClampNeg)) (upd bx n (xs (nI i + 4).toNatClampNeg)) (upd b2 n (xs (nI i + 5).toNatClampNeg)) (nI (n + 1)) else r = -1 ∧ wc = (0, oCW (nI t)) :: wLS px py ph rx ry vi spx (nI g) (nI h) fx fy mi ax ay bx b2 (nI n) := hwc g n rfl hg rfl hn
  by_cases q : okG (xs (nI i + 1).toNatClampNeg) g (xs (nI i + 2).toNatClampNeg) (xs (nI i + 3).toNatClampNeg) (xs (nI i + 4).toNatClampNeg) (xs (nI i + 5).toNatClampNeg) ∧ n < 100
  · rw [if_pos q] at hwc
    obtain ⟨rfl, rfl⟩ := hwc
    have e1 : rz_back ((0, oCW (nI t)) :: (wLk px py ph rx ry vi spx (nI g) (nI h) ++ (wSg fx fy mi ax ay bx b2 (nI n) ++ (wSh a b0 c ex ey tx lx ty ly co ++ (wPl fi se mj tk le bo rg tp la (nI z) (nI m) sp ++ (wBo pb pl pe pt lp im (nI k) (nI b) ++ (wCl de s.1 s.2.1 s.2.2.1 (nI s.2.2.2) ++ wM (oMo th (nI g) (nI h) (nI t) (nI n) (nI z) (nI m) (nI b) (nI k) (nI s.2.2.2) sp co2) px py ph rx ry vi sg fi se tk pa im de s.1 s.2.1 s.2.2.1 A B C X Y D bx9 ou))))))) ((0, oCW (nI t)) :: wLS px py ph rx ry vi spx (nI g) (nI h) (upd fx n (px (xs (nI i + 1).toNatClampNeg).toNatClampNeg)) (upd fy n (py (xs (nI i + 1).toNatClampNeg).toNatClampNeg)) (upd mi n (nI t)) (upd ax n (xs (nI i + 2).toNatClampNeg)) (upd ay n (xs (nI i + 3).toNatClampNeg)) (upd bx n (xs (nI i + 4).toNatClampNeg)) (upd b2 n (xs (nI i + 5).toNatClampNeg)) (nI (n + 1))) = (0, oCW (nI t)) :: (wLk px py ph rx ry vi spx (nI g) (nI h) ++ (wSg (upd fx n (px (xs (nI i + 1).toNatClampNeg).toNatClampNeg)) (upd fy n (py (xs (nI i + 1).toNatClampNeg).toNatClampNeg)) (upd mi n (nI t)) (upd ax n (xs (nI i + 2).toNatClampNeg)) (upd ay n (xs (nI i + 3).toNatClampNeg)) (upd bx n (xs (nI i + 4).toNatClampNeg)) (upd b2 n (xs (nI i + 5).toNatClampNeg)) (nI (n + 1)) ++ (wSh a b0 c ex ey tx lx ty ly co ++ (wPl fi se mj tk le bo rg tp la (nI z) (nI m) sp ++ (wBo pb pl pe pt lp im (nI k) (nI b) ++ (wCl de s.1 s.2.1 s.2.2.1 (nI s.2.2.2) ++ wM (oMo th (nI g) (nI h) (nI t) (nI n) (nI z) (nI m) (nI b) (nI k) (nI s.2.2.2) sp co2) px py ph rx ry vi sg fi se tk pa im de s.1 s.2.1 s.2.2.1 A B C X Y D bx9 ou)))))) := bkAB (A' := wLk px py ph rx ry vi spx (nI g) (nI h)) (B' := wSg (upd fx n (px (xs (nI i + 1).toNatClampNeg).toNatClampNeg)) (upd fy n (py (xs (nI i + 1).toNatClampNeg).toNatClampNeg)) (upd mi n (nI t)) (upd ax n (xs (nI i + 2).toNatClampNeg)) (upd ay n (xs (nI i + 3).toNatClampNeg)) (upd bx n (xs (nI i + 4).toNatClampNeg)) (upd b2 n (xs (nI i + 5).toNatClampNeg)) (nI (n + 1))) rfl rfl rfl rfl
    rw [e1]
    conv => whnf
    refine ⟨v1, rfl, ?_⟩
    conv => whnf
    refine ⟨v2, rfl, ?_⟩
    conv => whnf
    refine ⟨v3, rfl, ?_⟩
    conv => whnf
    refine ⟨v4, rfl, ?_⟩
    conv => whnf
    refine ⟨v5, rfl, ?_⟩
    conv => whnf
    refine ⟨show cs + 0 + 1 ≤ 601024 by omega, show sl + 0 + 6 ≤ 7293034 by omega, ?_⟩
    conv => whnf
    refine ⟨⟨sg, th, nI h, nI t, nI z, nI m, nI b, nI k, nI s.2.2.2, sp, co2, _, _, _, _, _, g, n, rfl, rfl, hn⟩, ?_⟩
    intro r2 wd hwd
    have hwd : if okG (xs (nI i + 1).toNatClampNeg) g (xs (nI i + 2).toNatClampNeg) (xs (nI i + 3).toNatClampNeg) (xs (nI i + 4).toNatClampNeg) (xs (nI i + 5).toNatClampNeg) ∧ n < 100 then r2 = nI n ∧ wd = wMs2 (oMo 0 (nI g) (nI h) (nI t) (nI (n + 1)) (nI z) (nI m) (nI b) (nI k) (nI s.2.2.2) sp co2) (cpN (tl6 (xs (nI i + 1).toNatClampNeg) (nI t) (xs (nI i + 2).toNatClampNeg) (xs (nI i + 3).toNatClampNeg) (xs (nI i + 4).toNatClampNeg) (xs (nI i + 5).toNatClampNeg)) (6 * n) sg 6) else r2 = -1 ∧ wd = wMs2 (oMo 0 (nI g) (nI h) (nI t) (nI n) (nI z) (nI m) (nI b) (nI k) (nI s.2.2.2) sp co2) sg := hwd g n rfl hg rfl hn
    rw [if_pos q] at hwd
    obtain ⟨rfl, rfl⟩ := hwd
    have m2 : rz_back (wM (oMo th (nI g) (nI h) (nI t) (nI n) (nI z) (nI m) (nI b) (nI k) (nI s.2.2.2) sp co2) px py ph rx ry vi sg fi se tk pa im de s.1 s.2.1 s.2.2.1 A B C X Y D bx9 ou) (wMs2 (oMo 0 (nI g) (nI h) (nI t) (nI (n + 1)) (nI z) (nI m) (nI b) (nI k) (nI s.2.2.2) sp co2) (cpN (tl6 (xs (nI i + 1).toNatClampNeg) (nI t) (xs (nI i + 2).toNatClampNeg) (xs (nI i + 3).toNatClampNeg) (xs (nI i + 4).toNatClampNeg) (xs (nI i + 5).toNatClampNeg)) (6 * n) sg 6)) = wM (oMo 0 (nI g) (nI h) (nI t) (nI (n + 1)) (nI z) (nI m) (nI b) (nI k) (nI s.2.2.2) sp co2) px py ph rx ry vi (cpN (tl6 (xs (nI i + 1).toNatClampNeg) (nI t) (xs (nI i + 2).toNatClampNeg) (xs (nI i + 3).toNatClampNeg) (xs (nI i + 4).toNatClampNeg) (xs (nI i + 5).toNatClampNeg)) (6 * n) sg 6) fi se tk pa im de s.1 s.2.1 s.2.2.1 A B C X Y D bx9 ou := rfl
    have e2 : rz_back ((0, oCW (nI t)) :: (wLk px py ph rx ry vi spx (nI g) (nI h) ++ (wSg (upd fx n (px (xs (nI i + 1).toNatClampNeg).toNatClampNeg)) (upd fy n (py (xs (nI i + 1).toNatClampNeg).toNatClampNeg)) (upd mi n (nI t)) (upd ax n (xs (nI i + 2).toNatClampNeg)) (upd ay n (xs (nI i + 3).toNatClampNeg)) (upd bx n (xs (nI i + 4).toNatClampNeg)) (upd b2 n (xs (nI i + 5).toNatClampNeg)) (nI (n + 1)) ++ (wSh a b0 c ex ey tx lx ty ly co ++ (wPl fi se mj tk le bo rg tp la (nI z) (nI m) sp ++ (wBo pb pl pe pt lp im (nI k) (nI b) ++ (wCl de s.1 s.2.1 s.2.2.1 (nI s.2.2.2) ++ wM (oMo th (nI g) (nI h) (nI t) (nI n) (nI z) (nI m) (nI b) (nI k) (nI s.2.2.2) sp co2) px py ph rx ry vi sg fi se tk pa im de s.1 s.2.1 s.2.2.1 A B C X Y D bx9 ou))))))) (wMs2 (oMo 0 (nI g) (nI h) (nI t) (nI (n + 1)) (nI z) (nI m) (nI b) (nI k) (nI s.2.2.2) sp co2) (cpN (tl6 (xs (nI i + 1).toNatClampNeg) (nI t) (xs (nI i + 2).toNatClampNeg) (xs (nI i + 3).toNatClampNeg) (xs (nI i + 4).toNatClampNeg) (xs (nI i + 5).toNatClampNeg)) (6 * n) sg 6)) = (0, oCW (nI t)) :: (wLk px py ph rx ry vi spx (nI g) (nI h) ++ (wSg (upd fx n (px (xs (nI i + 1).toNatClampNeg).toNatClampNeg)) (upd fy n (py (xs (nI i + 1).toNatClampNeg).toNatClampNeg)) (upd mi n (nI t)) (upd ax n (xs (nI i + 2).toNatClampNeg)) (upd ay n (xs (nI i + 3).toNatClampNeg)) (upd bx n (xs (nI i + 4).toNatClampNeg)) (upd b2 n (xs (nI i + 5).toNatClampNeg)) (nI (n + 1)) ++ (wSh a b0 c ex ey tx lx ty ly co ++ (wPl fi se mj tk le bo rg tp la (nI z) (nI m) sp ++ (wBo pb pl pe pt lp im (nI k) (nI b) ++ (wCl de s.1 s.2.1 s.2.2.1 (nI s.2.2.2) ++ wM (oMo 0 (nI g) (nI h) (nI t) (nI (n + 1)) (nI z) (nI m) (nI b) (nI k) (nI s.2.2.2) sp co2) px py ph rx ry vi (cpN (tl6 (xs (nI i + 1).toNatClampNeg) (nI t) (xs (nI i + 2).toNatClampNeg) (xs (nI i + 3).toNatClampNeg) (xs (nI i + 4).toNatClampNeg) (xs (nI i + 5).toNatClampNeg)) (6 * n) sg 6) fi se tk pa im de s.1 s.2.1 s.2.2.1 A B C X Y D bx9 ou)))))) := by
      rw [← m2]
      exact bkM (ks := [50, 57]) rfl rfl rfl rfl rfl rfl rfl (by decide)
    rw [e2]
    conv => whnf
    refine ⟨fun _ => ?_, fun y9 => absurd (rfl) y9⟩
    conv => whnf
    refine ⟨0, Nat.zero_lt_one, px, py, ph, rx, ry, vi, spx, upd fx n (px (xs (nI i + 1).toNatClampNeg).toNatClampNeg), upd fy n (py (xs (nI i + 1).toNatClampNeg).toNatClampNeg), upd mi n (nI t), upd ax n (xs (nI i + 2).toNatClampNeg), upd ay n (xs (nI i + 3).toNatClampNeg), upd bx n (xs (nI i + 4).toNatClampNeg), upd b2 n (xs (nI i + 5).toNatClampNeg), fi, se, mj, tk, le, bo, rg, tp, la, pb, pl, pe, pt, lp, im, de, cpN (tl6 (xs (nI i + 1).toNatClampNeg) (nI t) (xs (nI i + 2).toNatClampNeg) (xs (nI i + 3).toNatClampNeg) (xs (nI i + 4).toNatClampNeg) (xs (nI i + 5).toNatClampNeg)) (6 * n) sg 6, pa, s, a, b0, c, ex, ey, tx, lx, ty, ly, A, B, C, X, Y, D, bx9, ou, t, g, h, n + 1, z, m, k, b, sp, co, 0, co2, rfl, rfl, ⟨⟨ht, hg, hh, q.2, hz, hm, hk, hb, hq⟩, hpo, sgI_sight hsg hpo hg ht q.1, plI_sight q.2 hpl, hbo, hde⟩, show cs + 0 + 1 ≤ 74 + i + 1 by omega, show sl + 0 + 6 ≤ 5741 + 6 * (i + 1) by omega⟩
  · rw [if_neg q] at hwc
    obtain ⟨rfl, rfl⟩ := hwc
    have e1 : rz_back ((0, oCW (nI t)) :: (wLk px py ph rx ry vi spx (nI g) (nI h) ++ (wSg fx fy mi ax ay bx b2 (nI n) ++ (wSh a b0 c ex ey tx lx ty ly co ++ (wPl fi se mj tk le bo rg tp la (nI z) (nI m) sp ++ (wBo pb pl pe pt lp im (nI k) (nI b) ++ (wCl de s.1 s.2.1 s.2.2.1 (nI s.2.2.2) ++ wM (oMo th (nI g) (nI h) (nI t) (nI n) (nI z) (nI m) (nI b) (nI k) (nI s.2.2.2) sp co2) px py ph rx ry vi sg fi se tk pa im de s.1 s.2.1 s.2.2.1 A B C X Y D bx9 ou))))))) ((0, oCW (nI t)) :: wLS px py ph rx ry vi spx (nI g) (nI h) fx fy mi ax ay bx b2 (nI n)) = (0, oCW (nI t)) :: (wLk px py ph rx ry vi spx (nI g) (nI h) ++ (wSg fx fy mi ax ay bx b2 (nI n) ++ (wSh a b0 c ex ey tx lx ty ly co ++ (wPl fi se mj tk le bo rg tp la (nI z) (nI m) sp ++ (wBo pb pl pe pt lp im (nI k) (nI b) ++ (wCl de s.1 s.2.1 s.2.2.1 (nI s.2.2.2) ++ wM (oMo th (nI g) (nI h) (nI t) (nI n) (nI z) (nI m) (nI b) (nI k) (nI s.2.2.2) sp co2) px py ph rx ry vi sg fi se tk pa im de s.1 s.2.1 s.2.2.1 A B C X Y D bx9 ou)))))) := bkAB (A' := wLk px py ph rx ry vi spx (nI g) (nI h)) (B' := wSg fx fy mi ax ay bx b2 (nI n)) rfl rfl rfl rfl
    rw [e1]
    conv => whnf
    refine ⟨v1, rfl, ?_⟩
    conv => whnf
    refine ⟨v2, rfl, ?_⟩
    conv => whnf
    refine ⟨v3, rfl, ?_⟩
    conv => whnf
    refine ⟨v4, rfl, ?_⟩
    conv => whnf
    refine ⟨v5, rfl, ?_⟩
    conv => whnf
    refine ⟨show cs + 0 + 1 ≤ 601024 by omega, show sl + 0 + 6 ≤ 7293034 by omega, ?_⟩
    conv => whnf
    refine ⟨⟨sg, th, nI h, nI t, nI z, nI m, nI b, nI k, nI s.2.2.2, sp, co2, _, _, _, _, _, g, n, rfl, rfl, hn⟩, ?_⟩
    intro r2 wd hwd
    have hwd : if okG (xs (nI i + 1).toNatClampNeg) g (xs (nI i + 2).toNatClampNeg) (xs (nI i + 3).toNatClampNeg) (xs (nI i + 4).toNatClampNeg) (xs (nI i + 5).toNatClampNeg) ∧ n < 100 then r2 = nI n ∧ wd = wMs2 (oMo 0 (nI g) (nI h) (nI t) (nI (n + 1)) (nI z) (nI m) (nI b) (nI k) (nI s.2.2.2) sp co2) (cpN (tl6 (xs (nI i + 1).toNatClampNeg) (nI t) (xs (nI i + 2).toNatClampNeg) (xs (nI i + 3).toNatClampNeg) (xs (nI i + 4).toNatClampNeg) (xs (nI i + 5).toNatClampNeg)) (6 * n) sg 6) else r2 = -1 ∧ wd = wMs2 (oMo 0 (nI g) (nI h) (nI t) (nI n) (nI z) (nI m) (nI b) (nI k) (nI s.2.2.2) sp co2) sg := hwd g n rfl hg rfl hn
    rw [if_neg q] at hwd
    obtain ⟨rfl, rfl⟩ := hwd
    have m2 : rz_back (wM (oMo th (nI g) (nI h) (nI t) (nI n) (nI z) (nI m) (nI b) (nI k) (nI s.2.2.2) sp co2) px py ph rx ry vi sg fi se tk pa im de s.1 s.2.1 s.2.2.1 A B C X Y D bx9 ou) (wMs2 (oMo 0 (nI g) (nI h) (nI t) (nI n) (nI z) (nI m) (nI b) (nI k) (nI s.2.2.2) sp co2) sg) = wM (oMo 0 (nI g) (nI h) (nI t) (nI n) (nI z) (nI m) (nI b) (nI k) (nI s.2.2.2) sp co2) px py ph rx ry vi sg fi se tk pa im de s.1 s.2.1 s.2.2.1 A B C X Y D bx9 ou := rfl
    have e2 : rz_back ((0, oCW (nI t)) :: (wLk px py ph rx ry vi spx (nI g) (nI h) ++ (wSg fx fy mi ax ay bx b2 (nI n) ++ (wSh a b0 c ex ey tx lx ty ly co ++ (wPl fi se mj tk le bo rg tp la (nI z) (nI m) sp ++ (wBo pb pl pe pt lp im (nI k) (nI b) ++ (wCl de s.1 s.2.1 s.2.2.1 (nI s.2.2.2) ++ wM (oMo th (nI g) (nI h) (nI t) (nI n) (nI z) (nI m) (nI b) (nI k) (nI s.2.2.2) sp co2) px py ph rx ry vi sg fi se tk pa im de s.1 s.2.1 s.2.2.1 A B C X Y D bx9 ou))))))) (wMs2 (oMo 0 (nI g) (nI h) (nI t) (nI n) (nI z) (nI m) (nI b) (nI k) (nI s.2.2.2) sp co2) sg) = (0, oCW (nI t)) :: (wLk px py ph rx ry vi spx (nI g) (nI h) ++ (wSg fx fy mi ax ay bx b2 (nI n) ++ (wSh a b0 c ex ey tx lx ty ly co ++ (wPl fi se mj tk le bo rg tp la (nI z) (nI m) sp ++ (wBo pb pl pe pt lp im (nI k) (nI b) ++ (wCl de s.1 s.2.1 s.2.2.1 (nI s.2.2.2) ++ wM (oMo 0 (nI g) (nI h) (nI t) (nI n) (nI z) (nI m) (nI b) (nI k) (nI s.2.2.2) sp co2) px py ph rx ry vi sg fi se tk pa im de s.1 s.2.1 s.2.2.1 A B C X Y D bx9 ou)))))) := by
      rw [← m2]
      exact bkM (ks := [50, 57]) rfl rfl rfl rfl rfl rfl rfl (by decide)
    rw [e2]
    conv => whnf
    refine ⟨fun _ => ?_, fun y9 => absurd (rfl) y9⟩
    conv => whnf
    refine ⟨0, Nat.zero_lt_one, px, py, ph, rx, ry, vi, spx, fx, fy, mi, ax, ay, bx, b2, fi, se, mj, tk, le, bo, rg, tp, la, pb, pl, pe, pt, lp, im, de, sg, pa, s, a, b0, c, ex, ey, tx, lx, ty, ly, A, B, C, X, Y, D, bx9, ou, t, g, h, n, z, m, k, b, sp, co, 0, co2, rfl, rfl, ⟨⟨ht, hg, hh, hn, hz, hm, hk, hb, hq⟩, hpo, hsg, hpl, hbo, hde⟩, show cs + 0 + 1 ≤ 74 + i + 1 by omega, show sl + 0 + 6 ≤ 5741 + 6 * (i + 1) by omega⟩
