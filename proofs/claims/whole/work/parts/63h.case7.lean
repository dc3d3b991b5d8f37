/-! The law: case 7. -/
set_option maxHeartbeats 8000000 in
set_option maxRecDepth 20000 in
theorem lw_c7 {L : Nat} {xs : Nat → Int32} (hL : L ≤ 3072) {i : Nat} (hi : i + 6 ≤ L) {lv : rz_L} {w : rz_W} {cs sl : Nat} (hJ : LI i 0 lv w cs sl) : rz_xrun L xs ksL x_df [] ck_l7 xa_l7 k_l7 [] [] [] [] true 601024 7293034 (J50 i) (fun _ _ => False) 1 120 447 lv [] w cs sl := by
  obtain ⟨px, py, ph, rx, ry, vi, spx, fx, fy, mi, ax, ay, bx, b2, fi, se, mj, tk, le, bo, rg, tp, la, pb, pl, pe, pt, lp, im, de, sg, pa, s, a, b0, c, ex, ey, tx, lx, ty, ly, A, B, C, X, Y, D, bx9, ou, t, g, h, n, z, m, k, b, sp, co, th, co2, rfl, rfl, ⟨⟨ht, hg, hh, hn, hz, hm, hk, hb, hq⟩, hpo, hsg, hpl, hbo, hde⟩, hcs, hsl⟩ := hJ
  have v1 : vp_in (nI i + 1) L := vL hL hi 1 (by omega)
  have v2 : vp_in (nI i + 2) L := vL hL hi 2 (by omega)
  have v3 : vp_in (nI i + 3) L := vL hL hi 3 (by omega)
  have v4 : vp_in (nI i + 4) L := vL hL hi 4 (by omega)
  have v5 : vp_in (nI i + 5) L := vL hL hi 5 (by omega)
  conv => whnf
  refine ⟨v1, rfl, ?_⟩
  conv => whnf
  refine ⟨v2, rfl, ?_⟩
  conv => whnf
  refine ⟨show cs + 0 ≤ 601024 by omega, show sl + 0 ≤ 7293034 by omega, ?_⟩
  conv => whnf
  refine ⟨⟨fx, fy, mi, ax, ay, bx, b2, a, b0, c, ex, ey, tx, lx, ty, ly, nI t, co, _, _, n, rfl, rfl, hn⟩, ?_⟩
  intro r wc hwc
  obtain ⟨a', b', c', ex', ey', tx', lx', ty', ly', k', h1, hw⟩ := hwc n rfl hn
  have hw : wc = (0, oCW (nI t)) :: wSS fx fy mi ax ay bx b2 (nI n) a' b' c' ex' ey' tx' lx' ty' ly' k' := hw
  have h1 : mtR fx fy mi ax ay bx b2 n a b0 c ex ey tx lx ty ly co (xs (nI i + 1).toNatClampNeg) (xs (nI i + 2).toNatClampNeg) r a' b' c' ex' ey' tx' lx' ty' ly' k' := h1
  subst hw
  have e1 : rz_back ((0, oCW (nI t)) :: (wLk px py ph rx ry vi spx (nI g) (nI h) ++ (wSg fx fy mi ax ay bx b2 (nI n) ++ (wSh a b0 c ex ey tx lx ty ly co ++ (wPl fi se mj tk le bo rg tp la (nI z) (nI m) sp ++ (wBo pb pl pe pt lp im (nI k) (nI b) ++ (wCl de s.1 s.2.1 s.2.2.1 (nI s.2.2.2) ++ wM (oMo th (nI g) (nI h) (nI t) (nI n) (nI z) (nI m) (nI b) (nI k) (nI s.2.2.2) sp co2) px py ph rx ry vi sg fi se tk pa im de s.1 s.2.1 s.2.2.1 A B C X Y D bx9 ou))))))) ((0, oCW (nI t)) :: wSS fx fy mi ax ay bx b2 (nI n) a' b' c' ex' ey' tx' lx' ty' ly' k') = (0, oCW (nI t)) :: (wLk px py ph rx ry vi spx (nI g) (nI h) ++ (wSg fx fy mi ax ay bx b2 (nI n) ++ (wSh a' b' c' ex' ey' tx' lx' ty' ly' k' ++ (wPl fi se mj tk le bo rg tp la (nI z) (nI m) sp ++ (wBo pb pl pe pt lp im (nI k) (nI b) ++ (wCl de s.1 s.2.1 s.2.2.1 (nI s.2.2.2) ++ wM (oMo th (nI g) (nI h) (nI t) (nI n) (nI z) (nI m) (nI b) (nI k) (nI s.2.2.2) sp co2) px py ph rx ry vi sg fi se tk pa im de s.1 s.2.1 s.2.2.1 A B C X Y D bx9 ou)))))) := bkBC (B' := wSg fx fy mi ax ay bx b2 (nI n)) (C' := wSh a' b' c' ex' ey' tx' lx' ty' ly' k') rfl rfl rfl rfl rfl
  rw [e1]
  conv => whnf
  refine ⟨v1, rfl, ?_⟩
  conv => whnf
  refine ⟨v2, rfl, ?_⟩
  conv => whnf
  refine ⟨show cs + 0 + 0 ≤ 601024 by omega, show sl + 0 + 0 ≤ 7293034 by omega, ?_⟩
  conv => whnf
  refine ⟨⟨px, py, sg, A, B, C, X, Y, D, th, nI g, nI h, nI t, nI z, nI m, nI b, nI k, nI s.2.2.2, sp, co2, _, _, n, rfl, rfl, hn, vsg hsg hg⟩, ?_⟩
  intro r2 wd hwd
  obtain ⟨A', B', C', X', Y', D', k2, h2, hw2⟩ := hwd n rfl hn
  have hw2 : wd = wMq (oMo 0 (nI g) (nI h) (nI t) (nI n) (nI z) (nI m) (nI b) (nI k) (nI s.2.2.2) sp k2) px py sg A' B' C' X' Y' D' := hw2
  have h2 : mmR px py sg n A B C X Y D co2 (xs (nI i + 1).toNatClampNeg) (xs (nI i + 2).toNatClampNeg) r2 A' B' C' X' Y' D' k2 := h2
  subst hw2
  have m2 : rz_back (wM (oMo th (nI g) (nI h) (nI t) (nI n) (nI z) (nI m) (nI b) (nI k) (nI s.2.2.2) sp co2) px py ph rx ry vi sg fi se tk pa im de s.1 s.2.1 s.2.2.1 A B C X Y D bx9 ou) (wMq (oMo 0 (nI g) (nI h) (nI t) (nI n) (nI z) (nI m) (nI b) (nI k) (nI s.2.2.2) sp k2) px py sg A' B' C' X' Y' D') = wM (oMo 0 (nI g) (nI h) (nI t) (nI n) (nI z) (nI m) (nI b) (nI k) (nI s.2.2.2) sp k2) px py ph rx ry vi sg fi se tk pa im de s.1 s.2.1 s.2.2.1 A' B' C' X' Y' D' bx9 ou := rfl
  have e2 : rz_back ((0, oCW (nI t)) :: (wLk px py ph rx ry vi spx (nI g) (nI h) ++ (wSg fx fy mi ax ay bx b2 (nI n) ++ (wSh a' b' c' ex' ey' tx' lx' ty' ly' k' ++ (wPl fi se mj tk le bo rg tp la (nI z) (nI m) sp ++ (wBo pb pl pe pt lp im (nI k) (nI b) ++ (wCl de s.1 s.2.1 s.2.2.1 (nI s.2.2.2) ++ wM (oMo th (nI g) (nI h) (nI t) (nI n) (nI z) (nI m) (nI b) (nI k) (nI s.2.2.2) sp co2) px py ph rx ry vi sg fi se tk pa im de s.1 s.2.1 s.2.2.1 A B C X Y D bx9 ou))))))) (wMq (oMo 0 (nI g) (nI h) (nI t) (nI n) (nI z) (nI m) (nI b) (nI k) (nI s.2.2.2) sp k2) px py sg A' B' C' X' Y' D') = (0, oCW (nI t)) :: (wLk px py ph rx ry vi spx (nI g) (nI h) ++ (wSg fx fy mi ax ay bx b2 (nI n) ++ (wSh a' b' c' ex' ey' tx' lx' ty' ly' k' ++ (wPl fi se mj tk le bo rg tp la (nI z) (nI m) sp ++ (wBo pb pl pe pt lp im (nI k) (nI b) ++ (wCl de s.1 s.2.1 s.2.2.1 (nI s.2.2.2) ++ wM (oMo 0 (nI g) (nI h) (nI t) (nI n) (nI z) (nI m) (nI b) (nI k) (nI s.2.2.2) sp k2) px py ph rx ry vi sg fi se tk pa im de s.1 s.2.1 s.2.2.1 A' B' C' X' Y' D' bx9 ou)))))) := by
    rw [← m2]
    exact bkM (ks := kMq) rfl rfl rfl rfl rfl rfl rfl (by decide)
  rw [e2]
  conv => whnf
  refine ⟨fun _ => ?_, fun y9 => absurd ((meet_tie hsg hn h1 h2).1) y9⟩
  conv => whnf
  refine ⟨0, Nat.zero_lt_one, px, py, ph, rx, ry, vi, spx, fx, fy, mi, ax, ay, bx, b2, fi, se, mj, tk, le, bo, rg, tp, la, pb, pl, pe, pt, lp, im, de, sg, pa, s, a', b', c', ex', ey', tx', lx', ty', ly', A', B', C', X', Y', D', bx9, ou, t, g, h, n, z, m, k, b, sp, k', 0, k2, rfl, rfl, ⟨⟨ht, hg, hh, hn, hz, hm, hk, hb, hq⟩, hpo, hsg, hpl, hbo, hde⟩, show cs + 0 + 0 ≤ 74 + i + 1 by omega, show sl + 0 + 0 ≤ 5741 + 6 * (i + 1) by omega⟩
