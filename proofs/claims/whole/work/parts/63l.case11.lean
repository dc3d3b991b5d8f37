/-! The law: case 11. -/
set_option maxHeartbeats 8000000 in
set_option maxRecDepth 20000 in
theorem lw_c11 {L : Nat} {xs : Nat → Int32} (hL : L ≤ 3072) {i : Nat} (hi : i + 6 ≤ L) {lv : rz_L} {w : rz_W} {cs sl : Nat} (hJ : LI i 0 lv w cs sl) : rz_xrun L xs ksL x_df [] ck_l11 xa_l11 k_l11 [] [] [] [] true 601024 7293034 (J50 i) (fun _ _ => False) 1 120 692 lv [] w cs sl := by
  obtain ⟨px, py, ph, rx, ry, vi, spx, fx, fy, mi, ax, ay, bx, b2, fi, se, mj, tk, le, bo, rg, tp, la, pb, pl, pe, pt, lp, im, de, sg, pa, s, a, b0, c, ex, ey, tx, lx, ty, ly, A, B, C, X, Y, D, bx9, ou, t, g, h, n, z, m, k, b, sp, co, th, co2, rfl, rfl, ⟨⟨ht, hg, hh, hn, hz, hm, hk, hb, hq⟩, hpo, hsg, hpl, hbo, hde⟩, hcs, hsl⟩ := hJ
  have v1 : vp_in (nI i + 1) L := vL hL hi 1 (by omega)
  have v2 : vp_in (nI i + 2) L := vL hL hi 2 (by omega)
  have v3 : vp_in (nI i + 3) L := vL hL hi 3 (by omega)
  have v4 : vp_in (nI i + 4) L := vL hL hi 4 (by omega)
  have v5 : vp_in (nI i + 5) L := vL hL hi 5 (by omega)
  conv => whnf
  refine ⟨v1, rfl, ?_⟩
  conv => whnf
  refine ⟨v2, rfl, ?_⟩
  conv => whnf
  refine ⟨show cs + 0 ≤ 601024 by omega, show sl + 0 ≤ 7293034 by omega, ?_⟩
  conv => whnf
  refine ⟨⟨fx, fy, mi, ax, ay, bx, b2, a, b0, c, ex, ey, tx, lx, ty, ly, fi, se, mj, tk, le, bo, rg, tp, la, nI t, co, sp, _, _, n, z, m, rfl, rfl, hn, hz, hm, vla hpl hz⟩, ?_⟩
  intro r wc hwc
  obtain ⟨a', b', c', ex', ey', tx', lx', ty', ly', k', r0, h1, hif⟩ := hwc n z m rfl hn rfl hz rfl hm
  have h1 : mtR fx fy mi ax ay bx b2 n a b0 c ex ey tx lx ty ly co (xs (nI i + 1).toNatClampNeg) (xs (nI i + 2).toNatClampNeg) r0 a' b' c' ex' ey' tx' lx' ty' ly' k' := h1
  by_cases q : r0 = 1 ∧ (z < 60 ∧ ∀ p, p < z → ¬ duP fi se (xs (nI i + 1).toNatClampNeg) (xs (nI i + 2).toNatClampNeg) p)
  · obtain ⟨j9, hj9, ek9, hif⟩ := if_y hif q
    subst ek9
    have hif := hif _ _ _ _ _ rfl rfl rfl rfl rfl _ rfl
    generalize hT : trF _ m = T at hif
    have hT : trF (ntF (upd mj z (mi (xs (nI i + 1).toNatClampNeg).toNatClampNeg)) la (upd le z (bxF tx' lx' ty' ly' j9 0)) (upd bo z (bxF tx' lx' ty' ly' j9 1)) (upd rg z (bxF tx' lx' ty' ly' j9 2)) (upd tp z (bxF tx' lx' ty' ly' j9 3)) sp z m).1 m = T := hT
    obtain ⟨hr, hTm, hw⟩ := hif
    have hr : r = nI T := hr
    have hw : wc = (0, oCW (nI t)) :: wSP fx fy mi ax ay bx b2 (nI n) a' b' c' ex' ey' tx' lx' ty' ly' (nI j9) (upd fi z (xs (nI i + 1).toNatClampNeg)) (upd se z (xs (nI i + 2).toNatClampNeg)) (upd mj z (mi (xs (nI i + 1).toNatClampNeg).toNatClampNeg)) (upd tk z (nI T)) (upd le z (bxF tx' lx' ty' ly' j9 0)) (upd bo z (bxF tx' lx' ty' ly' j9 1)) (upd rg z (bxF tx' lx' ty' ly' j9 2)) (upd tp z (bxF tx' lx' ty' ly' j9 3)) (upd la T (nI z)) (nI (z + 1)) (nI (if T = m then m + 1 else m)) sp := hw
    subst hw
    have e1 : rz_back ((0, oCW (nI t)) :: (wLk px py ph rx ry vi spx (nI g) (nI h) ++ (wSg fx fy mi ax ay bx b2 (nI n) ++ (wSh a b0 c ex ey tx lx ty ly co ++ (wPl fi se mj tk le bo rg tp la (nI z) (nI m) sp ++ (wBo pb pl pe pt lp im (nI k) (nI b) ++ (wCl de s.1 s.2.1 s.2.2.1 (nI s.2.2.2) ++ wM (oMo th (nI g) (nI h) (nI t) (nI n) (nI z) (nI m) (nI b) (nI k) (nI s.2.2.2) sp co2) px py ph rx ry vi sg fi se tk pa im de s.1 s.2.1 s.2.2.1 A B C X Y D bx9 ou))))))) ((0, oCW (nI t)) :: wSP fx fy mi ax ay bx b2 (nI n) a' b' c' ex' ey' tx' lx' ty' ly' (nI j9) (upd fi z (xs (nI i + 1).toNatClampNeg)) (upd se z (xs (nI i + 2).toNatClampNeg)) (upd mj z (mi (xs (nI i + 1).toNatClampNeg).toNatClampNeg)) (upd tk z (nI T)) (upd le z (bxF tx' lx' ty' ly' j9 0)) (upd bo z (bxF tx' lx' ty' ly' j9 1)) (upd rg z (bxF tx' lx' ty' ly' j9 2)) (upd tp z (bxF tx' lx' ty' ly' j9 3)) (upd la T (nI z)) (nI (z + 1)) (nI (if T = m then m + 1 else m)) sp) = (0, oCW (nI t)) :: (wLk px py ph rx ry vi spx (nI g) (nI h) ++ (wSg fx fy mi ax ay bx b2 (nI n) ++ (wSh a' b' c' ex' ey' tx' lx' ty' ly' (nI j9) ++ (wPl (upd fi z (xs (nI i + 1).toNatClampNeg)) (upd se z (xs (nI i + 2).toNatClampNeg)) (upd mj z (mi (xs (nI i + 1).toNatClampNeg).toNatClampNeg)) (upd tk z (nI T)) (upd le z (bxF tx' lx' ty' ly' j9 0)) (upd bo z (bxF tx' lx' ty' ly' j9 1)) (upd rg z (bxF tx' lx' ty' ly' j9 2)) (upd tp z (bxF tx' lx' ty' ly' j9 3)) (upd la T (nI z)) (nI (z + 1)) (nI (if T = m then m + 1 else m)) sp ++ (wBo pb pl pe pt lp im (nI k) (nI b) ++ (wCl de s.1 s.2.1 s.2.2.1 (nI s.2.2.2) ++ wM (oMo th (nI g) (nI h) (nI t) (nI n) (nI z) (nI m) (nI b) (nI k) (nI s.2.2.2) sp co2) px py ph rx ry vi sg fi se tk pa im de s.1 s.2.1 s.2.2.1 A B C X Y D bx9 ou)))))) := bkBD (B' := wSg fx fy mi ax ay bx b2 (nI n)) (C' := wSh a' b' c' ex' ey' tx' lx' ty' ly' (nI j9)) (D' := wPl (upd fi z (xs (nI i + 1).toNatClampNeg)) (upd se z (xs (nI i + 2).toNatClampNeg)) (upd mj z (mi (xs (nI i + 1).toNatClampNeg).toNatClampNeg)) (upd tk z (nI T)) (upd le z (bxF tx' lx' ty' ly' j9 0)) (upd bo z (bxF tx' lx' ty' ly' j9 1)) (upd rg z (bxF tx' lx' ty' ly' j9 2)) (upd tp z (bxF tx' lx' ty' ly' j9 3)) (upd la T (nI z)) (nI (z + 1)) (nI (if T = m then m + 1 else m)) sp) rfl rfl rfl rfl rfl rfl rfl
    rw [e1]
    conv => whnf
    refine ⟨v1, rfl, ?_⟩
    conv => whnf
    refine ⟨v2, rfl, ?_⟩
    conv => whnf
    refine ⟨show cs + 0 + 0 ≤ 601024 by omega, show sl + 0 + 0 ≤ 7293034 by omega, ?_⟩
    conv => whnf
    refine ⟨⟨px, py, sg, fi, se, tk, A, B, C, X, Y, D, bx9, _, _, _, _, _, th, nI g, nI h, nI t, nI b, nI k, nI s.2.2.2, sp, co2, _, _, n, z, m, rfl, rfl, hn, hz, hm, vsg hsg hg, hpl.1⟩, ?_⟩
    intro r2 wd hwd
    obtain ⟨A', B', C', X', Y', D', k2, rr, h2, hif2⟩ := hwd n z m rfl hn rfl hz rfl hm
    have h2 : mmR px py sg n A B C X Y D co2 (xs (nI i + 1).toNatClampNeg) (xs (nI i + 2).toNatClampNeg) rr A' B' C' X' Y' D' k2 := h2
    obtain ⟨f1, f2⟩ := meet_tie hsg hn h1 h2
    obtain ⟨ok, -⟩ := f2 q.1
    obtain ⟨bl9, bb9, br9, bt9, L9, ba, bb, bc, bd, hp9, hb9, T2, hT2, hr2, hT2m, A3, B3, C3, X3, Y3, D3, bx3, k3, hw2⟩ := if_y hif2 ⟨f1 ▸ q.1, q.2⟩
    have hp9 : plOK px py sg n fi se tk z m bl9 bb9 br9 bt9 L9 := hp9
    have hb9 : hbP px py sg (xs (nI i + 1).toNatClampNeg).toNatClampNeg (xs (nI i + 2).toNatClampNeg).toNatClampNeg bx9 ba bb bc bd := hb9
    have hr2 : r2 = nI T2 := hr2
    have hT2 : T2 = trF (nmF sg fi bl9 bb9 br9 bt9 L9 sp (sg (6 * (xs (nI i + 1).toNatClampNeg).toNatClampNeg + 1)) ba bb bc bd m).1 m := hT2
    obtain ⟨eTT, hnew⟩ := plotted_tie hsg hn hpl hz q.2.1 hm ht h1 hj9 q.1 ok hp9 hb9 hT hT2 hTm
    subst eTT
    have hw2 : wd = wMz (oMo 0 (nI g) (nI h) (nI t) (nI n) (nI (z + 1)) (nI (if T = m then m + 1 else m)) (nI b) (nI k) (nI s.2.2.2) sp k3) px py sg (upd fi z (xs (nI i + 1).toNatClampNeg)) (upd se z (xs (nI i + 2).toNatClampNeg)) (upd tk z (nI T)) A3 B3 C3 X3 Y3 D3 bx3 := hw2
    subst hw2
    have m2 : rz_back (wM (oMo th (nI g) (nI h) (nI t) (nI n) (nI z) (nI m) (nI b) (nI k) (nI s.2.2.2) sp co2) px py ph rx ry vi sg fi se tk pa im de s.1 s.2.1 s.2.2.1 A B C X Y D bx9 ou) (wMz (oMo 0 (nI g) (nI h) (nI t) (nI n) (nI (z + 1)) (nI (if T = m then m + 1 else m)) (nI b) (nI k) (nI s.2.2.2) sp k3) px py sg (upd fi z (xs (nI i + 1).toNatClampNeg)) (upd se z (xs (nI i + 2).toNatClampNeg)) (upd tk z (nI T)) A3 B3 C3 X3 Y3 D3 bx3) = wM (oMo 0 (nI g) (nI h) (nI t) (nI n) (nI (z + 1)) (nI (if T = m then m + 1 else m)) (nI b) (nI k) (nI s.2.2.2) sp k3) px py ph rx ry vi sg (upd fi z (xs (nI i + 1).toNatClampNeg)) (upd se z (xs (nI i + 2).toNatClampNeg)) (upd tk z (nI T)) pa im de s.1 s.2.1 s.2.2.1 A3 B3 C3 X3 Y3 D3 bx3 ou := rfl
    have e2 : rz_back ((0, oCW (nI t)) :: (wLk px py ph rx ry vi spx (nI g) (nI h) ++ (wSg fx fy mi ax ay bx b2 (nI n) ++ (wSh a' b' c' ex' ey' tx' lx' ty' ly' (nI j9) ++ (wPl (upd fi z (xs (nI i + 1).toNatClampNeg)) (upd se z (xs (nI i + 2).toNatClampNeg)) (upd mj z (mi (xs (nI i + 1).toNatClampNeg).toNatClampNeg)) (upd tk z (nI T)) (upd le z (bxF tx' lx' ty' ly' j9 0)) (upd bo z (bxF tx' lx' ty' ly' j9 1)) (upd rg z (bxF tx' lx' ty' ly' j9 2)) (upd tp z (bxF tx' lx' ty' ly' j9 3)) (upd la T (nI z)) (nI (z + 1)) (nI (if T = m then m + 1 else m)) sp ++ (wBo pb pl pe pt lp im (nI k) (nI b) ++ (wCl de s.1 s.2.1 s.2.2.1 (nI s.2.2.2) ++ wM (oMo th (nI g) (nI h) (nI t) (nI n) (nI z) (nI m) (nI b) (nI k) (nI s.2.2.2) sp co2) px py ph rx ry vi sg fi se tk pa im de s.1 s.2.1 s.2.2.1 A B C X Y D bx9 ou))))))) (wMz (oMo 0 (nI g) (nI h) (nI t) (nI n) (nI (z + 1)) (nI (if T = m then m + 1 else m)) (nI b) (nI k) (nI s.2.2.2) sp k3) px py sg (upd fi z (xs (nI i + 1).toNatClampNeg)) (upd se z (xs (nI i + 2).toNatClampNeg)) (upd tk z (nI T)) A3 B3 C3 X3 Y3 D3 bx3) = (0, oCW (nI t)) :: (wLk px py ph rx ry vi spx (nI g) (nI h) ++ (wSg fx fy mi ax ay bx b2 (nI n) ++ (wSh a' b' c' ex' ey' tx' lx' ty' ly' (nI j9) ++ (wPl (upd fi z (xs (nI i + 1).toNatClampNeg)) (upd se z (xs (nI i + 2).toNatClampNeg)) (upd mj z (mi (xs (nI i + 1).toNatClampNeg).toNatClampNeg)) (upd tk z (nI T)) (upd le z (bxF tx' lx' ty' ly' j9 0)) (upd bo z (bxF tx' lx' ty' ly' j9 1)) (upd rg z (bxF tx' lx' ty' ly' j9 2)) (upd tp z (bxF tx' lx' ty' ly' j9 3)) (upd la T (nI z)) (nI (z + 1)) (nI (if T = m then m + 1 else m)) sp ++ (wBo pb pl pe pt lp im (nI k) (nI b) ++ (wCl de s.1 s.2.1 s.2.2.1 (nI s.2.2.2) ++ wM (oMo 0 (nI g) (nI h) (nI t) (nI n) (nI (z + 1)) (nI (if T = m then m + 1 else m)) (nI b) (nI k) (nI s.2.2.2) sp k3) px py ph rx ry vi sg (upd fi z (xs (nI i + 1).toNatClampNeg)) (upd se z (xs (nI i + 2).toNatClampNeg)) (upd tk z (nI T)) pa im de s.1 s.2.1 s.2.2.1 A3 B3 C3 X3 Y3 D3 bx3 ou)))))) := by
      rw [← m2]
      exact bkM (ks := kMz) rfl rfl rfl rfl rfl rfl rfl (by decide)
    rw [e2]
    conv => whnf
    refine ⟨fun _ => ?_, fun y9 => absurd (hr.trans hr2.symm) y9⟩
    conv => whnf
    refine ⟨0, Nat.zero_lt_one, px, py, ph, rx, ry, vi, spx, fx, fy, mi, ax, ay, bx, b2, upd fi z (xs (nI i + 1).toNatClampNeg), upd se z (xs (nI i + 2).toNatClampNeg), upd mj z (mi (xs (nI i + 1).toNatClampNeg).toNatClampNeg), upd tk z (nI T), upd le z (bxF tx' lx' ty' ly' j9 0), upd bo z (bxF tx' lx' ty' ly' j9 1), upd rg z (bxF tx' lx' ty' ly' j9 2), upd tp z (bxF tx' lx' ty' ly' j9 3), upd la T (nI z), pb, pl, pe, pt, lp, im, de, sg, pa, s, a', b', c', ex', ey', tx', lx', ty', ly', A3, B3, C3, X3, Y3, D3, bx3, ou, t, g, h, n, z + 1, if T = m then m + 1 else m, k, b, sp, nI j9, 0, k3, rfl, rfl, ⟨⟨ht, hg, hh, hn, q.2.1, (by split <;> omega), hk, hb, hq⟩, hpo, hsg, hnew, hbo, hde⟩, show cs + 0 + 0 ≤ 74 + i + 1 by omega, show sl + 0 + 0 ≤ 5741 + 6 * (i + 1) by omega⟩
  · obtain ⟨hr, hw⟩ := if_n hif q
    have hr : r = -1 := hr
    have hw : wc = (0, oCW (nI t)) :: wSP fx fy mi ax ay bx b2 (nI n) a' b' c' ex' ey' tx' lx' ty' ly' k' fi se mj tk le bo rg tp la (nI z) (nI m) sp := hw
    subst hw
    have e1 : rz_back ((0, oCW (nI t)) :: (wLk px py ph rx ry vi spx (nI g) (nI h) ++ (wSg fx fy mi ax ay bx b2 (nI n) ++ (wSh a b0 c ex ey tx lx ty ly co ++ (wPl fi se mj tk le bo rg tp la (nI z) (nI m) sp ++ (wBo pb pl pe pt lp im (nI k) (nI b) ++ (wCl de s.1 s.2.1 s.2.2.1 (nI s.2.2.2) ++ wM (oMo th (nI g) (nI h) (nI t) (nI n) (nI z) (nI m) (nI b) (nI k) (nI s.2.2.2) sp co2) px py ph rx ry vi sg fi se tk pa im de s.1 s.2.1 s.2.2.1 A B C X Y D bx9 ou))))))) ((0, oCW (nI t)) :: wSP fx fy mi ax ay bx b2 (nI n) a' b' c' ex' ey' tx' lx' ty' ly' k' fi se mj tk le bo rg tp la (nI z) (nI m) sp) = (0, oCW (nI t)) :: (wLk px py ph rx ry vi spx (nI g) (nI h) ++ (wSg fx fy mi ax ay bx b2 (nI n) ++ (wSh a' b' c' ex' ey' tx' lx' ty' ly' k' ++ (wPl fi se mj tk le bo rg tp la (nI z) (nI m) sp ++ (wBo pb pl pe pt lp im (nI k) (nI b) ++ (wCl de s.1 s.2.1 s.2.2.1 (nI s.2.2.2) ++ wM (oMo th (nI g) (nI h) (nI t) (nI n) (nI z) (nI m) (nI b) (nI k) (nI s.2.2.2) sp co2) px py ph rx ry vi sg fi se tk pa im de s.1 s.2.1 s.2.2.1 A B C X Y D bx9 ou)))))) := bkBD (B' := wSg fx fy mi ax ay bx b2 (nI n)) (C' := wSh a' b' c' ex' ey' tx' lx' ty' ly' k') (D' := wPl fi se mj tk le bo rg tp la (nI z) (nI m) sp) rfl rfl rfl rfl rfl rfl rfl
    rw [e1]
    conv => whnf
    refine ⟨v1, rfl, ?_⟩
    conv => whnf
    refine ⟨v2, rfl, ?_⟩
    conv => whnf
    refine ⟨show cs + 0 + 0 ≤ 601024 by omega, show sl + 0 + 0 ≤ 7293034 by omega, ?_⟩
    conv => whnf
    refine ⟨⟨px, py, sg, fi, se, tk, A, B, C, X, Y, D, bx9, _, _, _, _, _, th, nI g, nI h, nI t, nI b, nI k, nI s.2.2.2, sp, co2, _, _, n, z, m, rfl, rfl, hn, hz, hm, vsg hsg hg, hpl.1⟩, ?_⟩
    intro r2 wd hwd
    obtain ⟨A', B', C', X', Y', D', k2, rr, h2, hif2⟩ := hwd n z m rfl hn rfl hz rfl hm
    have h2 : mmR px py sg n A B C X Y D co2 (xs (nI i + 1).toNatClampNeg) (xs (nI i + 2).toNatClampNeg) rr A' B' C' X' Y' D' k2 := h2
    obtain ⟨f1, f2⟩ := meet_tie hsg hn h1 h2
    obtain ⟨hr2, hw2⟩ := if_n hif2 (fun y9 => q ⟨f1.trans y9.1, y9.2⟩)
    have hr2 : r2 = -1 := hr2
    have hw2 : wd = wMz (oMo 0 (nI g) (nI h) (nI t) (nI n) (nI z) (nI m) (nI b) (nI k) (nI s.2.2.2) sp k2) px py sg fi se tk A' B' C' X' Y' D' bx9 := hw2
    subst hw2
    have m2 : rz_back (wM (oMo th (nI g) (nI h) (nI t) (nI n) (nI z) (nI m) (nI b) (nI k) (nI s.2.2.2) sp co2) px py ph rx ry vi sg fi se tk pa im de s.1 s.2.1 s.2.2.1 A B C X Y D bx9 ou) (wMz (oMo 0 (nI g) (nI h) (nI t) (nI n) (nI z) (nI m) (nI b) (nI k) (nI s.2.2.2) sp k2) px py sg fi se tk A' B' C' X' Y' D' bx9) = wM (oMo 0 (nI g) (nI h) (nI t) (nI n) (nI z) (nI m) (nI b) (nI k) (nI s.2.2.2) sp k2) px py ph rx ry vi sg fi se tk pa im de s.1 s.2.1 s.2.2.1 A' B' C' X' Y' D' bx9 ou := rfl
    have e2 : rz_back ((0, oCW (nI t)) :: (wLk px py ph rx ry vi spx (nI g) (nI h) ++ (wSg fx fy mi ax ay bx b2 (nI n) ++ (wSh a' b' c' ex' ey' tx' lx' ty' ly' k' ++ (wPl fi se mj tk le bo rg tp la (nI z) (nI m) sp ++ (wBo pb pl pe pt lp im (nI k) (nI b) ++ (wCl de s.1 s.2.1 s.2.2.1 (nI s.2.2.2) ++ wM (oMo th (nI g) (nI h) (nI t) (nI n) (nI z) (nI m) (nI b) (nI k) (nI s.2.2.2) sp co2) px py ph rx ry vi sg fi se tk pa im de s.1 s.2.1 s.2.2.1 A B C X Y D bx9 ou))))))) (wMz (oMo 0 (nI g) (nI h) (nI t) (nI n) (nI z) (nI m) (nI b) (nI k) (nI s.2.2.2) sp k2) px py sg fi se tk A' B' C' X' Y' D' bx9) = (0, oCW (nI t)) :: (wLk px py ph rx ry vi spx (nI g) (nI h) ++ (wSg fx fy mi ax ay bx b2 (nI n) ++ (wSh a' b' c' ex' ey' tx' lx' ty' ly' k' ++ (wPl fi se mj tk le bo rg tp la (nI z) (nI m) sp ++ (wBo pb pl pe pt lp im (nI k) (nI b) ++ (wCl de s.1 s.2.1 s.2.2.1 (nI s.2.2.2) ++ wM (oMo 0 (nI g) (nI h) (nI t) (nI n) (nI z) (nI m) (nI b) (nI k) (nI s.2.2.2) sp k2) px py ph rx ry vi sg fi se tk pa im de s.1 s.2.1 s.2.2.1 A' B' C' X' Y' D' bx9 ou)))))) := by
      rw [← m2]
      exact bkM (ks := kMz) rfl rfl rfl rfl rfl rfl rfl (by decide)
    rw [e2]
    conv => whnf
    refine ⟨fun _ => ?_, fun y9 => absurd (hr.trans hr2.symm) y9⟩
    conv => whnf
    refine ⟨0, Nat.zero_lt_one, px, py, ph, rx, ry, vi, spx, fx, fy, mi, ax, ay, bx, b2, fi, se, mj, tk, le, bo, rg, tp, la, pb, pl, pe, pt, lp, im, de, sg, pa, s, a', b', c', ex', ey', tx', lx', ty', ly', A', B', C', X', Y', D', bx9, ou, t, g, h, n, z, m, k, b, sp, k', 0, k2, rfl, rfl, ⟨⟨ht, hg, hh, hn, hz, hm, hk, hb, hq⟩, hpo, hsg, hpl, hbo, hde⟩, show cs + 0 + 0 ≤ 74 + i + 1 by omega, show sl + 0 + 0 ≤ 5741 + 6 * (i + 1) by omega⟩
