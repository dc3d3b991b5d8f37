/-! The law: case 9. -/
set_option maxHeartbeats 8000000 in
set_option maxRecDepth 20000 in
theorem lw_c9 {L : Nat} {xs : Nat → Int32} (hL : L ≤ 3072) {i : Nat} (hi : i + 6 ≤ L) {lv : rz_L} {w : rz_W} {cs sl : Nat} (hJ : LI i 0 lv w cs sl) : rz_xrun L xs ksL x_df [] ck_l9 xa_l9 k_l9 [] [] [] [] true 601024 7293034 (J50 i) (fun _ _ => False) 1 120 521 lv [] w cs sl := by
  obtain ⟨px, py, ph, rx, ry, vi, spx, fx, fy, mi, ax, ay, bx, b2, fi, se, mj, tk, le, bo, rg, tp, la, pb, pl, pe, pt, lp, im, de, sg, pa, s, a, b0, c, ex, ey, tx, lx, ty, ly, A, B, C, X, Y, D, bx9, ou, t, g, h, n, z, m, k, b, sp, co, th, co2, rfl, rfl, ⟨⟨ht, hg, hh, hn, hz, hm, hk, hb, hq⟩, hpo, hsg, hpl, hbo, hde⟩, hcs, hsl⟩ := hJ
  have v1 : vp_in (nI i + 1) L := vL hL hi 1 (by omega)
  have v2 : vp_in (nI i + 2) L := vL hL hi 2 (by omega)
  have v3 : vp_in (nI i + 3) L := vL hL hi 3 (by omega)
  have v4 : vp_in (nI i + 4) L := vL hL hi 4 (by omega)
  have v5 : vp_in (nI i + 5) L := vL hL hi 5 (by omega)
  conv => whnf
  refine ⟨v1, rfl, ?_⟩
  conv => whnf
  refine ⟨v2, rfl, ?_⟩
  conv => whnf
  refine ⟨v3, rfl, ?_⟩
  conv => whnf
  refine ⟨v4, rfl, ?_⟩
  conv => whnf
  refine ⟨show cs + 1 ≤ 601024 by omega, show sl + 6 ≤ 7293034 by omega, ?_⟩
  conv => whnf
  refine ⟨⟨fx, fy, mi, ax, ay, bx, b2, a, b0, c, ex, ey, tx, lx, ty, ly, ou, nI t, co, _, _, _, _, n, rfl, rfl, hn⟩, ?_⟩
  intro r wc hwc
  rcases hwc with ⟨w1, rv, hp, hr, hw⟩ | ⟨w1, hp, hr, hw⟩
  · obtain ⟨a', b', c', ex', ey', tx', lx', ty', ly', k', r0, h1, hc, hv, hw1⟩ := hp n rfl hn
    have hw1 : w1 = (0, oCW (nI t)) :: wSS fx fy mi ax ay bx b2 (nI n) a' b' c' ex' ey' tx' lx' ty' ly' k' := hw1
    have h1 : mtR fx fy mi ax ay bx b2 n a b0 c ex ey tx lx ty ly co (xs (nI i + 1).toNatClampNeg) (xs (nI i + 2).toNatClampNeg) r0 a' b' c' ex' ey' tx' lx' ty' ly' k' := h1
    have hc : r0 = 1 ∧ (0 ≤ (xs (nI i + 3).toNatClampNeg) ∧ (xs (nI i + 3).toNatClampNeg) ≤ k' - 1) ∧ 0 ≤ (xs (nI i + 4).toNatClampNeg) ∧ (xs (nI i + 4).toNatClampNeg) ≤ 3 := hc
    have hv : rv = (if (xs (nI i + 4).toNatClampNeg) = 0 then tx' (xs (nI i + 3).toNatClampNeg).toNatClampNeg else if (xs (nI i + 4).toNatClampNeg) = 1 then lx' (xs (nI i + 3).toNatClampNeg).toNatClampNeg else if (xs (nI i + 4).toNatClampNeg) = 2 then ty' (xs (nI i + 3).toNatClampNeg).toNatClampNeg else ly' (xs (nI i + 3).toNatClampNeg).toNatClampNeg) := hv
    have hr : r = 0 := hr
    subst hw1
    have hw : wc = ((0, oCW (nI t)) :: wSS fx fy mi ax ay bx b2 (nI n) a' b' c' ex' ey' tx' lx' ty' ly' k') ++ [(80, rl 1 (vp_updL ou 0 rv))] := hw
    subst hw
    subst hr
    have m1 : rz_back (wM (oMo th (nI g) (nI h) (nI t) (nI n) (nI z) (nI m) (nI b) (nI k) (nI s.2.2.2) sp co2) px py ph rx ry vi sg fi se tk pa im de s.1 s.2.1 s.2.2.1 A B C X Y D bx9 ou) [(80, rl 1 (vp_updL ou 0 rv))] = wM (oMo th (nI g) (nI h) (nI t) (nI n) (nI z) (nI m) (nI b) (nI k) (nI s.2.2.2) sp co2) px py ph rx ry vi sg fi se tk pa im de s.1 s.2.1 s.2.2.1 A B C X Y D bx9 (vp_updL ou 0 rv) := rfl
    have e1 : rz_back ((0, oCW (nI t)) :: (wLk px py ph rx ry vi spx (nI g) (nI h) ++ (wSg fx fy mi ax ay bx b2 (nI n) ++ (wSh a b0 c ex ey tx lx ty ly co ++ (wPl fi se mj tk le bo rg tp la (nI z) (nI m) sp ++ (wBo pb pl pe pt lp im (nI k) (nI b) ++ (wCl de s.1 s.2.1 s.2.2.1 (nI s.2.2.2) ++ wM (oMo th (nI g) (nI h) (nI t) (nI n) (nI z) (nI m) (nI b) (nI k) (nI s.2.2.2) sp co2) px py ph rx ry vi sg fi se tk pa im de s.1 s.2.1 s.2.2.1 A B C X Y D bx9 ou))))))) (((0, oCW (nI t)) :: wSS fx fy mi ax ay bx b2 (nI n) a' b' c' ex' ey' tx' lx' ty' ly' k') ++ [(80, rl 1 (vp_updL ou 0 rv))]) = (0, oCW (nI t)) :: (wLk px py ph rx ry vi spx (nI g) (nI h) ++ (wSg fx fy mi ax ay bx b2 (nI n) ++ (wSh a' b' c' ex' ey' tx' lx' ty' ly' k' ++ (wPl fi se mj tk le bo rg tp la (nI z) (nI m) sp ++ (wBo pb pl pe pt lp im (nI k) (nI b) ++ (wCl de s.1 s.2.1 s.2.2.1 (nI s.2.2.2) ++ wM (oMo th (nI g) (nI h) (nI t) (nI n) (nI z) (nI m) (nI b) (nI k) (nI s.2.2.2) sp co2) px py ph rx ry vi sg fi se tk pa im de s.1 s.2.1 s.2.2.1 A B C X Y D bx9 (vp_updL ou 0 rv))))))) := by
      rw [← m1]
      exact bkBCM (B' := wSg fx fy mi ax ay bx b2 (nI n)) (C' := wSh a' b' c' ex' ey' tx' lx' ty' ly' k') rfl rfl rfl rfl rfl rfl rfl rfl rfl
    rw [e1]
    conv => whnf
    rintro _ rfl
    conv => whnf
    refine ⟨v1, rfl, ?_⟩
    conv => whnf
    refine ⟨v2, rfl, ?_⟩
    conv => whnf
    refine ⟨v3, rfl, ?_⟩
    conv => whnf
    refine ⟨v4, rfl, ?_⟩
    conv => whnf
    refine ⟨show cs + 1 + 0 ≤ 601024 by omega, show sl + 6 + 0 ≤ 7293034 by omega, ?_⟩
    conv => whnf
    refine ⟨⟨px, py, sg, A, B, C, X, Y, D, th, nI g, nI h, nI t, nI z, nI m, nI b, nI k, nI s.2.2.2, sp, co2, _, _, _, _, n, rfl, rfl, hn, vsg hsg hg, fun i9 hi9 => (hsg i9 hi9).2.2.1⟩, ?_⟩
    intro r2 wd hwd
    obtain ⟨A', B', C', X', Y', D', k2, rr, h2, hif⟩ := hwd n rfl hn
    have h2 : mmR px py sg n A B C X Y D co2 (xs (nI i + 1).toNatClampNeg) (xs (nI i + 2).toNatClampNeg) rr A' B' C' X' Y' D' k2 := h2
    have hif : if rr = 1 ∧ (0 ≤ (xs (nI i + 3).toNatClampNeg) ∧ (xs (nI i + 3).toNatClampNeg) < k2) ∧ (0 ≤ (xs (nI i + 4).toNatClampNeg) ∧ (xs (nI i + 4).toNatClampNeg) ≤ 3) then r2 = cnM X' Y' D' (xs (nI i + 3).toNatClampNeg).toNatClampNeg (xs (nI i + 4).toNatClampNeg) ∧ wd = wMq (oMo 0 (nI g) (nI h) (nI t) (nI n) (nI z) (nI m) (nI b) (nI k) (nI s.2.2.2) sp k2) px py sg A' B' C' X' Y' D' else r2 = 0 ∧ wd = wMq (oMo 1 (nI g) (nI h) (nI t) (nI n) (nI z) (nI m) (nI b) (nI k) (nI s.2.2.2) sp k2) px py sg A' B' C' X' Y' D' := hif
    obtain ⟨f1, f2⟩ := meet_tie hsg hn h1 h2
    obtain ⟨ok, ek, j, ej, hj6, ct⟩ := f2 hc.1
    obtain ⟨hjv, hjk⟩ := lt_k ej hj6 hc.2.1
    rw [if_pos ⟨f1 ▸ hc.1, ⟨hc.2.1.1, ek ▸ hjk⟩, hc.2.2⟩] at hif
    obtain ⟨hr2, rfl⟩ := hif
    have he : rv = r2 := by rw [hv, hr2]; exact corner_tie ct hjv _
    have m2 : rz_back (wM (oMo th (nI g) (nI h) (nI t) (nI n) (nI z) (nI m) (nI b) (nI k) (nI s.2.2.2) sp co2) px py ph rx ry vi sg fi se tk pa im de s.1 s.2.1 s.2.2.1 A B C X Y D bx9 (vp_updL ou 0 rv)) (wMq (oMo 0 (nI g) (nI h) (nI t) (nI n) (nI z) (nI m) (nI b) (nI k) (nI s.2.2.2) sp k2) px py sg A' B' C' X' Y' D') = wM (oMo 0 (nI g) (nI h) (nI t) (nI n) (nI z) (nI m) (nI b) (nI k) (nI s.2.2.2) sp k2) px py ph rx ry vi sg fi se tk pa im de s.1 s.2.1 s.2.2.1 A' B' C' X' Y' D' bx9 (vp_updL ou 0 rv) := rfl
    have e2 : rz_back ((0, oCW (nI t)) :: (wLk px py ph rx ry vi spx (nI g) (nI h) ++ (wSg fx fy mi ax ay bx b2 (nI n) ++ (wSh a' b' c' ex' ey' tx' lx' ty' ly' k' ++ (wPl fi se mj tk le bo rg tp la (nI z) (nI m) sp ++ (wBo pb pl pe pt lp im (nI k) (nI b) ++ (wCl de s.1 s.2.1 s.2.2.1 (nI s.2.2.2) ++ wM (oMo th (nI g) (nI h) (nI t) (nI n) (nI z) (nI m) (nI b) (nI k) (nI s.2.2.2) sp co2) px py ph rx ry vi sg fi se tk pa im de s.1 s.2.1 s.2.2.1 A B C X Y D bx9 (vp_updL ou 0 rv)))))))) (wMq (oMo 0 (nI g) (nI h) (nI t) (nI n) (nI z) (nI m) (nI b) (nI k) (nI s.2.2.2) sp k2) px py sg A' B' C' X' Y' D') = (0, oCW (nI t)) :: (wLk px py ph rx ry vi spx (nI g) (nI h) ++ (wSg fx fy mi ax ay bx b2 (nI n) ++ (wSh a' b' c' ex' ey' tx' lx' ty' ly' k' ++ (wPl fi se mj tk le bo rg tp la (nI z) (nI m) sp ++ (wBo pb pl pe pt lp im (nI k) (nI b) ++ (wCl de s.1 s.2.1 s.2.2.1 (nI s.2.2.2) ++ wM (oMo 0 (nI g) (nI h) (nI t) (nI n) (nI z) (nI m) (nI b) (nI k) (nI s.2.2.2) sp k2) px py ph rx ry vi sg fi se tk pa im de s.1 s.2.1 s.2.2.1 A' B' C' X' Y' D' bx9 (vp_updL ou 0 rv))))))) := by
      rw [← m2]
      exact bkM (ks := kMq) rfl rfl rfl rfl rfl rfl rfl (by decide)
    rw [e2]
    conv => whnf
    intro v_ ev_
    have ev_ := ev_.symm
    subst ev_
    conv => whnf
    refine ⟨show cs + 1 + 0 + 0 ≤ 601024 by omega, show sl + 6 + 0 + 0 ≤ 7293034 by omega, ?_⟩
    conv => whnf
    refine ⟨⟨0, nI g, nI h, nI t, nI n, nI z, nI m, nI b, nI k, nI s.2.2.2, sp, k2, rfl, rfl, trivial⟩, ?_⟩
    intro r3 hr3
    have hr3 : r3 = 0 := hr3
    subst hr3
    conv => whnf
    refine ⟨fun _ => ?_, fun y9 => absurd rfl y9⟩
    conv => whnf
    refine ⟨fun _ => ?_, fun y9 => absurd rfl y9⟩
    conv => whnf
    refine ⟨vp_in_iff.mpr (by decide), ?_⟩
    conv => whnf
    refine ⟨fun _ => ?_, fun y9 => absurd ((lg_eq0 _ _).mpr he) y9⟩
    conv => whnf
    refine ⟨0, Nat.zero_lt_one, px, py, ph, rx, ry, vi, spx, fx, fy, mi, ax, ay, bx, b2, fi, se, mj, tk, le, bo, rg, tp, la, pb, pl, pe, pt, lp, im, de, sg, pa, s, a', b', c', ex', ey', tx', lx', ty', ly', A', B', C', X', Y', D', bx9, vp_updL ou 0 rv, t, g, h, n, z, m, k, b, sp, k', 0, k2, rfl, rfl, ⟨⟨ht, hg, hh, hn, hz, hm, hk, hb, hq⟩, hpo, hsg, hpl, hbo, hde⟩, show cs + 1 + 0 + 0 ≤ 74 + i + 1 by omega, show sl + 6 + 0 + 0 ≤ 5741 + 6 * (i + 1) by omega⟩
  · obtain ⟨a', b', c', ex', ey', tx', lx', ty', ly', k', r0, h1, hc, hw1⟩ := hp n rfl hn
    have hw1 : w1 = (0, oCW (nI t)) :: wSS fx fy mi ax ay bx b2 (nI n) a' b' c' ex' ey' tx' lx' ty' ly' k' := hw1
    have h1 : mtR fx fy mi ax ay bx b2 n a b0 c ex ey tx lx ty ly co (xs (nI i + 1).toNatClampNeg) (xs (nI i + 2).toNatClampNeg) r0 a' b' c' ex' ey' tx' lx' ty' ly' k' := h1
    have hc : ¬ (r0 = 1 ∧ (0 ≤ (xs (nI i + 3).toNatClampNeg) ∧ (xs (nI i + 3).toNatClampNeg) ≤ k' - 1) ∧ 0 ≤ (xs (nI i + 4).toNatClampNeg) ∧ (xs (nI i + 4).toNatClampNeg) ≤ 3) := hc
    have hr : r = 1 := hr
    subst hw1
    have hw : wc = ((0, oCW (nI t)) :: wSS fx fy mi ax ay bx b2 (nI n) a' b' c' ex' ey' tx' lx' ty' ly' k') ++ [(80, rl 1 ou)] := hw
    subst hw
    subst hr
    have m1 : rz_back (wM (oMo th (nI g) (nI h) (nI t) (nI n) (nI z) (nI m) (nI b) (nI k) (nI s.2.2.2) sp co2) px py ph rx ry vi sg fi se tk pa im de s.1 s.2.1 s.2.2.1 A B C X Y D bx9 ou) [(80, rl 1 ou)] = wM (oMo th (nI g) (nI h) (nI t) (nI n) (nI z) (nI m) (nI b) (nI k) (nI s.2.2.2) sp co2) px py ph rx ry vi sg fi se tk pa im de s.1 s.2.1 s.2.2.1 A B C X Y D bx9 ou := rfl
    have e1 : rz_back ((0, oCW (nI t)) :: (wLk px py ph rx ry vi spx (nI g) (nI h) ++ (wSg fx fy mi ax ay bx b2 (nI n) ++ (wSh a b0 c ex ey tx lx ty ly co ++ (wPl fi se mj tk le bo rg tp la (nI z) (nI m) sp ++ (wBo pb pl pe pt lp im (nI k) (nI b) ++ (wCl de s.1 s.2.1 s.2.2.1 (nI s.2.2.2) ++ wM (oMo th (nI g) (nI h) (nI t) (nI n) (nI z) (nI m) (nI b) (nI k) (nI s.2.2.2) sp co2) px py ph rx ry vi sg fi se tk pa im de s.1 s.2.1 s.2.2.1 A B C X Y D bx9 ou))))))) (((0, oCW (nI t)) :: wSS fx fy mi ax ay bx b2 (nI n) a' b' c' ex' ey' tx' lx' ty' ly' k') ++ [(80, rl 1 ou)]) = (0, oCW (nI t)) :: (wLk px py ph rx ry vi spx (nI g) (nI h) ++ (wSg fx fy mi ax ay bx b2 (nI n) ++ (wSh a' b' c' ex' ey' tx' lx' ty' ly' k' ++ (wPl fi se mj tk le bo rg tp la (nI z) (nI m) sp ++ (wBo pb pl pe pt lp im (nI k) (nI b) ++ (wCl de s.1 s.2.1 s.2.2.1 (nI s.2.2.2) ++ wM (oMo th (nI g) (nI h) (nI t) (nI n) (nI z) (nI m) (nI b) (nI k) (nI s.2.2.2) sp co2) px py ph rx ry vi sg fi se tk pa im de s.1 s.2.1 s.2.2.1 A B C X Y D bx9 ou)))))) := by
      rw [← m1]
      exact bkBCM (B' := wSg fx fy mi ax ay bx b2 (nI n)) (C' := wSh a' b' c' ex' ey' tx' lx' ty' ly' k') rfl rfl rfl rfl rfl rfl rfl rfl rfl
    rw [e1]
    conv => whnf
    rintro _ rfl
    conv => whnf
    refine ⟨v1, rfl, ?_⟩
    conv => whnf
    refine ⟨v2, rfl, ?_⟩
    conv => whnf
    refine ⟨v3, rfl, ?_⟩
    conv => whnf
    refine ⟨v4, rfl, ?_⟩
    conv => whnf
    refine ⟨show cs + 1 + 0 ≤ 601024 by omega, show sl + 6 + 0 ≤ 7293034 by omega, ?_⟩
    conv => whnf
    refine ⟨⟨px, py, sg, A, B, C, X, Y, D, th, nI g, nI h, nI t, nI z, nI m, nI b, nI k, nI s.2.2.2, sp, co2, _, _, _, _, n, rfl, rfl, hn, vsg hsg hg, fun i9 hi9 => (hsg i9 hi9).2.2.1⟩, ?_⟩
    intro r2 wd hwd
    obtain ⟨A', B', C', X', Y', D', k2, rr, h2, hif⟩ := hwd n rfl hn
    have h2 : mmR px py sg n A B C X Y D co2 (xs (nI i + 1).toNatClampNeg) (xs (nI i + 2).toNatClampNeg) rr A' B' C' X' Y' D' k2 := h2
    have hif : if rr = 1 ∧ (0 ≤ (xs (nI i + 3).toNatClampNeg) ∧ (xs (nI i + 3).toNatClampNeg) < k2) ∧ (0 ≤ (xs (nI i + 4).toNatClampNeg) ∧ (xs (nI i + 4).toNatClampNeg) ≤ 3) then r2 = cnM X' Y' D' (xs (nI i + 3).toNatClampNeg).toNatClampNeg (xs (nI i + 4).toNatClampNeg) ∧ wd = wMq (oMo 0 (nI g) (nI h) (nI t) (nI n) (nI z) (nI m) (nI b) (nI k) (nI s.2.2.2) sp k2) px py sg A' B' C' X' Y' D' else r2 = 0 ∧ wd = wMq (oMo 1 (nI g) (nI h) (nI t) (nI n) (nI z) (nI m) (nI b) (nI k) (nI s.2.2.2) sp k2) px py sg A' B' C' X' Y' D' := hif
    obtain ⟨f1, f2⟩ := meet_tie hsg hn h1 h2
    rw [if_neg (fun q => hc (by
      have q1 : r0 = 1 := f1.trans q.1
      obtain ⟨ok, ek, j, ej, hj6, ct⟩ := f2 q1
      exact ⟨q1, ⟨q.2.1.1, le_k ej hj6 (ek ▸ q.2.1.2)⟩, q.2.2⟩))] at hif
    obtain ⟨hr2, rfl⟩ := hif
    have m2 : rz_back (wM (oMo th (nI g) (nI h) (nI t) (nI n) (nI z) (nI m) (nI b) (nI k) (nI s.2.2.2) sp co2) px py ph rx ry vi sg fi se tk pa im de s.1 s.2.1 s.2.2.1 A B C X Y D bx9 ou) (wMq (oMo 1 (nI g) (nI h) (nI t) (nI n) (nI z) (nI m) (nI b) (nI k) (nI s.2.2.2) sp k2) px py sg A' B' C' X' Y' D') = wM (oMo 1 (nI g) (nI h) (nI t) (nI n) (nI z) (nI m) (nI b) (nI k) (nI s.2.2.2) sp k2) px py ph rx ry vi sg fi se tk pa im de s.1 s.2.1 s.2.2.1 A' B' C' X' Y' D' bx9 ou := rfl
    have e2 : rz_back ((0, oCW (nI t)) :: (wLk px py ph rx ry vi spx (nI g) (nI h) ++ (wSg fx fy mi ax ay bx b2 (nI n) ++ (wSh a' b' c' ex' ey' tx' lx' ty' ly' k' ++ (wPl fi se mj tk le bo rg tp la (nI z) (nI m) sp ++ (wBo pb pl pe pt lp im (nI k) (nI b) ++ (wCl de s.1 s.2.1 s.2.2.1 (nI s.2.2.2) ++ wM (oMo th (nI g) (nI h) (nI t) (nI n) (nI z) (nI m) (nI b) (nI k) (nI s.2.2.2) sp co2) px py ph rx ry vi sg fi se tk pa im de s.1 s.2.1 s.2.2.1 A B C X Y D bx9 ou))))))) (wMq (oMo 1 (nI g) (nI h) (nI t) (nI n) (nI z) (nI m) (nI b) (nI k) (nI s.2.2.2) sp k2) px py sg A' B' C' X' Y' D') = (0, oCW (nI t)) :: (wLk px py ph rx ry vi spx (nI g) (nI h) ++ (wSg fx fy mi ax ay bx b2 (nI n) ++ (wSh a' b' c' ex' ey' tx' lx' ty' ly' k' ++ (wPl fi se mj tk le bo rg tp la (nI z) (nI m) sp ++ (wBo pb pl pe pt lp im (nI k) (nI b) ++ (wCl de s.1 s.2.1 s.2.2.1 (nI s.2.2.2) ++ wM (oMo 1 (nI g) (nI h) (nI t) (nI n) (nI z) (nI m) (nI b) (nI k) (nI s.2.2.2) sp k2) px py ph rx ry vi sg fi se tk pa im de s.1 s.2.1 s.2.2.1 A' B' C' X' Y' D' bx9 ou)))))) := by
      rw [← m2]
      exact bkM (ks := kMq) rfl rfl rfl rfl rfl rfl rfl (by decide)
    rw [e2]
    conv => whnf
    intro v_ ev_
    have ev_ := ev_.symm
    subst ev_
    conv => whnf
    refine ⟨show cs + 1 + 0 + 0 ≤ 601024 by omega, show sl + 6 + 0 + 0 ≤ 7293034 by omega, ?_⟩
    conv => whnf
    refine ⟨⟨1, nI g, nI h, nI t, nI n, nI z, nI m, nI b, nI k, nI s.2.2.2, sp, k2, rfl, rfl, trivial⟩, ?_⟩
    intro r3 hr3
    have hr3 : r3 = 1 := hr3
    subst hr3
    conv => whnf
    refine ⟨fun _ => ?_, fun y9 => absurd rfl y9⟩
    conv => whnf
    refine ⟨fun y9 => absurd y9 (by decide), fun _ => ?_⟩
    conv => whnf
    refine ⟨0, Nat.zero_lt_one, px, py, ph, rx, ry, vi, spx, fx, fy, mi, ax, ay, bx, b2, fi, se, mj, tk, le, bo, rg, tp, la, pb, pl, pe, pt, lp, im, de, sg, pa, s, a', b', c', ex', ey', tx', lx', ty', ly', A', B', C', X', Y', D', bx9, ou, t, g, h, n, z, m, k, b, sp, k', 1, k2, rfl, rfl, ⟨⟨ht, hg, hh, hn, hz, hm, hk, hb, hq⟩, hpo, hsg, hpl, hbo, hde⟩, show cs + 1 + 0 + 0 ≤ 74 + i + 1 by omega, show sl + 6 + 0 + 0 ≤ 5741 + 6 * (i + 1) by omega⟩
