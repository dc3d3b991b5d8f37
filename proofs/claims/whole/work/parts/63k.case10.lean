/-! The law: case 10. -/
set_option maxHeartbeats 8000000 in
set_option maxRecDepth 20000 in
theorem lw_c10 {L : Nat} {xs : Nat → Int32} (hL : L ≤ 3072) {i : Nat} (hi : i + 6 ≤ L) {lv : rz_L} {w : rz_W} {cs sl : Nat} (hJ : LI i 0 lv w cs sl) : rz_xrun L xs ksL x_df [] ck_l10 xa_l10 k_l10 [] [] [] [] true 601024 7293034 (J50 i) (fun _ _ => False) 1 120 612 lv [] w cs sl := by
  obtain ⟨px, py, ph, rx, ry, vi, spx, fx, fy, mi, ax, ay, bx, b2, fi, se, mj, tk, le, bo, rg, tp, la, pb, pl, pe, pt, lp, im, de, sg, pa, s, a, b0, c, ex, ey, tx, lx, ty, ly, A, B, C, X, Y, D, bx9, ou, t, g, h, n, z, m, k, b, sp, co, th, co2, rfl, rfl, ⟨⟨ht, hg, hh, hn, hz, hm, hk, hb, hq⟩, hpo, hsg, hpl, hbo, hde⟩, hcs, hsl⟩ := hJ
  have v1 : vp_in (nI i + 1) L := vL hL hi 1 (by omega)
  have v2 : vp_in (nI i + 2) L := vL hL hi 2 (by omega)
  have v3 : vp_in (nI i + 3) L := vL hL hi 3 (by omega)
  have v4 : vp_in (nI i + 4) L := vL hL hi 4 (by omega)
  have v5 : vp_in (nI i + 5) L := vL hL hi 5 (by omega)
  conv => whnf
  refine ⟨v1, rfl, ?_⟩
  conv => whnf
  refine ⟨v2, rfl, ?_⟩
  conv => whnf
  refine ⟨v3, rfl, ?_⟩
  conv => whnf
  refine ⟨show cs + 1 ≤ 601024 by omega, show sl + 6 ≤ 7293034 by omega, ?_⟩
  conv => whnf
  refine ⟨⟨fx, fy, mi, ax, ay, bx, b2, a, b0, c, ex, ey, tx, lx, ty, ly, ou, nI t, co, _, _, _, n, rfl, rfl, hn⟩, ?_⟩
  intro r wc hwc
  rcases hwc with ⟨w1, rv, hp, hr, hw⟩ | ⟨w1, hp, hr, hw⟩
  · obtain ⟨a', b', c', ex', ey', tx', lx', ty', ly', j9, r0, h1, hj9, hc, hv, hw1⟩ := hp n rfl hn
    have hw1 : w1 = (0, oCW (nI t)) :: wSS fx fy mi ax ay bx b2 (nI n) a' b' c' ex' ey' tx' lx' ty' ly' (nI j9) := hw1
    have h1 : mtR fx fy mi ax ay bx b2 n a b0 c ex ey tx lx ty ly co (xs (nI i + 1).toNatClampNeg) (xs (nI i + 2).toNatClampNeg) r0 a' b' c' ex' ey' tx' lx' ty' ly' (nI j9) := h1
    have hc : r0 = 1 ∧ 0 ≤ (xs (nI i + 3).toNatClampNeg) ∧ (xs (nI i + 3).toNatClampNeg) ≤ 3 := hc
    have hv : rv = bxF tx' lx' ty' ly' j9 (xs (nI i + 3).toNatClampNeg) := hv
    have hr : r = 0 := hr
    subst hw1
    have hw : wc = ((0, oCW (nI t)) :: wSS fx fy mi ax ay bx b2 (nI n) a' b' c' ex' ey' tx' lx' ty' ly' (nI j9)) ++ [(80, rl 1 (vp_updL ou 0 rv.toInt64))] := hw
    subst hw
    subst hr
    have m1 : rz_back (wM (oMo th (nI g) (nI h) (nI t) (nI n) (nI z) (nI m) (nI b) (nI k) (nI s.2.2.2) sp co2) px py ph rx ry vi sg fi se tk pa im de s.1 s.2.1 s.2.2.1 A B C X Y D bx9 ou) [(80, rl 1 (vp_updL ou 0 rv.toInt64))] = wM (oMo th (nI g) (nI h) (nI t) (nI n) (nI z) (nI m) (nI b) (nI k) (nI s.2.2.2) sp co2) px py ph rx ry vi sg fi se tk pa im de s.1 s.2.1 s.2.2.1 A B C X Y D bx9 (vp_updL ou 0 rv.toInt64) := rfl
    have e1 : rz_back ((0, oCW (nI t)) :: (wLk px py ph rx ry vi spx (nI g) (nI h) ++ (wSg fx fy mi ax ay bx b2 (nI n) ++ (wSh a b0 c ex ey tx lx ty ly co ++ (wPl fi se mj tk le bo rg tp la (nI z) (nI m) sp ++ (wBo pb pl pe pt lp im (nI k) (nI b) ++ (wCl de s.1 s.2.1 s.2.2.1 (nI s.2.2.2) ++ wM (oMo th (nI g) (nI h) (nI t) (nI n) (nI z) (nI m) (nI b) (nI k) (nI s.2.2.2) sp co2) px py ph rx ry vi sg fi se tk pa im de s.1 s.2.1 s.2.2.1 A B C X Y D bx9 ou))))))) (((0, oCW (nI t)) :: wSS fx fy mi ax ay bx b2 (nI n) a' b' c' ex' ey' tx' lx' ty' ly' (nI j9)) ++ [(80, rl 1 (vp_updL ou 0 rv.toInt64))]) = (0, oCW (nI t)) :: (wLk px py ph rx ry vi spx (nI g) (nI h) ++ (wSg fx fy mi ax ay bx b2 (nI n) ++ (wSh a' b' c' ex' ey' tx' lx' ty' ly' (nI j9) ++ (wPl fi se mj tk le bo rg tp la (nI z) (nI m) sp ++ (wBo pb pl pe pt lp im (nI k) (nI b) ++ (wCl de s.1 s.2.1 s.2.2.1 (nI s.2.2.2) ++ wM (oMo th (nI g) (nI h) (nI t) (nI n) (nI z) (nI m) (nI b) (nI k) (nI s.2.2.2) sp co2) px py ph rx ry vi sg fi se tk pa im de s.1 s.2.1 s.2.2.1 A B C X Y D bx9 (vp_updL ou 0 rv.toInt64))))))) := by
      rw [← m1]
      exact bkBCM (B' := wSg fx fy mi ax ay bx b2 (nI n)) (C' := wSh a' b' c' ex' ey' tx' lx' ty' ly' (nI j9)) rfl rfl rfl rfl rfl rfl rfl rfl rfl
    rw [e1]
    conv => whnf
    rintro _ rfl
    conv => whnf
    refine ⟨v1, rfl, ?_⟩
    conv => whnf
    refine ⟨v2, rfl, ?_⟩
    conv => whnf
    refine ⟨v3, rfl, ?_⟩
    conv => whnf
    refine ⟨show cs + 1 + 0 ≤ 601024 by omega, show sl + 6 + 0 ≤ 7293034 by omega, ?_⟩
    conv => whnf
    refine ⟨⟨px, py, sg, A, B, C, X, Y, D, bx9, th, nI g, nI h, nI t, nI z, nI m, nI b, nI k, nI s.2.2.2, sp, co2, _, _, _, n, rfl, rfl, hn, vsg hsg hg⟩, ?_⟩
    intro r2 wd hwd
    obtain ⟨A', B', C', X', Y', D', k2, rr, h2, hif⟩ := hwd n rfl hn
    have h2 : mmR px py sg n A B C X Y D co2 (xs (nI i + 1).toNatClampNeg) (xs (nI i + 2).toNatClampNeg) rr A' B' C' X' Y' D' k2 := h2
    have hif : if rr = 1 ∧ (0 ≤ (xs (nI i + 3).toNatClampNeg) ∧ (xs (nI i + 3).toNatClampNeg) ≤ 3) then (∃ (A2 B2 C2 X2 Y2 D2 : Nat → Int64) (q9 : Nat), rnR px py sg (xs (nI i + 1).toNatClampNeg).toNatClampNeg (xs (nI i + 2).toNatClampNeg).toNatClampNeg X2 Y2 D2 q9 ∧ wd = wMy (oMo 0 (nI g) (nI h) (nI t) (nI n) (nI z) (nI m) (nI b) (nI k) (nI s.2.2.2) sp (nI q9)) px py sg A2 B2 C2 X2 Y2 D2 (bxN X2 Y2 D2 bx9 q9) ∧ r2 = (bxN X2 Y2 D2 bx9 q9 (xs (nI i + 3).toNatClampNeg).toNatClampNeg).toInt32) else r2 = 0 ∧ wd = wMy (oMo 1 (nI g) (nI h) (nI t) (nI n) (nI z) (nI m) (nI b) (nI k) (nI s.2.2.2) sp k2) px py sg A' B' C' X' Y' D' bx9 := hif
    obtain ⟨f1, f2⟩ := meet_tie hsg hn h1 h2
    rw [if_pos ⟨f1 ▸ hc.1, hc.2⟩] at hif
    obtain ⟨A2, B2, C2, X2, Y2, D2, q9, hrn, rfl, hr2⟩ := hif
    have he : rv = r2 := by rw [hv, hr2]; exact box_eq hsg hn h1 hj9 hc.1 (f2 hc.1).1 hrn hc.2
    subst he
    have m2 : rz_back (wM (oMo th (nI g) (nI h) (nI t) (nI n) (nI z) (nI m) (nI b) (nI k) (nI s.2.2.2) sp co2) px py ph rx ry vi sg fi se tk pa im de s.1 s.2.1 s.2.2.1 A B C X Y D bx9 (vp_updL ou 0 rv.toInt64)) (wMy (oMo 0 (nI g) (nI h) (nI t) (nI n) (nI z) (nI m) (nI b) (nI k) (nI s.2.2.2) sp (nI q9)) px py sg A2 B2 C2 X2 Y2 D2 (bxN X2 Y2 D2 bx9 q9)) = wM (oMo 0 (nI g) (nI h) (nI t) (nI n) (nI z) (nI m) (nI b) (nI k) (nI s.2.2.2) sp (nI q9)) px py ph rx ry vi sg fi se tk pa im de s.1 s.2.1 s.2.2.1 A2 B2 C2 X2 Y2 D2 (bxN X2 Y2 D2 bx9 q9) (vp_updL ou 0 rv.toInt64) := rfl
    have e2 : rz_back ((0, oCW (nI t)) :: (wLk px py ph rx ry vi spx (nI g) (nI h) ++ (wSg fx fy mi ax ay bx b2 (nI n) ++ (wSh a' b' c' ex' ey' tx' lx' ty' ly' (nI j9) ++ (wPl fi se mj tk le bo rg tp la (nI z) (nI m) sp ++ (wBo pb pl pe pt lp im (nI k) (nI b) ++ (wCl de s.1 s.2.1 s.2.2.1 (nI s.2.2.2) ++ wM (oMo th (nI g) (nI h) (nI t) (nI n) (nI z) (nI m) (nI b) (nI k) (nI s.2.2.2) sp co2) px py ph rx ry vi sg fi se tk pa im de s.1 s.2.1 s.2.2.1 A B C X Y D bx9 (vp_updL ou 0 rv.toInt64)))))))) (wMy (oMo 0 (nI g) (nI h) (nI t) (nI n) (nI z) (nI m) (nI b) (nI k) (nI s.2.2.2) sp (nI q9)) px py sg A2 B2 C2 X2 Y2 D2 (bxN X2 Y2 D2 bx9 q9)) = (0, oCW (nI t)) :: (wLk px py ph rx ry vi spx (nI g) (nI h) ++ (wSg fx fy mi ax ay bx b2 (nI n) ++ (wSh a' b' c' ex' ey' tx' lx' ty' ly' (nI j9) ++ (wPl fi se mj tk le bo rg tp la (nI z) (nI m) sp ++ (wBo pb pl pe pt lp im (nI k) (nI b) ++ (wCl de s.1 s.2.1 s.2.2.1 (nI s.2.2.2) ++ wM (oMo 0 (nI g) (nI h) (nI t) (nI n) (nI z) (nI m) (nI b) (nI k) (nI s.2.2.2) sp (nI q9)) px py ph rx ry vi sg fi se tk pa im de s.1 s.2.1 s.2.2.1 A2 B2 C2 X2 Y2 D2 (bxN X2 Y2 D2 bx9 q9) (vp_updL ou 0 rv.toInt64))))))) := by
      rw [← m2]
      exact bkM (ks := kMy) rfl rfl rfl rfl rfl rfl rfl (by decide)
    rw [e2]
    conv => whnf
    intro v_ ev_
    have ev_ := ev_.symm
    subst ev_
    conv => whnf
    refine ⟨show cs + 1 + 0 + 0 ≤ 601024 by omega, show sl + 6 + 0 + 0 ≤ 7293034 by omega, ?_⟩
    conv => whnf
    refine ⟨⟨0, nI g, nI h, nI t, nI n, nI z, nI m, nI b, nI k, nI s.2.2.2, sp, nI q9, rfl, rfl, trivial⟩, ?_⟩
    intro r3 hr3
    have hr3 : r3 = 0 := hr3
    subst hr3
    conv => whnf
    refine ⟨fun _ => ?_, fun y9 => absurd rfl y9⟩
    conv => whnf
    refine ⟨fun _ => ?_, fun y9 => absurd rfl y9⟩
    conv => whnf
    refine ⟨vp_in_iff.mpr (by decide), ?_⟩
    conv => whnf
    refine ⟨fun _ => ?_, fun y9 => absurd ((lg_eq0 _ _).mpr rfl) y9⟩
    conv => whnf
    refine ⟨0, Nat.zero_lt_one, px, py, ph, rx, ry, vi, spx, fx, fy, mi, ax, ay, bx, b2, fi, se, mj, tk, le, bo, rg, tp, la, pb, pl, pe, pt, lp, im, de, sg, pa, s, a', b', c', ex', ey', tx', lx', ty', ly', A2, B2, C2, X2, Y2, D2, bxN X2 Y2 D2 bx9 q9, vp_updL ou 0 rv.toInt64, t, g, h, n, z, m, k, b, sp, nI j9, 0, nI q9, rfl, rfl, ⟨⟨ht, hg, hh, hn, hz, hm, hk, hb, hq⟩, hpo, hsg, hpl, hbo, hde⟩, show cs + 1 + 0 + 0 ≤ 74 + i + 1 by omega, show sl + 6 + 0 + 0 ≤ 5741 + 6 * (i + 1) by omega⟩
  · obtain ⟨a', b', c', ex', ey', tx', lx', ty', ly', k', r0, h1, hc, hw1⟩ := hp n rfl hn
    have hw1 : w1 = (0, oCW (nI t)) :: wSS fx fy mi ax ay bx b2 (nI n) a' b' c' ex' ey' tx' lx' ty' ly' k' := hw1
    have h1 : mtR fx fy mi ax ay bx b2 n a b0 c ex ey tx lx ty ly co (xs (nI i + 1).toNatClampNeg) (xs (nI i + 2).toNatClampNeg) r0 a' b' c' ex' ey' tx' lx' ty' ly' k' := h1
    have hc : ¬ (r0 = 1 ∧ 0 ≤ (xs (nI i + 3).toNatClampNeg) ∧ (xs (nI i + 3).toNatClampNeg) ≤ 3) := hc
    have hr : r = 1 := hr
    subst hw1
    have hw : wc = ((0, oCW (nI t)) :: wSS fx fy mi ax ay bx b2 (nI n) a' b' c' ex' ey' tx' lx' ty' ly' k') ++ [(80, rl 1 ou)] := hw
    subst hw
    subst hr
    have m1 : rz_back (wM (oMo th (nI g) (nI h) (nI t) (nI n) (nI z) (nI m) (nI b) (nI k) (nI s.2.2.2) sp co2) px py ph rx ry vi sg fi se tk pa im de s.1 s.2.1 s.2.2.1 A B C X Y D bx9 ou) [(80, rl 1 ou)] = wM (oMo th (nI g) (nI h) (nI t) (nI n) (nI z) (nI m) (nI b) (nI k) (nI s.2.2.2) sp co2) px py ph rx ry vi sg fi se tk pa im de s.1 s.2.1 s.2.2.1 A B C X Y D bx9 ou := rfl
    have e1 : rz_back ((0, oCW (nI t)) :: (wLk px py ph rx ry vi spx (nI g) (nI h) ++ (wSg fx fy mi ax ay bx b2 (nI n) ++ (wSh a b0 c ex ey tx lx ty ly co ++ (wPl fi se mj tk le bo rg tp la (nI z) (nI m) sp ++ (wBo pb pl pe pt lp im (nI k) (nI b) ++ (wCl de s.1 s.2.1 s.2.2.1 (nI s.2.2.2) ++ wM (oMo th (nI g) (nI h) (nI t) (nI n) (nI z) (nI m) (nI b) (nI k) (nI s.2.2.2) sp co2) px py ph rx ry vi sg fi se tk pa im de s.1 s.2.1 s.2.2.1 A B C X Y D bx9 ou))))))) (((0, oCW (nI t)) :: wSS fx fy mi ax ay bx b2 (nI n) a' b' c' ex' ey' tx' lx' ty' ly' k') ++ [(80, rl 1 ou)]) = (0, oCW (nI t)) :: (wLk px py ph rx ry vi spx (nI g) (nI h) ++ (wSg fx fy mi ax ay bx b2 (nI n) ++ (wSh a' b' c' ex' ey' tx' lx' ty' ly' k' ++ (wPl fi se mj tk le bo rg tp la (nI z) (nI m) sp ++ (wBo pb pl pe pt lp im (nI k) (nI b) ++ (wCl de s.1 s.2.1 s.2.2.1 (nI s.2.2.2) ++ wM (oMo th (nI g) (nI h) (nI t) (nI n) (nI z) (nI m) (nI b) (nI k) (nI s.2.2.2) sp co2) px py ph rx ry vi sg fi se tk pa im de s.1 s.2.1 s.2.2.1 A B C X Y D bx9 ou)))))) := by
      rw [← m1]
      exact bkBCM (B' := wSg fx fy mi ax ay bx b2 (nI n)) (C' := wSh a' b' c' ex' ey' tx' lx' ty' ly' k') rfl rfl rfl rfl rfl rfl rfl rfl rfl
    rw [e1]
    conv => whnf
    rintro _ rfl
    conv => whnf
    refine ⟨v1, rfl, ?_⟩
    conv => whnf
    refine ⟨v2, rfl, ?_⟩
    conv => whnf
    refine ⟨v3, rfl, ?_⟩
    conv => whnf
    refine ⟨show cs + 1 + 0 ≤ 601024 by omega, show sl + 6 + 0 ≤ 7293034 by omega, ?_⟩
    conv => whnf
    refine ⟨⟨px, py, sg, A, B, C, X, Y, D, bx9, th, nI g, nI h, nI t, nI z, nI m, nI b, nI k, nI s.2.2.2, sp, co2, _, _, _, n, rfl, rfl, hn, vsg hsg hg⟩, ?_⟩
    intro r2 wd hwd
    obtain ⟨A', B', C', X', Y', D', k2, rr, h2, hif⟩ := hwd n rfl hn
    have h2 : mmR px py sg n A B C X Y D co2 (xs (nI i + 1).toNatClampNeg) (xs (nI i + 2).toNatClampNeg) rr A' B' C' X' Y' D' k2 := h2
    have hif : if rr = 1 ∧ (0 ≤ (xs (nI i + 3).toNatClampNeg) ∧ (xs (nI i + 3).toNatClampNeg) ≤ 3) then (∃ (A2 B2 C2 X2 Y2 D2 : Nat → Int64) (q9 : Nat), rnR px py sg (xs (nI i + 1).toNatClampNeg).toNatClampNeg (xs (nI i + 2).toNatClampNeg).toNatClampNeg X2 Y2 D2 q9 ∧ wd = wMy (oMo 0 (nI g) (nI h) (nI t) (nI n) (nI z) (nI m) (nI b) (nI k) (nI s.2.2.2) sp (nI q9)) px py sg A2 B2 C2 X2 Y2 D2 (bxN X2 Y2 D2 bx9 q9) ∧ r2 = (bxN X2 Y2 D2 bx9 q9 (xs (nI i + 3).toNatClampNeg).toNatClampNeg).toInt32) else r2 = 0 ∧ wd = wMy (oMo 1 (nI g) (nI h) (nI t) (nI n) (nI z) (nI m) (nI b) (nI k) (nI s.2.2.2) sp k2) px py sg A' B' C' X' Y' D' bx9 := hif
    obtain ⟨f1, f2⟩ := meet_tie hsg hn h1 h2
    rw [if_neg (fun q => hc ⟨f1.trans q.1, q.2⟩)] at hif
    obtain ⟨hr2, rfl⟩ := hif
    have m2 : rz_back (wM (oMo th (nI g) (nI h) (nI t) (nI n) (nI z) (nI m) (nI b) (nI k) (nI s.2.2.2) sp co2) px py ph rx ry vi sg fi se tk pa im de s.1 s.2.1 s.2.2.1 A B C X Y D bx9 ou) (wMy (oMo 1 (nI g) (nI h) (nI t) (nI n) (nI z) (nI m) (nI b) (nI k) (nI s.2.2.2) sp k2) px py sg A' B' C' X' Y' D' bx9) = wM (oMo 1 (nI g) (nI h) (nI t) (nI n) (nI z) (nI m) (nI b) (nI k) (nI s.2.2.2) sp k2) px py ph rx ry vi sg fi se tk pa im de s.1 s.2.1 s.2.2.1 A' B' C' X' Y' D' bx9 ou := rfl
    have e2 : rz_back ((0, oCW (nI t)) :: (wLk px py ph rx ry vi spx (nI g) (nI h) ++ (wSg fx fy mi ax ay bx b2 (nI n) ++ (wSh a' b' c' ex' ey' tx' lx' ty' ly' k' ++ (wPl fi se mj tk le bo rg tp la (nI z) (nI m) sp ++ (wBo pb pl pe pt lp im (nI k) (nI b) ++ (wCl de s.1 s.2.1 s.2.2.1 (nI s.2.2.2) ++ wM (oMo th (nI g) (nI h) (nI t) (nI n) (nI z) (nI m) (nI b) (nI k) (nI s.2.2.2) sp co2) px py ph rx ry vi sg fi se tk pa im de s.1 s.2.1 s.2.2.1 A B C X Y D bx9 ou))))))) (wMy (oMo 1 (nI g) (nI h) (nI t) (nI n) (nI z) (nI m) (nI b) (nI k) (nI s.2.2.2) sp k2) px py sg A' B' C' X' Y' D' bx9) = (0, oCW (nI t)) :: (wLk px py ph rx ry vi spx (nI g) (nI h) ++ (wSg fx fy mi ax ay bx b2 (nI n) ++ (wSh a' b' c' ex' ey' tx' lx' ty' ly' k' ++ (wPl fi se mj tk le bo rg tp la (nI z) (nI m) sp ++ (wBo pb pl pe pt lp im (nI k) (nI b) ++ (wCl de s.1 s.2.1 s.2.2.1 (nI s.2.2.2) ++ wM (oMo 1 (nI g) (nI h) (nI t) (nI n) (nI z) (nI m) (nI b) (nI k) (nI s.2.2.2) sp k2) px py ph rx ry vi sg fi se tk pa im de s.1 s.2.1 s.2.2.1 A' B' C' X' Y' D' bx9 ou)))))) := by
      rw [← m2]
      exact bkM (ks := kMy) rfl rfl rfl rfl rfl rfl rfl (by decide)
    rw [e2]
    conv => whnf
    intro v_ ev_
    have ev_ := ev_.symm
    subst ev_
    conv => whnf
    refine ⟨show cs + 1 + 0 + 0 ≤ 601024 by omega, show sl + 6 + 0 + 0 ≤ 7293034 by omega, ?_⟩
    conv => whnf
    refine ⟨⟨1, nI g, nI h, nI t, nI n, nI z, nI m, nI b, nI k, nI s.2.2.2, sp, k2, rfl, rfl, trivial⟩, ?_⟩
    intro r3 hr3
    have hr3 : r3 = 1 := hr3
    subst hr3
    conv => whnf
    refine ⟨fun _ => ?_, fun y9 => absurd rfl y9⟩
    conv => whnf
    refine ⟨fun y9 => absurd y9 (by decide), fun _ => ?_⟩
    conv => whnf
    refine ⟨0, Nat.zero_lt_one, px, py, ph, rx, ry, vi, spx, fx, fy, mi, ax, ay, bx, b2, fi, se, mj, tk, le, bo, rg, tp, la, pb, pl, pe, pt, lp, im, de, sg, pa, s, a', b', c', ex', ey', tx', lx', ty', ly', A', B', C', X', Y', D', bx9, ou, t, g, h, n, z, m, k, b, sp, k', 1, k2, rfl, rfl, ⟨⟨ht, hg, hh, hn, hz, hm, hk, hb, hq⟩, hpo, hsg, hpl, hbo, hde⟩, show cs + 1 + 0 + 0 ≤ 74 + i + 1 by omega, show sl + 6 + 0 + 0 ≤ 5741 + 6 * (i + 1) by omega⟩
