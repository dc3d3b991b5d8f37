/-! The law: case 14. -/
set_option maxHeartbeats 8000000 in
set_option maxRecDepth 20000 in
theorem lw_c14 {L : Nat} {xs : Nat → Int32} (hL : L ≤ 3072) {i : Nat} (hi : i + 6 ≤ L) {lv : rz_L} {w : rz_W} {cs sl : Nat} (hJ : LI i 0 lv w cs sl) : rz_xrun L xs ksL x_df [] ck_l14 xa_l14 k_l14 [] [] [] [] true 601024 7293034 (J50 i) (fun _ _ => False) 1 120 791 lv [] w cs sl := by
  obtain ⟨px, py, ph, rx, ry, vi, spx, fx, fy, mi, ax, ay, bx, b2, fi, se, mj, tk, le, bo, rg, tp, la, pb, pl, pe, pt, lp, im, de, sg, pa, s, a, b0, c, ex, ey, tx, lx, ty, ly, A, B, C, X, Y, D, bx9, ou, t, g, h, n, z, m, k, b, sp, co, th, co2, rfl, rfl, ⟨⟨ht, hg, hh, hn, hz, hm, hk, hb, hq⟩, hpo, hsg, hpl, hbo, hde⟩, hcs, hsl⟩ := hJ
  have v1 : vp_in (nI i + 1) L := vL hL hi 1 (by omega)
  have v2 : vp_in (nI i + 2) L := vL hL hi 2 (by omega)
  have v3 : vp_in (nI i + 3) L := vL hL hi 3 (by omega)
  have v4 : vp_in (nI i + 4) L := vL hL hi 4 (by omega)
  have v5 : vp_in (nI i + 5) L := vL hL hi 5 (by omega)
  conv => whnf
  refine ⟨v1, rfl, ?_⟩
  conv => whnf
  refine ⟨v2, rfl, ?_⟩
  conv => whnf
  refine ⟨v3, rfl, ?_⟩
  conv => whnf
  refine ⟨v4, rfl, ?_⟩
  conv => whnf
  refine ⟨show cs + 0 ≤ 601024 by omega, show sl + 0 ≤ 7293034 by omega, ?_⟩
  conv => whnf
  refine ⟨⟨pb, pl, pe, pt, lp, im, nI t, _, _, _, _, k, b, rfl, rfl, hk, hb⟩, ?_⟩
  intro r wc hwc
  have hwc : if okQ (xs (nI i + 2).toNatClampNeg) (xs (nI i + 3).toNatClampNeg) (xs (nI i + 4).toNatClampNeg) ∧ okT (xs (nI i + 1).toNatClampNeg) b k im then r = (xs (nI i + 1).toNatClampNeg) ∧ (∃ j, (xs (nI i + 1).toNatClampNeg) = nI j ∧ j < 30 ∧ j ≤ b ∧ wc = (0, oCW (nI t)) :: wBo (upd pb k (nI j)) (upd pl k (xs (nI i + 2).toNatClampNeg)) (upd pe k ((xs (nI i + 3).toNatClampNeg) + (xs (nI i + 4).toNatClampNeg))) (upd pt k (nI t)) (upd lp j (nI k)) (if j = b then upd im j (-1) else im) (nI (k + 1)) (nI (if j = b then b + 1 else b))) else r = -1 ∧ wc = (0, oCW (nI t)) :: wBo pb pl pe pt lp im (nI k) (nI b) := hwc k b rfl hk rfl hb
  by_cases q : okQ (xs (nI i + 2).toNatClampNeg) (xs (nI i + 3).toNatClampNeg) (xs (nI i + 4).toNatClampNeg) ∧ okT (xs (nI i + 1).toNatClampNeg) b k im
  · rw [if_pos q] at hwc
    obtain ⟨hr, j, ej, hj, hjb, rfl⟩ := hwc
    have e1 : rz_back ((0, oCW (nI t)) :: (wLk px py ph rx ry vi spx (nI g) (nI h) ++ (wSg fx fy mi ax ay bx b2 (nI n) ++ (wSh a b0 c ex ey tx lx ty ly co ++ (wPl fi se mj tk le bo rg tp la (nI z) (nI m) sp ++ (wBo pb pl pe pt lp im (nI k) (nI b) ++ (wCl de s.1 s.2.1 s.2.2.1 (nI s.2.2.2) ++ wM (oMo th (nI g) (nI h) (nI t) (nI n) (nI z) (nI m) (nI b) (nI k) (nI s.2.2.2) sp co2) px py ph rx ry vi sg fi se tk pa im de s.1 s.2.1 s.2.2.1 A B C X Y D bx9 ou))))))) ((0, oCW (nI t)) :: wBo (upd pb k (nI j)) (upd pl k (xs (nI i + 2).toNatClampNeg)) (upd pe k ((xs (nI i + 3).toNatClampNeg) + (xs (nI i + 4).toNatClampNeg))) (upd pt k (nI t)) (upd lp j (nI k)) (if j = b then upd im j (-1) else im) (nI (k + 1)) (nI (if j = b then b + 1 else b))) = (0, oCW (nI t)) :: (wLk px py ph rx ry vi spx (nI g) (nI h) ++ (wSg fx fy mi ax ay bx b2 (nI n) ++ (wSh a b0 c ex ey tx lx ty ly co ++ (wPl fi se mj tk le bo rg tp la (nI z) (nI m) sp ++ (wBo (upd pb k (nI j)) (upd pl k (xs (nI i + 2).toNatClampNeg)) (upd pe k ((xs (nI i + 3).toNatClampNeg) + (xs (nI i + 4).toNatClampNeg))) (upd pt k (nI t)) (upd lp j (nI k)) (if j = b then upd im j (-1) else im) (nI (k + 1)) (nI (if j = b then b + 1 else b)) ++ (wCl de s.1 s.2.1 s.2.2.1 (nI s.2.2.2) ++ wM (oMo th (nI g) (nI h) (nI t) (nI n) (nI z) (nI m) (nI b) (nI k) (nI s.2.2.2) sp co2) px py ph rx ry vi sg fi se tk pa im de s.1 s.2.1 s.2.2.1 A B C X Y D bx9 ou)))))) := bkE rfl rfl rfl rfl rfl rfl
    rw [e1]
    conv => whnf
    refine ⟨v1, rfl, ?_⟩
    conv => whnf
    refine ⟨v2, rfl, ?_⟩
    conv => whnf
    refine ⟨v3, rfl, ?_⟩
    conv => whnf
    refine ⟨v4, rfl, ?_⟩
    conv => whnf
    refine ⟨show cs + 0 + 1 ≤ 601024 by omega, show sl + 0 + 5 ≤ 7293034 by omega, ?_⟩
    conv => whnf
    refine ⟨⟨pa, im, th, nI g, nI h, nI t, nI n, nI z, nI m, nI s.2.2.2, sp, co2, _, _, _, _, k, b, rfl, rfl, hk, hb⟩, ?_⟩
    intro r2 wd hwd
    have hwd : if okQ (xs (nI i + 2).toNatClampNeg) (xs (nI i + 3).toNatClampNeg) (xs (nI i + 4).toNatClampNeg) ∧ okT (xs (nI i + 1).toNatClampNeg) b k im then r2 = (xs (nI i + 1).toNatClampNeg) ∧ (∃ j2, (xs (nI i + 1).toNatClampNeg) = nI j2 ∧ j2 < 30 ∧ j2 ≤ b ∧ wd = wMb (oMo 0 (nI g) (nI h) (nI t) (nI n) (nI z) (nI m) (nI (if j2 = b then b + 1 else b)) (nI (k + 1)) (nI s.2.2.2) sp co2) (cpN (tl5 (nI j2) (nI t) (xs (nI i + 2).toNatClampNeg) (xs (nI i + 3).toNatClampNeg) (xs (nI i + 4).toNatClampNeg)) (5 * k) pa 5) (if j2 = b then upd im j2 (-1) else im)) else r2 = -1 ∧ wd = wMb (oMo 0 (nI g) (nI h) (nI t) (nI n) (nI z) (nI m) (nI b) (nI k) (nI s.2.2.2) sp co2) pa im := hwd k b rfl hk rfl hb
    rw [if_pos q] at hwd
    obtain ⟨hr2, j2, ej2, hj2, hjb2, rfl⟩ := hwd
    have ejj : j = j2 := nI_inj (by omega) (by omega) (ej.symm.trans ej2)
    subst ejj
    have m2 : rz_back (wM (oMo th (nI g) (nI h) (nI t) (nI n) (nI z) (nI m) (nI b) (nI k) (nI s.2.2.2) sp co2) px py ph rx ry vi sg fi se tk pa im de s.1 s.2.1 s.2.2.1 A B C X Y D bx9 ou) (wMb (oMo 0 (nI g) (nI h) (nI t) (nI n) (nI z) (nI m) (nI (if j = b then b + 1 else b)) (nI (k + 1)) (nI s.2.2.2) sp co2) (cpN (tl5 (nI j) (nI t) (xs (nI i + 2).toNatClampNeg) (xs (nI i + 3).toNatClampNeg) (xs (nI i + 4).toNatClampNeg)) (5 * k) pa 5) (if j = b then upd im j (-1) else im)) = wM (oMo 0 (nI g) (nI h) (nI t) (nI n) (nI z) (nI m) (nI (if j = b then b + 1 else b)) (nI (k + 1)) (nI s.2.2.2) sp co2) px py ph rx ry vi sg fi se tk (cpN (tl5 (nI j) (nI t) (xs (nI i + 2).toNatClampNeg) (xs (nI i + 3).toNatClampNeg) (xs (nI i + 4).toNatClampNeg)) (5 * k) pa 5) (if j = b then upd im j (-1) else im) de s.1 s.2.1 s.2.2.1 A B C X Y D bx9 ou := rfl
    have e2 : rz_back ((0, oCW (nI t)) :: (wLk px py ph rx ry vi spx (nI g) (nI h) ++ (wSg fx fy mi ax ay bx b2 (nI n) ++ (wSh a b0 c ex ey tx lx ty ly co ++ (wPl fi se mj tk le bo rg tp la (nI z) (nI m) sp ++ (wBo (upd pb k (nI j)) (upd pl k (xs (nI i + 2).toNatClampNeg)) (upd pe k ((xs (nI i + 3).toNatClampNeg) + (xs (nI i + 4).toNatClampNeg))) (upd pt k (nI t)) (upd lp j (nI k)) (if j = b then upd im j (-1) else im) (nI (k + 1)) (nI (if j = b then b + 1 else b)) ++ (wCl de s.1 s.2.1 s.2.2.1 (nI s.2.2.2) ++ wM (oMo th (nI g) (nI h) (nI t) (nI n) (nI z) (nI m) (nI b) (nI k) (nI s.2.2.2) sp co2) px py ph rx ry vi sg fi se tk pa im de s.1 s.2.1 s.2.2.1 A B C X Y D bx9 ou))))))) (wMb (oMo 0 (nI g) (nI h) (nI t) (nI n) (nI z) (nI m) (nI (if j = b then b + 1 else b)) (nI (k + 1)) (nI s.2.2.2) sp co2) (cpN (tl5 (nI j) (nI t) (xs (nI i + 2).toNatClampNeg) (xs (nI i + 3).toNatClampNeg) (xs (nI i + 4).toNatClampNeg)) (5 * k) pa 5) (if j = b then upd im j (-1) else im)) = (0, oCW (nI t)) :: (wLk px py ph rx ry vi spx (nI g) (nI h) ++ (wSg fx fy mi ax ay bx b2 (nI n) ++ (wSh a b0 c ex ey tx lx ty ly co ++ (wPl fi se mj tk le bo rg tp la (nI z) (nI m) sp ++ (wBo (upd pb k (nI j)) (upd pl k (xs (nI i + 2).toNatClampNeg)) (upd pe k ((xs (nI i + 3).toNatClampNeg) + (xs (nI i + 4).toNatClampNeg))) (upd pt k (nI t)) (upd lp j (nI k)) (if j = b then upd im j (-1) else im) (nI (k + 1)) (nI (if j = b then b + 1 else b)) ++ (wCl de s.1 s.2.1 s.2.2.1 (nI s.2.2.2) ++ wM (oMo 0 (nI g) (nI h) (nI t) (nI n) (nI z) (nI m) (nI (if j = b then b + 1 else b)) (nI (k + 1)) (nI s.2.2.2) sp co2) px py ph rx ry vi sg fi se tk (cpN (tl5 (nI j) (nI t) (xs (nI i + 2).toNatClampNeg) (xs (nI i + 3).toNatClampNeg) (xs (nI i + 4).toNatClampNeg)) (5 * k) pa 5) (if j = b then upd im j (-1) else im) de s.1 s.2.1 s.2.2.1 A B C X Y D bx9 ou)))))) := by
      rw [← m2]
      exact bkM (ks := [50, 61, 62]) rfl rfl rfl rfl rfl rfl rfl (by decide)
    rw [e2]
    conv => whnf
    refine ⟨fun _ => ?_, fun y9 => absurd (hr.trans hr2.symm) y9⟩
    conv => whnf
    refine ⟨0, Nat.zero_lt_one, px, py, ph, rx, ry, vi, spx, fx, fy, mi, ax, ay, bx, b2, fi, se, mj, tk, le, bo, rg, tp, la, upd pb k (nI j), upd pl k (xs (nI i + 2).toNatClampNeg), upd pe k ((xs (nI i + 3).toNatClampNeg) + (xs (nI i + 4).toNatClampNeg)), upd pt k (nI t), upd lp j (nI k), if j = b then upd im j (-1) else im, de, sg, cpN (tl5 (nI j) (nI t) (xs (nI i + 2).toNatClampNeg) (xs (nI i + 3).toNatClampNeg) (xs (nI i + 4).toNatClampNeg)) (5 * k) pa 5, s, a, b0, c, ex, ey, tx, lx, ty, ly, A, B, C, X, Y, D, bx9, ou, t, g, h, n, z, m, k + 1, if j = b then b + 1 else b, sp, co, 0, co2, rfl, rfl, ⟨⟨ht, hg, hh, hn, hz, hm, q.2.1, (by split <;> omega), hq⟩, hpo, hsg, hpl, boI_plan ht q.2.1 hb hj hjb q.1 hbo, hde⟩, show cs + 0 + 1 ≤ 74 + i + 1 by omega, show sl + 0 + 5 ≤ 5741 + 6 * (i + 1) by omega⟩
  · rw [if_neg q] at hwc
    obtain ⟨hr, rfl⟩ := hwc
    have e1 : rz_back ((0, oCW (nI t)) :: (wLk px py ph rx ry vi spx (nI g) (nI h) ++ (wSg fx fy mi ax ay bx b2 (nI n) ++ (wSh a b0 c ex ey tx lx ty ly co ++ (wPl fi se mj tk le bo rg tp la (nI z) (nI m) sp ++ (wBo pb pl pe pt lp im (nI k) (nI b) ++ (wCl de s.1 s.2.1 s.2.2.1 (nI s.2.2.2) ++ wM (oMo th (nI g) (nI h) (nI t) (nI n) (nI z) (nI m) (nI b) (nI k) (nI s.2.2.2) sp co2) px py ph rx ry vi sg fi se tk pa im de s.1 s.2.1 s.2.2.1 A B C X Y D bx9 ou))))))) ((0, oCW (nI t)) :: wBo pb pl pe pt lp im (nI k) (nI b)) = (0, oCW (nI t)) :: (wLk px py ph rx ry vi spx (nI g) (nI h) ++ (wSg fx fy mi ax ay bx b2 (nI n) ++ (wSh a b0 c ex ey tx lx ty ly co ++ (wPl fi se mj tk le bo rg tp la (nI z) (nI m) sp ++ (wBo pb pl pe pt lp im (nI k) (nI b) ++ (wCl de s.1 s.2.1 s.2.2.1 (nI s.2.2.2) ++ wM (oMo th (nI g) (nI h) (nI t) (nI n) (nI z) (nI m) (nI b) (nI k) (nI s.2.2.2) sp co2) px py ph rx ry vi sg fi se tk pa im de s.1 s.2.1 s.2.2.1 A B C X Y D bx9 ou)))))) := bkE rfl rfl rfl rfl rfl rfl
    rw [e1]
    conv => whnf
    refine ⟨v1, rfl, ?_⟩
    conv => whnf
    refine ⟨v2, rfl, ?_⟩
    conv => whnf
    refine ⟨v3, rfl, ?_⟩
    conv => whnf
    refine ⟨v4, rfl, ?_⟩
    conv => whnf
    refine ⟨show cs + 0 + 1 ≤ 601024 by omega, show sl + 0 + 5 ≤ 7293034 by omega, ?_⟩
    conv => whnf
    refine ⟨⟨pa, im, th, nI g, nI h, nI t, nI n, nI z, nI m, nI s.2.2.2, sp, co2, _, _, _, _, k, b, rfl, rfl, hk, hb⟩, ?_⟩
    intro r2 wd hwd
    have hwd : if okQ (xs (nI i + 2).toNatClampNeg) (xs (nI i + 3).toNatClampNeg) (xs (nI i + 4).toNatClampNeg) ∧ okT (xs (nI i + 1).toNatClampNeg) b k im then r2 = (xs (nI i + 1).toNatClampNeg) ∧ (∃ j2, (xs (nI i + 1).toNatClampNeg) = nI j2 ∧ j2 < 30 ∧ j2 ≤ b ∧ wd = wMb (oMo 0 (nI g) (nI h) (nI t) (nI n) (nI z) (nI m) (nI (if j2 = b then b + 1 else b)) (nI (k + 1)) (nI s.2.2.2) sp co2) (cpN (tl5 (nI j2) (nI t) (xs (nI i + 2).toNatClampNeg) (xs (nI i + 3).toNatClampNeg) (xs (nI i + 4).toNatClampNeg)) (5 * k) pa 5) (if j2 = b then upd im j2 (-1) else im)) else r2 = -1 ∧ wd = wMb (oMo 0 (nI g) (nI h) (nI t) (nI n) (nI z) (nI m) (nI b) (nI k) (nI s.2.2.2) sp co2) pa im := hwd k b rfl hk rfl hb
    rw [if_neg q] at hwd
    obtain ⟨hr2, rfl⟩ := hwd
    have m2 : rz_back (wM (oMo th (nI g) (nI h) (nI t) (nI n) (nI z) (nI m) (nI b) (nI k) (nI s.2.2.2) sp co2) px py ph rx ry vi sg fi se tk pa im de s.1 s.2.1 s.2.2.1 A B C X Y D bx9 ou) (wMb (oMo 0 (nI g) (nI h) (nI t) (nI n) (nI z) (nI m) (nI b) (nI k) (nI s.2.2.2) sp co2) pa im) = wM (oMo 0 (nI g) (nI h) (nI t) (nI n) (nI z) (nI m) (nI b) (nI k) (nI s.2.2.2) sp co2) px py ph rx ry vi sg fi se tk pa im de s.1 s.2.1 s.2.2.1 A B C X Y D bx9 ou := rfl
    have e2 : rz_back ((0, oCW (nI t)) :: (wLk px py ph rx ry vi spx (nI g) (nI h) ++ (wSg fx fy mi ax ay bx b2 (nI n) ++ (wSh a b0 c ex ey tx lx ty ly co ++ (wPl fi se mj tk le bo rg tp la (nI z) (nI m) sp ++ (wBo pb pl pe pt lp im (nI k) (nI b) ++ (wCl de s.1 s.2.1 s.2.2.1 (nI s.2.2.2) ++ wM (oMo th (nI g) (nI h) (nI t) (nI n) (nI z) (nI m) (nI b) (nI k) (nI s.2.2.2) sp co2) px py ph rx ry vi sg fi se tk pa im de s.1 s.2.1 s.2.2.1 A B C X Y D bx9 ou))))))) (wMb (oMo 0 (nI g) (nI h) (nI t) (nI n) (nI z) (nI m) (nI b) (nI k) (nI s.2.2.2) sp co2) pa im) = (0, oCW (nI t)) :: (wLk px py ph rx ry vi spx (nI g) (nI h) ++ (wSg fx fy mi ax ay bx b2 (nI n) ++ (wSh a b0 c ex ey tx lx ty ly co ++ (wPl fi se mj tk le bo rg tp la (nI z) (nI m) sp ++ (wBo pb pl pe pt lp im (nI k) (nI b) ++ (wCl de s.1 s.2.1 s.2.2.1 (nI s.2.2.2) ++ wM (oMo 0 (nI g) (nI h) (nI t) (nI n) (nI z) (nI m) (nI b) (nI k) (nI s.2.2.2) sp co2) px py ph rx ry vi sg fi se tk pa im de s.1 s.2.1 s.2.2.1 A B C X Y D bx9 ou)))))) := by
      rw [← m2]
      exact bkM (ks := [50, 61, 62]) rfl rfl rfl rfl rfl rfl rfl (by decide)
    rw [e2]
    conv => whnf
    refine ⟨fun _ => ?_, fun y9 => absurd (hr.trans hr2.symm) y9⟩
    conv => whnf
    refine ⟨0, Nat.zero_lt_one, px, py, ph, rx, ry, vi, spx, fx, fy, mi, ax, ay, bx, b2, fi, se, mj, tk, le, bo, rg, tp, la, pb, pl, pe, pt, lp, im, de, sg, pa, s, a, b0, c, ex, ey, tx, lx, ty, ly, A, B, C, X, Y, D, bx9, ou, t, g, h, n, z, m, k, b, sp, co, 0, co2, rfl, rfl, ⟨⟨ht, hg, hh, hn, hz, hm, hk, hb, hq⟩, hpo, hsg, hpl, hbo, hde⟩, show cs + 0 + 1 ≤ 74 + i + 1 by omega, show sl + 0 + 5 ≤ 5741 + 6 * (i + 1) by omega⟩
