/-! The law: lemmas of its cases. -/
theorem lp_vp {pb pl pe pt lp im pa : Nat → Int32} {k n t : Nat} (hk : k ≤ 100) (h : boI pb pl pe pt lp im pa k n t) : ∀ b, b < n → vp_in (lp b) 100 := by
  intro b hb
  obtain ⟨j, j1, j2, -⟩ := h.2.1 b hb
  rw [j2]
  exact vp_in_nI (by omega) (by omega)
theorem track_eq {px py sg fi se tk mj le bo rg tp la : Nat → Int32} {n z m : Nat} {x y r r2 : Int32} (h : plI px py sg fi se tk mj le bo rg tp la n z m) (hz : z ≤ 60) (hr : r = if okS x z then (if y = 0 then tk x.toNatClampNeg else if y = 1 then fi x.toNatClampNeg else if y = 2 then se x.toNatClampNeg else if y = 3 then mj x.toNatClampNeg else -1) else -1) (hr2 : r2 = if okS x z then (if y = 0 then tk x.toNatClampNeg else if y = 1 then fi x.toNatClampNeg else if y = 2 then se x.toNatClampNeg else if y = 3 then sg (6 * (fi x.toNatClampNeg).toNatClampNeg + 1) else -1) else -1) : r = r2 := by
  rw [hr, hr2]
  by_cases q : okS x z
  · obtain ⟨p, hp, rfl⟩ := okS_nat q (by omega)
    rw [if_pos q, if_pos q, nI_clamp (by omega), (h.2.2 p hp).1]
  · rw [if_neg q, if_neg q]
theorem vsg {px py sg fx fy mi ax ay bx b2 : Nat → Int32} {g n t : Nat} (h : sgI px py sg fx fy mi ax ay bx b2 g n t) (hg : g ≤ 6) : ∀ i, i < n → vp_in (sg (6 * i + 0)) 6 := by
  intro i hi
  obtain ⟨-, ⟨p, hp, ep⟩, -⟩ := h i hi
  rw [ep]
  exact vp_in_nI (by omega) (by omega)
theorem okN_nat {t : Nat} {y : Int32} (ht : t ≤ 20000) (h : okN y (nI t)) : ∃ x, y = nI x ∧ t + x ≤ 20000 := by
  obtain ⟨⟨h1, h2⟩, h3⟩ := h
  rw [Int32.le_iff_toInt_le] at h1 h2 h3
  rw [i32_0] at h1
  have e1 : (3000 : Int32).toInt = 3000 := rfl
  have e2 : (20000 : Int32).toInt = 20000 := rfl
  have e3 : y = nI y.toInt.toNat := Int32.toInt_inj.mp (by rw [nI_toInt (by omega)]; omega)
  refine ⟨y.toInt.toNat, e3, ?_⟩
  rw [e3, nIa, nI_toInt (by omega)] at h3
  omega
theorem lt_k {k v : Int32} {j : Nat} (ek : k = nI (j + 1)) (hj : j + 1 ≤ 6) (h : 0 ≤ v ∧ v ≤ k - 1) : v.toNatClampNeg < j + 1 ∧ v < k := by
  subst ek
  obtain ⟨i, hi, rfl⟩ := okS_nat (n := j + 1) h (by omega)
  exact ⟨by rw [nI_clamp (by omega)]; exact hi, nI_lt hi (by omega)⟩
theorem le_k {k v : Int32} {j : Nat} (ek : k = nI (j + 1)) (hj : j + 1 ≤ 6) (h : v < k) : v ≤ k - 1 := by
  subst ek
  rw [Int32.lt_iff_toInt_lt, nI_toInt (by omega)] at h
  rw [Int32.le_iff_toInt_le, show (nI (j + 1) - 1).toInt = ((j + 1 : Nat) : Int) - 1 from pk_sub_toInt (a := j + 1) (b := 1) (by omega) (by omega)]
  omega
theorem box_eq {px py sg fx fy mi ax ay bx b2 : Nat → Int32} {g n t : Nat} (h : sgI px py sg fx fy mi ax ay bx b2 g n t) (hn : n ≤ 100) {a b c ex ey tx lx ty ly : Nat → Int64} {co x y : Int32} {a' b' c' ex' ey' tx' lx' ty' ly' : Nat → Int64} {j : Nat} {r u : Int32} (hm : mtR fx fy mi ax ay bx b2 n a b c ex ey tx lx ty ly co x y r a' b' c' ex' ey' tx' lx' ty' ly' (nI j)) (hj : j ≤ 6) (hr : r = 1) (ok : paP px py sg n x y) {X Y D bx9 : Nat → Int64} {q : Nat} (hq : rnR px py sg x.toNatClampNeg y.toNatClampNeg X Y D q) (hu : 0 ≤ u ∧ u ≤ 3) : bxF tx' lx' ty' ly' j u = (bxN X Y D bx9 q u.toNatClampNeg).toInt32 := by
  obtain ⟨k1, k2, k3, k4⟩ := any_tie h hn hm ok hq
  have ej : j = q := nI_inj (by omega) (by omega) k1
  subst ej
  rcases j with _ | k
  · rw [k4] at hr
    unfold kdF at hr
    rw [if_pos (show nI 0 = 0 from nI_0)] at hr
    exact absurd hr (by decide)
  · obtain ⟨e0, e1, e2, e3⟩ := box_tie k3
    rcases u4 hu.1 hu.2 with rfl | rfl | rfl | rfl
    · rw [e0]; rfl
    · rw [e1]; rfl
    · rw [e2]; rfl
    · rw [e3]; rfl
theorem vla {px py sg fi se tk mj le bo rg tp la : Nat → Int32} {n z m : Nat} (h : plI px py sg fi se tk mj le bo rg tp la n z m) (hz : z ≤ 60) : ∀ t, t < m → vp_in (la t) 60 := by
  intro t ht
  obtain ⟨p, hp, ep⟩ := h.2.1 t ht
  rw [ep]
  exact vp_in_nI (by omega) (by omega)
theorem plotted_tie {px py sg fx fy mi ax ay bx b2 fi se tk mj le bo rg tp la : Nat → Int32} {g n t z m j T T2 : Nat} (h : sgI px py sg fx fy mi ax ay bx b2 g n t) (hn : n ≤ 100) (hl : plI px py sg fi se tk mj le bo rg tp la n z m) (hz : z ≤ 60) (hz6 : z < 60) (hmz : m ≤ z) (ht : t ≤ 20000) {a b c ex ey tx lx ty ly : Nat → Int64} {co x y r sp : Int32} {a' b' c' ex' ey' tx' lx' ty' ly' : Nat → Int64} (hm : mtR fx fy mi ax ay bx b2 n a b c ex ey tx lx ty ly co x y r a' b' c' ex' ey' tx' lx' ty' ly' (nI j)) (hj : j ≤ 6) (hr : r = 1) (ok : paP px py sg n x y) {bl bb br bt : Nat → Int64} {L : Nat → Nat} (hp : plOK px py sg n fi se tk z m bl bb br bt L) {bx9 : Nat → Int64} {ba b9 bc bd : Int64} (hb : hbP px py sg x.toNatClampNeg y.toNatClampNeg bx9 ba b9 bc bd)
    (hT : trF (ntF (upd mj z (mi x.toNatClampNeg)) la (upd le z (bxF tx' lx' ty' ly' j 0)) (upd bo z (bxF tx' lx' ty' ly' j 1)) (upd rg z (bxF tx' lx' ty' ly' j 2)) (upd tp z (bxF tx' lx' ty' ly' j 3)) sp z m).1 m = T) (hT2 : T2 = trF (nmF sg fi bl bb br bt L sp (sg (6 * x.toNatClampNeg + 1)) ba b9 bc bd m).1 m) (hTm : T ≤ m) : T = T2 ∧ plI px py sg (upd fi z x) (upd se z y) (upd tk z (nI T)) (upd mj z (mi x.toNatClampNeg)) (upd le z (bxF tx' lx' ty' ly' j 0)) (upd bo z (bxF tx' lx' ty' ly' j 1)) (upd rg z (bxF tx' lx' ty' ly' j 2)) (upd tp z (bxF tx' lx' ty' ly' j 3)) (upd la T (nI z)) n (z + 1) (if T = m then m + 1 else m) := by
  obtain ⟨i1, hi1, ex1⟩ := okS_nat ok.1 (by omega)
  have c1 : x.toNatClampNeg = i1 := by rw [ex1, nI_clamp (by omega)]
  have emi : mi x.toNatClampNeg = sg (6 * x.toNatClampNeg + 1) := by rw [c1]; exact (h i1 hi1).1.2.2.1
  have hmu : 0 ≤ (sg (6 * x.toNatClampNeg + 1)).toInt ∧ (sg (6 * x.toNatClampNeg + 1)).toInt ≤ 20000 := by
    rw [c1]
    obtain ⟨-, -, -, m1, m2⟩ := h i1 hi1
    exact ⟨m1, by omega⟩
  obtain ⟨X, Y, D, q, hrn, ea, eb, ec, ed⟩ := hb
  obtain ⟨k, rfl, ej, n0, n1, n2, n3, nb⟩ := newbox h hn hm hj hr ok hrn
  rw [emi] at hT ⊢
  have hnt := near_tie (sp := sp) (t0 := 0) hl hz hn (fun i hi => ⟨(h i hi).2.2.2.1, by have := (h i hi).2.2.2.2; omega⟩) hp (l0 := bxF tx' lx' ty' ly' j 0) (l1 := bxF tx' lx' ty' ly' j 1) (l2 := bxF tx' lx' ty' ly' j 2) (l3 := bxF tx' lx' ty' ly' j 3) (a := ba) (b := b9) (c := bc) (d := bd) hmu (n0.trans ea.symm) (n1.trans eb.symm) (n2.trans ec.symm) (n3.trans ed.symm) nb m (Nat.le_refl _)
  refine ⟨by rw [← hT, hT2, hnt], plI_s hl hz6 hmz hTm ok ⟨X, Y, D, k + 1, hrn⟩ (fun X' Y' D' q' hr' => ?_) nb⟩
  obtain ⟨k', e1, e2, m0, m1, m2, m3, -⟩ := newbox h hn hm hj hr ok hr'
  exact ⟨k', e1, m0.symm, m1.symm, m2.symm, m3.symm⟩
