/-! Class and reference tied: plots and tracks. -/
theorem t32_64 {v : Int64} (h : v.toInt.natAbs ≤ 20000000) : (v.toInt32).toInt64 = v := by
  apply Int64.toInt_inj.mp
  rw [i32_64, Int64.toInt_toInt32]
  exact Int.bmod_eq_of_le (by omega) (by omega)
theorem gap_tie {l h m g : Int32} (h1 : l.toInt ≤ h.toInt) (h2 : m.toInt ≤ g.toInt) (b1 : l.toInt.natAbs ≤ 20000000) (b2 : h.toInt.natAbs ≤ 20000000) (b3 : m.toInt.natAbs ≤ 20000000) (b4 : g.toInt.natAbs ≤ 20000000) : gpF l h m g = gmF m.toInt64 g.toInt64 l.toInt64 h.toInt64 := by
  have c1 : l.toInt64.toInt.natAbs ≤ 20000000 := by rw [i32_64]; exact b1
  have c2 : h.toInt64.toInt.natAbs ≤ 20000000 := by rw [i32_64]; exact b2
  have c3 : m.toInt64.toInt.natAbs ≤ 20000000 := by rw [i32_64]; exact b3
  have c4 : g.toInt64.toInt.natAbs ≤ 20000000 := by rw [i32_64]; exact b4
  have s1 := (ab_sub 20000000 20000000 c3 c2 (by omega)).1
  have s2 := (ab_sub 20000000 20000000 c1 c4 (by omega)).1
  rw [i32_64, i32_64] at s1 s2
  have e0 : (0 : Int64).toInt = 0 := rfl
  unfold gpF gmF mxL
  simp only [Int32.lt_iff_toInt_lt, Int64.lt_iff_toInt_lt]
  by_cases z1 : h.toInt < m.toInt
  · rw [if_pos z1]
    by_cases z3 : (m.toInt64 - h.toInt64).toInt < (l.toInt64 - g.toInt64).toInt
    · rw [s1, s2] at z3; omega
    · rw [if_neg z3, if_pos (by rw [s1, e0]; omega)]
  · rw [if_neg z1]
    by_cases z2 : g.toInt < l.toInt
    · rw [if_pos z2]
      by_cases z3 : (m.toInt64 - h.toInt64).toInt < (l.toInt64 - g.toInt64).toInt
      · rw [if_pos z3, if_pos (by rw [s2, e0]; omega)]
      · rw [s1, s2] at z3; omega
    · rw [if_neg z2]
      by_cases z3 : (m.toInt64 - h.toInt64).toInt < (l.toInt64 - g.toInt64).toInt
      · rw [if_pos z3, if_neg (by rw [s2, e0]; omega)]
      · rw [if_neg z3, if_neg (by rw [s1, e0]; omega)]
def bxI (le bo rg tp : Nat → Int32) (p : Nat) : Prop := (le p).toInt ≤ (rg p).toInt ∧ (bo p).toInt ≤ (tp p).toInt ∧ (le p).toInt.natAbs ≤ 20000000 ∧ (rg p).toInt.natAbs ≤ 20000000 ∧ (bo p).toInt.natAbs ≤ 20000000 ∧ (tp p).toInt.natAbs ≤ 20000000
def plI (px py sg fi se tk mj le bo rg tp la : Nat → Int32) (n z m : Nat) : Prop :=
  plOK px py sg n fi se tk z m (fun p => (le p).toInt64) (fun p => (bo p).toInt64) (fun p => (rg p).toInt64) (fun p => (tp p).toInt64) (fun t => (la t).toNatClampNeg) ∧ (∀ t, t < m → ∃ p, p < z ∧ la t = nI p) ∧ ∀ p, p < z → mj p = sg (6 * (fi p).toNatClampNeg + 1) ∧ bxI le bo rg tp p
theorem plOK_u {px py sg fi se tk : Nat → Int32} {n z m : Nat} {bl bb br bt bl' bb' br' bt' : Nat → Int64} {L L' : Nat → Nat} (h : plOK px py sg n fi se tk z m bl bb br bt L) (h' : plOK px py sg n fi se tk z m bl' bb' br' bt' L') : (∀ p, p < z → bl' p = bl p ∧ bb' p = bb p ∧ br' p = br p ∧ bt' p = bt p) ∧ ∀ t, t < m → L' t = L t := by
  refine ⟨fun p hp => ?_, fun t ht => lsP_u (h'.2 t ht) (h.2 t ht)⟩
  obtain ⟨X', Y', D', q, hr⟩ := (h.1 p hp).2.1
  obtain ⟨k1, q1, f1, f2, f3, f4⟩ := (h'.1 p hp).2.2 X' Y' D' q hr
  obtain ⟨k2, q2, g1, g2, g3, g4⟩ := (h.1 p hp).2.2 X' Y' D' q hr
  have ek : k1 = k2 := by omega
  subst ek
  exact ⟨f1.symm.trans g1, f2.symm.trans g2, f3.symm.trans g3, f4.symm.trans g4⟩
theorem upd_s {f : Nat → Int32} {k : Nat} {v : Int32} : upd f k v k = v := by unfold upd; rw [if_pos rfl]
theorem upd_n {f : Nat → Int32} {k i : Nat} {v : Int32} (h : ¬ i = k) : upd f k v i = f i := by unfold upd; rw [if_neg h]
/-- a new plot's box, by any run of the reference -/
theorem newbox {px py sg fx fy mi ax ay bx b2 : Nat → Int32} {g n t : Nat} (h : sgI px py sg fx fy mi ax ay bx b2 g n t) (hn : n ≤ 100) {a b c ex ey tx lx ty ly : Nat → Int64} {co x y : Int32} {a' b' c' ex' ey' tx' lx' ty' ly' : Nat → Int64} {j : Nat} {r : Int32} (hm : mtR fx fy mi ax ay bx b2 n a b c ex ey tx lx ty ly co x y r a' b' c' ex' ey' tx' lx' ty' ly' (nI j)) (hj : j ≤ 6) (hr : r = 1) (ok : paP px py sg n x y) {X Y D : Nat → Int64} {q : Nat} (hq : rnR px py sg x.toNatClampNeg y.toNatClampNeg X Y D q) : ∃ k, q = k + 1 ∧ j = q ∧ (bxF tx' lx' ty' ly' j 0).toInt64 = mnF X D k ∧ (bxF tx' lx' ty' ly' j 1).toInt64 = mnF Y D k ∧ (bxF tx' lx' ty' ly' j 2).toInt64 = mxF X D k ∧ (bxF tx' lx' ty' ly' j 3).toInt64 = mxF Y D k ∧ ((bxF tx' lx' ty' ly' j 0).toInt ≤ (bxF tx' lx' ty' ly' j 2).toInt ∧ (bxF tx' lx' ty' ly' j 1).toInt ≤ (bxF tx' lx' ty' ly' j 3).toInt ∧ (bxF tx' lx' ty' ly' j 0).toInt.natAbs ≤ 20000000 ∧ (bxF tx' lx' ty' ly' j 2).toInt.natAbs ≤ 20000000 ∧ (bxF tx' lx' ty' ly' j 1).toInt.natAbs ≤ 20000000 ∧ (bxF tx' lx' ty' ly' j 3).toInt.natAbs ≤ 20000000) := by
  obtain ⟨k1, k2, k3, k4⟩ := any_tie h hn hm ok hq
  have ej : j = q := nI_inj (by omega) (by omega) k1
  subst ej
  rcases j with _ | k
  · rw [k4] at hr
    unfold kdF at hr
    rw [if_pos (show nI 0 = 0 from nI_0)] at hr
    exact absurd hr (by decide)
  · obtain ⟨e0, e1, e2, e3⟩ := box_tie k3
    have bX := mn_ab (X := X) (Y := Y) (D := D) (n := k + 1) (fun i hi => ⟨(k3 i hi).2.2.1, (k3 i hi).2.2.2.2.1, (k3 i hi).2.2.2.2.2⟩) k (by omega)
    have bY := mn_ab (X := Y) (Y := X) (D := D) (n := k + 1) (fun i hi => ⟨(k3 i hi).2.2.2.1, (k3 i hi).2.2.2.2.1, (k3 i hi).2.2.2.2.2⟩) k (by omega)
    have c0 := t32_64 bX.1
    have c1 := t32_64 bY.1
    have c2 := t32_64 bX.2.1
    have c3 := t32_64 bY.2.1
    rw [← e0] at c0
    rw [← e1] at c1
    rw [← e2] at c2
    rw [← e3] at c3
    have d0 := congrArg Int64.toInt c0
    have d1 := congrArg Int64.toInt c1
    have d2 := congrArg Int64.toInt c2
    have d3 := congrArg Int64.toInt c3
    rw [i32_64] at d0 d1 d2 d3
    exact ⟨k, rfl, rfl, c0, c1, c2, c3, by omega, by omega, by omega, by omega, by omega, by omega⟩
theorem near_tie {px py sg fi se tk mj le bo rg tp la : Nat → Int32} {n z m t0 : Nat} (h : plI px py sg fi se tk mj le bo rg tp la n z m) (hz : z ≤ 60) (hn : n ≤ 100) (hsg : ∀ i, i < n → 0 ≤ (sg (6 * i + 1)).toInt ∧ (sg (6 * i + 1)).toInt ≤ 20000) {bl bb br bt : Nat → Int64} {L : Nat → Nat} (hp : plOK px py sg n fi se tk z m bl bb br bt L) {mu l0 l1 l2 l3 sp : Int32} {a b c d : Int64} (hmu : 0 ≤ mu.toInt ∧ mu.toInt ≤ 20000) (ea : l0.toInt64 = a) (eb : l1.toInt64 = b) (ec : l2.toInt64 = c) (ed : l3.toInt64 = d) (hb : l0.toInt ≤ l2.toInt ∧ l1.toInt ≤ l3.toInt ∧ l0.toInt.natAbs ≤ 20000000 ∧ l2.toInt.natAbs ≤ 20000000 ∧ l1.toInt.natAbs ≤ 20000000 ∧ l3.toInt.natAbs ≤ 20000000) : ∀ t, t ≤ m → ntF (upd mj z mu) la (upd le z l0) (upd bo z l1) (upd rg z l2) (upd tp z l3) sp z t = nmF sg fi bl bb br bt L sp mu a b c d t := by
  obtain ⟨h1, h2, h3⟩ := h
  obtain ⟨u1, u2⟩ := plOK_u h1 hp
  intro t
  induction t with
  | zero => intro _; rfl
  | succ t ih =>
    intro ht
    have ih := ih (by omega)
    obtain ⟨p, hpz, ela⟩ := h2 t (by omega)
    have hcl : (la t).toNatClampNeg = p := by rw [ela, nI_clamp (by omega)]
    have eL : L t = p := by rw [u2 t (by omega), hcl]
    obtain ⟨v1, v2, v3, v4⟩ := u1 p hpz
    obtain ⟨w1, w2, w3, w4, w5, w6, w7⟩ := h3 p hpz
    obtain ⟨i1, hi1, ei1⟩ := okS_nat ((h1.1 p hpz).1).1 (by omega)
    have hmp := hsg i1 hi1
    have ecl : (fi p).toNatClampNeg = i1 := by rw [ei1, nI_clamp (by omega)]
    have hne : ¬ p = z := by omega
    have esq : sqF (upd le z l0) (upd bo z l1) (upd rg z l2) (upd tp z l3) p z = sqM bl bb br bt a b c d p := by
      unfold sqF sqM
      rw [upd_n hne, upd_n hne, upd_n hne, upd_n hne, upd_s, upd_s, upd_s, upd_s, gap_tie w2 hb.1 w4 w5 hb.2.2.1 hb.2.2.2.1, gap_tie w3 hb.2.1 w6 w7 hb.2.2.2.2.1 hb.2.2.2.2.2, ea, eb, ec, ed, v1, v2, v3, v4]
    have hsub : (mu - sg (6 * i1 + 1)).toInt = mu.toInt - (sg (6 * i1 + 1)).toInt := by
      rw [Int32.toInt_sub]
      exact Int.bmod_eq_of_le (by omega) (by omega)
    have hlt : upd mj z mu p < upd mj z mu z ↔ 0 < mu - sg (6 * (fi p).toNatClampNeg + 1) := by
      rw [upd_n hne, upd_s, w1, ecl, Int32.lt_iff_toInt_lt, Int32.lt_iff_toInt_lt, hsub]
      have e0 : (0 : Int32).toInt = 0 := rfl
      omega
    have ewy : upd mj z mu z - upd mj z mu p = mu - sg (6 * (fi p).toNatClampNeg + 1) := by rw [upd_n hne, upd_s, w1]
    show (if upd mj z mu (la t).toNatClampNeg < upd mj z mu z ∧ sqF (upd le z l0) (upd bo z l1) (upd rg z l2) (upd tp z l3) (la t).toNatClampNeg z ≤ sp.toInt64 * (upd mj z mu z - upd mj z mu (la t).toNatClampNeg).toInt64 * (sp.toInt64 * (upd mj z mu z - upd mj z mu (la t).toNatClampNeg).toInt64) ∧ ((ntF (upd mj z mu) la (upd le z l0) (upd bo z l1) (upd rg z l2) (upd tp z l3) sp z t).1 = -1 ∨ sqF (upd le z l0) (upd bo z l1) (upd rg z l2) (upd tp z l3) (la t).toNatClampNeg z < (ntF (upd mj z mu) la (upd le z l0) (upd bo z l1) (upd rg z l2) (upd tp z l3) sp z t).2) then (nI t, sqF (upd le z l0) (upd bo z l1) (upd rg z l2) (upd tp z l3) (la t).toNatClampNeg z) else ntF (upd mj z mu) la (upd le z l0) (upd bo z l1) (upd rg z l2) (upd tp z l3) sp z t) = if nmP sg fi bl bb br bt sp mu a b c d (L t) (nmF sg fi bl bb br bt L sp mu a b c d t) then (nI t, sqM bl bb br bt a b c d (L t)) else nmF sg fi bl bb br bt L sp mu a b c d t
    rw [ih, hcl, eL, esq, ewy]
    unfold nmP wyM
    simp only [hlt]
/-- the plots with one more -/
theorem plI_s {px py sg fi se tk mj le bo rg tp la : Nat → Int32} {n z m : Nat} (h : plI px py sg fi se tk mj le bo rg tp la n z m) (hz : z < 60) (hm : m ≤ z) {x y l0 l1 l2 l3 : Int32} {T : Nat} (hT : T ≤ m) (ok : paP px py sg n x y) (hex : ∃ X Y D q, rnR px py sg x.toNatClampNeg y.toNatClampNeg X Y D q) (hbx : ∀ X Y D q, rnR px py sg x.toNatClampNeg y.toNatClampNeg X Y D q → bxV X Y D q l0.toInt64 l1.toInt64 l2.toInt64 l3.toInt64) (hb : l0.toInt ≤ l2.toInt ∧ l1.toInt ≤ l3.toInt ∧ l0.toInt.natAbs ≤ 20000000 ∧ l2.toInt.natAbs ≤ 20000000 ∧ l1.toInt.natAbs ≤ 20000000 ∧ l3.toInt.natAbs ≤ 20000000) : plI px py sg (upd fi z x) (upd se z y) (upd tk z (nI T)) (upd mj z (sg (6 * x.toNatClampNeg + 1))) (upd le z l0) (upd bo z l1) (upd rg z l2) (upd tp z l3) (upd la T (nI z)) n (z + 1) (if T = m then m + 1 else m) := by
  obtain ⟨⟨h1, h1'⟩, h2, h3⟩ := h
  have hlt : ∀ t, t < (if T = m then m + 1 else m) → t ≠ T → t < m := by
    intro t ht hne
    by_cases q : T = m
    · rw [if_pos q] at ht; omega
    · rw [if_neg q] at ht; exact ht
  refine ⟨⟨fun p hp => ?_, fun t ht => ?_⟩, fun t ht => ?_, fun p hp => ?_⟩
  · by_cases q : p = z
    · subst q
      show paP px py sg n (upd fi p x p) (upd se p y p) ∧ _
      simp only [upd_s]
      exact ⟨ok, hex, hbx⟩
    · simp only [upd_n q]
      exact h1 p (by omega)
  · show lsP (upd tk z (nI T)) (z + 1) (nI t) (upd la T (nI z) t).toNatClampNeg
    by_cases q : t = T
    · subst q
      rw [upd_s, nI_clamp (by omega)]
      exact ⟨by omega, upd_s, fun u h5 h6 => by omega⟩
    · rw [upd_n q]
      have htm := hlt t ht q
      obtain ⟨g1, g2, g3⟩ := h1' t htm
      have g1 : (la t).toNatClampNeg < z := g1
      refine ⟨by omega, ?_, fun u h5 h6 => ?_⟩
      · rw [upd_n (by omega)]; exact g2
      · by_cases y9 : u = z
        · rw [y9, upd_s]
          intro e
          exact q (nI_inj (by omega) (by omega) e).symm
        · rw [upd_n y9]; exact g3 u h5 (by omega)
  · by_cases q : t = T
    · rw [q, upd_s]; exact ⟨z, by omega, rfl⟩
    · rw [upd_n q]
      obtain ⟨p, p1, p2⟩ := h2 t (hlt t ht q)
      exact ⟨p, by omega, p2⟩
  · by_cases q : p = z
    · subst q
      unfold bxI
      simp only [upd_s]
      exact ⟨trivial, hb⟩
    · unfold bxI
      simp only [upd_n q]
      exact h3 p (by omega)
