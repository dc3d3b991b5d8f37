/-! Class and reference tied: corners, floors. -/
theorem cdF_gcd : ∀ (k : Nat) (l s : Int64) (n : Nat), 0 ≤ l.toInt → 0 ≤ s.toInt → s.toInt < 2 ^ k → 2 * k + 1 ≤ n → (cdF n l s).toInt = (Nat.gcd l.toInt.toNat s.toInt.toNat : Int) := by
  have z0 : ∀ (l s : Int64) (n : Nat), 0 ≤ l.toInt → s.toInt = 0 → (cdF (n + 1) l s).toInt = (Nat.gcd l.toInt.toNat s.toInt.toNat : Int) := by
    intro l s n hl hs
    have e : s = 0 := Int64.toInt_inj.mp hs
    show (if s = 0 then l else _).toInt = _
    rw [if_pos e, hs]
    have : Nat.gcd l.toInt.toNat (0 : Int).toNat = l.toInt.toNat := Nat.gcd_zero_right _
    rw [this]
    omega
  intro k
  induction k with
  | zero =>
    intro l s n hl hs hk hn
    obtain ⟨n', rfl⟩ : ∃ n', n = n' + 1 := ⟨n - 1, by omega⟩
    have hk : s.toInt < 1 := hk
    exact z0 l s n' hl (by omega)
  | succ k ih =>
    intro l s n hl hs hk hn
    obtain ⟨n', rfl⟩ : ∃ n', n = n' + 2 := ⟨n - 2, by omega⟩
    by_cases h0 : s.toInt = 0
    · exact z0 l s (n' + 1) hl h0
    · have hne : ¬ s = 0 := fun z => h0 (by rw [z]; rfl)
      have hr := lrem_toInt hl (show 0 < s.toInt by omega)
      have e1 : cdF (n' + 2) l s = cdF (n' + 1) s (l - l / s * s) := by
        show (if s = 0 then l else cdF (n' + 1) s (l - l / s * s)) = _
        rw [if_neg hne]
      have hg : Nat.gcd l.toInt.toNat s.toInt.toNat = Nat.gcd s.toInt.toNat (l.toInt % s.toInt).toNat := by
        rw [Int.toNat_emod hl hs, Nat.gcd_comm, Nat.gcd_rec, Nat.gcd_comm]
      have hm0 := Int.emod_nonneg l.toInt (show s.toInt ≠ 0 by omega)
      have hm1 := Int.emod_lt_of_pos l.toInt (show 0 < s.toInt by omega)
      rw [e1, hg, ← hr]
      generalize l - l / s * s = r at *
      rw [← hr] at hm0 hm1
      by_cases h1 : r.toInt = 0
      · exact z0 s r n' hs h1
      · have hne1 : ¬ r = 0 := fun z => h1 (by rw [z]; rfl)
        have hr2 := lrem_toInt hs (show 0 < r.toInt by omega)
        have e2 : cdF (n' + 1) s r = cdF n' r (s - s / r * r) := by
          show (if r = 0 then s else cdF n' r (s - s / r * r)) = _
          rw [if_neg hne1]
        have hg2 : Nat.gcd s.toInt.toNat r.toInt.toNat = Nat.gcd r.toInt.toNat (s.toInt % r.toInt).toNat := by
          rw [Int.toNat_emod hs hm0, Nat.gcd_comm, Nat.gcd_rec, Nat.gcd_comm]
        have hn0 := Int.emod_nonneg s.toInt (show r.toInt ≠ 0 by omega)
        have hn1 := Int.emod_lt_of_pos s.toInt (show 0 < r.toInt by omega)
        have hd := Int.mul_ediv_add_emod s.toInt r.toInt
        have hq : 1 ≤ s.toInt / r.toInt := (Int.le_ediv_iff_mul_le (by omega)).mpr (by omega)
        have hmul : r.toInt ≤ r.toInt * (s.toInt / r.toInt) := by
          have := Int.mul_le_mul_of_nonneg_left hq hm0
          omega
        have hp : (2 : Int) ^ (k + 1) = 2 * 2 ^ k := by rw [Int.pow_succ]; omega
        rw [e2, hg2, ← hr2]
        refine ih r _ n' hm0 (by rw [hr2]; exact hn0) ?_ (by omega)
        rw [hr2]
        omega
theorem g1F_toInt {x d : Int64} (hx : x.toInt.natAbs ≤ 20000000) (hd0 : 0 < d.toInt) (hd : d.toInt ≤ 5000) : (g1F x d).toInt = (Nat.gcd x.toInt.natAbs d.toInt.natAbs : Int) := by
  have e1 : (abL x).toInt = x.toInt.natAbs := abL_toInt (by omega)
  have e2 : (abL d).toInt = d.toInt.natAbs := abL_toInt (by omega)
  have h := cdF_gcd 13 (abL x) (abL d) 128 (by omega) (by omega) (by show (abL d).toInt < 8192; omega) (by omega)
  rw [show (abL x).toInt.toNat = x.toInt.natAbs by omega, show (abL d).toInt.toNat = d.toInt.natAbs by omega] at h
  exact h
theorem tdiv_exact {x g q : Int} (hg : 0 < g) (h : x = g * q) : x.tdiv g = q := by
  rw [h, Int.mul_tdiv_cancel_left _ (by omega)]
/-- the quotient by a common divisor -/
theorem ovr_toInt {v g : Int64} {G : Int} (hg : g.toInt = G) (h1 : 1 ≤ G) (hv : v.toInt.natAbs ≤ 20000000) (hdv : G ∣ v.toInt) : (ovr v g).toInt * G = v.toInt := by
  obtain ⟨q, hq⟩ := hdv
  unfold ovr
  by_cases z : 1 < g
  · rw [if_pos z]
    have z : (1 : Int64).toInt < g.toInt := Int64.lt_iff_toInt_lt.mp z
    have e : (v / g).toInt = q := by
      rw [Int64.toInt_div, hg, tdiv_exact (by omega) hq]
      have : q.natAbs ≤ v.toInt.natAbs := by
        rw [hq, Int.natAbs_mul]
        exact Nat.le_mul_of_pos_left _ (by omega)
      exact i64_bm (by omega) (by omega)
    rw [e, hq, Int.mul_comm]
  · rw [if_neg z]
    have z : ¬ (1 : Int64).toInt < g.toInt := fun y => z (Int64.lt_iff_toInt_lt.mpr y)
    have e1 : (1 : Int64).toInt = 1 := rfl
    have : G = 1 := by omega
    rw [this, Int.mul_one]
theorem cmp_congr {a b c d : Int64} (h1 : a.toInt < b.toInt ↔ c.toInt < d.toInt) (h2 : b.toInt < a.toInt ↔ d.toInt < c.toInt) : lg_cmp a b = lg_cmp c d := by
  unfold lg_cmp
  have e1 : a > b ↔ c > d := by
    show b < a ↔ d < c
    rw [Int64.lt_iff_toInt_lt, Int64.lt_iff_toInt_lt]; exact h2
  have e2 : a = b ↔ c = d := by
    rw [← Int64.toInt_inj, ← Int64.toInt_inj]
    omega
  by_cases z : a > b
  · rw [if_pos z, if_pos (e1.mp z)]
  · rw [if_neg z, if_neg (fun q => z (e1.mpr q))]
    by_cases y : a = b
    · rw [if_pos y, if_pos (e2.mp y)]
    · rw [if_neg y, if_neg (fun q => y (e2.mpr q))]
/-- a reduced corner against a raw one -/
def rdP (v d t l : Int64) : Prop := t = ovr v (g1F v d) ∧ l = ovr d (g1F v d)
theorem rdP_s {v d t l : Int64} (h : rdP v d t l) (hv : v.toInt.natAbs ≤ 20000000) (hd0 : 0 < d.toInt) (hd : d.toInt ≤ 5000) : ∃ G : Int, 1 ≤ G ∧ G = (Nat.gcd v.toInt.natAbs d.toInt.natAbs : Int) ∧ t.toInt * G = v.toInt ∧ l.toInt * G = d.toInt ∧ t.toInt.natAbs ≤ 20000000 ∧ 0 < l.toInt ∧ l.toInt ≤ 5000 := by
  obtain ⟨rfl, rfl⟩ := h
  have hg := g1F_toInt hv hd0 hd
  have hpos : 0 < Nat.gcd v.toInt.natAbs d.toInt.natAbs := Nat.gcd_pos_of_pos_right _ (by omega)
  have d1 : (Nat.gcd v.toInt.natAbs d.toInt.natAbs : Int) ∣ v.toInt := Int.ofNat_dvd_left.mpr (Nat.gcd_dvd_left _ _)
  have d2 : (Nat.gcd v.toInt.natAbs d.toInt.natAbs : Int) ∣ d.toInt := Int.ofNat_dvd_left.mpr (Nat.gcd_dvd_right _ _)
  have a1 := ovr_toInt hg (by omega) hv d1
  have a2 := ovr_toInt hg (by omega) (by omega) d2
  have hG : 1 ≤ (Nat.gcd v.toInt.natAbs d.toInt.natAbs : Int) := by omega
  generalize ovr v (g1F v d) = t at *
  generalize ovr d (g1F v d) = l at *
  generalize (Nat.gcd v.toInt.natAbs d.toInt.natAbs : Int) = G at *
  refine ⟨G, hG, rfl, a1, a2, ?_, ?_, ?_⟩
  · have : t.toInt.natAbs ≤ v.toInt.natAbs := by
      rw [← a1, Int.natAbs_mul]
      exact Nat.le_mul_of_pos_right _ (by omega)
    omega
  · rw [← a2] at hd0
    exact Int.pos_of_mul_pos_left hd0 (by omega)
  · have hl0 : 0 < l.toInt := by
      rw [← a2] at hd0
      exact Int.pos_of_mul_pos_left hd0 (by omega)
    have : l.toInt * 1 ≤ l.toInt * G := Int.mul_le_mul_of_nonneg_left hG (by omega)
    omega
theorem mul_lt_G {a b G : Int} (hG : 1 ≤ G) : a * G < b * G ↔ a < b := ⟨fun h => Int.lt_of_mul_lt_mul_right h (by omega), fun h => Int.mul_lt_mul_of_pos_right h (by omega)⟩
theorem cmp_rd {v d t l x e : Int64} (h : rdP v d t l) (hv : v.toInt.natAbs ≤ 20000000) (hd0 : 0 < d.toInt) (hd : d.toInt ≤ 5000) (hx : x.toInt.natAbs ≤ 20000000) (he0 : 0 < e.toInt) (he : e.toInt ≤ 5000) : lg_cmp (t * e) (x * l) = lg_cmp (v * e) (x * d) := by
  obtain ⟨G, hG, -, a1, a2, b1, b2, b3⟩ := rdP_s h hv hd0 hd
  have m1 := (ab_mul 20000000 5000 b1 (show e.toInt.natAbs ≤ 5000 by omega) (by omega)).1
  have m2 := (ab_mul 20000000 5000 hx (show l.toInt.natAbs ≤ 5000 by omega) (by omega)).1
  have m3 := (ab_mul 20000000 5000 hv (show e.toInt.natAbs ≤ 5000 by omega) (by omega)).1
  have m4 := (ab_mul 20000000 5000 hx (show d.toInt.natAbs ≤ 5000 by omega) (by omega)).1
  have e1 : v.toInt * e.toInt = t.toInt * e.toInt * G := by rw [← a1, Int.mul_assoc, Int.mul_assoc, Int.mul_comm G]
  have e2 : x.toInt * d.toInt = x.toInt * l.toInt * G := by rw [← a2, Int.mul_assoc]
  refine cmp_congr ?_ ?_
  · rw [m1, m2, m3, m4, e1, e2, mul_lt_G hG]
  · rw [m1, m2, m3, m4, e1, e2, mul_lt_G hG]
/-- class's corners and the reference's -/
def cnT (tx lx ty ly X Y D : Nat → Int64) (n : Nat) : Prop := ∀ i, i < n → rdP (X i) (D i) (tx i) (lx i) ∧ rdP (Y i) (D i) (ty i) (ly i) ∧ cBd (X i) (Y i) (D i)
theorem orF_tie {tx lx ty ly X Y D : Nat → Int64} {n i : Nat} (h : cnT tx lx ty ly X Y D n) (hi : i < n) {x y d : Int64} (hc : cBd x y d) : orF tx lx ty ly i x y d = orF X D Y D i x y d := by
  obtain ⟨h1, h2, c1, c2, c3, c4⟩ := h i hi
  obtain ⟨k1, k2, k3, k4⟩ := hc
  unfold orF
  rw [cmp_rd h1 c1 c3 c4 k1 k3 k4, cmp_rd h2 c2 c3 c4 k2 k3 k4]
theorem insA_at (f : Nat → Int64) (n t : Nat) (x : Int64) (i : Nat) : insA f n t x i = if i < t then f i else if i = t then x else if i ≤ n then f (i - 1) else f i := rfl
theorem ins_tie {tx lx ty ly X Y D : Nat → Int64} {n : Nat} (h : cnT tx lx ty ly X Y D n) {x y d : Int64} (hc : cBd x y d) {tx' lx' ty' ly' X' Y' D' : Nat → Int64} {n1 n2 : Nat} (a : insR tx lx ty ly n x y d tx' lx' ty' ly' n1) (b : minR X Y D n x y d X' Y' D' n2) : n1 = n2 ∧ cnT tx' lx' ty' ly' X' Y' D' n1 := by
  obtain ⟨t, t1, t2, t3, t4⟩ := a
  obtain ⟨u, u1, u2, u3, u4⟩ := b
  have e : t = u := by
    rcases Nat.lt_or_ge t u with z | z
    · have := u2 t z
      rw [← orF_tie h (by omega) hc] at this
      exact absurd this (t3 (by omega))
    · rcases Nat.lt_or_ge u t with y | y
      · have := t2 u y
        rw [orF_tie h (by omega) hc] at this
        exact absurd this (u3 (by omega))
      · omega
  subst e
  by_cases z : t < n ∧ orF tx lx ty ly t x y d = 0
  · have z' : t < n ∧ orF X D Y D t x y d = 0 := ⟨z.1, by rw [← orF_tie h z.1 hc]; exact z.2⟩
    obtain ⟨rfl, rfl, rfl, rfl, rfl⟩ := if_y t4 z
    obtain ⟨rfl, rfl, rfl, rfl⟩ := if_y u4 z'
    exact ⟨rfl, h⟩
  · have z' : ¬ (t < n ∧ orF X D Y D t x y d = 0) := fun q => z ⟨q.1, by rw [orF_tie h q.1 hc]; exact q.2⟩
    obtain ⟨rfl, rfl, rfl, rfl, rfl⟩ := if_n t4 z
    obtain ⟨rfl, rfl, rfl, rfl⟩ := if_n u4 z'
    refine ⟨rfl, fun i hi => ?_⟩
    simp only [insA_at]
    by_cases g1 : i < t
    · simp only [if_pos g1]
      exact h i (by omega)
    · simp only [if_neg g1]
      by_cases g2 : i = t
      · simp only [if_pos g2]
        exact ⟨⟨rfl, rfl⟩, ⟨rfl, rfl⟩, hc⟩
      · simp only [if_neg g2, if_pos (show i ≤ n by omega)]
        exact h (i - 1) (by omega)
def eq4 (a b : Nat → Int64) : Prop := ∀ k, k < 4 → a k = b k
theorem inA_congr {a b c A B C : Nat → Int64} (ha : eq4 a A) (hb : eq4 b B) (hc : eq4 c C) (x y d : Int64) : inA a b c x y d ↔ inA A B C x y d := by
  unfold inA inP
  rw [ha 0 (by omega), ha 1 (by omega), ha 2 (by omega), ha 3 (by omega), hb 0 (by omega), hb 1 (by omega), hb 2 (by omega), hb 3 (by omega), hc 0 (by omega), hc 1 (by omega), hc 2 (by omega), hc 3 (by omega)]
theorem run_tie {a b c A B C : Nat → Int64} (ha : eq4 a A) (hb : eq4 b B) (hc : eq4 c C) (hB : hBd A B C) {tx lx ty ly X Y D : Nat → Int64} : ∀ {s : Nat} {t l y m : Nat → Int64} {n : Nat} {X' Y' D' : Nat → Int64} {n' : Nat}, s ≤ 6 → fcS a b c tx lx ty ly s t l y m n → fmS A B C X Y D s X' Y' D' n' → n = n' ∧ cnT t l y m X' Y' D' n
  | 0, _, _, _, _, _, _, _, _, _, _, h1, h2 => ⟨by rw [h1.2.2.2.2, h2.2.2.2], fun i hi => absurd hi (by rw [h1.2.2.2.2]; omega)⟩
  | s + 1, _, _, _, _, _, _, _, _, _, hs, h1, h2 => by
    obtain ⟨t0, l0, y0, m0, n0, f1, f2⟩ := h1
    obtain ⟨T0, Y0, M0, N0, g1, g2⟩ := h2
    obtain ⟨e, ih⟩ := run_tie ha hb hc hB (by omega) f1 g1
    subst e
    have hpp : (pP s).1 < 4 ∧ (pP s).2 < 4 := by
      have : ∀ s, s < 6 → (pP s).1 < 4 ∧ (pP s).2 < 4 := by decide
      exact this s (by omega)
    have eD : crD a b (pP s).1 (pP s).2 = crD A B (pP s).1 (pP s).2 := by unfold crD; rw [ha _ hpp.1, ha _ hpp.2, hb _ hpp.1, hb _ hpp.2]
    have eX : crX b c (pP s).1 (pP s).2 = crX B C (pP s).1 (pP s).2 := by unfold crX; rw [hb _ hpp.1, hb _ hpp.2, hc _ hpp.1, hc _ hpp.2]
    have eY : crY a c (pP s).1 (pP s).2 = crY A C (pP s).1 (pP s).2 := by unfold crY; rw [ha _ hpp.1, ha _ hpp.2, hc _ hpp.1, hc _ hpp.2]
    unfold tcR at f2
    unfold mcR at g2
    rw [eD, eX, eY] at f2
    simp only [inA_congr ha hb hc] at f2
    by_cases z : crD A B (pP s).1 (pP s).2 = 0 ∨ ¬ inA A B C (sgn (crD A B (pP s).1 (pP s).2) (crX B C (pP s).1 (pP s).2)) (sgn (crD A B (pP s).1 (pP s).2) (crY A C (pP s).1 (pP s).2)) (sgn (crD A B (pP s).1 (pP s).2) (crD A B (pP s).1 (pP s).2))
    · rw [if_pos z] at f2 g2
      obtain ⟨rfl, rfl, rfl, rfl, rfl⟩ := f2
      obtain ⟨rfl, rfl, rfl, rfl⟩ := g2
      exact ⟨rfl, ih⟩
    · rw [if_neg z] at f2 g2
      exact ins_tie ih (cross_ab hB _ _ hpp.1 hpp.2 (fun q => z (Or.inl q))) f2 g2
theorem enA_congr {a b A B ex ey EX EY : Nat → Int64} (ha : eq4 a A) (hb : eq4 b B) (hx : eq4 ex EX) (hy : eq4 ey EY) : enA a b ex ey ↔ enA A B EX EY := by
  unfold enA ruA ruP
  rw [ha 0 (by omega), ha 1 (by omega), ha 2 (by omega), ha 3 (by omega), hb 0 (by omega), hb 1 (by omega), hb 2 (by omega), hb 3 (by omega), hx 0 (by omega), hx 1 (by omega), hx 2 (by omega), hx 3 (by omega), hy 0 (by omega), hy 1 (by omega), hy 2 (by omega), hy 3 (by omega)]
theorem kdF_congr {a b A B ex ey EX EY : Nat → Int64} (k : Int32) (ha : eq4 a A) (hb : eq4 b B) (hx : eq4 ex EX) (hy : eq4 ey EY) : kdF k a b ex ey = kdF k A B EX EY := by
  unfold kdF
  simp only [enA_congr ha hb hx hy]
/-! Floors. -/
theorem fdv_toInt {x y : Int64} (hx : x.toInt.natAbs ≤ 20000000) (hy0 : 0 < y.toInt) (hy : y.toInt ≤ 5000) : (fdv x y).toInt = x.toInt / y.toInt := by
  have hq : (x / y).toInt = x.toInt.tdiv y.toInt := by
    rw [Int64.toInt_div]
    have : (x.toInt.tdiv y.toInt).natAbs ≤ x.toInt.natAbs := by
      rw [Int.natAbs_tdiv]
      exact Nat.div_le_self _ _
    exact i64_bm (by omega) (by omega)
  have hxor : (x ^^^ y < 0) ↔ x.toInt < 0 := by
    have h1 : ((x ^^^ y) < 0) ↔ (x ^^^ y).toBitVec.msb = true := by
      rw [Int64.lt_iff_toInt_lt]
      show (x ^^^ y).toBitVec.toInt < 0 ↔ _
      rw [BitVec.msb_eq_toInt, decide_eq_true_iff]
    have h2 : (x ^^^ y).toBitVec = x.toBitVec ^^^ y.toBitVec := rfl
    have h3 : y.toBitVec.msb = false := by
      rw [BitVec.msb_eq_toInt]
      exact decide_eq_false (by show ¬ y.toInt < 0; omega)
    rw [h1, h2, BitVec.msb_xor, h3, Bool.xor_false, BitVec.msb_eq_toInt, decide_eq_true_iff]
    rfl
  have hmul : (x / y * y).toInt = x.toInt.tdiv y.toInt * y.toInt := by
    have hqa : (x / y).toInt.natAbs ≤ 20000000 := by
      rw [hq, Int.natAbs_tdiv]
      exact Nat.le_trans (Nat.div_le_self _ _) hx
    rw [(ab_mul 20000000 5000 hqa (show y.toInt.natAbs ≤ 5000 by omega) (by omega)).1, hq]
  have hex : (x / y * y = x) ↔ x.toInt.tdiv y.toInt * y.toInt = x.toInt := by
    rw [← Int64.toInt_inj, hmul]
  have hmod := Int.mul_tdiv_add_tmod x.toInt y.toInt
  have hm := Int.mul_ediv_add_emod x.toInt y.toInt
  have m0 := Int.emod_nonneg x.toInt (show y.toInt ≠ 0 by omega)
  have m1 := Int.emod_lt_of_pos x.toInt hy0
  unfold fdv
  by_cases hneg : x.toInt < 0
  · by_cases he : x.toInt.tdiv y.toInt * y.toInt = x.toInt
    · rw [if_neg (fun z => z.2 (hex.mpr he)), hq]
      have : x.toInt = y.toInt * x.toInt.tdiv y.toInt := by rw [Int.mul_comm]; exact he.symm
      generalize x.toInt.tdiv y.toInt = q at *
      rw [this, Int.mul_ediv_cancel_left _ (by omega)]
    · rw [if_pos ⟨hxor.mpr hneg, fun z => he (hex.mp z)⟩]
      have hq1 : (x / y - 1).toInt = x.toInt.tdiv y.toInt - 1 := by
        have hqa : (x / y).toInt.natAbs ≤ 20000000 := by
          rw [hq, Int.natAbs_tdiv]
          exact Nat.le_trans (Nat.div_le_self _ _) hx
        rw [(ab_sub 20000000 1 hqa (show (1 : Int64).toInt.natAbs ≤ 1 by decide) (by omega)).1, hq]
        rfl
      rw [hq1]
      have t0 : x.toInt.tdiv y.toInt = -((-x.toInt) / y.toInt) := by
        rw [show x.toInt = -(-x.toInt) by omega, Int.neg_tdiv, Int.tdiv_eq_ediv_of_nonneg (by omega), Int.neg_neg]
      rw [t0] at he ⊢
      have hm2 := Int.mul_ediv_add_emod (-x.toInt) y.toInt
      have n0 := Int.emod_nonneg (-x.toInt) (show y.toInt ≠ 0 by omega)
      have n1 := Int.emod_lt_of_pos (-x.toInt) hy0
      generalize (-x.toInt) / y.toInt = q at *
      generalize (-x.toInt) % y.toInt = w at *
      have hw : w ≠ 0 := fun z => he (by rw [Int.neg_mul, Int.mul_comm]; omega)
      have : x.toInt = y.toInt * (-q - 1) + (y.toInt - w) := by
        rw [Int.mul_sub, Int.mul_neg]
        omega
      have e := Int.ediv_emod_unique (a := x.toInt) (b := y.toInt) (r := y.toInt - w) (q := -q - 1) hy0
      exact (e.mpr ⟨by rw [Int.add_comm]; exact this.symm, by omega, by omega⟩).1.symm
  · rw [if_neg (fun z => hneg (hxor.mp z.1)), hq, Int.tdiv_eq_ediv_of_nonneg (by omega)]
