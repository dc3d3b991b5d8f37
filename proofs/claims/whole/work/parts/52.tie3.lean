/-! Class and reference tied: boxes, half planes, meets. -/
theorem fl_ab {x : Int64} {y : Int64} (hx : x.toInt.natAbs ≤ 20000000) (hy0 : 0 < y.toInt) (hy : y.toInt ≤ 5000) : (fdv x y).toInt.natAbs ≤ 20000000 := by
  rw [fdv_toInt hx hy0 hy]
  have hm := Int.mul_ediv_add_emod x.toInt y.toInt
  have m0 := Int.emod_nonneg x.toInt (show y.toInt ≠ 0 by omega)
  have m1 := Int.emod_lt_of_pos x.toInt hy0
  have u1 : x.toInt / y.toInt ≤ 20000000 := Int.le_trans (Int.ediv_le_ediv hy0 (show x.toInt ≤ 20000000 by omega)) (Int.ediv_le_self _ (by omega))
  have u2 : -20000000 ≤ x.toInt / y.toInt := by
    refine (Int.le_ediv_iff_mul_le hy0).mpr ?_
    have : (-20000000 : Int) * y.toInt ≤ -20000000 * 1 := Int.mul_le_mul_of_nonpos_left (by omega) (by omega)
    omega
  omega
theorem flr_G {v d t l : Int64} {G : Int} (hG : 1 ≤ G) (a1 : t.toInt * G = v.toInt) (a2 : l.toInt * G = d.toInt) (hv : v.toInt.natAbs ≤ 20000000) (hd0 : 0 < d.toInt) (hd : d.toInt ≤ 5000) (ht : t.toInt.natAbs ≤ 20000000) (hl0 : 0 < l.toInt) (hl : l.toInt ≤ 5000) : flr t l = fdv v d := by
  apply Int64.toInt_inj.mp
  rw [fdv_toInt hv hd0 hd, ← a1, ← a2, Int.mul_ediv_mul_of_pos_left _ _ (by omega)]
  unfold flr
  by_cases z : 1 < l
  · rw [if_pos z, fdv_toInt ht hl0 hl]
  · rw [if_neg z]
    have z : ¬ (1 : Int64).toInt < l.toInt := fun y => z (Int64.lt_iff_toInt_lt.mpr y)
    have e1 : (1 : Int64).toInt = 1 := rfl
    rw [show l.toInt = 1 by omega, Int.ediv_one]
theorem flr_rd {v d t l : Int64} (h : rdP v d t l) (hv : v.toInt.natAbs ≤ 20000000) (hd0 : 0 < d.toInt) (hd : d.toInt ≤ 5000) : flr t l = fdv v d ∧ flr (-t) l = fdv (-v) d := by
  obtain ⟨G, hG, -, a1, a2, b1, b2, b3⟩ := rdP_s h hv hd0 hd
  have n1 := ab_neg 20000000 hv (by omega)
  have n2 := ab_neg 20000000 b1 (by omega)
  exact ⟨flr_G hG a1 a2 hv hd0 hd b1 b2 b3, flr_G hG (by rw [n1.1, n2.1, Int.neg_mul, a1]) a2 n1.2 hd0 hd n2.2 b2 b3⟩
theorem mn_ab {X Y D : Nat → Int64} {n : Nat} (h : ∀ i, i < n → (X i).toInt.natAbs ≤ 20000000 ∧ 0 < (D i).toInt ∧ (D i).toInt ≤ 5000) : ∀ k, k < n → (mnF X D k).toInt.natAbs ≤ 20000000 ∧ (mxF X D k).toInt.natAbs ≤ 20000000 ∧ (mnF X D k).toInt ≤ (mxF X D k).toInt := by
  have one : ∀ i, i < n → (fdv (X i) (D i)).toInt.natAbs ≤ 20000000 ∧ (-fdv (-X i) (D i)).toInt.natAbs ≤ 20000000 ∧ (fdv (X i) (D i)).toInt ≤ (-fdv (-X i) (D i)).toInt := by
    intro i hi
    obtain ⟨h1, h2, h3⟩ := h i hi
    have n1 := ab_neg 20000000 h1 (by omega)
    have f1 := fl_ab h1 h2 h3
    have f2 := fl_ab n1.2 h2 h3
    have n2 := ab_neg 20000000 f2 (by omega)
    refine ⟨f1, n2.2, ?_⟩
    rw [n2.1, fdv_toInt h1 h2 h3, fdv_toInt n1.2 h2 h3, n1.1]
    have hm := Int.mul_ediv_add_emod (X i).toInt (D i).toInt
    have m0 := Int.emod_nonneg (X i).toInt (show (D i).toInt ≠ 0 by omega)
    have hk := Int.mul_ediv_add_emod (-(X i).toInt) (D i).toInt
    have k0 := Int.emod_nonneg (-(X i).toInt) (show (D i).toInt ≠ 0 by omega)
    have : (D i).toInt * ((X i).toInt / (D i).toInt + (-(X i).toInt) / (D i).toInt) ≤ 0 := by
      rw [Int.mul_add]
      omega
    have h4 : (X i).toInt / (D i).toInt + (-(X i).toInt) / (D i).toInt ≤ 0 := by
      refine Int.not_lt.mp (fun z => ?_)
      have := Int.mul_pos h2 z
      omega
    omega
  intro k
  induction k with
  | zero => intro hk; exact one 0 hk
  | succ k ih =>
    intro hk
    obtain ⟨i1, i2, i3⟩ := ih (by omega)
    obtain ⟨o1, o2, o3⟩ := one (k + 1) hk
    have s1 : mnF X D (k + 1) = if fdv (X (k + 1)) (D (k + 1)) < mnF X D k then fdv (X (k + 1)) (D (k + 1)) else mnF X D k := rfl
    have s2 : mxF X D (k + 1) = if mxF X D k < -fdv (-X (k + 1)) (D (k + 1)) then -fdv (-X (k + 1)) (D (k + 1)) else mxF X D k := rfl
    rw [s1, s2]
    by_cases z1 : fdv (X (k + 1)) (D (k + 1)) < mnF X D k <;> by_cases z2 : mxF X D k < -fdv (-X (k + 1)) (D (k + 1))
    · rw [if_pos z1, if_pos z2]; exact ⟨o1, o2, o3⟩
    · rw [if_pos z1, if_neg z2]
      rw [Int64.lt_iff_toInt_lt] at z1
      exact ⟨o1, i2, by omega⟩
    · rw [if_neg z1, if_pos z2]
      rw [Int64.lt_iff_toInt_lt] at z2
      exact ⟨i1, o2, by omega⟩
    · rw [if_neg z1, if_neg z2]; exact ⟨i1, i2, i3⟩
theorem le_mn {f g V D : Nat → Int64} {n : Nat} (h : ∀ i, i < n → rdP (V i) (D i) (f i) (g i) ∧ (V i).toInt.natAbs ≤ 20000000 ∧ 0 < (D i).toInt ∧ (D i).toInt ≤ 5000) : ∀ k, k < n → leF f g (k + 1) = mnF V D k ∧ grF f g (k + 1) = mxF V D k := by
  intro k
  induction k with
  | zero =>
    intro hk
    obtain ⟨h1, h2, h3, h4⟩ := h 0 hk
    obtain ⟨e1, e2⟩ := flr_rd h1 h2 h3 h4
    have f1 := fl_ab h2 h3 h4
    have n1 := ab_neg 20000000 h2 (by omega)
    have f2 := fl_ab n1.2 h3 h4
    have n2 := ab_neg 20000000 f2 (by omega)
    constructor
    · show (if flr (f 0) (g 0) < 9223372036854775807 then flr (f 0) (g 0) else 9223372036854775807) = fdv (V 0) (D 0)
      rw [e1, if_pos]
      rw [Int64.lt_iff_toInt_lt]
      have : (9223372036854775807 : Int64).toInt = 9223372036854775807 := by decide
      omega
    · show (if -9223372036854775808 < -flr (-f 0) (g 0) then -flr (-f 0) (g 0) else -9223372036854775808) = -fdv (-V 0) (D 0)
      rw [e2, if_pos]
      rw [Int64.lt_iff_toInt_lt]
      have : (-9223372036854775808 : Int64).toInt = -9223372036854775808 := by decide
      omega
  | succ k ih =>
    intro hk
    obtain ⟨i1, i2⟩ := ih (by omega)
    obtain ⟨h1, h2, h3, h4⟩ := h (k + 1) hk
    obtain ⟨e1, e2⟩ := flr_rd h1 h2 h3 h4
    constructor
    · show (if flr (f (k + 1)) (g (k + 1)) < leF f g (k + 1) then flr (f (k + 1)) (g (k + 1)) else leF f g (k + 1)) = if fdv (V (k + 1)) (D (k + 1)) < mnF V D k then fdv (V (k + 1)) (D (k + 1)) else mnF V D k
      rw [e1, i1]
    · show (if grF f g (k + 1) < -flr (-f (k + 1)) (g (k + 1)) then -flr (-f (k + 1)) (g (k + 1)) else grF f g (k + 1)) = if mxF V D k < -fdv (-V (k + 1)) (D (k + 1)) then -fdv (-V (k + 1)) (D (k + 1)) else mxF V D k
      rw [e2, i2]
theorem box_tie {tx lx ty ly X Y D : Nat → Int64} {k : Nat} (h : cnT tx lx ty ly X Y D (k + 1)) : bxF tx lx ty ly (k + 1) 0 = (mnF X D k).toInt32 ∧ bxF tx lx ty ly (k + 1) 1 = (mnF Y D k).toInt32 ∧ bxF tx lx ty ly (k + 1) 2 = (mxF X D k).toInt32 ∧ bxF tx lx ty ly (k + 1) 3 = (mxF Y D k).toInt32 := by
  have hx := le_mn (f := tx) (g := lx) (V := X) (D := D) (n := k + 1) (fun i hi => ⟨(h i hi).1, (h i hi).2.2.1, (h i hi).2.2.2.2.1, (h i hi).2.2.2.2.2⟩) k (by omega)
  have hy := le_mn (f := ty) (g := ly) (V := Y) (D := D) (n := k + 1) (fun i hi => ⟨(h i hi).2.1, (h i hi).2.2.2.1, (h i hi).2.2.2.2.1, (h i hi).2.2.2.2.2⟩) k (by omega)
  refine ⟨?_, ?_, ?_, ?_⟩
  · show (leF tx lx (k + 1)).toInt32 = _; rw [hx.1]
  · show (leF ty ly (k + 1)).toInt32 = _; rw [hy.1]
  · show (grF tx lx (k + 1)).toInt32 = _; rw [hx.2]
  · show (grF ty ly (k + 1)).toInt32 = _; rw [hy.2]
theorem g1_gc {v d : Int64} (hv : v.toInt.natAbs ≤ 20000000) (hd0 : 0 < d.toInt) (hd : d.toInt ≤ 5000) : g1F v d = gcL v d := by
  apply Int64.toInt_inj.mp
  rw [g1F_toInt hv hd0 hd]
  have h2 : Nat.gcd v.toInt.natAbs d.toInt.natAbs ≤ d.toInt.natAbs := Nat.gcd_le_right _ (by omega)
  unfold gcL
  rw [ofNat_toInt64 (by omega)]
theorem div1 (v : Int64) (h : v.toInt.natAbs ≤ 20000000) : v / 1 = v := by
  apply Int64.toInt_inj.mp
  rw [Int64.toInt_div, show (1 : Int64).toInt = 1 from rfl, Int.tdiv_one]
  exact i64_bm (by omega) (by omega)
theorem ovr_div {v g : Int64} (hg : 1 ≤ g.toInt) (hv : v.toInt.natAbs ≤ 20000000) : ovr v g = v / g := by
  unfold ovr
  by_cases z : 1 < g
  · rw [if_pos z]
  · rw [if_neg z]
    have z : ¬ (1 : Int64).toInt < g.toInt := fun y => z (Int64.lt_iff_toInt_lt.mpr y)
    have e1 : (1 : Int64).toInt = 1 := rfl
    have : g = 1 := Int64.toInt_inj.mp (by rw [e1]; omega)
    rw [this, div1 v hv]
theorem corner_tie {tx lx ty ly X Y D : Nat → Int64} {n i : Nat} (h : cnT tx lx ty ly X Y D n) (hi : i < n) (u : Int32) : (if u = 0 then tx i else if u = 1 then lx i else if u = 2 then ty i else ly i) = cnM X Y D i u := by
  obtain ⟨h1, h2, c1, c2, c3, c4⟩ := h i hi
  have p1 : 1 ≤ (g1F (X i) (D i)).toInt := by
    rw [g1F_toInt c1 c3 c4]
    have := Nat.gcd_pos_of_pos_right (X i).toInt.natAbs (show 0 < (D i).toInt.natAbs by omega)
    omega
  have p2 : 1 ≤ (g1F (Y i) (D i)).toInt := by
    rw [g1F_toInt c2 c3 c4]
    have := Nat.gcd_pos_of_pos_right (Y i).toInt.natAbs (show 0 < (D i).toInt.natAbs by omega)
    omega
  unfold cnM
  rw [h1.1, h1.2, h2.1, h2.2, ovr_div p1 c1, ovr_div p1 (by omega), ovr_div p2 c2, ovr_div p2 (by omega), g1_gc c1 c3 c4, g1_gc c2 c3 c4]
/-! Half planes. -/
theorem a32_neg {x : Int32} (a : Nat) (hx : x.toInt.natAbs ≤ a) (h : a < 2 ^ 30) : (-x).toInt = -x.toInt ∧ (-x).toInt.natAbs ≤ a := by
  have h2 : (-x).toInt = -x.toInt := by rw [Int32.toInt_neg]; exact Int.bmod_eq_of_le (by omega) (by omega)
  exact ⟨h2, by rw [h2]; omega⟩
theorem a32_mul {x y : Int32} (a b : Nat) (hx : x.toInt.natAbs ≤ a) (hy : y.toInt.natAbs ≤ b) (h : a * b < 2 ^ 30) : (x * y).toInt = x.toInt * y.toInt ∧ (x * y).toInt.natAbs ≤ a * b := by
  have h1 : (x.toInt * y.toInt).natAbs ≤ a * b := by rw [Int.natAbs_mul]; exact Nat.mul_le_mul hx hy
  have h2 : (x * y).toInt = x.toInt * y.toInt := by
    rw [Int32.toInt_mul]
    generalize x.toInt * y.toInt = v at *
    generalize a * b = u at *
    exact Int.bmod_eq_of_le (by omega) (by omega)
  exact ⟨h2, by rw [h2]; exact h1⟩
theorem a32_add {x y : Int32} (a b : Nat) (hx : x.toInt.natAbs ≤ a) (hy : y.toInt.natAbs ≤ b) (h : a + b < 2 ^ 30) : (x + y).toInt = x.toInt + y.toInt := by
  rw [Int32.toInt_add]; exact Int.bmod_eq_of_le (by omega) (by omega)
def sgI (px py sg fx fy mi ax ay bx b2 : Nat → Int32) (g n t : Nat) : Prop := ∀ i, i < n → (fx i = mFx px sg i ∧ fy i = mFx py sg i ∧ mi i = sg (6 * i + 1) ∧ ax i = sg (6 * i + 2) ∧ ay i = sg (6 * i + 3) ∧ bx i = sg (6 * i + 4) ∧ b2 i = sg (6 * i + 5)) ∧ (∃ p, p < g ∧ sg (6 * i + 0) = nI p) ∧ gbS px py sg i ∧ 0 ≤ (sg (6 * i + 1)).toInt ∧ (sg (6 * i + 1)).toInt ≤ t
theorem up4 (f : Nat → Int64) (a b c d : Int64) {k : Nat} (hk : k < 4) : up2 (up2 f 0 a b) 2 c d k = if k < 2 then (if k = 0 then a else b) else (if k - 2 = 0 then c else d) := by
  match k, hk with
  | 0, _ => rfl
  | 1, _ => rfl
  | 2, _ => rfl
  | 3, _ => rfl
theorem hp_A {px py sg : Nat → Int32} {i : Nat} (h : gbS px py sg i) : (-(sg (6 * i + 3))).toInt64 = bvA sg i 0 ∧ (-(-(sg (6 * i + 5)))).toInt64 = bvA sg i 1 := by
  have h3 : (sg (6 * i + 3)).toInt.natAbs ≤ 50 := h.1 1 (by omega)
  have h5 : (sg (6 * i + 5)).toInt.natAbs ≤ 50 := h.1 3 (by omega)
  constructor
  · apply Int64.toInt_inj.mp
    have e0 : bvA sg i 0 = -(sg (6 * i + 3)).toInt64 * 1 := rfl
    have q3 : ((sg (6 * i + 3)).toInt64).toInt.natAbs ≤ 50 := by rw [i32_64]; exact h3
    have n := ab_neg 50 q3 (by omega)
    rw [e0, i32_64, (a32_neg 50 h3 (by omega)).1, (ab_mul 50 1 n.2 (show (1 : Int64).toInt.natAbs ≤ 1 by decide) (by omega)).1, n.1, i32_64, show (1 : Int64).toInt = 1 from rfl, Int.mul_one]
  · apply Int64.toInt_inj.mp
    have e0 : bvA sg i 1 = -(sg (6 * i + 5)).toInt64 * (-1) := rfl
    have q5 : ((sg (6 * i + 5)).toInt64).toInt.natAbs ≤ 50 := by rw [i32_64]; exact h5
    have n := ab_neg 50 q5 (by omega)
    have m := a32_neg 50 h5 (by omega)
    rw [e0, i32_64, (a32_neg 50 m.2 (by omega)).1, m.1, (ab_mul 50 1 n.2 (show (-1 : Int64).toInt.natAbs ≤ 1 by decide) (by omega)).1, n.1, i32_64, show (-1 : Int64).toInt = -1 by decide]
    omega
theorem hp_B {px py sg : Nat → Int32} {i : Nat} (h : gbS px py sg i) : (sg (6 * i + 2)).toInt64 = bvB sg i 0 ∧ (-(sg (6 * i + 4))).toInt64 = bvB sg i 1 := by
  have h2 : (sg (6 * i + 2)).toInt.natAbs ≤ 50 := h.1 0 (by omega)
  have h4 : (sg (6 * i + 4)).toInt.natAbs ≤ 50 := h.1 2 (by omega)
  have q2 : ((sg (6 * i + 2)).toInt64).toInt.natAbs ≤ 50 := by rw [i32_64]; exact h2
  have q4 : ((sg (6 * i + 4)).toInt64).toInt.natAbs ≤ 50 := by rw [i32_64]; exact h4
  constructor
  · apply Int64.toInt_inj.mp
    have e0 : bvB sg i 0 = (sg (6 * i + 2)).toInt64 * 1 := rfl
    rw [e0, (ab_mul 50 1 q2 (show (1 : Int64).toInt.natAbs ≤ 1 by decide) (by omega)).1, show (1 : Int64).toInt = 1 from rfl, Int.mul_one]
  · apply Int64.toInt_inj.mp
    have e0 : bvB sg i 1 = (sg (6 * i + 4)).toInt64 * (-1) := rfl
    rw [e0, i32_64, (a32_neg 50 h4 (by omega)).1, (ab_mul 50 1 q4 (show (-1 : Int64).toInt.natAbs ≤ 1 by decide) (by omega)).1, i32_64, show (-1 : Int64).toInt = -1 by decide]
    omega
theorem hp_C {px py sg : Nat → Int32} {i : Nat} (h : gbS px py sg i) : (-(sg (6 * i + 3)) * mFx px sg i + sg (6 * i + 2) * mFx py sg i).toInt64 = bvC sg px py i 0 ∧ (-(-(sg (6 * i + 5))) * mFx px sg i + -(sg (6 * i + 4)) * mFx py sg i).toInt64 = bvC sg px py i 1 := by
  have h2 : (sg (6 * i + 2)).toInt.natAbs ≤ 50 := h.1 0 (by omega)
  have h3 : (sg (6 * i + 3)).toInt.natAbs ≤ 50 := h.1 1 (by omega)
  have h4 : (sg (6 * i + 4)).toInt.natAbs ≤ 50 := h.1 2 (by omega)
  have h5 : (sg (6 * i + 5)).toInt.natAbs ≤ 50 := h.1 3 (by omega)
  have qx : ((mFx px sg i).toInt64).toInt.natAbs ≤ 2000 := by rw [i32_64]; exact h.2.1
  have qy : ((mFx py sg i).toInt64).toInt.natAbs ≤ 2000 := by rw [i32_64]; exact h.2.2
  have gen : ∀ (u v : Int32) (a b : Int64), u.toInt.natAbs ≤ 50 → v.toInt.natAbs ≤ 50 → u.toInt64 = a → v.toInt64 = b → (u * mFx px sg i + v * mFx py sg i).toInt64 = a * (mFx px sg i).toInt64 + b * (mFx py sg i).toInt64 := by
    intro u v a b hu hv ea eb
    subst ea eb
    have qu : (u.toInt64).toInt.natAbs ≤ 50 := by rw [i32_64]; exact hu
    have qv : (v.toInt64).toInt.natAbs ≤ 50 := by rw [i32_64]; exact hv
    have m1 := a32_mul 50 2000 hu h.2.1 (by omega)
    have m2 := a32_mul 50 2000 hv h.2.2 (by omega)
    have k1 := ab_mul 50 2000 qu qx (by omega)
    have k2 := ab_mul 50 2000 qv qy (by omega)
    apply Int64.toInt_inj.mp
    rw [i32_64, a32_add _ _ m1.2 m2.2 (by omega), m1.1, m2.1, (ab_add _ _ k1.2 k2.2 (by omega)).1, k1.1, k2.1, i32_64, i32_64, i32_64, i32_64]
  have n3 := a32_neg 50 h3 (by omega)
  have n4 := a32_neg 50 h4 (by omega)
  have n5 := a32_neg 50 h5 (by omega)
  exact ⟨gen _ _ _ _ n3.2 h2 (hp_A h).1 (hp_B h).1, gen _ _ _ _ (a32_neg 50 n5.2 (by omega)).2 n4.2 (hp_A h).2 (hp_B h).2⟩
theorem ab_eq4 {f F : Nat → Int64} {u v : Nat → Int64} {a b c d : Int64} (h0 : a = u 0) (h1 : b = u 1) (h2 : c = v 0) (h3 : d = v 1) : eq4 (up2 (up2 f 0 a b) 2 c d) (bdF v 2 (bdF u 0 F 2) 2) := by
  intro k hk
  rw [up4 f a b c d hk, bd4 u v F hk]
  match k, hk with
  | 0, _ => exact h0
  | 1, _ => exact h1
  | 2, _ => exact h2
  | 3, _ => exact h3
theorem planes_tie {px py sg fx fy mi ax ay bx b2 : Nat → Int32} {g n t : Nat} (h : sgI px py sg fx fy mi ax ay bx b2 g n t) {i j : Nat} (hi : i < n) (hj : j < n) (a b c ex ey A B C : Nat → Int64) :
    eq4 (pA ay b2 (pA ay b2 a 0 i) 2 j) (bdF (bvA sg j) 2 (bdF (bvA sg i) 0 A 2) 2) ∧ eq4 (pB ax bx (pB ax bx b 0 i) 2 j) (bdF (bvB sg j) 2 (bdF (bvB sg i) 0 B 2) 2) ∧ eq4 (pC fx fy ax ay bx b2 (pC fx fy ax ay bx b2 c 0 i) 2 j) (bdF (bvC sg px py j) 2 (bdF (bvC sg px py i) 0 C 2) 2) ∧ eq4 (pX ax bx (pX ax bx ex 0 i) 2 j) (exM sg i j) ∧ eq4 (pX ay b2 (pX ay b2 ey 0 i) 2 j) (eyM sg i j) := by
  obtain ⟨⟨i1, i2, i3, i4, i5, i6, i7⟩, -, gi, -⟩ := h i hi
  obtain ⟨⟨j1, j2, j3, j4, j5, j6, j7⟩, -, gj, -⟩ := h j hj
  refine ⟨?_, ?_, ?_, ?_, ?_⟩
  · refine ab_eq4 ?_ ?_ ?_ ?_
    · rw [i5]; exact (hp_A gi).1
    · rw [i7]; exact (hp_A gi).2
    · rw [j5]; exact (hp_A gj).1
    · rw [j7]; exact (hp_A gj).2
  · refine ab_eq4 ?_ ?_ ?_ ?_
    · rw [i4]; exact (hp_B gi).1
    · rw [i6]; exact (hp_B gi).2
    · rw [j4]; exact (hp_B gj).1
    · rw [j6]; exact (hp_B gj).2
  · refine ab_eq4 ?_ ?_ ?_ ?_
    · rw [i1, i2, i4, i5]; exact (hp_C gi).1
    · rw [i1, i2, i6, i7]; exact (hp_C gi).2
    · rw [j1, j2, j4, j5]; exact (hp_C gj).1
    · rw [j1, j2, j6, j7]; exact (hp_C gj).2
  · intro k hk
    show up2 (up2 ex 0 _ _) 2 _ _ k = _
    rw [up4 _ _ _ _ _ hk, i4, i6, j4, j6]
    match k, hk with
    | 0, _ => rfl
    | 1, _ => rfl
    | 2, _ => rfl
    | 3, _ => rfl
  · intro k hk
    show up2 (up2 ey 0 _ _) 2 _ _ k = _
    rw [up4 _ _ _ _ _ hk, i5, i7, j5, j7]
    match k, hk with
    | 0, _ => rfl
    | 1, _ => rfl
    | 2, _ => rfl
    | 3, _ => rfl
theorem pair_tie {px py sg fx fy mi ax ay bx b2 : Nat → Int32} {g n t : Nat} (h : sgI px py sg fx fy mi ax ay bx b2 g n t) (hn : n ≤ 100) (x y : Int32) : (okS x n ∧ okS y n ∧ cmP fx fy mi x.toNatClampNeg y.toNatClampNeg) ↔ paP px py sg n x y := by
  have key : okS x n → okS y n → (cmP fx fy mi x.toNatClampNeg y.toNatClampNeg ↔ (sg (6 * x.toNatClampNeg + 1) = sg (6 * y.toNatClampNeg + 1) ∧ ¬ (mFx px sg x.toNatClampNeg = mFx px sg y.toNatClampNeg ∧ mFx py sg x.toNatClampNeg = mFx py sg y.toNatClampNeg))) := by
    intro hx hy
    obtain ⟨i, hi, rfl⟩ := okS_nat hx (by omega)
    obtain ⟨j, hj, rfl⟩ := okS_nat hy (by omega)
    obtain ⟨⟨i1, i2, i3, -⟩, -⟩ := h i hi
    obtain ⟨⟨j1, j2, j3, -⟩, -⟩ := h j hj
    rw [nI_clamp (by omega), nI_clamp (by omega)]
    unfold cmP
    rw [i1, i2, i3, j1, j2, j3]
  constructor
  · rintro ⟨h1, h2, h3⟩; exact ⟨h1, h2, (key h1 h2).mp h3⟩
  · rintro ⟨h1, h2, h3⟩; exact ⟨h1, h2, (key h1 h2).mpr h3⟩
/-- the class's run against any run of the reference -/
theorem any_tie {px py sg fx fy mi ax ay bx b2 : Nat → Int32} {g n t : Nat} (h : sgI px py sg fx fy mi ax ay bx b2 g n t) (hn : n ≤ 100) {a b c ex ey tx lx ty ly : Nat → Int64} {co x y r : Int32} {a' b' c' ex' ey' tx' lx' ty' ly' : Nat → Int64} {k : Int32} (hm : mtR fx fy mi ax ay bx b2 n a b c ex ey tx lx ty ly co x y r a' b' c' ex' ey' tx' lx' ty' ly' k) (ok : paP px py sg n x y) {X Y D : Nat → Int64} {q : Nat} (hr : rnR px py sg x.toNatClampNeg y.toNatClampNeg X Y D q) : k = nI q ∧ q ≤ 6 ∧ cnT tx' lx' ty' ly' X Y D q ∧ r = kdF (nI q) a' b' ex' ey' := by
  obtain ⟨rfl, rfl, rfl, rfl, rfl, j, rfl, f1, f2⟩ := if_y hm ((pair_tie h hn x y).mpr ok)
  obtain ⟨i1, hi1, ex1⟩ := okS_nat ok.1 (by omega)
  obtain ⟨i2, hi2, ex2⟩ := okS_nat ok.2.1 (by omega)
  subst ex1 ex2
  rw [nI_clamp (by omega), nI_clamp (by omega)] at *
  obtain ⟨A, B, C, X0, Y0, D0, A', B', C', rfl, rfl, rfl, g1⟩ := hr
  obtain ⟨p1, p2, p3, -, -⟩ := planes_tie h hi1 hi2 a b c ex ey A B C
  obtain ⟨e, ct⟩ := run_tie p1 p2 p3 (bd_h (h i1 hi1).2.2.1 (h i2 hi2).2.2.1) (Nat.le_refl 6) f1 g1
  subst e
  exact ⟨rfl, fcS_n f1, ct, f2⟩
theorem meet_tie {px py sg fx fy mi ax ay bx b2 : Nat → Int32} {g n t : Nat} (h : sgI px py sg fx fy mi ax ay bx b2 g n t) (hn : n ≤ 100) {a b c ex ey tx lx ty ly : Nat → Int64} {co x y r : Int32} {a' b' c' ex' ey' tx' lx' ty' ly' : Nat → Int64} {k : Int32} (hm : mtR fx fy mi ax ay bx b2 n a b c ex ey tx lx ty ly co x y r a' b' c' ex' ey' tx' lx' ty' ly' k) {A B C X Y D : Nat → Int64} {co2 r2 : Int32} {A' B' C' X' Y' D' : Nat → Int64} {k2 : Int32} (hw : mmR px py sg n A B C X Y D co2 x y r2 A' B' C' X' Y' D' k2) : r = r2 ∧ (r = 1 → paP px py sg n x y ∧ k = k2 ∧ ∃ j, k = nI (j + 1) ∧ j + 1 ≤ 6 ∧ cnT tx' lx' ty' ly' X' Y' D' (j + 1)) := by
  by_cases ok : paP px py sg n x y
  · obtain ⟨q, e1, hq, hr⟩ := mmR_rn hw ok
    obtain ⟨k1, k2', k3, k4⟩ := any_tie h hn hm ok hr
    obtain ⟨w1, w2, w3, j9, w4, w5, w6⟩ := if_y hw ok
    obtain ⟨rfl, rfl, rfl, rfl, rfl, j, -, f1, -⟩ := if_y hm ((pair_tie h hn x y).mpr ok)
    obtain ⟨i1, hi1, ex1⟩ := okS_nat ok.1 (by omega)
    obtain ⟨i2, hi2, ex2⟩ := okS_nat ok.2.1 (by omega)
    have c1 : x.toNatClampNeg = i1 := by rw [ex1, nI_clamp (by omega)]
    have c2 : y.toNatClampNeg = i2 := by rw [ex2, nI_clamp (by omega)]
    obtain ⟨p1, p2, p3, p4, p5⟩ := planes_tie h hi1 hi2 a b c ex ey A B C
    have er : r = r2 := by
      rw [k4, w6, e1, w1, w2, c1, c2]
      exact kdF_congr (nI q) p1 p2 p4 p5
    refine ⟨er, fun hr1 => ⟨ok, by rw [k1, e1], ?_⟩⟩
    rcases q with _ | q
    · rw [k4] at hr1
      have : kdF (nI 0) (pA ay b2 (pA ay b2 a 0 x.toNatClampNeg) 2 y.toNatClampNeg) (pB ax bx (pB ax bx b 0 x.toNatClampNeg) 2 y.toNatClampNeg) (pX ax bx (pX ax bx ex 0 x.toNatClampNeg) 2 y.toNatClampNeg) (pX ay b2 (pX ay b2 ey 0 x.toNatClampNeg) 2 y.toNatClampNeg) = 0 := by
        unfold kdF
        rw [if_pos (show nI 0 = 0 from nI_0)]
      rw [this] at hr1
      exact absurd hr1 (by decide)
    · exact ⟨q, k1, hq, k3⟩
  · have h1 := (if_n hm (fun z => ok ((pair_tie h hn x y).mp z))).1
    have h2 := (if_n hw ok).1
    refine ⟨by rw [h1, h2], fun z => ?_⟩
    rw [h1] at z
    exact absurd z (by decide)
