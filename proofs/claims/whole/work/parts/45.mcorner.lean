/-! Bounds of crossings; the reference's corner. -/
theorem ab_mul {x y : Int64} (a b : Nat) (hx : x.toInt.natAbs ≤ a) (hy : y.toInt.natAbs ≤ b) (h : a * b < 2 ^ 62) : (x * y).toInt = x.toInt * y.toInt ∧ (x * y).toInt.natAbs ≤ a * b := by
  have h1 : (x.toInt * y.toInt).natAbs ≤ a * b := by rw [Int.natAbs_mul]; exact Nat.mul_le_mul hx hy
  have h2 : (x * y).toInt = x.toInt * y.toInt := by
    rw [Int64.toInt_mul]
    generalize x.toInt * y.toInt = v at *
    generalize a * b = u at *
    exact i64_bm (by omega) (by omega)
  exact ⟨h2, by rw [h2]; exact h1⟩
theorem ab_sub {x y : Int64} (a b : Nat) (hx : x.toInt.natAbs ≤ a) (hy : y.toInt.natAbs ≤ b) (h : a + b < 2 ^ 62) : (x - y).toInt = x.toInt - y.toInt ∧ (x - y).toInt.natAbs ≤ a + b := by
  have h2 : (x - y).toInt = x.toInt - y.toInt := by rw [Int64.toInt_sub]; exact i64_bm (by omega) (by omega)
  exact ⟨h2, by rw [h2]; omega⟩
theorem ab_add {x y : Int64} (a b : Nat) (hx : x.toInt.natAbs ≤ a) (hy : y.toInt.natAbs ≤ b) (h : a + b < 2 ^ 62) : (x + y).toInt = x.toInt + y.toInt ∧ (x + y).toInt.natAbs ≤ a + b := by
  have h2 : (x + y).toInt = x.toInt + y.toInt := by rw [Int64.toInt_add]; exact i64_bm (by omega) (by omega)
  exact ⟨h2, by rw [h2]; omega⟩
theorem ab_neg {x : Int64} (a : Nat) (hx : x.toInt.natAbs ≤ a) (h : a < 2 ^ 62) : (-x).toInt = -x.toInt ∧ (-x).toInt.natAbs ≤ a := by
  have h2 : (-x).toInt = -x.toInt := by rw [Int64.toInt_neg]; exact i64_bm (by omega) (by omega)
  exact ⟨h2, by rw [h2]; omega⟩
def gbS (px py sg : Nat → Int32) (i : Nat) : Prop := (∀ a, a < 4 → (sg (6 * i + (2 + a))).toInt.natAbs ≤ 50) ∧ (mFx px sg i).toInt.natAbs ≤ 2000 ∧ (mFx py sg i).toInt.natAbs ≤ 2000
theorem i32_64 (x : Int32) : x.toInt64.toInt = x.toInt := Int32.toInt_toInt64 x
theorem bv_ab {px py sg : Nat → Int32} {i k : Nat} (h : gbS px py sg i) (hk : k < 2) : (bvA sg i k).toInt.natAbs ≤ 50 ∧ (bvB sg i k).toInt.natAbs ≤ 50 ∧ (bvC sg px py i k).toInt.natAbs ≤ 200000 := by
  have hs : (sgK k).toInt.natAbs ≤ 1 := by
    unfold sgK
    split
    · decide
    · decide
  have e3 : 6 * i + (3 + 2 * k) = 6 * i + (2 + (1 + 2 * k)) := by omega
  have h3 : ((sg (6 * i + (3 + 2 * k))).toInt64).toInt.natAbs ≤ 50 := by rw [e3, i32_64]; exact h.1 _ (by omega)
  have h2 : ((sg (6 * i + (2 + 2 * k))).toInt64).toInt.natAbs ≤ 50 := by rw [i32_64]; exact h.1 _ (by omega)
  have hA := (ab_mul 50 1 (ab_neg 50 h3 (by omega)).2 hs (by omega)).2
  have hB := (ab_mul 50 1 h2 hs (by omega)).2
  have hx : ((mFx px sg i).toInt64).toInt.natAbs ≤ 2000 := by rw [i32_64]; exact h.2.1
  have hy : ((mFx py sg i).toInt64).toInt.natAbs ≤ 2000 := by rw [i32_64]; exact h.2.2
  exact ⟨hA, hB, (ab_add 100000 100000 (ab_mul 50 2000 hA hx (by omega)).2 (ab_mul 50 2000 hB hy (by omega)).2 (by omega)).2⟩
theorem bd4 (u v f : Nat → Int64) {k : Nat} (hk : k < 4) : bdF v 2 (bdF u 0 f 2) 2 k = if k < 2 then u k else v (k - 2) := by
  match k, hk with
  | 0, _ => rfl
  | 1, _ => rfl
  | 2, _ => rfl
  | 3, _ => rfl
def cBd (x y d : Int64) : Prop := x.toInt.natAbs ≤ 20000000 ∧ y.toInt.natAbs ≤ 20000000 ∧ 0 < d.toInt ∧ d.toInt ≤ 5000
theorem sgn_ab {d v : Int64} (a : Nat) (h : v.toInt.natAbs ≤ a) (ha : a < 2 ^ 62) : (sgn d v).toInt.natAbs ≤ a := by
  unfold sgn
  split
  · exact (ab_neg a h ha).2
  · exact h
def hBd (a b c : Nat → Int64) : Prop := ∀ k, k < 4 → (a k).toInt.natAbs ≤ 50 ∧ (b k).toInt.natAbs ≤ 50 ∧ (c k).toInt.natAbs ≤ 200000
theorem cross_ab {a b c : Nat → Int64} (h : hBd a b c) (i j : Nat) (hi : i < 4) (hj : j < 4) (hne : ¬ crD a b i j = 0) : cBd (sgn (crD a b i j) (crX b c i j)) (sgn (crD a b i j) (crY a c i j)) (sgn (crD a b i j) (crD a b i j)) := by
  obtain ⟨a1, b1, c1⟩ := h i hi
  obtain ⟨a2, b2, c2⟩ := h j hj
  have hD := (ab_sub 2500 2500 (ab_mul 50 50 a1 b2 (by omega)).2 (ab_mul 50 50 a2 b1 (by omega)).2 (by omega)).2
  have hX := (ab_sub 10000000 10000000 (ab_mul 200000 50 c1 b2 (by omega)).2 (ab_mul 200000 50 c2 b1 (by omega)).2 (by omega)).2
  have hY := (ab_sub 10000000 10000000 (ab_mul 50 200000 a1 c2 (by omega)).2 (ab_mul 50 200000 a2 c1 (by omega)).2 (by omega)).2
  have hD : (crD a b i j).toInt.natAbs ≤ 5000 := hD
  have hne2 : (crD a b i j).toInt ≠ 0 := fun z => hne (Int64.toInt_inj.mp z)
  refine ⟨sgn_ab 20000000 hX (by omega), sgn_ab 20000000 hY (by omega), ?_⟩
  unfold sgn
  by_cases z : crD a b i j < 0
  · rw [if_pos z, (ab_neg 5000 hD (by omega)).1]
    have z : (crD a b i j).toInt < 0 := Int64.lt_iff_toInt_lt.mp z
    omega
  · rw [if_neg z]
    have z : ¬ (crD a b i j).toInt < 0 := fun q => z (Int64.lt_iff_toInt_lt.mpr q)
    omega
theorem bd_h {px py sg : Nat → Int32} {i j : Nat} {A B C : Nat → Int64} (hi : gbS px py sg i) (hj : gbS px py sg j) : hBd (bdF (bvA sg j) 2 (bdF (bvA sg i) 0 A 2) 2) (bdF (bvB sg j) 2 (bdF (bvB sg i) 0 B 2) 2) (bdF (bvC sg px py j) 2 (bdF (bvC sg px py i) 0 C 2) 2) := by
  intro k hk
  rw [bd4 _ _ _ hk, bd4 _ _ _ hk, bd4 _ _ _ hk]
  by_cases z : k < 2
  · rw [if_pos z, if_pos z, if_pos z]; exact bv_ab hi z
  · rw [if_neg z, if_neg z, if_neg z]; exact bv_ab hj (by omega)
theorem rnR_b {px py sg : Nat → Int32} {i j : Nat} {X' Y' D' : Nat → Int64} {q : Nat} (h : rnR px py sg i j X' Y' D' q) (hi : gbS px py sg i) (hj : gbS px py sg j) : ∀ k, k < q → cBd (X' k) (Y' k) (D' k) := by
  obtain ⟨A, B, C, X, Y, D, A', B', C', rfl, rfl, rfl, h⟩ := h
  exact fmS_P (P := cBd) (cross_ab (bd_h hi hj)) (Nat.le_refl 6) h
theorem gcL_ne {x d : Int64} (hd : 0 < d.toInt) (h : d.toInt < 2 ^ 62) : ¬ gcL x d = 0 := fun z => by
  have h1 : 0 < Nat.gcd x.toInt.natAbs d.toInt.natAbs := Nat.gcd_pos_of_pos_right _ (by omega)
  have h2 : Nat.gcd x.toInt.natAbs d.toInt.natAbs ≤ d.toInt.natAbs := Nat.gcd_le_right _ (by omega)
  have h3 := congrArg Int64.toInt z
  unfold gcL at h3
  rw [ofNat_toInt64 (by omega)] at h3
  have e0 : (0 : Int64).toInt = 0 := rfl
  omega
def cnM (X Y D : Nat → Int64) (i : Nat) (u : Int32) : Int64 := if u = 0 then X i / gcL (X i) (D i) else if u = 1 then D i / gcL (X i) (D i) else if u = 2 then Y i / gcL (Y i) (D i) else D i / gcL (Y i) (D i)
theorem u4 {u : Int32} (h1 : 0 ≤ u) (h2 : u ≤ 3) : u = 0 ∨ u = 1 ∨ u = 2 ∨ u = 3 := by
  have h1 := Int32.le_iff_toInt_le.mp h1
  have h2 := Int32.le_iff_toInt_le.mp h2
  have e0 : (0 : Int32).toInt = 0 := rfl
  have e3 : (3 : Int32).toInt = 3 := rfl
  rcases (by omega : u.toInt = 0 ∨ u.toInt = 1 ∨ u.toInt = 2 ∨ u.toInt = 3) with z | z | z | z
  · exact Or.inl (Int32.toInt_inj.mp z)
  · exact Or.inr (Or.inl (Int32.toInt_inj.mp z))
  · exact Or.inr (Or.inr (Or.inl (Int32.toInt_inj.mp z)))
  · exact Or.inr (Or.inr (Or.inr (Int32.toInt_inj.mp z)))
def ce_X7_corner : rz_K := (5, kMq, 1, false, fun av w => ∃ (px py sg : Nat → Int32) (A B C X Y D : Nat → Int64) (th po re nw pl tr bo pn ca sp co x y v u : Int32) (n : Nat), av = [.ref 50, .int x, .int y, .int v, .int u] ∧ w = wMq (oMo th po re nw (nI n) pl tr bo pn ca sp co) px py sg A B C X Y D ∧ n ≤ 100 ∧ (∀ i, i < n → vp_in (sg (6 * i + 0)) 6) ∧ ∀ i, i < n → gbS px py sg i, fun av w o w' => ∀ n, rF w 50 10 = nI n → n ≤ 100 → ∃ (A' B' C' X' Y' D' : Nat → Int64) (k r : Int32), mmR (rI w 51) (rI w 52) (rI w 57) n (rJ w 67) (rJ w 68) (rJ w 69) (rJ w 70) (rJ w 71) (rJ w 72) (rF w 50 33) (rA av 1) (rA av 2) r A' B' C' X' Y' D' k ∧ if r = 1 ∧ (0 ≤ rA av 3 ∧ rA av 3 < k) ∧ (0 ≤ rA av 4 ∧ rA av 4 ≤ 3) then rS o = cnM X' Y' D' (rA av 3).toNatClampNeg (rA av 4) ∧ w' = sMq (mset w 0 0) A' B' C' X' Y' D' k else rS o = 0 ∧ w' = sMq (mset w 0 1) A' B' C' X' Y' D' k)
def cl_X7_corner : List (Nat × rz_K) := [(87, ce_X7_isIn), (159, ce_X7_common)]
def cv_X7_corner : List (Nat × rz_K) := [(150, ce_X7_meets)]
set_option maxHeartbeats 8000000 in
theorem vc_X7_corner : rz_VC k_X7_corner fl_X7 cl_X7_corner cv_X7_corner s_X7_corner false 9 ce_X7_corner := by
  intro av w hlen hk hpre
  obtain ⟨px, py, sg, A, B, C, X, Y, D, th, po, re, nw, pl, tr, bo, pn, ca, sp, co, x, y, v, u, n, rfl, rfl, hn, hsg, hgb⟩ := hpre
  refine ⟨Nat.le_of_ble_eq_true rfl, [
    (41, [0, 1, 2, 3, 4], fun z lv w' => ∃ (A' B' C' X' Y' D' : Nat → Int64) (k r t : Int32), mmR px py sg n A B C X Y D co x y r A' B' C' X' Y' D' k ∧ ((t = 0 ∧ r = 1 ∧ (0 ≤ v ∧ v < k) ∧ (0 ≤ u ∧ u ≤ 3)) ∨ (t = 1 ∧ ¬ (r = 1 ∧ (0 ≤ v ∧ v < k) ∧ (0 ≤ u ∧ u ≤ 3)))) ∧ lv = [(0, .ref 50), (1, .int x), (2, .int y), (3, .int v), (4, .int u)] ∧ w' = wMq (oMo t po re nw (nI n) pl tr bo pn ca sp k) px py sg A' B' C' X' Y' D' ∧ z = 1)], 60, 2, ?_, ?_⟩
  · intro y1 hq1 z lv w' hJ
    rcases List.mem_cons.mp hq1 with rfl | hq1
    · obtain ⟨A', B', C', X', Y', D', k, r, t, h1, ht, rfl, rfl, rfl⟩ := hJ
      conv => whnf
      refine ⟨fun h => ?_, fun h => ?_⟩
      · have ht0 : t = 0 ∧ r = 1 ∧ (0 ≤ v ∧ v < k) ∧ (0 ≤ u ∧ u ≤ 3) := by
          rcases ht with g | g
          · exact g
          · rw [g.1] at h
            exact absurd h (by decide)
        obtain ⟨rfl, hr, hv, hu⟩ := ht0
        have fin : ∀ s : Int64, s = cnM X' Y' D' v.toNatClampNeg u → rz_end ce_X7_corner [.ref 50, .int x, .int y, .int v, .int u] (wMq (oMo th po re nw (nI n) pl tr bo pn ca sp co) px py sg A B C X Y D) (some (.long s)) (wMq (oMo 0 po re nw (nI n) pl tr bo pn ca sp k) px py sg A' B' C' X' Y' D') := by
          intro s hs
          refine ⟨⟨_, rfl⟩, fun z => (by cases z), ?_⟩
          intro n' e1 g1
          have e1 : n = n' := nI_inj (by omega) (by omega) e1
          subst e1
          exact ⟨A', B', C', X', Y', D', k, r, h1, if_yes ⟨hr, hv, hu⟩ ⟨hs, rfl⟩⟩
        have ok := mmR_ok h1 hr
        obtain ⟨q, hkq, hq6, hrn⟩ := mmR_rn h1 ok
        have hvq : okS v q := by
          refine ⟨hv.1, ?_⟩
          have h2 := Int32.lt_iff_toInt_lt.mp hv.2
          rw [hkq, nI_toInt (by omega)] at h2
          rw [Int32.le_iff_toInt_le, show (nI q - 1).toInt = (q : Int) - 1 from pk_sub_toInt (a := q) (b := 1) (by omega) (by omega)]
          omega
        obtain ⟨i, hi, rfl⟩ := okS_nat hvq (by omega)
        have hci : (nI i).toNatClampNeg = i := nI_clamp (by omega)
        have hv8 : vp_in (nI i) 8 := vp_in_nI (by omega) (by omega)
        obtain ⟨i1, hi1, ex⟩ := okS_nat ok.1 (by omega)
        obtain ⟨i2, hi2, ey⟩ := okS_nat ok.2.1 (by omega)
        have bd := rnR_b hrn (by rw [ex, nI_clamp (by omega)]; exact hgb i1 hi1) (by rw [ey, nI_clamp (by omega)]; exact hgb i2 hi2) i hi
        obtain ⟨bX, bY, bD0, bD⟩ := bd
        rw [hci] at fin
        have gX := gcL_ne (x := X' i) bD0 (by omega)
        have gY := gcL_ne (x := Y' i) bD0 (by omega)
        have hX : X' (nI i).toNatClampNeg = X' i := by rw [hci]
        have hY : Y' (nI i).toNatClampNeg = Y' i := by rw [hci]
        have hD : D' (nI i).toNatClampNeg = D' i := by rw [hci]
        have bc : ∀ p d : Int64, p.toInt.natAbs ≤ 20000000 → 0 < d.toInt → d.toInt ≤ 5000 → -2 ^ 62 < p.toInt ∧ p.toInt < 2 ^ 62 ∧ -2 ^ 62 < d.toInt ∧ d.toInt < 2 ^ 62 := fun p d h1 h2 h3 => ⟨by omega, by omega, by omega, by omega⟩
        rcases u4 hu.1 hu.2 with rfl | rfl | rfl | rfl
        · conv => whnf
          refine ⟨fun k1 => ?_, fun k1 => ?_⟩
          · exact absurd k1 (by decide)
          · conv => whnf
            refine ⟨hv8, ?_⟩
            conv => whnf
            intro nn enn
            have enn : nn = X' i := enn.trans hX
            subst enn
            conv => whnf
            refine ⟨hv8, ?_⟩
            conv => whnf
            refine ⟨⟨_, _, rfl, rfl, by rw [hD]; exact bc _ _ bX bD0 bD⟩, ?_⟩
            intro g hg
            have hg : g = gcL (X' i) (D' (nI i).toNatClampNeg) := hg
            rw [hD] at hg
            subst hg
            conv => whnf
            rintro _ rfl
            conv => whnf
            refine ⟨(by decide), ?_⟩
            conv => whnf
            refine ⟨fun k2 => ?_, fun k2 => ?_⟩
            · conv => whnf
              refine ⟨gX, ?_⟩
              conv => whnf
              exact fin _ rfl
            · exact absurd rfl k2
        · conv => whnf
          refine ⟨fun k1 => ?_, fun k1 => ?_⟩
          · exact absurd k1 (by decide)
          · conv => whnf
            refine ⟨hv8, ?_⟩
            conv => whnf
            intro nn enn
            have enn : nn = X' i := enn.trans hX
            subst enn
            conv => whnf
            refine ⟨hv8, ?_⟩
            conv => whnf
            refine ⟨⟨_, _, rfl, rfl, by rw [hD]; exact bc _ _ bX bD0 bD⟩, ?_⟩
            intro g hg
            have hg : g = gcL (X' i) (D' (nI i).toNatClampNeg) := hg
            rw [hD] at hg
            subst hg
            conv => whnf
            rintro _ rfl
            conv => whnf
            refine ⟨(by decide), ?_⟩
            conv => whnf
            refine ⟨fun k2 => ?_, fun k2 => ?_⟩
            · exact absurd k2 (by decide)
            · conv => whnf
              refine ⟨hv8, ?_⟩
              conv => whnf
              refine ⟨gX, ?_⟩
              conv => whnf
              exact fin _ (by rw [hD]; rfl)
        · conv => whnf
          refine ⟨fun k1 => ?_, fun k1 => ?_⟩
          · conv => whnf
            refine ⟨hv8, ?_⟩
            conv => whnf
            intro nn enn
            have enn : nn = Y' i := enn.trans hY
            subst enn
            conv => whnf
            refine ⟨hv8, ?_⟩
            conv => whnf
            refine ⟨⟨_, _, rfl, rfl, by rw [hD]; exact bc _ _ bY bD0 bD⟩, ?_⟩
            intro g hg
            have hg : g = gcL (Y' i) (D' (nI i).toNatClampNeg) := hg
            rw [hD] at hg
            subst hg
            conv => whnf
            rintro _ rfl
            conv => whnf
            refine ⟨(by decide), ?_⟩
            conv => whnf
            refine ⟨fun k2 => ?_, fun k2 => ?_⟩
            · conv => whnf
              refine ⟨gY, ?_⟩
              conv => whnf
              exact fin _ rfl
            · exact absurd rfl k2
          · exact absurd (by decide) k1
        · conv => whnf
          refine ⟨fun k1 => ?_, fun k1 => ?_⟩
          · conv => whnf
            refine ⟨hv8, ?_⟩
            conv => whnf
            intro nn enn
            have enn : nn = Y' i := enn.trans hY
            subst enn
            conv => whnf
            refine ⟨hv8, ?_⟩
            conv => whnf
            refine ⟨⟨_, _, rfl, rfl, by rw [hD]; exact bc _ _ bY bD0 bD⟩, ?_⟩
            intro g hg
            have hg : g = gcL (Y' i) (D' (nI i).toNatClampNeg) := hg
            rw [hD] at hg
            subst hg
            conv => whnf
            rintro _ rfl
            conv => whnf
            refine ⟨(by decide), ?_⟩
            conv => whnf
            refine ⟨fun k2 => ?_, fun k2 => ?_⟩
            · exact absurd k2 (by decide)
            · conv => whnf
              refine ⟨hv8, ?_⟩
              conv => whnf
              refine ⟨gY, ?_⟩
              conv => whnf
              exact fin _ (by rw [hD]; rfl)
          · exact absurd (by decide) k1
      · have ht0 : t = 1 ∧ ¬ (r = 1 ∧ (0 ≤ v ∧ v < k) ∧ (0 ≤ u ∧ u ≤ 3)) := by
          rcases ht with g | g
          · rw [g.1] at h
            exact absurd (by decide) h
          · exact g
        obtain ⟨rfl, hno⟩ := ht0
        refine ⟨⟨_, rfl⟩, fun z => (by cases z), ?_⟩
        intro n' e1 g1
        have e1 : n = n' := nI_inj (by omega) (by omega) e1
        subst e1
        exact ⟨A', B', C', X', Y', D', k, r, h1, if_no hno ⟨rfl, rfl⟩⟩
    · exact absurd hq1 List.not_mem_nil
  · conv => whnf
    refine ⟨⟨px, py, sg, A, B, C, X, Y, D, th, po, re, nw, pl, tr, bo, pn, ca, sp, co, x, y, n, rfl, rfl, hn, hsg⟩, ?_⟩
    intro r wc hwc
    obtain ⟨A', B', C', X', Y', D', k, h1, hw⟩ := hwc n rfl hn
    have hw : wc = wMq (oMo th po re nw (nI n) pl tr bo pn ca sp k) px py sg A' B' C' X' Y' D' := hw
    have h1 : mmR px py sg n A B C X Y D co x y r A' B' C' X' Y' D' k := h1
    subst hw
    have e : rz_back (wMq (oMo th po re nw (nI n) pl tr bo pn ca sp co) px py sg A B C X Y D) (wMq (oMo th po re nw (nI n) pl tr bo pn ca sp k) px py sg A' B' C' X' Y' D') = wMq (oMo th po re nw (nI n) pl tr bo pn ca sp k) px py sg A' B' C' X' Y' D' := rz_back_pre (w := wMq (oMo th po re nw (nI n) pl tr bo pn ca sp co) px py sg A B C X Y D) (q := []) rfl (show kMq.Nodup by decide +kernel)
    rw [e]
    conv => whnf
    refine ⟨fun h2 => ?_, fun h2 => ?_⟩
    · have h2 : r = 1 := h2
      conv => whnf
      refine ⟨fun h3 => ?_, fun h3 => ?_⟩
      · conv => whnf
        refine ⟨1, by omega, A', B', C', X', Y', D', k, r, 1, h1, Or.inr ⟨rfl, fun z => absurd h3 ((i32_not_lt _ _).mpr z.2.1.1)⟩, rfl, rfl, rfl⟩
      · have h3 : 0 ≤ v := (i32_not_lt _ _).mp h3
        conv => whnf
        refine ⟨fun h4 => ?_, fun h4 => ?_⟩
        · conv => whnf
          refine ⟨1, by omega, A', B', C', X', Y', D', k, r, 1, h1, Or.inr ⟨rfl, fun z => absurd h4 ((i32_not_le _ _).mpr z.2.1.2)⟩, rfl, rfl, rfl⟩
        · have h4 : v < k := (i32_not_le _ _).mp h4
          conv => whnf
          refine ⟨⟨_, _, _, rfl, rfl, trivial⟩, ?_⟩
          intro r2 hr2
          obtain rfl : r2 = bI (0 ≤ u ∧ u ≤ 3) := hr2
          conv => whnf
          refine ⟨fun h5 => ?_, fun h5 => ?_⟩
          · conv => whnf
            refine ⟨1, by omega, A', B', C', X', Y', D', k, r, 1, h1, Or.inr ⟨rfl, fun z => bI_0 h5 z.2.2⟩, rfl, rfl, rfl⟩
          · conv => whnf
            refine ⟨1, by omega, A', B', C', X', Y', D', k, r, 0, h1, Or.inl ⟨rfl, h2, ⟨h3, h4⟩, bI_n h5⟩, rfl, rfl, rfl⟩
    · conv => whnf
      refine ⟨1, by omega, A', B', C', X', Y', D', k, r, 1, h1, Or.inr ⟨rfl, fun z => h2 z.1⟩, rfl, rfl, rfl⟩
theorem rv_X7_corner : rz_Rv yX7_corner.cls ce_X7_corner := fun av w h => by
  obtain ⟨_, _, _, _, _, _, _, _, _, _, _, _, _, _, _, _, _, _, _, _, _, _, _, _, _, rfl, rfl, _⟩ := h
  exact ⟨_, _, _, _, _, _, rfl, rfl, rfl⟩
theorem cn_X7_corner (l : Launch) : rz_Con l yX7_corner cX7_corner 9 (some .long) 4 0 0 ce_X7_corner := rz_con (by decide +kernel) fo_X7 (by
  intro q hq
  rcases List.mem_cons.mp hq with rfl | hq
  · exact rz_callS (cn_X7_isIn l) (by decide +kernel) ⟨Nat.le_of_ble_eq_true rfl, Nat.le_of_ble_eq_true rfl⟩ m_X7_isIn t_X7_isIn n_X7_87
  rcases List.mem_cons.mp hq with rfl | hq
  · exact rz_callS (cn_X7_common l) (by decide +kernel) ⟨Nat.le_of_ble_eq_true rfl, Nat.le_of_ble_eq_true rfl⟩ m_X7_common t_X7_common n_X7_159
  exact absurd hq List.not_mem_nil) (by
  intro q hq
  rcases List.mem_cons.mp hq with rfl | hq
  · exact rz_callV (cn_X7_meets l) (by decide +kernel) ⟨Nat.le_of_ble_eq_true rfl, Nat.le_of_ble_eq_true rfl⟩ m_X7_meets rfl i_X7_meets v_X7_meets rv_X7_meets n_X7_150
  exact absurd hq List.not_mem_nil) r_X7_corner vc_X7_corner
