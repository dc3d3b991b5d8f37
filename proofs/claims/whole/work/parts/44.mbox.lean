/-! The reference's boxOf, box. -/
theorem minR_P {P : Int64 → Int64 → Int64 → Prop} {X Y D : Nat → Int64} {n : Nat} {x y d : Int64} {X' Y' D' : Nat → Int64} {n' : Nat} (h : minR X Y D n x y d X' Y' D' n') (h0 : ∀ i, i < n → P (X i) (Y i) (D i)) (h1 : P x y d) : ∀ i, i < n' → P (X' i) (Y' i) (D' i) := by
  obtain ⟨t, a1, a2, a3, a4⟩ := h
  by_cases z : t < n ∧ orF X D Y D t x y d = 0
  · obtain ⟨rfl, rfl, rfl, rfl⟩ := if_y a4 z
    exact h0
  · obtain ⟨rfl, rfl, rfl, rfl⟩ := if_n a4 z
    intro i hi
    unfold insA
    by_cases g1 : i < t
    · rw [if_pos g1, if_pos g1, if_pos g1]; exact h0 i (by omega)
    · rw [if_neg g1, if_neg g1, if_neg g1]
      by_cases g2 : i = t
      · rw [if_pos g2, if_pos g2, if_pos g2]; exact h1
      · rw [if_neg g2, if_neg g2, if_neg g2, if_pos (by omega), if_pos (by omega), if_pos (by omega)]
        exact h0 (i - 1) (by omega)
theorem fmS_P {P : Int64 → Int64 → Int64 → Prop} {a b c X Y D : Nat → Int64} (hP : ∀ i j, i < 4 → j < 4 → ¬ crD a b i j = 0 → P (sgn (crD a b i j) (crX b c i j)) (sgn (crD a b i j) (crY a c i j)) (sgn (crD a b i j) (crD a b i j))) : ∀ {s : Nat} {t y m : Nat → Int64} {n : Nat}, s ≤ 6 → fmS a b c X Y D s t y m n → ∀ i, i < n → P (t i) (y i) (m i)
  | 0, _, _, _, _, _, h, i, hi => absurd hi (by rw [h.2.2.2]; omega)
  | s + 1, _, _, _, _, hs, h, i, hi => by
    obtain ⟨t0, y0, m0, n0, h1, h2⟩ := h
    have ih := fmS_P hP (by omega) h1
    have hpp : (pP s).1 < 4 ∧ (pP s).2 < 4 := by
      have : ∀ s, s < 6 → (pP s).1 < 4 ∧ (pP s).2 < 4 := by decide
      exact this s (by omega)
    unfold mcR at h2
    split at h2
    · obtain ⟨rfl, rfl, rfl, rfl⟩ := h2
      exact ih i hi
    · rename_i z
      exact minR_P h2 ih (hP _ _ hpp.1 hpp.2 (fun q => z (Or.inl q))) i hi
theorem sgn_ne {d : Int64} (h : ¬ d = 0) : ¬ sgn d d = 0 := fun z => by
  unfold sgn at z
  split at z
  · exact h (by have := congrArg (fun x => -x) z; simpa using this)
  · exact h z
def rnR (px py sg : Nat → Int32) (i j : Nat) (X' Y' D' : Nat → Int64) (q : Nat) : Prop := ∃ A B C X Y D A' B' C' : Nat → Int64, A' = bdF (bvA sg j) 2 (bdF (bvA sg i) 0 A 2) 2 ∧ B' = bdF (bvB sg j) 2 (bdF (bvB sg i) 0 B 2) 2 ∧ C' = bdF (bvC sg px py j) 2 (bdF (bvC sg px py i) 0 C 2) 2 ∧ fmS A' B' C' X Y D 6 X' Y' D' q
theorem rnR_D {px py sg : Nat → Int32} {i j : Nat} {X' Y' D' : Nat → Int64} {q : Nat} (h : rnR px py sg i j X' Y' D' q) : ∀ k, k < q → ¬ D' k = 0 := by
  obtain ⟨A, B, C, X, Y, D, A', B', C', -, -, -, h⟩ := h
  exact fmS_P (P := fun _ _ d => ¬ d = 0) (fun i j _ _ h => sgn_ne h) (Nat.le_refl 6) h
theorem mmR_rn {px py sg : Nat → Int32} {n : Nat} {A B C X Y D : Nat → Int64} {co x y r : Int32} {A' B' C' X' Y' D' : Nat → Int64} {k : Int32} (h : mmR px py sg n A B C X Y D co x y r A' B' C' X' Y' D' k) (ok : paP px py sg n x y) : ∃ q, k = nI q ∧ q ≤ 6 ∧ rnR px py sg x.toNatClampNeg y.toNatClampNeg X' Y' D' q := by
  obtain ⟨h1, h2, h3, q, h4, h5, -⟩ := if_y h ok
  exact ⟨q, h4, fmS_n h5, A, B, C, X, Y, D, A', B', C', h1, h2, h3, h5⟩
theorem mmR_ok {px py sg : Nat → Int32} {n : Nat} {A B C X Y D : Nat → Int64} {co x y r : Int32} {A' B' C' X' Y' D' : Nat → Int64} {k : Int32} (h : mmR px py sg n A B C X Y D co x y r A' B' C' X' Y' D' k) (hr : r = 1) : paP px py sg n x y := by
  by_cases ok : paP px py sg n x y
  · exact ok
  · have := (if_n h ok).1
    rw [hr] at this
    exact absurd this (by decide)
def mnF (f g : Nat → Int64) : Nat → Int64
  | 0 => fdv (f 0) (g 0)
  | k + 1 => if fdv (f (k + 1)) (g (k + 1)) < mnF f g k then fdv (f (k + 1)) (g (k + 1)) else mnF f g k
def mxF (f g : Nat → Int64) : Nat → Int64
  | 0 => -fdv (-f 0) (g 0)
  | k + 1 => if mxF f g k < -fdv (-f (k + 1)) (g (k + 1)) then -fdv (-f (k + 1)) (g (k + 1)) else mxF f g k
def bx4 (bx : Nat → Int64) (a b c d : Int64) : Nat → Int64 := fun i => if i = 0 then a else if i = 1 then b else if i = 2 then c else if i = 3 then d else bx i
theorem bx4_of {f bx : Nat → Int64} (a b c d : Int64) (h : ∀ i, 4 ≤ i → f i = bx i) : vp_updL (vp_updL (vp_updL (vp_updL f 0 a) 1 b) 2 c) 3 d = bx4 bx a b c d := by
  funext i
  unfold vp_updL bx4
  by_cases h0 : i = 0
  · subst h0; rfl
  by_cases h1 : i = 1
  · subst h1; rfl
  by_cases h2 : i = 2
  · subst h2; rfl
  by_cases h3 : i = 3
  · subst h3; rfl
  rw [if_neg h3, if_neg h2, if_neg h1, if_neg h0, if_neg h0, if_neg h1, if_neg h2, if_neg h3]
  exact h i (by omega)
def bxN (X Y D bx : Nat → Int64) : Nat → Nat → Int64
  | 0 => bx
  | k + 1 => bx4 bx (mnF X D k) (mnF Y D k) (mxF X D k) (mxF Y D k)
abbrev wMy (o : rz_C) (px py sg : Nat → Int32) (A B C X Y D bx : Nat → Int64) : rz_W := [(50, o), (51, ri 6 px), (52, ri 6 py), (57, ri 600 sg), (67, rl 4 A), (68, rl 4 B), (69, rl 4 C), (70, rl 8 X), (71, rl 8 Y), (72, rl 8 D), (73, rl 4 bx)]
abbrev kMy : List Nat := [50, 51, 52, 57, 67, 68, 69, 70, 71, 72, 73]
def ce_X7_boxOf : rz_K := (3, kMy, 2, false, fun av w => ∃ (px py sg : Nat → Int32) (A B C X Y D bx : Nat → Int64) (th po re nw pl tr bo pn ca sp co x y : Int32) (n : Nat), av = [.ref 50, .int x, .int y] ∧ w = wMy (oMo th po re nw (nI n) pl tr bo pn ca sp co) px py sg A B C X Y D bx ∧ n ≤ 100 ∧ (∀ i, i < n → vp_in (sg (6 * i + 0)) 6) ∧ paP px py sg n x y, fun av w _ w' => ∃ (A' B' C' X' Y' D' : Nat → Int64) (q : Nat), q ≤ 6 ∧ rnR (rI w 51) (rI w 52) (rI w 57) (rA av 1).toNatClampNeg (rA av 2).toNatClampNeg X' Y' D' q ∧ w' = rz_set (sMq w A' B' C' X' Y' D' (nI q)) 73 (rl 4 (bxN X' Y' D' (rJ w 73) q)))
def cl_X7_boxOf : List (Nat × rz_K) := [(163, ce_J9_floorDiv_f86c9), (166, ce_J9_min_f86c9), (169, ce_J9_max_f86c9)]
def cv_X7_boxOf : List (Nat × rz_K) := [(150, ce_X7_meets)]
set_option maxHeartbeats 8000000 in
theorem vc_X7_boxOf : rz_VC k_X7_boxOf fl_X7 cl_X7_boxOf cv_X7_boxOf s_X7_boxOf false 13 ce_X7_boxOf := by
  intro av w hlen hk hpre
  obtain ⟨px, py, sg, A, B, C, X, Y, D, bx, th, po, re, nw, pl, tr, bo, pn, ca, sp, co, x, y, n, rfl, rfl, hn, hsg, ok⟩ := hpre
  have b0 : vp_in 0 4 := vp_in_iff.mpr (by decide)
  have b1 : vp_in 1 4 := vp_in_iff.mpr (by decide)
  have b2 : vp_in 2 4 := vp_in_iff.mpr (by decide)
  have b3 : vp_in 3 4 := vp_in_iff.mpr (by decide)
  refine ⟨Nat.le_of_ble_eq_true rfl, [
    (10, [0, 1, 2, 4], fun z lv w' => ∃ (A' B' C' X' Y' D' : Nat → Int64) (q k : Nat), q ≤ 6 ∧ k ≤ q ∧ rnR px py sg x.toNatClampNeg y.toNatClampNeg X' Y' D' q ∧ lv = [(0, .ref 50), (1, .int x), (2, .int y), (4, .int (nI k))] ∧ w' = wMy (oMo th po re nw (nI n) pl tr bo pn ca sp (nI q)) px py sg A' B' C' X' Y' D' (bxN X' Y' D' bx k) ∧ z = q - k)], 130, 10, ?_, ?_⟩
  · intro y1 hq1 z lv w' hJ
    rcases List.mem_cons.mp hq1 with rfl | hq1
    · obtain ⟨A', B', C', X', Y', D', q, k, hq6, hkq, hrn, rfl, rfl, rfl⟩ := hJ
      conv => whnf
      refine ⟨fun h => ?_, fun h => ?_⟩
      · have e : k = q := by
          have := (nI_leI (by omega) (by omega)).mp h
          omega
        subst e
        exact ⟨rfl, fun z => (by cases z), A', B', C', X', Y', D', k, hq6, hrn, rfl⟩
      · have hk2 : k < q := by
          rcases Nat.lt_or_ge k q with z | z
          · exact z
          · exact absurd (nI_le z (by omega)) h
        have hcl : (nI k).toNatClampNeg = k := nI_clamp (by omega)
        have hv : vp_in (nI k) 8 := vp_in_nI (by omega) (by omega)
        have hD : ¬ D' (nI k).toNatClampNeg = 0 := by rw [hcl]; exact rnR_D hrn k hk2
        conv => whnf
        refine ⟨hv, ?_⟩
        conv => whnf
        refine ⟨hv, ?_⟩
        conv => whnf
        refine ⟨⟨_, _, rfl, rfl, hD⟩, ?_⟩
        intro v0 hv0
        have hv0 : v0 = fdv (X' (nI k).toNatClampNeg) (D' (nI k).toNatClampNeg) := hv0
        rw [hcl] at hv0
        conv => whnf
        intro v_ ev_
        have ev_ := ev_.symm
        subst ev_
        conv => whnf
        refine ⟨hv, ?_⟩
        conv => whnf
        refine ⟨hv, ?_⟩
        conv => whnf
        refine ⟨⟨_, _, rfl, rfl, hD⟩, ?_⟩
        intro v1 hv1
        have hv1 : v1 = fdv (Y' (nI k).toNatClampNeg) (D' (nI k).toNatClampNeg) := hv1
        rw [hcl] at hv1
        conv => whnf
        intro v_ ev_
        have ev_ := ev_.symm
        subst ev_
        conv => whnf
        refine ⟨hv, ?_⟩
        conv => whnf
        refine ⟨hv, ?_⟩
        conv => whnf
        refine ⟨⟨_, _, rfl, rfl, hD⟩, ?_⟩
        intro u2 hu2
        have hu2 : u2 = fdv (-X' (nI k).toNatClampNeg) (D' (nI k).toNatClampNeg) := hu2
        rw [hcl] at hu2
        conv => whnf
        intro v2 ev2
        conv => whnf
        refine ⟨hv, ?_⟩
        conv => whnf
        refine ⟨hv, ?_⟩
        conv => whnf
        refine ⟨⟨_, _, rfl, rfl, hD⟩, ?_⟩
        intro u3 hu3
        have hu3 : u3 = fdv (-Y' (nI k).toNatClampNeg) (D' (nI k).toNatClampNeg) := hu3
        rw [hcl] at hu3
        conv => whnf
        intro v3 ev3
        have ev2 : v2 = -fdv (-X' k) (D' k) := by rw [ev2]; show -u2 = _; rw [hu2]
        have ev3 : v3 = -fdv (-Y' k) (D' k) := by rw [ev3]; show -u3 = _; rw [hu3]
        cases k with
        | zero =>
          conv => whnf
          refine ⟨fun g0 => ?_, fun g0 => ?_⟩
          rotate_left
          · exact absurd rfl g0
          conv => whnf
          refine ⟨b0, ?_⟩
          conv => whnf
          refine ⟨fun g1 => ?_, fun g1 => ?_⟩
          rotate_left
          · exact absurd rfl g1
          conv => whnf
          refine ⟨b1, ?_⟩
          conv => whnf
          refine ⟨fun g2 => ?_, fun g2 => ?_⟩
          rotate_left
          · exact absurd rfl g2
          conv => whnf
          refine ⟨b2, ?_⟩
          conv => whnf
          refine ⟨fun g3 => ?_, fun g3 => ?_⟩
          rotate_left
          · exact absurd rfl g3
          conv => whnf
          refine ⟨b3, ?_⟩
          conv => whnf
          rintro _ rfl
          conv => whnf
          refine ⟨q - 1, by omega, A', B', C', X', Y', D', q, 1, hq6, by omega, hrn, rfl, ?_, rfl⟩
          show wMy (oMo th po re nw (nI n) pl tr bo pn ca sp (nI q)) px py sg A' B' C' X' Y' D' (vp_updL (vp_updL (vp_updL (vp_updL bx 0 v0) 1 v1) 2 v2) 3 v3) = _
          rw [bx4_of v0 v1 v2 v3 (fun _ _ => rfl), hv0, hv1, ev2, ev3]
          rfl
        | succ k =>
          have hne : ¬ nI (k + 1) = 0 := fun z => by
            have z : nI (k + 1) = nI 0 := z
            have := nI_inj (by omega) (by omega) z
            omega
          conv => whnf
          refine ⟨fun g0 => ?_, fun g0 => ?_⟩
          · exact absurd g0 hne
          conv => whnf
          refine ⟨b0, ?_⟩
          conv => whnf
          refine ⟨⟨_, _, rfl, rfl, trivial⟩, ?_⟩
          intro w0 hw0
          have hw0 : w0 = if v0 < mnF X' D' k then v0 else mnF X' D' k := hw0
          have hw0 : w0 = mnF X' D' (k + 1) := by rw [hw0, hv0]; rfl
          conv => whnf
          refine ⟨b0, ?_⟩
          conv => whnf
          refine ⟨fun g1 => ?_, fun g1 => ?_⟩
          · exact absurd g1 hne
          conv => whnf
          refine ⟨b1, ?_⟩
          conv => whnf
          refine ⟨⟨_, _, rfl, rfl, trivial⟩, ?_⟩
          intro w1 hw1
          have hw1 : w1 = if v1 < mnF Y' D' k then v1 else mnF Y' D' k := hw1
          have hw1 : w1 = mnF Y' D' (k + 1) := by rw [hw1, hv1]; rfl
          conv => whnf
          refine ⟨b1, ?_⟩
          conv => whnf
          refine ⟨fun g2 => ?_, fun g2 => ?_⟩
          · exact absurd g2 hne
          conv => whnf
          refine ⟨b2, ?_⟩
          conv => whnf
          refine ⟨⟨_, _, rfl, rfl, trivial⟩, ?_⟩
          intro w2 hw2
          have hw2 : w2 = if mxF X' D' k < v2 then v2 else mxF X' D' k := hw2
          have hw2 : w2 = mxF X' D' (k + 1) := by rw [hw2, ev2]; rfl
          conv => whnf
          refine ⟨b2, ?_⟩
          conv => whnf
          refine ⟨fun g3 => ?_, fun g3 => ?_⟩
          · exact absurd g3 hne
          conv => whnf
          refine ⟨b3, ?_⟩
          conv => whnf
          refine ⟨⟨_, _, rfl, rfl, trivial⟩, ?_⟩
          intro w3 hw3
          have hw3 : w3 = if mxF Y' D' k < v3 then v3 else mxF Y' D' k := hw3
          have hw3 : w3 = mxF Y' D' (k + 1) := by rw [hw3, ev3]; rfl
          conv => whnf
          refine ⟨b3, ?_⟩
          conv => whnf
          rintro _ rfl
          conv => whnf
          refine ⟨q - (k + 1 + 1), by omega, A', B', C', X', Y', D', q, k + 1 + 1, hq6, by omega, hrn, ?_, ?_, rfl⟩
          · show [_, _, _, (4, Value.int (nI (k + 1) + 1))] = _
            rw [nI_1]
          · show wMy (oMo th po re nw (nI n) pl tr bo pn ca sp (nI q)) px py sg A' B' C' X' Y' D' (vp_updL (vp_updL (vp_updL (vp_updL (bxN X' Y' D' bx (k + 1)) 0 w0) 1 w1) 2 w2) 3 w3) = _
            rw [bx4_of (bx := bx) w0 w1 w2 w3 (fun i hi => by show bx4 bx _ _ _ _ i = _; unfold bx4; rw [if_neg (by omega), if_neg (by omega), if_neg (by omega), if_neg (by omega)]), hw0, hw1, hw2, hw3]
            rfl
    · exact absurd hq1 List.not_mem_nil
  · conv => whnf
    refine ⟨⟨px, py, sg, A, B, C, X, Y, D, th, po, re, nw, pl, tr, bo, pn, ca, sp, co, x, y, n, rfl, rfl, hn, hsg⟩, ?_⟩
    intro r wc hwc
    obtain ⟨A', B', C', X', Y', D', k, h1, hw⟩ := hwc n rfl hn
    have hw : wc = wMq (oMo th po re nw (nI n) pl tr bo pn ca sp k) px py sg A' B' C' X' Y' D' := hw
    have h1 : mmR px py sg n A B C X Y D co x y r A' B' C' X' Y' D' k := h1
    obtain ⟨q, rfl, hq6, hrn⟩ := mmR_rn h1 ok
    subst hw
    conv => whnf
    rintro _ rfl
    conv => whnf
    rintro _ rfl
    conv => whnf
    refine ⟨q - 0, by omega, A', B', C', X', Y', D', q, 0, hq6, by omega, hrn, rfl, rfl, rfl⟩
theorem rv_X7_boxOf : rz_Rv yX7_boxOf.cls ce_X7_boxOf := fun av w h => by
  obtain ⟨_, _, _, _, _, _, _, _, _, _, _, _, _, _, _, _, _, _, _, _, _, _, _, _, rfl, rfl, _⟩ := h
  exact ⟨_, _, _, _, _, _, rfl, rfl, rfl⟩
theorem cn_X7_boxOf (l : Launch) : rz_Con l yX7_boxOf cX7_boxOf 13 none 4 0 0 ce_X7_boxOf := rz_con (by decide +kernel) fo_X7 (by
  intro q hq
  rcases List.mem_cons.mp hq with rfl | hq
  · exact rz_callS (cn_J9_floorDiv_f86c9 l) (by decide +kernel) ⟨Nat.le_of_ble_eq_true rfl, Nat.le_of_ble_eq_true rfl⟩ m_J9_floorDiv_f86c9 t_J9_floorDiv_f86c9 n_X7_163
  rcases List.mem_cons.mp hq with rfl | hq
  · exact rz_callS (cn_J9_min_f86c9 l) (by decide +kernel) ⟨Nat.le_of_ble_eq_true rfl, Nat.le_of_ble_eq_true rfl⟩ m_J9_min_f86c9 t_J9_min_f86c9 n_X7_166
  rcases List.mem_cons.mp hq with rfl | hq
  · exact rz_callS (cn_J9_max_f86c9 l) (by decide +kernel) ⟨Nat.le_of_ble_eq_true rfl, Nat.le_of_ble_eq_true rfl⟩ m_J9_max_f86c9 t_J9_max_f86c9 n_X7_169
  exact absurd hq List.not_mem_nil) (by
  intro q hq
  rcases List.mem_cons.mp hq with rfl | hq
  · exact rz_callV (cn_X7_meets l) (by decide +kernel) ⟨Nat.le_of_ble_eq_true rfl, Nat.le_of_ble_eq_true rfl⟩ m_X7_meets rfl i_X7_meets v_X7_meets rv_X7_meets n_X7_150
  exact absurd hq List.not_mem_nil) r_X7_boxOf vc_X7_boxOf
def ce_X7_box : rz_K := (4, kMy, 0, false, fun av w => ∃ (px py sg : Nat → Int32) (A B C X Y D bx : Nat → Int64) (th po re nw pl tr bo pn ca sp co x y u : Int32) (n : Nat), av = [.ref 50, .int x, .int y, .int u] ∧ w = wMy (oMo th po re nw (nI n) pl tr bo pn ca sp co) px py sg A B C X Y D bx ∧ n ≤ 100 ∧ (∀ i, i < n → vp_in (sg (6 * i + 0)) 6), fun av w o w' => ∀ n, rF w 50 10 = nI n → n ≤ 100 → ∃ (A' B' C' X' Y' D' : Nat → Int64) (k r : Int32), mmR (rI w 51) (rI w 52) (rI w 57) n (rJ w 67) (rJ w 68) (rJ w 69) (rJ w 70) (rJ w 71) (rJ w 72) (rF w 50 33) (rA av 1) (rA av 2) r A' B' C' X' Y' D' k ∧ if r = 1 ∧ (0 ≤ rA av 3 ∧ rA av 3 ≤ 3) then ∃ (A2 B2 C2 X2 Y2 D2 : Nat → Int64) (q : Nat), rnR (rI w 51) (rI w 52) (rI w 57) (rA av 1).toNatClampNeg (rA av 2).toNatClampNeg X2 Y2 D2 q ∧ w' = rz_set (sMq (mset w 0 0) A2 B2 C2 X2 Y2 D2 (nI q)) 73 (rl 4 (bxN X2 Y2 D2 (rJ w 73) q)) ∧ rR o = (bxN X2 Y2 D2 (rJ w 73) q (rA av 3).toNatClampNeg).toInt32 else rR o = 0 ∧ w' = sMq (mset w 0 1) A' B' C' X' Y' D' k)
def cl_X7_box : List (Nat × rz_K) := [(87, ce_X7_isIn)]
def cv_X7_box : List (Nat × rz_K) := [(150, ce_X7_meets), (172, ce_X7_boxOf)]
set_option maxHeartbeats 8000000 in
theorem vc_X7_box : rz_VC k_X7_box fl_X7 cl_X7_box cv_X7_box s_X7_box false 4 ce_X7_box := by
  intro av w hlen hk hpre
  obtain ⟨px, py, sg, A, B, C, X, Y, D, bx, th, po, re, nw, pl, tr, bo, pn, ca, sp, co, x, y, u, n, rfl, rfl, hn, hsg⟩ := hpre
  refine ⟨Nat.le_of_ble_eq_true rfl, [
    (28, [0, 1, 2, 3], fun z lv w' => ∃ (A' B' C' X' Y' D' : Nat → Int64) (k r t : Int32), mmR px py sg n A B C X Y D co x y r A' B' C' X' Y' D' k ∧ ((t = 0 ∧ r = 1 ∧ (0 ≤ u ∧ u ≤ 3)) ∨ (t = 1 ∧ ¬ (r = 1 ∧ (0 ≤ u ∧ u ≤ 3)))) ∧ lv = [(0, .ref 50), (1, .int x), (2, .int y), (3, .int u)] ∧ w' = wMy (oMo t po re nw (nI n) pl tr bo pn ca sp k) px py sg A' B' C' X' Y' D' bx ∧ z = 1),
    (43, [0, 3], fun z lv w' => ∃ (A' B' C' X' Y' D' : Nat → Int64) (k r : Int32), mmR px py sg n A B C X Y D co x y r A' B' C' X' Y' D' k ∧ (r = 1 ∧ (0 ≤ u ∧ u ≤ 3)) ∧ ∃ (A2 B2 C2 X2 Y2 D2 : Nat → Int64) (q : Nat), rnR px py sg x.toNatClampNeg y.toNatClampNeg X2 Y2 D2 q ∧ lv = [(0, .ref 50), (3, .int u)] ∧ w' = wMy (oMo 0 po re nw (nI n) pl tr bo pn ca sp (nI q)) px py sg A2 B2 C2 X2 Y2 D2 (bxN X2 Y2 D2 bx q) ∧ z = 0)], 60, 2, ?_, ?_⟩
  · intro y1 hq1 z lv w' hJ
    rcases List.mem_cons.mp hq1 with rfl | hq1
    · obtain ⟨A', B', C', X', Y', D', k, r, t, h1, ht, rfl, rfl, rfl⟩ := hJ
      conv => whnf
      refine ⟨fun h => ?_, fun h => ?_⟩
      · have ht0 : t = 0 ∧ r = 1 ∧ (0 ≤ u ∧ u ≤ 3) := by
          rcases ht with g | g
          · exact g
          · rw [g.1] at h
            exact absurd h (by decide)
        obtain ⟨rfl, hr, hu⟩ := ht0
        have ok := mmR_ok h1 hr
        conv => whnf
        refine ⟨⟨px, py, sg, A', B', C', X', Y', D', bx, 0, po, re, nw, pl, tr, bo, pn, ca, sp, k, x, y, n, rfl, rfl, hn, hsg, ok⟩, ?_⟩
        intro wc hwc
        obtain ⟨A2, B2, C2, X2, Y2, D2, q, hq6, hrn, hw⟩ := hwc
        have hw : wc = wMy (oMo 0 po re nw (nI n) pl tr bo pn ca sp (nI q)) px py sg A2 B2 C2 X2 Y2 D2 (bxN X2 Y2 D2 bx q) := hw
        have hrn : rnR px py sg x.toNatClampNeg y.toNatClampNeg X2 Y2 D2 q := hrn
        subst hw
        conv => whnf
        refine ⟨0, by omega, A', B', C', X', Y', D', k, r, h1, ⟨hr, hu⟩, A2, B2, C2, X2, Y2, D2, q, hrn, rfl, rfl, rfl⟩
      · have ht0 : t = 1 ∧ ¬ (r = 1 ∧ (0 ≤ u ∧ u ≤ 3)) := by
          rcases ht with g | g
          · rw [g.1] at h
            exact absurd (by decide) h
          · exact g
        obtain ⟨rfl, hno⟩ := ht0
        refine ⟨⟨_, rfl⟩, fun z => (by cases z), ?_⟩
        intro n' e1 g1
        have e1 : n = n' := nI_inj (by omega) (by omega) e1
        subst e1
        exact ⟨A', B', C', X', Y', D', k, r, h1, if_no hno ⟨rfl, rfl⟩⟩
    rcases List.mem_cons.mp hq1 with rfl | hq1
    · obtain ⟨A', B', C', X', Y', D', k, r, h1, hru, A2, B2, C2, X2, Y2, D2, q, hrn, rfl, rfl, rfl⟩ := hJ
      have hv : vp_in u 4 := vp_of2 hru.2.1 hru.2.2 rfl
      conv => whnf
      refine ⟨hv, ?_⟩
      conv => whnf
      refine ⟨⟨_, rfl⟩, fun z => (by cases z), ?_⟩
      intro n' e1 g1
      have e1 : n = n' := nI_inj (by omega) (by omega) e1
      subst e1
      exact ⟨A', B', C', X', Y', D', k, r, h1, if_yes hru ⟨A2, B2, C2, X2, Y2, D2, q, hrn, rfl, rfl⟩⟩
    · exact absurd hq1 List.not_mem_nil
  · conv => whnf
    refine ⟨⟨px, py, sg, A, B, C, X, Y, D, th, po, re, nw, pl, tr, bo, pn, ca, sp, co, x, y, n, rfl, rfl, hn, hsg⟩, ?_⟩
    intro r wc hwc
    obtain ⟨A', B', C', X', Y', D', k, h1, hw⟩ := hwc n rfl hn
    have hw : wc = wMq (oMo th po re nw (nI n) pl tr bo pn ca sp k) px py sg A' B' C' X' Y' D' := hw
    have h1 : mmR px py sg n A B C X Y D co x y r A' B' C' X' Y' D' k := h1
    subst hw
    have e : rz_back (wMy (oMo th po re nw (nI n) pl tr bo pn ca sp co) px py sg A B C X Y D bx) (wMq (oMo th po re nw (nI n) pl tr bo pn ca sp k) px py sg A' B' C' X' Y' D') = wMy (oMo th po re nw (nI n) pl tr bo pn ca sp k) px py sg A' B' C' X' Y' D' bx := rz_back_pre (w := wMq (oMo th po re nw (nI n) pl tr bo pn ca sp co) px py sg A B C X Y D) (q := [(73, rl 4 bx)]) rfl (show kMq.Nodup by decide +kernel)
    rw [e]
    conv => whnf
    refine ⟨fun h2 => ?_, fun h2 => ?_⟩
    · have h2 : r = 1 := h2
      conv => whnf
      refine ⟨⟨_, _, _, rfl, rfl, trivial⟩, ?_⟩
      intro r2 hr2
      obtain rfl : r2 = bI (0 ≤ u ∧ u ≤ 3) := hr2
      conv => whnf
      refine ⟨fun h3 => ?_, fun h3 => ?_⟩
      · conv => whnf
        refine ⟨1, by omega, A', B', C', X', Y', D', k, r, 1, h1, Or.inr ⟨rfl, fun z => bI_0 h3 z.2⟩, rfl, rfl, rfl⟩
      · conv => whnf
        refine ⟨1, by omega, A', B', C', X', Y', D', k, r, 0, h1, Or.inl ⟨rfl, h2, bI_n h3⟩, rfl, rfl, rfl⟩
    · conv => whnf
      refine ⟨1, by omega, A', B', C', X', Y', D', k, r, 1, h1, Or.inr ⟨rfl, fun z => h2 z.1⟩, rfl, rfl, rfl⟩
theorem rv_X7_box : rz_Rv yX7_box.cls ce_X7_box := fun av w h => by
  obtain ⟨_, _, _, _, _, _, _, _, _, _, _, _, _, _, _, _, _, _, _, _, _, _, _, _, _, rfl, rfl, _⟩ := h
  exact ⟨_, _, _, _, _, _, rfl, rfl, rfl⟩
theorem cn_X7_box (l : Launch) : rz_Con l yX7_box cX7_box 4 (some .int) 5 0 0 ce_X7_box := rz_con (by decide +kernel) fo_X7 (by
  intro q hq
  rcases List.mem_cons.mp hq with rfl | hq
  · exact rz_callS (cn_X7_isIn l) (by decide +kernel) ⟨Nat.le_of_ble_eq_true rfl, Nat.le_of_ble_eq_true rfl⟩ m_X7_isIn t_X7_isIn n_X7_87
  exact absurd hq List.not_mem_nil) (by
  intro q hq
  rcases List.mem_cons.mp hq with rfl | hq
  · exact rz_callV (cn_X7_meets l) (by decide +kernel) ⟨Nat.le_of_ble_eq_true rfl, Nat.le_of_ble_eq_true rfl⟩ m_X7_meets rfl i_X7_meets v_X7_meets rv_X7_meets n_X7_150
  rcases List.mem_cons.mp hq with rfl | hq
  · exact rz_callV (cn_X7_boxOf l) (by decide +kernel) ⟨Nat.le_of_ble_eq_true rfl, Nat.le_of_ble_eq_true rfl⟩ m_X7_boxOf rfl i_X7_boxOf v_X7_boxOf rv_X7_boxOf n_X7_172
  exact absurd hq List.not_mem_nil) r_X7_box vc_X7_box
