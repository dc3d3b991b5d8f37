/-! The reference's sightings, bounds, crossings. -/
abbrev wMs2 (o : rz_C) (sg : Nat → Int32) : rz_W := [(50, o), (57, ri 600 sg)]
theorem updL_eq (f : Nat → Int64) (k : Nat) (v : Int64) : vp_updL f k v k = v := if_pos rfl
theorem okS_nat {x : Int32} {n : Nat} (h : okS x n) (hn : n < 2 ^ 30) : ∃ i, i < n ∧ x = nI i := vp_in_of (okS_vp h (Nat.le_refl n) hn) (by omega)
def ce_X7_of : rz_K := (3, [50, 57], 0, true, fun av w => ∃ (sg : Nat → Int32) (th po re nw si pl tr bo pn ca sp co : Int32) (i a : Nat), av = [.ref 50, .int (nI i), .int (nI a)] ∧ w = wMs2 (oMo th po re nw si pl tr bo pn ca sp co) sg ∧ i < 100 ∧ a < 6, fun av w o _ => ∀ i a : Nat, rA av 1 = nI i → rA av 2 = nI a → i < 100 → a < 6 → rR o = rI w 57 (6 * i + a))
def cl_X7_of : List (Nat × rz_K) := []
def cv_X7_of : List (Nat × rz_K) := []
theorem vc_X7_of : rz_VC k_X7_of fl_X7 cl_X7_of cv_X7_of s_X7_of false 3 ce_X7_of := by
  intro av w hlen hk hpre
  obtain ⟨sg, th, po, re, nw, si, pl, tr, bo, pn, ca, sp, co, i, a, rfl, rfl, hi, ha⟩ := hpre
  refine ⟨Nat.le_of_ble_eq_true rfl, [], 30, 0, fun q h => absurd h List.not_mem_nil, ?_⟩
  have e : (6 : Int32) * nI i + nI a = nI (6 * i + a) := by
    show nI 6 * nI i + nI a = _
    rw [pk_mul, nI_add]
  have hv : vp_in ((6 : Int32) * nI i + nI a) 600 := by rw [e]; exact vp_in_nI (by omega) (by omega)
  conv => whnf
  refine ⟨hv, ?_⟩
  conv => whnf
  refine ⟨⟨_, rfl⟩, fun _ => rfl, ?_⟩
  intro i' a' e1 e2 h1 h2
  have e1 : i = i' := nI_inj (by omega) (by omega) e1
  have e2 : a = a' := nI_inj (by omega) (by omega) e2
  subst e1 e2
  show sg ((6 : Int32) * nI i + nI a).toNatClampNeg = sg (6 * i + a)
  rw [e, nI_clamp (by omega)]
theorem rv_X7_of : rz_Rv yX7_of.cls ce_X7_of := fun av w h => by
  obtain ⟨_, _, _, _, _, _, _, _, _, _, _, _, _, _, _, rfl, rfl, _⟩ := h
  exact ⟨_, _, _, _, _, _, rfl, rfl, rfl⟩
theorem cn_X7_of (l : Launch) : rz_Con l yX7_of cX7_of 3 (some .int) 0 0 0 ce_X7_of := rz_con (by decide +kernel) fo_X7 (fun _ h => absurd h List.not_mem_nil) (fun _ h => absurd h List.not_mem_nil) r_X7_of vc_X7_of
def tl6 (a b c d e f : Int32) : Nat → Int32 := upd (upd (upd (upd (upd (upd (fun _ => 0) 0 a) 1 b) 2 c) 3 d) 4 e) 5 f
theorem okE_iff {a b : Int32} : okE a b ↔ (-50 ≤ a ∧ a ≤ 50) ∧ (-50 ≤ b ∧ b ≤ 50) := ⟨fun h => ⟨⟨h.1, h.2.1⟩, h.2.2⟩, fun h => ⟨h.1.1, h.1.2, h.2⟩⟩
def ce_X7_sight : rz_K := (6, [50, 57], 0, false, fun av w => ∃ (sg : Nat → Int32) (th re nw pl tr bo pn ca sp co p a b c d : Int32) (g n : Nat), av = [.ref 50, .int p, .int a, .int b, .int c, .int d] ∧ w = wMs2 (oMo th (nI g) re nw (nI n) pl tr bo pn ca sp co) sg ∧ n ≤ 100, fun av w o w' => ∀ g n : Nat, rF w 50 7 = nI g → g ≤ 6 → rF w 50 10 = nI n → n ≤ 100 → if okG (rA av 1) g (rA av 2) (rA av 3) (rA av 4) (rA av 5) ∧ n < 100 then rR o = nI n ∧ w' = rz_set (mset (mset w 0 0) 10 (nI (n + 1))) 57 (ri 600 (cpN (tl6 (rA av 1) (rF w 50 9) (rA av 2) (rA av 3) (rA av 4) (rA av 5)) (6 * n) (rI w 57) 6)) else rR o = -1 ∧ w' = mset w 0 0)
def cl_X7_sight : List (Nat × rz_K) := [(87, ce_X7_isIn)]
def cv_X7_sight : List (Nat × rz_K) := []
set_option maxRecDepth 20000 in
set_option maxHeartbeats 4000000 in
theorem vc_X7_sight : rz_VCA [900] 1 6 k_X7_sight fl_X7 cl_X7_sight cv_X7_sight s_X7_sight false 8 ce_X7_sight := by
  intro av w hlen hk hpre
  obtain ⟨sg, th, re, nw, pl, tr, bo, pn, ca, sp, co, p, a, b, c, d, g, n, rfl, rfl, hn⟩ := hpre
  have no : ¬ (((0 ≤ p ∧ p ≤ nI g - 1) ∧ okE a b ∧ okE c d ∧ 0 < a * d - b * c) ∧ n < 100) → rz_endA [900] ce_X7_sight [.ref 50, .int p, .int a, .int b, .int c, .int d] (wMs2 (oMo th (nI g) re nw (nI n) pl tr bo pn ca sp co) sg) (some (.int (-1))) (wMs2 (oMo 0 (nI g) re nw (nI n) pl tr bo pn ca sp co) sg) := by
    intro z1
    refine ⟨⟨0, rfl⟩, _, rfl, rfl, ⟨_, rfl⟩, fun z => (by cases z), ?_⟩
    intro g' n' e1 h1 e2 h2
    have e1 : nI g = nI g' := e1
    have e2 : n = n' := nI_inj (by omega) (by omega) e2
    subst e2
    exact if_no (by rw [okG, okS, ← e1]; exact z1) ⟨rfl, rfl⟩
  refine ⟨Nat.le_of_ble_eq_true rfl, [
    (126, [0, 6, 7], fun z lv w' => ∃ i : Nat, ((0 ≤ p ∧ p ≤ nI g - 1) ∧ okE a b ∧ okE c d ∧ 0 < a * d - b * c) ∧ n < 100 ∧ i ≤ 6 ∧ lv = [(0, .ref 50), (6, .ref 900), (7, .int (nI i))] ∧ w' = [(50, oMo 0 (nI g) re nw (nI n) pl tr bo pn ca sp co), (57, ri 600 (cpN (tl6 p nw a b c d) (6 * n) sg i)), (900, ri 6 (tl6 p nw a b c d))] ∧ z = 6 - i)], 150, 7, ?_, ?_⟩
  · intro y hq z lv w' hj
    rcases List.mem_cons.mp hq with rfl | hq
    · obtain ⟨i, hG, hn2, hi, rfl, rfl, rfl⟩ := hj
      conv => whnf
      refine ⟨fun k => ?_, fun k => ?_⟩
      · have k : nI 6 ≤ nI i := k
        have e : i = 6 := by
          have := (nI_leI (by omega) (by omega)).mp k
          omega
        subst e
        refine ⟨⟨1, rfl⟩, _, rfl, rfl, ⟨_, rfl⟩, fun z => (by cases z), ?_⟩
        intro g' n' e1 h1 e2 h2
        have e1 : nI g = nI g' := e1
        have e2 : n = n' := nI_inj (by omega) (by omega) e2
        subst e2
        refine if_yes (by rw [okG, okS, ← e1]; exact ⟨hG, hn2⟩) ⟨?_, ?_⟩
        · show nI n + 1 - 1 = nI n
          exact i32_asc _
        · show wMs2 (oMo 0 (nI g) re nw (nI n + 1) pl tr bo pn ca sp co) (cpN (tl6 p nw a b c d) (6 * n) sg 6) = _
          rw [nI_1]
          rfl
      · have k : ¬ nI 6 ≤ nI i := k
        have hi2 : i < 6 := by
          rcases Nat.lt_or_ge i 6 with z | z
          · exact z
          · exact absurd (nI_le z (by omega)) k
        have hcl : (nI i).toNatClampNeg = i := nI_clamp (by omega)
        have e : (6 : Int32) * nI n + nI i = nI (6 * n + i) := by
          show nI 6 * nI n + nI i = _
          rw [pk_mul, nI_add]
        have hv : vp_in ((6 : Int32) * nI n + nI i) 600 := by rw [e]; exact vp_in_nI (by omega) (by omega)
        conv => whnf
        refine ⟨vp_in_nI hi2 (by omega), ?_⟩
        conv => whnf
        refine ⟨hv, ?_⟩
        conv => whnf
        rintro _ rfl
        conv => whnf
        refine ⟨6 - (i + 1), by omega, i + 1, hG, hn2, by omega, ?_, ?_, rfl⟩
        · show [_, _, (7, Value.int (nI i + 1))] = _
          rw [nI_1]
        · show [_, (57, ri 600 (upd (cpN (tl6 p nw a b c d) (6 * n) sg i) ((6 : Int32) * nI n + nI i).toNatClampNeg (tl6 p nw a b c d (nI i).toNatClampNeg))), _] = _
          rw [hcl, e, nI_clamp (by omega)]
          rfl
    · exact absurd hq List.not_mem_nil
  · conv => whnf
    refine ⟨⟨_, _, _, rfl, rfl, trivial⟩, ?_⟩
    intro r hr
    obtain rfl : r = bI (0 ≤ p ∧ p ≤ nI g - 1) := hr
    conv => whnf
    refine ⟨fun h0 => ?_, fun h0 => ?_⟩
    · exact no (fun z => bI_0 h0 z.1.1)
    · conv => whnf
      refine ⟨fun h1 => ?_, fun h1 => ?_⟩
      · have h1 : nI n = nI 100 := h1
        have h1 := nI_inj (by omega) (by omega) h1
        exact no (fun z => by have := z.2; omega)
      · have h1 : ¬ nI n = nI 100 := h1
        have hn2 : n < 100 := by
          rcases Nat.lt_or_ge n 100 with q | q
          · exact q
          · exact absurd (congrArg nI (show n = 100 by omega)) h1
        conv => whnf
        refine ⟨⟨_, _, _, rfl, rfl, trivial⟩, ?_⟩
        intro r hr
        obtain rfl : r = bI (-50 ≤ a ∧ a ≤ 50) := hr
        conv => whnf
        refine ⟨fun h2 => ?_, fun h2 => ?_⟩
        · exact no (fun z => bI_0 h2 (okE_iff.mp z.1.2.1).1)
        · conv => whnf
          refine ⟨⟨_, _, _, rfl, rfl, trivial⟩, ?_⟩
          intro r hr
          obtain rfl : r = bI (-50 ≤ b ∧ b ≤ 50) := hr
          conv => whnf
          refine ⟨fun h3 => ?_, fun h3 => ?_⟩
          · exact no (fun z => bI_0 h3 (okE_iff.mp z.1.2.1).2)
          · conv => whnf
            refine ⟨⟨_, _, _, rfl, rfl, trivial⟩, ?_⟩
            intro r hr
            obtain rfl : r = bI (-50 ≤ c ∧ c ≤ 50) := hr
            conv => whnf
            refine ⟨fun h4 => ?_, fun h4 => ?_⟩
            · exact no (fun z => bI_0 h4 (okE_iff.mp z.1.2.2.1).1)
            · conv => whnf
              refine ⟨⟨_, _, _, rfl, rfl, trivial⟩, ?_⟩
              intro r hr
              obtain rfl : r = bI (-50 ≤ d ∧ d ≤ 50) := hr
              conv => whnf
              refine ⟨fun h5 => ?_, fun h5 => ?_⟩
              · exact no (fun z => bI_0 h5 (okE_iff.mp z.1.2.2.1).2)
              · conv => whnf
                refine ⟨fun h6 => ?_, fun h6 => ?_⟩
                · have hG : (0 ≤ p ∧ p ≤ nI g - 1) ∧ okE a b ∧ okE c d ∧ 0 < a * d - b * c := ⟨bI_n h0, okE_iff.mpr ⟨bI_n h2, bI_n h3⟩, okE_iff.mpr ⟨bI_n h4, bI_n h5⟩, h6⟩
                  conv => whnf
                  refine ⟨rfl, Nat.le_refl 1, Nat.le_refl 6, ?_⟩
                  conv => whnf
                  refine ⟨vp_in_iff.mpr (by decide), ?_⟩
                  conv => whnf
                  refine ⟨vp_in_iff.mpr (by decide), ?_⟩
                  conv => whnf
                  refine ⟨vp_in_iff.mpr (by decide), ?_⟩
                  conv => whnf
                  refine ⟨vp_in_iff.mpr (by decide), ?_⟩
                  conv => whnf
                  refine ⟨vp_in_iff.mpr (by decide), ?_⟩
                  conv => whnf
                  refine ⟨vp_in_iff.mpr (by decide), ?_⟩
                  conv => whnf
                  rintro _ rfl
                  conv => whnf
                  refine ⟨6, by omega, 0, hG, hn2, by omega, rfl, rfl, rfl⟩
                · exact no (fun z => h6 z.1.2.2.2)
theorem rv_X7_sight : rz_Rv yX7_sight.cls ce_X7_sight := fun av w h => by
  obtain ⟨_, _, _, _, _, _, _, _, _, _, _, _, _, _, _, _, _, _, rfl, rfl, _⟩ := h
  exact ⟨_, _, _, _, _, _, rfl, rfl, rfl⟩
theorem cn_X7_sight (l : Launch) : rz_Con l yX7_sight cX7_sight 8 (some .int) 1 1 6 ce_X7_sight := rz_conA (by decide +kernel) fo_X7 (by
  intro q hq
  rcases List.mem_cons.mp hq with rfl | hq
  · exact rz_callS (cn_X7_isIn l) (by decide +kernel) ⟨Nat.le_of_ble_eq_true rfl, Nat.le_of_ble_eq_true rfl⟩ m_X7_isIn t_X7_isIn n_X7_87
  exact absurd hq List.not_mem_nil) (fun _ h => absurd h List.not_mem_nil) r_X7_sight vc_X7_sight
def sgK (k : Nat) : Int64 := if k = 0 then 1 else -1
abbrev bvA (sg : Nat → Int32) (i k : Nat) : Int64 := -(sg (6 * i + (3 + 2 * k))).toInt64 * sgK k
abbrev bvB (sg : Nat → Int32) (i k : Nat) : Int64 := (sg (6 * i + (2 + 2 * k))).toInt64 * sgK k
abbrev bvC (sg px py : Nat → Int32) (i k : Nat) : Int64 := bvA sg i k * (px (sg (6 * i + 0)).toNatClampNeg).toInt64 + bvB sg i k * (py (sg (6 * i + 0)).toNatClampNeg).toInt64
def bdF (v : Nat → Int64) (q : Nat) (f : Nat → Int64) : Nat → Nat → Int64
  | 0 => f
  | k + 1 => vp_updL (bdF v q f k) (q + k) (v k)
abbrev wMd (o : rz_C) (px py sg : Nat → Int32) (A B C : Nat → Int64) : rz_W := [(50, o), (51, ri 6 px), (52, ri 6 py), (57, ri 600 sg), (67, rl 4 A), (68, rl 4 B), (69, rl 4 C)]
abbrev kMd : List Nat := [50, 51, 52, 57, 67, 68, 69]
def ce_X7_bounds : rz_K := (3, kMd, 2, false, fun av w => ∃ (px py sg : Nat → Int32) (A B C : Nat → Int64) (th po re nw si pl tr bo pn ca sp co : Int32) (i q : Nat), av = [.ref 50, .int (nI i), .int (nI q)] ∧ w = wMd (oMo th po re nw si pl tr bo pn ca sp co) px py sg A B C ∧ i < 100 ∧ q < 3 ∧ vp_in (sg (6 * i + 0)) 6, fun av w _ w' => ∀ i q, rA av 1 = nI i → i < 100 → rA av 2 = nI q → q < 3 → w' = rz_set (rz_set (rz_set w 67 (rl 4 (bdF (bvA (rI w 57) i) q (rJ w 67) 2))) 68 (rl 4 (bdF (bvB (rI w 57) i) q (rJ w 68) 2))) 69 (rl 4 (bdF (bvC (rI w 57) (rI w 51) (rI w 52) i) q (rJ w 69) 2)))
def cl_X7_bounds : List (Nat × rz_K) := []
def cv_X7_bounds : List (Nat × rz_K) := [(119, ce_X7_of)]
set_option maxHeartbeats 4000000 in
theorem vc_X7_bounds : rz_VC k_X7_bounds fl_X7 cl_X7_bounds cv_X7_bounds s_X7_bounds false 11 ce_X7_bounds := by
  intro av w hlen hk hpre
  obtain ⟨px, py, sg, A, B, C, th, po, re, nw, si, pl, tr, bo, pn, ca, sp, co, i, q, rfl, rfl, hi, hq3, hp⟩ := hpre
  refine ⟨Nat.le_of_ble_eq_true rfl, [
    (10, [0, 1, 2, 3, 4], fun z lv w' => ∃ k : Nat, k ≤ 2 ∧ lv = [(0, .ref 50), (1, .int (nI i)), (2, .int (nI q)), (3, .int (sg (6 * i + 0))), (4, .int (nI k))] ∧ w' = wMd (oMo th po re nw si pl tr bo pn ca sp co) px py sg (bdF (bvA sg i) q A k) (bdF (bvB sg i) q B k) (bdF (bvC sg px py i) q C k) ∧ z = (2 - k) * 2 + 1),
    (58, [0, 1, 2, 3, 4, 5, 7, 9], fun z lv w' => ∃ k : Nat, k < 2 ∧ lv = [(0, .ref 50), (1, .int (nI i)), (2, .int (nI q)), (3, .int (sg (6 * i + 0))), (4, .int (nI k)), (5, .long (sg (6 * i + (2 + 2 * k))).toInt64), (7, .long (sg (6 * i + (3 + 2 * k))).toInt64), (9, .long (sgK k))] ∧ w' = wMd (oMo th po re nw si pl tr bo pn ca sp co) px py sg (bdF (bvA sg i) q A k) (bdF (bvB sg i) q B k) (bdF (bvC sg px py i) q C k) ∧ z = (2 - k) * 2)], 100, 6, ?_, ?_⟩
  · intro y1 hq1 z lv w' hj
    rcases List.mem_cons.mp hq1 with rfl | hq1
    · obtain ⟨k, hk2, rfl, rfl, rfl⟩ := hj
      conv => whnf
      refine ⟨fun h => ?_, fun h => ?_⟩
      · have h : nI 2 ≤ nI k := h
        have e : k = 2 := by
          have := (nI_leI (by omega) (by omega)).mp h
          omega
        subst e
        refine ⟨rfl, fun z => (by cases z), ?_⟩
        intro i' q' e1 h1 e2 h2
        have e1 : i = i' := nI_inj (by omega) (by omega) e1
        have e2 : q = q' := nI_inj (by omega) (by omega) e2
        subst e1 e2
        rfl
      · have h : ¬ nI 2 ≤ nI k := h
        have hk3 : k < 2 := by
          rcases Nat.lt_or_ge k 2 with z | z
          · exact z
          · exact absurd (nI_le z (by omega)) h
        have e2 : (2 : Int32) + 2 * nI k = nI (2 + 2 * k) := by
          show nI 2 + nI 2 * nI k = _
          rw [pk_mul, nI_add]
        have e3 : (3 : Int32) + 2 * nI k = nI (3 + 2 * k) := by
          show nI 3 + nI 2 * nI k = _
          rw [pk_mul, nI_add]
        conv => whnf
        refine ⟨⟨sg, th, po, re, nw, si, pl, tr, bo, pn, ca, sp, co, i, 2 + 2 * k, (by show [_, _, Value.int ((2 : Int32) + 2 * nI k)] = _; rw [e2]), rfl, hi, by omega⟩, ?_⟩
        intro r hr
        have hr : r = sg (6 * i + (2 + 2 * k)) := hr i (2 + 2 * k) rfl e2 hi (by omega)
        subst hr
        conv => whnf
        rintro _ rfl
        conv => whnf
        refine ⟨⟨sg, th, po, re, nw, si, pl, tr, bo, pn, ca, sp, co, i, 3 + 2 * k, (by show [_, _, Value.int ((3 : Int32) + 2 * nI k)] = _; rw [e3]), rfl, hi, by omega⟩, ?_⟩
        intro r hr
        have hr : r = sg (6 * i + (3 + 2 * k)) := hr i (3 + 2 * k) rfl e3 hi (by omega)
        subst hr
        conv => whnf
        rintro _ rfl
        conv => whnf
        refine ⟨fun hz => ?_, fun hz => ?_⟩
        · have hz : nI k = nI 0 := hz
          have hz := nI_inj (by omega) (by omega) hz
          subst hz
          conv => whnf
          rintro _ rfl
          conv => whnf
          refine ⟨(2 - 0) * 2, by omega, 0, hk3, rfl, rfl, rfl⟩
        · have hz2 : ¬ k = 0 := fun z => hz (by rw [z]; rfl)
          conv => whnf
          rintro _ rfl
          conv => whnf
          refine ⟨(2 - k) * 2, by omega, k, hk3, ?_, rfl, rfl⟩
          rw [sgK, if_neg hz2]
          rfl
    rcases List.mem_cons.mp hq1 with rfl | hq1
    · obtain ⟨k, hk2, rfl, rfl, rfl⟩ := hj
      have hv : vp_in (nI q + nI k) 4 := by rw [nI_add]; exact vp_in_nI (by omega) (by omega)
      have hc : (nI q + nI k).toNatClampNeg = q + k := by rw [nI_add]; exact nI_clamp (by omega)
      generalize hX : (sg (6 * i + (2 + 2 * k))).toInt64 = dx
      generalize hY : (sg (6 * i + (3 + 2 * k))).toInt64 = dy
      generalize hP : sg (6 * i + 0) = P at *
      conv => whnf
      refine ⟨hv, ?_⟩
      conv => whnf
      refine ⟨hv, ?_⟩
      conv => whnf
      refine ⟨hv, ?_⟩
      conv => whnf
      refine ⟨hp, ?_⟩
      conv => whnf
      refine ⟨hv, ?_⟩
      conv => whnf
      refine ⟨hp, ?_⟩
      conv => whnf
      refine ⟨hv, ?_⟩
      conv => whnf
      rintro _ rfl
      conv => whnf
      refine ⟨(2 - (k + 1)) * 2 + 1, by omega, k + 1, by omega, ?_, ?_, rfl⟩
      · show [_, _, _, _, (4, Value.int (nI k + 1))] = _
        rw [nI_1]
      · show wMd (oMo th po re nw si pl tr bo pn ca sp co) px py sg (vp_updL (bdF (bvA sg i) q A k) (nI q + nI k).toNatClampNeg (-dy * sgK k)) (vp_updL (bdF (bvB sg i) q B k) (nI q + nI k).toNatClampNeg (dx * sgK k)) (vp_updL (bdF (bvC sg px py i) q C k) (nI q + nI k).toNatClampNeg (vp_updL (bdF (bvA sg i) q A k) (nI q + nI k).toNatClampNeg (-dy * sgK k) (nI q + nI k).toNatClampNeg * (px P.toNatClampNeg).toInt64 + vp_updL (bdF (bvB sg i) q B k) (nI q + nI k).toNatClampNeg (dx * sgK k) (nI q + nI k).toNatClampNeg * (py P.toNatClampNeg).toInt64)) = _
        rw [hc, updL_eq, updL_eq, ← hX, ← hY, ← hP]
        rfl
    · exact absurd hq1 List.not_mem_nil
  · conv => whnf
    refine ⟨⟨sg, th, po, re, nw, si, pl, tr, bo, pn, ca, sp, co, i, 0, rfl, rfl, hi, by omega⟩, ?_⟩
    intro r hr
    have hr : r = sg (6 * i + 0) := hr i 0 rfl rfl hi (by omega)
    subst hr
    conv => whnf
    rintro _ rfl
    conv => whnf
    rintro _ rfl
    conv => whnf
    refine ⟨5, by omega, 0, by omega, rfl, rfl, rfl⟩
theorem rv_X7_bounds : rz_Rv yX7_bounds.cls ce_X7_bounds := fun av w h => by
  obtain ⟨_, _, _, _, _, _, _, _, _, _, _, _, _, _, _, _, _, _, _, _, rfl, rfl, _⟩ := h
  exact ⟨_, _, _, _, _, _, rfl, rfl, rfl⟩
theorem cn_X7_bounds (l : Launch) : rz_Con l yX7_bounds cX7_bounds 11 none 1 0 0 ce_X7_bounds := rz_con (by decide +kernel) fo_X7 (fun _ h => absurd h List.not_mem_nil) (by
  intro q hq
  rcases List.mem_cons.mp hq with rfl | hq
  · exact rz_callV (cn_X7_of l) (by decide +kernel) ⟨Nat.le_of_ble_eq_true rfl, Nat.le_of_ble_eq_true rfl⟩ m_X7_of rfl i_X7_of v_X7_of rv_X7_of n_X7_119
  exact absurd hq List.not_mem_nil) r_X7_bounds vc_X7_bounds
abbrev wMw (o : rz_C) (A B C : Nat → Int64) : rz_W := [(50, o), (67, rl 4 A), (68, rl 4 B), (69, rl 4 C)]
def wiP (A B C : Nat → Int64) (x y d : Int64) (f : Int32) (j : Nat) : Prop := if f = 0 then inP A B C x y d j else ruP A B x y j
def ce_X7_isWithin : rz_K := (5, [50, 67, 68, 69], 0, true, fun av w => ∃ (A B C : Nat → Int64) (th po re nw si pl tr bo pn ca sp co : Int32) (x y d : Int64) (f : Int32), av = [.ref 50, .long x, .long y, .long d, .int f] ∧ w = wMw (oMo th po re nw si pl tr bo pn ca sp co) A B C ∧ True, fun av w o _ => rR o = if rA av 4 = 0 then bI (inA (rJ w 67) (rJ w 68) (rJ w 69) (rB av 1) (rB av 2) (rB av 3)) else bI (ruA (rJ w 67) (rJ w 68) (rB av 1) (rB av 2)))
def cl_X7_isWithin : List (Nat × rz_K) := []
def cv_X7_isWithin : List (Nat × rz_K) := []
theorem vc_X7_isWithin : rz_VC k_X7_isWithin fl_X7 cl_X7_isWithin cv_X7_isWithin s_X7_isWithin true 10 ce_X7_isWithin := by
  intro av w hlen hk hpre
  obtain ⟨A, B, C, th, po, re, nw, si, pl, tr, bo, pn, ca, sp, co, x, y, d, f, rfl, rfl, -⟩ := hpre
  refine ⟨Nat.le_of_ble_eq_true rfl, [(6, [0, 1, 3, 5, 7, 8, 9], fun z lv w' => ∃ (i : Nat) (b : Int32), i ≤ 4 ∧ ((b = 1 ∧ ∀ j, j < i → wiP A B C x y d f j) ∨ (b = 0 ∧ ∃ j, j < i ∧ ¬ wiP A B C x y d f j)) ∧ lv = [(0, .ref 50), (1, .long x), (3, .long y), (5, .long d), (7, .int f), (8, .int b), (9, .int (nI i))] ∧ w' = wMw (oMo th po re nw si pl tr bo pn ca sp co) A B C ∧ z = 4 - i)], 60, 5, ?_, ?_⟩
  · intro y1 hq z lv w' hj
    rcases List.mem_cons.mp hq with rfl | hq
    · obtain ⟨i, b, hi, hb, rfl, rfl, rfl⟩ := hj
      conv => whnf
      refine ⟨fun k => ?_, fun k => ?_⟩
      · have k : nI 4 ≤ nI i := k
        have e : i = 4 := by
          have := (nI_leI (by omega) (by omega)).mp k
          omega
        subst e
        have fin : b = if f = 0 then bI (inA A B C x y d) else bI (ruA A B x y) := by
          rcases hb with ⟨rfl, h⟩ | ⟨rfl, j, h1, h2⟩
          · by_cases hf : f = 0
            · rw [if_pos hf]
              exact bI_t (all4 (fun j hj => by have := h j hj; unfold wiP at this; rw [if_pos hf] at this; exact this))
            · rw [if_neg hf]
              exact bI_t (all4 (fun j hj => by have := h j hj; unfold wiP at this; rw [if_neg hf] at this; exact this))
          · by_cases hf : f = 0
            · rw [if_pos hf]
              exact bI_f (fun z => h2 (by unfold wiP; rw [if_pos hf]; exact all4' z j h1))
            · rw [if_neg hf]
              exact bI_f (fun z => h2 (by unfold wiP; rw [if_neg hf]; exact all4' z j h1))
        refine ⟨?_, ⟨_, rfl⟩, fun _ => rfl, fin⟩
        rcases hb with ⟨rfl, h⟩ | ⟨rfl, j, h1, h2⟩
        · exact Or.inr rfl
        · exact Or.inl rfl
      · have k : ¬ nI 4 ≤ nI i := k
        have hi2 : i < 4 := by
          rcases Nat.lt_or_ge i 4 with z | z
          · exact z
          · exact absurd (nI_le z (by omega)) k
        have hcl : (nI i).toNatClampNeg = i := nI_clamp (by omega)
        have nx : (9, Value.int (nI i + 1)) = (9, Value.int (nI (i + 1))) := by rw [nI_1]
        conv => whnf
        refine ⟨fun kb => ?_, fun kb => ?_⟩
        · obtain ⟨rfl, j, h1, h2⟩ : b = 0 ∧ ∃ j, j < i ∧ ¬ wiP A B C x y d f j := by
            rcases hb with h | h
            · exact absurd (h.1.symm.trans kb) (by decide)
            · exact h
          conv => whnf
          rintro _ rfl
          conv => whnf
          rintro _ rfl
          conv => whnf
          refine ⟨4 - (i + 1), by omega, i + 1, 0, by omega, Or.inr ⟨rfl, j, by omega, h2⟩, ?_, rfl, rfl⟩
          show [_, _, _, _, _, _, (9, Value.int (nI i + 1))] = _
          rw [nx]
        · obtain ⟨rfl, h1⟩ : b = 1 ∧ ∀ j, j < i → wiP A B C x y d f j := by
            rcases hb with h | h
            · exact h
            · exact absurd h.1 kb
          conv => whnf
          refine ⟨nI4 i hi2, ?_⟩
          conv => whnf
          refine ⟨nI4 i hi2, ?_⟩
          conv => whnf
          refine ⟨fun kf => ?_, fun kf => ?_⟩
          · conv => whnf
            refine ⟨nI4 i hi2, ?_⟩
            conv => whnf
            refine ⟨fun k2 => ?_, fun k2 => ?_⟩
            · have k2 : ¬ C (nI i).toNatClampNeg * d ≤ A (nI i).toNatClampNeg * x + B (nI i).toNatClampNeg * y := (i64_not_le _ _).mpr ((lg_lt0 _ _).mp k2)
              rw [hcl] at k2
              conv => whnf
              rintro _ rfl
              conv => whnf
              rintro _ rfl
              conv => whnf
              refine ⟨4 - (i + 1), by omega, i + 1, 0, by omega, Or.inr ⟨rfl, i, by omega, fun z => k2 (by unfold wiP at z; rw [if_pos kf] at z; exact z)⟩, ?_, rfl, rfl⟩
              show [_, _, _, _, _, _, (9, Value.int (nI i + 1))] = _
              rw [nx]
            · have k2 : C (nI i).toNatClampNeg * d ≤ A (nI i).toNatClampNeg * x + B (nI i).toNatClampNeg * y := (i64_not_lt _ _).mp (fun z => k2 ((lg_lt0 _ _).mpr z))
              rw [hcl] at k2
              conv => whnf
              rintro _ rfl
              conv => whnf
              rintro _ rfl
              conv => whnf
              refine ⟨4 - (i + 1), by omega, i + 1, 1, by omega, Or.inl ⟨rfl, lt_s h1 (by unfold wiP; rw [if_pos kf]; exact k2)⟩, ?_, rfl, rfl⟩
              show [_, _, _, _, _, _, (9, Value.int (nI i + 1))] = _
              rw [nx]
          · conv => whnf
            refine ⟨fun k2 => ?_, fun k2 => ?_⟩
            · have k2 : ¬ 0 ≤ A (nI i).toNatClampNeg * x + B (nI i).toNatClampNeg * y := (i64_not_le _ _).mpr ((lg_lt0 _ _).mp k2)
              rw [hcl] at k2
              conv => whnf
              rintro _ rfl
              conv => whnf
              rintro _ rfl
              conv => whnf
              refine ⟨4 - (i + 1), by omega, i + 1, 0, by omega, Or.inr ⟨rfl, i, by omega, fun z => k2 (by unfold wiP at z; rw [if_neg kf] at z; exact z)⟩, ?_, rfl, rfl⟩
              show [_, _, _, _, _, _, (9, Value.int (nI i + 1))] = _
              rw [nx]
            · have k2 : 0 ≤ A (nI i).toNatClampNeg * x + B (nI i).toNatClampNeg * y := (i64_not_lt _ _).mp (fun z => k2 ((lg_lt0 _ _).mpr z))
              rw [hcl] at k2
              conv => whnf
              rintro _ rfl
              conv => whnf
              rintro _ rfl
              conv => whnf
              refine ⟨4 - (i + 1), by omega, i + 1, 1, by omega, Or.inl ⟨rfl, lt_s h1 (by unfold wiP; rw [if_neg kf]; exact k2)⟩, ?_, rfl, rfl⟩
              show [_, _, _, _, _, _, (9, Value.int (nI i + 1))] = _
              rw [nx]
    · exact absurd hq List.not_mem_nil
  · conv => whnf
    rintro _ rfl
    conv => whnf
    rintro _ rfl
    conv => whnf
    refine ⟨4, by omega, 0, 1, by omega, Or.inl ⟨rfl, lt_0⟩, rfl, rfl, rfl⟩
theorem rv_X7_isWithin : rz_Rv yX7_isWithin.cls ce_X7_isWithin := fun av w h => by
  obtain ⟨_, _, _, _, _, _, _, _, _, _, _, _, _, _, _, _, _, _, _, rfl, rfl, _⟩ := h
  exact ⟨_, _, _, _, _, _, rfl, rfl, rfl⟩
theorem cn_X7_isWithin (l : Launch) : rz_Con l yX7_isWithin cX7_isWithin 10 (some .boolean) 0 0 0 ce_X7_isWithin := rz_con (by decide +kernel) fo_X7 (fun _ h => absurd h List.not_mem_nil) (fun _ h => absurd h List.not_mem_nil) r_X7_isWithin vc_X7_isWithin
