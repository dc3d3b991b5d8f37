/-! CallLog of the class: who is called, and when. -/
abbrev wCB (de lb lr lm : Nat → Int32) (wr : Int32) (pb pl pe pt lp im : Nat → Int32) (pn sz : Int32) : rz_W := [(44, ro 1 [.ref 45, .ref 46, .ref 47, .ref 48, .int wr]), (45, ri 5 de), (46, ri 300 lb), (47, ri 300 lr), (48, ri 300 lm), (37, ro 0 [.ref 38, .ref 39, .ref 40, .ref 41, .ref 42, .ref 43, .int pn, .int sz]), (38, ri 100 pb), (39, ri 100 pl), (40, ri 100 pe), (41, ri 100 pt), (42, ri 30 lp), (43, ri 30 im)]
abbrev kCB : List Nat := [44, 45, 46, 47, 48, 37, 38, 39, 40, 41, 42, 43]
/-- the minute in which rule r calls for boat b, or NONE -/
def cmF (de pe lp im : Nat → Int32) (b r : Nat) : Int32 := if de r = -1 ∨ ¬ im b = -1 then -1 else pe (lp b).toNatClampNeg + 1 + de r
def ce_X1_callMinute : rz_K := (4, kCB, 0, true, fun av w => ∃ (de lb lr lm : Nat → Int32) (wr : Int32) (pb pl pe pt lp im : Nat → Int32) (pn sz : Int32) (b r : Nat), av = [.ref 44, .int (nI b), .int (nI r), .ref 37] ∧ w = wCB de lb lr lm wr pb pl pe pt lp im pn sz ∧ b < 30 ∧ r < 5 ∧ vp_in (lp b) 100, fun av w o _ => ∀ b r : Nat, rA av 1 = nI b → rA av 2 = nI r → b < 30 → r < 5 → rR o = cmF (rI w 45) (rI w 40) (rI w 42) (rI w 43) b r)
def cl_X1_callMinute : List (Nat × rz_K) := []
def cv_X1_callMinute : List (Nat × rz_K) := [(51, ce_X0_isIn), (55, ce_X0_firstOverdue)]
theorem vc_X1_callMinute : rz_VC k_X1_callMinute fl_X1 cl_X1_callMinute cv_X1_callMinute s_X1_callMinute false 4 ce_X1_callMinute := by
  intro av w hlen hk hpre
  obtain ⟨de, lb, lr, lm, wr, pb, pl, pe, pt, lp, im, pn, sz, b, r, rfl, rfl, hb, hr, hl⟩ := hpre
  refine ⟨Nat.le_of_ble_eq_true rfl, [], 60, 0, fun q h => absurd h List.not_mem_nil, ?_⟩
  have hcb : (nI b).toNatClampNeg = b := nI_clamp (by omega)
  have hcr : (nI r).toNatClampNeg = r := nI_clamp (by omega)
  have hvb : vp_in (nI b) 30 := vp_in_nI hb (by omega)
  have hvr : vp_in (nI r) 5 := vp_in_nI hr (by omega)
  have fin : ∀ v : Int32, v = cmF de pe lp im b r → rz_end ce_X1_callMinute [.ref 44, .int (nI b), .int (nI r), .ref 37] (wCB de lb lr lm wr pb pl pe pt lp im pn sz) (some (.int v)) (wCB de lb lr lm wr pb pl pe pt lp im pn sz) := by
    intro v hv
    refine ⟨⟨_, rfl⟩, fun _ => rfl, ?_⟩
    intro b' r' e1 e2 h1 h2
    have e1 : b = b' := nI_inj (by omega) (by omega) e1
    have e2 : r = r' := nI_inj (by omega) (by omega) e2
    subst e1 e2
    exact hv
  conv => whnf
  refine ⟨hvr, ?_⟩
  conv => whnf
  refine ⟨fun h => ?_, fun h => ?_⟩
  · have h : de (nI r).toNatClampNeg = -1 := h
    rw [hcr] at h
    exact fin _ (if_pos (Or.inl h)).symm
  · have h : ¬ de (nI r).toNatClampNeg = -1 := h
    rw [hcr] at h
    conv => whnf
    refine ⟨⟨pb, pl, pe, pt, lp, im, pn, sz, nI b, rfl, rfl, hvb⟩, ?_⟩
    intro x hx
    have hx : x = bI (¬ im (nI b).toNatClampNeg = -1) := hx
    rw [hcb] at hx
    subst hx
    conv => whnf
    refine ⟨fun h1 => ?_, fun h1 => ?_⟩
    · conv => whnf
      refine ⟨⟨pb, pl, pe, pt, lp, im, pn, sz, nI b, rfl, rfl, hvb, by rw [hcb]; exact hl⟩, ?_⟩
      intro x hx
      have hx : x = pe (lp (nI b).toNatClampNeg).toNatClampNeg + 1 := hx
      rw [hcb] at hx
      subst hx
      conv => whnf
      refine ⟨hvr, ?_⟩
      conv => whnf
      refine fin _ ?_
      show pe (lp b).toNatClampNeg + 1 + de (nI r).toNatClampNeg = _
      rw [hcr]
      exact (if_neg (fun z => z.elim h (bI_0 h1))).symm
    · exact fin _ (if_pos (Or.inr (bI_n h1))).symm
theorem rv_X1_callMinute : rz_Rv yX1_callMinute.cls ce_X1_callMinute := fun av w h => by
  obtain ⟨_, _, _, _, _, _, _, _, _, _, _, _, _, _, _, rfl, rfl, _⟩ := h
  exact ⟨_, _, _, _, _, _, rfl, rfl, rfl⟩
theorem cn_X1_callMinute (l : Launch) : rz_Con l yX1_callMinute cX1_callMinute 4 (some .int) 1 0 0 ce_X1_callMinute := rz_con (by decide +kernel) fo_X1 (fun _ h => absurd h List.not_mem_nil) (by
  intro q hq
  rcases List.mem_cons.mp hq with rfl | hq
  · exact rz_callVN (cn_X0_isIn l) (by decide +kernel) ⟨Nat.le_of_ble_eq_true rfl, Nat.le_of_ble_eq_true rfl⟩ m_X0_isIn rfl i_X0_isIn v_X0_isIn rv_X0_isIn n_X1_51
  rcases List.mem_cons.mp hq with rfl | hq
  · exact rz_callVN (cn_X0_firstOverdue l) (by decide +kernel) ⟨Nat.le_of_ble_eq_true rfl, Nat.le_of_ble_eq_true rfl⟩ m_X0_firstOverdue rfl i_X0_firstOverdue v_X0_firstOverdue rv_X0_firstOverdue n_X1_55
  exact absurd hq List.not_mem_nil) r_X1_callMinute vc_X1_callMinute
/-- the calls' minutes as one row: boat j / 5, rule j % 5 -/
def cmJ (de pe lp im : Nat → Int32) (j : Nat) : Int32 := cmF de pe lp im (j / 5) (j % 5)
theorem cmJ_at (de pe lp im : Nat → Int32) {b r : Nat} (hr : r < 5) : cmJ de pe lp im (5 * b + r) = cmF de pe lp im b r := by
  unfold cmJ
  rw [show (5 * b + r) / 5 = b by omega, show (5 * b + r) % 5 = r by omega]
/-- the least of c 0 .. c (n - 1) above a, or NONE -/
def nxF (c : Nat → Int32) (a : Int32) : Nat → Int32
  | 0 => -1
  | j + 1 => if a < c j ∧ (nxF c a j = -1 ∨ c j < nxF c a j) then c j else nxF c a j
def ce_X1_nextCall : rz_K := (3, kCB, 0, true, fun av w => ∃ (de lb lr lm : Nat → Int32) (wr : Int32) (pb pl pe pt lp im : Nat → Int32) (pn a : Int32) (n : Nat), av = [.ref 44, .int a, .ref 37] ∧ w = wCB de lb lr lm wr pb pl pe pt lp im pn (nI n) ∧ n ≤ 30 ∧ ∀ b, b < n → vp_in (lp b) 100, fun av w o _ => ∀ n : Nat, rF w 37 7 = nI n → n ≤ 30 → rR o = nxF (cmJ (rI w 45) (rI w 40) (rI w 42) (rI w 43)) (rA av 1) (5 * n))
def cl_X1_nextCall : List (Nat × rz_K) := []
def cv_X1_nextCall : List (Nat × rz_K) := [(47, ce_X1_callMinute)]
theorem vc_X1_nextCall : rz_VC k_X1_nextCall fl_X1 cl_X1_nextCall cv_X1_nextCall s_X1_nextCall false 7 ce_X1_nextCall := by
  intro av w hlen hk hpre
  obtain ⟨de, lb, lr, lm, wr, pb, pl, pe, pt, lp, im, pn, a, n, rfl, rfl, hn, hlp⟩ := hpre
  generalize hc : cmJ de pe lp im = c
  have hs : ∀ j, nxF c a (j + 1) = if a < c j ∧ (nxF c a j = -1 ∨ c j < nxF c a j) then c j else nxF c a j := fun _ => rfl
  refine ⟨Nat.le_of_ble_eq_true rfl, [
    (5, [0, 1, 2, 3, 4], fun z lv w' => ∃ b : Nat, b ≤ n ∧ lv = [(0, .ref 44), (1, .int a), (2, .ref 37), (3, .int (nxF c a (5 * b))), (4, .int (nI b))] ∧ w' = wCB de lb lr lm wr pb pl pe pt lp im pn (nI n) ∧ z = (n - b) * 20 + 10),
    (17, [0, 1, 2, 3, 4, 5], fun z lv w' => ∃ b r : Nat, b < n ∧ r ≤ 5 ∧ lv = [(0, .ref 44), (1, .int a), (2, .ref 37), (3, .int (nxF c a (5 * b + r))), (4, .int (nI b)), (5, .int (nI r))] ∧ w' = wCB de lb lr lm wr pb pl pe pt lp im pn (nI n) ∧ z = (n - b) * 20 + 9 - r)], 60, n * 20 + 11, ?_, ?_⟩
  · intro y hq z lv w' hj
    rcases List.mem_cons.mp hq with rfl | hq
    · obtain ⟨b, hb, rfl, rfl, rfl⟩ := hj
      conv => whnf
      refine ⟨fun k => ?_, fun k => ?_⟩
      · have e : b = n := by
          have := (nI_leI (by omega) (by omega)).mp k
          omega
        subst e
        refine ⟨⟨_, rfl⟩, fun _ => rfl, ?_⟩
        intro n' e1 h1
        have e1 : b = n' := nI_inj (by omega) (by omega) e1
        subst e1
        rw [← hc]
        rfl
      · have hb2 : b < n := by
          rcases Nat.lt_or_ge b n with z | z
          · exact z
          · exact absurd (nI_le z (by omega)) k
        conv => whnf
        rintro _ rfl
        conv => whnf
        refine ⟨(n - b) * 20 + 9, by omega, b, 0, hb2, by omega, rfl, rfl, rfl⟩
    rcases List.mem_cons.mp hq with rfl | hq
    · obtain ⟨b, r, hb, hr, rfl, rfl, rfl⟩ := hj
      conv => whnf
      refine ⟨fun k => ?_, fun k => ?_⟩
      · have k : nI 5 ≤ nI r := k
        have e : r = 5 := by
          have := (nI_leI (by omega) (by omega)).mp k
          omega
        subst e
        conv => whnf
        rintro _ rfl
        conv => whnf
        refine ⟨(n - (b + 1)) * 20 + 10, by omega, b + 1, by omega, ?_, rfl, rfl⟩
        show [_, _, _, (3, Value.int (nxF c a (5 * b + 5))), (4, Value.int (nI b + 1))] = _
        rw [nI_1, show 5 * b + 5 = 5 * (b + 1) by omega]
      · have k : ¬ nI 5 ≤ nI r := k
        have hr2 : r < 5 := by
          rcases Nat.lt_or_ge r 5 with z | z
          · exact z
          · exact absurd (nI_le z (by omega)) k
        conv => whnf
        refine ⟨⟨de, lb, lr, lm, wr, pb, pl, pe, pt, lp, im, pn, nI n, b, r, rfl, rfl, by omega, hr2, hlp b hb⟩, ?_⟩
        intro x hx
        have hx : x = cmF de pe lp im b r := hx b r rfl rfl (by omega) hr2
        rw [← cmJ_at de pe lp im hr2, hc] at hx
        subst hx
        have next : (n - b) * 20 + 9 - (r + 1) < (n - b) * 20 + 9 - r := by omega
        have stay : ¬ (a < c (5 * b + r) ∧ (nxF c a (5 * b + r) = -1 ∨ c (5 * b + r) < nxF c a (5 * b + r))) → nxF c a (5 * b + r) = nxF c a (5 * b + (r + 1)) := fun z => (if_neg z).symm
        have take : (a < c (5 * b + r) ∧ (nxF c a (5 * b + r) = -1 ∨ c (5 * b + r) < nxF c a (5 * b + r))) → c (5 * b + r) = nxF c a (5 * b + (r + 1)) := fun z => (if_pos z).symm
        conv => whnf
        rintro _ rfl
        conv => whnf
        refine ⟨fun k1 => ?_, fun k1 => ?_⟩
        · conv => whnf
          rintro _ rfl
          conv => whnf
          refine ⟨(n - b) * 20 + 9 - (r + 1), next, b, r + 1, hb, by omega, ?_, rfl, rfl⟩
          show [_, _, _, (3, Value.int (nxF c a (5 * b + r))), _, (5, Value.int (nI r + 1))] = _
          rw [nI_1, stay (fun z => absurd z.1 ((i32_not_lt _ _).mpr k1))]
        · conv => whnf
          refine ⟨fun k2 => ?_, fun k2 => ?_⟩
          · conv => whnf
            rintro _ rfl
            conv => whnf
            rintro _ rfl
            conv => whnf
            refine ⟨(n - b) * 20 + 9 - (r + 1), next, b, r + 1, hb, by omega, ?_, rfl, rfl⟩
            show [_, _, _, (3, Value.int (c (5 * b + r))), _, (5, Value.int (nI r + 1))] = _
            rw [nI_1, take ⟨(i32_not_le _ _).mp k1, Or.inl k2⟩]
          · conv => whnf
            refine ⟨fun k3 => ?_, fun k3 => ?_⟩
            · conv => whnf
              rintro _ rfl
              conv => whnf
              refine ⟨(n - b) * 20 + 9 - (r + 1), next, b, r + 1, hb, by omega, ?_, rfl, rfl⟩
              show [_, _, _, (3, Value.int (nxF c a (5 * b + r))), _, (5, Value.int (nI r + 1))] = _
              rw [nI_1, stay (fun z => z.2.elim k2 (fun y => absurd y ((i32_not_lt _ _).mpr k3)))]
            · conv => whnf
              rintro _ rfl
              conv => whnf
              rintro _ rfl
              conv => whnf
              refine ⟨(n - b) * 20 + 9 - (r + 1), next, b, r + 1, hb, by omega, ?_, rfl, rfl⟩
              show [_, _, _, (3, Value.int (c (5 * b + r))), _, (5, Value.int (nI r + 1))] = _
              rw [nI_1, take ⟨(i32_not_le _ _).mp k1, Or.inr ((i32_not_le _ _).mp k3)⟩]
    · exact absurd hq List.not_mem_nil
  · conv => whnf
    rintro _ rfl
    conv => whnf
    rintro _ rfl
    conv => whnf
    refine ⟨n * 20 + 10, by omega, 0, by omega, rfl, rfl, by omega⟩
theorem rv_X1_nextCall : rz_Rv yX1_nextCall.cls ce_X1_nextCall := fun av w h => by
  obtain ⟨_, _, _, _, _, _, _, _, _, _, _, _, _, _, rfl, rfl, _⟩ := h
  exact ⟨_, _, _, _, _, _, rfl, rfl, rfl⟩
theorem cn_X1_nextCall (l : Launch) : rz_Con l yX1_nextCall cX1_nextCall 7 (some .int) 2 0 0 ce_X1_nextCall := rz_con (by decide +kernel) fo_X1 (fun _ h => absurd h List.not_mem_nil) (by
  intro q hq
  rcases List.mem_cons.mp hq with rfl | hq
  · exact rz_callV (cn_X1_callMinute l) (by decide +kernel) ⟨Nat.le_of_ble_eq_true rfl, Nat.le_of_ble_eq_true rfl⟩ m_X1_callMinute rfl i_X1_callMinute v_X1_callMinute rv_X1_callMinute n_X1_47
  exact absurd hq List.not_mem_nil) r_X1_nextCall vc_X1_nextCall
/-- the log: boats, rules, minutes, how many calls -/
abbrev LgS : Type := (Nat → Int32) × (Nat → Int32) × (Nat → Int32) × Nat
def wlF (s : LgS) (b r m : Int32) : LgS := if s.2.2.2 < 300 then (upd s.1 s.2.2.2 b, upd s.2.1 s.2.2.2 r, upd s.2.2.1 s.2.2.2 m, s.2.2.2 + 1) else (s.1, s.2.1, s.2.2.1, s.2.2.2 + 1)
abbrev wLg (de : Nat → Int32) (s : LgS) : rz_W := wCl de s.1 s.2.1 s.2.2.1 (nI s.2.2.2)
def ce_X1_writeLine : rz_K := (4, kCl, 2, false, fun av w => ∃ (de : Nat → Int32) (s : LgS) (b r m : Int32), av = [.ref 44, .int b, .int r, .int m] ∧ w = wLg de s ∧ s.2.2.2 < 2 ^ 30, fun av w _ w' => ∀ q : Nat, rF w 44 4 = nI q → q < 2 ^ 30 → w' = wLg (rI w 45) (wlF (rI w 46, rI w 47, rI w 48, q) (rA av 1) (rA av 2) (rA av 3)))
def cl_X1_writeLine : List (Nat × rz_K) := []
def cv_X1_writeLine : List (Nat × rz_K) := []
theorem vc_X1_writeLine : rz_VC k_X1_writeLine fl_X1 cl_X1_writeLine cv_X1_writeLine s_X1_writeLine false 4 ce_X1_writeLine := by
  intro av w hlen hk hpre
  obtain ⟨de, ⟨lb, lr, lm, q⟩, b, r, m, rfl, rfl, hq⟩ := hpre
  have hq : q < 2 ^ 30 := hq
  refine ⟨Nat.le_of_ble_eq_true rfl, [], 60, 0, fun q h => absurd h List.not_mem_nil, ?_⟩
  have fin : ∀ w', w' = wLg de (wlF (lb, lr, lm, q) b r m) → rz_end ce_X1_writeLine [.ref 44, .int b, .int r, .int m] (wLg de (lb, lr, lm, q)) none w' := by
    intro w' hw
    refine ⟨rfl, fun z => (by cases z), ?_⟩
    intro q' e1 h1
    have e1 : q = q' := nI_inj (by omega) (by omega) e1
    subst e1
    exact hw
  conv => whnf
  refine ⟨fun h => ?_, fun h => ?_⟩
  · have h : nI 300 ≤ nI q := h
    have h := (nI_leI (by omega) (by omega)).mp h
    refine fin _ ?_
    show wCl de lb lr lm (nI q + 1) = _
    rw [nI_1, wlF, if_neg (by show ¬ q < 300; omega)]
  · have h : ¬ nI 300 ≤ nI q := h
    have h : q < 300 := by
      rcases Nat.lt_or_ge q 300 with z | z
      · exact z
      · exact absurd (nI_le z (by omega)) h
    have hv : vp_in (nI q) 300 := vp_in_nI h (by omega)
    conv => whnf
    refine ⟨hv, ?_⟩
    conv => whnf
    refine ⟨hv, ?_⟩
    conv => whnf
    refine ⟨hv, ?_⟩
    conv => whnf
    refine fin _ ?_
    show wCl de (upd lb (nI q).toNatClampNeg b) (upd lr (nI q).toNatClampNeg r) (upd lm (nI q).toNatClampNeg m) (nI q + 1) = _
    rw [nI_1, nI_clamp (by omega), wlF, if_pos h]
theorem rv_X1_writeLine : rz_Rv yX1_writeLine.cls ce_X1_writeLine := fun av w h => by
  obtain ⟨_, _, _, _, _, rfl, rfl, _⟩ := h
  exact ⟨_, _, _, _, _, _, rfl, rfl, rfl⟩
theorem cn_X1_writeLine (l : Launch) : rz_Con l yX1_writeLine cX1_writeLine 4 none 0 0 0 ce_X1_writeLine := rz_con (by decide +kernel) fo_X1 (fun _ h => absurd h List.not_mem_nil) (fun _ h => absurd h List.not_mem_nil) r_X1_writeLine vc_X1_writeLine
theorem wlF_n (s : LgS) (b r m : Int32) : (wlF s b r m).2.2.2 = s.2.2.2 + 1 := by
  unfold wlF
  by_cases h : s.2.2.2 < 300
  · rw [if_pos h]
  · rw [if_neg h]
/-- the calls of minute m, by boats, then rules -/
def wmF (c : Nat → Int32) (m : Int32) (s : LgS) : Nat → LgS
  | 0 => s
  | j + 1 => if c j = m then wlF (wmF c m s j) (nI (j / 5)) (nI (j % 5)) m else wmF c m s j
theorem wmF_n (c : Nat → Int32) (m : Int32) (s : LgS) : ∀ j, (wmF c m s j).2.2.2 ≤ s.2.2.2 + j
  | 0 => Nat.le_refl _
  | j + 1 => by
    have ih := wmF_n c m s j
    unfold wmF
    by_cases h : c j = m
    · rw [if_pos h, wlF_n]; omega
    · rw [if_neg h]; omega
abbrev wCBs (de : Nat → Int32) (s : LgS) (pb pl pe pt lp im : Nat → Int32) (pn sz : Int32) : rz_W := wCB de s.1 s.2.1 s.2.2.1 (nI s.2.2.2) pb pl pe pt lp im pn sz
def rLS (w : rz_W) (q : Nat) : LgS := (rI w 46, rI w 47, rI w 48, q)
def sLS (w : rz_W) (s : LgS) : rz_W := rz_set (rz_set (rz_set (rz_set w 44 (ro 1 [.ref 45, .ref 46, .ref 47, .ref 48, .int (nI s.2.2.2)])) 46 (ri 300 s.1)) 47 (ri 300 s.2.1)) 48 (ri 300 s.2.2.1)
def ce_X1_writeMinute : rz_K := (3, kCB, 2, false, fun av w => ∃ (de : Nat → Int32) (s : LgS) (pb pl pe pt lp im : Nat → Int32) (pn m : Int32) (n : Nat), av = [.ref 44, .int m, .ref 37] ∧ w = wCBs de s pb pl pe pt lp im pn (nI n) ∧ n ≤ 30 ∧ (∀ b, b < n → vp_in (lp b) 100) ∧ s.2.2.2 < 2 ^ 29, fun av w _ w' => ∀ n q : Nat, rF w 37 7 = nI n → n ≤ 30 → rF w 44 4 = nI q → q < 2 ^ 29 → w' = sLS w (wmF (cmJ (rI w 45) (rI w 40) (rI w 42) (rI w 43)) (rA av 1) (rLS w q) (5 * n)))
def cl_X1_writeMinute : List (Nat × rz_K) := []
def cv_X1_writeMinute : List (Nat × rz_K) := [(47, ce_X1_callMinute), (59, ce_X1_writeLine)]
theorem vc_X1_writeMinute : rz_VC k_X1_writeMinute fl_X1 cl_X1_writeMinute cv_X1_writeMinute s_X1_writeMinute false 5 ce_X1_writeMinute := by
  intro av w hlen hk hpre
  obtain ⟨de, s, pb, pl, pe, pt, lp, im, pn, m, n, rfl, rfl, hn, hlp, hsz⟩ := hpre
  generalize hc : cmJ de pe lp im = c
  have hnn := wmF_n c m s
  refine ⟨Nat.le_of_ble_eq_true rfl, [
    (2, [0, 1, 2, 3], fun z lv w' => ∃ b : Nat, b ≤ n ∧ lv = [(0, .ref 44), (1, .int m), (2, .ref 37), (3, .int (nI b))] ∧ w' = wCBs de (wmF c m s (5 * b)) pb pl pe pt lp im pn (nI n) ∧ z = (n - b) * 20 + 10),
    (13, [0, 1, 2, 3, 4], fun z lv w' => ∃ b r : Nat, b < n ∧ r ≤ 5 ∧ lv = [(0, .ref 44), (1, .int m), (2, .ref 37), (3, .int (nI b)), (4, .int (nI r))] ∧ w' = wCBs de (wmF c m s (5 * b + r)) pb pl pe pt lp im pn (nI n) ∧ z = (n - b) * 20 + 9 - r)], 60, n * 20 + 11, ?_, ?_⟩
  · intro y hq z lv w' hj
    rcases List.mem_cons.mp hq with rfl | hq
    · obtain ⟨b, hb, rfl, rfl, rfl⟩ := hj
      conv => whnf
      refine ⟨fun k => ?_, fun k => ?_⟩
      · have e : b = n := by
          have := (nI_leI (by omega) (by omega)).mp k
          omega
        subst e
        refine ⟨rfl, fun z => (by cases z), ?_⟩
        intro n' q e1 h1 e2 h2
        have e1 : b = n' := nI_inj (by omega) (by omega) e1
        have e2 : s.2.2.2 = q := nI_inj (by omega) (by omega) e2
        subst e1 e2
        rw [← hc]
        rfl
      · have hb2 : b < n := by
          rcases Nat.lt_or_ge b n with z | z
          · exact z
          · exact absurd (nI_le z (by omega)) k
        conv => whnf
        rintro _ rfl
        conv => whnf
        refine ⟨(n - b) * 20 + 9, by omega, b, 0, hb2, by omega, rfl, rfl, rfl⟩
    rcases List.mem_cons.mp hq with rfl | hq
    · obtain ⟨b, r, hb, hr, rfl, rfl, rfl⟩ := hj
      conv => whnf
      refine ⟨fun k => ?_, fun k => ?_⟩
      · have k : nI 5 ≤ nI r := k
        have e : r = 5 := by
          have := (nI_leI (by omega) (by omega)).mp k
          omega
        subst e
        conv => whnf
        rintro _ rfl
        conv => whnf
        refine ⟨(n - (b + 1)) * 20 + 10, by omega, b + 1, by omega, ?_, ?_, rfl⟩
        · show [_, _, _, (3, Value.int (nI b + 1))] = _
          rw [nI_1]
        · rw [show 5 * (b + 1) = 5 * b + 5 by omega]
      · have k : ¬ nI 5 ≤ nI r := k
        have hr2 : r < 5 := by
          rcases Nat.lt_or_ge r 5 with z | z
          · exact z
          · exact absurd (nI_le z (by omega)) k
        conv => whnf
        refine ⟨⟨de, _, _, _, _, pb, pl, pe, pt, lp, im, pn, nI n, b, r, rfl, rfl, by omega, hr2, hlp b hb⟩, ?_⟩
        intro x hx
        have hx : x = cmF de pe lp im b r := hx b r rfl rfl (by omega) hr2
        rw [← cmJ_at de pe lp im hr2, hc] at hx
        subst hx
        have next : (n - b) * 20 + 9 - (r + 1) < (n - b) * 20 + 9 - r := by omega
        conv => whnf
        refine ⟨fun k1 => ?_, fun k1 => ?_⟩
        · have hlt : (wmF c m s (5 * b + r)).2.2.2 < 2 ^ 30 := Nat.lt_of_le_of_lt (hnn _) (by omega)
          conv => whnf
          refine ⟨⟨de, wmF c m s (5 * b + r), nI b, nI r, m, rfl, rfl, hlt⟩, ?_⟩
          intro wc hwc
          have hwc : wc = wLg de (wlF (wmF c m s (5 * b + r)) (nI b) (nI r) m) := hwc _ rfl hlt
          subst hwc
          conv => whnf
          rintro _ rfl
          conv => whnf
          refine ⟨(n - b) * 20 + 9 - (r + 1), next, b, r + 1, hb, by omega, ?_, ?_, rfl⟩
          · show [_, _, _, _, (4, Value.int (nI r + 1))] = _
            rw [nI_1]
          · have e : wmF c m s (5 * b + (r + 1)) = wlF (wmF c m s (5 * b + r)) (nI b) (nI r) m := by
              show (if c (5 * b + r) = m then wlF (wmF c m s (5 * b + r)) (nI ((5 * b + r) / 5)) (nI ((5 * b + r) % 5)) m else wmF c m s (5 * b + r)) = _
              rw [if_pos k1, show (5 * b + r) / 5 = b by omega, show (5 * b + r) % 5 = r by omega]
            rw [e]
            rfl
        · conv => whnf
          rintro _ rfl
          conv => whnf
          refine ⟨(n - b) * 20 + 9 - (r + 1), next, b, r + 1, hb, by omega, ?_, ?_, rfl⟩
          · show [_, _, _, _, (4, Value.int (nI r + 1))] = _
            rw [nI_1]
          · have e : wmF c m s (5 * b + (r + 1)) = wmF c m s (5 * b + r) := by
              show (if c (5 * b + r) = m then _ else wmF c m s (5 * b + r)) = _
              rw [if_neg k1]
            rw [e]
    · exact absurd hq List.not_mem_nil
  · conv => whnf
    rintro _ rfl
    conv => whnf
    refine ⟨n * 20 + 10, by omega, 0, by omega, rfl, rfl, by omega⟩
theorem rv_X1_writeMinute : rz_Rv yX1_writeMinute.cls ce_X1_writeMinute := fun av w h => by
  obtain ⟨_, _, _, _, _, _, _, _, _, _, _, rfl, rfl, _⟩ := h
  exact ⟨_, _, _, _, _, _, rfl, rfl, rfl⟩
theorem cn_X1_writeMinute (l : Launch) : rz_Con l yX1_writeMinute cX1_writeMinute 5 none 2 0 0 ce_X1_writeMinute := rz_con (by decide +kernel) fo_X1 (fun _ h => absurd h List.not_mem_nil) (by
  intro q hq
  rcases List.mem_cons.mp hq with rfl | hq
  · exact rz_callV (cn_X1_callMinute l) (by decide +kernel) ⟨Nat.le_of_ble_eq_true rfl, Nat.le_of_ble_eq_true rfl⟩ m_X1_callMinute rfl i_X1_callMinute v_X1_callMinute rv_X1_callMinute n_X1_47
  rcases List.mem_cons.mp hq with rfl | hq
  · exact rz_callV (cn_X1_writeLine l) (by decide +kernel) ⟨Nat.le_of_ble_eq_true rfl, Nat.le_of_ble_eq_true rfl⟩ m_X1_writeLine rfl i_X1_writeLine v_X1_writeLine rv_X1_writeLine n_X1_59
  exact absurd hq List.not_mem_nil) r_X1_writeMinute vc_X1_writeMinute
/-- from call to call -/
def wsF (c : Nat → Int32) (n : Nat) (to : Int32) : Nat → Int32 → LgS → LgS
  | 0, _, s => s
  | i + 1, m, s => if m = -1 ∨ to < m then s else wsF c n to i (nxF c m (5 * n)) (wmF c m s (5 * n))
def ce_X1_writeMinutes : rz_K := (4, kCB, 2, false, fun av w => ∃ (de : Nat → Int32) (s : LgS) (pb pl pe pt lp im : Nat → Int32) (pn fr to : Int32) (n : Nat), av = [.ref 44, .int fr, .int to, .ref 37] ∧ w = wCBs de s pb pl pe pt lp im pn (nI n) ∧ n ≤ 30 ∧ (∀ b, b < n → vp_in (lp b) 100) ∧ s.2.2.2 < 2 ^ 28, fun av w _ w' => ∀ n q : Nat, rF w 37 7 = nI n → n ≤ 30 → rF w 44 4 = nI q → q < 2 ^ 28 → w' = sLS w (wsF (cmJ (rI w 45) (rI w 40) (rI w 42) (rI w 43)) n (rA av 2) 150 (nxF (cmJ (rI w 45) (rI w 40) (rI w 42) (rI w 43)) (rA av 1) (5 * n)) (rLS w q)))
def cl_X1_writeMinutes : List (Nat × rz_K) := []
def cv_X1_writeMinutes : List (Nat × rz_K) := [(34, ce_X1_nextCall), (38, ce_X1_writeMinute)]
theorem vc_X1_writeMinutes : rz_VC k_X1_writeMinutes fl_X1 cl_X1_writeMinutes cv_X1_writeMinutes s_X1_writeMinutes false 6 ce_X1_writeMinutes := by
  intro av w hlen hk hpre
  obtain ⟨de, s, pb, pl, pe, pt, lp, im, pn, fr, to, n, rfl, rfl, hn, hlp, hsz⟩ := hpre
  generalize hc : cmJ de pe lp im = c
  have fin : ∀ s', wsF c n to 150 (nxF c fr (5 * n)) s = s' → rz_end ce_X1_writeMinutes [.ref 44, .int fr, .int to, .ref 37] (wCBs de s pb pl pe pt lp im pn (nI n)) none (wCBs de s' pb pl pe pt lp im pn (nI n)) := by
    intro s' hs'
    refine ⟨rfl, fun z => (by cases z), ?_⟩
    intro n' q e1 h1 e2 h2
    have e1 : n = n' := nI_inj (by omega) (by omega) e1
    have e2 : s.2.2.2 = q := nI_inj (by omega) (by omega) e2
    subst e1 e2
    rw [← hs', ← hc]
    rfl
  have nc : ∀ (s1 : LgS) (a r : Int32), ce_X1_nextCall.2.2.2.2.2 [.ref 44, .int a, .ref 37] (wCBs de s1 pb pl pe pt lp im pn (nI n)) (some (.int r)) (wCBs de s1 pb pl pe pt lp im pn (nI n)) → r = nxF c a (5 * n) := by
    intro s1 a r hr
    replace hr := hr n rfl hn
    rw [← hc]
    exact hr
  refine ⟨Nat.le_of_ble_eq_true rfl, [
    (11, [0, 1, 2, 3, 4, 5], fun z lv w' => ∃ (i : Nat) (m : Int32) (s1 : LgS), i ≤ 150 ∧ wsF c n to 150 (nxF c fr (5 * n)) s = wsF c n to (150 - i) m s1 ∧ s1.2.2.2 ≤ s.2.2.2 + 150 * i ∧ lv = [(0, .ref 44), (1, .int fr), (2, .int to), (3, .ref 37), (4, .int m), (5, .int (nI i))] ∧ w' = wCBs de s1 pb pl pe pt lp im pn (nI n) ∧ z = 150 - i)], 60, 151, ?_, ?_⟩
  · intro y hq z lv w' hj
    rcases List.mem_cons.mp hq with rfl | hq
    · obtain ⟨i, m, s1, hi, hws, hs1, rfl, rfl, rfl⟩ := hj
      conv => whnf
      refine ⟨fun k => ?_, fun k => ?_⟩
      · have k : nI 150 ≤ nI i := k
        have e : i = 150 := by
          have := (nI_leI (by omega) (by omega)).mp k
          omega
        subst e
        exact fin _ hws
      · have k : ¬ nI 150 ≤ nI i := k
        have hi2 : i < 150 := by
          rcases Nat.lt_or_ge i 150 with z | z
          · exact z
          · exact absurd (nI_le z (by omega)) k
        obtain ⟨d, hd⟩ : ∃ d, 150 - i = d + 1 := ⟨150 - i - 1, by omega⟩
        have hu : wsF c n to (150 - i) m s1 = if m = -1 ∨ to < m then s1 else wsF c n to d (nxF c m (5 * n)) (wmF c m s1 (5 * n)) := by rw [hd]; rfl
        conv => whnf
        refine ⟨fun k1 => ?_, fun k1 => ?_⟩
        · exact fin _ (by rw [hws, hu, if_pos (Or.inl k1)])
        · conv => whnf
          refine ⟨fun k2 => ?_, fun k2 => ?_⟩
          · exact fin _ (by rw [hws, hu, if_pos (Or.inr k2)])
          · have hlt : s1.2.2.2 < 2 ^ 29 := by omega
            conv => whnf
            refine ⟨⟨de, s1, pb, pl, pe, pt, lp, im, pn, m, n, rfl, rfl, hn, hlp, hlt⟩, ?_⟩
            intro wc hwc
            have hwc : wc = wCBs de (wmF (cmJ de pe lp im) m s1 (5 * n)) pb pl pe pt lp im pn (nI n) := hwc n _ rfl hn rfl hlt
            rw [hc] at hwc
            subst hwc
            conv => whnf
            refine ⟨⟨de, _, _, _, _, pb, pl, pe, pt, lp, im, pn, m, n, rfl, rfl, hn, hlp⟩, ?_⟩
            intro r hr
            obtain rfl := nc (wmF c m s1 (5 * n)) m r hr
            conv => whnf
            rintro _ rfl
            conv => whnf
            rintro _ rfl
            have hb := wmF_n c m s1 (5 * n)
            conv => whnf
            refine ⟨150 - (i + 1), by omega, i + 1, nxF c m (5 * n), wmF c m s1 (5 * n), by omega, ?_, by omega, ?_, rfl, rfl⟩
            · rw [hws, hu, if_neg (fun z => z.elim k1 k2), show 150 - (i + 1) = d by omega]
            · show [_, _, _, _, _, (5, Value.int (nI i + 1))] = _
              rw [nI_1]
    · exact absurd hq List.not_mem_nil
  · conv => whnf
    refine ⟨⟨de, _, _, _, _, pb, pl, pe, pt, lp, im, pn, fr, n, rfl, rfl, hn, hlp⟩, ?_⟩
    intro r hr
    obtain rfl := nc s fr r hr
    conv => whnf
    rintro _ rfl
    conv => whnf
    rintro _ rfl
    conv => whnf
    refine ⟨150, by omega, 0, nxF c fr (5 * n), s, by omega, rfl, by omega, rfl, rfl, rfl⟩
theorem rv_X1_writeMinutes : rz_Rv yX1_writeMinutes.cls ce_X1_writeMinutes := fun av w h => by
  obtain ⟨_, _, _, _, _, _, _, _, _, _, _, _, rfl, rfl, _⟩ := h
  exact ⟨_, _, _, _, _, _, rfl, rfl, rfl⟩
theorem cn_X1_writeMinutes (l : Launch) : rz_Con l yX1_writeMinutes cX1_writeMinutes 6 none 3 0 0 ce_X1_writeMinutes := rz_con (by decide +kernel) fo_X1 (fun _ h => absurd h List.not_mem_nil) (by
  intro q hq
  rcases List.mem_cons.mp hq with rfl | hq
  · exact rz_callV (cn_X1_nextCall l) (by decide +kernel) ⟨Nat.le_of_ble_eq_true rfl, Nat.le_of_ble_eq_true rfl⟩ m_X1_nextCall rfl i_X1_nextCall v_X1_nextCall rv_X1_nextCall n_X1_34
  rcases List.mem_cons.mp hq with rfl | hq
  · exact rz_callV (cn_X1_writeMinute l) (by decide +kernel) ⟨Nat.le_of_ble_eq_true rfl, Nat.le_of_ble_eq_true rfl⟩ m_X1_writeMinute rfl i_X1_writeMinute v_X1_writeMinute rv_X1_writeMinute n_X1_38
  exact absurd hq List.not_mem_nil) r_X1_writeMinutes vc_X1_writeMinutes
abbrev okL (i : Int32) (q : Nat) : Prop := 0 ≤ i ∧ i ≤ (if (300 : Int32) < nI q then 300 else nI q) - 1
def ce_X1_partOf : rz_K := (3, kCl, 0, true, fun av w => ∃ (de : Nat → Int32) (s : LgS) (i a : Int32), av = [.ref 44, .int i, .int a] ∧ w = wLg de s ∧ s.2.2.2 < 2 ^ 30, fun av w o _ => ∀ q : Nat, rF w 44 4 = nI q → q < 2 ^ 30 → rR o = if okL (rA av 1) q then (if rA av 2 = 0 then rI w 46 (rA av 1).toNatClampNeg else if rA av 2 = 1 then rI w 47 (rA av 1).toNatClampNeg else if rA av 2 = 2 then rI w 48 (rA av 1).toNatClampNeg else -1) else -1)
def cl_X1_partOf : List (Nat × rz_K) := [(63, ce_J9_min_7cf53), (69, ce_X6_isWithin)]
def cv_X1_partOf : List (Nat × rz_K) := []
theorem okL_vp {i : Int32} {q : Nat} (h : okL i q) (hq : q < 2 ^ 30) : vp_in i 300 := by
  obtain ⟨h1, h2⟩ := h
  by_cases z : (300 : Int32) < nI q
  · rw [if_pos z] at h2
    exact vp_of2 h1 h2 rfl
  · rw [if_neg z] at h2
    have z : ¬ nI 300 < nI q := z
    have hq2 : q ≤ 300 := by
      rcases Nat.lt_or_ge 300 q with y | y
      · exact absurd (nI_lt y (by omega)) z
      · exact y
    exact okS_vp ⟨h1, h2⟩ hq2 (by omega)
theorem vc_X1_partOf : rz_VC k_X1_partOf fl_X1 cl_X1_partOf cv_X1_partOf s_X1_partOf false 3 ce_X1_partOf := by
  intro av w hlen hk hpre
  obtain ⟨de, ⟨lb, lr, lm, q⟩, i, a, rfl, rfl, hq⟩ := hpre
  have hq : q < 2 ^ 30 := hq
  refine ⟨Nat.le_of_ble_eq_true rfl, [], 60, 0, fun q h => absurd h List.not_mem_nil, ?_⟩
  have fin : ∀ v : Int32, (v = if okL i q then (if a = 0 then lb i.toNatClampNeg else if a = 1 then lr i.toNatClampNeg else if a = 2 then lm i.toNatClampNeg else -1) else -1) → rz_end ce_X1_partOf [.ref 44, .int i, .int a] (wLg de (lb, lr, lm, q)) (some (.int v)) (wLg de (lb, lr, lm, q)) := by
    intro v hv
    refine ⟨⟨_, rfl⟩, fun _ => rfl, ?_⟩
    intro q' e1 h1
    have e1 : q = q' := nI_inj (by omega) (by omega) e1
    subst e1
    exact hv
  conv => whnf
  refine ⟨⟨_, _, rfl, rfl, trivial⟩, ?_⟩
  intro x hx
  obtain rfl : x = if (300 : Int32) < nI q then 300 else nI q := hx
  conv => whnf
  refine ⟨⟨_, _, _, rfl, rfl, trivial⟩, ?_⟩
  intro r hr
  obtain rfl : r = bI (okL i q) := hr
  conv => whnf
  refine ⟨fun h => ?_, fun h => ?_⟩
  · exact fin _ (if_neg (bI_0 h)).symm
  · have hv := okL_vp (bI_n h) hq
    conv => whnf
    refine ⟨fun h1 => ?_, fun h1 => ?_⟩
    · conv => whnf
      refine ⟨hv, ?_⟩
      conv => whnf
      refine fin _ ?_
      rw [if_pos (bI_n h), if_pos h1]
    · conv => whnf
      refine ⟨fun h2 => ?_, fun h2 => ?_⟩
      · conv => whnf
        refine ⟨hv, ?_⟩
        conv => whnf
        refine fin _ ?_
        rw [if_pos (bI_n h), if_neg h1, if_pos h2]
      · conv => whnf
        refine ⟨fun h3 => ?_, fun h3 => ?_⟩
        · conv => whnf
          refine ⟨hv, ?_⟩
          conv => whnf
          refine fin _ ?_
          rw [if_pos (bI_n h), if_neg h1, if_neg h2, if_pos h3]
        · refine fin _ ?_
          rw [if_pos (bI_n h), if_neg h1, if_neg h2, if_neg h3]
theorem rv_X1_partOf : rz_Rv yX1_partOf.cls ce_X1_partOf := fun av w h => by
  obtain ⟨_, _, _, _, rfl, rfl, _⟩ := h
  exact ⟨_, _, _, _, _, _, rfl, rfl, rfl⟩
theorem cn_X1_partOf (l : Launch) : rz_Con l yX1_partOf cX1_partOf 3 (some .int) 1 0 0 ce_X1_partOf := rz_con (by decide +kernel) fo_X1 (by
  intro q hq
  rcases List.mem_cons.mp hq with rfl | hq
  · exact rz_callS (cn_J9_min_7cf53 l) (by decide +kernel) ⟨Nat.le_of_ble_eq_true rfl, Nat.le_of_ble_eq_true rfl⟩ m_J9_min_7cf53 t_J9_min_7cf53 n_X1_63
  rcases List.mem_cons.mp hq with rfl | hq
  · exact rz_callSN (cn_X6_isWithin l) (by decide +kernel) ⟨Nat.le_of_ble_eq_true rfl, Nat.le_of_ble_eq_true rfl⟩ m_X6_isWithin t_X6_isWithin n_X1_69
  exact absurd hq List.not_mem_nil) (fun _ h => absurd h List.not_mem_nil) r_X1_partOf vc_X1_partOf
