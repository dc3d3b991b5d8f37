/-! The reference's public methods on boats and calls. -/
def ce_X7_in : rz_K := (2, kMb, 0, false, fun av w => ∃ (pa ci : Nat → Int32) (th po re nw si pl tr pn ca sp co b : Int32) (n : Nat), av = [.ref 50, .int b] ∧ w = wMb (oMo th po re nw si pl tr (nI n) pn ca sp co) pa ci ∧ n ≤ 30, fun av w o w' => ∀ n : Nat, rF w 50 13 = nI n → n ≤ 30 → if okS (rA av 1) n ∧ rI w 62 (rA av 1).toNatClampNeg = -1 then rR o = 1 ∧ w' = rz_set (mset w 0 0) 62 (ri 30 (upd (rI w 62) (rA av 1).toNatClampNeg (rF w 50 9))) else rR o = 0 ∧ w' = mset w 0 0)
def cl_X7_in : List (Nat × rz_K) := [(87, ce_X7_isIn)]
def cv_X7_in : List (Nat × rz_K) := []
theorem vc_X7_in : rz_VC k_X7_in fl_X7 cl_X7_in cv_X7_in s_X7_in true 2 ce_X7_in := by
  intro av w hlen hk hpre
  obtain ⟨pa, ci, th, po, re, nw, si, pl, tr, pn, ca, sp, co, b, n, rfl, rfl, hn⟩ := hpre
  refine ⟨Nat.le_of_ble_eq_true rfl, [], 60, 0, fun q h => absurd h List.not_mem_nil, ?_⟩
  have no : ¬ (okS b n ∧ ci b.toNatClampNeg = -1) → ce_X7_in.2.2.2.2.2 [.ref 50, .int b] (wMb (oMo th po re nw si pl tr (nI n) pn ca sp co) pa ci) (some (.int 0)) (wMb (oMo 0 po re nw si pl tr (nI n) pn ca sp co) pa ci) := by
    intro z1 n' e1 h1
    have e1 : n = n' := nI_inj (by omega) (by omega) e1
    subst e1
    exact if_no z1 ⟨rfl, rfl⟩
  conv => whnf
  refine ⟨⟨_, _, _, rfl, rfl, trivial⟩, ?_⟩
  intro r hr
  obtain rfl : r = bI (okS b n) := hr
  conv => whnf
  refine ⟨fun h1 => ?_, fun h1 => ?_⟩
  · exact ⟨Or.inl rfl, ⟨_, rfl⟩, fun z => (by cases z), no (fun z => bI_0 h1 z.1)⟩
  · have hv := okS_vp (bI_n h1) hn (by omega)
    conv => whnf
    refine ⟨hv, ?_⟩
    conv => whnf
    refine ⟨fun h2 => ?_, fun h2 => ?_⟩
    · conv => whnf
      refine ⟨hv, ?_⟩
      conv => whnf
      refine ⟨Or.inr rfl, ⟨_, rfl⟩, fun z => (by cases z), ?_⟩
      intro n' e1 g1
      have e1 : n = n' := nI_inj (by omega) (by omega) e1
      subst e1
      exact if_yes ⟨bI_n h1, h2⟩ ⟨rfl, rfl⟩
    · exact ⟨Or.inl rfl, ⟨_, rfl⟩, fun z => (by cases z), no (fun z => h2 z.2)⟩
theorem rv_X7_in : rz_Rv yX7_in.cls ce_X7_in := fun av w h => by
  obtain ⟨_, _, _, _, _, _, _, _, _, _, _, _, _, _, _, rfl, rfl, _⟩ := h
  exact ⟨_, _, _, _, _, _, rfl, rfl, rfl⟩
theorem cn_X7_in (l : Launch) : rz_Con l yX7_in cX7_in 2 (some .boolean) 1 0 0 ce_X7_in := rz_con (by decide +kernel) fo_X7 (by
  intro q hq
  rcases List.mem_cons.mp hq with rfl | hq
  · exact rz_callS (cn_X7_isIn l) (by decide +kernel) ⟨Nat.le_of_ble_eq_true rfl, Nat.le_of_ble_eq_true rfl⟩ m_X7_isIn t_X7_isIn n_X7_87
  exact absurd hq List.not_mem_nil) (fun _ h => absurd h List.not_mem_nil) r_X7_in vc_X7_in
def ce_X7_boat : rz_K := (4, kMb, 0, false, fun av w => ∃ (pa ci : Nat → Int32) (th po re nw si pl tr ca sp co b m q : Int32) (k n : Nat), av = [.ref 50, .int b, .int m, .int q] ∧ w = wMb (oMo th po re nw si pl tr (nI n) (nI k) ca sp co) pa ci ∧ k ≤ 100 ∧ n ≤ 30, fun av w o w' => (∀ k n : Nat, rF w 50 14 = nI k → k ≤ 100 → rF w 50 13 = nI n → n ≤ 30 → rR o = if okS (rA av 1) n ∧ (0 ≤ rA av 2 ∧ rA av 2 ≤ rF w 50 9) ∧ (0 ≤ rA av 3 ∧ rA av 3 ≤ rF w 50 9) then stF (lastK (pkP (mB (rI w 61) 0) (mB (rI w 61) 1) (rA av 1) (rA av 3)) k) (rI w 62 (rA av 1).toNatClampNeg) (rA av 2) (rA av 3) (mB (rI w 61) 2) (mE (rI w 61)) else -1) ∧ w' = mset w 0 0)
def cl_X7_boat : List (Nat × rz_K) := [(87, ce_X7_isIn)]
def cv_X7_boat : List (Nat × rz_K) := [(202, ce_X7_stands)]
theorem vc_X7_boat : rz_VC k_X7_boat fl_X7 cl_X7_boat cv_X7_boat s_X7_boat false 4 ce_X7_boat := by
  intro av w hlen hk hpre
  obtain ⟨pa, ci, th, po, re, nw, si, pl, tr, ca, sp, co, b, m, q, k, n, rfl, rfl, hk2, hn⟩ := hpre
  refine ⟨Nat.le_of_ble_eq_true rfl, [], 60, 0, fun q h => absurd h List.not_mem_nil, ?_⟩
  have fin : ∀ v : Int32, (v = if okS b n ∧ (0 ≤ m ∧ m ≤ nw) ∧ (0 ≤ q ∧ q ≤ nw) then stF (lastK (pkP (mB pa 0) (mB pa 1) b q) k) (ci b.toNatClampNeg) m q (mB pa 2) (mE pa) else -1) → rz_end ce_X7_boat [.ref 50, .int b, .int m, .int q] (wMb (oMo th po re nw si pl tr (nI n) (nI k) ca sp co) pa ci) (some (.int v)) (wMb (oMo 0 po re nw si pl tr (nI n) (nI k) ca sp co) pa ci) := by
    intro v hv
    refine ⟨⟨_, rfl⟩, fun z => (by cases z), ?_, rfl⟩
    intro k' n' e1 h1 e2 h2
    have e1 : k = k' := nI_inj (by omega) (by omega) e1
    have e2 : n = n' := nI_inj (by omega) (by omega) e2
    subst e1 e2
    exact hv
  conv => whnf
  refine ⟨⟨_, _, _, rfl, rfl, trivial⟩, ?_⟩
  intro r hr
  obtain rfl : r = bI (okS b n) := hr
  conv => whnf
  refine ⟨fun h1 => ?_, fun h1 => ?_⟩
  · exact fin _ (if_neg (fun z => bI_0 h1 z.1)).symm
  · conv => whnf
    refine ⟨⟨_, _, _, rfl, rfl, trivial⟩, ?_⟩
    intro r hr
    obtain rfl : r = bI (0 ≤ m ∧ m ≤ nw) := hr
    conv => whnf
    refine ⟨fun h2 => ?_, fun h2 => ?_⟩
    · exact fin _ (if_neg (fun z => bI_0 h2 z.2.1)).symm
    · conv => whnf
      refine ⟨⟨_, _, _, rfl, rfl, trivial⟩, ?_⟩
      intro r hr
      obtain rfl : r = bI (0 ≤ q ∧ q ≤ nw) := hr
      conv => whnf
      refine ⟨fun h3 => ?_, fun h3 => ?_⟩
      · exact fin _ (if_neg (fun z => bI_0 h3 z.2.2)).symm
      · conv => whnf
        refine ⟨⟨pa, ci, 0, po, re, nw, si, pl, tr, nI n, ca, sp, co, b, m, q, k, rfl, rfl, hk2, okS_vp (bI_n h1) hn (by omega)⟩, ?_⟩
        intro r hr
        obtain rfl : r = stF (lastK (pkP (mB pa 0) (mB pa 1) b q) k) (ci b.toNatClampNeg) m q (mB pa 2) (mE pa) := hr k rfl hk2
        conv => whnf
        exact fin _ (if_pos ⟨bI_n h1, bI_n h2, bI_n h3⟩).symm
theorem rv_X7_boat : rz_Rv yX7_boat.cls ce_X7_boat := fun av w h => by
  obtain ⟨_, _, _, _, _, _, _, _, _, _, _, _, _, _, _, _, _, rfl, rfl, _⟩ := h
  exact ⟨_, _, _, _, _, _, rfl, rfl, rfl⟩
theorem cn_X7_boat (l : Launch) : rz_Con l yX7_boat cX7_boat 4 (some .int) 3 0 0 ce_X7_boat := rz_con (by decide +kernel) fo_X7 (by
  intro q hq
  rcases List.mem_cons.mp hq with rfl | hq
  · exact rz_callS (cn_X7_isIn l) (by decide +kernel) ⟨Nat.le_of_ble_eq_true rfl, Nat.le_of_ble_eq_true rfl⟩ m_X7_isIn t_X7_isIn n_X7_87
  exact absurd hq List.not_mem_nil) (by
  intro q hq
  rcases List.mem_cons.mp hq with rfl | hq
  · exact rz_callV (cn_X7_stands l) (by decide +kernel) ⟨Nat.le_of_ble_eq_true rfl, Nat.le_of_ble_eq_true rfl⟩ m_X7_stands rfl i_X7_stands v_X7_stands rv_X7_stands n_X7_202
  exact absurd hq List.not_mem_nil) r_X7_boat vc_X7_boat
abbrev wMr (o : rz_C) (ru : Nat → Int32) : rz_W := [(50, o), (63, ri 5 ru)]
theorem m1_le {m : Int32} : -1 ≤ m ↔ m = -1 ∨ 0 ≤ m := by
  rw [Int32.le_iff_toInt_le, Int32.le_iff_toInt_le, ← Int32.toInt_inj]
  have e1 : (-1 : Int32).toInt = -1 := rfl
  have e2 : (0 : Int32).toInt = 0 := rfl
  rw [e1, e2]
  omega
def ce_X7_call : rz_K := (3, [50, 63], 0, false, fun av w => ∃ (ru : Nat → Int32) (th po re nw si pl tr bo pn ca sp co k m : Int32), av = [.ref 50, .int k, .int m] ∧ w = wMr (oMo th po re nw si pl tr bo pn ca sp co) ru ∧ True, fun av w o w' => if okR (rA av 1) (rA av 2) then rR o = 1 ∧ w' = rz_set (mset w 0 0) 63 (ri 5 (upd (rI w 63) (rA av 1).toNatClampNeg (rA av 2))) else rR o = 0 ∧ w' = mset w 0 0)
def cl_X7_call : List (Nat × rz_K) := [(87, ce_X7_isIn)]
def cv_X7_call : List (Nat × rz_K) := []
theorem vc_X7_call : rz_VC k_X7_call fl_X7 cl_X7_call cv_X7_call s_X7_call true 3 ce_X7_call := by
  intro av w hlen hk hpre
  obtain ⟨ru, th, po, re, nw, si, pl, tr, bo, pn, ca, sp, co, k, m, rfl, rfl, -⟩ := hpre
  refine ⟨Nat.le_of_ble_eq_true rfl, [], 60, 0, fun q h => absurd h List.not_mem_nil, ?_⟩
  conv => whnf
  refine ⟨⟨_, _, _, rfl, rfl, trivial⟩, ?_⟩
  intro r hr
  obtain rfl : r = bI (0 ≤ k ∧ k ≤ 4) := hr
  conv => whnf
  refine ⟨fun h1 => ?_, fun h1 => ?_⟩
  · exact ⟨Or.inl rfl, ⟨_, rfl⟩, fun z => (by cases z), if_no (fun z => bI_0 h1 z.1) ⟨rfl, rfl⟩⟩
  · have hv : vp_in k 5 := vp_of2 (bI_n h1).1 (bI_n h1).2 rfl
    conv => whnf
    refine ⟨fun h2 => ?_, fun h2 => ?_⟩
    · have h2 : m = -1 := h2
      conv => whnf
      refine ⟨hv, ?_⟩
      conv => whnf
      exact ⟨Or.inr rfl, ⟨_, rfl⟩, fun z => (by cases z), if_yes ⟨bI_n h1, (by show (-1 : Int32) ≤ m; rw [h2]; decide), (by show m ≤ 2000; rw [h2]; decide)⟩ ⟨rfl, rfl⟩⟩
    · have h2 : ¬ m = -1 := h2
      conv => whnf
      refine ⟨⟨_, _, _, rfl, rfl, trivial⟩, ?_⟩
      intro r hr
      obtain rfl : r = bI (0 ≤ m ∧ m ≤ 2000) := hr
      conv => whnf
      refine ⟨fun h3 => ?_, fun h3 => ?_⟩
      · exact ⟨Or.inl rfl, ⟨_, rfl⟩, fun z => (by cases z), if_no (fun z => bI_0 h3 ⟨(m1_le.mp z.2.1).resolve_left h2, z.2.2⟩) ⟨rfl, rfl⟩⟩
      · conv => whnf
        refine ⟨hv, ?_⟩
        conv => whnf
        exact ⟨Or.inr rfl, ⟨_, rfl⟩, fun z => (by cases z), if_yes ⟨bI_n h1, m1_le.mpr (Or.inr (bI_n h3).1), (bI_n h3).2⟩ ⟨rfl, rfl⟩⟩
theorem rv_X7_call : rz_Rv yX7_call.cls ce_X7_call := fun av w h => by
  obtain ⟨_, _, _, _, _, _, _, _, _, _, _, _, _, _, _, rfl, rfl, _⟩ := h
  exact ⟨_, _, _, _, _, _, rfl, rfl, rfl⟩
theorem cn_X7_call (l : Launch) : rz_Con l yX7_call cX7_call 3 (some .boolean) 1 0 0 ce_X7_call := rz_con (by decide +kernel) fo_X7 (by
  intro q hq
  rcases List.mem_cons.mp hq with rfl | hq
  · exact rz_callS (cn_X7_isIn l) (by decide +kernel) ⟨Nat.le_of_ble_eq_true rfl, Nat.le_of_ble_eq_true rfl⟩ m_X7_isIn t_X7_isIn n_X7_87
  exact absurd hq List.not_mem_nil) (fun _ h => absurd h List.not_mem_nil) r_X7_call vc_X7_call
abbrev wMl (o : rz_C) (pa ci ru lb lr lm : Nat → Int32) : rz_W := [(50, o), (61, ri 500 pa), (62, ri 30 ci), (63, ri 5 ru), (64, ri 300 lb), (65, ri 300 lr), (66, ri 300 lm)]
abbrev kMl : List Nat := [50, 61, 62, 63, 64, 65, 66]
/-- the calls for one boat, by rules -/
def odF (ru : Nat → Int32) (since b m : Int32) (s : LgS) : Nat → LgS
  | 0 => s
  | r + 1 => if ru r = since then wlF (odF ru since b m s r) b (nI r) m else odF ru since b m s r
theorem odF_n (ru : Nat → Int32) (since b m : Int32) (s : LgS) : ∀ j, (odF ru since b m s j).2.2.2 ≤ s.2.2.2 + j
  | 0 => Nat.le_refl _
  | j + 1 => by
    have ih := odF_n ru since b m s j
    unfold odF
    by_cases h : ru j = since
    · rw [if_pos h, wlF_n]; omega
    · rw [if_neg h]; omega
def mLg (w : rz_W) (q : Nat) : LgS := (rI w 64, rI w 65, rI w 66, q)
def sMg (w : rz_W) (s : LgS) : rz_W := rz_set (rz_set (rz_set (mset w 15 (nI s.2.2.2)) 64 (ri 300 s.1)) 65 (ri 300 s.2.1)) 66 (ri 300 s.2.2.1)
abbrev wMs (th po re nw si pl tr bo pn sp co : Int32) (pa ci ru : Nat → Int32) (s : LgS) : rz_W := wMl (oMo th po re nw si pl tr bo pn (nI s.2.2.2) sp co) pa ci ru s.1 s.2.1 s.2.2.1
def ce_X7_overdue : rz_K := (2, kMl, 2, false, fun av w => ∃ (pa ci ru : Nat → Int32) (s : LgS) (th po re nw si pl tr bo sp co b : Int32) (k i : Nat), av = [.ref 50, .int b] ∧ w = wMs th po re nw si pl tr bo (nI k) sp co pa ci ru s ∧ k ≤ 100 ∧ lastK (pkP (mB pa 0) (mB pa 1) b nw) k = nI i ∧ i < 100 ∧ s.2.2.2 < 2 ^ 29, fun av w _ w' => ∀ i k q : Nat, rF w 50 14 = nI k → k ≤ 100 → rF w 50 15 = nI q → q < 2 ^ 29 → lastK (pkP (mB (rI w 61) 0) (mB (rI w 61) 1) (rA av 1) (rF w 50 9)) k = nI i → i < 100 → w' = sMg w (odF (rI w 63) (rF w 50 9 - (mE (rI w 61) i + 1)) (rA av 1) (rF w 50 9) (mLg w q) 5))
def cl_X7_overdue : List (Nat × rz_K) := []
def cv_X7_overdue : List (Nat × rz_K) := [(196, ce_X7_ofPlan), (199, ce_X7_lastPlan)]
theorem vc_X7_overdue : rz_VC k_X7_overdue fl_X7 cl_X7_overdue cv_X7_overdue s_X7_overdue false 5 ce_X7_overdue := by
  intro av w hlen hk hpre
  obtain ⟨pa, ci, ru, s, th, po, re, nw, si, pl, tr, bo, sp, co, b, k, i, rfl, rfl, hk2, hla, hi, hs⟩ := hpre
  generalize hS : nw - (mE pa i + 1) = since
  have fin : rz_end ce_X7_overdue [.ref 50, .int b] (wMs th po re nw si pl tr bo (nI k) sp co pa ci ru s) none (wMs th po re nw si pl tr bo (nI k) sp co pa ci ru (odF ru since b nw s 5)) := by
    refine ⟨rfl, fun z => (by cases z), ?_⟩
    intro i' k' q e1 h1 e2 h2 e3 h3
    have e1 : k = k' := nI_inj (by omega) (by omega) e1
    have e2 : s.2.2.2 = q := nI_inj (by omega) (by omega) e2
    subst e1 e2
    have e3 : lastK (pkP (mB pa 0) (mB pa 1) b nw) k = nI i' := e3
    have e4 : i = i' := nI_inj (by omega) (by omega) (hla.symm.trans e3)
    subst e4
    rw [← hS]
    rfl
  have pln : ∀ (a : Nat) (x : Int32), a < 5 → ce_X7_ofPlan.2.2.2.2.2 [.ref 50, .int (nI i), .int (nI a)] (wMp (oMo th po re nw si pl tr bo (nI k) (nI s.2.2.2) sp co) pa) (some (.int x)) (wMp (oMo th po re nw si pl tr bo (nI k) (nI s.2.2.2) sp co) pa) → x = pa (5 * i + a) := fun a x ha hx => hx i a rfl rfl hi ha
  refine ⟨Nat.le_of_ble_eq_true rfl, [(34, [0, 1, 3, 4], fun z lv w' => ∃ r : Nat, r ≤ 5 ∧ lv = [(0, .ref 50), (1, .int b), (3, .int since), (4, .int (nI r))] ∧ w' = wMs th po re nw si pl tr bo (nI k) sp co pa ci ru (odF ru since b nw s r) ∧ z = 5 - r)], 60, 6, ?_, ?_⟩
  · intro y hq z lv w' hj
    rcases List.mem_cons.mp hq with rfl | hq
    · obtain ⟨r, hr, rfl, rfl, rfl⟩ := hj
      conv => whnf
      refine ⟨fun c => ?_, fun c => ?_⟩
      · have c : nI 5 ≤ nI r := c
        have e : r = 5 := by
          have := (nI_leI (by omega) (by omega)).mp c
          omega
        subst e
        exact fin
      · have c : ¬ nI 5 ≤ nI r := c
        have hr2 : r < 5 := by
          rcases Nat.lt_or_ge r 5 with z | z
          · exact z
          · exact absurd (nI_le z (by omega)) c
        have hv : vp_in (nI r) 5 := vp_in_nI hr2 (by omega)
        have hcl : (nI r).toNatClampNeg = r := nI_clamp (by omega)
        have hb := odF_n ru since b nw s r
        generalize hT : odF ru since b nw s r = t
        have hs1 : odF ru since b nw s (r + 1) = if ru r = since then wlF t b (nI r) nw else t := by rw [← hT]; rfl
        rw [hT] at hb
        conv => whnf
        refine ⟨hv, ?_⟩
        conv => whnf
        refine ⟨fun c2 => ?_, fun c2 => ?_⟩
        · have c2 : ru (nI r).toNatClampNeg = since := c2
          rw [hcl] at c2
          rw [if_pos c2] at hs1
          conv => whnf
          refine ⟨fun c3 => ?_, fun c3 => ?_⟩
          · have c3 : nI 300 ≤ nI t.2.2.2 := c3
            have c3 := (nI_leI (by omega) (by omega)).mp c3
            conv => whnf
            rintro _ rfl
            conv => whnf
            refine ⟨5 - (r + 1), by omega, r + 1, by omega, ?_, ?_, rfl⟩
            · show [_, _, _, (4, Value.int (nI r + 1))] = _
              rw [nI_1]
            · show wMl (oMo th po re nw si pl tr bo (nI k) (nI t.2.2.2 + 1) sp co) pa ci ru t.1 t.2.1 t.2.2.1 = _
              rw [hs1, nI_1, wlF, if_neg (by omega)]
          · have c3 : ¬ nI 300 ≤ nI t.2.2.2 := c3
            have c3 : t.2.2.2 < 300 := by
              rcases Nat.lt_or_ge t.2.2.2 300 with z | z
              · exact z
              · exact absurd (nI_le z (by omega)) c3
            have hvq : vp_in (nI t.2.2.2) 300 := vp_in_nI c3 (by omega)
            conv => whnf
            refine ⟨hvq, ?_⟩
            conv => whnf
            refine ⟨hvq, ?_⟩
            conv => whnf
            refine ⟨hvq, ?_⟩
            conv => whnf
            rintro _ rfl
            conv => whnf
            refine ⟨5 - (r + 1), by omega, r + 1, by omega, ?_, ?_, rfl⟩
            · show [_, _, _, (4, Value.int (nI r + 1))] = _
              rw [nI_1]
            · show wMl (oMo th po re nw si pl tr bo (nI k) (nI t.2.2.2 + 1) sp co) pa ci ru (upd t.1 (nI t.2.2.2).toNatClampNeg b) (upd t.2.1 (nI t.2.2.2).toNatClampNeg (nI r)) (upd t.2.2.1 (nI t.2.2.2).toNatClampNeg nw) = _
              rw [hs1, nI_1, wlF, if_pos c3, nI_clamp (by omega)]
        · have c2 : ¬ ru (nI r).toNatClampNeg = since := c2
          rw [hcl] at c2
          rw [if_neg c2] at hs1
          conv => whnf
          rintro _ rfl
          conv => whnf
          refine ⟨5 - (r + 1), by omega, r + 1, by omega, ?_, ?_, rfl⟩
          · show [_, _, _, (4, Value.int (nI r + 1))] = _
            rw [nI_1]
          · rw [hs1]
    · exact absurd hq List.not_mem_nil
  · conv => whnf
    refine ⟨⟨pa, th, po, re, nw, si, pl, tr, bo, nI s.2.2.2, sp, co, b, nw, k, rfl, rfl, hk2⟩, ?_⟩
    intro r hr
    have hr : r = lastK (pkP (mB pa 0) (mB pa 1) b nw) k := hr k rfl hk2
    rw [hla] at hr
    subst hr
    conv => whnf
    rintro _ rfl
    conv => whnf
    refine ⟨⟨pa, th, po, re, nw, si, pl, tr, bo, nI k, nI s.2.2.2, sp, co, i, 3, rfl, rfl, hi, by omega⟩, ?_⟩
    intro x3 hx3
    obtain rfl := pln 3 x3 (by omega) hx3
    conv => whnf
    refine ⟨⟨pa, th, po, re, nw, si, pl, tr, bo, nI k, nI s.2.2.2, sp, co, i, 4, rfl, rfl, hi, by omega⟩, ?_⟩
    intro x4 hx4
    obtain rfl := pln 4 x4 (by omega) hx4
    conv => whnf
    rintro _ rfl
    conv => whnf
    rintro _ rfl
    conv => whnf
    refine ⟨5, by omega, 0, by omega, ?_, rfl, rfl⟩
    show [_, _, (3, Value.int (nw - (pa (5 * i + 3) + pa (5 * i + 4) + 1))), _] = _
    rw [← hS]
    rfl
theorem rv_X7_overdue : rz_Rv yX7_overdue.cls ce_X7_overdue := fun av w h => by
  obtain ⟨_, _, _, _, _, _, _, _, _, _, _, _, _, _, _, _, _, rfl, rfl, _⟩ := h
  exact ⟨_, _, _, _, _, _, rfl, rfl, rfl⟩
theorem cn_X7_overdue (l : Launch) : rz_Con l yX7_overdue cX7_overdue 5 none 2 0 0 ce_X7_overdue := rz_con (by decide +kernel) fo_X7 (fun _ h => absurd h List.not_mem_nil) (by
  intro q hq
  rcases List.mem_cons.mp hq with rfl | hq
  · exact rz_callV (cn_X7_ofPlan l) (by decide +kernel) ⟨Nat.le_of_ble_eq_true rfl, Nat.le_of_ble_eq_true rfl⟩ m_X7_ofPlan rfl i_X7_ofPlan v_X7_ofPlan rv_X7_ofPlan n_X7_196
  rcases List.mem_cons.mp hq with rfl | hq
  · exact rz_callV (cn_X7_lastPlan l) (by decide +kernel) ⟨Nat.le_of_ble_eq_true rfl, Nat.le_of_ble_eq_true rfl⟩ m_X7_lastPlan rfl i_X7_lastPlan v_X7_lastPlan rv_X7_lastPlan n_X7_199
  exact absurd hq List.not_mem_nil) r_X7_overdue vc_X7_overdue
/-- one minute t of the reference: boats in turn -/
def moF (pa ci ru : Nat → Int32) (k : Nat) (t : Int32) (s : LgS) : Nat → LgS
  | 0 => s
  | b + 1 => if stF (lastK (pkP (mB pa 0) (mB pa 1) (nI b) t) k) (ci b) t t (mB pa 2) (mE pa) = 3 then odF ru (t - (mE pa (lastK (pkP (mB pa 0) (mB pa 1) (nI b) t) k).toNatClampNeg + 1)) (nI b) t (moF pa ci ru k t s b) 5 else moF pa ci ru k t s b
theorem moF_n (pa ci ru : Nat → Int32) (k : Nat) (t : Int32) (s : LgS) : ∀ b, (moF pa ci ru k t s b).2.2.2 ≤ s.2.2.2 + 5 * b
  | 0 => Nat.le_refl _
  | b + 1 => by
    have ih := moF_n pa ci ru k t s b
    unfold moF
    by_cases h : stF (lastK (pkP (mB pa 0) (mB pa 1) (nI b) t) k) (ci b) t t (mB pa 2) (mE pa) = 3
    · rw [if_pos h]
      have := odF_n ru (t - (mE pa (lastK (pkP (mB pa 0) (mB pa 1) (nI b) t) k).toNatClampNeg + 1)) (nI b) t (moF pa ci ru k t s b) 5
      omega
    · rw [if_neg h]; omega
/-- i minutes from t on -/
def spF (pa ci ru : Nat → Int32) (k n t : Nat) (s : LgS) : Nat → LgS
  | 0 => s
  | i + 1 => moF pa ci ru k (nI (t + i + 1)) (spF pa ci ru k n t s i) n
theorem spF_n (pa ci ru : Nat → Int32) (k n t : Nat) (s : LgS) (hn : n ≤ 30) : ∀ i, (spF pa ci ru k n t s i).2.2.2 ≤ s.2.2.2 + 150 * i
  | 0 => Nat.le_refl _
  | i + 1 => by
    have ih := spF_n pa ci ru k n t s hn i
    have := moF_n pa ci ru k (nI (t + i + 1)) (spF pa ci ru k n t s i) n
    show (moF pa ci ru k (nI (t + i + 1)) (spF pa ci ru k n t s i) n).2.2.2 ≤ _
    omega
def ce_X7_step : rz_K := (2, kMl, 0, false, fun av w => ∃ (pa ci ru : Nat → Int32) (s : LgS) (th po re si pl tr sp co x : Int32) (k n t : Nat), av = [.ref 50, .int x] ∧ w = wMs th po re (nI t) si pl tr (nI n) (nI k) sp co pa ci ru s ∧ k ≤ 100 ∧ n ≤ 30 ∧ t ≤ 20000 ∧ s.2.2.2 < 2 ^ 28, fun av w o w' => ∀ k n t q : Nat, rF w 50 14 = nI k → k ≤ 100 → rF w 50 13 = nI n → n ≤ 30 → rF w 50 9 = nI t → t ≤ 20000 → rF w 50 15 = nI q → q < 2 ^ 28 → if okN (rA av 1) (nI t) then rR o = nI t + rA av 1 ∧ w' = sMg (mset (mset w 0 0) 9 (nI t + rA av 1)) (spF (rI w 61) (rI w 62) (rI w 63) k n t (mLg w q) (rA av 1).toNatClampNeg) else rR o = -1 ∧ w' = mset w 0 0)
def cl_X7_step : List (Nat × rz_K) := [(87, ce_X7_isIn)]
def cv_X7_step : List (Nat × rz_K) := [(202, ce_X7_stands), (206, ce_X7_overdue)]
theorem vc_X7_step : rz_VC k_X7_step fl_X7 cl_X7_step cv_X7_step s_X7_step false 4 ce_X7_step := by
  intro av w hlen hk hpre
  obtain ⟨pa, ci, ru, s, th, po, re, si, pl, tr, sp, co, x, k, n, t, rfl, rfl, hk2, hn, ht, hs⟩ := hpre
  have no : ¬ okN x (nI t) → rz_end ce_X7_step [.ref 50, .int x] (wMs th po re (nI t) si pl tr (nI n) (nI k) sp co pa ci ru s) (some (.int (-1))) (wMs 0 po re (nI t) si pl tr (nI n) (nI k) sp co pa ci ru s) := by
    intro z1
    refine ⟨⟨_, rfl⟩, fun z => (by cases z), ?_⟩
    intro k' n' t' q e1 h1 e2 h2 e3 h3 e4 h4
    have e3 : t = t' := nI_inj (by omega) (by omega) e3
    subst e3
    exact if_no z1 ⟨rfl, rfl⟩
  have yes : ∀ X : Nat, X ≤ 3000 → x = nI X → okN x (nI t) → rz_end ce_X7_step [.ref 50, .int x] (wMs th po re (nI t) si pl tr (nI n) (nI k) sp co pa ci ru s) (some (.int (nI (t + X)))) (wMs 0 po re (nI (t + X)) si pl tr (nI n) (nI k) sp co pa ci ru (spF pa ci ru k n t s X)) := by
    intro X hX hx z1
    refine ⟨⟨_, rfl⟩, fun z => (by cases z), ?_⟩
    intro k' n' t' q e1 h1 e2 h2 e3 h3 e4 h4
    have e1 : k = k' := nI_inj (by omega) (by omega) e1
    have e2 : n = n' := nI_inj (by omega) (by omega) e2
    have e3 : t = t' := nI_inj (by omega) (by omega) e3
    have e4 : s.2.2.2 = q := nI_inj (by omega) (by omega) e4
    subst e1 e2 e3 e4
    refine if_yes z1 ⟨?_, ?_⟩
    · show nI (t + X) = nI t + x
      rw [hx, nI_add]
    · show _ = wMs 0 po re (nI t + x) si pl tr (nI n) (nI k) sp co pa ci ru (spF pa ci ru k n t s x.toNatClampNeg)
      rw [hx, nI_add, nI_clamp (by omega)]
  refine ⟨Nat.le_of_ble_eq_true rfl, [
    (32, [0, 1, 2], fun z lv w' => ∃ X i : Nat, X ≤ 3000 ∧ x = nI X ∧ okN x (nI t) ∧ i ≤ X ∧ lv = [(0, .ref 50), (1, .int x), (2, .int (nI i))] ∧ w' = wMs 0 po re (nI (t + i)) si pl tr (nI n) (nI k) sp co pa ci ru (spF pa ci ru k n t s i) ∧ z = (X - i) * 100 + 50),
    (49, [0, 1, 2, 3], fun z lv w' => ∃ X i b : Nat, X ≤ 3000 ∧ x = nI X ∧ okN x (nI t) ∧ i < X ∧ b ≤ n ∧ lv = [(0, .ref 50), (1, .int x), (2, .int (nI i)), (3, .int (nI b))] ∧ w' = wMs 0 po re (nI (t + i + 1)) si pl tr (nI n) (nI k) sp co pa ci ru (moF pa ci ru k (nI (t + i + 1)) (spF pa ci ru k n t s i) b) ∧ z = (X - i) * 100 + 40 - b)], 90, 300051, ?_, ?_⟩
  · intro y hq z lv w' hj
    rcases List.mem_cons.mp hq with rfl | hq
    · obtain ⟨X, i, hX, hx, hO, hi, rfl, rfl, rfl⟩ := hj
      subst hx
      conv => whnf
      refine ⟨fun c => ?_, fun c => ?_⟩
      · have e : i = X := by
          have := (nI_leI (by omega) (by omega)).mp c
          omega
        subst e
        exact yes i hX rfl hO
      · have hi2 : i < X := by
          rcases Nat.lt_or_ge i X with z | z
          · exact z
          · exact absurd (nI_le z (by omega)) c
        conv => whnf
        rintro _ rfl
        conv => whnf
        refine ⟨(X - i) * 100 + 40, by omega, X, i, 0, hX, rfl, hO, hi2, by omega, rfl, ?_, rfl⟩
        show wMl (oMo 0 po re (nI (t + i) + 1) si pl tr (nI n) (nI k) (nI (spF pa ci ru k n t s i).2.2.2) sp co) pa ci ru _ _ _ = _
        rw [nI_1]
        rfl
    rcases List.mem_cons.mp hq with rfl | hq
    · obtain ⟨X, i, b, hX, hx, hO, hi, hb, rfl, rfl, rfl⟩ := hj
      subst hx
      have hn1 := moF_n pa ci ru k (nI (t + i + 1)) (spF pa ci ru k n t s i) b
      have hn2 := spF_n pa ci ru k n t s hn i
      conv => whnf
      refine ⟨fun c => ?_, fun c => ?_⟩
      · have e : b = n := by
          have := (nI_leI (by omega) (by omega)).mp c
          omega
        subst e
        conv => whnf
        rintro _ rfl
        conv => whnf
        refine ⟨(X - (i + 1)) * 100 + 50, by omega, X, i + 1, hX, rfl, hO, by omega, ?_, rfl, rfl⟩
        show [_, _, (2, Value.int (nI i + 1))] = _
        rw [nI_1]
      · have hb2 : b < n := by
          rcases Nat.lt_or_ge b n with z | z
          · exact z
          · exact absurd (nI_le z (by omega)) c
        have hcl : (nI b).toNatClampNeg = b := nI_clamp (by omega)
        have hm1 : moF pa ci ru k (nI (t + i + 1)) (spF pa ci ru k n t s i) (b + 1) = if stF (lastK (pkP (mB pa 0) (mB pa 1) (nI b) (nI (t + i + 1))) k) (ci b) (nI (t + i + 1)) (nI (t + i + 1)) (mB pa 2) (mE pa) = 3 then odF ru (nI (t + i + 1) - (mE pa (lastK (pkP (mB pa 0) (mB pa 1) (nI b) (nI (t + i + 1))) k).toNatClampNeg + 1)) (nI b) (nI (t + i + 1)) (moF pa ci ru k (nI (t + i + 1)) (spF pa ci ru k n t s i) b) 5 else moF pa ci ru k (nI (t + i + 1)) (spF pa ci ru k n t s i) b := rfl
        generalize moF pa ci ru k (nI (t + i + 1)) (spF pa ci ru k n t s i) b = u at *
        generalize hT : nI (t + i + 1) = T at *
        conv => whnf
        refine ⟨⟨pa, ci, 0, po, re, T, si, pl, tr, nI n, nI u.2.2.2, sp, co, nI b, T, T, k, rfl, rfl, hk2, vp_in_nI (by omega) (by omega)⟩, ?_⟩
        intro r hr
        have hr : r = stF (lastK (pkP (mB pa 0) (mB pa 1) (nI b) T) k) (ci (nI b).toNatClampNeg) T T (mB pa 2) (mE pa) := hr k rfl hk2
        rw [hcl] at hr
        subst hr
        conv => whnf
        refine ⟨fun c2 => ?_, fun c2 => ?_⟩
        · have c2 : stF (lastK (pkP (mB pa 0) (mB pa 1) (nI b) T) k) (ci b) T T (mB pa 2) (mE pa) = 3 := c2
          rw [if_pos c2] at hm1
          obtain ⟨g, hg1, hg2⟩ : ∃ g, g < 100 ∧ lastK (pkP (mB pa 0) (mB pa 1) (nI b) T) k = nI g := by
            rcases lastK_in (pkP (mB pa 0) (mB pa 1) (nI b) T) k (by omega) with y | ⟨g, y1, y2, y3⟩
            · unfold stF at c2
              rw [if_pos y] at c2
              exact absurd c2 (by decide)
            · exact ⟨g, by omega, y2⟩
          have hu : u.2.2.2 < 2 ^ 29 := by omega
          conv => whnf
          refine ⟨⟨pa, ci, ru, u, 0, po, re, T, si, pl, tr, nI n, sp, co, nI b, k, g, rfl, rfl, hk2, hg2, hg1, hu⟩, ?_⟩
          intro wc hwc
          have hwc : wc = wMs 0 po re T si pl tr (nI n) (nI k) sp co pa ci ru (odF ru (T - (mE pa g + 1)) (nI b) T u 5) := hwc g k _ rfl hk2 rfl hu hg2 hg1
          subst hwc
          conv => whnf
          rintro _ rfl
          conv => whnf
          refine ⟨(X - i) * 100 + 40 - (b + 1), by omega, X, i, b + 1, hX, rfl, hO, hi, by omega, ?_, ?_, rfl⟩
          · show [_, _, _, (3, Value.int (nI b + 1))] = _
            rw [nI_1]
          · rw [hT, hm1, hg2, nI_clamp (by omega)]
            rfl
        · have c2 : ¬ stF (lastK (pkP (mB pa 0) (mB pa 1) (nI b) T) k) (ci b) T T (mB pa 2) (mE pa) = 3 := c2
          rw [if_neg c2] at hm1
          conv => whnf
          rintro _ rfl
          conv => whnf
          refine ⟨(X - i) * 100 + 40 - (b + 1), by omega, X, i, b + 1, hX, rfl, hO, hi, by omega, ?_, ?_, rfl⟩
          · show [_, _, _, (3, Value.int (nI b + 1))] = _
            rw [nI_1]
          · rw [hT, hm1]
    · exact absurd hq List.not_mem_nil
  · conv => whnf
    refine ⟨⟨_, _, _, rfl, rfl, trivial⟩, ?_⟩
    intro r hr
    obtain rfl : r = bI (0 ≤ x ∧ x ≤ 3000) := hr
    conv => whnf
    refine ⟨fun h1 => ?_, fun h1 => ?_⟩
    · exact no (fun z => bI_0 h1 z.1)
    · conv => whnf
      refine ⟨fun h2 => ?_, fun h2 => ?_⟩
      · obtain ⟨X, hX, hx⟩ := vp_in_of (vp_of2 (n := 3001) (bI_n h1).1 (bI_n h1).2 rfl) (by omega)
        conv => whnf
        rintro _ rfl
        conv => whnf
        refine ⟨(X - 0) * 100 + 50, by omega, X, 0, by omega, hx, ⟨bI_n h1, h2⟩, by omega, rfl, rfl, rfl⟩
      · exact no (fun z => h2 z.2)
theorem rv_X7_step : rz_Rv yX7_step.cls ce_X7_step := fun av w h => by
  obtain ⟨_, _, _, _, _, _, _, _, _, _, _, _, _, _, _, _, rfl, rfl, _⟩ := h
  exact ⟨_, _, _, _, _, _, rfl, rfl, rfl⟩
theorem cn_X7_step (l : Launch) : rz_Con l yX7_step cX7_step 4 (some .int) 3 0 0 ce_X7_step := rz_con (by decide +kernel) fo_X7 (by
  intro q hq
  rcases List.mem_cons.mp hq with rfl | hq
  · exact rz_callS (cn_X7_isIn l) (by decide +kernel) ⟨Nat.le_of_ble_eq_true rfl, Nat.le_of_ble_eq_true rfl⟩ m_X7_isIn t_X7_isIn n_X7_87
  exact absurd hq List.not_mem_nil) (by
  intro q hq
  rcases List.mem_cons.mp hq with rfl | hq
  · exact rz_callV (cn_X7_stands l) (by decide +kernel) ⟨Nat.le_of_ble_eq_true rfl, Nat.le_of_ble_eq_true rfl⟩ m_X7_stands rfl i_X7_stands v_X7_stands rv_X7_stands n_X7_202
  rcases List.mem_cons.mp hq with rfl | hq
  · exact rz_callV (cn_X7_overdue l) (by decide +kernel) ⟨Nat.le_of_ble_eq_true rfl, Nat.le_of_ble_eq_true rfl⟩ m_X7_overdue rfl i_X7_overdue v_X7_overdue rv_X7_overdue n_X7_206
  exact absurd hq List.not_mem_nil) r_X7_step vc_X7_step
theorem okL_iff {i : Int32} {q : Nat} (hq : q < 2 ^ 30) : okL i q ↔ ¬ i < 0 ∧ ¬ nI q ≤ i ∧ i < 300 := by
  have e0 : (0 : Int32).toInt = 0 := rfl
  have e3 : (300 : Int32).toInt = 300 := rfl
  have eq1 : (nI q).toInt = (q : Int) := nI_toInt (by omega)
  have eq2 : (nI q - 1).toInt = (q : Int) - 1 := pk_sub_toInt (a := q) (b := 1) (by omega) (by omega)
  have e299 : ((300 : Int32) - 1).toInt = 299 := rfl
  unfold okL
  by_cases z : (300 : Int32) < nI q
  · rw [if_pos z]
    rw [Int32.lt_iff_toInt_lt] at z ⊢
    rw [Int32.lt_iff_toInt_lt, Int32.le_iff_toInt_le, Int32.le_iff_toInt_le, Int32.le_iff_toInt_le]
    omega
  · rw [if_neg z]
    rw [Int32.lt_iff_toInt_lt] at z ⊢
    rw [Int32.lt_iff_toInt_lt, Int32.le_iff_toInt_le, Int32.le_iff_toInt_le, Int32.le_iff_toInt_le]
    omega
abbrev wMg (o : rz_C) (lb lr lm : Nat → Int32) : rz_W := [(50, o), (64, ri 300 lb), (65, ri 300 lr), (66, ri 300 lm)]
def ce_X7_log : rz_K := (3, [50, 64, 65, 66], 0, false, fun av w => ∃ (lb lr lm : Nat → Int32) (th po re nw si pl tr bo pn sp co i a : Int32) (q : Nat), av = [.ref 50, .int i, .int a] ∧ w = wMg (oMo th po re nw si pl tr bo pn (nI q) sp co) lb lr lm ∧ q < 2 ^ 30, fun av w o w' => (∀ q : Nat, rF w 50 15 = nI q → q < 2 ^ 30 → rR o = if okL (rA av 1) q then (if rA av 2 = 0 then rI w 64 (rA av 1).toNatClampNeg else if rA av 2 = 1 then rI w 65 (rA av 1).toNatClampNeg else if rA av 2 = 2 then rI w 66 (rA av 1).toNatClampNeg else -1) else -1) ∧ w' = mset w 0 0)
def cl_X7_log : List (Nat × rz_K) := []
def cv_X7_log : List (Nat × rz_K) := []
theorem vc_X7_log : rz_VC k_X7_log fl_X7 cl_X7_log cv_X7_log s_X7_log false 3 ce_X7_log := by
  intro av w hlen hk hpre
  obtain ⟨lb, lr, lm, th, po, re, nw, si, pl, tr, bo, pn, sp, co, i, a, q, rfl, rfl, hq⟩ := hpre
  refine ⟨Nat.le_of_ble_eq_true rfl, [], 60, 0, fun q h => absurd h List.not_mem_nil, ?_⟩
  have fin : ∀ v : Int32, (v = if okL i q then (if a = 0 then lb i.toNatClampNeg else if a = 1 then lr i.toNatClampNeg else if a = 2 then lm i.toNatClampNeg else -1) else -1) → rz_end ce_X7_log [.ref 50, .int i, .int a] (wMg (oMo th po re nw si pl tr bo pn (nI q) sp co) lb lr lm) (some (.int v)) (wMg (oMo 0 po re nw si pl tr bo pn (nI q) sp co) lb lr lm) := by
    intro v hv
    refine ⟨⟨_, rfl⟩, fun z => (by cases z), ?_, rfl⟩
    intro q' e1 h1
    have e1 : q = q' := nI_inj (by omega) (by omega) e1
    subst e1
    exact hv
  conv => whnf
  refine ⟨fun h1 => ?_, fun h1 => ?_⟩
  · exact fin _ (if_neg (fun z => ((okL_iff hq).mp z).1 h1)).symm
  · conv => whnf
    refine ⟨fun h2 => ?_, fun h2 => ?_⟩
    · exact fin _ (if_neg (fun z => ((okL_iff hq).mp z).2.1 h2)).symm
    · conv => whnf
      refine ⟨fun h3 => ?_, fun h3 => ?_⟩
      · have hO : okL i q := (okL_iff hq).mpr ⟨h1, h2, h3⟩
        have hv := okL_vp hO hq
        conv => whnf
        refine ⟨fun g1 => ?_, fun g1 => ?_⟩
        · conv => whnf
          refine ⟨hv, ?_⟩
          conv => whnf
          exact fin _ (by rw [if_pos hO, if_pos g1])
        · conv => whnf
          refine ⟨fun g2 => ?_, fun g2 => ?_⟩
          · conv => whnf
            refine ⟨hv, ?_⟩
            conv => whnf
            exact fin _ (by rw [if_pos hO, if_neg g1, if_pos g2])
          · conv => whnf
            refine ⟨fun g3 => ?_, fun g3 => ?_⟩
            · conv => whnf
              refine ⟨hv, ?_⟩
              conv => whnf
              exact fin _ (by rw [if_pos hO, if_neg g1, if_neg g2, if_pos g3])
            · exact fin _ (by rw [if_pos hO, if_neg g1, if_neg g2, if_neg g3])
      · exact fin _ (if_neg (fun z => h3 ((okL_iff hq).mp z).2.2)).symm
theorem rv_X7_log : rz_Rv yX7_log.cls ce_X7_log := fun av w h => by
  obtain ⟨_, _, _, _, _, _, _, _, _, _, _, _, _, _, _, _, _, rfl, rfl, _⟩ := h
  exact ⟨_, _, _, _, _, _, rfl, rfl, rfl⟩
theorem cn_X7_log (l : Launch) : rz_Con l yX7_log cX7_log 3 (some .int) 0 0 0 ce_X7_log := rz_con (by decide +kernel) fo_X7 (fun _ h => absurd h List.not_mem_nil) (fun _ h => absurd h List.not_mem_nil) r_X7_log vc_X7_log
def ce_X7_count : rz_K := (2, kMb, 0, false, fun av w => ∃ (pa ci : Nat → Int32) (th po re nw si pl tr ca sp co a : Int32) (k n : Nat), av = [.ref 50, .int a] ∧ w = wMb (oMo th po re nw si pl tr (nI n) (nI k) ca sp co) pa ci ∧ k ≤ 100 ∧ n ≤ 30, fun av w o w' => (∀ k n : Nat, rF w 50 14 = nI k → k ≤ 100 → rF w 50 13 = nI n → n ≤ 30 → rR o = if rA av 1 = 0 then rF w 50 9 else if rA av 1 = 1 then rF w 50 7 else if rA av 1 = 2 then rF w 50 8 else if rA av 1 = 3 then rF w 50 10 else if rA av 1 = 4 then rF w 50 11 else if rA av 1 = 5 then rF w 50 12 else if rA av 1 = 6 then nI n else if rA av 1 = 7 then rF w 50 15 else if rA av 1 = 8 then cntB (fun b => decide (stF (lastK (pkP (mB (rI w 61) 0) (mB (rI w 61) 1) (nI b) (rF w 50 9)) k) (rI w 62 b) (rF w 50 9) (rF w 50 9) (mB (rI w 61) 2) (mE (rI w 61)) = 3)) n else -1) ∧ w' = mset w 0 0)
def cl_X7_count : List (Nat × rz_K) := []
def cv_X7_count : List (Nat × rz_K) := [(202, ce_X7_stands)]
theorem vc_X7_count : rz_VC k_X7_count fl_X7 cl_X7_count cv_X7_count s_X7_count false 4 ce_X7_count := by
  intro av w hlen hk hpre
  obtain ⟨pa, ci, th, po, re, nw, si, pl, tr, ca, sp, co, a, k, n, rfl, rfl, hk2, hn⟩ := hpre
  generalize hp : (fun b => decide (stF (lastK (pkP (mB pa 0) (mB pa 1) (nI b) nw) k) (ci b) nw nw (mB pa 2) (mE pa) = 3)) = p
  have hp2 : ∀ b, p b = decide (stF (lastK (pkP (mB pa 0) (mB pa 1) (nI b) nw) k) (ci b) nw nw (mB pa 2) (mE pa) = 3) := fun b => by rw [← hp]
  have hs : ∀ i, cntB p (i + 1) = if p i then cntB p i + 1 else cntB p i := fun _ => rfl
  have fin : ∀ v : Int32, (v = if a = 0 then nw else if a = 1 then po else if a = 2 then re else if a = 3 then si else if a = 4 then pl else if a = 5 then tr else if a = 6 then nI n else if a = 7 then ca else if a = 8 then cntB p n else -1) → rz_end ce_X7_count [.ref 50, .int a] (wMb (oMo th po re nw si pl tr (nI n) (nI k) ca sp co) pa ci) (some (.int v)) (wMb (oMo 0 po re nw si pl tr (nI n) (nI k) ca sp co) pa ci) := by
    intro v hv
    refine ⟨⟨_, rfl⟩, fun z => (by cases z), ?_, rfl⟩
    intro k' n' e1 g1 e2 g2
    have e1 : k = k' := nI_inj (by omega) (by omega) e1
    have e2 : n = n' := nI_inj (by omega) (by omega) e2
    subst e1 e2
    rw [hv, ← hp]
    rfl
  refine ⟨Nat.le_of_ble_eq_true rfl, [(100, [0, 1, 2, 3], fun z lv w' => ∃ i : Nat, a = 8 ∧ i ≤ n ∧ lv = [(0, .ref 50), (1, .int a), (2, .int (cntB p i)), (3, .int (nI i))] ∧ w' = wMb (oMo 0 po re nw si pl tr (nI n) (nI k) ca sp co) pa ci ∧ z = n - i)], 60, n + 1, ?_, ?_⟩
  · intro y hq z lv w' hj
    rcases List.mem_cons.mp hq with rfl | hq
    · obtain ⟨i, ha, hi, rfl, rfl, rfl⟩ := hj
      subst ha
      conv => whnf
      refine ⟨fun c => ?_, fun c => ?_⟩
      · have e : i = n := by
          have := (nI_leI (by omega) (by omega)).mp c
          omega
        subst e
        exact fin _ (by rw [if_neg (by decide), if_neg (by decide), if_neg (by decide), if_neg (by decide), if_neg (by decide), if_neg (by decide), if_neg (by decide), if_neg (by decide), if_pos rfl])
      · have hi2 : i < n := by
          rcases Nat.lt_or_ge i n with z | z
          · exact z
          · exact absurd (nI_le z (by omega)) c
        have hcl : (nI i).toNatClampNeg = i := nI_clamp (by omega)
        conv => whnf
        refine ⟨⟨pa, ci, 0, po, re, nw, si, pl, tr, nI n, ca, sp, co, nI i, nw, nw, k, rfl, rfl, hk2, vp_in_nI (by omega) (by omega)⟩, ?_⟩
        intro r hr
        have hr : r = stF (lastK (pkP (mB pa 0) (mB pa 1) (nI i) nw) k) (ci (nI i).toNatClampNeg) nw nw (mB pa 2) (mE pa) := hr k rfl hk2
        rw [hcl] at hr
        subst hr
        conv => whnf
        refine ⟨fun c2 => ?_, fun c2 => ?_⟩
        · conv => whnf
          rintro _ rfl
          conv => whnf
          rintro _ rfl
          conv => whnf
          refine ⟨n - (i + 1), by omega, i + 1, rfl, by omega, ?_, rfl, rfl⟩
          show [_, _, (2, Value.int (cntB p i + 1)), (3, Value.int (nI i + 1))] = _
          rw [nI_1, hs, hp2, if_pos (by simp only [decide_eq_true_eq]; exact c2)]
        · conv => whnf
          rintro _ rfl
          conv => whnf
          rintro _ rfl
          conv => whnf
          refine ⟨n - (i + 1), by omega, i + 1, rfl, by omega, ?_, rfl, rfl⟩
          show [_, _, (2, Value.int (cntB p i + 0)), (3, Value.int (nI i + 1))] = _
          rw [nI_1, hs, hp2, if_neg (by simp only [decide_eq_true_eq]; exact c2), Int32.add_zero]
    · exact absurd hq List.not_mem_nil
  · conv => whnf
    refine ⟨fun h0 => ?_, fun h0 => ?_⟩
    · exact fin _ (by rw [if_pos h0])
    · conv => whnf
      refine ⟨fun h1 => ?_, fun h1 => ?_⟩
      · exact fin _ (by rw [if_neg h0, if_pos h1])
      · conv => whnf
        refine ⟨fun h2 => ?_, fun h2 => ?_⟩
        · exact fin _ (by rw [if_neg h0, if_neg h1, if_pos h2])
        · conv => whnf
          refine ⟨fun h3 => ?_, fun h3 => ?_⟩
          · exact fin _ (by rw [if_neg h0, if_neg h1, if_neg h2, if_pos h3])
          · conv => whnf
            refine ⟨fun h4 => ?_, fun h4 => ?_⟩
            · exact fin _ (by rw [if_neg h0, if_neg h1, if_neg h2, if_neg h3, if_pos h4])
            · conv => whnf
              refine ⟨fun h5 => ?_, fun h5 => ?_⟩
              · exact fin _ (by rw [if_neg h0, if_neg h1, if_neg h2, if_neg h3, if_neg h4, if_pos h5])
              · conv => whnf
                refine ⟨fun h6 => ?_, fun h6 => ?_⟩
                · exact fin _ (by rw [if_neg h0, if_neg h1, if_neg h2, if_neg h3, if_neg h4, if_neg h5, if_pos h6])
                · conv => whnf
                  refine ⟨fun h7 => ?_, fun h7 => ?_⟩
                  · exact fin _ (by rw [if_neg h0, if_neg h1, if_neg h2, if_neg h3, if_neg h4, if_neg h5, if_neg h6, if_pos h7])
                  · conv => whnf
                    refine ⟨fun h8 => ?_, fun h8 => ?_⟩
                    · conv => whnf
                      rintro _ rfl
                      conv => whnf
                      rintro _ rfl
                      conv => whnf
                      refine ⟨n, by omega, 0, h8, by omega, rfl, rfl, rfl⟩
                    · exact fin _ (by rw [if_neg h0, if_neg h1, if_neg h2, if_neg h3, if_neg h4, if_neg h5, if_neg h6, if_neg h7, if_neg h8])
theorem rv_X7_count : rz_Rv yX7_count.cls ce_X7_count := fun av w h => by
  obtain ⟨_, _, _, _, _, _, _, _, _, _, _, _, _, _, _, rfl, rfl, _⟩ := h
  exact ⟨_, _, _, _, _, _, rfl, rfl, rfl⟩
theorem cn_X7_count (l : Launch) : rz_Con l yX7_count cX7_count 4 (some .int) 3 0 0 ce_X7_count := rz_con (by decide +kernel) fo_X7 (fun _ h => absurd h List.not_mem_nil) (by
  intro q hq
  rcases List.mem_cons.mp hq with rfl | hq
  · exact rz_callV (cn_X7_stands l) (by decide +kernel) ⟨Nat.le_of_ble_eq_true rfl, Nat.le_of_ble_eq_true rfl⟩ m_X7_stands rfl i_X7_stands v_X7_stands rv_X7_stands n_X7_202
  exact absurd hq List.not_mem_nil) r_X7_count vc_X7_count
