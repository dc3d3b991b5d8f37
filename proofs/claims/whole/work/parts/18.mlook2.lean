/-! The reference's public methods on posts, reaches, weather. -/
def mset (w : rz_W) (k : Nat) (v : Int32) : rz_W := match rz_get w 50 with
  | some (.inl (c, fs)) => rz_set w 50 (.inl (c, fs.set k (.int v)))
  | _ => w
def ce_X7_post : rz_K := (4, kMk, 0, false, fun av w => ∃ (px py ph rx ry vi : Nat → Int32) (th re nw si pl tr bo pn ca sp co x y z : Int32) (n : Nat), av = [.ref 50, .int x, .int y, .int z] ∧ w = wMk (oMo th (nI n) re nw si pl tr bo pn ca sp co) px py ph rx ry vi ∧ n ≤ 6, fun av w o w' => ∀ n : Nat, rF w 50 7 = nI n → n ≤ 6 → if okP (rA av 1) (rA av 2) ∧ okH (rA av 3) ∧ n < 6 then rR o = nI n ∧ w' = rz_set (rz_set (rz_set (mset (mset w 0 0) 7 (nI (n + 1))) 51 (ri 6 (upd (rI w 51) n (rA av 1)))) 52 (ri 6 (upd (rI w 52) n (rA av 2)))) 53 (ri 6 (upd (rI w 53) n (rA av 3))) else rR o = -1 ∧ w' = mset w 0 0)
def cl_X7_post : List (Nat × rz_K) := [(87, ce_X7_isIn), (94, ce_X7_isPlace)]
def cv_X7_post : List (Nat × rz_K) := []
theorem vc_X7_post : rz_VC k_X7_post fl_X7 cl_X7_post cv_X7_post s_X7_post false 4 ce_X7_post := by
  intro av w hlen hk hpre
  obtain ⟨px, py, ph, rx, ry, vi, th, re, nw, si, pl, tr, bo, pn, ca, sp, co, x, y, z, n, rfl, rfl, hn⟩ := hpre
  refine ⟨Nat.le_of_ble_eq_true rfl, [], 90, 0, fun q h => absurd h List.not_mem_nil, ?_⟩
  have no : ¬ (okP x y ∧ okH z ∧ n < 6) → rz_end ce_X7_post [.ref 50, .int x, .int y, .int z] (wMk (oMo th (nI n) re nw si pl tr bo pn ca sp co) px py ph rx ry vi) (some (.int (-1))) (wMk (oMo 0 (nI n) re nw si pl tr bo pn ca sp co) px py ph rx ry vi) := by
    intro z1
    refine ⟨⟨_, rfl⟩, fun z => (by cases z), ?_⟩
    intro n' e hn'
    have e : n = n' := nI_inj (by omega) (by omega) e
    subst e
    exact if_no z1 ⟨rfl, rfl⟩
  conv => whnf
  refine ⟨fun h => ?_, fun h => ?_⟩
  · have h : nI n = nI 6 := h
    have h := nI_inj (by omega) (by omega) h
    exact no (fun z => by omega)
  · have h : ¬ nI n = nI 6 := h
    have hn2 : n < 6 := by
      rcases Nat.lt_or_ge n 6 with q | q
      · exact q
      · exact absurd (congrArg nI (show n = 6 by omega)) h
    have hv : vp_in (nI n) 6 := vp_in_nI hn2 (by omega)
    conv => whnf
    refine ⟨⟨_, _, rfl, rfl, trivial⟩, ?_⟩
    intro r hr
    obtain rfl : r = bI (okP x y) := hr
    conv => whnf
    refine ⟨fun h1 => ?_, fun h1 => ?_⟩
    · exact no (fun z => bI_0 h1 z.1)
    · conv => whnf
      refine ⟨⟨_, _, _, rfl, rfl, trivial⟩, ?_⟩
      intro r hr
      obtain rfl : r = bI (okH z) := hr
      conv => whnf
      refine ⟨fun h2 => ?_, fun h2 => ?_⟩
      · exact no (fun z => bI_0 h2 z.2.1)
      · conv => whnf
        refine ⟨hv, ?_⟩
        conv => whnf
        refine ⟨hv, ?_⟩
        conv => whnf
        refine ⟨hv, ?_⟩
        conv => whnf
        refine ⟨⟨_, rfl⟩, fun z => (by cases z), ?_⟩
        intro n' e hn'
        have e : n = n' := nI_inj (by omega) (by omega) e
        subst e
        refine if_yes ⟨bI_n h1, bI_n h2, hn2⟩ ⟨?_, ?_⟩
        · show nI n + 1 - 1 = nI n
          exact i32_asc _
        · show wMk (oMo 0 (nI n + 1) re nw si pl tr bo pn ca sp co) (upd px (nI n).toNatClampNeg x) (upd py (nI n).toNatClampNeg y) (upd ph (nI n).toNatClampNeg z) rx ry vi = _
          rw [nI_1, nI_clamp (by omega)]
          rfl
theorem rv_X7_post : rz_Rv yX7_post.cls ce_X7_post := fun av w h => by
  obtain ⟨_, _, _, _, _, _, _, _, _, _, _, _, _, _, _, _, _, _, _, _, _, rfl, rfl, _⟩ := h
  exact ⟨_, _, _, _, _, _, rfl, rfl, rfl⟩
theorem cn_X7_post (l : Launch) : rz_Con l yX7_post cX7_post 4 (some .int) 2 0 0 ce_X7_post := rz_con (by decide +kernel) fo_X7 (by
  intro q hq
  rcases List.mem_cons.mp hq with rfl | hq
  · exact rz_callS (cn_X7_isIn l) (by decide +kernel) ⟨Nat.le_of_ble_eq_true rfl, Nat.le_of_ble_eq_true rfl⟩ m_X7_isIn t_X7_isIn n_X7_87
  rcases List.mem_cons.mp hq with rfl | hq
  · exact rz_callS (cn_X7_isPlace l) (by decide +kernel) ⟨Nat.le_of_ble_eq_true rfl, Nat.le_of_ble_eq_true rfl⟩ m_X7_isPlace t_X7_isPlace n_X7_94
  exact absurd hq List.not_mem_nil) (fun _ h => absurd h List.not_mem_nil) r_X7_post vc_X7_post
def ce_X7_reach : rz_K := (3, kMk, 0, false, fun av w => ∃ (px py ph rx ry vi : Nat → Int32) (th po nw si pl tr bo pn ca sp co x y : Int32) (n : Nat), av = [.ref 50, .int x, .int y] ∧ w = wMk (oMo th po (nI n) nw si pl tr bo pn ca sp co) px py ph rx ry vi ∧ n ≤ 8, fun av w o w' => ∀ n : Nat, rF w 50 8 = nI n → n ≤ 8 → if okP (rA av 1) (rA av 2) ∧ n < 8 then rR o = nI n ∧ w' = rz_set (rz_set (mset (mset w 0 0) 8 (nI (n + 1))) 54 (ri 8 (upd (rI w 54) n (rA av 1)))) 55 (ri 8 (upd (rI w 55) n (rA av 2))) else rR o = -1 ∧ w' = mset w 0 0)
def cl_X7_reach : List (Nat × rz_K) := [(94, ce_X7_isPlace)]
def cv_X7_reach : List (Nat × rz_K) := []
theorem vc_X7_reach : rz_VC k_X7_reach fl_X7 cl_X7_reach cv_X7_reach s_X7_reach false 3 ce_X7_reach := by
  intro av w hlen hk hpre
  obtain ⟨px, py, ph, rx, ry, vi, th, po, nw, si, pl, tr, bo, pn, ca, sp, co, x, y, n, rfl, rfl, hn⟩ := hpre
  refine ⟨Nat.le_of_ble_eq_true rfl, [], 90, 0, fun q h => absurd h List.not_mem_nil, ?_⟩
  have no : ¬ (okP x y ∧ n < 8) → rz_end ce_X7_reach [.ref 50, .int x, .int y] (wMk (oMo th po (nI n) nw si pl tr bo pn ca sp co) px py ph rx ry vi) (some (.int (-1))) (wMk (oMo 0 po (nI n) nw si pl tr bo pn ca sp co) px py ph rx ry vi) := by
    intro z1
    refine ⟨⟨_, rfl⟩, fun z => (by cases z), ?_⟩
    intro n' e hn'
    have e : n = n' := nI_inj (by omega) (by omega) e
    subst e
    exact if_no z1 ⟨rfl, rfl⟩
  conv => whnf
  refine ⟨fun h => ?_, fun h => ?_⟩
  · have h : nI n = nI 8 := h
    have h := nI_inj (by omega) (by omega) h
    exact no (fun z => by omega)
  · have h : ¬ nI n = nI 8 := h
    have hn2 : n < 8 := by
      rcases Nat.lt_or_ge n 8 with q | q
      · exact q
      · exact absurd (congrArg nI (show n = 8 by omega)) h
    have hv : vp_in (nI n) 8 := vp_in_nI hn2 (by omega)
    conv => whnf
    refine ⟨⟨_, _, rfl, rfl, trivial⟩, ?_⟩
    intro r hr
    obtain rfl : r = bI (okP x y) := hr
    conv => whnf
    refine ⟨fun h1 => ?_, fun h1 => ?_⟩
    · exact no (fun z => bI_0 h1 z.1)
    · conv => whnf
      refine ⟨hv, ?_⟩
      conv => whnf
      refine ⟨hv, ?_⟩
      conv => whnf
      refine ⟨⟨_, rfl⟩, fun z => (by cases z), ?_⟩
      intro n' e hn'
      have e : n = n' := nI_inj (by omega) (by omega) e
      subst e
      refine if_yes ⟨bI_n h1, hn2⟩ ⟨?_, ?_⟩
      · show nI n + 1 - 1 = nI n
        exact i32_asc _
      · show wMk (oMo 0 po (nI n + 1) nw si pl tr bo pn ca sp co) px py ph (upd rx (nI n).toNatClampNeg x) (upd ry (nI n).toNatClampNeg y) vi = _
        rw [nI_1, nI_clamp (by omega)]
        rfl
theorem rv_X7_reach : rz_Rv yX7_reach.cls ce_X7_reach := fun av w h => by
  obtain ⟨_, _, _, _, _, _, _, _, _, _, _, _, _, _, _, _, _, _, _, _, rfl, rfl, _⟩ := h
  exact ⟨_, _, _, _, _, _, rfl, rfl, rfl⟩
theorem cn_X7_reach (l : Launch) : rz_Con l yX7_reach cX7_reach 3 (some .int) 2 0 0 ce_X7_reach := rz_con (by decide +kernel) fo_X7 (by
  intro q hq
  rcases List.mem_cons.mp hq with rfl | hq
  · exact rz_callS (cn_X7_isPlace l) (by decide +kernel) ⟨Nat.le_of_ble_eq_true rfl, Nat.le_of_ble_eq_true rfl⟩ m_X7_isPlace t_X7_isPlace n_X7_94
  exact absurd hq List.not_mem_nil) (fun _ h => absurd h List.not_mem_nil) r_X7_reach vc_X7_reach
def ce_X7_weather : rz_K := (3, kMk, 0, false, fun av w => ∃ (px py ph rx ry vi : Nat → Int32) (th po re nw si pl tr bo pn ca sp co h v : Int32), av = [.ref 50, .int h, .int v] ∧ w = wMk (oMo th po re nw si pl tr bo pn ca sp co) px py ph rx ry vi ∧ True, fun av w o w' => if okO (rA av 1) ∧ okV (rA av 2) then rR o = 1 ∧ w' = rz_set (mset w 0 0) 56 (ri 334 (upd (rI w 56) (rA av 1).toNatClampNeg (rA av 2))) else rR o = 0 ∧ w' = mset w 0 0)
def cl_X7_weather : List (Nat × rz_K) := [(87, ce_X7_isIn)]
def cv_X7_weather : List (Nat × rz_K) := []
theorem vc_X7_weather : rz_VC k_X7_weather fl_X7 cl_X7_weather cv_X7_weather s_X7_weather true 3 ce_X7_weather := by
  intro av w hlen hk hpre
  obtain ⟨px, py, ph, rx, ry, vi, th, po, re, nw, si, pl, tr, bo, pn, ca, sp, co, h, v, rfl, rfl, -⟩ := hpre
  refine ⟨Nat.le_of_ble_eq_true rfl, [], 60, 0, fun q h => absurd h List.not_mem_nil, ?_⟩
  conv => whnf
  refine ⟨⟨_, _, _, rfl, rfl, trivial⟩, ?_⟩
  intro r hr
  obtain rfl : r = bI (okO h) := hr
  conv => whnf
  refine ⟨fun h1 => ?_, fun h1 => ?_⟩
  · exact ⟨Or.inl rfl, ⟨_, rfl⟩, fun z => (by cases z), if_no (fun z => bI_0 h1 z.1) ⟨rfl, rfl⟩⟩
  · conv => whnf
    refine ⟨⟨_, _, _, rfl, rfl, trivial⟩, ?_⟩
    intro r hr
    obtain rfl : r = bI (okV v) := hr
    conv => whnf
    refine ⟨fun h2 => ?_, fun h2 => ?_⟩
    · exact ⟨Or.inl rfl, ⟨_, rfl⟩, fun z => (by cases z), if_no (fun z => bI_0 h2 z.2) ⟨rfl, rfl⟩⟩
    · conv => whnf
      refine ⟨vp_of2 (bI_n h1).1 (bI_n h1).2 rfl, ?_⟩
      conv => whnf
      exact ⟨Or.inr rfl, ⟨_, rfl⟩, fun z => (by cases z), if_yes ⟨bI_n h1, bI_n h2⟩ ⟨rfl, rfl⟩⟩
theorem rv_X7_weather : rz_Rv yX7_weather.cls ce_X7_weather := fun av w h => by
  obtain ⟨_, _, _, _, _, _, _, _, _, _, _, _, _, _, _, _, _, _, _, _, rfl, rfl, _⟩ := h
  exact ⟨_, _, _, _, _, _, rfl, rfl, rfl⟩
theorem cn_X7_weather (l : Launch) : rz_Con l yX7_weather cX7_weather 3 (some .boolean) 1 0 0 ce_X7_weather := rz_con (by decide +kernel) fo_X7 (by
  intro q hq
  rcases List.mem_cons.mp hq with rfl | hq
  · exact rz_callS (cn_X7_isIn l) (by decide +kernel) ⟨Nat.le_of_ble_eq_true rfl, Nat.le_of_ble_eq_true rfl⟩ m_X7_isIn t_X7_isIn n_X7_87
  exact absurd hq List.not_mem_nil) (fun _ h => absurd h List.not_mem_nil) r_X7_weather vc_X7_weather
def ce_X7_sees : rz_K := (5, kMk, 0, false, fun av w => ∃ (px py ph rx ry vi : Nat → Int32) (th re nw si pl tr bo pn ca sp co p x y h : Int32) (n : Nat), av = [.ref 50, .int p, .int x, .int y, .int h] ∧ w = wMk (oMo th (nI n) re nw si pl tr bo pn ca sp co) px py ph rx ry vi ∧ n ≤ 6, fun av w o w' => (∀ n : Nat, rF w 50 7 = nI n → n ≤ 6 → rR o = if okS (rA av 1) n ∧ okP (rA av 2) (rA av 3) ∧ okO (rA av 4) then bI (sn (rI w 51) (rI w 52) (rI w 53) (rI w 56) (rA av 1).toNatClampNeg (rA av 2) (rA av 3) (rA av 4).toNatClampNeg) else -1) ∧ w' = mset w 0 0)
def cl_X7_sees : List (Nat × rz_K) := [(87, ce_X7_isIn), (94, ce_X7_isPlace)]
def cv_X7_sees : List (Nat × rz_K) := [(101, ce_X7_seesAt)]
theorem vc_X7_sees : rz_VC k_X7_sees fl_X7 cl_X7_sees cv_X7_sees s_X7_sees false 5 ce_X7_sees := by
  intro av w hlen hk hpre
  obtain ⟨px, py, ph, rx, ry, vi, th, re, nw, si, pl, tr, bo, pn, ca, sp, co, p, x, y, h, n, rfl, rfl, hn⟩ := hpre
  refine ⟨Nat.le_of_ble_eq_true rfl, [], 90, 0, fun q h => absurd h List.not_mem_nil, ?_⟩
  have fin : ∀ v : Int32, (v = if okS p n ∧ okP x y ∧ okO h then bI (sn px py ph vi p.toNatClampNeg x y h.toNatClampNeg) else -1) → rz_end ce_X7_sees [.ref 50, .int p, .int x, .int y, .int h] (wMk (oMo th (nI n) re nw si pl tr bo pn ca sp co) px py ph rx ry vi) (some (.int v)) (wMk (oMo 0 (nI n) re nw si pl tr bo pn ca sp co) px py ph rx ry vi) := by
    intro v hv
    refine ⟨⟨_, rfl⟩, fun z => (by cases z), ?_, rfl⟩
    intro n' e hn'
    have e : n = n' := nI_inj (by omega) (by omega) e
    subst e
    exact hv
  conv => whnf
  refine ⟨⟨_, _, _, rfl, rfl, trivial⟩, ?_⟩
  intro r hr
  obtain rfl : r = bI (okS p n) := hr
  conv => whnf
  refine ⟨fun h1 => ?_, fun h1 => ?_⟩
  · exact fin _ (if_neg (fun z => bI_0 h1 z.1)).symm
  · conv => whnf
    refine ⟨⟨_, _, rfl, rfl, trivial⟩, ?_⟩
    intro r hr
    obtain rfl : r = bI (okP x y) := hr
    conv => whnf
    refine ⟨fun h2 => ?_, fun h2 => ?_⟩
    · exact fin _ (if_neg (fun z => bI_0 h2 z.2.1)).symm
    · conv => whnf
      refine ⟨⟨_, _, _, rfl, rfl, trivial⟩, ?_⟩
      intro r hr
      obtain rfl : r = bI (okO h) := hr
      conv => whnf
      refine ⟨fun h3 => ?_, fun h3 => ?_⟩
      · exact fin _ (if_neg (fun z => bI_0 h3 z.2.2)).symm
      · conv => whnf
        refine ⟨⟨px, py, ph, rx, ry, vi, 0, nI n, re, nw, si, pl, tr, bo, pn, ca, sp, co, p, x, y, h, rfl, rfl, okS_vp (bI_n h1) hn (by omega), vp_of2 (bI_n h3).1 (bI_n h3).2 rfl⟩, ?_⟩
        intro r hr
        obtain rfl : r = bI (sn px py ph vi p.toNatClampNeg x y h.toNatClampNeg) := hr
        have fin2 := fun v (hv : v = bI (sn px py ph vi p.toNatClampNeg x y h.toNatClampNeg)) => fin v (hv.trans (if_pos ⟨bI_n h1, bI_n h2, bI_n h3⟩).symm)
        conv => whnf
        refine ⟨fun h4 => ?_, fun h4 => ?_⟩
        · exact fin2 _ h4.symm
        · exact fin2 _ (bI_t (bI_n h4))
theorem rv_X7_sees : rz_Rv yX7_sees.cls ce_X7_sees := fun av w h => by
  obtain ⟨_, _, _, _, _, _, _, _, _, _, _, _, _, _, _, _, _, _, _, _, _, _, rfl, rfl, _⟩ := h
  exact ⟨_, _, _, _, _, _, rfl, rfl, rfl⟩
theorem cn_X7_sees (l : Launch) : rz_Con l yX7_sees cX7_sees 5 (some .int) 2 0 0 ce_X7_sees := rz_con (by decide +kernel) fo_X7 (by
  intro q hq
  rcases List.mem_cons.mp hq with rfl | hq
  · exact rz_callS (cn_X7_isIn l) (by decide +kernel) ⟨Nat.le_of_ble_eq_true rfl, Nat.le_of_ble_eq_true rfl⟩ m_X7_isIn t_X7_isIn n_X7_87
  rcases List.mem_cons.mp hq with rfl | hq
  · exact rz_callS (cn_X7_isPlace l) (by decide +kernel) ⟨Nat.le_of_ble_eq_true rfl, Nat.le_of_ble_eq_true rfl⟩ m_X7_isPlace t_X7_isPlace n_X7_94
  exact absurd hq List.not_mem_nil) (by
  intro q hq
  rcases List.mem_cons.mp hq with rfl | hq
  · exact rz_callV (cn_X7_seesAt l) (by decide +kernel) ⟨Nat.le_of_ble_eq_true rfl, Nat.le_of_ble_eq_true rfl⟩ m_X7_seesAt rfl i_X7_seesAt v_X7_seesAt rv_X7_seesAt n_X7_101
  exact absurd hq List.not_mem_nil) r_X7_sees vc_X7_sees
def ce_X7_open : rz_K := (2, kMk, 0, false, fun av w => ∃ (px py ph rx ry vi : Nat → Int32) (th nw si pl tr bo pn ca sp co h : Int32) (n m : Nat), av = [.ref 50, .int h] ∧ w = wMk (oMo th (nI n) (nI m) nw si pl tr bo pn ca sp co) px py ph rx ry vi ∧ n ≤ 6 ∧ m ≤ 8, fun av w o w' => (∀ n m : Nat, rF w 50 7 = nI n → n ≤ 6 → rF w 50 8 = nI m → m ≤ 8 → rR o = if okO (rA av 1) then ((1 : Int32) <<< (nI m &&& 31) - 1) &&& (orS (nI (2 ^ n - 1)) (sb (rI w 51) (rI w 52) (rI w 53) (rI w 56) (rI w 54) (rI w 55) m (rA av 1).toNatClampNeg) n ^^^ (-1)) else -1) ∧ w' = mset w 0 0)
def cl_X7_open : List (Nat × rz_K) := [(87, ce_X7_isIn)]
def cv_X7_open : List (Nat × rz_K) := [(105, ce_X7_seenBy)]
theorem vc_X7_open : rz_VC k_X7_open fl_X7 cl_X7_open cv_X7_open s_X7_open false 2 ce_X7_open := by
  intro av w hlen hk hpre
  obtain ⟨px, py, ph, rx, ry, vi, th, nw, si, pl, tr, bo, pn, ca, sp, co, h, n, m, rfl, rfl, hn, hm⟩ := hpre
  refine ⟨Nat.le_of_ble_eq_true rfl, [], 90, 0, fun q h => absurd h List.not_mem_nil, ?_⟩
  have fin : ∀ v : Int32, (v = if okO h then ((1 : Int32) <<< (nI m &&& 31) - 1) &&& (orS (nI (2 ^ n - 1)) (sb px py ph vi rx ry m h.toNatClampNeg) n ^^^ (-1)) else -1) → rz_end ce_X7_open [.ref 50, .int h] (wMk (oMo th (nI n) (nI m) nw si pl tr bo pn ca sp co) px py ph rx ry vi) (some (.int v)) (wMk (oMo 0 (nI n) (nI m) nw si pl tr bo pn ca sp co) px py ph rx ry vi) := by
    intro v hv
    refine ⟨⟨_, rfl⟩, fun z => (by cases z), ?_, rfl⟩
    intro n' m' e hn' e2 hm'
    have e : n = n' := nI_inj (by omega) (by omega) e
    have e2 : m = m' := nI_inj (by omega) (by omega) e2
    subst e e2
    exact hv
  conv => whnf
  refine ⟨⟨_, _, _, rfl, rfl, trivial⟩, ?_⟩
  intro r hr
  obtain rfl : r = bI (okO h) := hr
  conv => whnf
  refine ⟨fun h1 => ?_, fun h1 => ?_⟩
  · exact fin _ (if_neg (bI_0 h1)).symm
  · conv => whnf
    refine ⟨⟨px, py, ph, rx, ry, vi, 0, nw, si, pl, tr, bo, pn, ca, sp, co, _, h, n, m, rfl, rfl, vp_of2 (bI_n h1).1 (bI_n h1).2 rfl, hn, hm⟩, ?_⟩
    intro r hr
    replace hr := hr n m rfl hn rfl hm
    have hr : r = orS ((1 : Int32) <<< (nI n &&& 31) - 1) (sb px py ph vi rx ry m h.toNatClampNeg) n := hr
    rw [(rz_shl1 n (by omega)).2] at hr
    conv => whnf
    refine fin _ ?_
    rw [if_pos (bI_n h1), hr]
theorem rv_X7_open : rz_Rv yX7_open.cls ce_X7_open := fun av w h => by
  obtain ⟨_, _, _, _, _, _, _, _, _, _, _, _, _, _, _, _, _, _, _, rfl, rfl, _⟩ := h
  exact ⟨_, _, _, _, _, _, rfl, rfl, rfl⟩
theorem cn_X7_open (l : Launch) : rz_Con l yX7_open cX7_open 2 (some .int) 2 0 0 ce_X7_open := rz_con (by decide +kernel) fo_X7 (by
  intro q hq
  rcases List.mem_cons.mp hq with rfl | hq
  · exact rz_callS (cn_X7_isIn l) (by decide +kernel) ⟨Nat.le_of_ble_eq_true rfl, Nat.le_of_ble_eq_true rfl⟩ m_X7_isIn t_X7_isIn n_X7_87
  exact absurd hq List.not_mem_nil) (by
  intro q hq
  rcases List.mem_cons.mp hq with rfl | hq
  · exact rz_callV (cn_X7_seenBy l) (by decide +kernel) ⟨Nat.le_of_ble_eq_true rfl, Nat.le_of_ble_eq_true rfl⟩ m_X7_seenBy rfl i_X7_seenBy v_X7_seenBy rv_X7_seenBy n_X7_105
  exact absurd hq List.not_mem_nil) r_X7_open vc_X7_open
theorem bestD_s (ok : Nat → Bool) (b0 : Int32) (N k : Nat) : bestD ok b0 N (k + 1) = if ok (N - (k + 1)) = true ∧ bits (nI (N - (k + 1))) 10 ≤ bits (bestD ok b0 N k) 10 then nI (N - (k + 1)) else bestD ok b0 N k := rfl
def ce_X7_manned : rz_K := (2, kMk, 0, false, fun av w => ∃ (px py ph rx ry vi : Nat → Int32) (th nw si pl tr bo pn ca sp co h : Int32) (n m : Nat), av = [.ref 50, .int h] ∧ w = wMk (oMo th (nI n) (nI m) nw si pl tr bo pn ca sp co) px py ph rx ry vi ∧ n ≤ 6 ∧ m ≤ 8, fun av w o w' => (∀ n m : Nat, rF w 50 7 = nI n → n ≤ 6 → rF w 50 8 = nI m → m ≤ 8 → rR o = if okO (rA av 1) then bestD (fun t => decide (orS (nI t) (sb (rI w 51) (rI w 52) (rI w 53) (rI w 56) (rI w 54) (rI w 55) m (rA av 1).toNatClampNeg) n = orS (nI (2 ^ n - 1)) (sb (rI w 51) (rI w 52) (rI w 53) (rI w 56) (rI w 54) (rI w 55) m (rA av 1).toNatClampNeg) n)) (nI (2 ^ n - 1)) (2 ^ n) (2 ^ n) else -1) ∧ w' = mset w 0 0)
def cl_X7_manned : List (Nat × rz_K) := [(87, ce_X7_isIn), (109, ce_X7_bits)]
def cv_X7_manned : List (Nat × rz_K) := [(105, ce_X7_seenBy)]
theorem vc_X7_manned : rz_VC k_X7_manned fl_X7 cl_X7_manned cv_X7_manned s_X7_manned false 5 ce_X7_manned := by
  intro av w hlen hk hpre
  obtain ⟨px, py, ph, rx, ry, vi, th, nw, si, pl, tr, bo, pn, ca, sp, co, h, n, m, rfl, rfl, hn, hm⟩ := hpre
  generalize hf : sb px py ph vi rx ry m h.toNatClampNeg = f
  have hpow : 2 ^ n ≤ 64 := Nat.le_trans (Nat.pow_le_pow_right (by omega) hn) (by decide)
  have hpos : 0 < 2 ^ n := Nat.pow_pos (by omega)
  obtain ⟨hs1, hs2⟩ := rz_shl1 n (by omega)
  generalize hB : bestD (fun t => decide (orS (nI t) f n = orS (nI (2 ^ n - 1)) f n)) (nI (2 ^ n - 1)) (2 ^ n) = B
  have fin : ∀ v : Int32, (v = if okO h then B (2 ^ n) else -1) → rz_end ce_X7_manned [.ref 50, .int h] (wMk (oMo th (nI n) (nI m) nw si pl tr bo pn ca sp co) px py ph rx ry vi) (some (.int v)) (wMk (oMo 0 (nI n) (nI m) nw si pl tr bo pn ca sp co) px py ph rx ry vi) := by
    intro v hv
    refine ⟨⟨_, rfl⟩, fun z => (by cases z), ?_, rfl⟩
    intro n' m' e hn' e2 hm'
    have e : n = n' := nI_inj (by omega) (by omega) e
    have e2 : m = m' := nI_inj (by omega) (by omega) e2
    subst e e2
    rw [hv, ← hB, ← hf]
    rfl
  have look : ∀ (t : Nat) (r : Int32), ce_X7_seenBy.2.2.2.2.2 [.ref 50, .int (nI t), .int h] (wMk (oMo 0 (nI n) (nI m) nw si pl tr bo pn ca sp co) px py ph rx ry vi) (some (.int r)) (wMk (oMo 0 (nI n) (nI m) nw si pl tr bo pn ca sp co) px py ph rx ry vi) → r = orS (nI t) f n := by
    intro t r hr
    replace hr := hr n m rfl hn rfl hm
    rw [← hf]
    exact hr
  refine ⟨Nat.le_of_ble_eq_true rfl, [(51, [0, 1, 2, 3, 4], fun k lv w' => okO h ∧ ∃ j : Nat, j ≤ 2 ^ n ∧ lv = [(0, .ref 50), (1, .int h), (2, .int (orS (nI (2 ^ n - 1)) f n)), (3, .int (B j)), (4, .int (nI (2 ^ n - j) - 1))] ∧ w' = wMk (oMo 0 (nI n) (nI m) nw si pl tr bo pn ca sp co) px py ph rx ry vi ∧ k = 2 ^ n - j)], 90, 2 ^ n + 1, ?_, ?_⟩
  · intro q hq k lv w' hj
    rcases List.mem_cons.mp hq with rfl | hq
    · obtain ⟨hO, j, hj, rfl, rfl, rfl⟩ := hj
      have hvh : vp_in h 334 := vp_of2 hO.1 hO.2 rfl
      conv => whnf
      refine ⟨fun c => ?_, fun c => ?_⟩
      · have e : j = 2 ^ n := by
          rcases Nat.lt_or_ge j (2 ^ n) with z | z
          · obtain ⟨d, hd⟩ : ∃ d, 2 ^ n - j = d + 1 := ⟨2 ^ n - j - 1, by omega⟩
            have c : nI (2 ^ n - j) - 1 < 0 := c
            rw [hd, nI_pred] at c
            exact absurd c (nI_pos (by omega))
          · omega
        subst e
        exact fin _ (if_pos hO).symm
      · have hj2 : j < 2 ^ n := by
          rcases Nat.lt_or_ge j (2 ^ n) with z | z
          · exact z
          · have e : j = 2 ^ n := by omega
            subst e
            rw [Nat.sub_self] at c
            exact absurd (by decide) c
        obtain ⟨d, hd⟩ : ∃ d, 2 ^ n - j = d + 1 := ⟨2 ^ n - j - 1, by omega⟩
        have ed : nI (2 ^ n - j) - 1 = nI d := by rw [hd, nI_pred]
        have ed2 : 2 ^ n - (j + 1) = d := by omega
        rw [ed] at *
        have stay : ¬ (decide (orS (nI d) f n = orS (nI (2 ^ n - 1)) f n) = true ∧ bits (nI d) 10 ≤ bits (B j) 10) → B (j + 1) = B j := fun z => by
          rw [← hB] at z ⊢
          rw [bestD_s, ed2]
          exact if_neg z
        have take : (decide (orS (nI d) f n = orS (nI (2 ^ n - 1)) f n) = true ∧ bits (nI d) 10 ≤ bits (B j) 10) → B (j + 1) = nI d := fun z => by
          rw [← hB] at z ⊢
          rw [bestD_s, ed2]
          exact if_pos z
        have em : nI d + (-1) = nI (2 ^ n - (j + 1)) - 1 := by
          rw [ed2, Int32.sub_eq_add_neg]
        conv => whnf
        refine ⟨⟨px, py, ph, rx, ry, vi, 0, nw, si, pl, tr, bo, pn, ca, sp, co, nI d, h, n, m, rfl, rfl, hvh, hn, hm⟩, ?_⟩
        intro r hr
        obtain rfl := look d r hr
        conv => whnf
        refine ⟨fun c2 => ?_, fun c2 => ?_⟩
        · conv => whnf
          refine ⟨⟨_, rfl, rfl, trivial⟩, ?_⟩
          intro r1 hr1
          obtain rfl : r1 = bits (nI d) 10 := hr1
          conv => whnf
          refine ⟨⟨_, rfl, rfl, trivial⟩, ?_⟩
          intro r2 hr2
          obtain rfl : r2 = bits (B j) 10 := hr2
          conv => whnf
          refine ⟨fun c3 => ?_, fun c3 => ?_⟩
          · conv => whnf
            rintro _ rfl
            conv => whnf
            refine ⟨2 ^ n - (j + 1), by omega, hO, j + 1, by omega, ?_, rfl, rfl⟩
            show [_, _, _, (3, Value.int (B j)), (4, Value.int (nI d + (-1)))] = [_, _, _, (3, Value.int (B (j + 1))), (4, Value.int (nI (2 ^ n - (j + 1)) - 1))]
            rw [em, stay (fun z => absurd z.2 ((i32_not_le _ _).mpr c3))]
          · conv => whnf
            rintro _ rfl
            conv => whnf
            rintro _ rfl
            conv => whnf
            refine ⟨2 ^ n - (j + 1), by omega, hO, j + 1, by omega, ?_, rfl, rfl⟩
            show [_, _, _, (3, Value.int (nI d)), (4, Value.int (nI d + (-1)))] = [_, _, _, (3, Value.int (B (j + 1))), (4, Value.int (nI (2 ^ n - (j + 1)) - 1))]
            rw [em, take ⟨by simpa using c2, (i32_not_lt _ _).mp c3⟩]
        · conv => whnf
          rintro _ rfl
          conv => whnf
          refine ⟨2 ^ n - (j + 1), by omega, hO, j + 1, by omega, ?_, rfl, rfl⟩
          show [_, _, _, (3, Value.int (B j)), (4, Value.int (nI d + (-1)))] = [_, _, _, (3, Value.int (B (j + 1))), (4, Value.int (nI (2 ^ n - (j + 1)) - 1))]
          rw [em, stay (fun z => c2 (by simpa using z.1))]
    · exact absurd hq List.not_mem_nil
  · conv => whnf
    refine ⟨⟨_, _, _, rfl, rfl, trivial⟩, ?_⟩
    intro r hr
    obtain rfl : r = bI (okO h) := hr
    conv => whnf
    refine ⟨fun h1 => ?_, fun h1 => ?_⟩
    · exact fin _ (if_neg (bI_0 h1)).symm
    · conv => whnf
      refine ⟨⟨px, py, ph, rx, ry, vi, 0, nw, si, pl, tr, bo, pn, ca, sp, co, _, h, n, m, rfl, rfl, vp_of2 (bI_n h1).1 (bI_n h1).2 rfl, hn, hm⟩, ?_⟩
      intro r hr
      replace hr := hr n m rfl hn rfl hm
      have hr : r = orS ((1 : Int32) <<< (nI n &&& 31) - 1) (sb px py ph vi rx ry m h.toNatClampNeg) n := hr
      rw [hs2, hf] at hr
      subst hr
      conv => whnf
      rintro _ rfl
      conv => whnf
      rintro _ rfl
      conv => whnf
      rintro _ rfl
      conv => whnf
      refine ⟨2 ^ n, by omega, bI_n h1, 0, Nat.zero_le _, ?_, rfl, rfl⟩
      show [_, _, (2, _), (3, Value.int ((1 : Int32) <<< (nI n &&& 31) - 1)), (4, Value.int ((1 : Int32) <<< (nI n &&& 31) - 1))] = [_, _, (2, _), (3, Value.int (B 0)), (4, Value.int (nI (2 ^ n) - 1))]
      rw [hs2, ← hB, ← hs1, hs2]
      rfl
theorem rv_X7_manned : rz_Rv yX7_manned.cls ce_X7_manned := fun av w h => by
  obtain ⟨_, _, _, _, _, _, _, _, _, _, _, _, _, _, _, _, _, _, _, rfl, rfl, _⟩ := h
  exact ⟨_, _, _, _, _, _, rfl, rfl, rfl⟩
theorem cn_X7_manned (l : Launch) : rz_Con l yX7_manned cX7_manned 5 (some .int) 2 0 0 ce_X7_manned := rz_con (by decide +kernel) fo_X7 (by
  intro q hq
  rcases List.mem_cons.mp hq with rfl | hq
  · exact rz_callS (cn_X7_isIn l) (by decide +kernel) ⟨Nat.le_of_ble_eq_true rfl, Nat.le_of_ble_eq_true rfl⟩ m_X7_isIn t_X7_isIn n_X7_87
  rcases List.mem_cons.mp hq with rfl | hq
  · exact rz_callS (cn_X7_bits l) (by decide +kernel) ⟨Nat.le_of_ble_eq_true rfl, Nat.le_of_ble_eq_true rfl⟩ m_X7_bits t_X7_bits n_X7_109
  exact absurd hq List.not_mem_nil) (by
  intro q hq
  rcases List.mem_cons.mp hq with rfl | hq
  · exact rz_callV (cn_X7_seenBy l) (by decide +kernel) ⟨Nat.le_of_ble_eq_true rfl, Nat.le_of_ble_eq_true rfl⟩ m_X7_seenBy rfl i_X7_seenBy v_X7_seenBy rv_X7_seenBy n_X7_105
  exact absurd hq List.not_mem_nil) r_X7_manned vc_X7_manned
