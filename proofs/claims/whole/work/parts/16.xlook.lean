/-! CoastWatch: post, reach, weather, sees, manned, open. -/
abbrev okP (x y : Int32) : Prop := 0 ≤ x ∧ x ≤ 2000 ∧ 0 ≤ y ∧ y ≤ 2000
abbrev okH (z : Int32) : Prop := 1 ≤ z ∧ z ≤ 500
abbrev okO (h : Int32) : Prop := 0 ≤ h ∧ h ≤ 333
abbrev okV (v : Int32) : Prop := 0 ≤ v ∧ v ≤ 2000
def ce_X6_post : rz_K := (4, 0 :: kLk, 0, false, fun av w => ∃ (px py ph rx ry vi sp : Nat → Int32) (nw re x y z : Int32) (n : Nat), av = [.ref 0, .int x, .int y, .int z] ∧ w = (0, oCW nw) :: wLk px py ph rx ry vi sp (nI n) re ∧ n ≤ 6, fun av w o w' => ∀ n : Nat, rF w 1 7 = nI n → n ≤ 6 → if okP (rA av 1) (rA av 2) ∧ okH (rA av 3) ∧ n < 6 then rR o = nI n ∧ w' = (0, oCW (rF w 0 6)) :: wLk (upd (rI w 2) n (rA av 1)) (upd (rI w 3) n (rA av 2)) (upd (rI w 4) n (rA av 3)) (rI w 5) (rI w 6) (rI w 7) (rI w 8) (nI (n + 1)) (rF w 1 8) else rR o = -1 ∧ w' = w)
def cl_X6_post : List (Nat × rz_K) := [(55, ce_X6_isPlace), (59, ce_X6_isWithin)]
def cv_X6_post : List (Nat × rz_K) := [(63, ce_X2_addPost)]
theorem vc_X6_post : rz_VC k_X6_post fl_X6 cl_X6_post cv_X6_post s_X6_post false 4 ce_X6_post := by
  intro av w hlen hk hpre
  obtain ⟨px, py, ph, rx, ry, vi, sp, nw, re, x, y, z, n, rfl, rfl, hn⟩ := hpre
  refine ⟨Nat.le_of_ble_eq_true rfl, [], 60, 0, fun q h => absurd h List.not_mem_nil, ?_⟩
  conv => whnf
  refine ⟨⟨_, _, rfl, rfl, trivial⟩, ?_⟩
  intro r hr
  obtain rfl : r = bI (okP x y) := hr
  conv => whnf
  refine ⟨fun h => ?_, fun h => ?_⟩
  · refine ⟨⟨_, rfl⟩, fun z => (by cases z), ?_⟩
    intro n' e hn'
    rw [if_neg (fun z => bI_0 h z.1)]
    exact ⟨rfl, rfl⟩
  · conv => whnf
    refine ⟨⟨_, _, _, rfl, rfl, trivial⟩, ?_⟩
    intro r hr
    obtain rfl : r = bI (okH z) := hr
    conv => whnf
    refine ⟨fun h2 => ?_, fun h2 => ?_⟩
    · refine ⟨⟨_, rfl⟩, fun z => (by cases z), ?_⟩
      intro n' e hn'
      rw [if_neg (fun z => bI_0 h2 z.2.1)]
      exact ⟨rfl, rfl⟩
    · conv => whnf
      refine ⟨⟨px, py, ph, rx, ry, vi, sp, re, x, y, z, n, rfl, rfl, hn⟩, ?_⟩
      intro r w' hr
      replace hr := hr n rfl hn
      conv => whnf
      by_cases hn2 : n < 6
      · rw [if_pos hn2] at hr
        obtain ⟨hr, rfl⟩ := hr
        refine ⟨⟨_, rfl⟩, fun z => (by cases z), ?_⟩
        intro n' e hn'
        have e : n = n' := nI_inj (by omega) (by omega) e
        subst e
        rw [if_pos ⟨bI_n h, bI_n h2, hn2⟩]
        exact ⟨hr, rfl⟩
      · rw [if_neg hn2] at hr
        obtain ⟨hr, rfl⟩ := hr
        refine ⟨⟨_, rfl⟩, fun z => (by cases z), ?_⟩
        intro n' e hn'
        have e : n = n' := nI_inj (by omega) (by omega) e
        subst e
        rw [if_neg (fun z => hn2 z.2.2)]
        exact ⟨hr, rfl⟩
theorem rv_X6_post : rz_Rv yX6_post.cls ce_X6_post := fun av w h => by
  obtain ⟨_, _, _, _, _, _, _, _, _, _, _, _, _, rfl, rfl, _⟩ := h
  exact ⟨_, _, _, _, _, _, rfl, rfl, rfl⟩
theorem cn_X6_post (l : Launch) : rz_Con l yX6_post cX6_post 4 (some .int) 2 0 0 ce_X6_post := rz_con (by decide +kernel) fo_X6 (by
  intro q hq
  rcases List.mem_cons.mp hq with rfl | hq
  · exact rz_callS (cn_X6_isPlace l) (by decide +kernel) ⟨Nat.le_of_ble_eq_true rfl, Nat.le_of_ble_eq_true rfl⟩ m_X6_isPlace t_X6_isPlace n_X6_55
  rcases List.mem_cons.mp hq with rfl | hq
  · exact rz_callS (cn_X6_isWithin l) (by decide +kernel) ⟨Nat.le_of_ble_eq_true rfl, Nat.le_of_ble_eq_true rfl⟩ m_X6_isWithin t_X6_isWithin n_X6_59
  exact absurd hq List.not_mem_nil) (by
  intro q hq
  rcases List.mem_cons.mp hq with rfl | hq
  · exact rz_callVN (cn_X2_addPost l) (by decide +kernel) ⟨Nat.le_of_ble_eq_true rfl, Nat.le_of_ble_eq_true rfl⟩ m_X2_addPost rfl i_X2_addPost v_X2_addPost rv_X2_addPost n_X6_63
  exact absurd hq List.not_mem_nil) r_X6_post vc_X6_post
def ce_X6_reach : rz_K := (3, 0 :: kLk, 0, false, fun av w => ∃ (px py ph rx ry vi sp : Nat → Int32) (nw po x y : Int32) (n : Nat), av = [.ref 0, .int x, .int y] ∧ w = (0, oCW nw) :: wLk px py ph rx ry vi sp po (nI n) ∧ n ≤ 8, fun av w o w' => ∀ n : Nat, rF w 1 8 = nI n → n ≤ 8 → if okP (rA av 1) (rA av 2) ∧ n < 8 then rR o = nI n ∧ w' = (0, oCW (rF w 0 6)) :: wLk (rI w 2) (rI w 3) (rI w 4) (upd (rI w 5) n (rA av 1)) (upd (rI w 6) n (rA av 2)) (rI w 7) (rI w 8) (rF w 1 7) (nI (n + 1)) else rR o = -1 ∧ w' = w)
def cl_X6_reach : List (Nat × rz_K) := [(55, ce_X6_isPlace)]
def cv_X6_reach : List (Nat × rz_K) := [(67, ce_X2_addReach)]
theorem vc_X6_reach : rz_VC k_X6_reach fl_X6 cl_X6_reach cv_X6_reach s_X6_reach false 3 ce_X6_reach := by
  intro av w hlen hk hpre
  obtain ⟨px, py, ph, rx, ry, vi, sp, nw, po, x, y, n, rfl, rfl, hn⟩ := hpre
  refine ⟨Nat.le_of_ble_eq_true rfl, [], 60, 0, fun q h => absurd h List.not_mem_nil, ?_⟩
  conv => whnf
  refine ⟨⟨_, _, rfl, rfl, trivial⟩, ?_⟩
  intro r hr
  obtain rfl : r = bI (okP x y) := hr
  conv => whnf
  refine ⟨fun h => ?_, fun h => ?_⟩
  · refine ⟨⟨_, rfl⟩, fun z => (by cases z), ?_⟩
    intro n' e hn'
    rw [if_neg (fun z => bI_0 h z.1)]
    exact ⟨rfl, rfl⟩
  · conv => whnf
    refine ⟨⟨px, py, ph, rx, ry, vi, sp, po, x, y, n, rfl, rfl, hn⟩, ?_⟩
    intro r w' hr
    replace hr := hr n rfl hn
    conv => whnf
    by_cases hn2 : n < 8
    · rw [if_pos hn2] at hr
      obtain ⟨hr, rfl⟩ := hr
      refine ⟨⟨_, rfl⟩, fun z => (by cases z), ?_⟩
      intro n' e hn'
      have e : n = n' := nI_inj (by omega) (by omega) e
      subst e
      rw [if_pos ⟨bI_n h, hn2⟩]
      exact ⟨hr, rfl⟩
    · rw [if_neg hn2] at hr
      obtain ⟨hr, rfl⟩ := hr
      refine ⟨⟨_, rfl⟩, fun z => (by cases z), ?_⟩
      intro n' e hn'
      have e : n = n' := nI_inj (by omega) (by omega) e
      subst e
      rw [if_neg (fun z => hn2 z.2)]
      exact ⟨hr, rfl⟩
theorem rv_X6_reach : rz_Rv yX6_reach.cls ce_X6_reach := fun av w h => by
  obtain ⟨_, _, _, _, _, _, _, _, _, _, _, _, rfl, rfl, _⟩ := h
  exact ⟨_, _, _, _, _, _, rfl, rfl, rfl⟩
theorem cn_X6_reach (l : Launch) : rz_Con l yX6_reach cX6_reach 3 (some .int) 2 0 0 ce_X6_reach := rz_con (by decide +kernel) fo_X6 (by
  intro q hq
  rcases List.mem_cons.mp hq with rfl | hq
  · exact rz_callS (cn_X6_isPlace l) (by decide +kernel) ⟨Nat.le_of_ble_eq_true rfl, Nat.le_of_ble_eq_true rfl⟩ m_X6_isPlace t_X6_isPlace n_X6_55
  exact absurd hq List.not_mem_nil) (by
  intro q hq
  rcases List.mem_cons.mp hq with rfl | hq
  · exact rz_callVN (cn_X2_addReach l) (by decide +kernel) ⟨Nat.le_of_ble_eq_true rfl, Nat.le_of_ble_eq_true rfl⟩ m_X2_addReach rfl i_X2_addReach v_X2_addReach rv_X2_addReach n_X6_67
  exact absurd hq List.not_mem_nil) r_X6_reach vc_X6_reach
def ce_X6_weather : rz_K := (3, 0 :: kLk, 0, false, fun av w => ∃ (px py ph rx ry vi sp : Nat → Int32) (nw po re h v : Int32), av = [.ref 0, .int h, .int v] ∧ w = (0, oCW nw) :: wLk px py ph rx ry vi sp po re ∧ True, fun av w o w' => if okO (rA av 1) ∧ okV (rA av 2) then rR o = 1 ∧ w' = (0, oCW (rF w 0 6)) :: wLk (rI w 2) (rI w 3) (rI w 4) (rI w 5) (rI w 6) (upd (rI w 7) (rA av 1).toNatClampNeg (rA av 2)) (rI w 8) (rF w 1 7) (rF w 1 8) else rR o = 0 ∧ w' = w)
def cl_X6_weather : List (Nat × rz_K) := [(59, ce_X6_isWithin), (71, ce_X6_isHour)]
def cv_X6_weather : List (Nat × rz_K) := []
theorem vc_X6_weather : rz_VC k_X6_weather fl_X6 cl_X6_weather cv_X6_weather s_X6_weather true 3 ce_X6_weather := by
  intro av w hlen hk hpre
  obtain ⟨px, py, ph, rx, ry, vi, sp, nw, po, re, h, v, rfl, rfl, -⟩ := hpre
  refine ⟨Nat.le_of_ble_eq_true rfl, [], 60, 0, fun q h => absurd h List.not_mem_nil, ?_⟩
  conv => whnf
  refine ⟨⟨_, rfl, rfl, trivial⟩, ?_⟩
  intro r hr
  obtain rfl : r = bI (okO h) := hr
  have stop : ¬ (okO h ∧ okV v) → (ce_X6_weather.2.2.2.2.2 [.ref 0, .int h, .int v] ((0, oCW nw) :: wLk px py ph rx ry vi sp po re) (some (.int 0)) ((0, oCW nw) :: wLk px py ph rx ry vi sp po re)) := fun z => by
    show if okO h ∧ okV v then _ else _
    rw [if_neg z]
    exact ⟨rfl, rfl⟩
  conv => whnf
  refine ⟨fun h1 => ?_, fun h1 => ?_⟩
  · exact ⟨Or.inl rfl, ⟨_, rfl⟩, fun z => (by cases z), stop (fun z => bI_0 h1 z.1)⟩
  · conv => whnf
    refine ⟨⟨_, _, _, rfl, rfl, trivial⟩, ?_⟩
    intro r hr
    obtain rfl : r = bI (okV v) := hr
    conv => whnf
    refine ⟨fun h2 => ?_, fun h2 => ?_⟩
    · exact ⟨Or.inl rfl, ⟨_, rfl⟩, fun z => (by cases z), stop (fun z => bI_0 h2 z.2)⟩
    · conv => whnf
      refine ⟨vp_of2 (bI_n h1).1 (bI_n h1).2 rfl, ?_⟩
      conv => whnf
      refine ⟨Or.inr rfl, ⟨_, rfl⟩, fun z => (by cases z), ?_⟩
      show if okO h ∧ okV v then _ else _
      rw [if_pos ⟨bI_n h1, bI_n h2⟩]
      exact ⟨rfl, rfl⟩
theorem rv_X6_weather : rz_Rv yX6_weather.cls ce_X6_weather := fun av w h => by
  obtain ⟨_, _, _, _, _, _, _, _, _, _, _, _, rfl, rfl, _⟩ := h
  exact ⟨_, _, _, _, _, _, rfl, rfl, rfl⟩
theorem cn_X6_weather (l : Launch) : rz_Con l yX6_weather cX6_weather 3 (some .boolean) 2 0 0 ce_X6_weather := rz_con (by decide +kernel) fo_X6 (by
  intro q hq
  rcases List.mem_cons.mp hq with rfl | hq
  · exact rz_callS (cn_X6_isWithin l) (by decide +kernel) ⟨Nat.le_of_ble_eq_true rfl, Nat.le_of_ble_eq_true rfl⟩ m_X6_isWithin t_X6_isWithin n_X6_59
  rcases List.mem_cons.mp hq with rfl | hq
  · exact rz_callS (cn_X6_isHour l) (by decide +kernel) ⟨Nat.le_of_ble_eq_true rfl, Nat.le_of_ble_eq_true rfl⟩ m_X6_isHour t_X6_isHour n_X6_71
  exact absurd hq List.not_mem_nil) (fun _ h => absurd h List.not_mem_nil) r_X6_weather vc_X6_weather
abbrev okS (p : Int32) (n : Nat) : Prop := 0 ≤ p ∧ p ≤ nI n - 1
theorem okS_vp {p : Int32} {n N : Nat} (h : okS p n) (hn : n ≤ N) (hN : N < 2 ^ 30) : vp_in p N := by
  obtain ⟨h1, h2⟩ := h
  rw [vp_in_iff]
  rw [Int32.le_iff_toInt_le] at h1 h2
  have e0 : (0 : Int32).toInt = 0 := rfl
  have e1 : (nI n - 1).toInt = (n : Int) - 1 := by
    have := pk_sub_toInt (a := n) (b := 1) (by omega) (by omega)
    exact this
  omega
def ce_X6_sees : rz_K := (5, 0 :: kLk, 0, true, fun av w => ∃ (px py ph rx ry vi sp : Nat → Int32) (nw re p x y h : Int32) (n : Nat), av = [.ref 0, .int p, .int x, .int y, .int h] ∧ w = (0, oCW nw) :: wLk px py ph rx ry vi sp (nI n) re ∧ n ≤ 6, fun av w o _ => ∀ n : Nat, rF w 1 7 = nI n → n ≤ 6 → rR o = if okS (rA av 1) n ∧ okP (rA av 2) (rA av 3) ∧ okO (rA av 4) then bI (sn (rI w 2) (rI w 3) (rI w 4) (rI w 7) (rA av 1).toNatClampNeg (rA av 2) (rA av 3) (rA av 4).toNatClampNeg) else -1)
def cl_X6_sees : List (Nat × rz_K) := [(55, ce_X6_isPlace), (71, ce_X6_isHour)]
def cv_X6_sees : List (Nat × rz_K) := [(79, ce_X2_hasPost), (82, ce_X2_isSeen)]
theorem vc_X6_sees : rz_VC k_X6_sees fl_X6 cl_X6_sees cv_X6_sees s_X6_sees false 5 ce_X6_sees := by
  intro av w hlen hk hpre
  obtain ⟨px, py, ph, rx, ry, vi, sp, nw, re, p, x, y, h, n, rfl, rfl, hn⟩ := hpre
  refine ⟨Nat.le_of_ble_eq_true rfl, [], 60, 0, fun q h => absurd h List.not_mem_nil, ?_⟩
  have fin : ∀ v : Int32, (v = if okS p n ∧ okP x y ∧ okO h then bI (sn px py ph vi p.toNatClampNeg x y h.toNatClampNeg) else -1) → rz_end ce_X6_sees [.ref 0, .int p, .int x, .int y, .int h] ((0, oCW nw) :: wLk px py ph rx ry vi sp (nI n) re) (some (.int v)) ((0, oCW nw) :: wLk px py ph rx ry vi sp (nI n) re) := by
    intro v hv
    refine ⟨⟨_, rfl⟩, fun _ => rfl, ?_⟩
    intro n' e hn'
    have e : n = n' := nI_inj (by omega) (by omega) e
    subst e
    exact hv
  conv => whnf
  refine ⟨⟨px, py, ph, rx, ry, vi, sp, nI n, re, p, rfl, rfl, trivial⟩, ?_⟩
  intro r hr
  obtain rfl : r = bI (okS p n) := hr
  conv => whnf
  refine ⟨fun h1 => ?_, fun h1 => ?_⟩
  · exact fin _ (if_neg (fun z => bI_0 h1 z.1)).symm
  · conv => whnf
    refine ⟨⟨_, _, rfl, rfl, trivial⟩, ?_⟩
    intro r hr
    obtain rfl : r = bI (okP x y) := hr
    conv => whnf
    refine ⟨fun h2 => ?_, fun h2 => ?_⟩
    · exact fin _ (if_neg (fun z => bI_0 h2 z.2.1)).symm
    · conv => whnf
      refine ⟨⟨_, rfl, rfl, trivial⟩, ?_⟩
      intro r hr
      obtain rfl : r = bI (okO h) := hr
      conv => whnf
      refine ⟨fun h3 => ?_, fun h3 => ?_⟩
      · exact fin _ (if_neg (fun z => bI_0 h3 z.2.2)).symm
      · conv => whnf
        refine ⟨⟨px, py, ph, rx, ry, vi, sp, nI n, re, p, x, y, h, rfl, rfl, okS_vp (bI_n h1) hn (by omega), vp_of2 (bI_n h3).1 (bI_n h3).2 rfl⟩, ?_⟩
        intro r hr
        obtain rfl : r = bI (sn px py ph vi p.toNatClampNeg x y h.toNatClampNeg) := hr
        have fin2 : ∀ v : Int32, v = bI (sn px py ph vi p.toNatClampNeg x y h.toNatClampNeg) → rz_end ce_X6_sees [.ref 0, .int p, .int x, .int y, .int h] ((0, oCW nw) :: wLk px py ph rx ry vi sp (nI n) re) (some (.int v)) ((0, oCW nw) :: wLk px py ph rx ry vi sp (nI n) re) := fun v hv => fin v (hv.trans (if_pos ⟨bI_n h1, bI_n h2, bI_n h3⟩).symm)
        conv => whnf
        refine ⟨fun h4 => ?_, fun h4 => ?_⟩
        · exact fin2 _ h4.symm
        · exact fin2 _ (bI_t (bI_n h4))
theorem rv_X6_sees : rz_Rv yX6_sees.cls ce_X6_sees := fun av w h => by
  obtain ⟨_, _, _, _, _, _, _, _, _, _, _, _, _, _, rfl, rfl, _⟩ := h
  exact ⟨_, _, _, _, _, _, rfl, rfl, rfl⟩
theorem cn_X6_sees (l : Launch) : rz_Con l yX6_sees cX6_sees 5 (some .int) 2 0 0 ce_X6_sees := rz_con (by decide +kernel) fo_X6 (by
  intro q hq
  rcases List.mem_cons.mp hq with rfl | hq
  · exact rz_callS (cn_X6_isPlace l) (by decide +kernel) ⟨Nat.le_of_ble_eq_true rfl, Nat.le_of_ble_eq_true rfl⟩ m_X6_isPlace t_X6_isPlace n_X6_55
  rcases List.mem_cons.mp hq with rfl | hq
  · exact rz_callS (cn_X6_isHour l) (by decide +kernel) ⟨Nat.le_of_ble_eq_true rfl, Nat.le_of_ble_eq_true rfl⟩ m_X6_isHour t_X6_isHour n_X6_71
  exact absurd hq List.not_mem_nil) (by
  intro q hq
  rcases List.mem_cons.mp hq with rfl | hq
  · exact rz_callVN (cn_X2_hasPost l) (by decide +kernel) ⟨Nat.le_of_ble_eq_true rfl, Nat.le_of_ble_eq_true rfl⟩ m_X2_hasPost rfl i_X2_hasPost v_X2_hasPost rv_X2_hasPost n_X6_79
  rcases List.mem_cons.mp hq with rfl | hq
  · exact rz_callVN (cn_X2_isSeen l) (by decide +kernel) ⟨Nat.le_of_ble_eq_true rfl, Nat.le_of_ble_eq_true rfl⟩ m_X2_isSeen rfl i_X2_isSeen v_X2_isSeen rv_X2_isSeen n_X6_82
  exact absurd hq List.not_mem_nil) r_X6_sees vc_X6_sees
def ce_X6_manned : rz_K := (2, 0 :: kLk, 0, false, fun av w => ∃ (px py ph rx ry vi sp : Nat → Int32) (nw h : Int32) (n m : Nat), av = [.ref 0, .int h] ∧ w = (0, oCW nw) :: wLk px py ph rx ry vi sp (nI n) (nI m) ∧ n ≤ 6 ∧ m ≤ 8, fun av w o w' => ∀ n m : Nat, rF w 1 7 = nI n → n ≤ 6 → rF w 1 8 = nI m → m ≤ 8 → if okO (rA av 1) then rR o = bestU (fun t => decide (orS (nI t) (fl (sb (rI w 2) (rI w 3) (rI w 4) (rI w 7) (rI w 5) (rI w 6) m (rA av 1).toNatClampNeg) (rI w 8) n) n = orP (sb (rI w 2) (rI w 3) (rI w 4) (rI w 7) (rI w 5) (rI w 6) m (rA av 1).toNatClampNeg) n)) (nI (2 ^ n - 1)) (2 ^ n) ∧ (∃ sp', w' = rz_set w 8 (ri 6 sp')) else rR o = -1 ∧ w' = w)
def cl_X6_manned : List (Nat × rz_K) := [(71, ce_X6_isHour)]
def cv_X6_manned : List (Nat × rz_K) := [(86, ce_X2_fewestPosts)]
theorem sbw_eq {px py ph rx ry vi sp : Nat → Int32} {n m : Nat} {h : Int32} (hm : m ≤ 8) : sbw (wLk px py ph rx ry vi sp (nI n) (nI m)) h = sb px py ph vi rx ry m h.toNatClampNeg := by
  funext p
  show sb px py ph vi rx ry (nI m).toNatClampNeg h.toNatClampNeg p = _
  rw [nI_clamp (by omega)]
theorem vc_X6_manned : rz_VC k_X6_manned fl_X6 cl_X6_manned cv_X6_manned s_X6_manned false 2 ce_X6_manned := by
  intro av w hlen hk hpre
  obtain ⟨px, py, ph, rx, ry, vi, sp, nw, h, n, m, rfl, rfl, hn, hm⟩ := hpre
  refine ⟨Nat.le_of_ble_eq_true rfl, [], 60, 0, fun q h => absurd h List.not_mem_nil, ?_⟩
  conv => whnf
  refine ⟨⟨_, rfl, rfl, trivial⟩, ?_⟩
  intro r hr
  obtain rfl : r = bI (okO h) := hr
  conv => whnf
  refine ⟨fun h1 => ?_, fun h1 => ?_⟩
  · refine ⟨⟨_, rfl⟩, fun z => (by cases z), ?_⟩
    intro n' m' e1 hn' e2 hm'
    exact if_no (bI_0 h1) ⟨rfl, rfl⟩
  · conv => whnf
    refine ⟨⟨px, py, ph, rx, ry, vi, sp, h, n, m, rfl, rfl, vp_of2 (bI_n h1).1 (bI_n h1).2 rfl, hn, hm⟩, ?_⟩
    intro r w' hr
    obtain ⟨hr, rfl⟩ := hr
    have hr : r = bestU (fun t => decide (orS (nI t) (fl (sbw (wLk px py ph rx ry vi sp (nI n) (nI m)) h) sp (nI n).toNatClampNeg) (nI n).toNatClampNeg = orP (sbw (wLk px py ph rx ry vi sp (nI n) (nI m)) h) (nI n).toNatClampNeg)) (nI (2 ^ (nI n).toNatClampNeg - 1)) (2 ^ (nI n).toNatClampNeg) := hr
    rw [nI_clamp (by omega), sbw_eq hm] at hr
    conv => whnf
    refine ⟨⟨_, rfl⟩, fun z => (by cases z), ?_⟩
    intro n' m' e1 hn' e2 hm'
    have e1 : n = n' := nI_inj (by omega) (by omega) e1
    have e2 : m = m' := nI_inj (by omega) (by omega) e2
    subst e1 e2
    exact if_yes (bI_n h1) ⟨hr, _, rfl⟩
theorem rv_X6_manned : rz_Rv yX6_manned.cls ce_X6_manned := fun av w h => by
  obtain ⟨_, _, _, _, _, _, _, _, _, _, _, rfl, rfl, _⟩ := h
  exact ⟨_, _, _, _, _, _, rfl, rfl, rfl⟩
theorem cn_X6_manned (l : Launch) : rz_Con l yX6_manned cX6_manned 2 (some .int) 4 0 0 ce_X6_manned := rz_con (by decide +kernel) fo_X6 (by
  intro q hq
  rcases List.mem_cons.mp hq with rfl | hq
  · exact rz_callS (cn_X6_isHour l) (by decide +kernel) ⟨Nat.le_of_ble_eq_true rfl, Nat.le_of_ble_eq_true rfl⟩ m_X6_isHour t_X6_isHour n_X6_71
  exact absurd hq List.not_mem_nil) (by
  intro q hq
  rcases List.mem_cons.mp hq with rfl | hq
  · exact rz_callVN (cn_X2_fewestPosts l) (by decide +kernel) ⟨Nat.le_of_ble_eq_true rfl, Nat.le_of_ble_eq_true rfl⟩ m_X2_fewestPosts rfl i_X2_fewestPosts v_X2_fewestPosts rv_X2_fewestPosts n_X6_86
  exact absurd hq List.not_mem_nil) r_X6_manned vc_X6_manned
def ce_X6_open : rz_K := (2, 0 :: kLk, 0, false, fun av w => ∃ (px py ph rx ry vi sp : Nat → Int32) (nw h : Int32) (n m : Nat), av = [.ref 0, .int h] ∧ w = (0, oCW nw) :: wLk px py ph rx ry vi sp (nI n) (nI m) ∧ n ≤ 6 ∧ m ≤ 8, fun av w o w' => ∀ n m : Nat, rF w 1 7 = nI n → n ≤ 6 → rF w 1 8 = nI m → m ≤ 8 → if okO (rA av 1) then rR o = ((1 : Int32) <<< (nI m &&& 31) - 1) &&& (orP (sb (rI w 2) (rI w 3) (rI w 4) (rI w 7) (rI w 5) (rI w 6) m (rA av 1).toNatClampNeg) n ^^^ (-1)) ∧ (∃ sp', w' = rz_set w 8 (ri 6 sp')) else rR o = -1 ∧ w' = w)
def cl_X6_open : List (Nat × rz_K) := [(71, ce_X6_isHour)]
def cv_X6_open : List (Nat × rz_K) := [(90, ce_X2_reachesUnseen)]
theorem vc_X6_open : rz_VC k_X6_open fl_X6 cl_X6_open cv_X6_open s_X6_open false 2 ce_X6_open := by
  intro av w hlen hk hpre
  obtain ⟨px, py, ph, rx, ry, vi, sp, nw, h, n, m, rfl, rfl, hn, hm⟩ := hpre
  refine ⟨Nat.le_of_ble_eq_true rfl, [], 60, 0, fun q h => absurd h List.not_mem_nil, ?_⟩
  conv => whnf
  refine ⟨⟨_, rfl, rfl, trivial⟩, ?_⟩
  intro r hr
  obtain rfl : r = bI (okO h) := hr
  conv => whnf
  refine ⟨fun h1 => ?_, fun h1 => ?_⟩
  · refine ⟨⟨_, rfl⟩, fun z => (by cases z), ?_⟩
    intro n' m' e1 hn' e2 hm'
    exact if_no (bI_0 h1) ⟨rfl, rfl⟩
  · conv => whnf
    refine ⟨⟨px, py, ph, rx, ry, vi, sp, h, n, m, rfl, rfl, vp_of2 (bI_n h1).1 (bI_n h1).2 rfl, hn, hm⟩, ?_⟩
    intro r w' hr
    obtain ⟨hr, rfl⟩ := hr
    have hr : r = ((1 : Int32) <<< (nI m &&& 31) - 1) &&& (orP (sbw (wLk px py ph rx ry vi sp (nI n) (nI m)) h) (nI n).toNatClampNeg ^^^ (-1)) := hr
    rw [nI_clamp (by omega), sbw_eq hm] at hr
    conv => whnf
    refine ⟨⟨_, rfl⟩, fun z => (by cases z), ?_⟩
    intro n' m' e1 hn' e2 hm'
    have e1 : n = n' := nI_inj (by omega) (by omega) e1
    have e2 : m = m' := nI_inj (by omega) (by omega) e2
    subst e1 e2
    exact if_yes (bI_n h1) ⟨hr, _, rfl⟩
theorem rv_X6_open : rz_Rv yX6_open.cls ce_X6_open := fun av w h => by
  obtain ⟨_, _, _, _, _, _, _, _, _, _, _, rfl, rfl, _⟩ := h
  exact ⟨_, _, _, _, _, _, rfl, rfl, rfl⟩
theorem cn_X6_open (l : Launch) : rz_Con l yX6_open cX6_open 2 (some .int) 4 0 0 ce_X6_open := rz_con (by decide +kernel) fo_X6 (by
  intro q hq
  rcases List.mem_cons.mp hq with rfl | hq
  · exact rz_callS (cn_X6_isHour l) (by decide +kernel) ⟨Nat.le_of_ble_eq_true rfl, Nat.le_of_ble_eq_true rfl⟩ m_X6_isHour t_X6_isHour n_X6_71
  exact absurd hq List.not_mem_nil) (by
  intro q hq
  rcases List.mem_cons.mp hq with rfl | hq
  · exact rz_callVN (cn_X2_reachesUnseen l) (by decide +kernel) ⟨Nat.le_of_ble_eq_true rfl, Nat.le_of_ble_eq_true rfl⟩ m_X2_reachesUnseen rfl i_X2_reachesUnseen v_X2_reachesUnseen rv_X2_reachesUnseen n_X6_90
  exact absurd hq List.not_mem_nil) r_X6_open vc_X6_open
