/-! CoastWatch: plan, in, boat, call, step, log, count. -/
abbrev okQ (le du gr : Int32) : Prop := (0 ≤ le ∧ le ≤ 20000) ∧ (le ≤ du ∧ du ≤ 20000) ∧ 0 ≤ gr ∧ gr ≤ 600
theorem okT_b {b : Int32} {n k : Nat} {im : Nat → Int32} (h : okT b n k im) (hn : n ≤ 30) : ∃ j, b = nI j ∧ j < 30 ∧ j ≤ n := by
  rcases h.2 with z | z
  · have hv := okS_vp z.1 hn (by omega)
    have hv2 := okS_vp z.1 (Nat.le_refl n) (by omega)
    obtain ⟨j, h1, h2⟩ := vp_in_of hv2 (by omega)
    exact ⟨j, h2, by omega, by omega⟩
  · exact ⟨n, z.2.1, z.2.2, Nat.le_refl _⟩
def ce_X6_plan : rz_K := (5, 0 :: kBo, 0, false, fun av w => ∃ (pb pl pe pt lp im : Nat → Int32) (nw b le du gr : Int32) (k n : Nat), av = [.ref 0, .int b, .int le, .int du, .int gr] ∧ w = (0, oCW nw) :: wBo pb pl pe pt lp im (nI k) (nI n) ∧ k ≤ 100 ∧ n ≤ 30, fun av w o w' => ∀ k n : Nat, rF w 37 6 = nI k → k ≤ 100 → rF w 37 7 = nI n → n ≤ 30 → if okQ (rA av 2) (rA av 3) (rA av 4) ∧ okT (rA av 1) n k (rI w 43) then rR o = rA av 1 ∧ ∃ j, rA av 1 = nI j ∧ j < 30 ∧ j ≤ n ∧ w' = (0, oCW (rF w 0 6)) :: wBo (upd (rI w 38) k (nI j)) (upd (rI w 39) k (rA av 2)) (upd (rI w 40) k (rA av 3 + rA av 4)) (upd (rI w 41) k (rF w 0 6)) (upd (rI w 42) j (nI k)) (if j = n then upd (rI w 43) j (-1) else rI w 43) (nI (k + 1)) (nI (if j = n then n + 1 else n)) else rR o = -1 ∧ w' = w)
def cl_X6_plan : List (Nat × rz_K) := [(59, ce_X6_isWithin), (140, ce_X6_isMinute)]
def cv_X6_plan : List (Nat × rz_K) := [(143, ce_X0_takesPlan), (146, ce_X0_addPlan)]
theorem vc_X6_plan : rz_VC k_X6_plan fl_X6 cl_X6_plan cv_X6_plan s_X6_plan false 5 ce_X6_plan := by
  intro av w hlen hk hpre
  obtain ⟨pb, pl, pe, pt, lp, im, nw, b, le, du, gr, k, n, rfl, rfl, hk2, hn⟩ := hpre
  refine ⟨Nat.le_of_ble_eq_true rfl, [], 60, 0, fun q h => absurd h List.not_mem_nil, ?_⟩
  have no : ¬ (okQ le du gr ∧ okT b n k im) → rz_end ce_X6_plan [.ref 0, .int b, .int le, .int du, .int gr] ((0, oCW nw) :: wBo pb pl pe pt lp im (nI k) (nI n)) (some (.int (-1))) ((0, oCW nw) :: wBo pb pl pe pt lp im (nI k) (nI n)) := by
    intro z1
    refine ⟨⟨_, rfl⟩, fun z => (by cases z), ?_⟩
    intro k' n' e1 h1 e2 h2
    have e1 : k = k' := nI_inj (by omega) (by omega) e1
    have e2 : n = n' := nI_inj (by omega) (by omega) e2
    subst e1 e2
    exact if_no z1 ⟨rfl, rfl⟩
  conv => whnf
  refine ⟨⟨_, rfl, rfl, trivial⟩, ?_⟩
  intro r hr
  obtain rfl : r = bI (0 ≤ le ∧ le ≤ 20000) := hr
  conv => whnf
  refine ⟨fun h1 => ?_, fun h1 => ?_⟩
  · exact no (fun z => bI_0 h1 z.1.1)
  · conv => whnf
    refine ⟨⟨_, _, _, rfl, rfl, trivial⟩, ?_⟩
    intro r hr
    obtain rfl : r = bI (le ≤ du ∧ du ≤ 20000) := hr
    conv => whnf
    refine ⟨fun h2 => ?_, fun h2 => ?_⟩
    · exact no (fun z => bI_0 h2 z.1.2.1)
    · conv => whnf
      refine ⟨⟨_, _, _, rfl, rfl, trivial⟩, ?_⟩
      intro r hr
      obtain rfl : r = bI (0 ≤ gr ∧ gr ≤ 600) := hr
      conv => whnf
      refine ⟨fun h3 => ?_, fun h3 => ?_⟩
      · exact no (fun z => bI_0 h3 z.1.2.2)
      · conv => whnf
        refine ⟨⟨pb, pl, pe, pt, lp, im, b, k, n, rfl, rfl, hk2, hn⟩, ?_⟩
        intro r hr
        obtain rfl : r = bI (okT b n k im) := hr k n rfl hk2 rfl hn
        conv => whnf
        refine ⟨fun h4 => ?_, fun h4 => ?_⟩
        · exact no (fun z => bI_0 h4 z.2)
        · have hT := bI_n h4
          obtain ⟨j, rfl, hj, hjn⟩ := okT_b hT hn
          conv => whnf
          refine ⟨⟨pb, pl, pe, pt, lp, im, le, du + gr, nw, j, k, n, rfl, rfl, hT.1, hj, hjn, hn⟩, ?_⟩
          intro wc hwc
          have hwc := hwc j k n rfl rfl rfl hT.1 hj hn
          subst hwc
          conv => whnf
          refine ⟨⟨_, rfl⟩, fun z => (by cases z), ?_⟩
          intro k' n' e1 g1 e2 g2
          have e1 : k = k' := nI_inj (by omega) (by omega) e1
          have e2 : n = n' := nI_inj (by omega) (by omega) e2
          subst e1 e2
          exact if_yes ⟨⟨bI_n h1, bI_n h2, bI_n h3⟩, hT⟩ ⟨rfl, j, rfl, hj, hjn, rfl⟩
theorem rv_X6_plan : rz_Rv yX6_plan.cls ce_X6_plan := fun av w h => by
  obtain ⟨_, _, _, _, _, _, _, _, _, _, _, _, _, rfl, rfl, _⟩ := h
  exact ⟨_, _, _, _, _, _, rfl, rfl, rfl⟩
theorem cn_X6_plan (l : Launch) : rz_Con l yX6_plan cX6_plan 5 (some .int) 3 0 0 ce_X6_plan := rz_con (by decide +kernel) fo_X6 (by
  intro q hq
  rcases List.mem_cons.mp hq with rfl | hq
  · exact rz_callS (cn_X6_isWithin l) (by decide +kernel) ⟨Nat.le_of_ble_eq_true rfl, Nat.le_of_ble_eq_true rfl⟩ m_X6_isWithin t_X6_isWithin n_X6_59
  rcases List.mem_cons.mp hq with rfl | hq
  · exact rz_callS (cn_X6_isMinute l) (by decide +kernel) ⟨Nat.le_of_ble_eq_true rfl, Nat.le_of_ble_eq_true rfl⟩ m_X6_isMinute t_X6_isMinute n_X6_140
  exact absurd hq List.not_mem_nil) (by
  intro q hq
  rcases List.mem_cons.mp hq with rfl | hq
  · exact rz_callVN (cn_X0_takesPlan l) (by decide +kernel) ⟨Nat.le_of_ble_eq_true rfl, Nat.le_of_ble_eq_true rfl⟩ m_X0_takesPlan rfl i_X0_takesPlan v_X0_takesPlan rv_X0_takesPlan n_X6_143
  rcases List.mem_cons.mp hq with rfl | hq
  · exact rz_callVN (cn_X0_addPlan l) (by decide +kernel) ⟨Nat.le_of_ble_eq_true rfl, Nat.le_of_ble_eq_true rfl⟩ m_X0_addPlan rfl i_X0_addPlan v_X0_addPlan rv_X0_addPlan n_X6_146
  exact absurd hq List.not_mem_nil) r_X6_plan vc_X6_plan
def ce_X6_in : rz_K := (2, 0 :: kBo, 0, false, fun av w => ∃ (pb pl pe pt lp im : Nat → Int32) (nw pn b : Int32) (n : Nat), av = [.ref 0, .int b] ∧ w = (0, oCW nw) :: wBo pb pl pe pt lp im pn (nI n) ∧ n ≤ 30, fun av w o w' => ∀ n : Nat, rF w 37 7 = nI n → n ≤ 30 → if okS (rA av 1) n ∧ rI w 43 (rA av 1).toNatClampNeg = -1 then rR o = 1 ∧ w' = rz_set w 43 (ri 30 (upd (rI w 43) (rA av 1).toNatClampNeg (rF w 0 6))) else rR o = 0 ∧ w' = w)
def cl_X6_in : List (Nat × rz_K) := []
def cv_X6_in : List (Nat × rz_K) := [(150, ce_X0_hasBoat), (153, ce_X0_isIn)]
theorem vc_X6_in : rz_VC k_X6_in fl_X6 cl_X6_in cv_X6_in s_X6_in true 2 ce_X6_in := by
  intro av w hlen hk hpre
  obtain ⟨pb, pl, pe, pt, lp, im, nw, pn, b, n, rfl, rfl, hn⟩ := hpre
  refine ⟨Nat.le_of_ble_eq_true rfl, [], 60, 0, fun q h => absurd h List.not_mem_nil, ?_⟩
  have no : ¬ (okS b n ∧ im b.toNatClampNeg = -1) → ce_X6_in.2.2.2.2.2 [.ref 0, .int b] ((0, oCW nw) :: wBo pb pl pe pt lp im pn (nI n)) (some (.int 0)) ((0, oCW nw) :: wBo pb pl pe pt lp im pn (nI n)) := by
    intro z1 n' e1 h1
    have e1 : n = n' := nI_inj (by omega) (by omega) e1
    subst e1
    exact if_no z1 ⟨rfl, rfl⟩
  conv => whnf
  refine ⟨⟨pb, pl, pe, pt, lp, im, pn, nI n, b, rfl, rfl, trivial⟩, ?_⟩
  intro r hr
  obtain rfl : r = bI (okS b n) := hr
  conv => whnf
  refine ⟨fun h1 => ?_, fun h1 => ?_⟩
  · exact ⟨Or.inl rfl, ⟨_, rfl⟩, fun z => (by cases z), no (fun z => bI_0 h1 z.1)⟩
  · have hv := okS_vp (bI_n h1) hn (by omega)
    conv => whnf
    refine ⟨⟨pb, pl, pe, pt, lp, im, pn, nI n, b, rfl, rfl, hv⟩, ?_⟩
    intro r hr
    obtain rfl : r = bI (¬ im b.toNatClampNeg = -1) := hr
    conv => whnf
    refine ⟨fun h2 => ?_, fun h2 => ?_⟩
    · conv => whnf
      refine ⟨hv, ?_⟩
      conv => whnf
      refine ⟨Or.inr rfl, ⟨_, rfl⟩, fun z => (by cases z), ?_⟩
      intro n' e1 g1
      have e1 : n = n' := nI_inj (by omega) (by omega) e1
      subst e1
      exact if_yes ⟨bI_n h1, Decidable.not_not.mp (bI_0 h2)⟩ ⟨rfl, rfl⟩
    · exact ⟨Or.inl rfl, ⟨_, rfl⟩, fun z => (by cases z), no (fun z => bI_n h2 z.2)⟩
theorem rv_X6_in : rz_Rv yX6_in.cls ce_X6_in := fun av w h => by
  obtain ⟨_, _, _, _, _, _, _, _, _, _, rfl, rfl, _⟩ := h
  exact ⟨_, _, _, _, _, _, rfl, rfl, rfl⟩
theorem cn_X6_in (l : Launch) : rz_Con l yX6_in cX6_in 2 (some .boolean) 2 0 0 ce_X6_in := rz_con (by decide +kernel) fo_X6 (fun _ h => absurd h List.not_mem_nil) (by
  intro q hq
  rcases List.mem_cons.mp hq with rfl | hq
  · exact rz_callVN (cn_X0_hasBoat l) (by decide +kernel) ⟨Nat.le_of_ble_eq_true rfl, Nat.le_of_ble_eq_true rfl⟩ m_X0_hasBoat rfl i_X0_hasBoat v_X0_hasBoat rv_X0_hasBoat n_X6_150
  rcases List.mem_cons.mp hq with rfl | hq
  · exact rz_callVN (cn_X0_isIn l) (by decide +kernel) ⟨Nat.le_of_ble_eq_true rfl, Nat.le_of_ble_eq_true rfl⟩ m_X0_isIn rfl i_X0_isIn v_X0_isIn rv_X0_isIn n_X6_153
  exact absurd hq List.not_mem_nil) r_X6_in vc_X6_in
def ce_X6_boat : rz_K := (4, 0 :: kBo, 0, true, fun av w => ∃ (pb pl pe pt lp im : Nat → Int32) (nw b m q : Int32) (k n : Nat), av = [.ref 0, .int b, .int m, .int q] ∧ w = (0, oCW nw) :: wBo pb pl pe pt lp im (nI k) (nI n) ∧ k ≤ 100 ∧ n ≤ 30, fun av w o _ => ∀ k n : Nat, rF w 37 6 = nI k → k ≤ 100 → rF w 37 7 = nI n → n ≤ 30 → rR o = if okS (rA av 1) n ∧ (0 ≤ rA av 2 ∧ rA av 2 ≤ rF w 0 6) ∧ (0 ≤ rA av 3 ∧ rA av 3 ≤ rF w 0 6) then stF (lastK (pkP (rI w 38) (rI w 41) (rA av 1) (rA av 3)) k) (rI w 43 (rA av 1).toNatClampNeg) (rA av 2) (rA av 3) (rI w 39) (rI w 40) else -1)
def cl_X6_boat : List (Nat × rz_K) := [(59, ce_X6_isWithin)]
def cv_X6_boat : List (Nat × rz_K) := [(150, ce_X0_hasBoat), (159, ce_X0_stateOf)]
theorem vc_X6_boat : rz_VC k_X6_boat fl_X6 cl_X6_boat cv_X6_boat s_X6_boat false 4 ce_X6_boat := by
  intro av w hlen hk hpre
  obtain ⟨pb, pl, pe, pt, lp, im, nw, b, m, q, k, n, rfl, rfl, hk2, hn⟩ := hpre
  refine ⟨Nat.le_of_ble_eq_true rfl, [], 60, 0, fun q h => absurd h List.not_mem_nil, ?_⟩
  have fin : ∀ v : Int32, (v = if okS b n ∧ (0 ≤ m ∧ m ≤ nw) ∧ (0 ≤ q ∧ q ≤ nw) then stF (lastK (pkP pb pt b q) k) (im b.toNatClampNeg) m q pl pe else -1) → rz_end ce_X6_boat [.ref 0, .int b, .int m, .int q] ((0, oCW nw) :: wBo pb pl pe pt lp im (nI k) (nI n)) (some (.int v)) ((0, oCW nw) :: wBo pb pl pe pt lp im (nI k) (nI n)) := by
    intro v hv
    refine ⟨⟨_, rfl⟩, fun _ => rfl, ?_⟩
    intro k' n' e1 h1 e2 h2
    have e1 : k = k' := nI_inj (by omega) (by omega) e1
    have e2 : n = n' := nI_inj (by omega) (by omega) e2
    subst e1 e2
    exact hv
  conv => whnf
  refine ⟨⟨pb, pl, pe, pt, lp, im, nI k, nI n, b, rfl, rfl, trivial⟩, ?_⟩
  intro r hr
  obtain rfl : r = bI (okS b n) := hr
  conv => whnf
  refine ⟨fun h1 => ?_, fun h1 => ?_⟩
  · exact fin _ (if_neg (fun z => bI_0 h1 z.1)).symm
  · conv => whnf
    refine ⟨⟨_, _, _, rfl, rfl, trivial⟩, ?_⟩
    intro r hr
    obtain rfl : r = bI (0 ≤ m ∧ m ≤ nw) := hr
    conv => whnf
    refine ⟨fun h2 => ?_, fun h2 => ?_⟩
    · exact fin _ (if_neg (fun z => bI_0 h2 z.2.1)).symm
    · conv => whnf
      refine ⟨⟨_, _, _, rfl, rfl, trivial⟩, ?_⟩
      intro r hr
      obtain rfl : r = bI (0 ≤ q ∧ q ≤ nw) := hr
      conv => whnf
      refine ⟨fun h3 => ?_, fun h3 => ?_⟩
      · exact fin _ (if_neg (fun z => bI_0 h3 z.2.2)).symm
      · conv => whnf
        refine ⟨⟨pb, pl, pe, pt, lp, im, nI n, b, m, q, k, rfl, rfl, hk2, okS_vp (bI_n h1) hn (by omega)⟩, ?_⟩
        intro r hr
        obtain rfl : r = stF (lastK (pkP pb pt b q) k) (im b.toNatClampNeg) m q pl pe := hr k rfl hk2
        conv => whnf
        exact fin _ (if_pos ⟨bI_n h1, bI_n h2, bI_n h3⟩).symm
theorem rv_X6_boat : rz_Rv yX6_boat.cls ce_X6_boat := fun av w h => by
  obtain ⟨_, _, _, _, _, _, _, _, _, _, _, _, rfl, rfl, _⟩ := h
  exact ⟨_, _, _, _, _, _, rfl, rfl, rfl⟩
theorem cn_X6_boat (l : Launch) : rz_Con l yX6_boat cX6_boat 4 (some .int) 2 0 0 ce_X6_boat := rz_con (by decide +kernel) fo_X6 (by
  intro q hq
  rcases List.mem_cons.mp hq with rfl | hq
  · exact rz_callS (cn_X6_isWithin l) (by decide +kernel) ⟨Nat.le_of_ble_eq_true rfl, Nat.le_of_ble_eq_true rfl⟩ m_X6_isWithin t_X6_isWithin n_X6_59
  exact absurd hq List.not_mem_nil) (by
  intro q hq
  rcases List.mem_cons.mp hq with rfl | hq
  · exact rz_callVN (cn_X0_hasBoat l) (by decide +kernel) ⟨Nat.le_of_ble_eq_true rfl, Nat.le_of_ble_eq_true rfl⟩ m_X0_hasBoat rfl i_X0_hasBoat v_X0_hasBoat rv_X0_hasBoat n_X6_150
  rcases List.mem_cons.mp hq with rfl | hq
  · exact rz_callVN (cn_X0_stateOf l) (by decide +kernel) ⟨Nat.le_of_ble_eq_true rfl, Nat.le_of_ble_eq_true rfl⟩ m_X0_stateOf rfl i_X0_stateOf v_X0_stateOf rv_X0_stateOf n_X6_159
  exact absurd hq List.not_mem_nil) r_X6_boat vc_X6_boat
abbrev okR (k m : Int32) : Prop := (0 ≤ k ∧ k ≤ 4) ∧ -1 ≤ m ∧ m ≤ 2000
def ce_X6_call : rz_K := (3, 0 :: kCl, 0, false, fun av w => ∃ (de lb lr lm : Nat → Int32) (nw wr k m : Int32), av = [.ref 0, .int k, .int m] ∧ w = (0, oCW nw) :: wCl de lb lr lm wr ∧ True, fun av w o w' => if okR (rA av 1) (rA av 2) then rR o = 1 ∧ w' = rz_set w 45 (ri 5 (upd (rI w 45) (rA av 1).toNatClampNeg (rA av 2))) else rR o = 0 ∧ w' = w)
def cl_X6_call : List (Nat × rz_K) := [(59, ce_X6_isWithin)]
def cv_X6_call : List (Nat × rz_K) := []
theorem vc_X6_call : rz_VC k_X6_call fl_X6 cl_X6_call cv_X6_call s_X6_call true 3 ce_X6_call := by
  intro av w hlen hk hpre
  obtain ⟨de, lb, lr, lm, nw, wr, k, m, rfl, rfl, -⟩ := hpre
  refine ⟨Nat.le_of_ble_eq_true rfl, [], 60, 0, fun q h => absurd h List.not_mem_nil, ?_⟩
  conv => whnf
  refine ⟨⟨_, _, _, rfl, rfl, trivial⟩, ?_⟩
  intro r hr
  obtain rfl : r = bI (0 ≤ k ∧ k ≤ 4) := hr
  conv => whnf
  refine ⟨fun h1 => ?_, fun h1 => ?_⟩
  · exact ⟨Or.inl rfl, ⟨_, rfl⟩, fun z => (by cases z), if_no (fun z => bI_0 h1 z.1) ⟨rfl, rfl⟩⟩
  · conv => whnf
    refine ⟨⟨_, _, _, rfl, rfl, trivial⟩, ?_⟩
    intro r hr
    obtain rfl : r = bI (-1 ≤ m ∧ m ≤ 2000) := hr
    conv => whnf
    refine ⟨fun h2 => ?_, fun h2 => ?_⟩
    · exact ⟨Or.inl rfl, ⟨_, rfl⟩, fun z => (by cases z), if_no (fun z => bI_0 h2 z.2) ⟨rfl, rfl⟩⟩
    · conv => whnf
      refine ⟨vp_of2 (bI_n h1).1 (bI_n h1).2 rfl, ?_⟩
      conv => whnf
      exact ⟨Or.inr rfl, ⟨_, rfl⟩, fun z => (by cases z), if_yes ⟨bI_n h1, bI_n h2⟩ ⟨rfl, rfl⟩⟩
theorem rv_X6_call : rz_Rv yX6_call.cls ce_X6_call := fun av w h => by
  obtain ⟨_, _, _, _, _, _, _, _, rfl, rfl, _⟩ := h
  exact ⟨_, _, _, _, _, _, rfl, rfl, rfl⟩
theorem cn_X6_call (l : Launch) : rz_Con l yX6_call cX6_call 3 (some .boolean) 1 0 0 ce_X6_call := rz_con (by decide +kernel) fo_X6 (by
  intro q hq
  rcases List.mem_cons.mp hq with rfl | hq
  · exact rz_callS (cn_X6_isWithin l) (by decide +kernel) ⟨Nat.le_of_ble_eq_true rfl, Nat.le_of_ble_eq_true rfl⟩ m_X6_isWithin t_X6_isWithin n_X6_59
  exact absurd hq List.not_mem_nil) (fun _ h => absurd h List.not_mem_nil) r_X6_call vc_X6_call
abbrev okN (n nw : Int32) : Prop := (0 ≤ n ∧ n ≤ 3000) ∧ nw + n ≤ 20000
def ce_X6_step : rz_K := (2, 0 :: kCB, 0, false, fun av w => ∃ (de : Nat → Int32) (s : LgS) (pb pl pe pt lp im : Nat → Int32) (nw pn x : Int32) (n : Nat), av = [.ref 0, .int x] ∧ w = (0, oCW nw) :: wCBs de s pb pl pe pt lp im pn (nI n) ∧ n ≤ 30 ∧ (∀ b, b < n → vp_in (lp b) 100) ∧ s.2.2.2 < 2 ^ 28, fun av w o w' => ∀ n q : Nat, rF w 37 7 = nI n → n ≤ 30 → rF w 44 4 = nI q → q < 2 ^ 28 → if okN (rA av 1) (rF w 0 6) then rR o = rF w 0 6 + rA av 1 ∧ w' = sLS (rz_set w 0 (oCW (rF w 0 6 + rA av 1))) (wsF (cmJ (rI w 45) (rI w 40) (rI w 42) (rI w 43)) n (rF w 0 6 + rA av 1) 150 (nxF (cmJ (rI w 45) (rI w 40) (rI w 42) (rI w 43)) (rF w 0 6) (5 * n)) (rLS w q)) else rR o = -1 ∧ w' = w)
def cl_X6_step : List (Nat × rz_K) := [(59, ce_X6_isWithin)]
def cv_X6_step : List (Nat × rz_K) := [(165, ce_X1_writeMinutes)]
theorem vc_X6_step : rz_VC k_X6_step fl_X6 cl_X6_step cv_X6_step s_X6_step false 2 ce_X6_step := by
  intro av w hlen hk hpre
  obtain ⟨de, s, pb, pl, pe, pt, lp, im, nw, pn, x, n, rfl, rfl, hn, hlp, hs⟩ := hpre
  refine ⟨Nat.le_of_ble_eq_true rfl, [], 60, 0, fun q h => absurd h List.not_mem_nil, ?_⟩
  have no : ¬ okN x nw → rz_end ce_X6_step [.ref 0, .int x] ((0, oCW nw) :: wCBs de s pb pl pe pt lp im pn (nI n)) (some (.int (-1))) ((0, oCW nw) :: wCBs de s pb pl pe pt lp im pn (nI n)) := by
    intro z1
    refine ⟨⟨_, rfl⟩, fun z => (by cases z), ?_⟩
    intro n' q e1 h1 e2 h2
    exact if_no z1 ⟨rfl, rfl⟩
  conv => whnf
  refine ⟨⟨_, _, _, rfl, rfl, trivial⟩, ?_⟩
  intro r hr
  obtain rfl : r = bI (0 ≤ x ∧ x ≤ 3000) := hr
  conv => whnf
  refine ⟨fun h1 => ?_, fun h1 => ?_⟩
  · exact no (fun z => bI_0 h1 z.1)
  · conv => whnf
    refine ⟨fun h2 => ?_, fun h2 => ?_⟩
    · conv => whnf
      refine ⟨⟨de, s, pb, pl, pe, pt, lp, im, pn, nw, nw + x, n, rfl, rfl, hn, hlp, hs⟩, ?_⟩
      intro wc hwc
      have hwc := hwc n s.2.2.2 rfl hn rfl hs
      subst hwc
      conv => whnf
      refine ⟨⟨_, rfl⟩, fun z => (by cases z), ?_⟩
      intro n' q e1 g1 e2 g2
      have e1 : n = n' := nI_inj (by omega) (by omega) e1
      have e2 : s.2.2.2 = q := nI_inj (by omega) (by omega) e2
      subst e1 e2
      exact if_yes ⟨bI_n h1, h2⟩ ⟨rfl, rfl⟩
    · exact no (fun z => h2 z.2)
theorem rv_X6_step : rz_Rv yX6_step.cls ce_X6_step := fun av w h => by
  obtain ⟨_, _, _, _, _, _, _, _, _, _, _, _, rfl, rfl, _⟩ := h
  exact ⟨_, _, _, _, _, _, rfl, rfl, rfl⟩
theorem cn_X6_step (l : Launch) : rz_Con l yX6_step cX6_step 2 (some .int) 4 0 0 ce_X6_step := rz_con (by decide +kernel) fo_X6 (by
  intro q hq
  rcases List.mem_cons.mp hq with rfl | hq
  · exact rz_callS (cn_X6_isWithin l) (by decide +kernel) ⟨Nat.le_of_ble_eq_true rfl, Nat.le_of_ble_eq_true rfl⟩ m_X6_isWithin t_X6_isWithin n_X6_59
  exact absurd hq List.not_mem_nil) (by
  intro q hq
  rcases List.mem_cons.mp hq with rfl | hq
  · exact rz_callVN (cn_X1_writeMinutes l) (by decide +kernel) ⟨Nat.le_of_ble_eq_true rfl, Nat.le_of_ble_eq_true rfl⟩ m_X1_writeMinutes rfl i_X1_writeMinutes v_X1_writeMinutes rv_X1_writeMinutes n_X6_165
  exact absurd hq List.not_mem_nil) r_X6_step vc_X6_step
def ce_X6_log : rz_K := (3, 0 :: kCl, 0, true, fun av w => ∃ (de : Nat → Int32) (s : LgS) (nw i a : Int32), av = [.ref 0, .int i, .int a] ∧ w = (0, oCW nw) :: wLg de s ∧ s.2.2.2 < 2 ^ 30, fun av w o _ => ∀ q : Nat, rF w 44 4 = nI q → q < 2 ^ 30 → rR o = if okL (rA av 1) q then (if rA av 2 = 0 then rI w 46 (rA av 1).toNatClampNeg else if rA av 2 = 1 then rI w 47 (rA av 1).toNatClampNeg else if rA av 2 = 2 then rI w 48 (rA av 1).toNatClampNeg else -1) else -1)
def cl_X6_log : List (Nat × rz_K) := []
def cv_X6_log : List (Nat × rz_K) := [(169, ce_X1_partOf)]
theorem vc_X6_log : rz_VC k_X6_log fl_X6 cl_X6_log cv_X6_log s_X6_log false 3 ce_X6_log := by
  intro av w hlen hk hpre
  obtain ⟨de, s, nw, i, a, rfl, rfl, hq⟩ := hpre
  refine ⟨Nat.le_of_ble_eq_true rfl, [], 60, 0, fun q h => absurd h List.not_mem_nil, ?_⟩
  conv => whnf
  refine ⟨⟨de, s, i, a, rfl, rfl, hq⟩, ?_⟩
  intro r hr
  conv => whnf
  exact ⟨⟨_, rfl⟩, fun _ => rfl, hr⟩
theorem rv_X6_log : rz_Rv yX6_log.cls ce_X6_log := fun av w h => by
  obtain ⟨_, _, _, _, _, rfl, rfl, _⟩ := h
  exact ⟨_, _, _, _, _, _, rfl, rfl, rfl⟩
theorem cn_X6_log (l : Launch) : rz_Con l yX6_log cX6_log 3 (some .int) 2 0 0 ce_X6_log := rz_con (by decide +kernel) fo_X6 (fun _ h => absurd h List.not_mem_nil) (by
  intro q hq
  rcases List.mem_cons.mp hq with rfl | hq
  · exact rz_callVN (cn_X1_partOf l) (by decide +kernel) ⟨Nat.le_of_ble_eq_true rfl, Nat.le_of_ble_eq_true rfl⟩ m_X1_partOf rfl i_X1_partOf v_X1_partOf rv_X1_partOf n_X6_169
  exact absurd hq List.not_mem_nil) r_X6_log vc_X6_log
abbrev wCn (nw : Int32) (po re si : Int32) (sz tr sp : Int32) (wr : Int32) (pb pl pe pt lp im : Nat → Int32) (pn bo : Int32) : rz_W := (0, oCW nw) :: (1, ro 2 [.ref 2, .ref 3, .ref 4, .ref 5, .ref 6, .ref 7, .ref 8, .int po, .int re]) :: (9, ro 5 [.ref 10, .ref 11, .ref 12, .ref 13, .ref 14, .ref 15, .ref 16, .int si]) :: (27, ro 3 [.ref 28, .ref 29, .ref 30, .ref 31, .ref 32, .ref 33, .ref 34, .ref 35, .ref 36, .int sz, .int tr, .int sp]) :: (44, ro 1 [.ref 45, .ref 46, .ref 47, .ref 48, .int wr]) :: wBo pb pl pe pt lp im pn bo
def ce_X6_count : rz_K := (2, 0 :: 1 :: 9 :: 27 :: 44 :: kBo, 0, true, fun av w => ∃ (nw po re si sz tr sp wr : Int32) (pb pl pe pt lp im : Nat → Int32) (pn a : Int32) (n : Nat), av = [.ref 0, .int a] ∧ w = wCn nw po re si sz tr sp wr pb pl pe pt lp im pn (nI n) ∧ n ≤ 30 ∧ ∀ b, b < n → vp_in (lp b) 100, fun av w o _ => ∀ n : Nat, rF w 37 7 = nI n → n ≤ 30 → rR o = if rA av 1 = 0 then rF w 0 6 else if rA av 1 = 1 then rF w 1 7 else if rA av 1 = 2 then rF w 1 8 else if rA av 1 = 3 then rF w 9 7 else if rA av 1 = 4 then rF w 27 9 else if rA av 1 = 5 then rF w 27 10 else if rA av 1 = 6 then nI n else if rA av 1 = 7 then rF w 44 4 else if rA av 1 = 8 then cntB (ovP (rI w 40) (rI w 42) (rI w 43) (rF w 0 6)) n else -1)
def cl_X6_count : List (Nat × rz_K) := []
def cv_X6_count : List (Nat × rz_K) := [(187, ce_X0_overdueAt)]
theorem vc_X6_count : rz_VC k_X6_count fl_X6 cl_X6_count cv_X6_count s_X6_count false 2 ce_X6_count := by
  intro av w hlen hk hpre
  obtain ⟨nw, po, re, si, sz, tr, sp, wr, pb, pl, pe, pt, lp, im, pn, a, n, rfl, rfl, hn, hlp⟩ := hpre
  refine ⟨Nat.le_of_ble_eq_true rfl, [], 60, 0, fun q h => absurd h List.not_mem_nil, ?_⟩
  have fin : ∀ v : Int32, (v = if a = 0 then nw else if a = 1 then po else if a = 2 then re else if a = 3 then si else if a = 4 then sz else if a = 5 then tr else if a = 6 then nI n else if a = 7 then wr else if a = 8 then cntB (ovP pe lp im nw) n else -1) → rz_end ce_X6_count [.ref 0, .int a] (wCn nw po re si sz tr sp wr pb pl pe pt lp im pn (nI n)) (some (.int v)) (wCn nw po re si sz tr sp wr pb pl pe pt lp im pn (nI n)) := by
    intro v hv
    refine ⟨⟨_, rfl⟩, fun _ => rfl, ?_⟩
    intro n' e1 g1
    have e1 : n = n' := nI_inj (by omega) (by omega) e1
    subst e1
    exact hv
  conv => whnf
  refine ⟨fun h0 => ?_, fun h0 => ?_⟩
  · exact fin _ (by rw [if_pos h0])
  · conv => whnf
    refine ⟨fun h1 => ?_, fun h1 => ?_⟩
    · exact fin _ (by rw [if_neg h0, if_pos h1])
    · conv => whnf
      refine ⟨fun h2 => ?_, fun h2 => ?_⟩
      · exact fin _ (by rw [if_neg h0, if_neg h1, if_pos h2])
      · conv => whnf
        refine ⟨fun h3 => ?_, fun h3 => ?_⟩
        · exact fin _ (by rw [if_neg h0, if_neg h1, if_neg h2, if_pos h3])
        · conv => whnf
          refine ⟨fun h4 => ?_, fun h4 => ?_⟩
          · exact fin _ (by rw [if_neg h0, if_neg h1, if_neg h2, if_neg h3, if_pos h4])
          · conv => whnf
            refine ⟨fun h5 => ?_, fun h5 => ?_⟩
            · exact fin _ (by rw [if_neg h0, if_neg h1, if_neg h2, if_neg h3, if_neg h4, if_pos h5])
            · conv => whnf
              refine ⟨fun h6 => ?_, fun h6 => ?_⟩
              · exact fin _ (by rw [if_neg h0, if_neg h1, if_neg h2, if_neg h3, if_neg h4, if_neg h5, if_pos h6])
              · conv => whnf
                refine ⟨fun h7 => ?_, fun h7 => ?_⟩
                · exact fin _ (by rw [if_neg h0, if_neg h1, if_neg h2, if_neg h3, if_neg h4, if_neg h5, if_neg h6, if_pos h7])
                · conv => whnf
                  refine ⟨fun h8 => ?_, fun h8 => ?_⟩
                  · conv => whnf
                    refine ⟨⟨pb, pl, pe, pt, lp, im, pn, nw, n, rfl, rfl, hn, hlp⟩, ?_⟩
                    intro r hr
                    obtain rfl : r = cntB (ovP pe lp im nw) n := hr n rfl hn
                    conv => whnf
                    exact fin _ (by rw [if_neg h0, if_neg h1, if_neg h2, if_neg h3, if_neg h4, if_neg h5, if_neg h6, if_neg h7, if_pos h8])
                  · exact fin _ (by rw [if_neg h0, if_neg h1, if_neg h2, if_neg h3, if_neg h4, if_neg h5, if_neg h6, if_neg h7, if_neg h8])
theorem rv_X6_count : rz_Rv yX6_count.cls ce_X6_count := fun av w h => by
  obtain ⟨_, _, _, _, _, _, _, _, _, _, _, _, _, _, _, _, _, rfl, rfl, _⟩ := h
  exact ⟨_, _, _, _, _, _, rfl, rfl, rfl⟩
theorem cn_X6_count (l : Launch) : rz_Con l yX6_count cX6_count 2 (some .int) 2 0 0 ce_X6_count := rz_con (by decide +kernel) fo_X6 (fun _ h => absurd h List.not_mem_nil) (by
  intro q hq
  rcases List.mem_cons.mp hq with rfl | hq
  · exact rz_callVN (cn_X0_overdueAt l) (by decide +kernel) ⟨Nat.le_of_ble_eq_true rfl, Nat.le_of_ble_eq_true rfl⟩ m_X0_overdueAt rfl i_X0_overdueAt v_X0_overdueAt rv_X0_overdueAt n_X6_187
  exact absurd hq List.not_mem_nil) r_X6_count vc_X6_count
