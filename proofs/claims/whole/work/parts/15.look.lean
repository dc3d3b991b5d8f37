/-! Lookouts: posts, reaches, weather. -/
def ce_X2_hasPost : rz_K := (2, kLk, 0, true, fun av w => ∃ (px py ph rx ry vi sp : Nat → Int32) (po re p : Int32), av = [.ref 1, .int p] ∧ w = wLk px py ph rx ry vi sp po re ∧ True, fun av w o _ => rR o = bI (0 ≤ rA av 1 ∧ rA av 1 ≤ rF w 1 7 - 1))
def cl_X2_hasPost : List (Nat × rz_K) := [(46, ce_X6_isWithin)]
def cv_X2_hasPost : List (Nat × rz_K) := []
theorem vc_X2_hasPost : rz_VC k_X2_hasPost fl_X2 cl_X2_hasPost cv_X2_hasPost s_X2_hasPost true 2 ce_X2_hasPost := by
  intro av w hlen hk hpre
  obtain ⟨px, py, ph, rx, ry, vi, sp, po, re, p, rfl, rfl, -⟩ := hpre
  refine ⟨Nat.le_of_ble_eq_true rfl, [], 30, 0, fun q h => absurd h List.not_mem_nil, ?_⟩
  conv => whnf
  refine ⟨⟨_, _, _, rfl, rfl, trivial⟩, ?_⟩
  intro r hr
  conv => whnf
  refine ⟨?_, ⟨_, rfl⟩, fun _ => rfl, hr⟩
  rw [show r = _ from hr]
  exact bI_01 _
theorem rv_X2_hasPost : rz_Rv yX2_hasPost.cls ce_X2_hasPost := fun av w h => by
  obtain ⟨_, _, _, _, _, _, _, _, _, _, rfl, rfl, _⟩ := h
  exact ⟨_, _, _, _, _, _, rfl, rfl, rfl⟩
theorem cn_X2_hasPost (l : Launch) : rz_Con l yX2_hasPost cX2_hasPost 2 (some .boolean) 1 0 0 ce_X2_hasPost := rz_con (by decide +kernel) fo_X2 (by
  intro q hq
  rcases List.mem_cons.mp hq with rfl | hq
  · exact rz_callSN (cn_X6_isWithin l) (by decide +kernel) ⟨Nat.le_of_ble_eq_true rfl, Nat.le_of_ble_eq_true rfl⟩ m_X6_isWithin t_X6_isWithin n_X2_46
  exact absurd hq List.not_mem_nil) (fun _ h => absurd h List.not_mem_nil) r_X2_hasPost vc_X2_hasPost
abbrev sn (px py ph vi : Nat → Int32) (p : Nat) (x y : Int32) (h : Nat) : Prop := (px p - x) * (px p - x) + (py p - y) * (py p - y) ≤ vi h * vi h ∧ (px p - x) * (px p - x) + (py p - y) * (py p - y) ≤ 1274 * ph p
def ce_X2_isSeen : rz_K := (5, kLk, 0, true, fun av w => ∃ (px py ph rx ry vi sp : Nat → Int32) (po re p x y h : Int32), av = [.ref 1, .int p, .int x, .int y, .int h] ∧ w = wLk px py ph rx ry vi sp po re ∧ vp_in p 6 ∧ vp_in h 334, fun av w o _ => rR o = bI (sn (rI w 2) (rI w 3) (rI w 4) (rI w 7) (rA av 1).toNatClampNeg (rA av 2) (rA av 3) (rA av 4).toNatClampNeg))
def cl_X2_isSeen : List (Nat × rz_K) := []
def cv_X2_isSeen : List (Nat × rz_K) := []
theorem vc_X2_isSeen : rz_VC k_X2_isSeen fl_X2 cl_X2_isSeen cv_X2_isSeen s_X2_isSeen true 9 ce_X2_isSeen := by
  intro av w hlen hk hpre
  obtain ⟨px, py, ph, rx, ry, vi, sp, po, re, p, x, y, h, rfl, rfl, hp, hh⟩ := hpre
  refine ⟨Nat.le_of_ble_eq_true rfl, [], 60, 0, fun q h => absurd h List.not_mem_nil, ?_⟩
  conv => whnf
  refine ⟨hp, ?_⟩
  conv => whnf
  rintro dx rfl
  conv => whnf
  refine ⟨hp, ?_⟩
  conv => whnf
  rintro dy rfl
  conv => whnf
  rintro sq rfl
  conv => whnf
  refine ⟨hh, ?_⟩
  conv => whnf
  rintro far rfl
  conv => whnf
  refine ⟨fun h1 => ?_, fun h1 => ?_⟩
  · exact ⟨Or.inl rfl, ⟨_, rfl⟩, fun _ => rfl, (if_neg (fun z => absurd z.1 ((i32_not_le _ _).mpr h1))).symm⟩
  · conv => whnf
    refine ⟨hp, ?_⟩
    conv => whnf
    refine ⟨fun h2 => ?_, fun h2 => ?_⟩
    · exact ⟨Or.inl rfl, ⟨_, rfl⟩, fun _ => rfl, (if_neg (fun z => absurd z.2 ((i32_not_le _ _).mpr h2))).symm⟩
    · exact ⟨Or.inr rfl, ⟨_, rfl⟩, fun _ => rfl, (if_pos ⟨(i32_not_lt _ _).mp h1, (i32_not_lt _ _).mp h2⟩).symm⟩
theorem rv_X2_isSeen : rz_Rv yX2_isSeen.cls ce_X2_isSeen := fun av w h => by
  obtain ⟨_, _, _, _, _, _, _, _, _, _, _, _, _, rfl, rfl, _⟩ := h
  exact ⟨_, _, _, _, _, _, rfl, rfl, rfl⟩
theorem cn_X2_isSeen (l : Launch) : rz_Con l yX2_isSeen cX2_isSeen 9 (some .boolean) 0 0 0 ce_X2_isSeen := rz_con (by decide +kernel) fo_X2 (fun _ h => absurd h List.not_mem_nil) (fun _ h => absurd h List.not_mem_nil) r_X2_isSeen vc_X2_isSeen
def orR (f : Nat → Bool) : Nat → Int32
  | 0 => 0
  | n + 1 => if f n then orR f n ||| ((1 : Int32) <<< (nI n &&& 31)) else orR f n
def ce_X2_reachesSeenBy : rz_K := (3, kLk, 0, true, fun av w => ∃ (px py ph rx ry vi sp : Nat → Int32) (po p h : Int32) (n : Nat), av = [.ref 1, .int p, .int h] ∧ w = wLk px py ph rx ry vi sp po (nI n) ∧ vp_in p 6 ∧ vp_in h 334 ∧ n ≤ 8, fun av w o _ => rR o = orR (fun r => decide (sn (rI w 2) (rI w 3) (rI w 4) (rI w 7) (rA av 1).toNatClampNeg (rI w 5 r) (rI w 6 r) (rA av 2).toNatClampNeg)) (rF w 1 8).toNatClampNeg)
def cl_X2_reachesSeenBy : List (Nat × rz_K) := []
def cv_X2_reachesSeenBy : List (Nat × rz_K) := [(50, ce_X2_isSeen)]
theorem vc_X2_reachesSeenBy : rz_VC k_X2_reachesSeenBy fl_X2 cl_X2_reachesSeenBy cv_X2_reachesSeenBy s_X2_reachesSeenBy false 5 ce_X2_reachesSeenBy := by
  intro av w hlen hk hpre
  obtain ⟨px, py, ph, rx, ry, vi, sp, po, p, h, n, rfl, rfl, hp, hh, hn⟩ := hpre
  refine ⟨Nat.le_of_ble_eq_true rfl, [(5, [0, 1, 2, 3, 4], fun k lv w' => ∃ r : Nat, r ≤ n ∧ lv = [(0, .ref 1), (1, .int p), (2, .int h), (3, .int (orR (fun r => decide (sn px py ph vi p.toNatClampNeg (rx r) (ry r) h.toNatClampNeg)) r)), (4, .int (nI r))] ∧ w' = wLk px py ph rx ry vi sp po (nI n) ∧ k = n - r)], 60, n + 1, ?_, ?_⟩
  · intro q hq k lv w' hj
    rcases List.mem_cons.mp hq with rfl | hq
    · obtain ⟨r, hr, rfl, rfl, rfl⟩ := hj
      conv => whnf
      refine ⟨fun c => ?_, fun c => ?_⟩
      · have e : r = n := by
          have := (nI_leI (by omega) (by omega)).mp c
          omega
        subst e
        refine ⟨⟨_, rfl⟩, fun _ => rfl, ?_⟩
        show orR _ r = orR _ (nI r).toNatClampNeg
        rw [nI_clamp (by omega)]
        rfl
      · have hr2 : r < n := by
          rcases Nat.lt_or_ge r n with z | z
          · exact z
          · exact absurd (nI_le z (by omega)) c
        have hv : vp_in (nI r) 8 := vp_in_nI (by omega) (by omega)
        conv => whnf
        refine ⟨hv, ?_⟩
        conv => whnf
        refine ⟨hv, ?_⟩
        conv => whnf
        refine ⟨⟨px, py, ph, rx, ry, vi, sp, po, nI n, p, _, _, h, rfl, rfl, hp, hh⟩, ?_⟩
        intro b hb
        have hb : b = bI (sn px py ph vi p.toNatClampNeg (rx (nI r).toNatClampNeg) (ry (nI r).toNatClampNeg) h.toNatClampNeg) := hb
        rw [nI_clamp (by omega)] at hb
        conv => whnf
        refine ⟨fun c2 => ?_, fun c2 => ?_⟩
        · conv => whnf
          rintro v rfl
          conv => whnf
          refine ⟨n - (r + 1), by omega, r + 1, by omega, ?_, rfl, rfl⟩
          have hs : ¬ sn px py ph vi p.toNatClampNeg (rx r) (ry r) h.toNatClampNeg := fun z => by
            rw [hb, bI, if_pos z] at c2
            exact absurd c2 (by decide)
          show [_, _, _, (3, Value.int (orR _ r)), (4, Value.int (nI r + 1))] = [_, _, _, (3, Value.int (orR _ (r + 1))), (4, Value.int (nI (r + 1)))]
          rw [nI_1, orR, if_neg (by simpa using hs)]
        · conv => whnf
          rintro v rfl
          conv => whnf
          rintro v rfl
          conv => whnf
          refine ⟨n - (r + 1), by omega, r + 1, by omega, ?_, rfl, rfl⟩
          have hs : sn px py ph vi p.toNatClampNeg (rx r) (ry r) h.toNatClampNeg := Decidable.byContradiction (fun z => by
            rw [hb, bI, if_neg z] at c2
            exact absurd rfl c2)
          show [_, _, _, (3, Value.int (orR _ r ||| _)), (4, Value.int (nI r + 1))] = [_, _, _, (3, Value.int (orR _ (r + 1))), (4, Value.int (nI (r + 1)))]
          rw [nI_1, orR, if_pos (by simpa using hs)]
    · exact absurd hq List.not_mem_nil
  · conv => whnf
    rintro v rfl
    conv => whnf
    rintro v rfl
    conv => whnf
    exact ⟨n, by omega, 0, by omega, rfl, rfl, rfl⟩
theorem rv_X2_reachesSeenBy : rz_Rv yX2_reachesSeenBy.cls ce_X2_reachesSeenBy := fun av w h => by
  obtain ⟨_, _, _, _, _, _, _, _, _, _, _, rfl, rfl, _⟩ := h
  exact ⟨_, _, _, _, _, _, rfl, rfl, rfl⟩
theorem cn_X2_reachesSeenBy (l : Launch) : rz_Con l yX2_reachesSeenBy cX2_reachesSeenBy 5 (some .int) 1 0 0 ce_X2_reachesSeenBy := rz_con (by decide +kernel) fo_X2 (fun _ h => absurd h List.not_mem_nil) (by
  intro q hq
  rcases List.mem_cons.mp hq with rfl | hq
  · exact rz_callV (cn_X2_isSeen l) (by decide +kernel) ⟨Nat.le_of_ble_eq_true rfl, Nat.le_of_ble_eq_true rfl⟩ m_X2_isSeen rfl i_X2_isSeen v_X2_isSeen rv_X2_isSeen n_X2_50
  exact absurd hq List.not_mem_nil) r_X2_reachesSeenBy vc_X2_reachesSeenBy
def sb (px py ph vi rx ry : Nat → Int32) (m hN p : Nat) : Int32 := orR (fun r => decide (sn px py ph vi p (rx r) (ry r) hN)) m
def sbw (w : rz_W) (h : Int32) (p : Nat) : Int32 := sb (rI w 2) (rI w 3) (rI w 4) (rI w 7) (rI w 5) (rI w 6) (rF w 1 8).toNatClampNeg h.toNatClampNeg p
def orP (f : Nat → Int32) : Nat → Int32
  | 0 => 0
  | n + 1 => orP f n ||| f n
def fl (f sp : Nat → Int32) : Nat → Nat → Int32
  | 0 => sp
  | n + 1 => upd (fl f sp n) n (f n)
def ce_X2_reachesSeen : rz_K := (2, kLk, 0, false, fun av w => ∃ (px py ph rx ry vi sp : Nat → Int32) (h : Int32) (n m : Nat), av = [.ref 1, .int h] ∧ w = wLk px py ph rx ry vi sp (nI n) (nI m) ∧ vp_in h 334 ∧ n ≤ 6 ∧ m ≤ 8, fun av w o w' => rR o = orP (sbw w (rA av 1)) (rF w 1 7).toNatClampNeg ∧ w' = rz_set w 8 (ri 6 (fl (sbw w (rA av 1)) (rI w 8) (rF w 1 7).toNatClampNeg)))
def cl_X2_reachesSeen : List (Nat × rz_K) := []
def cv_X2_reachesSeen : List (Nat × rz_K) := [(54, ce_X2_reachesSeenBy)]
theorem vc_X2_reachesSeen : rz_VC k_X2_reachesSeen fl_X2 cl_X2_reachesSeen cv_X2_reachesSeen s_X2_reachesSeen false 4 ce_X2_reachesSeen := by
  intro av w hlen hk hpre
  obtain ⟨px, py, ph, rx, ry, vi, sp, h, n, m, rfl, rfl, hh, hn, hm⟩ := hpre
  generalize hf : sbw (wLk px py ph rx ry vi sp (nI n) (nI m)) h = f
  have hf2 : ∀ p, f p = orR (fun r => decide (sn px py ph vi p (rx r) (ry r) h.toNatClampNeg)) m := fun p => by
    rw [← hf]
    show orR _ (nI m).toNatClampNeg = _
    rw [nI_clamp (by omega)]
    rfl
  refine ⟨Nat.le_of_ble_eq_true rfl, [(4, [0, 1, 2, 3], fun k lv w' => ∃ i : Nat, i ≤ n ∧ lv = [(0, .ref 1), (1, .int h), (2, .int (orP f i)), (3, .int (nI i))] ∧ w' = wLk px py ph rx ry vi (fl f sp i) (nI n) (nI m) ∧ k = n - i)], 60, n + 1, ?_, ?_⟩
  · intro q hq k lv w' hj
    rcases List.mem_cons.mp hq with rfl | hq
    · obtain ⟨i, hi, rfl, rfl, rfl⟩ := hj
      conv => whnf
      refine ⟨fun c => ?_, fun c => ?_⟩
      · have e : i = n := by
          have := (nI_leI (by omega) (by omega)).mp c
          omega
        subst e
        refine ⟨⟨_, rfl⟩, fun z => (by cases z), ?_, ?_⟩
        · show orP f i = orP (sbw (wLk px py ph rx ry vi sp (nI i) (nI m)) h) (nI i).toNatClampNeg
          rw [hf, nI_clamp (by omega)]
        · show wLk px py ph rx ry vi (fl f sp i) (nI i) (nI m) = wLk px py ph rx ry vi (fl (sbw (wLk px py ph rx ry vi sp (nI i) (nI m)) h) sp (nI i).toNatClampNeg) (nI i) (nI m)
          rw [hf, nI_clamp (by omega)]
      · have hi2 : i < n := by
          rcases Nat.lt_or_ge i n with z | z
          · exact z
          · exact absurd (nI_le z (by omega)) c
        have hv : vp_in (nI i) 6 := vp_in_nI (by omega) (by omega)
        conv => whnf
        refine ⟨⟨px, py, ph, rx, ry, vi, fl f sp i, nI n, nI i, h, m, rfl, rfl, hv, hh, hm⟩, ?_⟩
        intro r hr
        have hr : r = orR (fun r => decide (sn px py ph vi (nI i).toNatClampNeg (rx r) (ry r) h.toNatClampNeg)) (nI m).toNatClampNeg := hr
        rw [nI_clamp (by omega), nI_clamp (by omega), ← hf2] at hr
        subst hr
        conv => whnf
        refine ⟨hv, ?_⟩
        conv => whnf
        refine ⟨hv, ?_⟩
        conv => whnf
        rintro _ rfl
        conv => whnf
        rintro _ rfl
        conv => whnf
        refine ⟨n - (i + 1), by omega, i + 1, by omega, ?_, ?_, rfl⟩
        · show [_, _, (2, Value.int (orP f i ||| upd (fl f sp i) (nI i).toNatClampNeg (f i) (nI i).toNatClampNeg)), (3, Value.int (nI i + 1))] = [_, _, (2, Value.int (orP f (i + 1))), (3, Value.int (nI (i + 1)))]
          rw [nI_1, pk_us]
          rfl
        · show wLk px py ph rx ry vi (upd (fl f sp i) (nI i).toNatClampNeg (f i)) (nI n) (nI m) = _
          rw [nI_clamp (by omega)]
          rfl
    · exact absurd hq List.not_mem_nil
  · conv => whnf
    rintro _ rfl
    conv => whnf
    rintro _ rfl
    conv => whnf
    refine ⟨n, by omega, 0, by omega, rfl, rfl, rfl⟩
theorem rv_X2_reachesSeen : rz_Rv yX2_reachesSeen.cls ce_X2_reachesSeen := fun av w h => by
  obtain ⟨_, _, _, _, _, _, _, _, _, _, rfl, rfl, _⟩ := h
  exact ⟨_, _, _, _, _, _, rfl, rfl, rfl⟩
theorem cn_X2_reachesSeen (l : Launch) : rz_Con l yX2_reachesSeen cX2_reachesSeen 4 (some .int) 2 0 0 ce_X2_reachesSeen := rz_con (by decide +kernel) fo_X2 (fun _ h => absurd h List.not_mem_nil) (by
  intro q hq
  rcases List.mem_cons.mp hq with rfl | hq
  · exact rz_callV (cn_X2_reachesSeenBy l) (by decide +kernel) ⟨Nat.le_of_ble_eq_true rfl, Nat.le_of_ble_eq_true rfl⟩ m_X2_reachesSeenBy rfl i_X2_reachesSeenBy v_X2_reachesSeenBy rv_X2_reachesSeenBy n_X2_54
  exact absurd hq List.not_mem_nil) r_X2_reachesSeen vc_X2_reachesSeen
theorem rz_shl1 : ∀ n, n < 9 → (1 : Int32) <<< (nI n &&& 31) = nI (2 ^ n) ∧ (1 : Int32) <<< (nI n &&& 31) - 1 = nI (2 ^ n - 1) := by decide
def ce_X2_reachesUnseen : rz_K := (2, kLk, 0, false, fun av w => ∃ (px py ph rx ry vi sp : Nat → Int32) (h : Int32) (n m : Nat), av = [.ref 1, .int h] ∧ w = wLk px py ph rx ry vi sp (nI n) (nI m) ∧ vp_in h 334 ∧ n ≤ 6 ∧ m ≤ 8, fun av w o w' => rR o = ((1 : Int32) <<< (rF w 1 8 &&& 31) - 1) &&& (orP (sbw w (rA av 1)) (rF w 1 7).toNatClampNeg ^^^ (-1)) ∧ w' = rz_set w 8 (ri 6 (fl (sbw w (rA av 1)) (rI w 8) (rF w 1 7).toNatClampNeg)))
def cl_X2_reachesUnseen : List (Nat × rz_K) := []
def cv_X2_reachesUnseen : List (Nat × rz_K) := [(58, ce_X2_reachesSeen)]
theorem vc_X2_reachesUnseen : rz_VC k_X2_reachesUnseen fl_X2 cl_X2_reachesUnseen cv_X2_reachesUnseen s_X2_reachesUnseen false 2 ce_X2_reachesUnseen := by
  intro av w hlen hk hpre
  obtain ⟨px, py, ph, rx, ry, vi, sp, h, n, m, rfl, rfl, hh, hn, hm⟩ := hpre
  refine ⟨Nat.le_of_ble_eq_true rfl, [], 30, 0, fun q h => absurd h List.not_mem_nil, ?_⟩
  conv => whnf
  refine ⟨⟨px, py, ph, rx, ry, vi, sp, h, n, m, rfl, rfl, hh, hn, hm⟩, ?_⟩
  intro r w' hr
  obtain ⟨hr, rfl⟩ := hr
  conv => whnf
  refine ⟨⟨_, rfl⟩, fun z => (by cases z), ?_, rfl⟩
  show ((1 : Int32) <<< (nI m &&& 31) - 1) &&& (r ^^^ (-1)) = _
  rw [show r = _ from hr]
  rfl
theorem rv_X2_reachesUnseen : rz_Rv yX2_reachesUnseen.cls ce_X2_reachesUnseen := fun av w h => by
  obtain ⟨_, _, _, _, _, _, _, _, _, _, rfl, rfl, _⟩ := h
  exact ⟨_, _, _, _, _, _, rfl, rfl, rfl⟩
theorem cn_X2_reachesUnseen (l : Launch) : rz_Con l yX2_reachesUnseen cX2_reachesUnseen 2 (some .int) 3 0 0 ce_X2_reachesUnseen := rz_con (by decide +kernel) fo_X2 (fun _ h => absurd h List.not_mem_nil) (by
  intro q hq
  rcases List.mem_cons.mp hq with rfl | hq
  · exact rz_callV (cn_X2_reachesSeen l) (by decide +kernel) ⟨Nat.le_of_ble_eq_true rfl, Nat.le_of_ble_eq_true rfl⟩ m_X2_reachesSeen rfl i_X2_reachesSeen v_X2_reachesSeen rv_X2_reachesSeen n_X2_58
  exact absurd hq List.not_mem_nil) r_X2_reachesUnseen vc_X2_reachesUnseen
def orS (set : Int32) (f : Nat → Int32) : Nat → Int32
  | 0 => 0
  | n + 1 => if (set >>> (nI n &&& 31)) &&& 1 = 1 then orS set f n ||| f n else orS set f n
def ce_X2_seenBySet : rz_K := (2, kLk, 0, true, fun av w => ∃ (px py ph rx ry vi sp : Nat → Int32) (re t : Int32) (n : Nat), av = [.ref 1, .int t] ∧ w = wLk px py ph rx ry vi sp (nI n) re ∧ n ≤ 6, fun av w o _ => rR o = orS (rA av 1) (rI w 8) (rF w 1 7).toNatClampNeg)
def cl_X2_seenBySet : List (Nat × rz_K) := []
def cv_X2_seenBySet : List (Nat × rz_K) := []
theorem vc_X2_seenBySet : rz_VC k_X2_seenBySet fl_X2 cl_X2_seenBySet cv_X2_seenBySet s_X2_seenBySet false 4 ce_X2_seenBySet := by
  intro av w hlen hk hpre
  obtain ⟨px, py, ph, rx, ry, vi, sp, re, t, n, rfl, rfl, hn⟩ := hpre
  refine ⟨Nat.le_of_ble_eq_true rfl, [(4, [0, 1, 2, 3], fun k lv w' => ∃ i : Nat, i ≤ n ∧ lv = [(0, .ref 1), (1, .int t), (2, .int (orS t sp i)), (3, .int (nI i))] ∧ w' = wLk px py ph rx ry vi sp (nI n) re ∧ k = n - i)], 60, n + 1, ?_, ?_⟩
  · intro q hq k lv w' hj
    rcases List.mem_cons.mp hq with rfl | hq
    · obtain ⟨i, hi, rfl, rfl, rfl⟩ := hj
      conv => whnf
      refine ⟨fun c => ?_, fun c => ?_⟩
      · have e : i = n := by
          have := (nI_leI (by omega) (by omega)).mp c
          omega
        subst e
        refine ⟨⟨_, rfl⟩, fun _ => rfl, ?_⟩
        show orS t sp i = orS t sp (nI i).toNatClampNeg
        rw [nI_clamp (by omega)]
      · have hi2 : i < n := by
          rcases Nat.lt_or_ge i n with z | z
          · exact z
          · exact absurd (nI_le z (by omega)) c
        have hv : vp_in (nI i) 6 := vp_in_nI (by omega) (by omega)
        conv => whnf
        refine ⟨fun c2 => ?_, fun c2 => ?_⟩
        · conv => whnf
          refine ⟨hv, ?_⟩
          conv => whnf
          rintro _ rfl
          conv => whnf
          rintro _ rfl
          conv => whnf
          refine ⟨n - (i + 1), by omega, i + 1, by omega, ?_, rfl, rfl⟩
          show [_, _, (2, Value.int (orS t sp i ||| sp (nI i).toNatClampNeg)), (3, Value.int (nI i + 1))] = [_, _, (2, Value.int (orS t sp (i + 1))), (3, Value.int (nI (i + 1)))]
          rw [nI_1, nI_clamp (by omega), orS, if_pos c2]
        · conv => whnf
          rintro _ rfl
          conv => whnf
          refine ⟨n - (i + 1), by omega, i + 1, by omega, ?_, rfl, rfl⟩
          show [_, _, (2, Value.int (orS t sp i)), (3, Value.int (nI i + 1))] = [_, _, (2, Value.int (orS t sp (i + 1))), (3, Value.int (nI (i + 1)))]
          rw [nI_1, orS, if_neg c2]
    · exact absurd hq List.not_mem_nil
  · conv => whnf
    rintro _ rfl
    conv => whnf
    rintro _ rfl
    conv => whnf
    refine ⟨n, by omega, 0, by omega, rfl, rfl, rfl⟩
theorem rv_X2_seenBySet : rz_Rv yX2_seenBySet.cls ce_X2_seenBySet := fun av w h => by
  obtain ⟨_, _, _, _, _, _, _, _, _, _, rfl, rfl, _⟩ := h
  exact ⟨_, _, _, _, _, _, rfl, rfl, rfl⟩
theorem cn_X2_seenBySet (l : Launch) : rz_Con l yX2_seenBySet cX2_seenBySet 4 (some .int) 0 0 0 ce_X2_seenBySet := rz_con (by decide +kernel) fo_X2 (fun _ h => absurd h List.not_mem_nil) (fun _ h => absurd h List.not_mem_nil) r_X2_seenBySet vc_X2_seenBySet
def bestU (ok : Nat → Bool) (b0 : Int32) : Nat → Int32
  | 0 => b0
  | t + 1 => if bc (nI t) < bc (bestU ok b0 t) ∧ ok t = true then nI t else bestU ok b0 t
def ce_X2_fewestPosts : rz_K := (2, kLk, 0, false, fun av w => ∃ (px py ph rx ry vi sp : Nat → Int32) (h : Int32) (n m : Nat), av = [.ref 1, .int h] ∧ w = wLk px py ph rx ry vi sp (nI n) (nI m) ∧ vp_in h 334 ∧ n ≤ 6 ∧ m ≤ 8, fun av w o w' => rR o = bestU (fun t => decide (orS (nI t) (fl (sbw w (rA av 1)) (rI w 8) (rF w 1 7).toNatClampNeg) (rF w 1 7).toNatClampNeg = orP (sbw w (rA av 1)) (rF w 1 7).toNatClampNeg)) (nI (2 ^ (rF w 1 7).toNatClampNeg - 1)) (2 ^ (rF w 1 7).toNatClampNeg) ∧ w' = rz_set w 8 (ri 6 (fl (sbw w (rA av 1)) (rI w 8) (rF w 1 7).toNatClampNeg)))
def cl_X2_fewestPosts : List (Nat × rz_K) := [(62, ce_J6_bitCount_0f7a4)]
def cv_X2_fewestPosts : List (Nat × rz_K) := [(58, ce_X2_reachesSeen), (67, ce_X2_seenBySet)]
theorem vc_X2_fewestPosts : rz_VC k_X2_fewestPosts fl_X2 cl_X2_fewestPosts cv_X2_fewestPosts s_X2_fewestPosts false 5 ce_X2_fewestPosts := by
  intro av w hlen hk hpre
  obtain ⟨px, py, ph, rx, ry, vi, sp, h, n, m, rfl, rfl, hh, hn, hm⟩ := hpre
  have hcl : (nI n).toNatClampNeg = n := nI_clamp (by omega)
  obtain ⟨hs1, hs2⟩ := rz_shl1 n (by omega)
  have hpow : 2 ^ n ≤ 64 := Nat.le_trans (Nat.pow_le_pow_right (by omega) hn) (by decide)
  generalize hf : sbw (wLk px py ph rx ry vi sp (nI n) (nI m)) h = f
  generalize hB : bestU (fun t => decide (orS (nI t) (fl f sp n) n = orP f n)) (nI (2 ^ n - 1)) = B
  have hend : ∀ x, x = B (2 ^ n) → rz_end ce_X2_fewestPosts [.ref 1, .int h] (wLk px py ph rx ry vi sp (nI n) (nI m)) (some (.int x)) (wLk px py ph rx ry vi (fl f sp n) (nI n) (nI m)) := by
    intro x hx
    refine ⟨⟨_, rfl⟩, fun z => (by cases z), ?_, ?_⟩
    · show x = bestU (fun t => decide (orS (nI t) (fl (sbw (wLk px py ph rx ry vi sp (nI n) (nI m)) h) sp (nI n).toNatClampNeg) (nI n).toNatClampNeg = orP (sbw (wLk px py ph rx ry vi sp (nI n) (nI m)) h) (nI n).toNatClampNeg)) (nI (2 ^ (nI n).toNatClampNeg - 1)) (2 ^ (nI n).toNatClampNeg)
      rw [hcl, hf, hB, hx]
    · show wLk px py ph rx ry vi (fl f sp n) (nI n) (nI m) = wLk px py ph rx ry vi (fl (sbw (wLk px py ph rx ry vi sp (nI n) (nI m)) h) sp (nI n).toNatClampNeg) (nI n) (nI m)
      rw [hcl, hf]
  refine ⟨Nat.le_of_ble_eq_true rfl, [(18, [0, 1, 2, 3, 4], fun k lv w' => ∃ t : Nat, t ≤ 2 ^ n ∧ lv = [(0, .ref 1), (1, .int h), (2, .int (orP f n)), (3, .int (B t)), (4, .int (nI t))] ∧ w' = wLk px py ph rx ry vi (fl f sp n) (nI n) (nI m) ∧ k = 2 ^ n - t)], 60, 2 ^ n + 1, ?_, ?_⟩
  · intro q hq k lv w' hj
    rcases List.mem_cons.mp hq with rfl | hq
    · obtain ⟨t, ht, rfl, rfl, rfl⟩ := hj
      conv => whnf
      refine ⟨fun c => ?_, fun c => ?_⟩
      · have c : (1 : Int32) <<< (nI n &&& 31) ≤ nI t := c
        rw [hs1] at c
        have e : t = 2 ^ n := by
          have := (nI_leI (by omega) (by omega)).mp c
          omega
        subst e
        exact hend _ rfl
      · have c : ¬ (1 : Int32) <<< (nI n &&& 31) ≤ nI t := c
        rw [hs1] at c
        have ht2 : t < 2 ^ n := by
          rcases Nat.lt_or_ge t (2 ^ n) with z | z
          · exact z
          · exact absurd (nI_le z (by omega)) c
        conv => whnf
        refine ⟨⟨_, rfl, rfl, trivial⟩, ?_⟩
        intro r1 hr1
        obtain rfl : r1 = bc (nI t) := hr1
        conv => whnf
        refine ⟨⟨_, rfl, rfl, trivial⟩, ?_⟩
        intro r2 hr2
        obtain rfl : r2 = bc (B t) := hr2
        have stay : ¬ (bc (nI t) < bc (B t) ∧ decide (orS (nI t) (fl f sp n) n = orP f n) = true) → B (t + 1) = B t := fun z => by
          rw [← hB] at z ⊢
          exact if_neg z
        conv => whnf
        refine ⟨fun c2 => ?_, fun c2 => ?_⟩
        · conv => whnf
          rintro _ rfl
          conv => whnf
          refine ⟨2 ^ n - (t + 1), by omega, t + 1, by omega, ?_, rfl, rfl⟩
          show [_, _, _, (3, Value.int (B t)), (4, Value.int (nI t + 1))] = [_, _, _, (3, Value.int (B (t + 1))), (4, Value.int (nI (t + 1)))]
          rw [nI_1, stay (fun z => absurd z.1 ((i32_not_lt _ _).mpr c2))]
        · conv => whnf
          refine ⟨⟨px, py, ph, rx, ry, vi, fl f sp n, nI m, nI t, n, rfl, rfl, hn⟩, ?_⟩
          intro r3 hr3
          have hr3 : r3 = orS (nI t) (fl f sp n) (nI n).toNatClampNeg := hr3
          rw [hcl] at hr3
          subst hr3
          conv => whnf
          refine ⟨fun c3 => ?_, fun c3 => ?_⟩
          · conv => whnf
            rintro _ rfl
            conv => whnf
            rintro _ rfl
            conv => whnf
            refine ⟨2 ^ n - (t + 1), by omega, t + 1, by omega, ?_, rfl, rfl⟩
            show [_, _, _, (3, Value.int (nI t)), (4, Value.int (nI t + 1))] = [_, _, _, (3, Value.int (B (t + 1))), (4, Value.int (nI (t + 1)))]
            have e : B (t + 1) = nI t := by
              rw [← hB] at c2 ⊢
              exact if_pos ⟨(i32_not_le _ _).mp c2, by simpa using c3⟩
            rw [nI_1, e]
          · conv => whnf
            rintro _ rfl
            conv => whnf
            refine ⟨2 ^ n - (t + 1), by omega, t + 1, by omega, ?_, rfl, rfl⟩
            show [_, _, _, (3, Value.int (B t)), (4, Value.int (nI t + 1))] = [_, _, _, (3, Value.int (B (t + 1))), (4, Value.int (nI (t + 1)))]
            rw [nI_1, stay (fun z => c3 (by simpa using z.2))]
    · exact absurd hq List.not_mem_nil
  · conv => whnf
    refine ⟨⟨px, py, ph, rx, ry, vi, sp, h, n, m, rfl, rfl, hh, hn, hm⟩, ?_⟩
    intro r w' hr
    obtain ⟨hr, rfl⟩ := hr
    have hr : r = orP (sbw (wLk px py ph rx ry vi sp (nI n) (nI m)) h) (nI n).toNatClampNeg := hr
    rw [hcl, hf] at hr
    subst hr
    conv => whnf
    rintro _ rfl
    conv => whnf
    rintro _ rfl
    conv => whnf
    rintro _ rfl
    conv => whnf
    refine ⟨2 ^ n, by omega, 0, Nat.zero_le _, ?_, ?_, rfl⟩
    · show [_, _, (2, Value.int (orP f n)), (3, Value.int ((1 : Int32) <<< (nI n &&& 31) - 1)), (4, Value.int 0)] = [_, _, (2, Value.int (orP f n)), (3, Value.int (B 0)), (4, Value.int (nI 0))]
      rw [hs2, ← hB]
      rfl
    · show wLk px py ph rx ry vi (fl (sbw (wLk px py ph rx ry vi sp (nI n) (nI m)) h) sp (nI n).toNatClampNeg) (nI n) (nI m) = _
      rw [hcl, hf]
theorem rv_X2_fewestPosts : rz_Rv yX2_fewestPosts.cls ce_X2_fewestPosts := fun av w h => by
  obtain ⟨_, _, _, _, _, _, _, _, _, _, rfl, rfl, _⟩ := h
  exact ⟨_, _, _, _, _, _, rfl, rfl, rfl⟩
theorem cn_X2_fewestPosts (l : Launch) : rz_Con l yX2_fewestPosts cX2_fewestPosts 5 (some .int) 3 0 0 ce_X2_fewestPosts := rz_con (by decide +kernel) fo_X2 (by
  intro q hq
  rcases List.mem_cons.mp hq with rfl | hq
  · exact rz_callS (cn_J6_bitCount_0f7a4 l) (by decide +kernel) ⟨Nat.le_of_ble_eq_true rfl, Nat.le_of_ble_eq_true rfl⟩ m_J6_bitCount_0f7a4 t_J6_bitCount_0f7a4 n_X2_62
  exact absurd hq List.not_mem_nil) (by
  intro q hq
  rcases List.mem_cons.mp hq with rfl | hq
  · exact rz_callV (cn_X2_reachesSeen l) (by decide +kernel) ⟨Nat.le_of_ble_eq_true rfl, Nat.le_of_ble_eq_true rfl⟩ m_X2_reachesSeen rfl i_X2_reachesSeen v_X2_reachesSeen rv_X2_reachesSeen n_X2_58
  rcases List.mem_cons.mp hq with rfl | hq
  · exact rz_callV (cn_X2_seenBySet l) (by decide +kernel) ⟨Nat.le_of_ble_eq_true rfl, Nat.le_of_ble_eq_true rfl⟩ m_X2_seenBySet rfl i_X2_seenBySet v_X2_seenBySet rv_X2_seenBySet n_X2_67
  exact absurd hq List.not_mem_nil) r_X2_fewestPosts vc_X2_fewestPosts
theorem i32_asc (x : Int32) : x + 1 - 1 = x := by rw [Int32.add_sub_cancel]
def ce_X2_addPost : rz_K := (4, kLk, 0, false, fun av w => ∃ (px py ph rx ry vi sp : Nat → Int32) (re x y z : Int32) (n : Nat), av = [.ref 1, .int x, .int y, .int z] ∧ w = wLk px py ph rx ry vi sp (nI n) re ∧ n ≤ 6, fun av w o w' => ∀ n : Nat, rF w 1 7 = nI n → n ≤ 6 → if n < 6 then rR o = nI n ∧ w' = wLk (upd (rI w 2) n (rA av 1)) (upd (rI w 3) n (rA av 2)) (upd (rI w 4) n (rA av 3)) (rI w 5) (rI w 6) (rI w 7) (rI w 8) (nI (n + 1)) (rF w 1 8) else rR o = -1 ∧ w' = w)
theorem nI_inj {a b : Nat} (ha : a < 2 ^ 31) (hb : b < 2 ^ 31) (h : nI a = nI b) : a = b := (nI_eq ha hb).mp h
def cl_X2_addPost : List (Nat × rz_K) := []
def cv_X2_addPost : List (Nat × rz_K) := []
theorem vc_X2_addPost : rz_VC k_X2_addPost fl_X2 cl_X2_addPost cv_X2_addPost s_X2_addPost false 4 ce_X2_addPost := by
  intro av w hlen hk hpre
  obtain ⟨px, py, ph, rx, ry, vi, sp, re, x, y, z, n, rfl, rfl, hn⟩ := hpre
  refine ⟨Nat.le_of_ble_eq_true rfl, [], 60, 0, fun q h => absurd h List.not_mem_nil, ?_⟩
  conv => whnf
  refine ⟨fun c => ?_, fun c => ?_⟩
  · have c : nI n < nI 6 := c
    have hn2 : n < 6 := (nI_ltI (by omega) (by omega)).mp c
    have hv : vp_in (nI n) 6 := vp_in_nI hn2 (by omega)
    conv => whnf
    refine ⟨hv, ?_⟩
    conv => whnf
    refine ⟨hv, ?_⟩
    conv => whnf
    refine ⟨hv, ?_⟩
    conv => whnf
    refine ⟨⟨_, rfl⟩, fun z => (by cases z), ?_⟩
    intro n' e hn'
    have e : n = n' := nI_inj (by omega) (by omega) e
    subst e
    rw [if_pos hn2]
    refine ⟨?_, ?_⟩
    · show nI n + 1 - 1 = nI n
      exact i32_asc _
    · show wLk (upd px (nI n).toNatClampNeg x) (upd py (nI n).toNatClampNeg y) (upd ph (nI n).toNatClampNeg z) rx ry vi sp (nI n + 1) re = _
      rw [nI_1, nI_clamp (by omega)]
      rfl
  · have c : ¬ nI n < nI 6 := c
    refine ⟨⟨_, rfl⟩, fun z => (by cases z), ?_⟩
    intro n' e hn'
    have e : n = n' := nI_inj (by omega) (by omega) e
    subst e
    rw [if_neg (fun z => c (nI_lt z (by omega)))]
    exact ⟨rfl, rfl⟩
theorem rv_X2_addPost : rz_Rv yX2_addPost.cls ce_X2_addPost := fun av w h => by
  obtain ⟨_, _, _, _, _, _, _, _, _, _, _, _, rfl, rfl, _⟩ := h
  exact ⟨_, _, _, _, _, _, rfl, rfl, rfl⟩
theorem cn_X2_addPost (l : Launch) : rz_Con l yX2_addPost cX2_addPost 4 (some .int) 0 0 0 ce_X2_addPost := rz_con (by decide +kernel) fo_X2 (fun _ h => absurd h List.not_mem_nil) (fun _ h => absurd h List.not_mem_nil) r_X2_addPost vc_X2_addPost
def ce_X2_addReach : rz_K := (3, kLk, 0, false, fun av w => ∃ (px py ph rx ry vi sp : Nat → Int32) (po x y : Int32) (n : Nat), av = [.ref 1, .int x, .int y] ∧ w = wLk px py ph rx ry vi sp po (nI n) ∧ n ≤ 8, fun av w o w' => ∀ n : Nat, rF w 1 8 = nI n → n ≤ 8 → if n < 8 then rR o = nI n ∧ w' = wLk (rI w 2) (rI w 3) (rI w 4) (upd (rI w 5) n (rA av 1)) (upd (rI w 6) n (rA av 2)) (rI w 7) (rI w 8) (rF w 1 7) (nI (n + 1)) else rR o = -1 ∧ w' = w)
def cl_X2_addReach : List (Nat × rz_K) := []
def cv_X2_addReach : List (Nat × rz_K) := []
theorem vc_X2_addReach : rz_VC k_X2_addReach fl_X2 cl_X2_addReach cv_X2_addReach s_X2_addReach false 3 ce_X2_addReach := by
  intro av w hlen hk hpre
  obtain ⟨px, py, ph, rx, ry, vi, sp, po, x, y, n, rfl, rfl, hn⟩ := hpre
  refine ⟨Nat.le_of_ble_eq_true rfl, [], 60, 0, fun q h => absurd h List.not_mem_nil, ?_⟩
  conv => whnf
  refine ⟨fun c => ?_, fun c => ?_⟩
  · have c : nI n < nI 8 := c
    have hn2 : n < 8 := (nI_ltI (by omega) (by omega)).mp c
    have hv : vp_in (nI n) 8 := vp_in_nI hn2 (by omega)
    conv => whnf
    refine ⟨hv, ?_⟩
    conv => whnf
    refine ⟨hv, ?_⟩
    conv => whnf
    refine ⟨⟨_, rfl⟩, fun z => (by cases z), ?_⟩
    intro n' e hn'
    have e : n = n' := nI_inj (by omega) (by omega) e
    subst e
    rw [if_pos hn2]
    refine ⟨?_, ?_⟩
    · show nI n + 1 - 1 = nI n
      exact i32_asc _
    · show wLk px py ph (upd rx (nI n).toNatClampNeg x) (upd ry (nI n).toNatClampNeg y) vi sp po (nI n + 1) = _
      rw [nI_1, nI_clamp (by omega)]
      rfl
  · have c : ¬ nI n < nI 8 := c
    refine ⟨⟨_, rfl⟩, fun z => (by cases z), ?_⟩
    intro n' e hn'
    have e : n = n' := nI_inj (by omega) (by omega) e
    subst e
    rw [if_neg (fun z => c (nI_lt z (by omega)))]
    exact ⟨rfl, rfl⟩
theorem rv_X2_addReach : rz_Rv yX2_addReach.cls ce_X2_addReach := fun av w h => by
  obtain ⟨_, _, _, _, _, _, _, _, _, _, _, rfl, rfl, _⟩ := h
  exact ⟨_, _, _, _, _, _, rfl, rfl, rfl⟩
theorem cn_X2_addReach (l : Launch) : rz_Con l yX2_addReach cX2_addReach 3 (some .int) 0 0 0 ce_X2_addReach := rz_con (by decide +kernel) fo_X2 (fun _ h => absurd h List.not_mem_nil) (fun _ h => absurd h List.not_mem_nil) r_X2_addReach vc_X2_addReach
