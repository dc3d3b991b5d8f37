/-! Lookouts: posts, reaches, weather. -/
theorem vp_of {j : Int32} {n : Nat} {m : Int32} (h0 : 0 ≤ j) (h1 : ¬ m ≤ j) (hm : m.toInt = (n : Int)) : vp_in j n := by
  rw [vp_in_iff]
  rw [Int32.le_iff_toInt_le] at h0 h1
  have : (0 : Int32).toInt = 0 := rfl
  omega
theorem bI_01 (c : Prop) [Decidable c] : bI c = 0 ∨ bI c = 1 := by
  by_cases h : c
  · right; exact if_pos h
  · left; exact if_neg h
theorem nI_zero {n : Nat} : (0 : Int32) ≤ nI n ↔ ¬ nI n < 0 := by rw [i32_not_lt]
def ce_X2_hasPost : rz_K := (2, kLk, 0, true, fun av w => ∃ (px py ph rx ry vi sp : Nat → Int32) (po re p : Int32), av = [.ref 1, .int p] ∧ w = wLk px py ph rx ry vi sp po re ∧ True, fun av w o _ => rR o = bI (0 ≤ rA av 1 ∧ rA av 1 ≤ rF w 1 7 - 1))
def cl_X2_hasPost : List (Nat × rz_K) := [(46, ce_X6_isWithin)]
def cv_X2_hasPost : List (Nat × rz_K) := []
theorem vc_X2_hasPost : rz_VC k_X2_hasPost fl_X2 cl_X2_hasPost cv_X2_hasPost s_X2_hasPost true 2 ce_X2_hasPost := by
  intro av w hlen hk hpre
  obtain ⟨px, py, ph, rx, ry, vi, sp, po, re, p, rfl, rfl, -⟩ := hpre
  refine ⟨Nat.le_of_ble_eq_true rfl, [], 30, 0, fun q h => absurd h List.not_mem_nil, ?_⟩
  conv => whnf
  refine ⟨⟨_, _, _, rfl, rfl, trivial⟩, ?_⟩
  intro r hr
  conv => whnf
  refine ⟨?_, ⟨_, rfl⟩, fun _ => rfl, hr⟩
  rw [show r = _ from hr]
  exact bI_01 _
theorem rv_X2_hasPost : rz_Rv yX2_hasPost.cls ce_X2_hasPost := fun av w h => by
  obtain ⟨_, _, _, _, _, _, _, _, _, _, rfl, rfl, _⟩ := h
  exact ⟨_, _, _, _, _, _, rfl, rfl, rfl⟩
theorem cn_X2_hasPost (l : Launch) : rz_Con l yX2_hasPost cX2_hasPost 2 (some .boolean) 1 0 0 ce_X2_hasPost := rz_con (by decide +kernel) fo_X2 (by
  intro q hq
  rcases List.mem_cons.mp hq with rfl | hq
  · exact rz_callSN (cn_X6_isWithin l) (by decide +kernel) ⟨Nat.le_of_ble_eq_true rfl, Nat.le_of_ble_eq_true rfl⟩ m_X6_isWithin t_X6_isWithin n_X2_46
  exact absurd hq List.not_mem_nil) (fun _ h => absurd h List.not_mem_nil) r_X2_hasPost vc_X2_hasPost
abbrev sn (px py ph vi : Nat → Int32) (p : Nat) (x y : Int32) (h : Nat) : Prop := (px p - x) * (px p - x) + (py p - y) * (py p - y) ≤ vi h * vi h ∧ (px p - x) * (px p - x) + (py p - y) * (py p - y) ≤ 1274 * ph p
def ce_X2_isSeen : rz_K := (5, kLk, 0, true, fun av w => ∃ (px py ph rx ry vi sp : Nat → Int32) (po re p x y h : Int32), av = [.ref 1, .int p, .int x, .int y, .int h] ∧ w = wLk px py ph rx ry vi sp po re ∧ vp_in p 6 ∧ vp_in h 334, fun av w o _ => rR o = bI (sn (rI w 2) (rI w 3) (rI w 4) (rI w 7) (rA av 1).toNatClampNeg (rA av 2) (rA av 3) (rA av 4).toNatClampNeg))
def cl_X2_isSeen : List (Nat × rz_K) := []
def cv_X2_isSeen : List (Nat × rz_K) := []
theorem vc_X2_isSeen : rz_VC k_X2_isSeen fl_X2 cl_X2_isSeen cv_X2_isSeen s_X2_isSeen true 9 ce_X2_isSeen := by
  intro av w hlen hk hpre
  obtain ⟨px, py, ph, rx, ry, vi, sp, po, re, p, x, y, h, rfl, rfl, hp, hh⟩ := hpre
  refine ⟨Nat.le_of_ble_eq_true rfl, [], 60, 0, fun q h => absurd h List.not_mem_nil, ?_⟩
  conv => whnf
  refine ⟨hp, ?_⟩
  conv => whnf
  rintro dx rfl
  conv => whnf
  refine ⟨hp, ?_⟩
  conv => whnf
  rintro dy rfl
  conv => whnf
  rintro sq rfl
  conv => whnf
  refine ⟨hh, ?_⟩
  conv => whnf
  rintro far rfl
  conv => whnf
  refine ⟨fun h1 => ?_, fun h1 => ?_⟩
  · exact ⟨Or.inl rfl, ⟨_, rfl⟩, fun _ => rfl, (if_neg (fun z => absurd z.1 ((i32_not_le _ _).mpr h1))).symm⟩
  · conv => whnf
    refine ⟨hp, ?_⟩
    conv => whnf
    refine ⟨fun h2 => ?_, fun h2 => ?_⟩
    · exact ⟨Or.inl rfl, ⟨_, rfl⟩, fun _ => rfl, (if_neg (fun z => absurd z.2 ((i32_not_le _ _).mpr h2))).symm⟩
    · exact ⟨Or.inr rfl, ⟨_, rfl⟩, fun _ => rfl, (if_pos ⟨(i32_not_lt _ _).mp h1, (i32_not_lt _ _).mp h2⟩).symm⟩
theorem rv_X2_isSeen : rz_Rv yX2_isSeen.cls ce_X2_isSeen := fun av w h => by
  obtain ⟨_, _, _, _, _, _, _, _, _, _, _, _, _, rfl, rfl, _⟩ := h
  exact ⟨_, _, _, _, _, _, rfl, rfl, rfl⟩
theorem cn_X2_isSeen (l : Launch) : rz_Con l yX2_isSeen cX2_isSeen 9 (some .boolean) 0 0 0 ce_X2_isSeen := rz_con (by decide +kernel) fo_X2 (fun _ h => absurd h List.not_mem_nil) (fun _ h => absurd h List.not_mem_nil) r_X2_isSeen vc_X2_isSeen
def orR (f : Nat → Bool) : Nat → Int32
  | 0 => 0
  | n + 1 => if f n then orR f n ||| ((1 : Int32) <<< (nI n &&& 31)) else orR f n
def ce_X2_reachesSeenBy : rz_K := (3, kLk, 0, true, fun av w => ∃ (px py ph rx ry vi sp : Nat → Int32) (po p h : Int32) (n : Nat), av = [.ref 1, .int p, .int h] ∧ w = wLk px py ph rx ry vi sp po (nI n) ∧ vp_in p 6 ∧ vp_in h 334 ∧ n ≤ 8, fun av w o _ => rR o = orR (fun r => decide (sn (rI w 2) (rI w 3) (rI w 4) (rI w 7) (rA av 1).toNatClampNeg (rI w 5 r) (rI w 6 r) (rA av 2).toNatClampNeg)) (rF w 1 8).toNatClampNeg)
def cl_X2_reachesSeenBy : List (Nat × rz_K) := []
def cv_X2_reachesSeenBy : List (Nat × rz_K) := [(50, ce_X2_isSeen)]
theorem vc_X2_reachesSeenBy : rz_VC k_X2_reachesSeenBy fl_X2 cl_X2_reachesSeenBy cv_X2_reachesSeenBy s_X2_reachesSeenBy false 5 ce_X2_reachesSeenBy := by
  intro av w hlen hk hpre
  obtain ⟨px, py, ph, rx, ry, vi, sp, po, p, h, n, rfl, rfl, hp, hh, hn⟩ := hpre
  refine ⟨Nat.le_of_ble_eq_true rfl, [(5, [0, 1, 2, 3, 4], fun k lv w' => ∃ r : Nat, r ≤ n ∧ lv = [(0, .ref 1), (1, .int p), (2, .int h), (3, .int (orR (fun r => decide (sn px py ph vi p.toNatClampNeg (rx r) (ry r) h.toNatClampNeg)) r)), (4, .int (nI r))] ∧ w' = wLk px py ph rx ry vi sp po (nI n) ∧ k = n - r)], 60, n + 1, ?_, ?_⟩
  · intro q hq k lv w' hj
    rcases List.mem_cons.mp hq with rfl | hq
    · obtain ⟨r, hr, rfl, rfl, rfl⟩ := hj
      conv => whnf
      refine ⟨fun c => ?_, fun c => ?_⟩
      · have e : r = n := by
          have := (nI_leI (by omega) (by omega)).mp c
          omega
        subst e
        refine ⟨⟨_, rfl⟩, fun _ => rfl, ?_⟩
        show orR _ r = orR _ (nI r).toNatClampNeg
        rw [nI_clamp (by omega)]
        rfl
      · have hr2 : r < n := by
          rcases Nat.lt_or_ge r n with z | z
          · exact z
          · exact absurd (nI_le z (by omega)) c
        have hv : vp_in (nI r) 8 := vp_in_nI (by omega) (by omega)
        conv => whnf
        refine ⟨hv, ?_⟩
        conv => whnf
        refine ⟨hv, ?_⟩
        conv => whnf
        refine ⟨⟨px, py, ph, rx, ry, vi, sp, po, nI n, p, _, _, h, rfl, rfl, hp, hh⟩, ?_⟩
        intro b hb
        have hb : b = bI (sn px py ph vi p.toNatClampNeg (rx (nI r).toNatClampNeg) (ry (nI r).toNatClampNeg) h.toNatClampNeg) := hb
        rw [nI_clamp (by omega)] at hb
        conv => whnf
        refine ⟨fun c2 => ?_, fun c2 => ?_⟩
        · conv => whnf
          rintro v rfl
          conv => whnf
          refine ⟨n - (r + 1), by omega, r + 1, by omega, ?_, rfl, rfl⟩
          have hs : ¬ sn px py ph vi p.toNatClampNeg (rx r) (ry r) h.toNatClampNeg := fun z => by
            rw [hb, bI, if_pos z] at c2
            exact absurd c2 (by decide)
          show [_, _, _, (3, Value.int (orR _ r)), (4, Value.int (nI r + 1))] = [_, _, _, (3, Value.int (orR _ (r + 1))), (4, Value.int (nI (r + 1)))]
          rw [nI_1, orR, if_neg (by simpa using hs)]
        · conv => whnf
          rintro v rfl
          conv => whnf
          rintro v rfl
          conv => whnf
          refine ⟨n - (r + 1), by omega, r + 1, by omega, ?_, rfl, rfl⟩
          have hs : sn px py ph vi p.toNatClampNeg (rx r) (ry r) h.toNatClampNeg := Decidable.byContradiction (fun z => by
            rw [hb, bI, if_neg z] at c2
            exact absurd rfl c2)
          show [_, _, _, (3, Value.int (orR _ r ||| _)), (4, Value.int (nI r + 1))] = [_, _, _, (3, Value.int (orR _ (r + 1))), (4, Value.int (nI (r + 1)))]
          rw [nI_1, orR, if_pos (by simpa using hs)]
    · exact absurd hq List.not_mem_nil
  · conv => whnf
    rintro v rfl
    conv => whnf
    rintro v rfl
    conv => whnf
    exact ⟨n, by omega, 0, by omega, rfl, rfl, rfl⟩
theorem rv_X2_reachesSeenBy : rz_Rv yX2_reachesSeenBy.cls ce_X2_reachesSeenBy := fun av w h => by
  obtain ⟨_, _, _, _, _, _, _, _, _, _, _, rfl, rfl, _⟩ := h
  exact ⟨_, _, _, _, _, _, rfl, rfl, rfl⟩
theorem cn_X2_reachesSeenBy (l : Launch) : rz_Con l yX2_reachesSeenBy cX2_reachesSeenBy 5 (some .int) 1 0 0 ce_X2_reachesSeenBy := rz_con (by decide +kernel) fo_X2 (fun _ h => absurd h List.not_mem_nil) (by
  intro q hq
  rcases List.mem_cons.mp hq with rfl | hq
  · exact rz_callV (cn_X2_isSeen l) (by decide +kernel) ⟨Nat.le_of_ble_eq_true rfl, Nat.le_of_ble_eq_true rfl⟩ m_X2_isSeen rfl i_X2_isSeen v_X2_isSeen rv_X2_isSeen n_X2_50
  exact absurd hq List.not_mem_nil) r_X2_reachesSeenBy vc_X2_reachesSeenBy
