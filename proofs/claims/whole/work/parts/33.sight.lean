/-! Sightings of the class; CoastWatch's meet. -/
def ce_X5_has : rz_K := (2, kSg, 0, true, fun av w => ∃ (fx fy mi ax ay bx b2 : Nat → Int32) (n s : Int32), av = [.ref 9, .int s] ∧ w = wSg fx fy mi ax ay bx b2 n ∧ True, fun av w o _ => rR o = bI (0 ≤ rA av 1 ∧ rA av 1 ≤ rF w 9 7 - 1))
def cl_X5_has : List (Nat × rz_K) := [(37, ce_X6_isWithin)]
def cv_X5_has : List (Nat × rz_K) := []
theorem vc_X5_has : rz_VC k_X5_has fl_X5 cl_X5_has cv_X5_has s_X5_has true 2 ce_X5_has := by
  intro av w hlen hk hpre
  obtain ⟨fx, fy, mi, ax, ay, bx, b2, n, s, rfl, rfl, -⟩ := hpre
  refine ⟨Nat.le_of_ble_eq_true rfl, [], 30, 0, fun q h => absurd h List.not_mem_nil, ?_⟩
  conv => whnf
  refine ⟨⟨_, _, _, rfl, rfl, trivial⟩, ?_⟩
  intro r hr
  conv => whnf
  refine ⟨?_, ⟨_, rfl⟩, fun _ => rfl, hr⟩
  rw [show r = _ from hr]
  exact bI_01 _
theorem rv_X5_has : rz_Rv yX5_has.cls ce_X5_has := fun av w h => by
  obtain ⟨_, _, _, _, _, _, _, _, _, rfl, rfl, _⟩ := h
  exact ⟨_, _, _, _, _, _, rfl, rfl, rfl⟩
theorem cn_X5_has (l : Launch) : rz_Con l yX5_has cX5_has 2 (some .boolean) 1 0 0 ce_X5_has := rz_con (by decide +kernel) fo_X5 (by
  intro q hq
  rcases List.mem_cons.mp hq with rfl | hq
  · exact rz_callSN (cn_X6_isWithin l) (by decide +kernel) ⟨Nat.le_of_ble_eq_true rfl, Nat.le_of_ble_eq_true rfl⟩ m_X6_isWithin t_X6_isWithin n_X5_37
  exact absurd hq List.not_mem_nil) (fun _ h => absurd h List.not_mem_nil) r_X5_has vc_X5_has
abbrev cmP (fx fy mi : Nat → Int32) (s t : Nat) : Prop := mi s = mi t ∧ ¬ (fx s = fx t ∧ fy s = fy t)
def ce_X5_canMeet : rz_K := (3, kSg, 0, true, fun av w => ∃ (fx fy mi ax ay bx b2 : Nat → Int32) (n s t : Int32), av = [.ref 9, .int s, .int t] ∧ w = wSg fx fy mi ax ay bx b2 n ∧ vp_in s 100 ∧ vp_in t 100, fun av w o _ => rR o = bI (cmP (rI w 10) (rI w 11) (rI w 12) (rA av 1).toNatClampNeg (rA av 2).toNatClampNeg))
def cl_X5_canMeet : List (Nat × rz_K) := []
def cv_X5_canMeet : List (Nat × rz_K) := []
theorem vc_X5_canMeet : rz_VC k_X5_canMeet fl_X5 cl_X5_canMeet cv_X5_canMeet s_X5_canMeet true 4 ce_X5_canMeet := by
  intro av w hlen hk hpre
  obtain ⟨fx, fy, mi, ax, ay, bx, b2, n, s, t, rfl, rfl, hs, ht⟩ := hpre
  refine ⟨Nat.le_of_ble_eq_true rfl, [(36, [0, 1, 2, 3], fun z lv w' => lv = [(0, .ref 9), (1, .int s), (2, .int t), (3, .int (bI (fx s.toNatClampNeg = fx t.toNatClampNeg ∧ fy s.toNatClampNeg = fy t.toNatClampNeg)))] ∧ w' = wSg fx fy mi ax ay bx b2 n ∧ z = 0)], 60, 1, ?_, ?_⟩
  · intro y1 hq z lv w' hj
    rcases List.mem_cons.mp hq with rfl | hq
    · obtain ⟨rfl, rfl, rfl⟩ := hj
      conv => whnf
      refine ⟨hs, ?_⟩
      conv => whnf
      refine ⟨ht, ?_⟩
      conv => whnf
      refine ⟨fun h => ?_, fun h => ?_⟩
      · conv => whnf
        refine ⟨fun h2 => ?_, fun h2 => ?_⟩
        · exact ⟨Or.inr rfl, ⟨_, rfl⟩, fun _ => rfl, bI_t ⟨h, bI_0 h2⟩⟩
        · exact ⟨Or.inl rfl, ⟨_, rfl⟩, fun _ => rfl, bI_f (fun z => z.2 (bI_n h2))⟩
      · exact ⟨Or.inl rfl, ⟨_, rfl⟩, fun _ => rfl, bI_f (fun z => h z.1)⟩
    · exact absurd hq List.not_mem_nil
  · conv => whnf
    refine ⟨hs, ?_⟩
    conv => whnf
    refine ⟨ht, ?_⟩
    conv => whnf
    refine ⟨fun h => ?_, fun h => ?_⟩
    · conv => whnf
      refine ⟨hs, ?_⟩
      conv => whnf
      refine ⟨ht, ?_⟩
      conv => whnf
      refine ⟨fun h2 => ?_, fun h2 => ?_⟩
      · conv => whnf
        rintro _ rfl
        conv => whnf
        refine ⟨0, by omega, ?_, rfl, rfl⟩
        show [_, _, _, (3, Value.int 1)] = _
        rw [bI_t (c := fx s.toNatClampNeg = fx t.toNatClampNeg ∧ fy s.toNatClampNeg = fy t.toNatClampNeg) ⟨h, h2⟩]
      · conv => whnf
        rintro _ rfl
        conv => whnf
        refine ⟨0, by omega, ?_, rfl, rfl⟩
        show [_, _, _, (3, Value.int 0)] = _
        rw [bI_f (c := fx s.toNatClampNeg = fx t.toNatClampNeg ∧ fy s.toNatClampNeg = fy t.toNatClampNeg) (fun z => h2 z.2)]
    · conv => whnf
      rintro _ rfl
      conv => whnf
      refine ⟨0, by omega, ?_, rfl, rfl⟩
      show [_, _, _, (3, Value.int 0)] = _
      rw [bI_f (c := fx s.toNatClampNeg = fx t.toNatClampNeg ∧ fy s.toNatClampNeg = fy t.toNatClampNeg) (fun z => h z.1)]
theorem rv_X5_canMeet : rz_Rv yX5_canMeet.cls ce_X5_canMeet := fun av w h => by
  obtain ⟨_, _, _, _, _, _, _, _, _, _, rfl, rfl, _⟩ := h
  exact ⟨_, _, _, _, _, _, rfl, rfl, rfl⟩
theorem cn_X5_canMeet (l : Launch) : rz_Con l yX5_canMeet cX5_canMeet 4 (some .boolean) 0 0 0 ce_X5_canMeet := rz_con (by decide +kernel) fo_X5 (fun _ h => absurd h List.not_mem_nil) (fun _ h => absurd h List.not_mem_nil) r_X5_canMeet vc_X5_canMeet
def ce_X5_add : rz_K := (4, kSg, 0, false, fun av w => ∃ (fx fy mi ax ay bx b2 : Nat → Int32) (x y m : Int32) (n : Nat), av = [.ref 9, .int x, .int y, .int m] ∧ w = wSg fx fy mi ax ay bx b2 (nI n) ∧ n ≤ 100, fun av w o w' => ∀ n, rF w 9 7 = nI n → n ≤ 100 → if n < 100 then rR o = nI n ∧ w' = wSg (upd (rI w 10) n (rA av 1)) (upd (rI w 11) n (rA av 2)) (upd (rI w 12) n (rA av 3)) (rI w 13) (rI w 14) (rI w 15) (rI w 16) (nI (n + 1)) else rR o = -1 ∧ w' = w)
def cl_X5_add : List (Nat × rz_K) := []
def cv_X5_add : List (Nat × rz_K) := []
theorem vc_X5_add : rz_VC k_X5_add fl_X5 cl_X5_add cv_X5_add s_X5_add false 4 ce_X5_add := by
  intro av w hlen hk hpre
  obtain ⟨fx, fy, mi, ax, ay, bx, b2, x, y, m, n, rfl, rfl, hn⟩ := hpre
  refine ⟨Nat.le_of_ble_eq_true rfl, [], 60, 0, fun q h => absurd h List.not_mem_nil, ?_⟩
  conv => whnf
  refine ⟨fun c => ?_, fun c => ?_⟩
  · have c : nI n < nI 100 := c
    have hn2 : n < 100 := (nI_ltI (by omega) (by omega)).mp c
    have hv : vp_in (nI n) 100 := vp_in_nI hn2 (by omega)
    conv => whnf
    refine ⟨hv, ?_⟩
    conv => whnf
    refine ⟨hv, ?_⟩
    conv => whnf
    refine ⟨hv, ?_⟩
    conv => whnf
    refine ⟨⟨_, rfl⟩, fun z => (by cases z), ?_⟩
    intro n' e hn'
    have e : n = n' := nI_inj (by omega) (by omega) e
    subst e
    refine if_yes hn2 ⟨?_, ?_⟩
    · show nI n + 1 - 1 = nI n
      exact i32_asc _
    · show wSg (upd fx (nI n).toNatClampNeg x) (upd fy (nI n).toNatClampNeg y) (upd mi (nI n).toNatClampNeg m) ax ay bx b2 (nI n + 1) = _
      rw [nI_1, nI_clamp (by omega)]
      rfl
  · have c : ¬ nI n < nI 100 := c
    refine ⟨⟨_, rfl⟩, fun z => (by cases z), ?_⟩
    intro n' e hn'
    have e : n = n' := nI_inj (by omega) (by omega) e
    subst e
    exact if_no (fun z => c (nI_lt z (by omega))) ⟨rfl, rfl⟩
theorem rv_X5_add : rz_Rv yX5_add.cls ce_X5_add := fun av w h => by
  obtain ⟨_, _, _, _, _, _, _, _, _, _, _, rfl, rfl, _⟩ := h
  exact ⟨_, _, _, _, _, _, rfl, rfl, rfl⟩
theorem cn_X5_add (l : Launch) : rz_Con l yX5_add cX5_add 4 (some .int) 0 0 0 ce_X5_add := rz_con (by decide +kernel) fo_X5 (fun _ h => absurd h List.not_mem_nil) (fun _ h => absurd h List.not_mem_nil) r_X5_add vc_X5_add
def ce_X5_setEdges : rz_K := (6, kSg, 2, false, fun av w => ∃ (fx fy mi ax ay bx b2 : Nat → Int32) (n s a b c d : Int32), av = [.ref 9, .int s, .int a, .int b, .int c, .int d] ∧ w = wSg fx fy mi ax ay bx b2 n ∧ vp_in s 100, fun av w _ w' => w' = wSg (rI w 10) (rI w 11) (rI w 12) (upd (rI w 13) (rA av 1).toNatClampNeg (rA av 2)) (upd (rI w 14) (rA av 1).toNatClampNeg (rA av 3)) (upd (rI w 15) (rA av 1).toNatClampNeg (rA av 4)) (upd (rI w 16) (rA av 1).toNatClampNeg (rA av 5)) (rF w 9 7))
def cl_X5_setEdges : List (Nat × rz_K) := []
def cv_X5_setEdges : List (Nat × rz_K) := []
theorem vc_X5_setEdges : rz_VC k_X5_setEdges fl_X5 cl_X5_setEdges cv_X5_setEdges s_X5_setEdges false 6 ce_X5_setEdges := by
  intro av w hlen hk hpre
  obtain ⟨fx, fy, mi, ax, ay, bx, b2, n, s, a, b, c, d, rfl, rfl, hs⟩ := hpre
  refine ⟨Nat.le_of_ble_eq_true rfl, [], 60, 0, fun q h => absurd h List.not_mem_nil, ?_⟩
  conv => whnf
  refine ⟨hs, ?_⟩
  conv => whnf
  refine ⟨hs, ?_⟩
  conv => whnf
  refine ⟨hs, ?_⟩
  conv => whnf
  refine ⟨hs, ?_⟩
  conv => whnf
  exact ⟨rfl, fun z => (by cases z), rfl⟩
theorem rv_X5_setEdges : rz_Rv yX5_setEdges.cls ce_X5_setEdges := fun av w h => by
  obtain ⟨_, _, _, _, _, _, _, _, _, _, _, _, _, rfl, rfl, _⟩ := h
  exact ⟨_, _, _, _, _, _, rfl, rfl, rfl⟩
theorem cn_X5_setEdges (l : Launch) : rz_Con l yX5_setEdges cX5_setEdges 6 none 0 0 0 ce_X5_setEdges := rz_con (by decide +kernel) fo_X5 (fun _ h => absurd h List.not_mem_nil) (fun _ h => absurd h List.not_mem_nil) r_X5_setEdges vc_X5_setEdges
abbrev wSS (fx fy mi ax ay bx b2 : Nat → Int32) (n : Int32) (a b c ex ey tx lx ty ly : Nat → Int64) (co : Int32) : rz_W := [(9, ro 5 [.ref 10, .ref 11, .ref 12, .ref 13, .ref 14, .ref 15, .ref 16, .int n]), (10, ri 100 fx), (11, ri 100 fy), (12, ri 100 mi), (13, ri 100 ax), (14, ri 100 ay), (15, ri 100 bx), (16, ri 100 b2), (17, ro 4 [.ref 18, .ref 19, .ref 20, .ref 21, .ref 22, .ref 23, .ref 24, .ref 25, .ref 26, .int co]), (18, rl 4 a), (19, rl 4 b), (20, rl 4 c), (21, rl 4 ex), (22, rl 4 ey), (23, rl 6 tx), (24, rl 6 lx), (25, rl 6 ty), (26, rl 6 ly)]
abbrev kSS : List Nat := [9, 10, 11, 12, 13, 14, 15, 16, 17, 18, 19, 20, 21, 22, 23, 24, 25, 26]
abbrev up2 (f : Nat → Int64) (q : Nat) (x y : Int64) : Nat → Int64 := vp_updL (vp_updL f q x) (q + 1) y
def ce_X5_putHalfPlanes : rz_K := (4, kSS, 2, false, fun av w => ∃ (fx fy mi ax ay bx b2 : Nat → Int32) (n : Int32) (a b c ex ey tx lx ty ly : Nat → Int64) (co s : Int32) (q : Nat), av = [.ref 9, .int s, .int (nI q), .ref 17] ∧ w = wSS fx fy mi ax ay bx b2 n a b c ex ey tx lx ty ly co ∧ vp_in s 100 ∧ q < 3, fun av w _ w' => ∀ q, rA av 2 = nI q → q < 3 → w' = wSS (rI w 10) (rI w 11) (rI w 12) (rI w 13) (rI w 14) (rI w 15) (rI w 16) (rF w 9 7) (up2 (rJ w 18) q (-(rI w 14 (rA av 1).toNatClampNeg)).toInt64 (-(-(rI w 16 (rA av 1).toNatClampNeg))).toInt64) (up2 (rJ w 19) q (rI w 13 (rA av 1).toNatClampNeg).toInt64 (-(rI w 15 (rA av 1).toNatClampNeg)).toInt64) (up2 (rJ w 20) q (-(rI w 14 (rA av 1).toNatClampNeg) * rI w 10 (rA av 1).toNatClampNeg + rI w 13 (rA av 1).toNatClampNeg * rI w 11 (rA av 1).toNatClampNeg).toInt64 (-(-(rI w 16 (rA av 1).toNatClampNeg)) * rI w 10 (rA av 1).toNatClampNeg + -(rI w 15 (rA av 1).toNatClampNeg) * rI w 11 (rA av 1).toNatClampNeg).toInt64) (up2 (rJ w 21) q (rI w 13 (rA av 1).toNatClampNeg).toInt64 (rI w 15 (rA av 1).toNatClampNeg).toInt64) (up2 (rJ w 22) q (rI w 14 (rA av 1).toNatClampNeg).toInt64 (rI w 16 (rA av 1).toNatClampNeg).toInt64) (rJ w 23) (rJ w 24) (rJ w 25) (rJ w 26) (rF w 17 9))
def cl_X5_putHalfPlanes : List (Nat × rz_K) := []
def cv_X5_putHalfPlanes : List (Nat × rz_K) := [(41, ce_X4_putLeftSide), (47, ce_X4_putEdge)]
theorem vc_X5_putHalfPlanes : rz_VC k_X5_putHalfPlanes fl_X5 cl_X5_putHalfPlanes cv_X5_putHalfPlanes s_X5_putHalfPlanes false 4 ce_X5_putHalfPlanes := by
  intro av w hlen hk hpre
  obtain ⟨fx, fy, mi, ax, ay, bx, b2, n, a, b, c, ex, ey, tx, lx, ty, ly, co, s, q, rfl, rfl, hs, hq⟩ := hpre
  have hv0 : vp_in (nI q) 4 := vp_in_nI (by omega) (by omega)
  have hv1 : vp_in (nI q + 1) 4 := by rw [nI_1]; exact vp_in_nI (by omega) (by omega)
  have hc0 : (nI q).toNatClampNeg = q := nI_clamp (by omega)
  have hc1 : (nI q + 1).toNatClampNeg = q + 1 := by rw [nI_1]; exact nI_clamp (by omega)
  generalize hA : (-(ay s.toNatClampNeg)).toInt64 = A1
  generalize hA2 : (-(-(b2 s.toNatClampNeg))).toInt64 = A2
  generalize hB : (ax s.toNatClampNeg).toInt64 = B1
  generalize hB2 : (-(bx s.toNatClampNeg)).toInt64 = B2
  generalize hC : (-(ay s.toNatClampNeg) * fx s.toNatClampNeg + ax s.toNatClampNeg * fy s.toNatClampNeg).toInt64 = C1
  generalize hC2 : (-(-(b2 s.toNatClampNeg)) * fx s.toNatClampNeg + -(bx s.toNatClampNeg) * fy s.toNatClampNeg).toInt64 = C2
  refine ⟨Nat.le_of_ble_eq_true rfl, [
    (29, [0, 1, 2, 3], fun z lv w' => lv = [(0, .ref 9), (1, .int s), (2, .int (nI q)), (3, .ref 17)] ∧ w' = wSS fx fy mi ax ay bx b2 n (vp_updL a q A1) (vp_updL b q B1) (vp_updL c q C1) ex ey tx lx ty ly co ∧ z = 2),
    (62, [0, 1, 2, 3], fun z lv w' => lv = [(0, .ref 9), (1, .int s), (2, .int (nI q)), (3, .ref 17)] ∧ w' = wSS fx fy mi ax ay bx b2 n (up2 a q A1 A2) (up2 b q B1 B2) (up2 c q C1 C2) ex ey tx lx ty ly co ∧ z = 1),
    (79, [0, 1, 2, 3], fun z lv w' => lv = [(0, .ref 9), (1, .int s), (2, .int (nI q)), (3, .ref 17)] ∧ w' = wSS fx fy mi ax ay bx b2 n (up2 a q A1 A2) (up2 b q B1 B2) (up2 c q C1 C2) (vp_updL ex q (ax s.toNatClampNeg).toInt64) (vp_updL ey q (ay s.toNatClampNeg).toInt64) tx lx ty ly co ∧ z = 0)], 100, 3, ?_, ?_⟩
  · intro y1 hq1 z lv w' hj
    rcases List.mem_cons.mp hq1 with rfl | hq1
    · obtain ⟨rfl, rfl, rfl⟩ := hj
      conv => whnf
      refine ⟨hs, ?_⟩
      conv => whnf
      refine ⟨hs, ?_⟩
      conv => whnf
      refine ⟨hs, ?_⟩
      conv => whnf
      refine ⟨hs, ?_⟩
      conv => whnf
      refine ⟨⟨_, _, _, ex, ey, tx, lx, ty, ly, co, nI q + 1, _, _, _, _, rfl, rfl, hv1⟩, ?_⟩
      intro w2 hw2
      have hw2 : w2 = wSh (vp_updL (vp_updL a q A1) (nI q + 1).toNatClampNeg (-(-(b2 s.toNatClampNeg))).toInt64) (vp_updL (vp_updL b q B1) (nI q + 1).toNatClampNeg (-(bx s.toNatClampNeg)).toInt64) (vp_updL (vp_updL c q C1) (nI q + 1).toNatClampNeg (-(-(b2 s.toNatClampNeg)) * fx s.toNatClampNeg + -(bx s.toNatClampNeg) * fy s.toNatClampNeg).toInt64) ex ey tx lx ty ly co := hw2
      rw [hc1, hA2, hB2, hC2] at hw2
      subst hw2
      conv => whnf
      refine ⟨1, by omega, rfl, rfl, rfl⟩
    rcases List.mem_cons.mp hq1 with rfl | hq1
    · obtain ⟨rfl, rfl, rfl⟩ := hj
      conv => whnf
      refine ⟨hs, ?_⟩
      conv => whnf
      refine ⟨hs, ?_⟩
      conv => whnf
      refine ⟨⟨_, _, _, ex, ey, tx, lx, ty, ly, co, nI q, _, _, rfl, rfl, hv0⟩, ?_⟩
      intro w3 hw3
      have hw3 : w3 = wSh (up2 a q A1 A2) (up2 b q B1 B2) (up2 c q C1 C2) (vp_updL ex (nI q).toNatClampNeg (ax s.toNatClampNeg).toInt64) (vp_updL ey (nI q).toNatClampNeg (ay s.toNatClampNeg).toInt64) tx lx ty ly co := hw3
      rw [hc0] at hw3
      subst hw3
      conv => whnf
      refine ⟨0, by omega, rfl, rfl, rfl⟩
    rcases List.mem_cons.mp hq1 with rfl | hq1
    · obtain ⟨rfl, rfl, rfl⟩ := hj
      conv => whnf
      refine ⟨hs, ?_⟩
      conv => whnf
      refine ⟨hs, ?_⟩
      conv => whnf
      refine ⟨⟨_, _, _, _, _, tx, lx, ty, ly, co, nI q + 1, _, _, rfl, rfl, hv1⟩, ?_⟩
      intro w4 hw4
      have hw4 : w4 = wSh (up2 a q A1 A2) (up2 b q B1 B2) (up2 c q C1 C2) (vp_updL (vp_updL ex q (ax s.toNatClampNeg).toInt64) (nI q + 1).toNatClampNeg (bx s.toNatClampNeg).toInt64) (vp_updL (vp_updL ey q (ay s.toNatClampNeg).toInt64) (nI q + 1).toNatClampNeg (b2 s.toNatClampNeg).toInt64) tx lx ty ly co := hw4
      rw [hc1] at hw4
      subst hw4
      conv => whnf
      refine ⟨rfl, fun z => (by cases z), ?_⟩
      intro q' e hq'
      have e : q = q' := nI_inj (by omega) (by omega) e
      subst e
      subst hA hA2 hB hB2 hC hC2
      rfl
    · exact absurd hq1 List.not_mem_nil
  · conv => whnf
    refine ⟨hs, ?_⟩
    conv => whnf
    refine ⟨hs, ?_⟩
    conv => whnf
    refine ⟨hs, ?_⟩
    conv => whnf
    refine ⟨hs, ?_⟩
    conv => whnf
    refine ⟨⟨a, b, c, ex, ey, tx, lx, ty, ly, co, nI q, _, _, _, _, rfl, rfl, hv0⟩, ?_⟩
    intro w1 hw1
    have hw1 : w1 = wSh (vp_updL a (nI q).toNatClampNeg (-(ay s.toNatClampNeg)).toInt64) (vp_updL b (nI q).toNatClampNeg (ax s.toNatClampNeg).toInt64) (vp_updL c (nI q).toNatClampNeg (-(ay s.toNatClampNeg) * fx s.toNatClampNeg + ax s.toNatClampNeg * fy s.toNatClampNeg).toInt64) ex ey tx lx ty ly co := hw1
    rw [hc0, hA, hB, hC] at hw1
    subst hw1
    conv => whnf
    refine ⟨2, by omega, rfl, rfl, rfl⟩
theorem rv_X5_putHalfPlanes : rz_Rv yX5_putHalfPlanes.cls ce_X5_putHalfPlanes := fun av w h => by
  obtain ⟨_, _, _, _, _, _, _, _, _, _, _, _, _, _, _, _, _, _, _, _, rfl, rfl, _⟩ := h
  exact ⟨_, _, _, _, _, _, rfl, rfl, rfl⟩
theorem cn_X5_putHalfPlanes (l : Launch) : rz_Con l yX5_putHalfPlanes cX5_putHalfPlanes 4 none 1 0 0 ce_X5_putHalfPlanes := rz_con (by decide +kernel) fo_X5 (fun _ h => absurd h List.not_mem_nil) (by
  intro q hq
  rcases List.mem_cons.mp hq with rfl | hq
  · exact rz_callVN (cn_X4_putLeftSide l) (by decide +kernel) ⟨Nat.le_of_ble_eq_true rfl, Nat.le_of_ble_eq_true rfl⟩ m_X4_putLeftSide rfl i_X4_putLeftSide v_X4_putLeftSide rv_X4_putLeftSide n_X5_41
  rcases List.mem_cons.mp hq with rfl | hq
  · exact rz_callVN (cn_X4_putEdge l) (by decide +kernel) ⟨Nat.le_of_ble_eq_true rfl, Nat.le_of_ble_eq_true rfl⟩ m_X4_putEdge rfl i_X4_putEdge v_X4_putEdge rv_X4_putEdge n_X5_47
  exact absurd hq List.not_mem_nil) r_X5_putHalfPlanes vc_X5_putHalfPlanes
