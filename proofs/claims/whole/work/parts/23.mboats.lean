/-! The reference's boats. -/
abbrev wMp (o : rz_C) (pa : Nat → Int32) : rz_W := [(50, o), (61, ri 500 pa)]
abbrev kMp : List Nat := [50, 61]
abbrev wMb (o : rz_C) (pa ci : Nat → Int32) : rz_W := [(50, o), (61, ri 500 pa), (62, ri 30 ci)]
abbrev kMb : List Nat := [50, 61, 62]
abbrev mB (pa : Nat → Int32) (a : Nat) : Nat → Int32 := fun i => pa (5 * i + a)
abbrev mE (pa : Nat → Int32) : Nat → Int32 := fun i => pa (5 * i + 3) + pa (5 * i + 4)
def ce_X7_ofPlan : rz_K := (3, kMp, 0, true, fun av w => ∃ (pa : Nat → Int32) (th po re nw si pl tr bo pn ca sp co : Int32) (i a : Nat), av = [.ref 50, .int (nI i), .int (nI a)] ∧ w = wMp (oMo th po re nw si pl tr bo pn ca sp co) pa ∧ i < 100 ∧ a < 5, fun av w o _ => ∀ i a : Nat, rA av 1 = nI i → rA av 2 = nI a → i < 100 → a < 5 → rR o = rI w 61 (5 * i + a))
def cl_X7_ofPlan : List (Nat × rz_K) := []
def cv_X7_ofPlan : List (Nat × rz_K) := []
theorem vc_X7_ofPlan : rz_VC k_X7_ofPlan fl_X7 cl_X7_ofPlan cv_X7_ofPlan s_X7_ofPlan false 3 ce_X7_ofPlan := by
  intro av w hlen hk hpre
  obtain ⟨pa, th, po, re, nw, si, pl, tr, bo, pn, ca, sp, co, i, a, rfl, rfl, hi, ha⟩ := hpre
  refine ⟨Nat.le_of_ble_eq_true rfl, [], 30, 0, fun q h => absurd h List.not_mem_nil, ?_⟩
  have e : (5 : Int32) * nI i + nI a = nI (5 * i + a) := by
    show nI 5 * nI i + nI a = _
    rw [pk_mul, nI_add]
  have hv : vp_in ((5 : Int32) * nI i + nI a) 500 := by rw [e]; exact vp_in_nI (by omega) (by omega)
  conv => whnf
  refine ⟨hv, ?_⟩
  conv => whnf
  refine ⟨⟨_, rfl⟩, fun _ => rfl, ?_⟩
  intro i' a' e1 e2 h1 h2
  have e1 : i = i' := nI_inj (by omega) (by omega) e1
  have e2 : a = a' := nI_inj (by omega) (by omega) e2
  subst e1 e2
  show pa ((5 : Int32) * nI i + nI a).toNatClampNeg = pa (5 * i + a)
  rw [e, nI_clamp (by omega)]
theorem rv_X7_ofPlan : rz_Rv yX7_ofPlan.cls ce_X7_ofPlan := fun av w h => by
  obtain ⟨_, _, _, _, _, _, _, _, _, _, _, _, _, _, _, rfl, rfl, _⟩ := h
  exact ⟨_, _, _, _, _, _, rfl, rfl, rfl⟩
theorem cn_X7_ofPlan (l : Launch) : rz_Con l yX7_ofPlan cX7_ofPlan 3 (some .int) 0 0 0 ce_X7_ofPlan := rz_con (by decide +kernel) fo_X7 (fun _ h => absurd h List.not_mem_nil) (fun _ h => absurd h List.not_mem_nil) r_X7_ofPlan vc_X7_ofPlan
def ce_X7_lastPlan : rz_K := (3, kMp, 0, true, fun av w => ∃ (pa : Nat → Int32) (th po re nw si pl tr bo ca sp co b q : Int32) (k : Nat), av = [.ref 50, .int b, .int q] ∧ w = wMp (oMo th po re nw si pl tr bo (nI k) ca sp co) pa ∧ k ≤ 100, fun av w o _ => ∀ k : Nat, rF w 50 14 = nI k → k ≤ 100 → rR o = lastK (pkP (mB (rI w 61) 0) (mB (rI w 61) 1) (rA av 1) (rA av 2)) k)
def cl_X7_lastPlan : List (Nat × rz_K) := []
def cv_X7_lastPlan : List (Nat × rz_K) := [(196, ce_X7_ofPlan)]
theorem vc_X7_lastPlan : rz_VC k_X7_lastPlan fl_X7 cl_X7_lastPlan cv_X7_lastPlan s_X7_lastPlan false 5 ce_X7_lastPlan := by
  intro av w hlen hk hpre
  obtain ⟨pa, th, po, re, nw, si, pl, tr, bo, ca, sp, co, b, q, k, rfl, rfl, hk2⟩ := hpre
  generalize hp : pkP (mB pa 0) (mB pa 1) b q = p
  have hp2 : ∀ i, p i = decide (pa (5 * i + 0) = b ∧ pa (5 * i + 1) ≤ q) := fun i => by rw [← hp]
  have hs : ∀ i, lastK p (i + 1) = if p i then nI i else lastK p i := fun _ => rfl
  refine ⟨Nat.le_of_ble_eq_true rfl, [(5, [0, 1, 2, 3, 4], fun z lv w' => ∃ i : Nat, i ≤ k ∧ lv = [(0, .ref 50), (1, .int b), (2, .int q), (3, .int (lastK p i)), (4, .int (nI i))] ∧ w' = wMp (oMo th po re nw si pl tr bo (nI k) ca sp co) pa ∧ z = k - i)], 60, k + 1, ?_, ?_⟩
  · intro y hq z lv w' hj
    rcases List.mem_cons.mp hq with rfl | hq
    · obtain ⟨i, hi, rfl, rfl, rfl⟩ := hj
      conv => whnf
      refine ⟨fun c => ?_, fun c => ?_⟩
      · have e : i = k := by
          have := (nI_leI (by omega) (by omega)).mp c
          omega
        subst e
        refine ⟨⟨_, rfl⟩, fun _ => rfl, ?_⟩
        intro k' e1 h1
        have e1 : i = k' := nI_inj (by omega) (by omega) e1
        subst e1
        rw [← hp]
        rfl
      · have hi2 : i < k := by
          rcases Nat.lt_or_ge i k with z | z
          · exact z
          · exact absurd (nI_le z (by omega)) c
        conv => whnf
        refine ⟨⟨pa, th, po, re, nw, si, pl, tr, bo, nI k, ca, sp, co, i, 0, rfl, rfl, by omega, by omega⟩, ?_⟩
        intro r hr
        have hr : r = pa (5 * i + 0) := hr i 0 rfl rfl (by omega) (by omega)
        subst hr
        conv => whnf
        refine ⟨fun c2 => ?_, fun c2 => ?_⟩
        · conv => whnf
          refine ⟨⟨pa, th, po, re, nw, si, pl, tr, bo, nI k, ca, sp, co, i, 1, rfl, rfl, by omega, by omega⟩, ?_⟩
          intro r hr
          have hr : r = pa (5 * i + 1) := hr i 1 rfl rfl (by omega) (by omega)
          subst hr
          conv => whnf
          refine ⟨fun c3 => ?_, fun c3 => ?_⟩
          · conv => whnf
            rintro _ rfl
            conv => whnf
            refine ⟨k - (i + 1), by omega, i + 1, by omega, ?_, rfl, rfl⟩
            show [_, _, _, (3, Value.int (lastK p i)), (4, Value.int (nI i + 1))] = _
            rw [nI_1, hs, hp2, if_neg (by simp only [decide_eq_true_eq]; exact fun y => absurd y.2 ((i32_not_le _ _).mpr c3))]
          · conv => whnf
            rintro _ rfl
            conv => whnf
            rintro _ rfl
            conv => whnf
            refine ⟨k - (i + 1), by omega, i + 1, by omega, ?_, rfl, rfl⟩
            show [_, _, _, (3, Value.int (nI i)), (4, Value.int (nI i + 1))] = _
            rw [nI_1, hs, hp2, if_pos (by simp only [decide_eq_true_eq]; exact ⟨c2, (i32_not_lt _ _).mp c3⟩)]
        · conv => whnf
          rintro _ rfl
          conv => whnf
          refine ⟨k - (i + 1), by omega, i + 1, by omega, ?_, rfl, rfl⟩
          show [_, _, _, (3, Value.int (lastK p i)), (4, Value.int (nI i + 1))] = _
          rw [nI_1, hs, hp2, if_neg (by simp only [decide_eq_true_eq]; exact fun y => c2 y.1)]
    · exact absurd hq List.not_mem_nil
  · conv => whnf
    rintro _ rfl
    conv => whnf
    rintro _ rfl
    conv => whnf
    refine ⟨k, by omega, 0, by omega, rfl, rfl, rfl⟩
theorem rv_X7_lastPlan : rz_Rv yX7_lastPlan.cls ce_X7_lastPlan := fun av w h => by
  obtain ⟨_, _, _, _, _, _, _, _, _, _, _, _, _, _, _, rfl, rfl, _⟩ := h
  exact ⟨_, _, _, _, _, _, rfl, rfl, rfl⟩
theorem cn_X7_lastPlan (l : Launch) : rz_Con l yX7_lastPlan cX7_lastPlan 5 (some .int) 1 0 0 ce_X7_lastPlan := rz_con (by decide +kernel) fo_X7 (fun _ h => absurd h List.not_mem_nil) (by
  intro q hq
  rcases List.mem_cons.mp hq with rfl | hq
  · exact rz_callV (cn_X7_ofPlan l) (by decide +kernel) ⟨Nat.le_of_ble_eq_true rfl, Nat.le_of_ble_eq_true rfl⟩ m_X7_ofPlan rfl i_X7_ofPlan v_X7_ofPlan rv_X7_ofPlan n_X7_196
  exact absurd hq List.not_mem_nil) r_X7_lastPlan vc_X7_lastPlan
def ce_X7_stands : rz_K := (4, kMb, 0, true, fun av w => ∃ (pa ci : Nat → Int32) (th po re nw si pl tr bo ca sp co b m q : Int32) (k : Nat), av = [.ref 50, .int b, .int m, .int q] ∧ w = wMb (oMo th po re nw si pl tr bo (nI k) ca sp co) pa ci ∧ k ≤ 100 ∧ vp_in b 30, fun av w o _ => ∀ k : Nat, rF w 50 14 = nI k → k ≤ 100 → rR o = stF (lastK (pkP (mB (rI w 61) 0) (mB (rI w 61) 1) (rA av 1) (rA av 3)) k) (rI w 62 (rA av 1).toNatClampNeg) (rA av 2) (rA av 3) (mB (rI w 61) 2) (mE (rI w 61)))
def cl_X7_stands : List (Nat × rz_K) := []
def cv_X7_stands : List (Nat × rz_K) := [(196, ce_X7_ofPlan), (199, ce_X7_lastPlan)]
theorem vc_X7_stands : rz_VC k_X7_stands fl_X7 cl_X7_stands cv_X7_stands s_X7_stands false 5 ce_X7_stands := by
  intro av w hlen hk hpre
  obtain ⟨pa, ci, th, po, re, nw, si, pl, tr, bo, ca, sp, co, b, m, q, k, rfl, rfl, hk2, hb⟩ := hpre
  refine ⟨Nat.le_of_ble_eq_true rfl, [], 90, 0, fun q h => absurd h List.not_mem_nil, ?_⟩
  generalize hJ : lastK (pkP (mB pa 0) (mB pa 1) b q) k = j
  have hj : ¬ j = -1 → ∃ i, i < 100 ∧ j = nI i := fun z => by
    rcases lastK_in (pkP (mB pa 0) (mB pa 1) b q) k (by omega) with y | ⟨i, y1, y2, y3⟩
    · exact absurd (hJ.symm.trans y) z
    · exact ⟨i, by omega, hJ.symm.trans y2⟩
  have fin : ∀ v : Int32, v = stF j (ci b.toNatClampNeg) m q (mB pa 2) (mE pa) → rz_end ce_X7_stands [.ref 50, .int b, .int m, .int q] (wMb (oMo th po re nw si pl tr bo (nI k) ca sp co) pa ci) (some (.int v)) (wMb (oMo th po re nw si pl tr bo (nI k) ca sp co) pa ci) := by
    intro v hv
    refine ⟨⟨_, rfl⟩, fun _ => rfl, ?_⟩
    intro k' e1 h1
    have e1 : k = k' := nI_inj (by omega) (by omega) e1
    subst e1
    rw [hv, ← hJ]
    rfl
  conv => whnf
  refine ⟨⟨pa, th, po, re, nw, si, pl, tr, bo, ca, sp, co, b, q, k, rfl, rfl, hk2⟩, ?_⟩
  intro r hr
  have hr : r = lastK (pkP (mB pa 0) (mB pa 1) b q) k := hr k rfl hk2
  rw [hJ] at hr
  subst hr
  conv => whnf
  intro v_ ev_
  have ev_ := ev_.symm
  subst ev_
  conv => whnf
  refine ⟨fun h => ?_, fun h => ?_⟩
  · refine fin _ ?_
    unfold stF
    rw [if_pos h]
  · obtain ⟨i, hi, rfl⟩ := hj h
    have go : ¬ (¬ ci b.toNatClampNeg = -1 ∧ ci b.toNatClampNeg ≤ m ∧ ci b.toNatClampNeg ≤ q) → stF (nI i) (ci b.toNatClampNeg) m q (mB pa 2) (mE pa) = if m < pa (5 * i + 2) then 1 else if m ≤ pa (5 * i + 3) + pa (5 * i + 4) then 2 else 3 := fun z => by
      unfold stF
      rw [if_neg h, if_neg z, nI_clamp (by omega)]
    have pln : ∀ (a : Nat) (x : Int32), a < 5 → ce_X7_ofPlan.2.2.2.2.2 [.ref 50, .int (nI i), .int (nI a)] (wMp (oMo th po re nw si pl tr bo (nI k) ca sp co) pa) (some (.int x)) (wMp (oMo th po re nw si pl tr bo (nI k) ca sp co) pa) → x = pa (5 * i + a) := fun a x ha hx => hx i a rfl rfl hi ha
    conv => whnf
    refine ⟨hb, ?_⟩
    conv => whnf
    refine ⟨fun h1 => ?_, fun h1 => ?_⟩
    · have z : ¬ (¬ ci b.toNatClampNeg = -1 ∧ ci b.toNatClampNeg ≤ m ∧ ci b.toNatClampNeg ≤ q) := fun y => y.1 h1
      conv => whnf
      refine ⟨⟨pa, th, po, re, nw, si, pl, tr, bo, nI k, ca, sp, co, i, 2, rfl, rfl, hi, by omega⟩, ?_⟩
      intro x2 hx2
      obtain rfl := pln 2 x2 (by omega) hx2
      conv => whnf
      refine ⟨fun g1 => ?_, fun g1 => ?_⟩
      · conv => whnf
        refine ⟨⟨pa, th, po, re, nw, si, pl, tr, bo, nI k, ca, sp, co, i, 3, rfl, rfl, hi, by omega⟩, ?_⟩
        intro x3 hx3
        obtain rfl := pln 3 x3 (by omega) hx3
        conv => whnf
        refine ⟨⟨pa, th, po, re, nw, si, pl, tr, bo, nI k, ca, sp, co, i, 4, rfl, rfl, hi, by omega⟩, ?_⟩
        intro x4 hx4
        obtain rfl := pln 4 x4 (by omega) hx4
        conv => whnf
        refine ⟨fun g2 => ?_, fun g2 => ?_⟩
        · exact fin _ (by rw [go z, if_neg ((i32_not_lt _ _).mpr g1), if_neg ((i32_not_le _ _).mpr g2)])
        · exact fin _ (by rw [go z, if_neg ((i32_not_lt _ _).mpr g1), if_pos ((i32_not_lt _ _).mp g2)])
      · exact fin _ (by rw [go z, if_pos ((i32_not_le _ _).mp g1)])
    · conv => whnf
      refine ⟨hb, ?_⟩
      conv => whnf
      refine ⟨fun h2 => ?_, fun h2 => ?_⟩
      · have z : ¬ (¬ ci b.toNatClampNeg = -1 ∧ ci b.toNatClampNeg ≤ m ∧ ci b.toNatClampNeg ≤ q) := fun y => absurd y.2.2 ((i32_not_le _ _).mpr h2)
        conv => whnf
        refine ⟨⟨pa, th, po, re, nw, si, pl, tr, bo, nI k, ca, sp, co, i, 2, rfl, rfl, hi, by omega⟩, ?_⟩
        intro x2 hx2
        obtain rfl := pln 2 x2 (by omega) hx2
        conv => whnf
        refine ⟨fun g1 => ?_, fun g1 => ?_⟩
        · conv => whnf
          refine ⟨⟨pa, th, po, re, nw, si, pl, tr, bo, nI k, ca, sp, co, i, 3, rfl, rfl, hi, by omega⟩, ?_⟩
          intro x3 hx3
          obtain rfl := pln 3 x3 (by omega) hx3
          conv => whnf
          refine ⟨⟨pa, th, po, re, nw, si, pl, tr, bo, nI k, ca, sp, co, i, 4, rfl, rfl, hi, by omega⟩, ?_⟩
          intro x4 hx4
          obtain rfl := pln 4 x4 (by omega) hx4
          conv => whnf
          refine ⟨fun g2 => ?_, fun g2 => ?_⟩
          · exact fin _ (by rw [go z, if_neg ((i32_not_lt _ _).mpr g1), if_neg ((i32_not_le _ _).mpr g2)])
          · exact fin _ (by rw [go z, if_neg ((i32_not_lt _ _).mpr g1), if_pos ((i32_not_lt _ _).mp g2)])
        · exact fin _ (by rw [go z, if_pos ((i32_not_le _ _).mp g1)])
      · conv => whnf
        refine ⟨hb, ?_⟩
        conv => whnf
        refine ⟨fun h3 => ?_, fun h3 => ?_⟩
        · have z : ¬ (¬ ci b.toNatClampNeg = -1 ∧ ci b.toNatClampNeg ≤ m ∧ ci b.toNatClampNeg ≤ q) := fun y => absurd y.2.1 ((i32_not_le _ _).mpr h3)
          conv => whnf
          refine ⟨⟨pa, th, po, re, nw, si, pl, tr, bo, nI k, ca, sp, co, i, 2, rfl, rfl, hi, by omega⟩, ?_⟩
          intro x2 hx2
          obtain rfl := pln 2 x2 (by omega) hx2
          conv => whnf
          refine ⟨fun g1 => ?_, fun g1 => ?_⟩
          · conv => whnf
            refine ⟨⟨pa, th, po, re, nw, si, pl, tr, bo, nI k, ca, sp, co, i, 3, rfl, rfl, hi, by omega⟩, ?_⟩
            intro x3 hx3
            obtain rfl := pln 3 x3 (by omega) hx3
            conv => whnf
            refine ⟨⟨pa, th, po, re, nw, si, pl, tr, bo, nI k, ca, sp, co, i, 4, rfl, rfl, hi, by omega⟩, ?_⟩
            intro x4 hx4
            obtain rfl := pln 4 x4 (by omega) hx4
            conv => whnf
            refine ⟨fun g2 => ?_, fun g2 => ?_⟩
            · exact fin _ (by rw [go z, if_neg ((i32_not_lt _ _).mpr g1), if_neg ((i32_not_le _ _).mpr g2)])
            · exact fin _ (by rw [go z, if_neg ((i32_not_lt _ _).mpr g1), if_pos ((i32_not_lt _ _).mp g2)])
          · exact fin _ (by rw [go z, if_pos ((i32_not_le _ _).mp g1)])
        · refine fin _ ?_
          unfold stF
          rw [if_neg h, if_pos ⟨h1, (i32_not_lt _ _).mp h3, (i32_not_lt _ _).mp h2⟩]
theorem rv_X7_stands : rz_Rv yX7_stands.cls ce_X7_stands := fun av w h => by
  obtain ⟨_, _, _, _, _, _, _, _, _, _, _, _, _, _, _, _, _, rfl, rfl, _⟩ := h
  exact ⟨_, _, _, _, _, _, rfl, rfl, rfl⟩
theorem cn_X7_stands (l : Launch) : rz_Con l yX7_stands cX7_stands 5 (some .int) 2 0 0 ce_X7_stands := rz_con (by decide +kernel) fo_X7 (fun _ h => absurd h List.not_mem_nil) (by
  intro q hq
  rcases List.mem_cons.mp hq with rfl | hq
  · exact rz_callV (cn_X7_ofPlan l) (by decide +kernel) ⟨Nat.le_of_ble_eq_true rfl, Nat.le_of_ble_eq_true rfl⟩ m_X7_ofPlan rfl i_X7_ofPlan v_X7_ofPlan rv_X7_ofPlan n_X7_196
  rcases List.mem_cons.mp hq with rfl | hq
  · exact rz_callV (cn_X7_lastPlan l) (by decide +kernel) ⟨Nat.le_of_ble_eq_true rfl, Nat.le_of_ble_eq_true rfl⟩ m_X7_lastPlan rfl i_X7_lastPlan v_X7_lastPlan rv_X7_lastPlan n_X7_199
  exact absurd hq List.not_mem_nil) r_X7_stands vc_X7_stands
