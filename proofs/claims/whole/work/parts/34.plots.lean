/-! Plots of the class. -/
def gpF (l h m g : Int32) : Int64 := if h < m then m.toInt64 - h.toInt64 else if g < l then l.toInt64 - g.toInt64 else 0
def ce_X3_gap : rz_K := (4, [], 1, true, fun av w => ∃ l h m g : Int32, av = [.int l, .int h, .int m, .int g] ∧ w = [] ∧ True, fun av _ o _ => rS o = gpF (rA av 0) (rA av 1) (rA av 2) (rA av 3))
theorem vc_X3_gap : rz_VC k_X3_gap fl_X3 [] [] s_X3_gap false 4 ce_X3_gap := by
  intro av w hlen hk hpre
  obtain ⟨l, h, m, g, rfl, rfl, -⟩ := hpre
  refine ⟨Nat.le_of_ble_eq_true rfl, [], 30, 0, fun q h => absurd h List.not_mem_nil, ?_⟩
  have fin : ∀ v : Int64, v = gpF l h m g → rz_end ce_X3_gap [.int l, .int h, .int m, .int g] [] (some (.long v)) [] := fun v hv => ⟨⟨_, rfl⟩, fun _ => rfl, hv⟩
  conv => whnf
  refine ⟨fun k => ?_, fun k => ?_⟩
  · conv => whnf
    refine ⟨fun k2 => ?_, fun k2 => ?_⟩
    · exact fin _ (by rw [gpF, if_neg ((i32_not_lt _ _).mpr k), if_neg ((i32_not_lt _ _).mpr k2)])
    · exact fin _ (by rw [gpF, if_neg ((i32_not_lt _ _).mpr k), if_pos ((i32_not_le _ _).mp k2)])
  · exact fin _ (by rw [gpF, if_pos ((i32_not_le _ _).mp k)])
theorem cn_X3_gap (l : Launch) : rz_Con l yX3_gap cX3_gap 4 (some .long) 0 0 0 ce_X3_gap := rz_con (by decide +kernel) fo_X3 (fun _ h => absurd h List.not_mem_nil) (fun _ h => absurd h List.not_mem_nil) r_X3_gap vc_X3_gap
def sqF (le bo rg tp : Nat → Int32) (p q : Nat) : Int64 := gpF (le p) (rg p) (le q) (rg q) * gpF (le p) (rg p) (le q) (rg q) + gpF (bo p) (tp p) (bo q) (tp q) * gpF (bo p) (tp p) (bo q) (tp q)
def ce_X3_squaredDistance : rz_K := (3, kPl, 1, true, fun av w => ∃ (fi se mi tk le bo rg tp la : Nat → Int32) (sz tr sp p q : Int32), av = [.ref 27, .int p, .int q] ∧ w = wPl fi se mi tk le bo rg tp la sz tr sp ∧ vp_in p 60 ∧ vp_in q 60, fun av w o _ => rS o = sqF (rI w 32) (rI w 33) (rI w 34) (rI w 35) (rA av 1).toNatClampNeg (rA av 2).toNatClampNeg)
def cl_X3_squaredDistance : List (Nat × rz_K) := [(62, ce_X3_gap)]
def cv_X3_squaredDistance : List (Nat × rz_K) := []
theorem vc_X3_squaredDistance : rz_VC k_X3_squaredDistance fl_X3 cl_X3_squaredDistance cv_X3_squaredDistance s_X3_squaredDistance false 7 ce_X3_squaredDistance := by
  intro av w hlen hk hpre
  obtain ⟨fi, se, mi, tk, le, bo, rg, tp, la, sz, tr, sp, p, q, rfl, rfl, hp, hq⟩ := hpre
  refine ⟨Nat.le_of_ble_eq_true rfl, [], 60, 0, fun q h => absurd h List.not_mem_nil, ?_⟩
  conv => whnf
  refine ⟨hp, ?_⟩
  conv => whnf
  refine ⟨hp, ?_⟩
  conv => whnf
  refine ⟨hq, ?_⟩
  conv => whnf
  refine ⟨hq, ?_⟩
  conv => whnf
  refine ⟨⟨_, _, _, _, rfl, rfl, trivial⟩, ?_⟩
  intro r hr
  obtain rfl : r = gpF (le p.toNatClampNeg) (rg p.toNatClampNeg) (le q.toNatClampNeg) (rg q.toNatClampNeg) := hr
  conv => whnf
  rintro _ rfl
  conv => whnf
  refine ⟨hp, ?_⟩
  conv => whnf
  refine ⟨hp, ?_⟩
  conv => whnf
  refine ⟨hq, ?_⟩
  conv => whnf
  refine ⟨hq, ?_⟩
  conv => whnf
  refine ⟨⟨_, _, _, _, rfl, rfl, trivial⟩, ?_⟩
  intro r hr
  obtain rfl : r = gpF (bo p.toNatClampNeg) (tp p.toNatClampNeg) (bo q.toNatClampNeg) (tp q.toNatClampNeg) := hr
  conv => whnf
  rintro _ rfl
  exact ⟨⟨_, rfl⟩, fun _ => rfl, rfl⟩
theorem rv_X3_squaredDistance : rz_Rv yX3_squaredDistance.cls ce_X3_squaredDistance := fun av w h => by
  obtain ⟨_, _, _, _, _, _, _, _, _, _, _, _, _, _, rfl, rfl, _⟩ := h
  exact ⟨_, _, _, _, _, _, rfl, rfl, rfl⟩
theorem cn_X3_squaredDistance (l : Launch) : rz_Con l yX3_squaredDistance cX3_squaredDistance 7 (some .long) 1 0 0 ce_X3_squaredDistance := rz_con (by decide +kernel) fo_X3 (by
  intro q hq
  rcases List.mem_cons.mp hq with rfl | hq
  · exact rz_callS (cn_X3_gap l) (by decide +kernel) ⟨Nat.le_of_ble_eq_true rfl, Nat.le_of_ble_eq_true rfl⟩ m_X3_gap t_X3_gap n_X3_62
  exact absurd hq List.not_mem_nil) (fun _ h => absurd h List.not_mem_nil) r_X3_squaredDistance vc_X3_squaredDistance
abbrev duP (fi se : Nat → Int32) (x y : Int32) (p : Nat) : Prop := (fi p = x ∧ se p = y) ∨ (fi p = y ∧ se p = x)
def ce_X3_takes : rz_K := (3, kPl, 0, true, fun av w => ∃ (fi se mi tk le bo rg tp la : Nat → Int32) (tr sp x y : Int32) (n : Nat), av = [.ref 27, .int x, .int y] ∧ w = wPl fi se mi tk le bo rg tp la (nI n) tr sp ∧ n ≤ 60, fun av w o _ => ∀ n, rF w 27 9 = nI n → n ≤ 60 → rR o = bI (n < 60 ∧ ∀ p, p < n → ¬ duP (rI w 28) (rI w 29) (rA av 1) (rA av 2) p))
def cl_X3_takes : List (Nat × rz_K) := []
def cv_X3_takes : List (Nat × rz_K) := []
theorem vc_X3_takes : rz_VC k_X3_takes fl_X3 cl_X3_takes cv_X3_takes s_X3_takes true 6 ce_X3_takes := by
  intro av w hlen hk hpre
  obtain ⟨fi, se, mi, tk, le, bo, rg, tp, la, tr, sp, x, y, n, rfl, rfl, hn⟩ := hpre
  have fin : ∀ v : Int32, v = bI (n < 60 ∧ ∀ p, p < n → ¬ duP fi se x y p) → (v = 0 ∨ v = 1) ∧ rz_end ce_X3_takes [.ref 27, .int x, .int y] (wPl fi se mi tk le bo rg tp la (nI n) tr sp) (some (.int v)) (wPl fi se mi tk le bo rg tp la (nI n) tr sp) := by
    intro v hv
    refine ⟨by rw [hv]; exact bI_01 _, ⟨_, rfl⟩, fun _ => rfl, ?_⟩
    intro m e hm
    have e : n = m := nI_inj (by omega) (by omega) e
    subst e
    exact hv
  refine ⟨Nat.le_of_ble_eq_true rfl, [
    (2, [0, 1, 2, 3], fun z lv w' => ∃ i : Nat, i ≤ n ∧ (∀ p, p < i → ¬ duP fi se x y p) ∧ lv = [(0, .ref 27), (1, .int x), (2, .int y), (3, .int (nI i))] ∧ w' = wPl fi se mi tk le bo rg tp la (nI n) tr sp ∧ z = (n - i) * 10 + 5),
    (37, [0, 1, 2, 3, 4], fun z lv w' => ∃ i : Nat, i < n ∧ (∀ p, p < i → ¬ duP fi se x y p) ∧ lv = [(0, .ref 27), (1, .int x), (2, .int y), (3, .int (nI i)), (4, .int (bI (fi i = x ∧ se i = y)))] ∧ w' = wPl fi se mi tk le bo rg tp la (nI n) tr sp ∧ z = (n - i) * 10 + 4),
    (64, [0, 1, 2, 3, 4, 5], fun z lv w' => ∃ i : Nat, i < n ∧ (∀ p, p < i → ¬ duP fi se x y p) ∧ lv = [(0, .ref 27), (1, .int x), (2, .int y), (3, .int (nI i)), (4, .int (bI (fi i = x ∧ se i = y))), (5, .int (bI (fi i = y ∧ se i = x)))] ∧ w' = wPl fi se mi tk le bo rg tp la (nI n) tr sp ∧ z = (n - i) * 10 + 3)], 60, n * 10 + 6, ?_, ?_⟩
  · intro y1 hq z lv w' hj
    rcases List.mem_cons.mp hq with rfl | hq
    · obtain ⟨i, hi, hall, rfl, rfl, rfl⟩ := hj
      conv => whnf
      refine ⟨fun k => ?_, fun k => ?_⟩
      · have e : i = n := by
          have := (nI_leI (by omega) (by omega)).mp k
          omega
        subst e
        conv => whnf
        refine ⟨fun k2 => ?_, fun k2 => ?_⟩
        · have k2 : nI 60 ≤ nI i := k2
          have k2 := (nI_leI (by omega) (by omega)).mp k2
          exact fin _ (bI_f (fun z => by omega))
        · have k2 : ¬ nI 60 ≤ nI i := k2
          refine fin _ (bI_t ⟨?_, hall⟩)
          rcases Nat.lt_or_ge i 60 with z | z
          · exact z
          · exact absurd (nI_le z (by omega)) k2
      · have hi2 : i < n := by
          rcases Nat.lt_or_ge i n with z | z
          · exact z
          · exact absurd (nI_le z (by omega)) k
        have hcl : (nI i).toNatClampNeg = i := nI_clamp (by omega)
        have hv : vp_in (nI i) 60 := vp_in_nI (by omega) (by omega)
        conv => whnf
        refine ⟨hv, ?_⟩
        conv => whnf
        refine ⟨fun k1 => ?_, fun k1 => ?_⟩
        · have k1 : fi (nI i).toNatClampNeg = x := k1
          rw [hcl] at k1
          conv => whnf
          refine ⟨hv, ?_⟩
          conv => whnf
          refine ⟨fun k2 => ?_, fun k2 => ?_⟩
          · have k2 : se (nI i).toNatClampNeg = y := k2
            rw [hcl] at k2
            conv => whnf
            rintro _ rfl
            conv => whnf
            refine ⟨(n - i) * 10 + 4, by omega, i, hi2, hall, ?_, rfl, rfl⟩
            show [_, _, _, _, (4, Value.int 1)] = _
            rw [bI_t (c := fi i = x ∧ se i = y) ⟨k1, k2⟩]
          · have k2 : ¬ se (nI i).toNatClampNeg = y := k2
            rw [hcl] at k2
            conv => whnf
            rintro _ rfl
            conv => whnf
            refine ⟨(n - i) * 10 + 4, by omega, i, hi2, hall, ?_, rfl, rfl⟩
            show [_, _, _, _, (4, Value.int 0)] = _
            rw [bI_f (c := fi i = x ∧ se i = y) (fun z => k2 z.2)]
        · have k1 : ¬ fi (nI i).toNatClampNeg = x := k1
          rw [hcl] at k1
          conv => whnf
          rintro _ rfl
          conv => whnf
          refine ⟨(n - i) * 10 + 4, by omega, i, hi2, hall, ?_, rfl, rfl⟩
          show [_, _, _, _, (4, Value.int 0)] = _
          rw [bI_f (c := fi i = x ∧ se i = y) (fun z => k1 z.1)]
    rcases List.mem_cons.mp hq with rfl | hq
    · obtain ⟨i, hi2, hall, rfl, rfl, rfl⟩ := hj
      have hcl : (nI i).toNatClampNeg = i := nI_clamp (by omega)
      have hv : vp_in (nI i) 60 := vp_in_nI (by omega) (by omega)
      conv => whnf
      refine ⟨hv, ?_⟩
      conv => whnf
      refine ⟨fun k1 => ?_, fun k1 => ?_⟩
      · have k1 : fi (nI i).toNatClampNeg = y := k1
        rw [hcl] at k1
        conv => whnf
        refine ⟨hv, ?_⟩
        conv => whnf
        refine ⟨fun k2 => ?_, fun k2 => ?_⟩
        · have k2 : se (nI i).toNatClampNeg = x := k2
          rw [hcl] at k2
          conv => whnf
          rintro _ rfl
          conv => whnf
          refine ⟨(n - i) * 10 + 3, by omega, i, hi2, hall, ?_, rfl, rfl⟩
          show [_, _, _, _, _, (5, Value.int 1)] = _
          rw [bI_t (c := fi i = y ∧ se i = x) ⟨k1, k2⟩]
        · have k2 : ¬ se (nI i).toNatClampNeg = x := k2
          rw [hcl] at k2
          conv => whnf
          rintro _ rfl
          conv => whnf
          refine ⟨(n - i) * 10 + 3, by omega, i, hi2, hall, ?_, rfl, rfl⟩
          show [_, _, _, _, _, (5, Value.int 0)] = _
          rw [bI_f (c := fi i = y ∧ se i = x) (fun z => k2 z.2)]
      · have k1 : ¬ fi (nI i).toNatClampNeg = y := k1
        rw [hcl] at k1
        conv => whnf
        rintro _ rfl
        conv => whnf
        refine ⟨(n - i) * 10 + 3, by omega, i, hi2, hall, ?_, rfl, rfl⟩
        show [_, _, _, _, _, (5, Value.int 0)] = _
        rw [bI_f (c := fi i = y ∧ se i = x) (fun z => k1 z.1)]
    rcases List.mem_cons.mp hq with rfl | hq
    · obtain ⟨i, hi2, hall, rfl, rfl, rfl⟩ := hj
      conv => whnf
      refine ⟨fun k1 => ?_, fun k1 => ?_⟩
      · conv => whnf
        refine ⟨fun k2 => ?_, fun k2 => ?_⟩
        · conv => whnf
          rintro _ rfl
          conv => whnf
          refine ⟨(n - (i + 1)) * 10 + 5, by omega, i + 1, by omega, lt_s hall (fun z => z.elim (bI_0 k1) (bI_0 k2)), ?_, rfl, rfl⟩
          show [_, _, _, (3, Value.int (nI i + 1))] = _
          rw [nI_1]
        · exact fin _ (bI_f (fun z => z.2 i hi2 (Or.inr (bI_n k2))))
      · exact fin _ (bI_f (fun z => z.2 i hi2 (Or.inl (bI_n k1))))
    · exact absurd hq List.not_mem_nil
  · conv => whnf
    rintro _ rfl
    conv => whnf
    refine ⟨n * 10 + 5, by omega, 0, by omega, lt_0, rfl, rfl, by omega⟩
theorem rv_X3_takes : rz_Rv yX3_takes.cls ce_X3_takes := fun av w h => by
  obtain ⟨_, _, _, _, _, _, _, _, _, _, _, _, _, _, rfl, rfl, _⟩ := h
  exact ⟨_, _, _, _, _, _, rfl, rfl, rfl⟩
theorem cn_X3_takes (l : Launch) : rz_Con l yX3_takes cX3_takes 6 (some .boolean) 0 0 0 ce_X3_takes := rz_con (by decide +kernel) fo_X3 (fun _ h => absurd h List.not_mem_nil) (fun _ h => absurd h List.not_mem_nil) r_X3_takes vc_X3_takes
/-- the nearest track so far, and how far -/
def ntF (mi la le bo rg tp : Nat → Int32) (sp : Int32) (p : Nat) : Nat → Int32 × Int64
  | 0 => (-1, 0)
  | t + 1 => if mi (la t).toNatClampNeg < mi p ∧ sqF le bo rg tp (la t).toNatClampNeg p ≤ sp.toInt64 * (mi p - mi (la t).toNatClampNeg).toInt64 * (sp.toInt64 * (mi p - mi (la t).toNatClampNeg).toInt64) ∧ ((ntF mi la le bo rg tp sp p t).1 = -1 ∨ sqF le bo rg tp (la t).toNatClampNeg p < (ntF mi la le bo rg tp sp p t).2) then (nI t, sqF le bo rg tp (la t).toNatClampNeg p) else ntF mi la le bo rg tp sp p t
def ce_X3_nearestTrack : rz_K := (2, kPl, 0, true, fun av w => ∃ (fi se mi tk le bo rg tp la : Nat → Int32) (sz sp : Int32) (p m : Nat), av = [.ref 27, .int (nI p)] ∧ w = wPl fi se mi tk le bo rg tp la sz (nI m) sp ∧ p < 60 ∧ m ≤ 60 ∧ ∀ t, t < m → vp_in (la t) 60, fun av w o _ => ∀ p m, rA av 1 = nI p → p < 60 → rF w 27 10 = nI m → m ≤ 60 → rR o = (ntF (rI w 30) (rI w 36) (rI w 32) (rI w 33) (rI w 34) (rI w 35) (rF w 27 11) p m).1)
def cl_X3_nearestTrack : List (Nat × rz_K) := []
def cv_X3_nearestTrack : List (Nat × rz_K) := [(58, ce_X3_squaredDistance)]
theorem vc_X3_nearestTrack : rz_VC k_X3_nearestTrack fl_X3 cl_X3_nearestTrack cv_X3_nearestTrack s_X3_nearestTrack false 11 ce_X3_nearestTrack := by
  intro av w hlen hk hpre
  obtain ⟨fi, se, mi, tk, le, bo, rg, tp, la, sz, sp, p, m, rfl, rfl, hp, hm, hla⟩ := hpre
  have hvp : vp_in (nI p) 60 := vp_in_nI hp (by omega)
  have hcp : (nI p).toNatClampNeg = p := nI_clamp (by omega)
  refine ⟨Nat.le_of_ble_eq_true rfl, [
    (7, [0, 1, 2, 3, 5], fun z lv w' => ∃ t : Nat, t ≤ m ∧ lv = [(0, .ref 27), (1, .int (nI p)), (2, .int (ntF mi la le bo rg tp sp p t).1), (3, .long (ntF mi la le bo rg tp sp p t).2), (5, .int (nI t))] ∧ w' = wPl fi se mi tk le bo rg tp la sz (nI m) sp ∧ z = (m - t) * 2 + 1),
    (105, [0, 1, 2, 3, 5], fun z lv w' => ∃ t : Nat, t < m ∧ lv = [(0, .ref 27), (1, .int (nI p)), (2, .int (ntF mi la le bo rg tp sp p (t + 1)).1), (3, .long (ntF mi la le bo rg tp sp p (t + 1)).2), (5, .int (nI t))] ∧ w' = wPl fi se mi tk le bo rg tp la sz (nI m) sp ∧ z = (m - t) * 2)], 90, m * 2 + 2, ?_, ?_⟩
  · intro y1 hq z lv w' hj
    rcases List.mem_cons.mp hq with rfl | hq
    · obtain ⟨t, ht, rfl, rfl, rfl⟩ := hj
      conv => whnf
      refine ⟨fun k => ?_, fun k => ?_⟩
      · have e : t = m := by
          have := (nI_leI (by omega) (by omega)).mp k
          omega
        subst e
        refine ⟨⟨_, rfl⟩, fun _ => rfl, ?_⟩
        intro p' m' e1 h1 e2 h2
        have e1 : p = p' := nI_inj (by omega) (by omega) e1
        have e2 : t = m' := nI_inj (by omega) (by omega) e2
        subst e1 e2
        rfl
      · have ht2 : t < m := by
          rcases Nat.lt_or_ge t m with z | z
          · exact z
          · exact absurd (nI_le z (by omega)) k
        have hcl : (nI t).toNatClampNeg = t := nI_clamp (by omega)
        have hvb := hla t ht2
        generalize hB : (la t).toNatClampNeg = B
        have hs : ntF mi la le bo rg tp sp p (t + 1) = if mi B < mi p ∧ sqF le bo rg tp B p ≤ sp.toInt64 * (mi p - mi B).toInt64 * (sp.toInt64 * (mi p - mi B).toInt64) ∧ ((ntF mi la le bo rg tp sp p t).1 = -1 ∨ sqF le bo rg tp B p < (ntF mi la le bo rg tp sp p t).2) then (nI t, sqF le bo rg tp B p) else ntF mi la le bo rg tp sp p t := by rw [← hB]; rfl
        generalize hN : ntF mi la le bo rg tp sp p t = N at *
        conv => whnf
        refine ⟨vp_in_nI (by omega) (by omega), ?_⟩
        conv => whnf
        intro be ebe
        have ebe : be = la t := by rw [ebe]; show la (nI t).toNatClampNeg = _; rw [hcl]
        subst ebe
        conv => whnf
        refine ⟨hvb, ?_⟩
        conv => whnf
        refine ⟨hvp, ?_⟩
        conv => whnf
        refine ⟨fun k1 => ?_, fun k1 => ?_⟩
        · have k1 : mi (la t).toNatClampNeg < mi (nI p).toNatClampNeg := k1
          rw [hB, hcp] at k1
          conv => whnf
          refine ⟨⟨fi, se, mi, tk, le, bo, rg, tp, la, sz, nI m, sp, la t, nI p, rfl, rfl, hvb, hvp⟩, ?_⟩
          intro sq hsq
          have hsq : sq = sqF le bo rg tp (la t).toNatClampNeg (nI p).toNatClampNeg := hsq
          rw [hB, hcp] at hsq
          conv => whnf
          intro v_ ev_
          have ev_ := ev_.symm
          subst ev_
          conv => whnf
          refine ⟨hvp, ?_⟩
          conv => whnf
          refine ⟨hvb, ?_⟩
          conv => whnf
          intro wy ewy
          have hwy : wy = sp.toInt64 * (mi p - mi B).toInt64 := by
            rw [ewy]
            show sp.toInt64 * (mi (nI p).toNatClampNeg - mi (la t).toNatClampNeg).toInt64 = _
            rw [hB, hcp]
          conv => whnf
          refine ⟨fun k2 => ?_, fun k2 => ?_⟩
          · have k2 : wy * wy < sq := (lg_gt0 _ _).mp k2
            conv => whnf
            refine ⟨(m - t) * 2, by omega, t, ht2, ?_, rfl, rfl⟩
            rw [hs, if_neg (fun z => absurd z.2.1 (by rw [← hwy, ← hsq]; exact (i64_not_le _ _).mpr k2))]
            rfl
          · have k2 : sq ≤ wy * wy := (i64_not_lt _ _).mp (fun z => k2 ((lg_gt0 _ _).mpr z))
            conv => whnf
            refine ⟨fun k3 => ?_, fun k3 => ?_⟩
            · have e : ntF mi la le bo rg tp sp p (t + 1) = (nI t, sq) := by
                rw [hs, if_pos ⟨k1, by rw [← hwy, ← hsq]; exact k2, Or.inl k3⟩, hsq]
              conv => whnf
              rintro _ rfl
              conv => whnf
              rintro _ rfl
              conv => whnf
              refine ⟨(m - t) * 2, by omega, t, ht2, ?_, rfl, rfl⟩
              rw [e]
              rfl
            · conv => whnf
              refine ⟨fun k4 => ?_, fun k4 => ?_⟩
              · have k4 : N.2 ≤ sq := (lg_ge0 _ _).mp k4
                conv => whnf
                refine ⟨(m - t) * 2, by omega, t, ht2, ?_, rfl, rfl⟩
                rw [hs, if_neg (fun z => z.2.2.elim k3 (fun y => absurd y (by rw [← hsq]; exact (i64_not_lt _ _).mpr k4)))]
                rfl
              · have k4 : sq < N.2 := (i64_not_le _ _).mp (fun z => k4 ((lg_ge0 _ _).mpr z))
                have e : ntF mi la le bo rg tp sp p (t + 1) = (nI t, sq) := by
                  rw [hs, if_pos ⟨k1, by rw [← hwy, ← hsq]; exact k2, Or.inr (by rw [← hsq]; exact k4)⟩, hsq]
                conv => whnf
                rintro _ rfl
                conv => whnf
                rintro _ rfl
                conv => whnf
                refine ⟨(m - t) * 2, by omega, t, ht2, ?_, rfl, rfl⟩
                rw [e]
                rfl
        · have k1 : ¬ mi (la t).toNatClampNeg < mi (nI p).toNatClampNeg := k1
          rw [hB, hcp] at k1
          conv => whnf
          refine ⟨(m - t) * 2, by omega, t, ht2, ?_, rfl, rfl⟩
          rw [hs, if_neg (fun z => k1 z.1)]
          rfl
    rcases List.mem_cons.mp hq with rfl | hq
    · obtain ⟨t, ht2, rfl, rfl, rfl⟩ := hj
      conv => whnf
      rintro _ rfl
      conv => whnf
      refine ⟨(m - (t + 1)) * 2 + 1, by omega, t + 1, by omega, ?_, rfl, rfl⟩
      show [_, _, _, _, (5, Value.int (nI t + 1))] = _
      rw [nI_1]
    · exact absurd hq List.not_mem_nil
  · conv => whnf
    rintro _ rfl
    conv => whnf
    rintro _ rfl
    conv => whnf
    rintro _ rfl
    conv => whnf
    refine ⟨m * 2 + 1, by omega, 0, by omega, rfl, rfl, by omega⟩
theorem rv_X3_nearestTrack : rz_Rv yX3_nearestTrack.cls ce_X3_nearestTrack := fun av w h => by
  obtain ⟨_, _, _, _, _, _, _, _, _, _, _, _, _, rfl, rfl, _⟩ := h
  exact ⟨_, _, _, _, _, _, rfl, rfl, rfl⟩
theorem cn_X3_nearestTrack (l : Launch) : rz_Con l yX3_nearestTrack cX3_nearestTrack 11 (some .int) 2 0 0 ce_X3_nearestTrack := rz_con (by decide +kernel) fo_X3 (fun _ h => absurd h List.not_mem_nil) (by
  intro q hq
  rcases List.mem_cons.mp hq with rfl | hq
  · exact rz_callV (cn_X3_squaredDistance l) (by decide +kernel) ⟨Nat.le_of_ble_eq_true rfl, Nat.le_of_ble_eq_true rfl⟩ m_X3_squaredDistance rfl i_X3_squaredDistance v_X3_squaredDistance rv_X3_squaredDistance n_X3_58
  exact absurd hq List.not_mem_nil) r_X3_nearestTrack vc_X3_nearestTrack
theorem ntF_in (mi la le bo rg tp : Nat → Int32) (sp : Int32) (p : Nat) : ∀ m, (ntF mi la le bo rg tp sp p m).1 = -1 ∨ ∃ t, t < m ∧ (ntF mi la le bo rg tp sp p m).1 = nI t
  | 0 => Or.inl rfl
  | t + 1 => by
    unfold ntF
    split
    · exact Or.inr ⟨t, by omega, rfl⟩
    · rcases ntF_in mi la le bo rg tp sp p t with z | ⟨u, z1, z2⟩
      · exact Or.inl z
      · exact Or.inr ⟨u, by omega, z2⟩
abbrev wPS (fi se mi tk le bo rg tp la : Nat → Int32) (sz tr sp : Int32) (a b c ex ey tx lx ty ly : Nat → Int64) (co : Int32) : rz_W := [(27, ro 3 [.ref 28, .ref 29, .ref 30, .ref 31, .ref 32, .ref 33, .ref 34, .ref 35, .ref 36, .int sz, .int tr, .int sp]), (28, ri 60 fi), (29, ri 60 se), (30, ri 60 mi), (31, ri 60 tk), (32, ri 60 le), (33, ri 60 bo), (34, ri 60 rg), (35, ri 60 tp), (36, ri 60 la), (17, ro 4 [.ref 18, .ref 19, .ref 20, .ref 21, .ref 22, .ref 23, .ref 24, .ref 25, .ref 26, .int co]), (18, rl 4 a), (19, rl 4 b), (20, rl 4 c), (21, rl 4 ex), (22, rl 4 ey), (23, rl 6 tx), (24, rl 6 lx), (25, rl 6 ty), (26, rl 6 ly)]
abbrev kPS : List Nat := [27, 28, 29, 30, 31, 32, 33, 34, 35, 36, 17, 18, 19, 20, 21, 22, 23, 24, 25, 26]
/-- the track that a plot joins: one there is, or the next -/
def trF (x : Int32) (m : Nat) : Nat := if x = -1 then m else x.toNatClampNeg
def ce_X3_add : rz_K := (5, kPS, 0, false, fun av w => ∃ (fi se mi tk le bo rg tp la : Nat → Int32) (sp : Int32) (a b c ex ey tx lx ty ly : Nat → Int64) (x y u : Int32) (n m k : Nat), av = [.ref 27, .int x, .int y, .int u, .ref 17] ∧ w = wPS fi se mi tk le bo rg tp la (nI n) (nI m) sp a b c ex ey tx lx ty ly (nI k) ∧ n < 60 ∧ m ≤ n ∧ k ≤ 6 ∧ ∀ t, t < m → vp_in (la t) 60, fun av w o w' => ∀ n m k, rF w 27 9 = nI n → n < 60 → rF w 27 10 = nI m → m ≤ n → rF w 17 9 = nI k → k ≤ 6 → ∀ mi' le' bo' rg' tp' : Nat → Int32, mi' = upd (rI w 30) n (rA av 3) → le' = upd (rI w 32) n (bxF (rJ w 23) (rJ w 24) (rJ w 25) (rJ w 26) k 0) → bo' = upd (rI w 33) n (bxF (rJ w 23) (rJ w 24) (rJ w 25) (rJ w 26) k 1) → rg' = upd (rI w 34) n (bxF (rJ w 23) (rJ w 24) (rJ w 25) (rJ w 26) k 2) → tp' = upd (rI w 35) n (bxF (rJ w 23) (rJ w 24) (rJ w 25) (rJ w 26) k 3) → ∀ T, T = trF (ntF mi' (rI w 36) le' bo' rg' tp' (rF w 27 11) n m).1 m → rR o = nI T ∧ T ≤ m ∧ w' = wPS (upd (rI w 28) n (rA av 1)) (upd (rI w 29) n (rA av 2)) mi' (upd (rI w 31) n (nI T)) le' bo' rg' tp' (upd (rI w 36) T (nI n)) (nI (n + 1)) (nI (if T = m then m + 1 else m)) (rF w 27 11) (rJ w 18) (rJ w 19) (rJ w 20) (rJ w 21) (rJ w 22) (rJ w 23) (rJ w 24) (rJ w 25) (rJ w 26) (rF w 17 9))
def cl_X3_add : List (Nat × rz_K) := []
def cv_X3_add : List (Nat × rz_K) := [(49, ce_X4_boxSide), (55, ce_X3_nearestTrack)]
set_option maxHeartbeats 4000000 in
theorem vc_X3_add : rz_VC k_X3_add fl_X3 cl_X3_add cv_X3_add s_X3_add false 7 ce_X3_add := by
  intro av w hlen hk hpre
  obtain ⟨fi, se, mi, tk, le, bo, rg, tp, la, sp, a, b, c, ex, ey, tx, lx, ty, ly, x, y, u, n, m, k, rfl, rfl, hn, hmn, hk6, hla⟩ := hpre
  generalize hmi : upd mi n u = mi'
  generalize hle : upd le n (bxF tx lx ty ly k 0) = le'
  generalize hbo : upd bo n (bxF tx lx ty ly k 1) = bo'
  generalize hrg : upd rg n (bxF tx lx ty ly k 2) = rg'
  generalize htp : upd tp n (bxF tx lx ty ly k 3) = tp'
  generalize hT : trF (ntF mi' la le' bo' rg' tp' sp n m).1 m = T
  have hTm : T ≤ m := by
    rw [← hT]
    rcases ntF_in mi' la le' bo' rg' tp' sp n m with z | ⟨t, z1, z2⟩
    · rw [trF, if_pos z]; exact Nat.le_refl m
    · rw [z2, trF, if_neg (nI_ne_m1 (by omega)), nI_clamp (by omega)]; omega
  have hvn : vp_in (nI n) 60 := vp_in_nI hn (by omega)
  have hcn : (nI n).toNatClampNeg = n := nI_clamp (by omega)
  have hvT : vp_in (nI T) 60 := vp_in_nI (by omega) (by omega)
  have hcT : (nI T).toNatClampNeg = T := nI_clamp (by omega)
  have fin : rz_end ce_X3_add [.ref 27, .int x, .int y, .int u, .ref 17] (wPS fi se mi tk le bo rg tp la (nI n) (nI m) sp a b c ex ey tx lx ty ly (nI k)) (some (.int (nI T))) (wPS (upd fi n x) (upd se n y) mi' (upd tk n (nI T)) le' bo' rg' tp' (upd la T (nI n)) (nI (n + 1)) (nI (if T = m then m + 1 else m)) sp a b c ex ey tx lx ty ly (nI k)) := by
    refine ⟨⟨_, rfl⟩, fun z => (by cases z), ?_⟩
    intro n' m' k' e1 h1 e2 h2 e3 h3 mi1 le1 bo1 rg1 tp1 g1 g2 g3 g4 g5 T1 g6
    have e1 : n = n' := nI_inj (by omega) (by omega) e1
    have e2 : m = m' := nI_inj (by omega) (by omega) e2
    have e3 : k = k' := nI_inj (by omega) (by omega) e3
    subst e1 e2 e3
    have g1 : mi1 = mi' := g1.trans hmi
    have g2 : le1 = le' := g2.trans hle
    have g3 : bo1 = bo' := g3.trans hbo
    have g4 : rg1 = rg' := g4.trans hrg
    have g5 : tp1 = tp' := g5.trans htp
    subst g1 g2 g3 g4 g5
    have g6 : T1 = T := g6.trans hT
    subst g6
    exact ⟨rfl, hTm, rfl⟩
  refine ⟨Nat.le_of_ble_eq_true rfl, [
    (93, [0, 1, 2, 3, 4, 5], fun z lv w' => lv = [(0, .ref 27), (1, .int x), (2, .int y), (3, .int u), (4, .ref 17), (5, .int (nI n))] ∧ w' = wPS (upd fi n x) (upd se n y) mi' tk le' bo' rg' tp' la (nI n) (nI m) sp a b c ex ey tx lx ty ly (nI k) ∧ z = 1),
    (123, [0, 1, 2, 3, 4, 5, 6], fun z lv w' => lv = [(0, .ref 27), (1, .int x), (2, .int y), (3, .int u), (4, .ref 17), (5, .int (nI n)), (6, .int (nI T))] ∧ w' = wPS (upd fi n x) (upd se n y) mi' tk le' bo' rg' tp' la (nI n) (nI (if T = m then m + 1 else m)) sp a b c ex ey tx lx ty ly (nI k) ∧ z = 0)], 100, 2, ?_, ?_⟩
  · intro y1 hq z lv w' hj
    rcases List.mem_cons.mp hq with rfl | hq
    · obtain ⟨rfl, rfl, rfl⟩ := hj
      conv => whnf
      refine ⟨⟨_, _, mi', tk, le', bo', rg', tp', la, nI n, sp, n, m, rfl, rfl, hn, by omega, hla⟩, ?_⟩
      intro r hr
      have hr : r = (ntF mi' la le' bo' rg' tp' sp n m).1 := hr n m rfl hn rfl (by omega)
      rw [← hr] at hT
      conv => whnf
      intro v_ ev_
      have ev_ := ev_.symm
      subst ev_
      conv => whnf
      refine ⟨fun k1 => ?_, fun k1 => ?_⟩
      · have e : T = m := by rw [← hT, trF, if_pos k1]
        conv => whnf
        rintro _ rfl
        conv => whnf
        refine ⟨0, by omega, ?_, ?_, rfl⟩
        · rw [e]
          rfl
        · rw [if_pos e, ← nI_1]
          rfl
      · obtain ⟨t, z1, z2⟩ : ∃ t, t < m ∧ r = nI t := by
          rcases ntF_in mi' la le' bo' rg' tp' sp n m with z | ⟨t, z1, z2⟩
          · exact absurd (hr.trans z) k1
          · exact ⟨t, z1, hr.trans z2⟩
        have e : T = t := by rw [← hT, trF, if_neg k1, z2, nI_clamp (by omega)]
        conv => whnf
        refine ⟨0, by omega, ?_, ?_, rfl⟩
        · rw [e, ← z2]
          rfl
        · rw [if_neg (by omega)]
    rcases List.mem_cons.mp hq with rfl | hq
    · obtain ⟨rfl, rfl, rfl⟩ := hj
      conv => whnf
      refine ⟨hvn, ?_⟩
      conv => whnf
      refine ⟨hvT, ?_⟩
      conv => whnf
      have fin := fin
      rw [← nI_1] at fin
      have hw : wPS (upd fi n x) (upd se n y) mi' (upd tk (nI n).toNatClampNeg (nI T)) le' bo' rg' tp' (upd la (nI T).toNatClampNeg (nI n)) (nI n + 1) (nI (if T = m then m + 1 else m)) sp a b c ex ey tx lx ty ly (nI k) = wPS (upd fi n x) (upd se n y) mi' (upd tk n (nI T)) le' bo' rg' tp' (upd la T (nI n)) (nI n + 1) (nI (if T = m then m + 1 else m)) sp a b c ex ey tx lx ty ly (nI k) := by rw [hcn, hcT]
      rw [← hw] at fin
      exact fin
    · exact absurd hq List.not_mem_nil
  · conv => whnf
    refine ⟨fun k1 => ?_, fun k1 => ?_⟩
    · conv => whnf
      rintro _ rfl
      conv => whnf
      refine ⟨hvn, ?_⟩
      conv => whnf
      refine ⟨hvn, ?_⟩
      conv => whnf
      refine ⟨hvn, ?_⟩
      conv => whnf
      refine ⟨⟨a, b, c, ex, ey, tx, lx, ty, ly, k, 0, rfl, rfl, hk6⟩, ?_⟩
      intro r0 hr0
      obtain rfl : r0 = bxF tx lx ty ly k 0 := hr0 k rfl hk6
      conv => whnf
      refine ⟨hvn, ?_⟩
      conv => whnf
      refine ⟨⟨a, b, c, ex, ey, tx, lx, ty, ly, k, 1, rfl, rfl, hk6⟩, ?_⟩
      intro r0 hr0
      obtain rfl : r0 = bxF tx lx ty ly k 1 := hr0 k rfl hk6
      conv => whnf
      refine ⟨hvn, ?_⟩
      conv => whnf
      refine ⟨⟨a, b, c, ex, ey, tx, lx, ty, ly, k, 2, rfl, rfl, hk6⟩, ?_⟩
      intro r0 hr0
      obtain rfl : r0 = bxF tx lx ty ly k 2 := hr0 k rfl hk6
      conv => whnf
      refine ⟨hvn, ?_⟩
      conv => whnf
      refine ⟨⟨a, b, c, ex, ey, tx, lx, ty, ly, k, 3, rfl, rfl, hk6⟩, ?_⟩
      intro r0 hr0
      obtain rfl : r0 = bxF tx lx ty ly k 3 := hr0 k rfl hk6
      conv => whnf
      refine ⟨hvn, ?_⟩
      conv => whnf
      refine ⟨1, by omega, rfl, ?_, rfl⟩
      show wPS (upd fi (nI n).toNatClampNeg x) (upd se (nI n).toNatClampNeg y) (upd mi (nI n).toNatClampNeg u) tk (upd le (nI n).toNatClampNeg (bxF tx lx ty ly k 0)) (upd bo (nI n).toNatClampNeg (bxF tx lx ty ly k 1)) (upd rg (nI n).toNatClampNeg (bxF tx lx ty ly k 2)) (upd tp (nI n).toNatClampNeg (bxF tx lx ty ly k 3)) la (nI n) (nI m) sp a b c ex ey tx lx ty ly (nI k) = _
      rw [hcn, hmi, hle, hbo, hrg, htp]
    · have k1 : ¬ nI n < nI 60 := k1
      exact absurd (nI_lt hn (by omega)) k1
theorem rv_X3_add : rz_Rv yX3_add.cls ce_X3_add := fun av w h => by
  obtain ⟨_, _, _, _, _, _, _, _, _, _, _, _, _, _, _, _, _, _, _, _, _, _, _, _, _, rfl, rfl, _⟩ := h
  exact ⟨_, _, _, _, _, _, rfl, rfl, rfl⟩
theorem cn_X3_add (l : Launch) : rz_Con l yX3_add cX3_add 7 (some .int) 4 0 0 ce_X3_add := rz_con (by decide +kernel) fo_X3 (fun _ h => absurd h List.not_mem_nil) (by
  intro q hq
  rcases List.mem_cons.mp hq with rfl | hq
  · exact rz_callVN (cn_X4_boxSide l) (by decide +kernel) ⟨Nat.le_of_ble_eq_true rfl, Nat.le_of_ble_eq_true rfl⟩ m_X4_boxSide rfl i_X4_boxSide v_X4_boxSide rv_X4_boxSide n_X3_49
  rcases List.mem_cons.mp hq with rfl | hq
  · exact rz_callV (cn_X3_nearestTrack l) (by decide +kernel) ⟨Nat.le_of_ble_eq_true rfl, Nat.le_of_ble_eq_true rfl⟩ m_X3_nearestTrack rfl i_X3_nearestTrack v_X3_nearestTrack rv_X3_nearestTrack n_X3_55
  exact absurd hq List.not_mem_nil) r_X3_add vc_X3_add
def ce_X3_partOf : rz_K := (3, kPl, 0, true, fun av w => ∃ (fi se mi tk le bo rg tp la : Nat → Int32) (tr sp p q : Int32) (n : Nat), av = [.ref 27, .int p, .int q] ∧ w = wPl fi se mi tk le bo rg tp la (nI n) tr sp ∧ n ≤ 60, fun av w o _ => ∀ n, rF w 27 9 = nI n → n ≤ 60 → rR o = if okS (rA av 1) n then (if rA av 2 = 0 then rI w 31 (rA av 1).toNatClampNeg else if rA av 2 = 1 then rI w 28 (rA av 1).toNatClampNeg else if rA av 2 = 2 then rI w 29 (rA av 1).toNatClampNeg else if rA av 2 = 3 then rI w 30 (rA av 1).toNatClampNeg else -1) else -1)
def cl_X3_partOf : List (Nat × rz_K) := [(66, ce_X6_isWithin)]
def cv_X3_partOf : List (Nat × rz_K) := []
theorem vc_X3_partOf : rz_VC k_X3_partOf fl_X3 cl_X3_partOf cv_X3_partOf s_X3_partOf false 3 ce_X3_partOf := by
  intro av w hlen hk hpre
  obtain ⟨fi, se, mi, tk, le, bo, rg, tp, la, tr, sp, p, q, n, rfl, rfl, hn⟩ := hpre
  refine ⟨Nat.le_of_ble_eq_true rfl, [], 60, 0, fun q h => absurd h List.not_mem_nil, ?_⟩
  have fin : ∀ v : Int32, (v = if okS p n then (if q = 0 then tk p.toNatClampNeg else if q = 1 then fi p.toNatClampNeg else if q = 2 then se p.toNatClampNeg else if q = 3 then mi p.toNatClampNeg else -1) else -1) → rz_end ce_X3_partOf [.ref 27, .int p, .int q] (wPl fi se mi tk le bo rg tp la (nI n) tr sp) (some (.int v)) (wPl fi se mi tk le bo rg tp la (nI n) tr sp) := by
    intro v hv
    refine ⟨⟨_, rfl⟩, fun _ => rfl, ?_⟩
    intro m e hm
    have e : n = m := nI_inj (by omega) (by omega) e
    subst e
    exact hv
  conv => whnf
  refine ⟨⟨_, _, _, rfl, rfl, trivial⟩, ?_⟩
  intro r hr
  obtain rfl : r = bI (okS p n) := hr
  conv => whnf
  refine ⟨fun h => ?_, fun h => ?_⟩
  · exact fin _ (if_neg (bI_0 h)).symm
  · have hO := bI_n h
    have hv := okS_vp hO hn (by omega)
    conv => whnf
    refine ⟨fun h0 => ?_, fun h0 => ?_⟩
    · conv => whnf
      refine ⟨hv, ?_⟩
      conv => whnf
      exact fin _ (by rw [if_pos hO, if_pos h0])
    · conv => whnf
      refine ⟨fun h1 => ?_, fun h1 => ?_⟩
      · conv => whnf
        refine ⟨hv, ?_⟩
        conv => whnf
        exact fin _ (by rw [if_pos hO, if_neg h0, if_pos h1])
      · conv => whnf
        refine ⟨fun h2 => ?_, fun h2 => ?_⟩
        · conv => whnf
          refine ⟨hv, ?_⟩
          conv => whnf
          exact fin _ (by rw [if_pos hO, if_neg h0, if_neg h1, if_pos h2])
        · conv => whnf
          refine ⟨fun h3 => ?_, fun h3 => ?_⟩
          · conv => whnf
            refine ⟨hv, ?_⟩
            conv => whnf
            exact fin _ (by rw [if_pos hO, if_neg h0, if_neg h1, if_neg h2, if_pos h3])
          · exact fin _ (by rw [if_pos hO, if_neg h0, if_neg h1, if_neg h2, if_neg h3])
theorem rv_X3_partOf : rz_Rv yX3_partOf.cls ce_X3_partOf := fun av w h => by
  obtain ⟨_, _, _, _, _, _, _, _, _, _, _, _, _, _, rfl, rfl, _⟩ := h
  exact ⟨_, _, _, _, _, _, rfl, rfl, rfl⟩
theorem cn_X3_partOf (l : Launch) : rz_Con l yX3_partOf cX3_partOf 3 (some .int) 1 0 0 ce_X3_partOf := rz_con (by decide +kernel) fo_X3 (by
  intro q hq
  rcases List.mem_cons.mp hq with rfl | hq
  · exact rz_callSN (cn_X6_isWithin l) (by decide +kernel) ⟨Nat.le_of_ble_eq_true rfl, Nat.le_of_ble_eq_true rfl⟩ m_X6_isWithin t_X6_isWithin n_X3_66
  exact absurd hq List.not_mem_nil) (fun _ h => absurd h List.not_mem_nil) r_X3_partOf vc_X3_partOf
