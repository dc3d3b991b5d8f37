/-! Shape of the class: half planes, corners, box. -/
def rP (av : List Value) (i : Nat) : Nat := match av[i]? with
  | some (.ref k) => k
  | _ => 0
def flr (t l : Int64) : Int64 := if 1 < l then fdv t l else t
def ovr (v g : Int64) : Int64 := if 1 < g then v / g else v
def ce_X4_floor : rz_K := (2, [], 1, true, fun av w => ∃ x y : Int64, av = [.long x, .long y] ∧ w = [] ∧ True, fun av _ o _ => rS o = flr (rB av 0) (rB av 1))
def cl_X4_floor : List (Nat × rz_K) := [(106, ce_J9_floorDiv_f86c9)]
def cv_X4_floor : List (Nat × rz_K) := []
theorem one_ne {y : Int64} (h : 1 < y) : ¬ y = 0 := fun z => by rw [z] at h; exact absurd h (by decide)
theorem vc_X4_floor : rz_VC k_X4_floor fl_X4 cl_X4_floor cv_X4_floor s_X4_floor false 4 ce_X4_floor := by
  intro av w hlen hk hpre
  obtain ⟨x, y, rfl, rfl, -⟩ := hpre
  refine ⟨Nat.le_of_ble_eq_true rfl, [], 60, 0, fun q h => absurd h List.not_mem_nil, ?_⟩
  conv => whnf
  refine ⟨fun h => ?_, fun h => ?_⟩
  · have h : ¬ 1 < y := (i64_not_lt _ _).mpr ((lg_le0 y 1).mp h)
    exact ⟨⟨_, rfl⟩, fun _ => rfl, (if_neg h).symm⟩
  · have h : 1 < y := (i64_not_le _ _).mp (fun z => h ((lg_le0 y 1).mpr z))
    conv => whnf
    refine ⟨⟨_, _, rfl, rfl, one_ne h⟩, ?_⟩
    intro r hr
    obtain rfl : r = fdv x y := hr
    conv => whnf
    exact ⟨⟨_, rfl⟩, fun _ => rfl, (if_pos h).symm⟩
theorem cn_X4_floor (l : Launch) : rz_Con l yX4_floor cX4_floor 4 (some .long) 1 0 0 ce_X4_floor := rz_con (by decide +kernel) fo_X4 (by
  intro q hq
  rcases List.mem_cons.mp hq with rfl | hq
  · exact rz_callS (cn_J9_floorDiv_f86c9 l) (by decide +kernel) ⟨Nat.le_of_ble_eq_true rfl, Nat.le_of_ble_eq_true rfl⟩ m_J9_floorDiv_f86c9 t_J9_floorDiv_f86c9 n_X4_106
  exact absurd hq List.not_mem_nil) (fun _ h => absurd h List.not_mem_nil) r_X4_floor vc_X4_floor
def ce_X4_over : rz_K := (2, [], 1, true, fun av w => ∃ x y : Int64, av = [.long x, .long y] ∧ w = [] ∧ True, fun av _ o _ => rS o = ovr (rB av 0) (rB av 1))
def cl_X4_over : List (Nat × rz_K) := []
def cv_X4_over : List (Nat × rz_K) := []
theorem vc_X4_over : rz_VC k_X4_over fl_X4 cl_X4_over cv_X4_over s_X4_over false 4 ce_X4_over := by
  intro av w hlen hk hpre
  obtain ⟨x, y, rfl, rfl, -⟩ := hpre
  refine ⟨Nat.le_of_ble_eq_true rfl, [], 60, 0, fun q h => absurd h List.not_mem_nil, ?_⟩
  conv => whnf
  refine ⟨fun h => ?_, fun h => ?_⟩
  · have h : ¬ 1 < y := (i64_not_lt _ _).mpr ((lg_le0 y 1).mp h)
    exact ⟨⟨_, rfl⟩, fun _ => rfl, (if_neg h).symm⟩
  · have h : 1 < y := (i64_not_le _ _).mp (fun z => h ((lg_le0 y 1).mpr z))
    conv => whnf
    refine ⟨one_ne h, ?_⟩
    conv => whnf
    exact ⟨⟨_, rfl⟩, fun _ => rfl, (if_pos h).symm⟩
theorem cn_X4_over (l : Launch) : rz_Con l yX4_over cX4_over 4 (some .long) 0 0 0 ce_X4_over := rz_con (by decide +kernel) fo_X4 (fun _ h => absurd h List.not_mem_nil) (fun _ h => absurd h List.not_mem_nil) r_X4_over vc_X4_over
def abL (x : Int64) : Int64 := if 0 ≤ x then x else -x
def cdF : Nat → Int64 → Int64 → Int64
  | 0, l, _ => l
  | n + 1, l, s => if s = 0 then l else cdF n s (l - l / s * s)
def ce_X4_commonDivisor : rz_K := (2, [], 1, true, fun av w => ∃ x y : Int64, av = [.long x, .long y] ∧ w = [] ∧ True, fun av _ o _ => rS o = cdF 128 (abL (rB av 0)) (abL (rB av 1)))
def cl_X4_commonDivisor : List (Nat × rz_K) := [(72, ce_J9_abs_067f4)]
def cv_X4_commonDivisor : List (Nat × rz_K) := []
theorem vc_X4_commonDivisor : rz_VC k_X4_commonDivisor fl_X4 cl_X4_commonDivisor cv_X4_commonDivisor s_X4_commonDivisor false 11 ce_X4_commonDivisor := by
  intro av w hlen hk hpre
  obtain ⟨x, y, rfl, rfl, -⟩ := hpre
  refine ⟨Nat.le_of_ble_eq_true rfl, [(15, [4, 6, 8], fun z lv w' => ∃ (i : Nat) (l t : Int64), i ≤ 128 ∧ cdF 128 (abL x) (abL y) = cdF (128 - i) l t ∧ lv = [(4, .long l), (6, .long t), (8, .int (nI i))] ∧ w' = [] ∧ z = 128 - i)], 60, 129, ?_, ?_⟩
  · intro y1 hq z lv w' hj
    rcases List.mem_cons.mp hq with rfl | hq
    · obtain ⟨i, l, t, hi, hcd, rfl, rfl, rfl⟩ := hj
      have fin : ∀ v, v = cdF 128 (abL x) (abL y) → rz_end ce_X4_commonDivisor [.long x, .long y] [] (some (.long v)) [] := fun v hv => ⟨⟨_, rfl⟩, fun _ => rfl, hv⟩
      conv => whnf
      refine ⟨fun c => ?_, fun c => ?_⟩
      · have c : nI 128 ≤ nI i := c
        have e : i = 128 := by
          have := (nI_leI (by omega) (by omega)).mp c
          omega
        subst e
        exact fin _ hcd.symm
      · have c : ¬ nI 128 ≤ nI i := c
        have hi2 : i < 128 := by
          rcases Nat.lt_or_ge i 128 with z | z
          · exact z
          · exact absurd (nI_le z (by omega)) c
        obtain ⟨d, hd⟩ : ∃ d, 128 - i = d + 1 := ⟨128 - i - 1, by omega⟩
        have hu : cdF (128 - i) l t = if t = 0 then l else cdF d t (l - l / t * t) := by rw [hd]; rfl
        conv => whnf
        refine ⟨fun c2 => ?_, fun c2 => ?_⟩
        · have c2 : t = 0 := (lg_eq0 t 0).mp c2
          exact fin _ (by rw [hcd, hu, if_pos c2])
        · have c2 : ¬ t = 0 := fun z => c2 ((lg_eq0 t 0).mpr z)
          conv => whnf
          refine ⟨c2, ?_⟩
          conv => whnf
          intro r1 er1
          conv => whnf
          intro l1 el1
          conv => whnf
          intro t1 et1
          conv => whnf
          rintro _ rfl
          subst et1 el1 er1
          conv => whnf
          refine ⟨128 - (i + 1), by omega, i + 1, l1, l - l / l1 * l1, by omega, ?_, ?_, rfl, rfl⟩
          · rw [hcd, hu, if_neg c2, show 128 - (i + 1) = d by omega]
          · show [_, _, (8, Value.int (nI i + 1))] = _
            rw [nI_1]
    · exact absurd hq List.not_mem_nil
  · conv => whnf
    refine ⟨⟨_, rfl, rfl, trivial⟩, ?_⟩
    intro r hr
    obtain rfl : r = abL x := hr
    conv => whnf
    rintro _ rfl
    conv => whnf
    refine ⟨⟨_, rfl, rfl, trivial⟩, ?_⟩
    intro r hr
    obtain rfl : r = abL y := hr
    conv => whnf
    rintro _ rfl
    conv => whnf
    rintro _ rfl
    conv => whnf
    refine ⟨128, by omega, 0, abL x, abL y, by omega, rfl, rfl, rfl, rfl⟩
theorem cn_X4_commonDivisor (l : Launch) : rz_Con l yX4_commonDivisor cX4_commonDivisor 11 (some .long) 1 0 0 ce_X4_commonDivisor := rz_con (by decide +kernel) fo_X4 (by
  intro q hq
  rcases List.mem_cons.mp hq with rfl | hq
  · exact rz_callS (cn_J9_abs_067f4 l) (by decide +kernel) ⟨Nat.le_of_ble_eq_true rfl, Nat.le_of_ble_eq_true rfl⟩ m_J9_abs_067f4 t_J9_abs_067f4 n_X4_72
  exact absurd hq List.not_mem_nil) (fun _ h => absurd h List.not_mem_nil) r_X4_commonDivisor vc_X4_commonDivisor
def ce_X4_putLeftSide : rz_K := (6, kSh, 2, false, fun av w => ∃ (a b c ex ey tx lx ty ly : Nat → Int64) (co s x y dx dy : Int32), av = [.ref 17, .int s, .int x, .int y, .int dx, .int dy] ∧ w = wSh a b c ex ey tx lx ty ly co ∧ vp_in s 4, fun av w _ w' => w' = wSh (vp_updL (rJ w 18) (rA av 1).toNatClampNeg (-(rA av 5)).toInt64) (vp_updL (rJ w 19) (rA av 1).toNatClampNeg (rA av 4).toInt64) (vp_updL (rJ w 20) (rA av 1).toNatClampNeg (-(rA av 5) * rA av 2 + rA av 4 * rA av 3).toInt64) (rJ w 21) (rJ w 22) (rJ w 23) (rJ w 24) (rJ w 25) (rJ w 26) (rF w 17 9))
def cl_X4_putLeftSide : List (Nat × rz_K) := []
def cv_X4_putLeftSide : List (Nat × rz_K) := []
theorem vc_X4_putLeftSide : rz_VC k_X4_putLeftSide fl_X4 cl_X4_putLeftSide cv_X4_putLeftSide s_X4_putLeftSide false 6 ce_X4_putLeftSide := by
  intro av w hlen hk hpre
  obtain ⟨a, b, c, ex, ey, tx, lx, ty, ly, co, s, x, y, dx, dy, rfl, rfl, hs⟩ := hpre
  refine ⟨Nat.le_of_ble_eq_true rfl, [], 60, 0, fun q h => absurd h List.not_mem_nil, ?_⟩
  conv => whnf
  refine ⟨hs, ?_⟩
  conv => whnf
  refine ⟨hs, ?_⟩
  conv => whnf
  refine ⟨hs, ?_⟩
  conv => whnf
  exact ⟨rfl, fun z => (by cases z), rfl⟩
theorem rv_X4_putLeftSide : rz_Rv yX4_putLeftSide.cls ce_X4_putLeftSide := fun av w h => by
  obtain ⟨_, _, _, _, _, _, _, _, _, _, _, _, _, _, _, rfl, rfl, _⟩ := h
  exact ⟨_, _, _, _, _, _, rfl, rfl, rfl⟩
theorem cn_X4_putLeftSide (l : Launch) : rz_Con l yX4_putLeftSide cX4_putLeftSide 6 none 0 0 0 ce_X4_putLeftSide := rz_con (by decide +kernel) fo_X4 (fun _ h => absurd h List.not_mem_nil) (fun _ h => absurd h List.not_mem_nil) r_X4_putLeftSide vc_X4_putLeftSide
def ce_X4_putEdge : rz_K := (4, kSh, 2, false, fun av w => ∃ (a b c ex ey tx lx ty ly : Nat → Int64) (co s dx dy : Int32), av = [.ref 17, .int s, .int dx, .int dy] ∧ w = wSh a b c ex ey tx lx ty ly co ∧ vp_in s 4, fun av w _ w' => w' = wSh (rJ w 18) (rJ w 19) (rJ w 20) (vp_updL (rJ w 21) (rA av 1).toNatClampNeg (rA av 2).toInt64) (vp_updL (rJ w 22) (rA av 1).toNatClampNeg (rA av 3).toInt64) (rJ w 23) (rJ w 24) (rJ w 25) (rJ w 26) (rF w 17 9))
def cl_X4_putEdge : List (Nat × rz_K) := []
def cv_X4_putEdge : List (Nat × rz_K) := []
theorem vc_X4_putEdge : rz_VC k_X4_putEdge fl_X4 cl_X4_putEdge cv_X4_putEdge s_X4_putEdge false 4 ce_X4_putEdge := by
  intro av w hlen hk hpre
  obtain ⟨a, b, c, ex, ey, tx, lx, ty, ly, co, s, dx, dy, rfl, rfl, hs⟩ := hpre
  refine ⟨Nat.le_of_ble_eq_true rfl, [], 60, 0, fun q h => absurd h List.not_mem_nil, ?_⟩
  conv => whnf
  refine ⟨hs, ?_⟩
  conv => whnf
  refine ⟨hs, ?_⟩
  conv => whnf
  exact ⟨rfl, fun z => (by cases z), rfl⟩
theorem rv_X4_putEdge : rz_Rv yX4_putEdge.cls ce_X4_putEdge := fun av w h => by
  obtain ⟨_, _, _, _, _, _, _, _, _, _, _, _, _, rfl, rfl, _⟩ := h
  exact ⟨_, _, _, _, _, _, rfl, rfl, rfl⟩
theorem cn_X4_putEdge (l : Launch) : rz_Con l yX4_putEdge cX4_putEdge 4 none 0 0 0 ce_X4_putEdge := rz_con (by decide +kernel) fo_X4 (fun _ h => absurd h List.not_mem_nil) (fun _ h => absurd h List.not_mem_nil) r_X4_putEdge vc_X4_putEdge
/-- in all four half planes -/
abbrev inP (a b c : Nat → Int64) (x y d : Int64) (i : Nat) : Prop := c i * d ≤ a i * x + b i * y
abbrev inA (a b c : Nat → Int64) (x y d : Int64) : Prop := inP a b c x y d 0 ∧ inP a b c x y d 1 ∧ inP a b c x y d 2 ∧ inP a b c x y d 3
theorem nI4 (i : Nat) (h : i < 4) : vp_in (nI i) 4 := vp_in_nI h (by omega)
theorem all4 {p : Nat → Prop} (h : ∀ j, j < 4 → p j) : p 0 ∧ p 1 ∧ p 2 ∧ p 3 := ⟨h 0 (by omega), h 1 (by omega), h 2 (by omega), h 3 (by omega)⟩
theorem all4' {p : Nat → Prop} (h : p 0 ∧ p 1 ∧ p 2 ∧ p 3) : ∀ j, j < 4 → p j := fun j hj => by
  match j, hj with
  | 0, _ => exact h.1
  | 1, _ => exact h.2.1
  | 2, _ => exact h.2.2.1
  | 3, _ => exact h.2.2.2
def ce_X4_isInside : rz_K := (4, kSh, 0, true, fun av w => ∃ (a b c ex ey tx lx ty ly : Nat → Int64) (co : Int32) (x y d : Int64), av = [.ref 17, .long x, .long y, .long d] ∧ w = wSh a b c ex ey tx lx ty ly co ∧ True, fun av w o _ => rR o = bI (inA (rJ w 18) (rJ w 19) (rJ w 20) (rB av 1) (rB av 2) (rB av 3)))
def cl_X4_isInside : List (Nat × rz_K) := []
def cv_X4_isInside : List (Nat × rz_K) := []
theorem vc_X4_isInside : rz_VC k_X4_isInside fl_X4 cl_X4_isInside cv_X4_isInside s_X4_isInside true 8 ce_X4_isInside := by
  intro av w hlen hk hpre
  obtain ⟨a, b, c, ex, ey, tx, lx, ty, ly, co, x, y, d, rfl, rfl, -⟩ := hpre
  refine ⟨Nat.le_of_ble_eq_true rfl, [(3, [0, 1, 3, 5, 7], fun z lv w' => ∃ i : Nat, i ≤ 4 ∧ (∀ j, j < i → inP a b c x y d j) ∧ lv = [(0, .ref 17), (1, .long x), (3, .long y), (5, .long d), (7, .int (nI i))] ∧ w' = wSh a b c ex ey tx lx ty ly co ∧ z = 4 - i)], 60, 5, ?_, ?_⟩
  · intro y1 hq z lv w' hj
    rcases List.mem_cons.mp hq with rfl | hq
    · obtain ⟨i, hi, hall, rfl, rfl, rfl⟩ := hj
      conv => whnf
      refine ⟨fun k => ?_, fun k => ?_⟩
      · have k : nI 4 ≤ nI i := k
        have e : i = 4 := by
          have := (nI_leI (by omega) (by omega)).mp k
          omega
        subst e
        exact ⟨Or.inr rfl, ⟨_, rfl⟩, fun _ => rfl, bI_t (all4 hall)⟩
      · have k : ¬ nI 4 ≤ nI i := k
        have hi2 : i < 4 := by
          rcases Nat.lt_or_ge i 4 with z | z
          · exact z
          · exact absurd (nI_le z (by omega)) k
        have hcl : (nI i).toNatClampNeg = i := nI_clamp (by omega)
        conv => whnf
        refine ⟨nI4 i hi2, ?_⟩
        conv => whnf
        refine ⟨nI4 i hi2, ?_⟩
        conv => whnf
        refine ⟨nI4 i hi2, ?_⟩
        conv => whnf
        refine ⟨fun k2 => ?_, fun k2 => ?_⟩
        · have k2 : c (nI i).toNatClampNeg * d ≤ a (nI i).toNatClampNeg * x + b (nI i).toNatClampNeg * y := (lg_ge0 _ _).mp k2
          rw [hcl] at k2
          conv => whnf
          rintro _ rfl
          conv => whnf
          refine ⟨4 - (i + 1), by omega, i + 1, by omega, lt_s hall k2, ?_, rfl, rfl⟩
          show [_, _, _, _, (7, Value.int (nI i + 1))] = _
          rw [nI_1]
        · have k2 : ¬ c (nI i).toNatClampNeg * d ≤ a (nI i).toNatClampNeg * x + b (nI i).toNatClampNeg * y := fun z => k2 ((lg_ge0 _ _).mpr z)
          rw [hcl] at k2
          exact ⟨Or.inl rfl, ⟨_, rfl⟩, fun _ => rfl, bI_f (fun z => k2 (all4' z i hi2))⟩
    · exact absurd hq List.not_mem_nil
  · conv => whnf
    rintro _ rfl
    conv => whnf
    refine ⟨4, by omega, 0, by omega, lt_0, rfl, rfl, rfl⟩
theorem rv_X4_isInside : rz_Rv yX4_isInside.cls ce_X4_isInside := fun av w h => by
  obtain ⟨_, _, _, _, _, _, _, _, _, _, _, _, _, rfl, rfl, _⟩ := h
  exact ⟨_, _, _, _, _, _, rfl, rfl, rfl⟩
theorem cn_X4_isInside (l : Launch) : rz_Con l yX4_isInside cX4_isInside 8 (some .boolean) 0 0 0 ce_X4_isInside := rz_con (by decide +kernel) fo_X4 (fun _ h => absurd h List.not_mem_nil) (fun _ h => absurd h List.not_mem_nil) r_X4_isInside vc_X4_isInside
abbrev ruP (a b : Nat → Int64) (x y : Int64) (i : Nat) : Prop := 0 ≤ a i * x + b i * y
abbrev ruA (a b : Nat → Int64) (x y : Int64) : Prop := ruP a b x y 0 ∧ ruP a b x y 1 ∧ ruP a b x y 2 ∧ ruP a b x y 3
def ce_X4_runsInside : rz_K := (3, kSh, 0, true, fun av w => ∃ (a b c ex ey tx lx ty ly : Nat → Int64) (co : Int32) (x y : Int64), av = [.ref 17, .long x, .long y] ∧ w = wSh a b c ex ey tx lx ty ly co ∧ True, fun av w o _ => rR o = bI (ruA (rJ w 18) (rJ w 19) (rB av 1) (rB av 2)))
def cl_X4_runsInside : List (Nat × rz_K) := []
def cv_X4_runsInside : List (Nat × rz_K) := []
theorem vc_X4_runsInside : rz_VC k_X4_runsInside fl_X4 cl_X4_runsInside cv_X4_runsInside s_X4_runsInside true 6 ce_X4_runsInside := by
  intro av w hlen hk hpre
  obtain ⟨a, b, c, ex, ey, tx, lx, ty, ly, co, x, y, rfl, rfl, -⟩ := hpre
  refine ⟨Nat.le_of_ble_eq_true rfl, [(3, [0, 1, 3, 5], fun z lv w' => ∃ i : Nat, i ≤ 4 ∧ (∀ j, j < i → ruP a b x y j) ∧ lv = [(0, .ref 17), (1, .long x), (3, .long y), (5, .int (nI i))] ∧ w' = wSh a b c ex ey tx lx ty ly co ∧ z = 4 - i)], 60, 5, ?_, ?_⟩
  · intro y1 hq z lv w' hj
    rcases List.mem_cons.mp hq with rfl | hq
    · obtain ⟨i, hi, hall, rfl, rfl, rfl⟩ := hj
      conv => whnf
      refine ⟨fun k => ?_, fun k => ?_⟩
      · have k : nI 4 ≤ nI i := k
        have e : i = 4 := by
          have := (nI_leI (by omega) (by omega)).mp k
          omega
        subst e
        exact ⟨Or.inr rfl, ⟨_, rfl⟩, fun _ => rfl, bI_t (all4 hall)⟩
      · have k : ¬ nI 4 ≤ nI i := k
        have hi2 : i < 4 := by
          rcases Nat.lt_or_ge i 4 with z | z
          · exact z
          · exact absurd (nI_le z (by omega)) k
        have hcl : (nI i).toNatClampNeg = i := nI_clamp (by omega)
        conv => whnf
        refine ⟨nI4 i hi2, ?_⟩
        conv => whnf
        refine ⟨nI4 i hi2, ?_⟩
        conv => whnf
        refine ⟨fun k2 => ?_, fun k2 => ?_⟩
        · have k2 : 0 ≤ a (nI i).toNatClampNeg * x + b (nI i).toNatClampNeg * y := (lg_ge0 _ _).mp k2
          rw [hcl] at k2
          conv => whnf
          rintro _ rfl
          conv => whnf
          refine ⟨4 - (i + 1), by omega, i + 1, by omega, lt_s hall k2, ?_, rfl, rfl⟩
          show [_, _, _, (5, Value.int (nI i + 1))] = _
          rw [nI_1]
        · have k2 : ¬ 0 ≤ a (nI i).toNatClampNeg * x + b (nI i).toNatClampNeg * y := fun z => k2 ((lg_ge0 _ _).mpr z)
          rw [hcl] at k2
          exact ⟨Or.inl rfl, ⟨_, rfl⟩, fun _ => rfl, bI_f (fun z => k2 (all4' z i hi2))⟩
    · exact absurd hq List.not_mem_nil
  · conv => whnf
    rintro _ rfl
    conv => whnf
    refine ⟨4, by omega, 0, by omega, lt_0, rfl, rfl, rfl⟩
theorem rv_X4_runsInside : rz_Rv yX4_runsInside.cls ce_X4_runsInside := fun av w h => by
  obtain ⟨_, _, _, _, _, _, _, _, _, _, _, _, rfl, rfl, _⟩ := h
  exact ⟨_, _, _, _, _, _, rfl, rfl, rfl⟩
theorem cn_X4_runsInside (l : Launch) : rz_Con l yX4_runsInside cX4_runsInside 6 (some .boolean) 0 0 0 ce_X4_runsInside := rz_con (by decide +kernel) fo_X4 (fun _ h => absurd h List.not_mem_nil) (fun _ h => absurd h List.not_mem_nil) r_X4_runsInside vc_X4_runsInside
abbrev enA (a b ex ey : Nat → Int64) : Prop := ruA a b (ex 0) (ey 0) ∨ ruA a b (ex 1) (ey 1) ∨ ruA a b (ex 2) (ey 2) ∨ ruA a b (ex 3) (ey 3)
theorem no4 {p : Nat → Prop} (h : ∀ j, j < 4 → ¬ p j) : ¬ (p 0 ∨ p 1 ∨ p 2 ∨ p 3) := fun z => by
  rcases z with z | z | z | z
  · exact h 0 (by omega) z
  · exact h 1 (by omega) z
  · exact h 2 (by omega) z
  · exact h 3 (by omega) z
theorem or4 {p : Nat → Prop} {j : Nat} (hj : j < 4) (h : p j) : p 0 ∨ p 1 ∨ p 2 ∨ p 3 := by
  match j, hj, h with
  | 0, _, h => exact Or.inl h
  | 1, _, h => exact Or.inr (Or.inl h)
  | 2, _, h => exact Or.inr (Or.inr (Or.inl h))
  | 3, _, h => exact Or.inr (Or.inr (Or.inr h))
def ce_X4_isEndless : rz_K := (1, kSh, 0, true, fun av w => ∃ (a b c ex ey tx lx ty ly : Nat → Int64) (co : Int32), av = [.ref 17] ∧ w = wSh a b c ex ey tx lx ty ly co ∧ True, fun _ w o _ => rR o = bI (enA (rJ w 18) (rJ w 19) (rJ w 21) (rJ w 22)))
def cl_X4_isEndless : List (Nat × rz_K) := []
def cv_X4_isEndless : List (Nat × rz_K) := [(82, ce_X4_runsInside)]
theorem vc_X4_isEndless : rz_VC k_X4_isEndless fl_X4 cl_X4_isEndless cv_X4_isEndless s_X4_isEndless true 2 ce_X4_isEndless := by
  intro av w hlen hk hpre
  obtain ⟨a, b, c, ex, ey, tx, lx, ty, ly, co, rfl, rfl, -⟩ := hpre
  refine ⟨Nat.le_of_ble_eq_true rfl, [(2, [0, 1], fun z lv w' => ∃ i : Nat, i ≤ 4 ∧ (∀ j, j < i → ¬ ruA a b (ex j) (ey j)) ∧ lv = [(0, .ref 17), (1, .int (nI i))] ∧ w' = wSh a b c ex ey tx lx ty ly co ∧ z = 4 - i)], 60, 5, ?_, ?_⟩
  · intro y1 hq z lv w' hj
    rcases List.mem_cons.mp hq with rfl | hq
    · obtain ⟨i, hi, hall, rfl, rfl, rfl⟩ := hj
      conv => whnf
      refine ⟨fun k => ?_, fun k => ?_⟩
      · have k : nI 4 ≤ nI i := k
        have e : i = 4 := by
          have := (nI_leI (by omega) (by omega)).mp k
          omega
        subst e
        exact ⟨Or.inl rfl, ⟨_, rfl⟩, fun _ => rfl, bI_f (no4 hall)⟩
      · have k : ¬ nI 4 ≤ nI i := k
        have hi2 : i < 4 := by
          rcases Nat.lt_or_ge i 4 with z | z
          · exact z
          · exact absurd (nI_le z (by omega)) k
        have hcl : (nI i).toNatClampNeg = i := nI_clamp (by omega)
        conv => whnf
        refine ⟨nI4 i hi2, ?_⟩
        conv => whnf
        refine ⟨nI4 i hi2, ?_⟩
        conv => whnf
        refine ⟨⟨a, b, c, ex, ey, tx, lx, ty, ly, co, _, _, rfl, rfl, trivial⟩, ?_⟩
        intro r hr
        have hr : r = bI (ruA a b (ex (nI i).toNatClampNeg) (ey (nI i).toNatClampNeg)) := hr
        rw [hcl] at hr
        subst hr
        conv => whnf
        refine ⟨fun k2 => ?_, fun k2 => ?_⟩
        · conv => whnf
          rintro _ rfl
          conv => whnf
          refine ⟨4 - (i + 1), by omega, i + 1, by omega, lt_s hall (bI_0 k2), ?_, rfl, rfl⟩
          show [_, (1, Value.int (nI i + 1))] = _
          rw [nI_1]
        · exact ⟨Or.inr rfl, ⟨_, rfl⟩, fun _ => rfl, bI_t (or4 (p := fun j => ruA a b (ex j) (ey j)) hi2 (bI_n k2))⟩
    · exact absurd hq List.not_mem_nil
  · conv => whnf
    rintro _ rfl
    conv => whnf
    refine ⟨4, by omega, 0, by omega, lt_0, rfl, rfl, rfl⟩
theorem rv_X4_isEndless : rz_Rv yX4_isEndless.cls ce_X4_isEndless := fun av w h => by
  obtain ⟨_, _, _, _, _, _, _, _, _, _, rfl, rfl, _⟩ := h
  exact ⟨_, _, _, _, _, _, rfl, rfl, rfl⟩
theorem cn_X4_isEndless (l : Launch) : rz_Con l yX4_isEndless cX4_isEndless 2 (some .boolean) 1 0 0 ce_X4_isEndless := rz_con (by decide +kernel) fo_X4 (fun _ h => absurd h List.not_mem_nil) (by
  intro q hq
  rcases List.mem_cons.mp hq with rfl | hq
  · exact rz_callV (cn_X4_runsInside l) (by decide +kernel) ⟨Nat.le_of_ble_eq_true rfl, Nat.le_of_ble_eq_true rfl⟩ m_X4_runsInside rfl i_X4_runsInside v_X4_runsInside rv_X4_runsInside n_X4_82
  exact absurd hq List.not_mem_nil) r_X4_isEndless vc_X4_isEndless
def ce_X4_kind : rz_K := (1, kSh, 0, true, fun av w => ∃ (a b c ex ey tx lx ty ly : Nat → Int64) (co : Int32), av = [.ref 17] ∧ w = wSh a b c ex ey tx lx ty ly co ∧ True, fun _ w o _ => rR o = if rF w 17 9 = 0 then 0 else if enA (rJ w 18) (rJ w 19) (rJ w 21) (rJ w 22) then 2 else 1)
def cl_X4_kind : List (Nat × rz_K) := []
def cv_X4_kind : List (Nat × rz_K) := [(78, ce_X4_isEndless)]
theorem vc_X4_kind : rz_VC k_X4_kind fl_X4 cl_X4_kind cv_X4_kind s_X4_kind false 1 ce_X4_kind := by
  intro av w hlen hk hpre
  obtain ⟨a, b, c, ex, ey, tx, lx, ty, ly, co, rfl, rfl, -⟩ := hpre
  refine ⟨Nat.le_of_ble_eq_true rfl, [], 60, 0, fun q h => absurd h List.not_mem_nil, ?_⟩
  have fin : ∀ v : Int32, (v = if co = 0 then 0 else if enA a b ex ey then 2 else 1) → rz_end ce_X4_kind [.ref 17] (wSh a b c ex ey tx lx ty ly co) (some (.int v)) (wSh a b c ex ey tx lx ty ly co) := fun v hv => ⟨⟨_, rfl⟩, fun _ => rfl, hv⟩
  conv => whnf
  refine ⟨fun h => ?_, fun h => ?_⟩
  · exact fin _ (by rw [if_pos h])
  · conv => whnf
    refine ⟨⟨a, b, c, ex, ey, tx, lx, ty, ly, co, rfl, rfl, trivial⟩, ?_⟩
    intro r hr
    obtain rfl : r = bI (enA a b ex ey) := hr
    conv => whnf
    refine ⟨fun h2 => ?_, fun h2 => ?_⟩
    · exact fin _ (by rw [if_neg h, if_neg (bI_0 h2)])
    · exact fin _ (by rw [if_neg h, if_pos (bI_n h2)])
theorem rv_X4_kind : rz_Rv yX4_kind.cls ce_X4_kind := fun av w h => by
  obtain ⟨_, _, _, _, _, _, _, _, _, _, rfl, rfl, _⟩ := h
  exact ⟨_, _, _, _, _, _, rfl, rfl, rfl⟩
theorem cn_X4_kind (l : Launch) : rz_Con l yX4_kind cX4_kind 1 (some .int) 2 0 0 ce_X4_kind := rz_con (by decide +kernel) fo_X4 (fun _ h => absurd h List.not_mem_nil) (by
  intro q hq
  rcases List.mem_cons.mp hq with rfl | hq
  · exact rz_callV (cn_X4_isEndless l) (by decide +kernel) ⟨Nat.le_of_ble_eq_true rfl, Nat.le_of_ble_eq_true rfl⟩ m_X4_isEndless rfl i_X4_isEndless v_X4_isEndless rv_X4_isEndless n_X4_78
  exact absurd hq List.not_mem_nil) r_X4_kind vc_X4_kind
/-- how corner k lies to (x, y) over d -/
def orF (tx lx ty ly : Nat → Int64) (k : Nat) (x y d : Int64) : Int32 := if ¬ lg_cmp (tx k * d) (x * lx k) = 0 then lg_cmp (tx k * d) (x * lx k) else lg_cmp (ty k * d) (y * ly k)
def ce_X4_order : rz_K := (5, kSh, 0, true, fun av w => ∃ (a b c ex ey tx lx ty ly : Nat → Int64) (co : Int32) (k : Nat) (x y d : Int64), av = [.ref 17, .int (nI k), .long x, .long y, .long d] ∧ w = wSh a b c ex ey tx lx ty ly co ∧ k < 6, fun av w o _ => ∀ k, rA av 1 = nI k → k < 6 → rR o = orF (rJ w 23) (rJ w 24) (rJ w 25) (rJ w 26) k (rB av 2) (rB av 3) (rB av 4))
def cl_X4_order : List (Nat × rz_K) := [(66, ce_J13_compare_74951)]
def cv_X4_order : List (Nat × rz_K) := []
theorem vc_X4_order : rz_VC k_X4_order fl_X4 cl_X4_order cv_X4_order s_X4_order false 9 ce_X4_order := by
  intro av w hlen hk hpre
  obtain ⟨a, b, c, ex, ey, tx, lx, ty, ly, co, k, x, y, d, rfl, rfl, hk6⟩ := hpre
  refine ⟨Nat.le_of_ble_eq_true rfl, [], 60, 0, fun q h => absurd h List.not_mem_nil, ?_⟩
  have hcl : (nI k).toNatClampNeg = k := nI_clamp (by omega)
  have hv : vp_in (nI k) 6 := vp_in_nI hk6 (by omega)
  have fin : ∀ v : Int32, v = orF tx lx ty ly k x y d → rz_end ce_X4_order [.ref 17, .int (nI k), .long x, .long y, .long d] (wSh a b c ex ey tx lx ty ly co) (some (.int v)) (wSh a b c ex ey tx lx ty ly co) := by
    intro v hv
    refine ⟨⟨_, rfl⟩, fun _ => rfl, ?_⟩
    intro k' e1 h1
    have e1 : k = k' := nI_inj (by omega) (by omega) e1
    subst e1
    exact hv
  conv => whnf
  refine ⟨hv, ?_⟩
  conv => whnf
  refine ⟨hv, ?_⟩
  conv => whnf
  refine ⟨⟨_, _, rfl, rfl, trivial⟩, ?_⟩
  intro r hr
  have hr : r = lg_cmp (tx (nI k).toNatClampNeg * d) (x * lx (nI k).toNatClampNeg) := hr
  rw [hcl] at hr
  subst hr
  conv => whnf
  rintro _ rfl
  conv => whnf
  refine ⟨fun h => ?_, fun h => ?_⟩
  · conv => whnf
    refine ⟨hv, ?_⟩
    conv => whnf
    refine ⟨hv, ?_⟩
    conv => whnf
    refine ⟨⟨_, _, rfl, rfl, trivial⟩, ?_⟩
    intro r hr
    have hr : r = lg_cmp (ty (nI k).toNatClampNeg * d) (y * ly (nI k).toNatClampNeg) := hr
    rw [hcl] at hr
    subst hr
    conv => whnf
    exact fin _ (if_neg (fun z => z h)).symm
  · exact fin _ (if_pos h).symm
theorem rv_X4_order : rz_Rv yX4_order.cls ce_X4_order := fun av w h => by
  obtain ⟨_, _, _, _, _, _, _, _, _, _, _, _, _, _, rfl, rfl, _⟩ := h
  exact ⟨_, _, _, _, _, _, rfl, rfl, rfl⟩
theorem cn_X4_order (l : Launch) : rz_Con l yX4_order cX4_order 9 (some .int) 1 0 0 ce_X4_order := rz_con (by decide +kernel) fo_X4 (by
  intro q hq
  rcases List.mem_cons.mp hq with rfl | hq
  · exact rz_callS (cn_J13_compare_74951 l) (by decide +kernel) ⟨Nat.le_of_ble_eq_true rfl, Nat.le_of_ble_eq_true rfl⟩ m_J13_compare_74951 t_J13_compare_74951 n_X4_66
  exact absurd hq List.not_mem_nil) (fun _ h => absurd h List.not_mem_nil) r_X4_order vc_X4_order
