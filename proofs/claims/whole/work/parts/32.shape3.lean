/-! Shape: all six crossings; parts of corners; box. -/
theorem insR_n {tx lx ty ly : Nat → Int64} {n : Nat} {x y d : Int64} {tx' lx' ty' ly' : Nat → Int64} {n' : Nat} (h : insR tx lx ty ly n x y d tx' lx' ty' ly' n') : n' ≤ n + 1 := by
  obtain ⟨t, h1, h2, h3, h4⟩ := h
  by_cases z : t < n ∧ orF tx lx ty ly t x y d = 0
  · have := (if_y h4 z).2.2.2.2; omega
  · have := (if_n h4 z).2.2.2.2; omega
theorem tcR_n {a b c : Nat → Int64} {i j : Nat} {tx lx ty ly : Nat → Int64} {n : Nat} {tx' lx' ty' ly' : Nat → Int64} {n' : Nat} (h : tcR a b c i j tx lx ty ly n tx' lx' ty' ly' n') : n' ≤ n + 1 := by
  unfold tcR at h
  split at h
  · have := h.2.2.2.2; omega
  · exact insR_n h
def pP (s : Nat) : Nat × Nat := match s with
  | 0 => (0, 1)
  | 1 => (0, 2)
  | 2 => (0, 3)
  | 3 => (1, 2)
  | 4 => (1, 3)
  | _ => (2, 3)
def oP (i : Nat) : Nat := match i with
  | 0 => 0
  | 1 => 3
  | 2 => 5
  | _ => 6
theorem pP_at : ∀ i, i < 4 → ∀ j, j < 4 → i < j → pP (oP i + (j - (i + 1))) = (i, j) ∧ oP i + (j - (i + 1)) < 6 := by decide
theorem oP_s : ∀ i, i < 4 → oP i + (4 - (i + 1)) = oP (i + 1) := by decide
/-- the corners of a shape: the first s crossings in turn -/
def fcS (a b c tx lx ty ly : Nat → Int64) : Nat → (Nat → Int64) → (Nat → Int64) → (Nat → Int64) → (Nat → Int64) → Nat → Prop
  | 0, t, l, y, m, n => t = tx ∧ l = lx ∧ y = ty ∧ m = ly ∧ n = 0
  | s + 1, t, l, y, m, n => ∃ t0 l0 y0 m0 n0, fcS a b c tx lx ty ly s t0 l0 y0 m0 n0 ∧ tcR a b c (pP s).1 (pP s).2 t0 l0 y0 m0 n0 t l y m n
theorem fcS_n {a b c tx lx ty ly : Nat → Int64} : ∀ {s : Nat} {t l y m : Nat → Int64} {n : Nat}, fcS a b c tx lx ty ly s t l y m n → n ≤ s
  | 0, _, _, _, _, _, h => by have := h.2.2.2.2; omega
  | s + 1, _, _, _, _, _, h => by
    obtain ⟨t0, l0, y0, m0, n0, h1, h2⟩ := h
    have := fcS_n h1
    have := tcR_n h2
    omega
def ce_X4_findCorners : rz_K := (1, kSh, 2, false, fun av w => ∃ (a b c ex ey tx lx ty ly : Nat → Int64) (co : Int32), av = [.ref 17] ∧ w = wSh a b c ex ey tx lx ty ly co ∧ True, fun _ w _ w' => ∃ tx' lx' ty' ly' n', fcS (rJ w 18) (rJ w 19) (rJ w 20) (rJ w 23) (rJ w 24) (rJ w 25) (rJ w 26) 6 tx' lx' ty' ly' n' ∧ w' = wSh (rJ w 18) (rJ w 19) (rJ w 20) (rJ w 21) (rJ w 22) tx' lx' ty' ly' (nI n'))
def cl_X4_findCorners : List (Nat × rz_K) := []
def cv_X4_findCorners : List (Nat × rz_K) := [(43, ce_X4_tryCrossing)]
theorem vc_X4_findCorners : rz_VC k_X4_findCorners fl_X4 cl_X4_findCorners cv_X4_findCorners s_X4_findCorners false 3 ce_X4_findCorners := by
  intro av w hlen hk hpre
  obtain ⟨a, b, c, ex, ey, tx, lx, ty, ly, co, rfl, rfl, -⟩ := hpre
  refine ⟨Nat.le_of_ble_eq_true rfl, [
    (7, [0, 1], fun z lv w' => ∃ (i : Nat) (t l y m : Nat → Int64) (n : Nat), i ≤ 4 ∧ fcS a b c tx lx ty ly (oP i) t l y m n ∧ lv = [(0, .ref 17), (1, .int (nI i))] ∧ w' = wSh a b c ex ey t l y m (nI n) ∧ z = (4 - i) * 20 + 10),
    (16, [0, 1, 2], fun z lv w' => ∃ (i j : Nat) (t l y m : Nat → Int64) (n : Nat), i < 4 ∧ i < j ∧ j ≤ 4 ∧ fcS a b c tx lx ty ly (oP i + (j - (i + 1))) t l y m n ∧ lv = [(0, .ref 17), (1, .int (nI i)), (2, .int (nI j))] ∧ w' = wSh a b c ex ey t l y m (nI n) ∧ z = (4 - i) * 20 + 9 - j)], 60, 91, ?_, ?_⟩
  · intro y1 hq z lv w' hj
    rcases List.mem_cons.mp hq with rfl | hq
    · obtain ⟨i, t, l, y, m, n, hi, hfc, rfl, rfl, rfl⟩ := hj
      conv => whnf
      refine ⟨fun k => ?_, fun k => ?_⟩
      · have k : nI 4 ≤ nI i := k
        have e : i = 4 := by
          have := (nI_leI (by omega) (by omega)).mp k
          omega
        subst e
        exact ⟨rfl, fun z => (by cases z), t, l, y, m, n, hfc, rfl⟩
      · have k : ¬ nI 4 ≤ nI i := k
        have hi2 : i < 4 := by
          rcases Nat.lt_or_ge i 4 with z | z
          · exact z
          · exact absurd (nI_le z (by omega)) k
        conv => whnf
        rintro _ rfl
        conv => whnf
        refine ⟨(4 - i) * 20 + 9 - (i + 1), by omega, i, i + 1, t, l, y, m, n, hi2, by omega, by omega, ?_, ?_, rfl, rfl⟩
        · rw [show oP i + (i + 1 - (i + 1)) = oP i by omega]
          exact hfc
        · show [_, _, (2, Value.int (nI i + 1))] = _
          rw [nI_1]
    rcases List.mem_cons.mp hq with rfl | hq
    · obtain ⟨i, j, t, l, y, m, n, hi, hij, hj4, hfc, rfl, rfl, rfl⟩ := hj
      conv => whnf
      refine ⟨fun k => ?_, fun k => ?_⟩
      · have k : nI 4 ≤ nI j := k
        have e : j = 4 := by
          have := (nI_leI (by omega) (by omega)).mp k
          omega
        subst e
        conv => whnf
        rintro _ rfl
        conv => whnf
        refine ⟨(4 - (i + 1)) * 20 + 10, by omega, i + 1, t, l, y, m, n, by omega, ?_, ?_, rfl, rfl⟩
        · rw [← oP_s i hi]
          exact hfc
        · show [_, (1, Value.int (nI i + 1))] = _
          rw [nI_1]
      · have k : ¬ nI 4 ≤ nI j := k
        have hj2 : j < 4 := by
          rcases Nat.lt_or_ge j 4 with z | z
          · exact z
          · exact absurd (nI_le z (by omega)) k
        obtain ⟨hpp, hs6⟩ := pP_at i hi j hj2 hij
        have hn6 : n < 6 := Nat.lt_of_le_of_lt (fcS_n hfc) hs6
        conv => whnf
        refine ⟨⟨a, b, c, ex, ey, t, l, y, m, n, i, j, rfl, rfl, hn6, hi, hj2⟩, ?_⟩
        intro wc hwc
        obtain ⟨t', l', y', m', n', g, rfl⟩ := hwc n i j rfl hn6 rfl hi rfl hj2
        have g : tcR a b c i j t l y m n t' l' y' m' n' := g
        conv => whnf
        rintro _ rfl
        conv => whnf
        refine ⟨(4 - i) * 20 + 9 - (j + 1), by omega, i, j + 1, t', l', y', m', n', hi, by omega, by omega, ?_, ?_, rfl, rfl⟩
        · rw [show oP i + (j + 1 - (i + 1)) = oP i + (j - (i + 1)) + 1 by omega]
          refine ⟨t, l, y, m, n, hfc, ?_⟩
          rw [hpp]
          exact g
        · show [_, _, (2, Value.int (nI j + 1))] = _
          rw [nI_1]
    · exact absurd hq List.not_mem_nil
  · conv => whnf
    rintro _ rfl
    conv => whnf
    refine ⟨90, by omega, 0, tx, lx, ty, ly, 0, by omega, ⟨rfl, rfl, rfl, rfl, rfl⟩, rfl, rfl, rfl⟩
theorem rv_X4_findCorners : rz_Rv yX4_findCorners.cls ce_X4_findCorners := fun av w h => by
  obtain ⟨_, _, _, _, _, _, _, _, _, _, rfl, rfl, _⟩ := h
  exact ⟨_, _, _, _, _, _, rfl, rfl, rfl⟩
theorem cn_X4_findCorners (l : Launch) : rz_Con l yX4_findCorners cX4_findCorners 3 none 4 0 0 ce_X4_findCorners := rz_con (by decide +kernel) fo_X4 (fun _ h => absurd h List.not_mem_nil) (by
  intro q hq
  rcases List.mem_cons.mp hq with rfl | hq
  · exact rz_callV (cn_X4_tryCrossing l) (by decide +kernel) ⟨Nat.le_of_ble_eq_true rfl, Nat.le_of_ble_eq_true rfl⟩ m_X4_tryCrossing rfl i_X4_tryCrossing v_X4_tryCrossing rv_X4_tryCrossing n_X4_43
  exact absurd hq List.not_mem_nil) r_X4_findCorners vc_X4_findCorners
def ce_X4_cornerPart : rz_K := (3, kSh, 1, true, fun av w => ∃ (a b c ex ey tx lx ty ly : Nat → Int64) (co i q : Int32), av = [.ref 17, .int i, .int q] ∧ w = wSh a b c ex ey tx lx ty ly co ∧ vp_in i 6, fun av w o _ => rS o = if rA av 2 = 0 then rJ w 23 (rA av 1).toNatClampNeg else if rA av 2 = 1 then rJ w 24 (rA av 1).toNatClampNeg else if rA av 2 = 2 then rJ w 25 (rA av 1).toNatClampNeg else rJ w 26 (rA av 1).toNatClampNeg)
def cl_X4_cornerPart : List (Nat × rz_K) := []
def cv_X4_cornerPart : List (Nat × rz_K) := []
theorem vc_X4_cornerPart : rz_VC k_X4_cornerPart fl_X4 cl_X4_cornerPart cv_X4_cornerPart s_X4_cornerPart false 3 ce_X4_cornerPart := by
  intro av w hlen hk hpre
  obtain ⟨a, b, c, ex, ey, tx, lx, ty, ly, co, i, q, rfl, rfl, hv⟩ := hpre
  refine ⟨Nat.le_of_ble_eq_true rfl, [], 60, 0, fun q h => absurd h List.not_mem_nil, ?_⟩
  have fin : ∀ v : Int64, (v = if q = 0 then tx i.toNatClampNeg else if q = 1 then lx i.toNatClampNeg else if q = 2 then ty i.toNatClampNeg else ly i.toNatClampNeg) → rz_end ce_X4_cornerPart [.ref 17, .int i, .int q] (wSh a b c ex ey tx lx ty ly co) (some (.long v)) (wSh a b c ex ey tx lx ty ly co) := fun v hv => ⟨⟨_, rfl⟩, fun _ => rfl, hv⟩
  conv => whnf
  refine ⟨fun h0 => ?_, fun h0 => ?_⟩
  · conv => whnf
    refine ⟨hv, ?_⟩
    conv => whnf
    exact fin _ (by rw [if_pos h0])
  · conv => whnf
    refine ⟨fun h1 => ?_, fun h1 => ?_⟩
    · conv => whnf
      refine ⟨hv, ?_⟩
      conv => whnf
      exact fin _ (by rw [if_neg h0, if_pos h1])
    · conv => whnf
      refine ⟨fun h2 => ?_, fun h2 => ?_⟩
      · conv => whnf
        refine ⟨hv, ?_⟩
        conv => whnf
        exact fin _ (by rw [if_neg h0, if_neg h1, if_pos h2])
      · conv => whnf
        refine ⟨hv, ?_⟩
        conv => whnf
        exact fin _ (by rw [if_neg h0, if_neg h1, if_neg h2])
theorem rv_X4_cornerPart : rz_Rv yX4_cornerPart.cls ce_X4_cornerPart := fun av w h => by
  obtain ⟨_, _, _, _, _, _, _, _, _, _, _, _, rfl, rfl, _⟩ := h
  exact ⟨_, _, _, _, _, _, rfl, rfl, rfl⟩
theorem cn_X4_cornerPart (l : Launch) : rz_Con l yX4_cornerPart cX4_cornerPart 3 (some .long) 0 0 0 ce_X4_cornerPart := rz_con (by decide +kernel) fo_X4 (fun _ h => absurd h List.not_mem_nil) (fun _ h => absurd h List.not_mem_nil) r_X4_cornerPart vc_X4_cornerPart
def leF (f g : Nat → Int64) : Nat → Int64
  | 0 => 9223372036854775807
  | n + 1 => if flr (f n) (g n) < leF f g n then flr (f n) (g n) else leF f g n
def grF (f g : Nat → Int64) : Nat → Int64
  | 0 => -9223372036854775808
  | n + 1 => if grF f g n < -flr (-f n) (g n) then -flr (-f n) (g n) else grF f g n
def ce_X4_least : rz_K := (3, kSh, 0, true, fun av w => ∃ (a b c ex ey tx lx ty ly : Nat → Int64) (n : Nat) (q : Bool), av = [.ref 17, .ref (if q then 25 else 23), .ref (if q then 26 else 24)] ∧ w = wSh a b c ex ey tx lx ty ly (nI n) ∧ n ≤ 6, fun av w o _ => ∀ n, rF w 17 9 = nI n → n ≤ 6 → rR o = (leF (rJ w (rP av 1)) (rJ w (rP av 2)) n).toInt32)
def cl_X4_least : List (Nat × rz_K) := [(95, ce_X4_floor), (98, ce_J9_min_f86c9)]
def cv_X4_least : List (Nat × rz_K) := []
theorem vc_X4_least : rz_VC k_X4_least fl_X4 cl_X4_least cv_X4_least s_X4_least false 6 ce_X4_least := by
  intro av w hlen hk hpre
  obtain ⟨a, b, c, ex, ey, tx, lx, ty, ly, n, q, rfl, rfl, hn⟩ := hpre
  cases q with
  | false =>
    refine ⟨Nat.le_of_ble_eq_true rfl, [(7, [0, 1, 2, 3, 5], fun z lv w' => ∃ i : Nat, i ≤ n ∧ lv = [(0, .ref 17), (1, .ref 23), (2, .ref 24), (3, .long (leF tx lx i)), (5, .int (nI i))] ∧ w' = wSh a b c ex ey tx lx ty ly (nI n) ∧ z = n - i)], 60, n + 1, ?_, ?_⟩
    · intro y1 hq z lv w' hj
      rcases List.mem_cons.mp hq with rfl | hq
      · obtain ⟨i, hi, rfl, rfl, rfl⟩ := hj
        conv => whnf
        refine ⟨fun k => ?_, fun k => ?_⟩
        · have e : i = n := by
            have := (nI_leI (by omega) (by omega)).mp k
            omega
          subst e
          refine ⟨⟨_, rfl⟩, fun _ => rfl, ?_⟩
          intro m e hm
          have e : i = m := nI_inj (by omega) (by omega) e
          subst e
          rfl
        · have hi2 : i < n := by
            rcases Nat.lt_or_ge i n with z | z
            · exact z
            · exact absurd (nI_le z (by omega)) k
          have hcl : (nI i).toNatClampNeg = i := nI_clamp (by omega)
          have hv : vp_in (nI i) 6 := vp_in_nI (by omega) (by omega)
          conv => whnf
          refine ⟨hv, ?_⟩
          conv => whnf
          refine ⟨hv, ?_⟩
          conv => whnf
          refine ⟨⟨_, _, rfl, rfl, trivial⟩, ?_⟩
          intro r hr
          have hr : r = flr (tx (nI i).toNatClampNeg) (lx (nI i).toNatClampNeg) := hr
          rw [hcl] at hr
          subst hr
          conv => whnf
          refine ⟨⟨_, _, rfl, rfl, trivial⟩, ?_⟩
          intro r hr
          have hr : r = if flr (tx i) (lx i) < leF tx lx i then flr (tx i) (lx i) else leF tx lx i := hr
          have hr : r = leF tx lx (i + 1) := hr
          subst hr
          conv => whnf
          rintro _ rfl
          conv => whnf
          rintro _ rfl
          conv => whnf
          refine ⟨n - (i + 1), by omega, i + 1, by omega, ?_, rfl, rfl⟩
          show [_, _, _, _, (5, Value.int (nI i + 1))] = _
          rw [nI_1]
      · exact absurd hq List.not_mem_nil
    · conv => whnf
      rintro _ rfl
      conv => whnf
      rintro _ rfl
      conv => whnf
      refine ⟨n, by omega, 0, by omega, rfl, rfl, rfl⟩
  | true =>
    refine ⟨Nat.le_of_ble_eq_true rfl, [(7, [0, 1, 2, 3, 5], fun z lv w' => ∃ i : Nat, i ≤ n ∧ lv = [(0, .ref 17), (1, .ref 25), (2, .ref 26), (3, .long (leF ty ly i)), (5, .int (nI i))] ∧ w' = wSh a b c ex ey tx lx ty ly (nI n) ∧ z = n - i)], 60, n + 1, ?_, ?_⟩
    · intro y1 hq z lv w' hj
      rcases List.mem_cons.mp hq with rfl | hq
      · obtain ⟨i, hi, rfl, rfl, rfl⟩ := hj
        conv => whnf
        refine ⟨fun k => ?_, fun k => ?_⟩
        · have e : i = n := by
            have := (nI_leI (by omega) (by omega)).mp k
            omega
          subst e
          refine ⟨⟨_, rfl⟩, fun _ => rfl, ?_⟩
          intro m e hm
          have e : i = m := nI_inj (by omega) (by omega) e
          subst e
          rfl
        · have hi2 : i < n := by
            rcases Nat.lt_or_ge i n with z | z
            · exact z
            · exact absurd (nI_le z (by omega)) k
          have hcl : (nI i).toNatClampNeg = i := nI_clamp (by omega)
          have hv : vp_in (nI i) 6 := vp_in_nI (by omega) (by omega)
          conv => whnf
          refine ⟨hv, ?_⟩
          conv => whnf
          refine ⟨hv, ?_⟩
          conv => whnf
          refine ⟨⟨_, _, rfl, rfl, trivial⟩, ?_⟩
          intro r hr
          have hr : r = flr (ty (nI i).toNatClampNeg) (ly (nI i).toNatClampNeg) := hr
          rw [hcl] at hr
          subst hr
          conv => whnf
          refine ⟨⟨_, _, rfl, rfl, trivial⟩, ?_⟩
          intro r hr
          have hr : r = if flr (ty i) (ly i) < leF ty ly i then flr (ty i) (ly i) else leF ty ly i := hr
          have hr : r = leF ty ly (i + 1) := hr
          subst hr
          conv => whnf
          rintro _ rfl
          conv => whnf
          rintro _ rfl
          conv => whnf
          refine ⟨n - (i + 1), by omega, i + 1, by omega, ?_, rfl, rfl⟩
          show [_, _, _, _, (5, Value.int (nI i + 1))] = _
          rw [nI_1]
      · exact absurd hq List.not_mem_nil
    · conv => whnf
      rintro _ rfl
      conv => whnf
      rintro _ rfl
      conv => whnf
      refine ⟨n, by omega, 0, by omega, rfl, rfl, rfl⟩
theorem rv_X4_least : rz_Rv yX4_least.cls ce_X4_least := fun av w h => by
  obtain ⟨_, _, _, _, _, _, _, _, _, _, _, rfl, rfl, _⟩ := h
  exact ⟨_, _, _, _, _, _, rfl, rfl, rfl⟩
theorem cn_X4_least (l : Launch) : rz_Con l yX4_least cX4_least 6 (some .int) 2 0 0 ce_X4_least := rz_con (by decide +kernel) fo_X4 (by
  intro q hq
  rcases List.mem_cons.mp hq with rfl | hq
  · exact rz_callS (cn_X4_floor l) (by decide +kernel) ⟨Nat.le_of_ble_eq_true rfl, Nat.le_of_ble_eq_true rfl⟩ m_X4_floor t_X4_floor n_X4_95
  rcases List.mem_cons.mp hq with rfl | hq
  · exact rz_callS (cn_J9_min_f86c9 l) (by decide +kernel) ⟨Nat.le_of_ble_eq_true rfl, Nat.le_of_ble_eq_true rfl⟩ m_J9_min_f86c9 t_J9_min_f86c9 n_X4_98
  exact absurd hq List.not_mem_nil) (fun _ h => absurd h List.not_mem_nil) r_X4_least vc_X4_least
def ce_X4_greatest : rz_K := (3, kSh, 0, true, fun av w => ∃ (a b c ex ey tx lx ty ly : Nat → Int64) (n : Nat) (q : Bool), av = [.ref 17, .ref (if q then 25 else 23), .ref (if q then 26 else 24)] ∧ w = wSh a b c ex ey tx lx ty ly (nI n) ∧ n ≤ 6, fun av w o _ => ∀ n, rF w 17 9 = nI n → n ≤ 6 → rR o = (grF (rJ w (rP av 1)) (rJ w (rP av 2)) n).toInt32)
def cl_X4_greatest : List (Nat × rz_K) := [(95, ce_X4_floor), (103, ce_J9_max_f86c9)]
def cv_X4_greatest : List (Nat × rz_K) := []
theorem vc_X4_greatest : rz_VC k_X4_greatest fl_X4 cl_X4_greatest cv_X4_greatest s_X4_greatest false 6 ce_X4_greatest := by
  intro av w hlen hk hpre
  obtain ⟨a, b, c, ex, ey, tx, lx, ty, ly, n, q, rfl, rfl, hn⟩ := hpre
  cases q with
  | false =>
    refine ⟨Nat.le_of_ble_eq_true rfl, [(7, [0, 1, 2, 3, 5], fun z lv w' => ∃ i : Nat, i ≤ n ∧ lv = [(0, .ref 17), (1, .ref 23), (2, .ref 24), (3, .long (grF tx lx i)), (5, .int (nI i))] ∧ w' = wSh a b c ex ey tx lx ty ly (nI n) ∧ z = n - i)], 60, n + 1, ?_, ?_⟩
    · intro y1 hq z lv w' hj
      rcases List.mem_cons.mp hq with rfl | hq
      · obtain ⟨i, hi, rfl, rfl, rfl⟩ := hj
        conv => whnf
        refine ⟨fun k => ?_, fun k => ?_⟩
        · have e : i = n := by
            have := (nI_leI (by omega) (by omega)).mp k
            omega
          subst e
          refine ⟨⟨_, rfl⟩, fun _ => rfl, ?_⟩
          intro m e hm
          have e : i = m := nI_inj (by omega) (by omega) e
          subst e
          rfl
        · have hi2 : i < n := by
            rcases Nat.lt_or_ge i n with z | z
            · exact z
            · exact absurd (nI_le z (by omega)) k
          have hcl : (nI i).toNatClampNeg = i := nI_clamp (by omega)
          have hv : vp_in (nI i) 6 := vp_in_nI (by omega) (by omega)
          conv => whnf
          refine ⟨hv, ?_⟩
          conv => whnf
          refine ⟨hv, ?_⟩
          conv => whnf
          refine ⟨⟨_, _, rfl, rfl, trivial⟩, ?_⟩
          intro r hr
          have hr : r = flr (-tx (nI i).toNatClampNeg) (lx (nI i).toNatClampNeg) := hr
          rw [hcl] at hr
          subst hr
          conv => whnf
          refine ⟨⟨_, _, rfl, rfl, trivial⟩, ?_⟩
          intro r hr
          have hr : r = if grF tx lx i < -flr (-tx i) (lx i) then -flr (-tx i) (lx i) else grF tx lx i := hr
          have hr : r = grF tx lx (i + 1) := hr
          subst hr
          conv => whnf
          rintro _ rfl
          conv => whnf
          rintro _ rfl
          conv => whnf
          refine ⟨n - (i + 1), by omega, i + 1, by omega, ?_, rfl, rfl⟩
          show [_, _, _, _, (5, Value.int (nI i + 1))] = _
          rw [nI_1]
      · exact absurd hq List.not_mem_nil
    · conv => whnf
      rintro _ rfl
      conv => whnf
      rintro _ rfl
      conv => whnf
      refine ⟨n, by omega, 0, by omega, rfl, rfl, rfl⟩
  | true =>
    refine ⟨Nat.le_of_ble_eq_true rfl, [(7, [0, 1, 2, 3, 5], fun z lv w' => ∃ i : Nat, i ≤ n ∧ lv = [(0, .ref 17), (1, .ref 25), (2, .ref 26), (3, .long (grF ty ly i)), (5, .int (nI i))] ∧ w' = wSh a b c ex ey tx lx ty ly (nI n) ∧ z = n - i)], 60, n + 1, ?_, ?_⟩
    · intro y1 hq z lv w' hj
      rcases List.mem_cons.mp hq with rfl | hq
      · obtain ⟨i, hi, rfl, rfl, rfl⟩ := hj
        conv => whnf
        refine ⟨fun k => ?_, fun k => ?_⟩
        · have e : i = n := by
            have := (nI_leI (by omega) (by omega)).mp k
            omega
          subst e
          refine ⟨⟨_, rfl⟩, fun _ => rfl, ?_⟩
          intro m e hm
          have e : i = m := nI_inj (by omega) (by omega) e
          subst e
          rfl
        · have hi2 : i < n := by
            rcases Nat.lt_or_ge i n with z | z
            · exact z
            · exact absurd (nI_le z (by omega)) k
          have hcl : (nI i).toNatClampNeg = i := nI_clamp (by omega)
          have hv : vp_in (nI i) 6 := vp_in_nI (by omega) (by omega)
          conv => whnf
          refine ⟨hv, ?_⟩
          conv => whnf
          refine ⟨hv, ?_⟩
          conv => whnf
          refine ⟨⟨_, _, rfl, rfl, trivial⟩, ?_⟩
          intro r hr
          have hr : r = flr (-ty (nI i).toNatClampNeg) (ly (nI i).toNatClampNeg) := hr
          rw [hcl] at hr
          subst hr
          conv => whnf
          refine ⟨⟨_, _, rfl, rfl, trivial⟩, ?_⟩
          intro r hr
          have hr : r = if grF ty ly i < -flr (-ty i) (ly i) then -flr (-ty i) (ly i) else grF ty ly i := hr
          have hr : r = grF ty ly (i + 1) := hr
          subst hr
          conv => whnf
          rintro _ rfl
          conv => whnf
          rintro _ rfl
          conv => whnf
          refine ⟨n - (i + 1), by omega, i + 1, by omega, ?_, rfl, rfl⟩
          show [_, _, _, _, (5, Value.int (nI i + 1))] = _
          rw [nI_1]
      · exact absurd hq List.not_mem_nil
    · conv => whnf
      rintro _ rfl
      conv => whnf
      rintro _ rfl
      conv => whnf
      refine ⟨n, by omega, 0, by omega, rfl, rfl, rfl⟩
theorem rv_X4_greatest : rz_Rv yX4_greatest.cls ce_X4_greatest := fun av w h => by
  obtain ⟨_, _, _, _, _, _, _, _, _, _, _, rfl, rfl, _⟩ := h
  exact ⟨_, _, _, _, _, _, rfl, rfl, rfl⟩
theorem cn_X4_greatest (l : Launch) : rz_Con l yX4_greatest cX4_greatest 6 (some .int) 2 0 0 ce_X4_greatest := rz_con (by decide +kernel) fo_X4 (by
  intro q hq
  rcases List.mem_cons.mp hq with rfl | hq
  · exact rz_callS (cn_X4_floor l) (by decide +kernel) ⟨Nat.le_of_ble_eq_true rfl, Nat.le_of_ble_eq_true rfl⟩ m_X4_floor t_X4_floor n_X4_95
  rcases List.mem_cons.mp hq with rfl | hq
  · exact rz_callS (cn_J9_max_f86c9 l) (by decide +kernel) ⟨Nat.le_of_ble_eq_true rfl, Nat.le_of_ble_eq_true rfl⟩ m_J9_max_f86c9 t_J9_max_f86c9 n_X4_103
  exact absurd hq List.not_mem_nil) (fun _ h => absurd h List.not_mem_nil) r_X4_greatest vc_X4_greatest
def bxF (tx lx ty ly : Nat → Int64) (n : Nat) (q : Int32) : Int32 := if q = 0 then (leF tx lx n).toInt32 else if q = 1 then (leF ty ly n).toInt32 else if q = 2 then (grF tx lx n).toInt32 else (grF ty ly n).toInt32
def ce_X4_boxSide : rz_K := (2, kSh, 0, true, fun av w => ∃ (a b c ex ey tx lx ty ly : Nat → Int64) (n : Nat) (q : Int32), av = [.ref 17, .int q] ∧ w = wSh a b c ex ey tx lx ty ly (nI n) ∧ n ≤ 6, fun av w o _ => ∀ n, rF w 17 9 = nI n → n ≤ 6 → rR o = bxF (rJ w 23) (rJ w 24) (rJ w 25) (rJ w 26) n (rA av 1))
def cl_X4_boxSide : List (Nat × rz_K) := []
def cv_X4_boxSide : List (Nat × rz_K) := [(86, ce_X4_least), (90, ce_X4_greatest)]
theorem vc_X4_boxSide : rz_VC k_X4_boxSide fl_X4 cl_X4_boxSide cv_X4_boxSide s_X4_boxSide false 2 ce_X4_boxSide := by
  intro av w hlen hk hpre
  obtain ⟨a, b, c, ex, ey, tx, lx, ty, ly, n, q, rfl, rfl, hn⟩ := hpre
  refine ⟨Nat.le_of_ble_eq_true rfl, [], 60, 0, fun q h => absurd h List.not_mem_nil, ?_⟩
  have fin : ∀ v : Int32, v = bxF tx lx ty ly n q → rz_end ce_X4_boxSide [.ref 17, .int q] (wSh a b c ex ey tx lx ty ly (nI n)) (some (.int v)) (wSh a b c ex ey tx lx ty ly (nI n)) := by
    intro v hv
    refine ⟨⟨_, rfl⟩, fun _ => rfl, ?_⟩
    intro m e hm
    have e : n = m := nI_inj (by omega) (by omega) e
    subst e
    exact hv
  conv => whnf
  refine ⟨fun h0 => ?_, fun h0 => ?_⟩
  · conv => whnf
    refine ⟨⟨a, b, c, ex, ey, tx, lx, ty, ly, n, false, rfl, rfl, hn⟩, ?_⟩
    intro r hr
    obtain rfl : r = (leF tx lx n).toInt32 := hr n rfl hn
    conv => whnf
    exact fin _ (by rw [bxF, if_pos h0])
  · conv => whnf
    refine ⟨fun h1 => ?_, fun h1 => ?_⟩
    · conv => whnf
      refine ⟨⟨a, b, c, ex, ey, tx, lx, ty, ly, n, true, rfl, rfl, hn⟩, ?_⟩
      intro r hr
      obtain rfl : r = (leF ty ly n).toInt32 := hr n rfl hn
      conv => whnf
      exact fin _ (by rw [bxF, if_neg h0, if_pos h1])
    · conv => whnf
      refine ⟨fun h2 => ?_, fun h2 => ?_⟩
      · conv => whnf
        refine ⟨⟨a, b, c, ex, ey, tx, lx, ty, ly, n, false, rfl, rfl, hn⟩, ?_⟩
        intro r hr
        obtain rfl : r = (grF tx lx n).toInt32 := hr n rfl hn
        conv => whnf
        exact fin _ (by rw [bxF, if_neg h0, if_neg h1, if_pos h2])
      · conv => whnf
        refine ⟨⟨a, b, c, ex, ey, tx, lx, ty, ly, n, true, rfl, rfl, hn⟩, ?_⟩
        intro r hr
        obtain rfl : r = (grF ty ly n).toInt32 := hr n rfl hn
        conv => whnf
        exact fin _ (by rw [bxF, if_neg h0, if_neg h1, if_neg h2])
theorem rv_X4_boxSide : rz_Rv yX4_boxSide.cls ce_X4_boxSide := fun av w h => by
  obtain ⟨_, _, _, _, _, _, _, _, _, _, _, rfl, rfl, _⟩ := h
  exact ⟨_, _, _, _, _, _, rfl, rfl, rfl⟩
theorem cn_X4_boxSide (l : Launch) : rz_Con l yX4_boxSide cX4_boxSide 2 (some .int) 3 0 0 ce_X4_boxSide := rz_con (by decide +kernel) fo_X4 (fun _ h => absurd h List.not_mem_nil) (by
  intro q hq
  rcases List.mem_cons.mp hq with rfl | hq
  · exact rz_callV (cn_X4_least l) (by decide +kernel) ⟨Nat.le_of_ble_eq_true rfl, Nat.le_of_ble_eq_true rfl⟩ m_X4_least rfl i_X4_least v_X4_least rv_X4_least n_X4_86
  rcases List.mem_cons.mp hq with rfl | hq
  · exact rz_callV (cn_X4_greatest l) (by decide +kernel) ⟨Nat.le_of_ble_eq_true rfl, Nat.le_of_ble_eq_true rfl⟩ m_X4_greatest rfl i_X4_greatest v_X4_greatest rv_X4_greatest n_X4_90
  exact absurd hq List.not_mem_nil) r_X4_boxSide vc_X4_boxSide
