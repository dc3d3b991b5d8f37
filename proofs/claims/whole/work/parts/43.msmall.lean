/-! The reference's common, gap, latest, speed, track, thrown, plot, corners. -/
theorem i64_lt (x : Int64) : x.toInt < 2 ^ 63 := Int64.toInt_lt x
theorem i64_bm {v : Int} (h1 : -2 ^ 63 ≤ v) (h2 : v < 2 ^ 63) : v.bmod (2 ^ 64) = v := Int.bmod_eq_of_le (by omega) (by omega)
theorem lrem_toInt {x y : Int64} (hx : 0 ≤ x.toInt) (hy : 0 < y.toInt) : (x - x / y * y).toInt = x.toInt % y.toInt := by
  have hX := i64_lt x
  have hq0 : 0 ≤ x.toInt / y.toInt := Int.ediv_nonneg hx (by omega)
  have hq1 : x.toInt / y.toInt ≤ x.toInt := Int.ediv_le_self _ hx
  have h1 : (x / y).toInt = x.toInt / y.toInt := by
    rw [Int64.toInt_div, Int.tdiv_eq_ediv_of_nonneg hx]
    exact i64_bm (by omega) (by omega)
  have e := Int.mul_ediv_add_emod x.toInt y.toInt
  have m0 := Int.emod_nonneg x.toInt (show y.toInt ≠ 0 by omega)
  have hp : 0 ≤ x.toInt / y.toInt * y.toInt := Int.mul_nonneg hq0 (by omega)
  have ec : y.toInt * (x.toInt / y.toInt) = x.toInt / y.toInt * y.toInt := Int.mul_comm _ _
  rw [ec] at e
  have h2 : (x / y * y).toInt = x.toInt / y.toInt * y.toInt := by
    rw [Int64.toInt_mul, h1]
    exact i64_bm (by omega) (by omega)
  rw [Int64.toInt_sub, h2, i64_bm (by omega) (by omega)]
  omega
/-- the greatest common divisor, as a long -/
def gcL (x y : Int64) : Int64 := Int64.ofNat (Nat.gcd x.toInt.natAbs y.toInt.natAbs)
theorem abL_toInt {x : Int64} (h : -2 ^ 62 < x.toInt) : (abL x).toInt = x.toInt.natAbs := by
  have hX := i64_lt x
  unfold abL
  by_cases z : 0 ≤ x
  · rw [if_pos z]
    have z : 0 ≤ x.toInt := Int64.le_iff_toInt_le.mp z
    omega
  · rw [if_neg z]
    have z : ¬ 0 ≤ x.toInt := fun q => z (Int64.le_iff_toInt_le.mpr q)
    rw [Int64.toInt_neg, i64_bm (by omega) (by omega)]
    omega
theorem ofNat_toInt64 {n : Nat} (h : n < 2 ^ 63) : (Int64.ofNat n).toInt = (n : Int) := Int64.toInt_ofNat_of_lt h
theorem gcL_self {x : Int64} {g : Nat} (h0 : x.toInt = (g : Int)) : x = Int64.ofNat g := by
  apply Int64.toInt_inj.mp
  have := i64_lt x
  rw [ofNat_toInt64 (by omega), h0]
def ce_X7_common : rz_K := (2, [], 1, true, fun av w => ∃ x y : Int64, av = [.long x, .long y] ∧ w = [] ∧ -2 ^ 62 < x.toInt ∧ x.toInt < 2 ^ 62 ∧ -2 ^ 62 < y.toInt ∧ y.toInt < 2 ^ 62, fun av _ o _ => rS o = gcL (rB av 0) (rB av 1))
def cl_X7_common : List (Nat × rz_K) := [(153, ce_J9_abs_067f4)]
def cv_X7_common : List (Nat × rz_K) := []
theorem vc_X7_common : rz_VC k_X7_common fl_X7 cl_X7_common cv_X7_common s_X7_common false 10 ce_X7_common := by
  intro av w hlen hk hpre
  obtain ⟨x, y, rfl, rfl, hx1, hx2, hy1, hy2⟩ := hpre
  refine ⟨Nat.le_of_ble_eq_true rfl, [(12, [0, 2, 4, 6], fun z lv w' => ∃ (a b : Int64), 0 ≤ a.toInt ∧ 0 ≤ b.toInt ∧ Nat.gcd a.toInt.toNat b.toInt.toNat = Nat.gcd x.toInt.natAbs y.toInt.natAbs ∧ lv = [(0, .long x), (2, .long y), (4, .long a), (6, .long b)] ∧ w' = [] ∧ z = b.toInt.toNat)], 60, 2 ^ 62, ?_, ?_⟩
  · intro y1 hq z lv w' hj
    rcases List.mem_cons.mp hq with rfl | hq
    · obtain ⟨a, b, ha, hb, hg, rfl, rfl, rfl⟩ := hj
      conv => whnf
      refine ⟨fun k => ?_, fun k => ?_⟩
      · have k : b = 0 := (lg_eq0 b 0).mp k
        refine ⟨⟨_, rfl⟩, fun _ => rfl, ?_⟩
        show a = gcL x y
        rw [k] at hg
        have e0 : (0 : Int64).toInt.toNat = 0 := rfl
        rw [e0, Nat.gcd_zero_right] at hg
        exact gcL_self (by omega)
      · have k : ¬ b = 0 := fun z => k ((lg_eq0 b 0).mpr z)
        have hb0 : 0 < b.toInt := by
          have : b.toInt ≠ 0 := fun z => k (Int64.toInt_inj.mp z)
          omega
        conv => whnf
        refine ⟨k, ?_⟩
        conv => whnf
        intro r er
        have hr : r.toInt = a.toInt % b.toInt := by rw [er]; exact lrem_toInt ha hb0
        have m0 := Int.emod_nonneg a.toInt (show b.toInt ≠ 0 by omega)
        have m1 := Int.emod_lt_of_pos a.toInt hb0
        conv => whnf
        intro v_ ev_
        have ev_ := ev_.symm
        subst ev_
        conv => whnf
        intro v_ ev_
        have ev_ := ev_.symm
        subst ev_
        conv => whnf
        refine ⟨r.toInt.toNat, by omega, b, r, hb, by omega, ?_, rfl, rfl, rfl⟩
        rw [← hg, hr]
        have e1 : (a.toInt % b.toInt).toNat = a.toInt.toNat % b.toInt.toNat := Int.toNat_emod ha hb
        rw [e1, Nat.gcd_comm b.toInt.toNat, ← Nat.gcd_rec, Nat.gcd_comm]
    · exact absurd hq List.not_mem_nil
  · conv => whnf
    refine ⟨⟨_, rfl, rfl, trivial⟩, ?_⟩
    intro r hr
    obtain rfl : r = abL x := hr
    conv => whnf
    rintro _ rfl
    conv => whnf
    refine ⟨⟨_, rfl, rfl, trivial⟩, ?_⟩
    intro r hr
    obtain rfl : r = abL y := hr
    conv => whnf
    rintro _ rfl
    have e1 := abL_toInt hx1
    have e2 := abL_toInt hy1
    conv => whnf
    refine ⟨(abL y).toInt.toNat, by omega, abL x, abL y, by omega, by omega, ?_, rfl, rfl, rfl⟩
    rw [e1, e2]
    rfl
theorem cn_X7_common (l : Launch) : rz_Con l yX7_common cX7_common 10 (some .long) 1 0 0 ce_X7_common := rz_con (by decide +kernel) fo_X7 (by
  intro q hq
  rcases List.mem_cons.mp hq with rfl | hq
  · exact rz_callS (cn_J9_abs_067f4 l) (by decide +kernel) ⟨Nat.le_of_ble_eq_true rfl, Nat.le_of_ble_eq_true rfl⟩ m_J9_abs_067f4 t_J9_abs_067f4 n_X7_153
  exact absurd hq List.not_mem_nil) (fun _ h => absurd h List.not_mem_nil) r_X7_common vc_X7_common
def mxL (x y : Int64) : Int64 := if x < y then y else x
def gmF (a b c d : Int64) : Int64 := mxL 0 (mxL (a - d) (c - b))
def ce_X7_gap : rz_K := (4, [], 1, true, fun av w => ∃ a b c d : Int64, av = [.long a, .long b, .long c, .long d] ∧ w = [] ∧ True, fun av _ o _ => rS o = gmF (rB av 0) (rB av 1) (rB av 2) (rB av 3))
def cl_X7_gap : List (Nat × rz_K) := [(169, ce_J9_max_f86c9)]
def cv_X7_gap : List (Nat × rz_K) := []
theorem vc_X7_gap : rz_VC k_X7_gap fl_X7 cl_X7_gap cv_X7_gap s_X7_gap false 8 ce_X7_gap := by
  intro av w hlen hk hpre
  obtain ⟨a, b, c, d, rfl, rfl, -⟩ := hpre
  refine ⟨Nat.le_of_ble_eq_true rfl, [], 60, 0, fun q h => absurd h List.not_mem_nil, ?_⟩
  conv => whnf
  refine ⟨⟨_, _, rfl, rfl, trivial⟩, ?_⟩
  intro r hr
  obtain rfl : r = mxL (a - d) (c - b) := hr
  conv => whnf
  refine ⟨⟨_, _, rfl, rfl, trivial⟩, ?_⟩
  intro r hr
  conv => whnf
  exact ⟨⟨_, rfl⟩, fun _ => rfl, hr⟩
theorem cn_X7_gap (l : Launch) : rz_Con l yX7_gap cX7_gap 8 (some .long) 1 0 0 ce_X7_gap := rz_con (by decide +kernel) fo_X7 (by
  intro q hq
  rcases List.mem_cons.mp hq with rfl | hq
  · exact rz_callS (cn_J9_max_f86c9 l) (by decide +kernel) ⟨Nat.le_of_ble_eq_true rfl, Nat.le_of_ble_eq_true rfl⟩ m_J9_max_f86c9 t_J9_max_f86c9 n_X7_169
  exact absurd hq List.not_mem_nil) (fun _ h => absurd h List.not_mem_nil) r_X7_gap vc_X7_gap
/-- the last plot of a track -/
def lsP (tk : Nat → Int32) (z : Nat) (t : Int32) (p : Nat) : Prop := p < z ∧ tk p = t ∧ ∀ q, p < q → q < z → ¬ tk q = t
theorem lsP_u {tk : Nat → Int32} {z : Nat} {t : Int32} {p q : Nat} (h : lsP tk z t p) (g : lsP tk z t q) : p = q := by
  rcases Nat.lt_trichotomy p q with y | y | y
  · exact absurd g.2.1 (h.2.2 q y g.1)
  · exact y
  · exact absurd h.2.1 (g.2.2 p y h.1)
def ce_X7_latest : rz_K := (2, [50, 60], 0, true, fun av w => ∃ (tk : Nat → Int32) (th po re nw si tr bo pn ca sp co t : Int32) (z p : Nat), av = [.ref 50, .int t] ∧ w = [(50, oMo th po re nw si (nI z) tr bo pn ca sp co), (60, ri 60 tk)] ∧ z ≤ 60 ∧ lsP tk z t p, fun av w o _ => ∀ z p, rF w 50 11 = nI z → z ≤ 60 → lsP (rI w 60) z (rA av 1) p → rR o = nI p)
def cl_X7_latest : List (Nat × rz_K) := []
def cv_X7_latest : List (Nat × rz_K) := []
theorem vc_X7_latest : rz_VC k_X7_latest fl_X7 cl_X7_latest cv_X7_latest s_X7_latest false 3 ce_X7_latest := by
  intro av w hlen hk hpre
  obtain ⟨tk, th, po, re, nw, si, tr, bo, pn, ca, sp, co, t, z, p, rfl, rfl, hz, hp⟩ := hpre
  refine ⟨Nat.le_of_ble_eq_true rfl, [(7, [0, 1, 2], fun y lv w' => ∃ i : Nat, p ≤ i ∧ i < z ∧ lv = [(0, .ref 50), (1, .int t), (2, .int (nI i))] ∧ w' = [(50, oMo th po re nw si (nI z) tr bo pn ca sp co), (60, ri 60 tk)] ∧ y = i + 1)], 60, z + 1, ?_, ?_⟩
  · intro y1 hq y lv w' hj
    rcases List.mem_cons.mp hq with rfl | hq
    · obtain ⟨i, hi1, hi2, rfl, rfl, rfl⟩ := hj
      have hcl : (nI i).toNatClampNeg = i := nI_clamp (by omega)
      conv => whnf
      refine ⟨vp_in_nI (by omega) (by omega), ?_⟩
      conv => whnf
      refine ⟨fun k => ?_, fun k => ?_⟩
      · have k : tk (nI i).toNatClampNeg = t := k
        rw [hcl] at k
        have e : p = i := by
          rcases Nat.lt_or_ge p i with y | y
          · exact absurd k (hp.2.2 i y hi2)
          · omega
        subst e
        refine ⟨⟨_, rfl⟩, fun _ => rfl, ?_⟩
        intro z' p' e1 h1 h2
        have e1 : z = z' := nI_inj (by omega) (by omega) e1
        subst e1
        have := lsP_u hp h2
        rw [← this]
        rfl
      · have k : ¬ tk (nI i).toNatClampNeg = t := k
        rw [hcl] at k
        have hne : ¬ p = i := fun e => k (by rw [← e]; exact hp.2.1)
        obtain ⟨q, rfl⟩ : ∃ q, i = q + 1 := ⟨i - 1, by omega⟩
        conv => whnf
        rintro _ rfl
        conv => whnf
        refine ⟨q + 1, by omega, q, by omega, by omega, ?_, rfl, rfl⟩
        show [_, _, (2, Value.int (nI (q + 1) + (-1)))] = _
        rw [pk_m1]
    · exact absurd hq List.not_mem_nil
  · obtain ⟨q, rfl⟩ : ∃ q, z = q + 1 := ⟨z - 1, by have := hp.1; omega⟩
    have hp1 := hp.1
    conv => whnf
    rintro _ rfl
    conv => whnf
    refine ⟨q + 1, by omega, q, by omega, by omega, ?_, rfl, rfl⟩
    show [_, _, (2, Value.int (nI (q + 1) - 1))] = _
    rw [nI_pred]
theorem rv_X7_latest : rz_Rv yX7_latest.cls ce_X7_latest := fun av w h => by
  obtain ⟨_, _, _, _, _, _, _, _, _, _, _, _, _, _, _, rfl, rfl, _⟩ := h
  exact ⟨_, _, _, _, _, _, rfl, rfl, rfl⟩
theorem cn_X7_latest (l : Launch) : rz_Con l yX7_latest cX7_latest 3 (some .int) 0 0 0 ce_X7_latest := rz_con (by decide +kernel) fo_X7 (fun _ h => absurd h List.not_mem_nil) (fun _ h => absurd h List.not_mem_nil) r_X7_latest vc_X7_latest
def ce_X7_speed : rz_K := (2, [50], 0, false, fun av w => ∃ (th po re nw si pl tr bo pn ca sp co x : Int32), av = [.ref 50, .int x] ∧ w = [(50, oMo th po re nw si pl tr bo pn ca sp co)] ∧ True, fun av w o w' => if 1 ≤ rA av 1 ∧ rA av 1 ≤ 100 then rR o = 1 ∧ w' = mset (mset w 0 0) 16 (rA av 1) else rR o = 0 ∧ w' = mset w 0 0)
def cl_X7_speed : List (Nat × rz_K) := [(87, ce_X7_isIn)]
def cv_X7_speed : List (Nat × rz_K) := []
theorem vc_X7_speed : rz_VC k_X7_speed fl_X7 cl_X7_speed cv_X7_speed s_X7_speed true 2 ce_X7_speed := by
  intro av w hlen hk hpre
  obtain ⟨th, po, re, nw, si, pl, tr, bo, pn, ca, sp, co, x, rfl, rfl, -⟩ := hpre
  refine ⟨Nat.le_of_ble_eq_true rfl, [], 60, 0, fun q h => absurd h List.not_mem_nil, ?_⟩
  conv => whnf
  refine ⟨⟨_, _, _, rfl, rfl, trivial⟩, ?_⟩
  intro r hr
  obtain rfl : r = bI (1 ≤ x ∧ x ≤ 100) := hr
  conv => whnf
  refine ⟨fun h1 => ?_, fun h1 => ?_⟩
  · exact ⟨Or.inl rfl, ⟨_, rfl⟩, fun z => (by cases z), if_no (bI_0 h1) ⟨rfl, rfl⟩⟩
  · exact ⟨Or.inr rfl, ⟨_, rfl⟩, fun z => (by cases z), if_yes (bI_n h1) ⟨rfl, rfl⟩⟩
theorem rv_X7_speed : rz_Rv yX7_speed.cls ce_X7_speed := fun av w h => by
  obtain ⟨_, _, _, _, _, _, _, _, _, _, _, _, _, rfl, rfl, _⟩ := h
  exact ⟨_, _, _, _, _, _, rfl, rfl, rfl⟩
theorem cn_X7_speed (l : Launch) : rz_Con l yX7_speed cX7_speed 2 (some .boolean) 1 0 0 ce_X7_speed := rz_con (by decide +kernel) fo_X7 (by
  intro q hq
  rcases List.mem_cons.mp hq with rfl | hq
  · exact rz_callS (cn_X7_isIn l) (by decide +kernel) ⟨Nat.le_of_ble_eq_true rfl, Nat.le_of_ble_eq_true rfl⟩ m_X7_isIn t_X7_isIn n_X7_87
  exact absurd hq List.not_mem_nil) (fun _ h => absurd h List.not_mem_nil) r_X7_speed vc_X7_speed
def ce_X7_thrown : rz_K := (1, [50], 0, true, fun av w => ∃ (th po re nw si pl tr bo pn ca sp co : Int32), av = [.ref 50] ∧ w = [(50, oMo th po re nw si pl tr bo pn ca sp co)] ∧ True, fun _ w o _ => rR o = rF w 50 0)
def cl_X7_thrown : List (Nat × rz_K) := []
def cv_X7_thrown : List (Nat × rz_K) := []
theorem vc_X7_thrown : rz_VC k_X7_thrown fl_X7 cl_X7_thrown cv_X7_thrown s_X7_thrown false 1 ce_X7_thrown := by
  intro av w hlen hk hpre
  obtain ⟨th, po, re, nw, si, pl, tr, bo, pn, ca, sp, co, rfl, rfl, -⟩ := hpre
  refine ⟨Nat.le_of_ble_eq_true rfl, [], 60, 0, fun q h => absurd h List.not_mem_nil, ?_⟩
  conv => whnf
  exact ⟨⟨_, rfl⟩, fun _ => rfl, rfl⟩
theorem rv_X7_thrown : rz_Rv yX7_thrown.cls ce_X7_thrown := fun av w h => by
  obtain ⟨_, _, _, _, _, _, _, _, _, _, _, _, rfl, rfl, _⟩ := h
  exact ⟨_, _, _, _, _, _, rfl, rfl, rfl⟩
theorem cn_X7_thrown (l : Launch) : rz_Con l yX7_thrown cX7_thrown 1 (some .int) 0 0 0 ce_X7_thrown := rz_con (by decide +kernel) fo_X7 (fun _ h => absurd h List.not_mem_nil) (fun _ h => absurd h List.not_mem_nil) r_X7_thrown vc_X7_thrown
abbrev wMt (o : rz_C) (sg fi se tk : Nat → Int32) : rz_W := [(50, o), (57, ri 600 sg), (58, ri 60 fi), (59, ri 60 se), (60, ri 60 tk)]
def ce_X7_track : rz_K := (3, [50, 57, 58, 59, 60], 0, false, fun av w => ∃ (sg fi se tk : Nat → Int32) (th po re nw si tr bo pn ca sp co p q : Int32) (n : Nat), av = [.ref 50, .int p, .int q] ∧ w = wMt (oMo th po re nw si (nI n) tr bo pn ca sp co) sg fi se tk ∧ n ≤ 60 ∧ ∀ i, i < n → vp_in (fi i) 100, fun av w o w' => w' = mset w 0 0 ∧ ∀ n, rF w 50 11 = nI n → n ≤ 60 → rR o = if okS (rA av 1) n then (if rA av 2 = 0 then rI w 60 (rA av 1).toNatClampNeg else if rA av 2 = 1 then rI w 58 (rA av 1).toNatClampNeg else if rA av 2 = 2 then rI w 59 (rA av 1).toNatClampNeg else if rA av 2 = 3 then rI w 57 (6 * (rI w 58 (rA av 1).toNatClampNeg).toNatClampNeg + 1) else -1) else -1)
def cl_X7_track : List (Nat × rz_K) := [(87, ce_X7_isIn)]
def cv_X7_track : List (Nat × rz_K) := [(119, ce_X7_of)]
theorem vc_X7_track : rz_VC k_X7_track fl_X7 cl_X7_track cv_X7_track s_X7_track false 3 ce_X7_track := by
  intro av w hlen hk hpre
  obtain ⟨sg, fi, se, tk, th, po, re, nw, si, tr, bo, pn, ca, sp, co, p, q, n, rfl, rfl, hn, hfi⟩ := hpre
  refine ⟨Nat.le_of_ble_eq_true rfl, [], 60, 0, fun q h => absurd h List.not_mem_nil, ?_⟩
  have fin : ∀ v : Int32, (v = if okS p n then (if q = 0 then tk p.toNatClampNeg else if q = 1 then fi p.toNatClampNeg else if q = 2 then se p.toNatClampNeg else if q = 3 then sg (6 * (fi p.toNatClampNeg).toNatClampNeg + 1) else -1) else -1) → rz_end ce_X7_track [.ref 50, .int p, .int q] (wMt (oMo th po re nw si (nI n) tr bo pn ca sp co) sg fi se tk) (some (.int v)) (wMt (oMo 0 po re nw si (nI n) tr bo pn ca sp co) sg fi se tk) := by
    intro v hv
    refine ⟨⟨_, rfl⟩, fun z => (by cases z), rfl, ?_⟩
    intro m e hm
    have e : n = m := nI_inj (by omega) (by omega) e
    subst e
    exact hv
  conv => whnf
  refine ⟨⟨_, _, _, rfl, rfl, trivial⟩, ?_⟩
  intro r hr
  obtain rfl : r = bI (okS p n) := hr
  conv => whnf
  refine ⟨fun h => ?_, fun h => ?_⟩
  · exact fin _ (if_neg (bI_0 h)).symm
  · have hO := bI_n h
    have hv := okS_vp hO hn (by omega)
    conv => whnf
    refine ⟨fun h0 => ?_, fun h0 => ?_⟩
    · conv => whnf
      refine ⟨hv, ?_⟩
      conv => whnf
      exact fin _ (by rw [if_pos hO, if_pos h0])
    · conv => whnf
      refine ⟨fun h1 => ?_, fun h1 => ?_⟩
      · conv => whnf
        refine ⟨hv, ?_⟩
        conv => whnf
        exact fin _ (by rw [if_pos hO, if_neg h0, if_pos h1])
      · conv => whnf
        refine ⟨fun h2 => ?_, fun h2 => ?_⟩
        · conv => whnf
          refine ⟨hv, ?_⟩
          conv => whnf
          exact fin _ (by rw [if_pos hO, if_neg h0, if_neg h1, if_pos h2])
        · conv => whnf
          refine ⟨fun h3 => ?_, fun h3 => ?_⟩
          · conv => whnf
            refine ⟨hv, ?_⟩
            obtain ⟨i, hi, rfl⟩ := okS_nat hO (by omega)
            have hci : (nI i).toNatClampNeg = i := nI_clamp (by omega)
            obtain ⟨f, hf1, hf2⟩ := vp_in_of (hfi i hi) (by omega)
            have hcf : (fi i).toNatClampNeg = f := by rw [hf2]; exact nI_clamp (by omega)
            rw [hci, hcf] at fin
            conv => whnf
            refine ⟨⟨sg, 0, po, re, nw, si, nI n, tr, bo, pn, ca, sp, co, f, 1, (by show [_, Value.int (fi (nI i).toNatClampNeg), _] = _; rw [hci, hf2]; rfl), rfl, hf1, by omega⟩, ?_⟩
            intro r hr
            have hr : r = sg (6 * f + 1) := hr f 1 (by show fi (nI i).toNatClampNeg = _; rw [hci, hf2]) rfl hf1 (by omega)
            subst hr
            conv => whnf
            exact fin _ (by rw [if_pos hO, if_neg h0, if_neg h1, if_neg h2, if_pos h3])
          · exact fin _ (by rw [if_pos hO, if_neg h0, if_neg h1, if_neg h2, if_neg h3])
theorem rv_X7_track : rz_Rv yX7_track.cls ce_X7_track := fun av w h => by
  obtain ⟨_, _, _, _, _, _, _, _, _, _, _, _, _, _, _, _, _, _, rfl, rfl, _⟩ := h
  exact ⟨_, _, _, _, _, _, rfl, rfl, rfl⟩
theorem cn_X7_track (l : Launch) : rz_Con l yX7_track cX7_track 3 (some .int) 1 0 0 ce_X7_track := rz_con (by decide +kernel) fo_X7 (by
  intro q hq
  rcases List.mem_cons.mp hq with rfl | hq
  · exact rz_callS (cn_X7_isIn l) (by decide +kernel) ⟨Nat.le_of_ble_eq_true rfl, Nat.le_of_ble_eq_true rfl⟩ m_X7_isIn t_X7_isIn n_X7_87
  exact absurd hq List.not_mem_nil) (by
  intro q hq
  rcases List.mem_cons.mp hq with rfl | hq
  · exact rz_callV (cn_X7_of l) (by decide +kernel) ⟨Nat.le_of_ble_eq_true rfl, Nat.le_of_ble_eq_true rfl⟩ m_X7_of rfl i_X7_of v_X7_of rv_X7_of n_X7_119
  exact absurd hq List.not_mem_nil) r_X7_track vc_X7_track
def ce_X7_plot : rz_K := (3, kMq, 0, false, ce_X7_meets.2.2.2.2.1, fun av w o w' => ∀ n, rF w 50 10 = nI n → n ≤ 100 → ∃ (A' B' C' X' Y' D' : Nat → Int64) (k : Int32), mmR (rI w 51) (rI w 52) (rI w 57) n (rJ w 67) (rJ w 68) (rJ w 69) (rJ w 70) (rJ w 71) (rJ w 72) (rF w 50 33) (rA av 1) (rA av 2) (rR o) A' B' C' X' Y' D' k ∧ w' = sMq (mset w 0 0) A' B' C' X' Y' D' k)
def cl_X7_plot : List (Nat × rz_K) := []
def cv_X7_plot : List (Nat × rz_K) := [(150, ce_X7_meets)]
theorem vc_X7_plot : rz_VC k_X7_plot fl_X7 cl_X7_plot cv_X7_plot s_X7_plot false 3 ce_X7_plot := by
  intro av w hlen hk hpre
  obtain ⟨px, py, sg, A, B, C, X, Y, D, th, po, re, nw, pl, tr, bo, pn, ca, sp, co, x, y, n, rfl, rfl, hn, hsg⟩ := hpre
  refine ⟨Nat.le_of_ble_eq_true rfl, [], 60, 0, fun q h => absurd h List.not_mem_nil, ?_⟩
  conv => whnf
  refine ⟨⟨px, py, sg, A, B, C, X, Y, D, 0, po, re, nw, pl, tr, bo, pn, ca, sp, co, x, y, n, rfl, rfl, hn, hsg⟩, ?_⟩
  intro r wc hwc
  obtain ⟨A', B', C', X', Y', D', k, h1, hw⟩ := hwc n rfl hn
  have hw : wc = wMq (oMo 0 po re nw (nI n) pl tr bo pn ca sp k) px py sg A' B' C' X' Y' D' := hw
  subst hw
  have e : rz_back (wMq (oMo 0 po re nw (nI n) pl tr bo pn ca sp co) px py sg A B C X Y D) (wMq (oMo 0 po re nw (nI n) pl tr bo pn ca sp k) px py sg A' B' C' X' Y' D') = wMq (oMo 0 po re nw (nI n) pl tr bo pn ca sp k) px py sg A' B' C' X' Y' D' := rz_back_pre (w := wMq (oMo 0 po re nw (nI n) pl tr bo pn ca sp co) px py sg A B C X Y D) (q := []) rfl (show kMq.Nodup by decide +kernel)
  conv => whnf
  refine ⟨⟨_, rfl⟩, fun z => (by cases z), ?_⟩
  intro n' e1 g1
  have e1 : n = n' := nI_inj (by omega) (by omega) e1
  subst e1
  exact ⟨A', B', C', X', Y', D', k, h1, e⟩
theorem rv_X7_plot : rz_Rv yX7_plot.cls ce_X7_plot := fun av w h => by
  obtain ⟨_, _, _, _, _, _, _, _, _, _, _, _, _, _, _, _, _, _, _, _, _, _, _, rfl, rfl, _⟩ := h
  exact ⟨_, _, _, _, _, _, rfl, rfl, rfl⟩
theorem cn_X7_plot (l : Launch) : rz_Con l yX7_plot cX7_plot 3 (some .int) 4 0 0 ce_X7_plot := rz_con (by decide +kernel) fo_X7 (fun _ h => absurd h List.not_mem_nil) (by
  intro q hq
  rcases List.mem_cons.mp hq with rfl | hq
  · exact rz_callV (cn_X7_meets l) (by decide +kernel) ⟨Nat.le_of_ble_eq_true rfl, Nat.le_of_ble_eq_true rfl⟩ m_X7_meets rfl i_X7_meets v_X7_meets rv_X7_meets n_X7_150
  exact absurd hq List.not_mem_nil) r_X7_plot vc_X7_plot
def ce_X7_corners : rz_K := (3, kMq, 0, false, ce_X7_meets.2.2.2.2.1, fun av w o w' => ∀ n, rF w 50 10 = nI n → n ≤ 100 → ∃ (A' B' C' X' Y' D' : Nat → Int64) (k r : Int32), mmR (rI w 51) (rI w 52) (rI w 57) n (rJ w 67) (rJ w 68) (rJ w 69) (rJ w 70) (rJ w 71) (rJ w 72) (rF w 50 33) (rA av 1) (rA av 2) r A' B' C' X' Y' D' k ∧ rR o = (if r = 1 then k else -1) ∧ w' = sMq (mset w 0 0) A' B' C' X' Y' D' k)
def cl_X7_corners : List (Nat × rz_K) := []
def cv_X7_corners : List (Nat × rz_K) := [(150, ce_X7_meets)]
theorem vc_X7_corners : rz_VC k_X7_corners fl_X7 cl_X7_corners cv_X7_corners s_X7_corners false 3 ce_X7_corners := by
  intro av w hlen hk hpre
  obtain ⟨px, py, sg, A, B, C, X, Y, D, th, po, re, nw, pl, tr, bo, pn, ca, sp, co, x, y, n, rfl, rfl, hn, hsg⟩ := hpre
  refine ⟨Nat.le_of_ble_eq_true rfl, [], 60, 0, fun q h => absurd h List.not_mem_nil, ?_⟩
  conv => whnf
  refine ⟨⟨px, py, sg, A, B, C, X, Y, D, 0, po, re, nw, pl, tr, bo, pn, ca, sp, co, x, y, n, rfl, rfl, hn, hsg⟩, ?_⟩
  intro r wc hwc
  obtain ⟨A', B', C', X', Y', D', k, h1, hw⟩ := hwc n rfl hn
  have hw : wc = wMq (oMo 0 po re nw (nI n) pl tr bo pn ca sp k) px py sg A' B' C' X' Y' D' := hw
  have h1 : mmR px py sg n A B C X Y D co x y r A' B' C' X' Y' D' k := h1
  subst hw
  have e : rz_back (wMq (oMo 0 po re nw (nI n) pl tr bo pn ca sp co) px py sg A B C X Y D) (wMq (oMo 0 po re nw (nI n) pl tr bo pn ca sp k) px py sg A' B' C' X' Y' D') = wMq (oMo 0 po re nw (nI n) pl tr bo pn ca sp k) px py sg A' B' C' X' Y' D' := rz_back_pre (w := wMq (oMo 0 po re nw (nI n) pl tr bo pn ca sp co) px py sg A B C X Y D) (q := []) rfl (show kMq.Nodup by decide +kernel)
  have fin : ∀ v : Int32, v = (if r = 1 then k else -1) → rz_end ce_X7_corners [.ref 50, .int x, .int y] (wMq (oMo th po re nw (nI n) pl tr bo pn ca sp co) px py sg A B C X Y D) (some (.int v)) (wMq (oMo 0 po re nw (nI n) pl tr bo pn ca sp k) px py sg A' B' C' X' Y' D') := by
    intro v hv
    refine ⟨⟨_, rfl⟩, fun z => (by cases z), ?_⟩
    intro n' e1 g1
    have e1 : n = n' := nI_inj (by omega) (by omega) e1
    subst e1
    exact ⟨A', B', C', X', Y', D', k, r, h1, hv, rfl⟩
  rw [← e] at fin
  conv => whnf
  refine ⟨fun h2 => ?_, fun h2 => ?_⟩
  · exact fin _ (if_pos h2).symm
  · exact fin _ (if_neg h2).symm
theorem rv_X7_corners : rz_Rv yX7_corners.cls ce_X7_corners := fun av w h => by
  obtain ⟨_, _, _, _, _, _, _, _, _, _, _, _, _, _, _, _, _, _, _, _, _, _, _, rfl, rfl, _⟩ := h
  exact ⟨_, _, _, _, _, _, rfl, rfl, rfl⟩
theorem cn_X7_corners (l : Launch) : rz_Con l yX7_corners cX7_corners 3 (some .int) 4 0 0 ce_X7_corners := rz_con (by decide +kernel) fo_X7 (fun _ h => absurd h List.not_mem_nil) (by
  intro q hq
  rcases List.mem_cons.mp hq with rfl | hq
  · exact rz_callV (cn_X7_meets l) (by decide +kernel) ⟨Nat.le_of_ble_eq_true rfl, Nat.le_of_ble_eq_true rfl⟩ m_X7_meets rfl i_X7_meets v_X7_meets rv_X7_meets n_X7_150
  exact absurd hq List.not_mem_nil) r_X7_corners vc_X7_corners
