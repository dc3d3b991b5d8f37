/-! Shape: corners put in, in order; box. -/
def insA (f : Nat → Int64) (n t : Nat) (x : Int64) : Nat → Int64 := fun j => if j < t then f j else if j = t then x else if j ≤ n then f (j - 1) else f j
def shA (f : Nat → Int64) (n i : Nat) : Nat → Int64 := fun j => if i < j ∧ j ≤ n then f (j - 1) else f j
theorem shA_n (f : Nat → Int64) (n : Nat) : shA f n n = f := by
  funext j
  unfold shA
  rw [if_neg (by omega)]
theorem shA_s (f : Nat → Int64) {n i : Nat} (h : i < n) : vp_updL (shA f n (i + 1)) (i + 1) (shA f n (i + 1) i) = shA f n i := by
  funext j
  unfold vp_updL
  by_cases e : j = i + 1
  · rw [if_pos e]
    unfold shA
    rw [if_neg (by omega), if_pos (by omega), e]
    rfl
  · rw [if_neg e]
    unfold shA
    by_cases g : i + 1 < j ∧ j ≤ n
    · rw [if_pos g, if_pos (by omega)]
    · rw [if_neg g, if_neg (by omega)]
theorem shA_ins (f : Nat → Int64) {n t : Nat} (x : Int64) : vp_updL (shA f n t) t x = insA f n t x := by
  funext j
  unfold vp_updL insA shA
  by_cases e : j = t
  · rw [if_pos e, if_neg (by omega), if_pos e]
  · rw [if_neg e]
    by_cases g : j < t
    · rw [if_pos g, if_neg (by omega)]
    · rw [if_neg g, if_neg e]
      by_cases q : j ≤ n
      · rw [if_pos (by omega), if_pos q]
      · rw [if_neg (by omega), if_neg q]
abbrev g1F (x d : Int64) : Int64 := cdF 128 (abL x) (abL d)
/-- a corner put among n ones: at t, if none is it -/
def insR (tx lx ty ly : Nat → Int64) (n : Nat) (x y d : Int64) (tx' lx' ty' ly' : Nat → Int64) (n' : Nat) : Prop := ∃ t, t ≤ n ∧ (∀ k, k < t → orF tx lx ty ly k x y d < 0) ∧ (t < n → ¬ orF tx lx ty ly t x y d < 0) ∧
  if t < n ∧ orF tx lx ty ly t x y d = 0 then tx' = tx ∧ lx' = lx ∧ ty' = ty ∧ ly' = ly ∧ n' = n else tx' = insA tx n t (ovr x (g1F x d)) ∧ lx' = insA lx n t (ovr d (g1F x d)) ∧ ty' = insA ty n t (ovr y (g1F y d)) ∧ ly' = insA ly n t (ovr d (g1F y d)) ∧ n' = n + 1
def ce_X4_insert : rz_K := (4, kSh, 2, false, fun av w => ∃ (a b c ex ey tx lx ty ly : Nat → Int64) (n : Nat) (x y d : Int64), av = [.ref 17, .long x, .long y, .long d] ∧ w = wSh a b c ex ey tx lx ty ly (nI n) ∧ n < 6, fun av w _ w' => ∀ n, rF w 17 9 = nI n → n < 6 → ∃ tx' lx' ty' ly' n', insR (rJ w 23) (rJ w 24) (rJ w 25) (rJ w 26) n (rB av 1) (rB av 2) (rB av 3) tx' lx' ty' ly' n' ∧ w' = wSh (rJ w 18) (rJ w 19) (rJ w 20) (rJ w 21) (rJ w 22) tx' lx' ty' ly' (nI n'))
def cl_X4_insert : List (Nat × rz_K) := [(59, ce_X4_commonDivisor), (63, ce_X4_over)]
def cv_X4_insert : List (Nat × rz_K) := [(55, ce_X4_order)]
theorem vc_X4_insert : rz_VC k_X4_insert fl_X4 cl_X4_insert cv_X4_insert s_X4_insert false 13 ce_X4_insert := by
  intro av w hlen hk hpre
  obtain ⟨a, b, c, ex, ey, tx, lx, ty, ly, n, x, y, d, rfl, rfl, hn⟩ := hpre
  have fin : ∀ tx' lx' ty' ly' n', insR tx lx ty ly n x y d tx' lx' ty' ly' n' → rz_end ce_X4_insert [.ref 17, .long x, .long y, .long d] (wSh a b c ex ey tx lx ty ly (nI n)) none (wSh a b c ex ey tx' lx' ty' ly' (nI n')) := by
    intro tx' lx' ty' ly' n' hr
    refine ⟨rfl, fun z => (by cases z), ?_⟩
    intro m e hm
    have e : n = m := nI_inj (by omega) (by omega) e
    subst e
    exact ⟨tx', lx', ty', ly', n', hr, rfl⟩
  have ord : ∀ (k : Nat) (r : Int32) (tx1 lx1 ty1 ly1 : Nat → Int64), k < 6 → ce_X4_order.2.2.2.2.2 [.ref 17, .int (nI k), .long x, .long y, .long d] (wSh a b c ex ey tx1 lx1 ty1 ly1 (nI n)) (some (.int r)) (wSh a b c ex ey tx1 lx1 ty1 ly1 (nI n)) → r = orF tx1 lx1 ty1 ly1 k x y d := fun k r tx1 lx1 ty1 ly1 hk hr => hr k rfl hk
  refine ⟨Nat.le_of_ble_eq_true rfl, [
    (3, [0, 1, 3, 5, 7], fun z lv w' => ∃ t : Nat, t ≤ n ∧ (∀ k, k < t → orF tx lx ty ly k x y d < 0) ∧ lv = [(0, .ref 17), (1, .long x), (3, .long y), (5, .long d), (7, .int (nI t))] ∧ w' = wSh a b c ex ey tx lx ty ly (nI n) ∧ z = 100 + (n - t)),
    (31, [0, 1, 3, 5, 7], fun z lv w' => ∃ t : Nat, t ≤ n ∧ (∀ k, k < t → orF tx lx ty ly k x y d < 0) ∧ (t < n → ¬ orF tx lx ty ly t x y d < 0) ∧ lv = [(0, .ref 17), (1, .long x), (3, .long y), (5, .long d), (7, .int (nI t))] ∧ w' = wSh a b c ex ey tx lx ty ly (nI n) ∧ z = 50),
    (81, [0, 1, 3, 5, 7, 9], fun z lv w' => ∃ t i : Nat, t ≤ i ∧ i ≤ n ∧ (∀ k, k < t → orF tx lx ty ly k x y d < 0) ∧ (t < n → ¬ orF tx lx ty ly t x y d < 0) ∧ ¬ (t < n ∧ orF tx lx ty ly t x y d = 0) ∧ lv = [(0, .ref 17), (1, .long x), (3, .long y), (5, .long d), (7, .int (nI t)), (9, .int (nI i))] ∧ w' = wSh a b c ex ey (shA tx n i) (shA lx n i) (shA ty n i) (shA ly n i) (nI n) ∧ z = i - t)], 150, 200, ?_, ?_⟩
  · intro y1 hq z lv w' hj
    rcases List.mem_cons.mp hq with rfl | hq
    · obtain ⟨t, ht, hall, rfl, rfl, rfl⟩ := hj
      conv => whnf
      refine ⟨fun k => ?_, fun k => ?_⟩
      · have e : t = n := by
          have := (nI_leI (by omega) (by omega)).mp k
          omega
        subst e
        conv => whnf
        refine ⟨50, by omega, t, ht, hall, fun z => absurd z (by omega), rfl, rfl, rfl⟩
      · have ht2 : t < n := by
          rcases Nat.lt_or_ge t n with z | z
          · exact z
          · exact absurd (nI_le z (by omega)) k
        conv => whnf
        refine ⟨⟨a, b, c, ex, ey, tx, lx, ty, ly, nI n, t, x, y, d, rfl, rfl, by omega⟩, ?_⟩
        intro r hr
        obtain rfl := ord t r tx lx ty ly (by omega) hr
        conv => whnf
        refine ⟨fun k2 => ?_, fun k2 => ?_⟩
        · conv => whnf
          refine ⟨50, by omega, t, ht, hall, fun _ => (i32_not_lt _ _).mpr k2, rfl, rfl, rfl⟩
        · conv => whnf
          rintro _ rfl
          conv => whnf
          refine ⟨100 + (n - (t + 1)), by omega, t + 1, by omega, lt_s hall ((i32_not_le _ _).mp k2), ?_, rfl, rfl⟩
          show [_, _, _, _, (7, Value.int (nI t + 1))] = _
          rw [nI_1]
    rcases List.mem_cons.mp hq with rfl | hq
    · obtain ⟨t, ht, hall, hno, rfl, rfl, rfl⟩ := hj
      have go : ∀ m, ¬ (t < n ∧ orF tx lx ty ly t x y d = 0) → n - t < m → ∃ z, z < m ∧ ∃ t' i : Nat, t' ≤ i ∧ i ≤ n ∧ (∀ k, k < t' → orF tx lx ty ly k x y d < 0) ∧ (t' < n → ¬ orF tx lx ty ly t' x y d < 0) ∧ ¬ (t' < n ∧ orF tx lx ty ly t' x y d = 0) ∧ [(0, Value.ref 17), (1, .long x), (3, .long y), (5, .long d), (7, .int (nI t)), (9, .int (nI n))] = [(0, .ref 17), (1, .long x), (3, .long y), (5, .long d), (7, .int (nI t')), (9, .int (nI i))] ∧ wSh a b c ex ey tx lx ty ly (nI n) = wSh a b c ex ey (shA tx n i) (shA lx n i) (shA ty n i) (shA ly n i) (nI n) ∧ z = i - t' := fun m h hm => ⟨n - t, hm, t, n, ht, Nat.le_refl n, hall, hno, h, rfl, by rw [shA_n, shA_n, shA_n, shA_n], rfl⟩
      have h6 : nI n < nI 6 := nI_lt hn (by omega)
      conv => whnf
      refine ⟨fun k => ?_, fun k => ?_⟩
      · have k := (nI_leI (by omega) (by omega)).mp k
        conv => whnf
        rintro _ rfl
        conv => whnf
        refine ⟨fun k2 => ?_, fun k2 => ?_⟩
        · conv => whnf
          refine ⟨fun k3 => ?_, fun k3 => ?_⟩
          · conv => whnf
            rintro _ rfl
            conv => whnf
            exact go _ (fun z => absurd z.1 (by omega)) (by omega)
          · exact absurd h6 k3
        · exact absurd rfl k2
      · have ht2 : t < n := by
          rcases Nat.lt_or_ge t n with z | z
          · exact z
          · exact absurd (nI_le z (by omega)) k
        conv => whnf
        refine ⟨⟨a, b, c, ex, ey, tx, lx, ty, ly, nI n, t, x, y, d, rfl, rfl, by omega⟩, ?_⟩
        intro r hr
        obtain rfl := ord t r tx lx ty ly (by omega) hr
        conv => whnf
        refine ⟨fun k2 => ?_, fun k2 => ?_⟩
        · conv => whnf
          rintro _ rfl
          conv => whnf
          refine ⟨fun k3 => ?_, fun k3 => ?_⟩
          · exact absurd k3 (by decide)
          · exact fin tx lx ty ly n ⟨t, ht, hall, hno, if_yes ⟨ht2, k2⟩ ⟨rfl, rfl, rfl, rfl, rfl⟩⟩
        · conv => whnf
          rintro _ rfl
          conv => whnf
          refine ⟨fun k3 => ?_, fun k3 => ?_⟩
          · conv => whnf
            refine ⟨fun k4 => ?_, fun k4 => ?_⟩
            · conv => whnf
              rintro _ rfl
              conv => whnf
              exact go _ (fun z => k2 z.2) (by omega)
            · exact absurd h6 k4
          · exact absurd rfl k3
    rcases List.mem_cons.mp hq with rfl | hq
    · obtain ⟨t, i, hti, hin, hall, hno, hne, rfl, rfl, rfl⟩ := hj
      have hvt : vp_in (nI t) 6 := vp_in_nI (by omega) (by omega)
      have hct : (nI t).toNatClampNeg = t := nI_clamp (by omega)
      conv => whnf
      refine ⟨fun k => ?_, fun k => ?_⟩
      · have k := (nI_leI (by omega) (by omega)).mp k
        have e : i = t := by omega
        subst e
        conv => whnf
        refine ⟨⟨_, _, rfl, rfl, trivial⟩, ?_⟩
        intro r1 hr1
        obtain rfl : r1 = g1F x d := hr1
        conv => whnf
        rintro _ rfl
        conv => whnf
        refine ⟨⟨_, _, rfl, rfl, trivial⟩, ?_⟩
        intro r2 hr2
        obtain rfl : r2 = g1F y d := hr2
        conv => whnf
        rintro _ rfl
        conv => whnf
        refine ⟨⟨_, _, rfl, rfl, trivial⟩, ?_⟩
        intro v1 hv1
        obtain rfl : v1 = ovr x (g1F x d) := hv1
        conv => whnf
        refine ⟨hvt, ?_⟩
        conv => whnf
        refine ⟨⟨_, _, rfl, rfl, trivial⟩, ?_⟩
        intro v2 hv2
        obtain rfl : v2 = ovr d (g1F x d) := hv2
        conv => whnf
        refine ⟨hvt, ?_⟩
        conv => whnf
        refine ⟨⟨_, _, rfl, rfl, trivial⟩, ?_⟩
        intro v3 hv3
        obtain rfl : v3 = ovr y (g1F y d) := hv3
        conv => whnf
        refine ⟨hvt, ?_⟩
        conv => whnf
        refine ⟨⟨_, _, rfl, rfl, trivial⟩, ?_⟩
        intro v4 hv4
        obtain rfl : v4 = ovr d (g1F y d) := hv4
        conv => whnf
        refine ⟨hvt, ?_⟩
        conv => whnf
        have res := fin _ _ _ _ _ ⟨i, by omega, hall, hno, if_no hne ⟨rfl, rfl, rfl, rfl, rfl⟩⟩
        rw [← shA_ins, ← shA_ins, ← shA_ins, ← shA_ins, ← nI_1] at res
        have hw : wSh a b c ex ey (vp_updL (shA tx n i) (nI i).toNatClampNeg (ovr x (g1F x d))) (vp_updL (shA lx n i) (nI i).toNatClampNeg (ovr d (g1F x d))) (vp_updL (shA ty n i) (nI i).toNatClampNeg (ovr y (g1F y d))) (vp_updL (shA ly n i) (nI i).toNatClampNeg (ovr d (g1F y d))) (nI n + 1) = wSh a b c ex ey (vp_updL (shA tx n i) i (ovr x (g1F x d))) (vp_updL (shA lx n i) i (ovr d (g1F x d))) (vp_updL (shA ty n i) i (ovr y (g1F y d))) (vp_updL (shA ly n i) i (ovr d (g1F y d))) (nI n + 1) := by rw [hct]
        rw [← hw] at res
        exact res
      · have hlt : t < i := by
          rcases Nat.lt_or_ge t i with z | z
          · exact z
          · exact absurd (nI_le z (by omega)) k
        obtain ⟨q, rfl⟩ : ∃ q, i = q + 1 := ⟨i - 1, by omega⟩
        have hp : nI (q + 1) - 1 = nI q := nI_pred q
        have hv1 : vp_in (nI (q + 1)) 6 := vp_in_nI (by omega) (by omega)
        have hv0 : vp_in (nI (q + 1) - 1) 6 := by rw [hp]; exact vp_in_nI (by omega) (by omega)
        have hc1 : (nI (q + 1)).toNatClampNeg = q + 1 := nI_clamp (by omega)
        have hc0 : (nI (q + 1) - 1).toNatClampNeg = q := by rw [hp]; exact nI_clamp (by omega)
        conv => whnf
        refine ⟨hv0, ?_⟩
        conv => whnf
        refine ⟨hv1, ?_⟩
        conv => whnf
        refine ⟨hv0, ?_⟩
        conv => whnf
        refine ⟨hv1, ?_⟩
        conv => whnf
        refine ⟨hv0, ?_⟩
        conv => whnf
        refine ⟨hv1, ?_⟩
        conv => whnf
        refine ⟨hv0, ?_⟩
        conv => whnf
        refine ⟨hv1, ?_⟩
        conv => whnf
        rintro _ rfl
        conv => whnf
        refine ⟨q - t, by omega, t, q, by omega, by omega, hall, hno, hne, ?_, ?_, rfl⟩
        · show [_, _, _, _, _, (9, Value.int (nI (q + 1) + (-1)))] = _
          rw [pk_m1]
        · have step : ∀ f : Nat → Int64, vp_updL (shA f n (q + 1)) (nI (q + 1)).toNatClampNeg (shA f n (q + 1) (nI (q + 1) - 1).toNatClampNeg) = shA f n q := fun f => by rw [hc1, hc0]; exact shA_s f (by omega)
          show wSh a b c ex ey (vp_updL (shA tx n (q + 1)) (nI (q + 1)).toNatClampNeg (shA tx n (q + 1) (nI (q + 1) - 1).toNatClampNeg)) (vp_updL (shA lx n (q + 1)) (nI (q + 1)).toNatClampNeg (shA lx n (q + 1) (nI (q + 1) - 1).toNatClampNeg)) (vp_updL (shA ty n (q + 1)) (nI (q + 1)).toNatClampNeg (shA ty n (q + 1) (nI (q + 1) - 1).toNatClampNeg)) (vp_updL (shA ly n (q + 1)) (nI (q + 1)).toNatClampNeg (shA ly n (q + 1) (nI (q + 1) - 1).toNatClampNeg)) (nI n) = _
          rw [step, step, step, step]
    · exact absurd hq List.not_mem_nil
  · conv => whnf
    rintro _ rfl
    conv => whnf
    refine ⟨100 + (n - 0), by omega, 0, by omega, lt_0, rfl, rfl, rfl⟩
theorem rv_X4_insert : rz_Rv yX4_insert.cls ce_X4_insert := fun av w h => by
  obtain ⟨_, _, _, _, _, _, _, _, _, _, _, _, _, rfl, rfl, _⟩ := h
  exact ⟨_, _, _, _, _, _, rfl, rfl, rfl⟩
theorem cn_X4_insert (l : Launch) : rz_Con l yX4_insert cX4_insert 13 none 2 0 0 ce_X4_insert := rz_con (by decide +kernel) fo_X4 (by
  intro q hq
  rcases List.mem_cons.mp hq with rfl | hq
  · exact rz_callS (cn_X4_commonDivisor l) (by decide +kernel) ⟨Nat.le_of_ble_eq_true rfl, Nat.le_of_ble_eq_true rfl⟩ m_X4_commonDivisor t_X4_commonDivisor n_X4_59
  rcases List.mem_cons.mp hq with rfl | hq
  · exact rz_callS (cn_X4_over l) (by decide +kernel) ⟨Nat.le_of_ble_eq_true rfl, Nat.le_of_ble_eq_true rfl⟩ m_X4_over t_X4_over n_X4_63
  exact absurd hq List.not_mem_nil) (by
  intro q hq
  rcases List.mem_cons.mp hq with rfl | hq
  · exact rz_callV (cn_X4_order l) (by decide +kernel) ⟨Nat.le_of_ble_eq_true rfl, Nat.le_of_ble_eq_true rfl⟩ m_X4_order rfl i_X4_order v_X4_order rv_X4_order n_X4_55
  exact absurd hq List.not_mem_nil) r_X4_insert vc_X4_insert
/-- two lines cross: where, over a number above 0 -/
abbrev crD (a b : Nat → Int64) (i j : Nat) : Int64 := a i * b j - a j * b i
abbrev crX (b c : Nat → Int64) (i j : Nat) : Int64 := c i * b j - c j * b i
abbrev crY (a c : Nat → Int64) (i j : Nat) : Int64 := a i * c j - a j * c i
def sgn (d v : Int64) : Int64 := if d < 0 then -v else v
def tcR (a b c : Nat → Int64) (i j : Nat) (tx lx ty ly : Nat → Int64) (n : Nat) (tx' lx' ty' ly' : Nat → Int64) (n' : Nat) : Prop :=
  if crD a b i j = 0 ∨ ¬ inA a b c (sgn (crD a b i j) (crX b c i j)) (sgn (crD a b i j) (crY a c i j)) (sgn (crD a b i j) (crD a b i j)) then tx' = tx ∧ lx' = lx ∧ ty' = ty ∧ ly' = ly ∧ n' = n else insR tx lx ty ly n (sgn (crD a b i j) (crX b c i j)) (sgn (crD a b i j) (crY a c i j)) (sgn (crD a b i j) (crD a b i j)) tx' lx' ty' ly' n'
def ce_X4_tryCrossing : rz_K := (3, kSh, 2, false, fun av w => ∃ (a b c ex ey tx lx ty ly : Nat → Int64) (n i j : Nat), av = [.ref 17, .int (nI i), .int (nI j)] ∧ w = wSh a b c ex ey tx lx ty ly (nI n) ∧ n < 6 ∧ i < 4 ∧ j < 4, fun av w _ w' => ∀ n i j, rF w 17 9 = nI n → n < 6 → rA av 1 = nI i → i < 4 → rA av 2 = nI j → j < 4 → ∃ tx' lx' ty' ly' n', tcR (rJ w 18) (rJ w 19) (rJ w 20) i j (rJ w 23) (rJ w 24) (rJ w 25) (rJ w 26) n tx' lx' ty' ly' n' ∧ w' = wSh (rJ w 18) (rJ w 19) (rJ w 20) (rJ w 21) (rJ w 22) tx' lx' ty' ly' (nI n'))
def cl_X4_tryCrossing : List (Nat × rz_K) := []
def cv_X4_tryCrossing : List (Nat × rz_K) := [(47, ce_X4_isInside), (51, ce_X4_insert)]
theorem vc_X4_tryCrossing : rz_VC k_X4_tryCrossing fl_X4 cl_X4_tryCrossing cv_X4_tryCrossing s_X4_tryCrossing false 9 ce_X4_tryCrossing := by
  intro av w hlen hk hpre
  obtain ⟨a, b, c, ex, ey, tx, lx, ty, ly, n, i, j, rfl, rfl, hn, hi, hj⟩ := hpre
  have fin : ∀ tx' lx' ty' ly' n', tcR a b c i j tx lx ty ly n tx' lx' ty' ly' n' → rz_end ce_X4_tryCrossing [.ref 17, .int (nI i), .int (nI j)] (wSh a b c ex ey tx lx ty ly (nI n)) none (wSh a b c ex ey tx' lx' ty' ly' (nI n')) := by
    intro tx' lx' ty' ly' n' hr
    refine ⟨rfl, fun z => (by cases z), ?_⟩
    intro m i' j' e hm e2 hi' e3 hj'
    have e : n = m := nI_inj (by omega) (by omega) e
    have e2 : i = i' := nI_inj (by omega) (by omega) e2
    have e3 : j = j' := nI_inj (by omega) (by omega) e3
    subst e e2 e3
    exact ⟨tx', lx', ty', ly', n', hr, rfl⟩
  have hvi := nI4 i hi
  have hvj := nI4 j hj
  have hci : (nI i).toNatClampNeg = i := nI_clamp (by omega)
  have hcj : (nI j).toNatClampNeg = j := nI_clamp (by omega)
  refine ⟨Nat.le_of_ble_eq_true rfl, [(112, [0, 1, 2, 3, 5, 7], fun z lv w' => ∃ xx yy dd : Int64, xx = sgn (crD a b i j) (crX b c i j) ∧ yy = sgn (crD a b i j) (crY a c i j) ∧ dd = sgn (crD a b i j) (crD a b i j) ∧ ¬ crD a b i j = 0 ∧ lv = [(0, .ref 17), (1, .int (nI i)), (2, .int (nI j)), (3, .long dd), (5, .long xx), (7, .long yy)] ∧ w' = wSh a b c ex ey tx lx ty ly (nI n) ∧ z = 0)], 130, 1, ?_, ?_⟩
  · intro q hq z lv w' hJ
    rcases List.mem_cons.mp hq with rfl | hq
    rotate_left
    · exact absurd hq List.not_mem_nil
    obtain ⟨xx, yy, dd, hxx, hyy, hdd, hne, rfl, rfl, rfl⟩ := hJ
    conv => whnf
    refine ⟨⟨a, b, c, ex, ey, tx, lx, ty, ly, nI n, xx, yy, dd, rfl, rfl, trivial⟩, ?_⟩
    intro r hr
    obtain rfl : r = bI (inA a b c xx yy dd) := hr
    conv => whnf
    refine ⟨fun h => ?_, fun h => ?_⟩
    · refine fin tx lx ty ly n ?_
      rw [hxx, hyy, hdd] at h
      exact if_yes (Or.inr (bI_0 h)) ⟨rfl, rfl, rfl, rfl, rfl⟩
    · conv => whnf
      refine ⟨⟨a, b, c, ex, ey, tx, lx, ty, ly, n, xx, yy, dd, rfl, rfl, hn⟩, ?_⟩
      intro wc hwc
      obtain ⟨tx', lx', ty', ly', n', hins, rfl⟩ := hwc n rfl hn
      conv => whnf
      refine fin tx' lx' ty' ly' n' ?_
      rw [hxx, hyy, hdd] at h
      have hins : insR tx lx ty ly n xx yy dd tx' lx' ty' ly' n' := hins
      rw [hxx, hyy, hdd] at hins
      exact if_no (fun z => z.elim hne (fun y => y (bI_n h))) hins
  · conv => whnf
    refine ⟨hvi, ?_⟩
    conv => whnf
    refine ⟨hvj, ?_⟩
    conv => whnf
    refine ⟨hvj, ?_⟩
    conv => whnf
    refine ⟨hvi, ?_⟩
    conv => whnf
    intro d ed
    have ed : d = crD a b i j := by
      rw [ed]
      show a (nI i).toNatClampNeg * b (nI j).toNatClampNeg - a (nI j).toNatClampNeg * b (nI i).toNatClampNeg = _
      rw [hci, hcj]
    conv => whnf
    refine ⟨fun h => ?_, fun h => ?_⟩
    · have h : d = 0 := (lg_eq0 d 0).mp h
      refine fin tx lx ty ly n ?_
      exact if_yes (Or.inl (by rw [← ed]; exact h)) ⟨rfl, rfl, rfl, rfl, rfl⟩
    · have h : ¬ d = 0 := fun z => h ((lg_eq0 d 0).mpr z)
      have h' : ¬ crD a b i j = 0 := by rw [← ed]; exact h
      conv => whnf
      refine ⟨hvi, ?_⟩
      conv => whnf
      refine ⟨hvj, ?_⟩
      conv => whnf
      refine ⟨hvj, ?_⟩
      conv => whnf
      refine ⟨hvi, ?_⟩
      conv => whnf
      intro xr exr
      have hx1 : xr = crX b c i j := by
        rw [exr]
        show c (nI i).toNatClampNeg * b (nI j).toNatClampNeg - c (nI j).toNatClampNeg * b (nI i).toNatClampNeg = _
        rw [hci, hcj]
      conv => whnf
      refine ⟨hvi, ?_⟩
      conv => whnf
      refine ⟨hvj, ?_⟩
      conv => whnf
      refine ⟨hvj, ?_⟩
      conv => whnf
      refine ⟨hvi, ?_⟩
      conv => whnf
      intro yr eyr
      have hy1 : yr = crY a c i j := by
        rw [eyr]
        show a (nI i).toNatClampNeg * c (nI j).toNatClampNeg - a (nI j).toNatClampNeg * c (nI i).toNatClampNeg = _
        rw [hci, hcj]
      conv => whnf
      refine ⟨fun h2 => ?_, fun h2 => ?_⟩
      · have h2 : ¬ d < 0 := (i64_not_lt _ _).mpr ((lg_ge0 d 0).mp h2)
        conv => whnf
        refine ⟨0, by omega, xr, yr, d, (by rw [sgn, ← ed, if_neg h2, hx1]), (by rw [sgn, ← ed, if_neg h2, hy1]), (by rw [sgn, ← ed, if_neg h2]), h', rfl, rfl, rfl⟩
      · have h2 : d < 0 := (i64_not_le _ _).mp (fun z => h2 ((lg_ge0 d 0).mpr z))
        conv => whnf
        intro d1 ed1
        conv => whnf
        intro x1 ex1
        conv => whnf
        intro y1 ey1
        conv => whnf
        refine ⟨0, by omega, x1, y1, d1, (by rw [sgn, ← ed, if_pos h2, ex1, hx1]), (by rw [sgn, ← ed, if_pos h2, ey1, hy1]), (by rw [sgn, ← ed, if_pos h2, ed1]), h', rfl, rfl, rfl⟩
theorem rv_X4_tryCrossing : rz_Rv yX4_tryCrossing.cls ce_X4_tryCrossing := fun av w h => by
  obtain ⟨_, _, _, _, _, _, _, _, _, _, _, _, rfl, rfl, _⟩ := h
  exact ⟨_, _, _, _, _, _, rfl, rfl, rfl⟩
theorem cn_X4_tryCrossing (l : Launch) : rz_Con l yX4_tryCrossing cX4_tryCrossing 9 none 3 0 0 ce_X4_tryCrossing := rz_con (by decide +kernel) fo_X4 (fun _ h => absurd h List.not_mem_nil) (by
  intro q hq
  rcases List.mem_cons.mp hq with rfl | hq
  · exact rz_callV (cn_X4_isInside l) (by decide +kernel) ⟨Nat.le_of_ble_eq_true rfl, Nat.le_of_ble_eq_true rfl⟩ m_X4_isInside rfl i_X4_isInside v_X4_isInside rv_X4_isInside n_X4_47
  rcases List.mem_cons.mp hq with rfl | hq
  · exact rz_callV (cn_X4_insert l) (by decide +kernel) ⟨Nat.le_of_ble_eq_true rfl, Nat.le_of_ble_eq_true rfl⟩ m_X4_insert rfl i_X4_insert v_X4_insert rv_X4_insert n_X4_51
  exact absurd hq List.not_mem_nil) r_X4_tryCrossing vc_X4_tryCrossing
