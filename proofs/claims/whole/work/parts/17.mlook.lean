/-! The reference: post, reach, weather, sees, manned, open. -/
abbrev wMk (o : rz_C) (px py ph rx ry vi : Nat → Int32) : rz_W := [(50, o), (51, ri 6 px), (52, ri 6 py), (53, ri 6 ph), (54, ri 8 rx), (55, ri 8 ry), (56, ri 334 vi)]
abbrev kMk : List Nat := [50, 51, 52, 53, 54, 55, 56]
theorem sq_sub (a b : Int32) : (a - b) * (a - b) = (b - a) * (b - a) := by
  rw [← Int32.neg_sub (a := b) (b := a), Int32.neg_mul_neg]
def ce_X7_seesAt : rz_K := (5, kMk, 0, true, fun av w => ∃ (px py ph rx ry vi : Nat → Int32) (th po re nw si pl tr bo pn ca sp co p x y h : Int32), av = [.ref 50, .int p, .int x, .int y, .int h] ∧ w = wMk (oMo th po re nw si pl tr bo pn ca sp co) px py ph rx ry vi ∧ vp_in p 6 ∧ vp_in h 334, fun av w o _ => rR o = bI (sn (rI w 51) (rI w 52) (rI w 53) (rI w 56) (rA av 1).toNatClampNeg (rA av 2) (rA av 3) (rA av 4).toNatClampNeg))
def cl_X7_seesAt : List (Nat × rz_K) := []
def cv_X7_seesAt : List (Nat × rz_K) := []
theorem vc_X7_seesAt : rz_VC k_X7_seesAt fl_X7 cl_X7_seesAt cv_X7_seesAt s_X7_seesAt true 6 ce_X7_seesAt := by
  intro av w hlen hk hpre
  obtain ⟨px, py, ph, rx, ry, vi, th, po, re, nw, si, pl, tr, bo, pn, ca, sp, co, p, x, y, h, rfl, rfl, hp, hh⟩ := hpre
  refine ⟨Nat.le_of_ble_eq_true rfl, [], 90, 0, fun q h => absurd h List.not_mem_nil, ?_⟩
  conv => whnf
  refine ⟨hp, ?_⟩
  conv => whnf
  refine ⟨hp, ?_⟩
  conv => whnf
  refine ⟨hp, ?_⟩
  conv => whnf
  refine ⟨hp, ?_⟩
  conv => whnf
  intro d ed
  have ed : d = (px p.toNatClampNeg - x) * (px p.toNatClampNeg - x) + (py p.toNatClampNeg - y) * (py p.toNatClampNeg - y) := by
    rw [ed]
    show (x - px p.toNatClampNeg) * (x - px p.toNatClampNeg) + (y - py p.toNatClampNeg) * (y - py p.toNatClampNeg) = _
    rw [sq_sub x, sq_sub y]
  subst ed
  conv => whnf
  refine ⟨hh, ?_⟩
  conv => whnf
  refine ⟨hh, ?_⟩
  conv => whnf
  refine ⟨fun h1 => ?_, fun h1 => ?_⟩
  · exact ⟨Or.inl rfl, ⟨_, rfl⟩, fun _ => rfl, bI_f (fun z => absurd z.1 ((i32_not_le _ _).mpr h1))⟩
  · conv => whnf
    refine ⟨hp, ?_⟩
    conv => whnf
    refine ⟨fun h2 => ?_, fun h2 => ?_⟩
    · exact ⟨Or.inl rfl, ⟨_, rfl⟩, fun _ => rfl, bI_f (fun z => absurd z.2 ((i32_not_le _ _).mpr h2))⟩
    · exact ⟨Or.inr rfl, ⟨_, rfl⟩, fun _ => rfl, bI_t ⟨(i32_not_lt _ _).mp h1, (i32_not_lt _ _).mp h2⟩⟩
theorem rv_X7_seesAt : rz_Rv yX7_seesAt.cls ce_X7_seesAt := fun av w h => by
  obtain ⟨_, _, _, _, _, _, _, _, _, _, _, _, _, _, _, _, _, _, _, _, _, _, rfl, rfl, _⟩ := h
  exact ⟨_, _, _, _, _, _, rfl, rfl, rfl⟩
theorem cn_X7_seesAt (l : Launch) : rz_Con l yX7_seesAt cX7_seesAt 6 (some .boolean) 0 0 0 ce_X7_seesAt := rz_con (by decide +kernel) fo_X7 (fun _ h => absurd h List.not_mem_nil) (fun _ h => absurd h List.not_mem_nil) r_X7_seesAt vc_X7_seesAt
/-- the reaches that post p sees, laid on what there was -/
def orRa (a : Int32) (f : Nat → Bool) : Nat → Int32
  | 0 => a
  | n + 1 => if f n then orRa a f n ||| ((1 : Int32) <<< (nI n &&& 31)) else orRa a f n
def orSa (t : Int32) (g : Nat → Nat → Bool) (m : Nat) : Nat → Int32
  | 0 => 0
  | n + 1 => if (t >>> (nI n &&& 31)) &&& 1 = 1 then orRa (orSa t g m n) (g n) m else orSa t g m n
theorem orRa_or (a : Int32) (f : Nat → Bool) : ∀ n, orRa a f n = a ||| orR f n
  | 0 => by show a = a ||| 0; rw [Int32.or_zero]
  | n + 1 => by
    unfold orRa orR
    rw [orRa_or a f n]
    cases f n
    · rfl
    · show (a ||| orR f n) ||| _ = a ||| (orR f n ||| _)
      rw [Int32.or_assoc]
theorem orSa_eq (t : Int32) (g : Nat → Nat → Bool) (m : Nat) : ∀ n, orSa t g m n = orS t (fun p => orR (g p) m) n
  | 0 => rfl
  | n + 1 => by
    unfold orSa orS
    rw [orSa_eq t g m n]
    by_cases h : (t >>> (nI n &&& 31)) &&& 1 = 1
    · rw [if_pos h, if_pos h, orRa_or]
    · rw [if_neg h, if_neg h]
def ce_X7_seenBy : rz_K := (3, kMk, 0, true, fun av w => ∃ (px py ph rx ry vi : Nat → Int32) (th nw si pl tr bo pn ca sp co t h : Int32) (n m : Nat), av = [.ref 50, .int t, .int h] ∧ w = wMk (oMo th (nI n) (nI m) nw si pl tr bo pn ca sp co) px py ph rx ry vi ∧ vp_in h 334 ∧ n ≤ 6 ∧ m ≤ 8, fun av w o _ => ∀ n m : Nat, rF w 50 7 = nI n → n ≤ 6 → rF w 50 8 = nI m → m ≤ 8 → rR o = orS (rA av 1) (sb (rI w 51) (rI w 52) (rI w 53) (rI w 56) (rI w 54) (rI w 55) m (rA av 2).toNatClampNeg) n)
def cl_X7_seenBy : List (Nat × rz_K) := []
def cv_X7_seenBy : List (Nat × rz_K) := [(101, ce_X7_seesAt)]
theorem vc_X7_seenBy : rz_VC k_X7_seenBy fl_X7 cl_X7_seenBy cv_X7_seenBy s_X7_seenBy false 6 ce_X7_seenBy := by
  intro av w hlen hk hpre
  obtain ⟨px, py, ph, rx, ry, vi, th, nw, si, pl, tr, bo, pn, ca, sp, co, t, h, n, m, rfl, rfl, hh, hn, hm⟩ := hpre
  generalize hg : (fun p r => decide (sn px py ph vi p (rx r) (ry r) h.toNatClampNeg)) = g
  refine ⟨Nat.le_of_ble_eq_true rfl, [
    (5, [0, 1, 2, 3, 4], fun k lv w' => ∃ i : Nat, i ≤ n ∧ lv = [(0, .ref 50), (1, .int t), (2, .int h), (3, .int (orSa t g m i)), (4, .int (nI i))] ∧ w' = wMk (oMo th (nI n) (nI m) nw si pl tr bo pn ca sp co) px py ph rx ry vi ∧ k = (n - i) * 20 + 10),
    (17, [0, 1, 2, 3, 4, 5], fun k lv w' => ∃ i r : Nat, i < n ∧ r ≤ m ∧ lv = [(0, .ref 50), (1, .int t), (2, .int h), (3, .int (if (t >>> (nI i &&& 31)) &&& 1 = 1 then orRa (orSa t g m i) (g i) r else orSa t g m i)), (4, .int (nI i)), (5, .int (nI r))] ∧ w' = wMk (oMo th (nI n) (nI m) nw si pl tr bo pn ca sp co) px py ph rx ry vi ∧ k = (n - i) * 20 + 9 - r)], 60, n * 20 + 11, ?_, ?_⟩
  · intro q hq k lv w' hj
    rcases List.mem_cons.mp hq with rfl | hq
    · obtain ⟨i, hi, rfl, rfl, rfl⟩ := hj
      conv => whnf
      refine ⟨fun c => ?_, fun c => ?_⟩
      · have e : i = n := by
          have := (nI_leI (by omega) (by omega)).mp c
          omega
        subst e
        refine ⟨⟨_, rfl⟩, fun _ => rfl, ?_⟩
        intro n' m' e1 hn' e2 hm'
        have e1 : i = n' := nI_inj (by omega) (by omega) e1
        have e2 : m = m' := nI_inj (by omega) (by omega) e2
        subst e1 e2
        show orSa t g m i = _
        rw [orSa_eq, ← hg]
        rfl
      · have hi2 : i < n := by
          rcases Nat.lt_or_ge i n with z | z
          · exact z
          · exact absurd (nI_le z (by omega)) c
        conv => whnf
        rintro _ rfl
        conv => whnf
        refine ⟨(n - i) * 20 + 9, by omega, i, 0, hi2, by omega, ?_, rfl, rfl⟩
        show [_, _, _, (3, Value.int (orSa t g m i)), _, (5, Value.int 0)] = [_, _, _, (3, Value.int (if (t >>> (nI i &&& 31)) &&& 1 = 1 then orSa t g m i else orSa t g m i)), _, (5, Value.int (nI 0))]
        rw [ite_self]
        rfl
    rcases List.mem_cons.mp hq with rfl | hq
    · obtain ⟨i, r, hi, hr, rfl, rfl, rfl⟩ := hj
      conv => whnf
      refine ⟨fun c => ?_, fun c => ?_⟩
      · have e : r = m := by
          have := (nI_leI (by omega) (by omega)).mp c
          omega
        subst e
        conv => whnf
        rintro _ rfl
        conv => whnf
        refine ⟨(n - (i + 1)) * 20 + 10, by omega, i + 1, by omega, ?_, rfl, rfl⟩
        show [_, _, _, (3, Value.int (if (t >>> (nI i &&& 31)) &&& 1 = 1 then orRa (orSa t g r i) (g i) r else orSa t g r i)), (4, Value.int (nI i + 1))] = [_, _, _, (3, Value.int (orSa t g r (i + 1))), (4, Value.int (nI (i + 1)))]
        rw [nI_1]
        rfl
      · have hr2 : r < m := by
          rcases Nat.lt_or_ge r m with z | z
          · exact z
          · exact absurd (nI_le z (by omega)) c
        have hv : vp_in (nI r) 8 := vp_in_nI (by omega) (by omega)
        conv => whnf
        refine ⟨fun c2 => ?_, fun c2 => ?_⟩
        · conv => whnf
          refine ⟨hv, ?_⟩
          conv => whnf
          refine ⟨hv, ?_⟩
          conv => whnf
          refine ⟨⟨px, py, ph, rx, ry, vi, th, nI n, nI m, nw, si, pl, tr, bo, pn, ca, sp, co, nI i, _, _, h, rfl, rfl, vp_in_nI (by omega) (by omega), hh⟩, ?_⟩
          intro b hb
          have hb : b = bI (sn px py ph vi (nI i).toNatClampNeg (rx (nI r).toNatClampNeg) (ry (nI r).toNatClampNeg) h.toNatClampNeg) := hb
          rw [nI_clamp (by omega), nI_clamp (by omega)] at hb
          subst hb
          conv => whnf
          refine ⟨fun c3 => ?_, fun c3 => ?_⟩
          · conv => whnf
            rintro _ rfl
            conv => whnf
            refine ⟨(n - i) * 20 + 9 - (r + 1), by omega, i, r + 1, hi, by omega, ?_, rfl, rfl⟩
            show [_, _, _, (3, Value.int (if (t >>> (nI i &&& 31)) &&& 1 = 1 then orRa (orSa t g m i) (g i) r else orSa t g m i)), _, (5, Value.int (nI r + 1))] = [_, _, _, (3, Value.int (if (t >>> (nI i &&& 31)) &&& 1 = 1 then orRa (orSa t g m i) (g i) (r + 1) else orSa t g m i)), _, (5, Value.int (nI (r + 1)))]
            rw [nI_1, if_pos c2, if_pos c2, orRa, if_neg (by rw [← hg]; simpa using bI_0 c3)]
          · conv => whnf
            rintro _ rfl
            conv => whnf
            rintro _ rfl
            conv => whnf
            refine ⟨(n - i) * 20 + 9 - (r + 1), by omega, i, r + 1, hi, by omega, ?_, rfl, rfl⟩
            show [_, _, _, (3, Value.int ((if (t >>> (nI i &&& 31)) &&& 1 = 1 then orRa (orSa t g m i) (g i) r else orSa t g m i) ||| _)), _, (5, Value.int (nI r + 1))] = [_, _, _, (3, Value.int (if (t >>> (nI i &&& 31)) &&& 1 = 1 then orRa (orSa t g m i) (g i) (r + 1) else orSa t g m i)), _, (5, Value.int (nI (r + 1)))]
            rw [nI_1, if_pos c2, if_pos c2, orRa, if_pos (by rw [← hg]; simpa using bI_n c3)]
        · conv => whnf
          rintro _ rfl
          conv => whnf
          refine ⟨(n - i) * 20 + 9 - (r + 1), by omega, i, r + 1, hi, by omega, ?_, rfl, rfl⟩
          show [_, _, _, (3, Value.int (if (t >>> (nI i &&& 31)) &&& 1 = 1 then orRa (orSa t g m i) (g i) r else orSa t g m i)), _, (5, Value.int (nI r + 1))] = [_, _, _, (3, Value.int (if (t >>> (nI i &&& 31)) &&& 1 = 1 then orRa (orSa t g m i) (g i) (r + 1) else orSa t g m i)), _, (5, Value.int (nI (r + 1)))]
          rw [nI_1, if_neg c2, if_neg c2]
    · exact absurd hq List.not_mem_nil
  · conv => whnf
    rintro _ rfl
    conv => whnf
    rintro _ rfl
    conv => whnf
    refine ⟨n * 20 + 10, by omega, 0, by omega, rfl, rfl, by omega⟩
theorem rv_X7_seenBy : rz_Rv yX7_seenBy.cls ce_X7_seenBy := fun av w h => by
  obtain ⟨_, _, _, _, _, _, _, _, _, _, _, _, _, _, _, _, _, _, _, _, rfl, rfl, _⟩ := h
  exact ⟨_, _, _, _, _, _, rfl, rfl, rfl⟩
theorem cn_X7_seenBy (l : Launch) : rz_Con l yX7_seenBy cX7_seenBy 6 (some .int) 1 0 0 ce_X7_seenBy := rz_con (by decide +kernel) fo_X7 (fun _ h => absurd h List.not_mem_nil) (by
  intro q hq
  rcases List.mem_cons.mp hq with rfl | hq
  · exact rz_callV (cn_X7_seesAt l) (by decide +kernel) ⟨Nat.le_of_ble_eq_true rfl, Nat.le_of_ble_eq_true rfl⟩ m_X7_seesAt rfl i_X7_seesAt v_X7_seesAt rv_X7_seesAt n_X7_101
  exact absurd hq List.not_mem_nil) r_X7_seenBy vc_X7_seenBy
def bits (t : Int32) : Nat → Int32
  | 0 => 0
  | n + 1 => bits t n + ((t >>> (nI n &&& 31)) &&& 1)
def ce_X7_bits : rz_K := (1, [], 0, true, fun av w => ∃ t : Int32, av = [.int t] ∧ w = [] ∧ True, fun av _ o _ => rR o = bits (rA av 0) 10)
theorem vc_X7_bits : rz_VC k_X7_bits fl_X7 [] [] s_X7_bits false 3 ce_X7_bits := by
  intro av w hlen hk hpre
  obtain ⟨t, rfl, rfl, -⟩ := hpre
  refine ⟨Nat.le_of_ble_eq_true rfl, [(4, [0, 1, 2], fun k lv w' => ∃ i : Nat, i ≤ 10 ∧ lv = [(0, .int t), (1, .int (bits t i)), (2, .int (nI i))] ∧ w' = [] ∧ k = 10 - i)], 60, 11, ?_, ?_⟩
  · intro q hq k lv w' hj
    rcases List.mem_cons.mp hq with rfl | hq
    · obtain ⟨i, hi, rfl, rfl, rfl⟩ := hj
      conv => whnf
      refine ⟨fun c => ?_, fun c => ?_⟩
      · have c : nI 10 ≤ nI i := c
        have e : i = 10 := by
          have := (nI_leI (by omega) (by omega)).mp c
          omega
        subst e
        exact ⟨⟨_, rfl⟩, fun _ => rfl, rfl⟩
      · have c : ¬ nI 10 ≤ nI i := c
        have hi2 : i < 10 := by
          rcases Nat.lt_or_ge i 10 with z | z
          · exact z
          · exact absurd (nI_le z (by omega)) c
        conv => whnf
        rintro _ rfl
        conv => whnf
        rintro _ rfl
        conv => whnf
        refine ⟨10 - (i + 1), by omega, i + 1, by omega, ?_, rfl, rfl⟩
        show [_, (1, Value.int (bits t i + _)), (2, Value.int (nI i + 1))] = [_, (1, Value.int (bits t (i + 1))), (2, Value.int (nI (i + 1)))]
        rw [nI_1]
        rfl
    · exact absurd hq List.not_mem_nil
  · conv => whnf
    rintro _ rfl
    conv => whnf
    rintro _ rfl
    conv => whnf
    refine ⟨10, by omega, 0, by omega, rfl, rfl, rfl⟩
theorem cn_X7_bits (l : Launch) : rz_Con l yX7_bits cX7_bits 3 (some .int) 0 0 0 ce_X7_bits := rz_con (by decide +kernel) fo_X7 (fun _ h => absurd h List.not_mem_nil) (fun _ h => absurd h List.not_mem_nil) r_X7_bits vc_X7_bits
/-- downwards, and for as few posts too -/
def bestD (ok : Nat → Bool) (b0 : Int32) : Nat → Nat → Int32
  | _, 0 => b0
  | N, k + 1 => if ok (N - (k + 1)) = true ∧ bits (nI (N - (k + 1))) 10 ≤ bits (bestD ok b0 N k) 10 then nI (N - (k + 1)) else bestD ok b0 N k
