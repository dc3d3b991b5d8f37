/-! The reference's plan: a row of five, let go again. -/
def cpN (tv : Nat → Int32) (base : Nat) (pa : Nat → Int32) : Nat → Nat → Int32
  | 0 => pa
  | i + 1 => upd (cpN tv base pa i) (base + i) (tv i)
def tl5 (a b c d e : Int32) : Nat → Int32 := upd (upd (upd (upd (upd (fun _ => 0) 0 a) 1 b) 2 c) 3 d) 4 e
theorem okS_j {j n : Nat} (hj : j < 2 ^ 30) (hn : n < 2 ^ 30) : okS (nI j) n ↔ j < n := by
  have e0 : (0 : Int32).toInt = 0 := rfl
  have e1 : (nI j).toInt = (j : Int) := nI_toInt (by omega)
  have e2 : (nI n - 1).toInt = (n : Int) - 1 := pk_sub_toInt (a := n) (b := 1) hn (by omega)
  unfold okS
  rw [Int32.le_iff_toInt_le, Int32.le_iff_toInt_le]
  omega
theorem okT_j {j n k : Nat} {im : Nat → Int32} (hj : j < 30) (hjn : j ≤ n) (hn : n ≤ 30) : okT (nI j) n k im ↔ k < 100 ∧ (j < n → im j = -1) := by
  unfold okT
  rw [okS_j (by omega) (by omega), nI_eq (by omega) (by omega), nI_clamp (by omega)]
  constructor
  · rintro ⟨h1, h2 | h2⟩
    · exact ⟨h1, fun _ => h2.2⟩
    · exact ⟨h1, fun z => absurd z h2.1⟩
  · rintro ⟨h1, h2⟩
    refine ⟨h1, ?_⟩
    rcases Nat.lt_or_ge j n with z | z
    · exact Or.inl ⟨z, h2 z⟩
    · exact Or.inr ⟨by omega, by omega, by omega⟩
abbrev mnB (n : Nat) : Int32 := if (29 : Int32) < nI n then 29 else nI n
theorem mnB_iff {b : Int32} {n : Nat} (hn : n ≤ 30) : (0 ≤ b ∧ b ≤ mnB n) ↔ ∃ j, b = nI j ∧ j ≤ n ∧ j < 30 := by
  have e0 : (0 : Int32).toInt = 0 := rfl
  have e29 : (29 : Int32).toInt = 29 := rfl
  have en : (nI n).toInt = (n : Int) := nI_toInt (by omega)
  constructor
  · rintro ⟨h1, h2⟩
    have hb : 0 ≤ b.toInt ∧ b.toInt ≤ n ∧ b.toInt < 30 := by
      rw [Int32.le_iff_toInt_le] at h1
      by_cases z : (29 : Int32) < nI n
      · rw [mnB, if_pos z, Int32.le_iff_toInt_le] at h2
        rw [Int32.lt_iff_toInt_lt] at z
        omega
      · rw [mnB, if_neg z, Int32.le_iff_toInt_le] at h2
        rw [Int32.lt_iff_toInt_lt] at z
        omega
    obtain ⟨j, h3, h4⟩ := vp_in_of (x := b) (n := 30) (vp_in_iff.mpr ⟨hb.1, hb.2.2⟩) (by omega)
    rw [h4, nI_toInt (by omega)] at hb
    exact ⟨j, h4, by omega, h3⟩
  · rintro ⟨j, rfl, h1, h2⟩
    have ej : (nI j).toInt = (j : Int) := nI_toInt (by omega)
    rw [Int32.le_iff_toInt_le]
    refine ⟨by omega, ?_⟩
    by_cases z : (29 : Int32) < nI n
    · rw [mnB, if_pos z, Int32.le_iff_toInt_le]; omega
    · rw [mnB, if_neg z, Int32.le_iff_toInt_le]; omega
def ce_X7_plan : rz_K := (5, kMb, 0, false, fun av w => ∃ (pa ci : Nat → Int32) (th po re nw si pl tr ca sp co b le du gr : Int32) (k n : Nat), av = [.ref 50, .int b, .int le, .int du, .int gr] ∧ w = wMb (oMo th po re nw si pl tr (nI n) (nI k) ca sp co) pa ci ∧ k ≤ 100 ∧ n ≤ 30, fun av w o w' => ∀ k n : Nat, rF w 50 14 = nI k → k ≤ 100 → rF w 50 13 = nI n → n ≤ 30 → if okQ (rA av 2) (rA av 3) (rA av 4) ∧ okT (rA av 1) n k (rI w 62) then rR o = rA av 1 ∧ ∃ j, rA av 1 = nI j ∧ j < 30 ∧ j ≤ n ∧ w' = rz_set (rz_set (mset (mset (mset w 0 0) 14 (nI (k + 1))) 13 (nI (if j = n then n + 1 else n))) 61 (ri 500 (cpN (tl5 (nI j) (rF w 50 9) (rA av 2) (rA av 3) (rA av 4)) (5 * k) (rI w 61) 5))) 62 (ri 30 (if j = n then upd (rI w 62) j (-1) else rI w 62)) else rR o = -1 ∧ w' = mset w 0 0)
def cl_X7_plan : List (Nat × rz_K) := [(87, ce_X7_isIn), (191, ce_J9_min_7cf53)]
def cv_X7_plan : List (Nat × rz_K) := []
set_option maxRecDepth 20000 in
theorem vc_X7_plan : rz_VCA [900] 1 5 k_X7_plan fl_X7 cl_X7_plan cv_X7_plan s_X7_plan false 7 ce_X7_plan := by
  intro av w hlen hk hpre
  obtain ⟨pa, ci, th, po, re, nw, si, pl, tr, ca, sp, co, b, le, du, gr, k, n, rfl, rfl, hk2, hn⟩ := hpre
  have no : ¬ (okQ le du gr ∧ okT b n k ci) → rz_endA [900] ce_X7_plan [.ref 50, .int b, .int le, .int du, .int gr] (wMb (oMo th po re nw si pl tr (nI n) (nI k) ca sp co) pa ci) (some (.int (-1))) (wMb (oMo 0 po re nw si pl tr (nI n) (nI k) ca sp co) pa ci) := by
    intro z1
    refine ⟨⟨0, rfl⟩, _, rfl, rfl, ⟨_, rfl⟩, fun z => (by cases z), ?_⟩
    intro k' n' e1 h1 e2 h2
    have e1 : k = k' := nI_inj (by omega) (by omega) e1
    have e2 : n = n' := nI_inj (by omega) (by omega) e2
    subst e1 e2
    exact if_no z1 ⟨rfl, rfl⟩
  refine ⟨Nat.le_of_ble_eq_true rfl, [
    (145, [0, 1, 5, 6], fun z lv w' => ∃ (j i : Nat), b = nI j ∧ j < 30 ∧ j ≤ n ∧ okQ le du gr ∧ okT b n k ci ∧ i ≤ 5 ∧ lv = [(0, .ref 50), (1, .int b), (5, .ref 900), (6, .int (nI i))] ∧ w' = [(50, oMo 0 po re nw si pl tr (nI (if j = n then n + 1 else n)) (nI k) ca sp co), (61, ri 500 (cpN (tl5 b nw le du gr) (5 * k) pa i)), (62, ri 30 (if j = n then upd ci j (-1) else ci)), (900, ri 5 (tl5 b nw le du gr))] ∧ z = 5 - i)], 150, 6, ?_, ?_⟩
  · intro y hq z lv w' hj
    rcases List.mem_cons.mp hq with rfl | hq
    · obtain ⟨j, i, hbj, hj30, hjn, hQ, hT, hi, rfl, rfl, rfl⟩ := hj
      have hk3 : k < 100 := hT.1
      conv => whnf
      refine ⟨fun c => ?_, fun c => ?_⟩
      · have c : nI 5 ≤ nI i := c
        have e : i = 5 := by
          have := (nI_leI (by omega) (by omega)).mp c
          omega
        subst e
        refine ⟨⟨1, rfl⟩, _, rfl, rfl, ⟨_, rfl⟩, fun z => (by cases z), ?_⟩
        intro k' n' e1 h1 e2 h2
        have e1 : k = k' := nI_inj (by omega) (by omega) e1
        have e2 : n = n' := nI_inj (by omega) (by omega) e2
        subst e1 e2
        refine if_yes ⟨hQ, hT⟩ ⟨rfl, j, hbj, hj30, hjn, ?_⟩
        show wMb (oMo 0 po re nw si pl tr (nI (if j = n then n + 1 else n)) (nI k + 1) ca sp co) (cpN (tl5 b nw le du gr) (5 * k) pa 5) (if j = n then upd ci j (-1) else ci) = _
        rw [nI_1, hbj]
        rfl
      · have c : ¬ nI 5 ≤ nI i := c
        have hi2 : i < 5 := by
          rcases Nat.lt_or_ge i 5 with z | z
          · exact z
          · exact absurd (nI_le z (by omega)) c
        have hcl : (nI i).toNatClampNeg = i := nI_clamp (by omega)
        have e : (5 : Int32) * nI k + nI i = nI (5 * k + i) := by
          show nI 5 * nI k + nI i = _
          rw [pk_mul, nI_add]
        have hv : vp_in ((5 : Int32) * nI k + nI i) 500 := by rw [e]; exact vp_in_nI (by omega) (by omega)
        conv => whnf
        refine ⟨vp_in_nI hi2 (by omega), ?_⟩
        conv => whnf
        refine ⟨hv, ?_⟩
        conv => whnf
        rintro _ rfl
        conv => whnf
        refine ⟨5 - (i + 1), by omega, j, i + 1, hbj, hj30, hjn, hQ, hT, by omega, ?_, ?_, rfl⟩
        · show [_, _, _, (6, Value.int (nI i + 1))] = _
          rw [nI_1]
        · show [_, (61, ri 500 (upd (cpN (tl5 b nw le du gr) (5 * k) pa i) ((5 : Int32) * nI k + nI i).toNatClampNeg (tl5 b nw le du gr (nI i).toNatClampNeg))), _, _] = _
          rw [hcl, e, nI_clamp (by omega)]
          rfl
    · exact absurd hq List.not_mem_nil
  · conv => whnf
    refine ⟨⟨_, _, rfl, rfl, trivial⟩, ?_⟩
    intro x hx
    obtain rfl : x = mnB n := hx
    conv => whnf
    refine ⟨⟨_, _, _, rfl, rfl, trivial⟩, ?_⟩
    intro r hr
    obtain rfl : r = bI (0 ≤ b ∧ b ≤ mnB n) := hr
    conv => whnf
    refine ⟨fun h0 => ?_, fun h0 => ?_⟩
    · exact no (fun z => bI_0 h0 ((mnB_iff hn).mpr (by obtain ⟨j, a1, a2, a3⟩ := okT_b z.2 hn; exact ⟨j, a1, a3, a2⟩)))
    · obtain ⟨j, rfl, hjn, hj30⟩ := (mnB_iff hn).mp (bI_n h0)
      conv => whnf
      refine ⟨⟨_, _, _, rfl, rfl, trivial⟩, ?_⟩
      intro r hr
      obtain rfl : r = bI (0 ≤ le ∧ le ≤ 20000) := hr
      conv => whnf
      refine ⟨fun h1 => ?_, fun h1 => ?_⟩
      · exact no (fun z => bI_0 h1 z.1.1)
      · conv => whnf
        refine ⟨⟨_, _, _, rfl, rfl, trivial⟩, ?_⟩
        intro r hr
        obtain rfl : r = bI (le ≤ du ∧ du ≤ 20000) := hr
        conv => whnf
        refine ⟨fun h2 => ?_, fun h2 => ?_⟩
        · exact no (fun z => bI_0 h2 z.1.2.1)
        · conv => whnf
          refine ⟨⟨_, _, _, rfl, rfl, trivial⟩, ?_⟩
          intro r hr
          obtain rfl : r = bI (0 ≤ gr ∧ gr ≤ 600) := hr
          conv => whnf
          refine ⟨fun h3 => ?_, fun h3 => ?_⟩
          · exact no (fun z => bI_0 h3 z.1.2.2)
          · have hQ : okQ le du gr := ⟨bI_n h1, bI_n h2, bI_n h3⟩
            conv => whnf
            refine ⟨fun h4 => ?_, fun h4 => ?_⟩
            · have h4 : nI k = nI 100 := h4
              have h4 := nI_inj (by omega) (by omega) h4
              exact no (fun z => by have := z.2.1; omega)
            · have h4 : ¬ nI k = nI 100 := h4
              have hk3 : k < 100 := by
                rcases Nat.lt_or_ge k 100 with q | q
                · exact q
                · exact absurd (congrArg nI (show k = 100 by omega)) h4
              have hcl : (nI j).toNatClampNeg = j := nI_clamp (by omega)
              conv => whnf
              refine ⟨fun h5 => ?_, fun h5 => ?_⟩
              · have h5 := (nI_leI (by omega) (by omega)).mp h5
                have ejn : j = n := by omega
                subst ejn
                have hT : okT (nI j) j k ci := (okT_j hj30 hjn hn).mpr ⟨hk3, fun z => absurd z (by omega)⟩
                have hv30 : vp_in (nI j) 30 := vp_in_nI hj30 (by omega)
                conv => whnf
                refine ⟨fun h6 => ?_, fun h6 => ?_⟩
                · conv => whnf
                  refine ⟨hv30, ?_⟩
                  conv => whnf
                  refine ⟨rfl, Nat.le_refl 1, Nat.le_refl 5, ?_⟩
                  conv => whnf
                  refine ⟨vp_in_iff.mpr (by decide), ?_⟩
                  conv => whnf
                  refine ⟨vp_in_iff.mpr (by decide), ?_⟩
                  conv => whnf
                  refine ⟨vp_in_iff.mpr (by decide), ?_⟩
                  conv => whnf
                  refine ⟨vp_in_iff.mpr (by decide), ?_⟩
                  conv => whnf
                  refine ⟨vp_in_iff.mpr (by decide), ?_⟩
                  conv => whnf
                  rintro _ rfl
                  conv => whnf
                  refine ⟨5, by omega, j, 0, rfl, hj30, hjn, hQ, hT, by omega, rfl, ?_, rfl⟩
                  rw [if_pos rfl, if_pos rfl, ← nI_1]
                  show [(50, _), (61, _), (62, ri 30 (upd ci (nI j).toNatClampNeg (-1))), (900, _)] = _
                  rw [hcl]
                  rfl
                · exact absurd rfl h6
              · have h5 : ¬ nI n ≤ nI j := h5
                have hj2 : j < n := by
                  rcases Nat.lt_or_ge j n with q | q
                  · exact q
                  · exact absurd (nI_le q (by omega)) h5
                have hv30 : vp_in (nI j) 30 := vp_in_nI hj30 (by omega)
                conv => whnf
                refine ⟨hv30, ?_⟩
                conv => whnf
                refine ⟨fun h6 => ?_, fun h6 => ?_⟩
                · have h6 : ci (nI j).toNatClampNeg = -1 := h6
                  rw [hcl] at h6
                  have hT : okT (nI j) n k ci := (okT_j hj30 hjn hn).mpr ⟨hk3, fun _ => h6⟩
                  conv => whnf
                  refine ⟨fun h7 => ?_, fun h7 => ?_⟩
                  · have h7 := nI_inj (by omega) (by omega) h7
                    omega
                  · conv => whnf
                    refine ⟨rfl, Nat.le_refl 1, Nat.le_refl 5, ?_⟩
                    conv => whnf
                    refine ⟨vp_in_iff.mpr (by decide), ?_⟩
                    conv => whnf
                    refine ⟨vp_in_iff.mpr (by decide), ?_⟩
                    conv => whnf
                    refine ⟨vp_in_iff.mpr (by decide), ?_⟩
                    conv => whnf
                    refine ⟨vp_in_iff.mpr (by decide), ?_⟩
                    conv => whnf
                    refine ⟨vp_in_iff.mpr (by decide), ?_⟩
                    conv => whnf
                    rintro _ rfl
                    conv => whnf
                    refine ⟨5, by omega, j, 0, rfl, hj30, hjn, hQ, hT, by omega, rfl, ?_, rfl⟩
                    rw [if_neg (by omega), if_neg (by omega)]
                    rfl
                · have h6 : ¬ ci (nI j).toNatClampNeg = -1 := h6
                  rw [hcl] at h6
                  exact no (fun z => h6 (((okT_j hj30 hjn hn).mp z.2).2 hj2))
theorem rv_X7_plan : rz_Rv yX7_plan.cls ce_X7_plan := fun av w h => by
  obtain ⟨_, _, _, _, _, _, _, _, _, _, _, _, _, _, _, _, _, _, rfl, rfl, _⟩ := h
  exact ⟨_, _, _, _, _, _, rfl, rfl, rfl⟩
theorem cn_X7_plan (l : Launch) : rz_Con l yX7_plan cX7_plan 7 (some .int) 1 1 5 ce_X7_plan := rz_conA (by decide +kernel) fo_X7 (by
  intro q hq
  rcases List.mem_cons.mp hq with rfl | hq
  · exact rz_callS (cn_X7_isIn l) (by decide +kernel) ⟨Nat.le_of_ble_eq_true rfl, Nat.le_of_ble_eq_true rfl⟩ m_X7_isIn t_X7_isIn n_X7_87
  rcases List.mem_cons.mp hq with rfl | hq
  · exact rz_callS (cn_J9_min_7cf53 l) (by decide +kernel) ⟨Nat.le_of_ble_eq_true rfl, Nat.le_of_ble_eq_true rfl⟩ m_J9_min_7cf53 t_J9_min_7cf53 n_X7_191
  exact absurd hq List.not_mem_nil) (fun _ h => absurd h List.not_mem_nil) r_X7_plan vc_X7_plan
