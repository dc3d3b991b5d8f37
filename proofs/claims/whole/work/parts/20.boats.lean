/-! Boats of the class. -/
def ce_X0_isIn : rz_K := (2, kBo, 0, true, fun av w => ∃ (pb pl pe pt lp im : Nat → Int32) (pn sz b : Int32), av = [.ref 37, .int b] ∧ w = wBo pb pl pe pt lp im pn sz ∧ vp_in b 30, fun av w o _ => rR o = bI (¬ rI w 43 (rA av 1).toNatClampNeg = -1))
def cl_X0_isIn : List (Nat × rz_K) := []
def cv_X0_isIn : List (Nat × rz_K) := []
theorem vc_X0_isIn : rz_VC k_X0_isIn fl_X0 cl_X0_isIn cv_X0_isIn s_X0_isIn true 2 ce_X0_isIn := by
  intro av w hlen hk hpre
  obtain ⟨pb, pl, pe, pt, lp, im, pn, sz, b, rfl, rfl, hb⟩ := hpre
  refine ⟨Nat.le_of_ble_eq_true rfl, [], 30, 0, fun q h => absurd h List.not_mem_nil, ?_⟩
  conv => whnf
  refine ⟨hb, ?_⟩
  conv => whnf
  refine ⟨fun h => ?_, fun h => ?_⟩
  · exact ⟨Or.inl rfl, ⟨_, rfl⟩, fun _ => rfl, bI_f (fun z => z h)⟩
  · exact ⟨Or.inr rfl, ⟨_, rfl⟩, fun _ => rfl, bI_t h⟩
theorem rv_X0_isIn : rz_Rv yX0_isIn.cls ce_X0_isIn := fun av w h => by
  obtain ⟨_, _, _, _, _, _, _, _, _, rfl, rfl, _⟩ := h
  exact ⟨_, _, _, _, _, _, rfl, rfl, rfl⟩
theorem cn_X0_isIn (l : Launch) : rz_Con l yX0_isIn cX0_isIn 2 (some .boolean) 0 0 0 ce_X0_isIn := rz_con (by decide +kernel) fo_X0 (fun _ h => absurd h List.not_mem_nil) (fun _ h => absurd h List.not_mem_nil) r_X0_isIn vc_X0_isIn
def ce_X0_hasBoat : rz_K := (2, kBo, 0, true, fun av w => ∃ (pb pl pe pt lp im : Nat → Int32) (pn sz b : Int32), av = [.ref 37, .int b] ∧ w = wBo pb pl pe pt lp im pn sz ∧ True, fun av w o _ => rR o = bI (0 ≤ rA av 1 ∧ rA av 1 ≤ rF w 37 7 - 1))
def cl_X0_hasBoat : List (Nat × rz_K) := [(37, ce_X6_isWithin)]
def cv_X0_hasBoat : List (Nat × rz_K) := []
theorem vc_X0_hasBoat : rz_VC k_X0_hasBoat fl_X0 cl_X0_hasBoat cv_X0_hasBoat s_X0_hasBoat true 2 ce_X0_hasBoat := by
  intro av w hlen hk hpre
  obtain ⟨pb, pl, pe, pt, lp, im, pn, sz, b, rfl, rfl, -⟩ := hpre
  refine ⟨Nat.le_of_ble_eq_true rfl, [], 30, 0, fun q h => absurd h List.not_mem_nil, ?_⟩
  conv => whnf
  refine ⟨⟨_, _, _, rfl, rfl, trivial⟩, ?_⟩
  intro r hr
  conv => whnf
  refine ⟨?_, ⟨_, rfl⟩, fun _ => rfl, hr⟩
  rw [show r = _ from hr]
  exact bI_01 _
theorem rv_X0_hasBoat : rz_Rv yX0_hasBoat.cls ce_X0_hasBoat := fun av w h => by
  obtain ⟨_, _, _, _, _, _, _, _, _, rfl, rfl, _⟩ := h
  exact ⟨_, _, _, _, _, _, rfl, rfl, rfl⟩
theorem cn_X0_hasBoat (l : Launch) : rz_Con l yX0_hasBoat cX0_hasBoat 2 (some .boolean) 1 0 0 ce_X0_hasBoat := rz_con (by decide +kernel) fo_X0 (by
  intro q hq
  rcases List.mem_cons.mp hq with rfl | hq
  · exact rz_callSN (cn_X6_isWithin l) (by decide +kernel) ⟨Nat.le_of_ble_eq_true rfl, Nat.le_of_ble_eq_true rfl⟩ m_X6_isWithin t_X6_isWithin n_X0_37
  exact absurd hq List.not_mem_nil) (fun _ h => absurd h List.not_mem_nil) r_X0_hasBoat vc_X0_hasBoat
def ce_X0_firstOverdue : rz_K := (2, kBo, 0, true, fun av w => ∃ (pb pl pe pt lp im : Nat → Int32) (pn sz b : Int32), av = [.ref 37, .int b] ∧ w = wBo pb pl pe pt lp im pn sz ∧ vp_in b 30 ∧ vp_in (lp b.toNatClampNeg) 100, fun av w o _ => rR o = rI w 40 (rI w 42 (rA av 1).toNatClampNeg).toNatClampNeg + 1)
def cl_X0_firstOverdue : List (Nat × rz_K) := []
def cv_X0_firstOverdue : List (Nat × rz_K) := []
theorem vc_X0_firstOverdue : rz_VC k_X0_firstOverdue fl_X0 cl_X0_firstOverdue cv_X0_firstOverdue s_X0_firstOverdue false 2 ce_X0_firstOverdue := by
  intro av w hlen hk hpre
  obtain ⟨pb, pl, pe, pt, lp, im, pn, sz, b, rfl, rfl, hb, hl⟩ := hpre
  refine ⟨Nat.le_of_ble_eq_true rfl, [], 30, 0, fun q h => absurd h List.not_mem_nil, ?_⟩
  conv => whnf
  refine ⟨hb, ?_⟩
  conv => whnf
  refine ⟨hl, ?_⟩
  conv => whnf
  exact ⟨⟨_, rfl⟩, fun _ => rfl, rfl⟩
theorem rv_X0_firstOverdue : rz_Rv yX0_firstOverdue.cls ce_X0_firstOverdue := fun av w h => by
  obtain ⟨_, _, _, _, _, _, _, _, _, rfl, rfl, _⟩ := h
  exact ⟨_, _, _, _, _, _, rfl, rfl, rfl⟩
theorem cn_X0_firstOverdue (l : Launch) : rz_Con l yX0_firstOverdue cX0_firstOverdue 2 (some .int) 0 0 0 ce_X0_firstOverdue := rz_con (by decide +kernel) fo_X0 (fun _ h => absurd h List.not_mem_nil) (fun _ h => absurd h List.not_mem_nil) r_X0_firstOverdue vc_X0_firstOverdue
abbrev okT (b : Int32) (n k : Nat) (im : Nat → Int32) : Prop := k < 100 ∧ ((okS b n ∧ im b.toNatClampNeg = -1) ∨ (¬ okS b n ∧ b = nI n ∧ n < 30))
def ce_X0_takesPlan : rz_K := (2, kBo, 0, true, fun av w => ∃ (pb pl pe pt lp im : Nat → Int32) (b : Int32) (k n : Nat), av = [.ref 37, .int b] ∧ w = wBo pb pl pe pt lp im (nI k) (nI n) ∧ k ≤ 100 ∧ n ≤ 30, fun av w o _ => ∀ k n : Nat, rF w 37 6 = nI k → k ≤ 100 → rF w 37 7 = nI n → n ≤ 30 → rR o = bI (okT (rA av 1) n k (rI w 43)))
def cl_X0_takesPlan : List (Nat × rz_K) := []
def cv_X0_takesPlan : List (Nat × rz_K) := [(41, ce_X0_hasBoat), (45, ce_X0_isIn)]
theorem vc_X0_takesPlan : rz_VC k_X0_takesPlan fl_X0 cl_X0_takesPlan cv_X0_takesPlan s_X0_takesPlan true 2 ce_X0_takesPlan := by
  intro av w hlen hk hpre
  obtain ⟨pb, pl, pe, pt, lp, im, b, k, n, rfl, rfl, hk2, hn⟩ := hpre
  refine ⟨Nat.le_of_ble_eq_true rfl, [], 60, 0, fun q h => absurd h List.not_mem_nil, ?_⟩
  have fin : ∀ v : Int32, v = bI (okT b n k im) → (v = 0 ∨ v = 1) ∧ rz_end ce_X0_takesPlan [.ref 37, .int b] (wBo pb pl pe pt lp im (nI k) (nI n)) (some (.int v)) (wBo pb pl pe pt lp im (nI k) (nI n)) := by
    intro v hv
    refine ⟨by rw [hv]; exact bI_01 _, ⟨_, rfl⟩, fun _ => rfl, ?_⟩
    intro k' n' e1 h1 e2 h2
    have e1 : k = k' := nI_inj (by omega) (by omega) e1
    have e2 : n = n' := nI_inj (by omega) (by omega) e2
    subst e1 e2
    exact hv
  conv => whnf
  refine ⟨fun h => ?_, fun h => ?_⟩
  · have h : nI k < nI 100 := h
    have h := (nI_ltI (by omega) (by omega)).mp h
    conv => whnf
    refine ⟨⟨pb, pl, pe, pt, lp, im, nI k, nI n, b, rfl, rfl, trivial⟩, ?_⟩
    intro r hr
    obtain rfl : r = bI (okS b n) := hr
    conv => whnf
    refine ⟨fun h1 => ?_, fun h1 => ?_⟩
    · conv => whnf
      refine ⟨fun h2 => ?_, fun h2 => ?_⟩
      · conv => whnf
        refine ⟨fun h3 => ?_, fun h3 => ?_⟩
        · have h3 : nI 30 ≤ nI n := h3
          have h3 := (nI_leI (by omega) (by omega)).mp h3
          refine fin _ (bI_f (fun z => ?_))
          rcases z.2 with z | z
          · exact bI_0 h1 z.1
          · omega
        · have h3 : ¬ nI 30 ≤ nI n := h3
          refine fin _ (bI_t ⟨h, Or.inr ⟨bI_0 h1, h2, ?_⟩⟩)
          rcases Nat.lt_or_ge n 30 with q | q
          · exact q
          · exact absurd (nI_le q (by omega)) h3
      · refine fin _ (bI_f (fun z => ?_))
        rcases z.2 with z | z
        · exact bI_0 h1 z.1
        · exact h2 z.2.1
    · conv => whnf
      refine ⟨⟨pb, pl, pe, pt, lp, im, nI k, nI n, b, rfl, rfl, okS_vp (bI_n h1) hn (by omega)⟩, ?_⟩
      intro r hr
      obtain rfl : r = bI (¬ im b.toNatClampNeg = -1) := hr
      conv => whnf
      refine ⟨fun h2 => ?_, fun h2 => ?_⟩
      · exact fin _ (bI_t ⟨h, Or.inl ⟨bI_n h1, Decidable.not_not.mp (bI_0 h2)⟩⟩)
      · refine fin _ (bI_f (fun z => ?_))
        rcases z.2 with z | z
        · exact bI_n h2 z.2
        · exact z.1 (bI_n h1)
  · have h : ¬ nI k < nI 100 := h
    exact fin _ (bI_f (fun z => h (nI_lt z.1 (by omega))))
theorem rv_X0_takesPlan : rz_Rv yX0_takesPlan.cls ce_X0_takesPlan := fun av w h => by
  obtain ⟨_, _, _, _, _, _, _, _, _, rfl, rfl, _⟩ := h
  exact ⟨_, _, _, _, _, _, rfl, rfl, rfl⟩
theorem cn_X0_takesPlan (l : Launch) : rz_Con l yX0_takesPlan cX0_takesPlan 2 (some .boolean) 2 0 0 ce_X0_takesPlan := rz_con (by decide +kernel) fo_X0 (fun _ h => absurd h List.not_mem_nil) (by
  intro q hq
  rcases List.mem_cons.mp hq with rfl | hq
  · exact rz_callV (cn_X0_hasBoat l) (by decide +kernel) ⟨Nat.le_of_ble_eq_true rfl, Nat.le_of_ble_eq_true rfl⟩ m_X0_hasBoat rfl i_X0_hasBoat v_X0_hasBoat rv_X0_hasBoat n_X0_41
  rcases List.mem_cons.mp hq with rfl | hq
  · exact rz_callV (cn_X0_isIn l) (by decide +kernel) ⟨Nat.le_of_ble_eq_true rfl, Nat.le_of_ble_eq_true rfl⟩ m_X0_isIn rfl i_X0_isIn v_X0_isIn rv_X0_isIn n_X0_45
  exact absurd hq List.not_mem_nil) r_X0_takesPlan vc_X0_takesPlan
def ce_X0_addPlan : rz_K := (5, kBo, 2, false, fun av w => ∃ (pb pl pe pt lp im : Nat → Int32) (le en to : Int32) (b k n : Nat), av = [.ref 37, .int (nI b), .int le, .int en, .int to] ∧ w = wBo pb pl pe pt lp im (nI k) (nI n) ∧ k < 100 ∧ b < 30 ∧ b ≤ n ∧ n ≤ 30, fun av w _ w' => ∀ b k n : Nat, rA av 1 = nI b → rF w 37 6 = nI k → rF w 37 7 = nI n → k < 100 → b < 30 → n ≤ 30 → w' = wBo (upd (rI w 38) k (nI b)) (upd (rI w 39) k (rA av 2)) (upd (rI w 40) k (rA av 3)) (upd (rI w 41) k (rA av 4)) (upd (rI w 42) b (nI k)) (if b = n then upd (rI w 43) b (-1) else rI w 43) (nI (k + 1)) (nI (if b = n then n + 1 else n)))
def cl_X0_addPlan : List (Nat × rz_K) := []
def cv_X0_addPlan : List (Nat × rz_K) := []
theorem vc_X0_addPlan : rz_VC k_X0_addPlan fl_X0 cl_X0_addPlan cv_X0_addPlan s_X0_addPlan false 5 ce_X0_addPlan := by
  intro av w hlen hk hpre
  obtain ⟨pb, pl, pe, pt, lp, im, le, en, to, b, k, n, rfl, rfl, hk2, hb, hbn, hn⟩ := hpre
  refine ⟨Nat.le_of_ble_eq_true rfl, [], 90, 0, fun q h => absurd h List.not_mem_nil, ?_⟩
  have hvb : vp_in (nI b) 30 := vp_in_nI hb (by omega)
  have hvk : vp_in (nI k) 100 := vp_in_nI hk2 (by omega)
  have fin : ∀ w', w' = wBo (upd pb k (nI b)) (upd pl k le) (upd pe k en) (upd pt k to) (upd lp b (nI k)) (if b = n then upd im b (-1) else im) (nI (k + 1)) (nI (if b = n then n + 1 else n)) → rz_end ce_X0_addPlan [.ref 37, .int (nI b), .int le, .int en, .int to] (wBo pb pl pe pt lp im (nI k) (nI n)) none w' := by
    intro w' hw
    refine ⟨rfl, fun z => (by cases z), ?_⟩
    intro b' k' n' e1 e2 e3 h1 h2 h3
    have e1 : b = b' := nI_inj (by omega) (by omega) e1
    have e2 : k = k' := nI_inj (by omega) (by omega) e2
    have e3 : n = n' := nI_inj (by omega) (by omega) e3
    subst e1 e2 e3
    exact hw
  conv => whnf
  refine ⟨fun h => ?_, fun h => ?_⟩
  · have h := nI_inj (by omega) (by omega) h
    subst h
    conv => whnf
    refine ⟨hvb, ?_⟩
    conv => whnf
    refine ⟨hvk, ?_⟩
    conv => whnf
    refine ⟨hvk, ?_⟩
    conv => whnf
    refine ⟨hvk, ?_⟩
    conv => whnf
    refine ⟨hvk, ?_⟩
    conv => whnf
    refine ⟨hvb, ?_⟩
    conv => whnf
    refine fin _ ?_
    show wBo (upd pb (nI k).toNatClampNeg (nI b)) (upd pl (nI k).toNatClampNeg le) (upd pe (nI k).toNatClampNeg en) (upd pt (nI k).toNatClampNeg to) (upd lp (nI b).toNatClampNeg (nI k)) (upd im (nI b).toNatClampNeg (-1)) (nI k + 1) (nI b + 1) = _
    rw [nI_1, nI_1, nI_clamp (by omega), nI_clamp (by omega), if_pos rfl, if_pos rfl]
  · have h : ¬ b = n := fun z => h (congrArg nI z)
    conv => whnf
    refine ⟨hvk, ?_⟩
    conv => whnf
    refine ⟨hvk, ?_⟩
    conv => whnf
    refine ⟨hvk, ?_⟩
    conv => whnf
    refine ⟨hvk, ?_⟩
    conv => whnf
    refine ⟨hvb, ?_⟩
    conv => whnf
    refine fin _ ?_
    show wBo (upd pb (nI k).toNatClampNeg (nI b)) (upd pl (nI k).toNatClampNeg le) (upd pe (nI k).toNatClampNeg en) (upd pt (nI k).toNatClampNeg to) (upd lp (nI b).toNatClampNeg (nI k)) im (nI k + 1) (nI n) = _
    rw [nI_1, nI_clamp (by omega), nI_clamp (by omega), if_neg h, if_neg h]
theorem rv_X0_addPlan : rz_Rv yX0_addPlan.cls ce_X0_addPlan := fun av w h => by
  obtain ⟨_, _, _, _, _, _, _, _, _, _, _, _, rfl, rfl, _⟩ := h
  exact ⟨_, _, _, _, _, _, rfl, rfl, rfl⟩
theorem cn_X0_addPlan (l : Launch) : rz_Con l yX0_addPlan cX0_addPlan 5 none 0 0 0 ce_X0_addPlan := rz_con (by decide +kernel) fo_X0 (fun _ h => absurd h List.not_mem_nil) (fun _ h => absurd h List.not_mem_nil) r_X0_addPlan vc_X0_addPlan
/-- the last place below n with p, or NONE -/
def lastK (p : Nat → Bool) : Nat → Int32
  | 0 => -1
  | n + 1 => if p n then nI n else lastK p n
theorem lastK_in (p : Nat → Bool) : ∀ n, n < 2 ^ 31 → lastK p n = -1 ∨ ∃ j, j < n ∧ lastK p n = nI j ∧ p j = true
  | 0, _ => Or.inl rfl
  | n + 1, h => by
    unfold lastK
    cases hp : p n with
    | true => exact Or.inr ⟨n, by omega, rfl, hp⟩
    | false =>
      rcases lastK_in p n (by omega) with z | ⟨j, z1, z2, z3⟩
      · exact Or.inl z
      · exact Or.inr ⟨j, by omega, z2, z3⟩
theorem nI_ne_m1 {j : Nat} (h : j < 2 ^ 31) : ¬ nI j = -1 := fun z => by
  have h1 := nI_pos h
  rw [z] at h1
  exact h1 (by decide)
abbrev pkP (pb pt : Nat → Int32) (b q : Int32) : Nat → Bool := fun i => decide (pb i = b ∧ pt i ≤ q)
def ce_X0_planKnown : rz_K := (3, kBo, 0, true, fun av w => ∃ (pb pl pe pt lp im : Nat → Int32) (sz b q : Int32) (k : Nat), av = [.ref 37, .int b, .int q] ∧ w = wBo pb pl pe pt lp im (nI k) sz ∧ k ≤ 100, fun av w o _ => ∀ k : Nat, rF w 37 6 = nI k → k ≤ 100 → rR o = lastK (pkP (rI w 38) (rI w 41) (rA av 1) (rA av 2)) k)
def cl_X0_planKnown : List (Nat × rz_K) := []
def cv_X0_planKnown : List (Nat × rz_K) := []
theorem vc_X0_planKnown : rz_VC k_X0_planKnown fl_X0 cl_X0_planKnown cv_X0_planKnown s_X0_planKnown false 4 ce_X0_planKnown := by
  intro av w hlen hk hpre
  obtain ⟨pb, pl, pe, pt, lp, im, sz, b, q, k, rfl, rfl, hk2⟩ := hpre
  have fin : ∀ v : Int32, v = lastK (pkP pb pt b q) k → rz_end ce_X0_planKnown [.ref 37, .int b, .int q] (wBo pb pl pe pt lp im (nI k) sz) (some (.int v)) (wBo pb pl pe pt lp im (nI k) sz) := by
    intro v hv
    refine ⟨⟨_, rfl⟩, fun _ => rfl, ?_⟩
    intro k' e1 h1
    have e1 : k = k' := nI_inj (by omega) (by omega) e1
    subst e1
    exact hv
  refine ⟨Nat.le_of_ble_eq_true rfl, [(7, [0, 1, 2, 3], fun z lv w' => ∃ i : Nat, i ≤ k ∧ lastK (pkP pb pt b q) k = lastK (pkP pb pt b q) i ∧ lv = [(0, .ref 37), (1, .int b), (2, .int q), (3, .int (nI i - 1))] ∧ w' = wBo pb pl pe pt lp im (nI k) sz ∧ i = z)], 60, k + 1, ?_, ?_⟩
  · intro y hq z lv w' hj
    rcases List.mem_cons.mp hq with rfl | hq
    · obtain ⟨i, hi, hla, rfl, rfl, rfl⟩ := hj
      conv => whnf
      refine ⟨fun c => ?_, fun c => ?_⟩
      · have e : i = 0 := by
          rcases Nat.eq_zero_or_pos i with y | y
          · exact y
          · obtain ⟨d, rfl⟩ : ∃ d, i = d + 1 := ⟨i - 1, by omega⟩
            rw [nI_pred] at c
            exact absurd c (nI_pos (by omega))
        subst e
        exact fin _ hla.symm
      · obtain ⟨d, rfl⟩ : ∃ d, i = d + 1 := by
          rcases Nat.eq_zero_or_pos i with y | y
          · subst y; exact absurd (by decide) c
          · exact ⟨i - 1, by omega⟩
        rw [nI_pred] at *
        have hv : vp_in (nI d) 100 := vp_in_nI (by omega) (by omega)
        have hcl : (nI d).toNatClampNeg = d := nI_clamp (by omega)
        have hs : lastK (pkP pb pt b q) (d + 1) = if pkP pb pt b q d then nI d else lastK (pkP pb pt b q) d := rfl
        conv => whnf
        refine ⟨hv, ?_⟩
        conv => whnf
        refine ⟨fun c2 => ?_, fun c2 => ?_⟩
        · have c2 : pb (nI d).toNatClampNeg = b := c2
          rw [hcl] at c2
          conv => whnf
          refine ⟨hv, ?_⟩
          conv => whnf
          refine ⟨fun c3 => ?_, fun c3 => ?_⟩
          · have c3 : q < pt (nI d).toNatClampNeg := c3
            rw [hcl] at c3
            conv => whnf
            rintro _ rfl
            conv => whnf
            refine ⟨d, by omega, d, by omega, ?_, ?_, rfl, rfl⟩
            · rw [hla, hs, if_neg (by simp only [decide_eq_true_eq]; exact fun y => absurd y.2 ((i32_not_le _ _).mpr c3))]
            · show [_, _, _, (3, Value.int (nI d + (-1)))] = _
              rw [Int32.sub_eq_add_neg]
          · have c3 : ¬ q < pt (nI d).toNatClampNeg := c3
            rw [hcl] at c3
            refine fin _ ?_
            rw [hla, hs, if_pos (by simp only [decide_eq_true_eq]; exact ⟨c2, (i32_not_lt _ _).mp c3⟩)]
        · have c2 : ¬ pb (nI d).toNatClampNeg = b := c2
          rw [hcl] at c2
          conv => whnf
          rintro _ rfl
          conv => whnf
          refine ⟨d, by omega, d, by omega, ?_, ?_, rfl, rfl⟩
          · rw [hla, hs, if_neg (by simp only [decide_eq_true_eq]; exact fun y => c2 y.1)]
          · show [_, _, _, (3, Value.int (nI d + (-1)))] = _
            rw [Int32.sub_eq_add_neg]
    · exact absurd hq List.not_mem_nil
  · conv => whnf
    rintro _ rfl
    conv => whnf
    refine ⟨k, by omega, k, by omega, rfl, rfl, rfl, rfl⟩
theorem rv_X0_planKnown : rz_Rv yX0_planKnown.cls ce_X0_planKnown := fun av w h => by
  obtain ⟨_, _, _, _, _, _, _, _, _, _, rfl, rfl, _⟩ := h
  exact ⟨_, _, _, _, _, _, rfl, rfl, rfl⟩
theorem cn_X0_planKnown (l : Launch) : rz_Con l yX0_planKnown cX0_planKnown 4 (some .int) 0 0 0 ce_X0_planKnown := rz_con (by decide +kernel) fo_X0 (fun _ h => absurd h List.not_mem_nil) (fun _ h => absurd h List.not_mem_nil) r_X0_planKnown vc_X0_planKnown
/-- a boat's state by its plan's place, its minute of coming in, the plan's leaving and end -/
def stF (j im m q : Int32) (pl pe : Nat → Int32) : Int32 := if j = -1 then 0 else if ¬ im = -1 ∧ im ≤ m ∧ im ≤ q then 4 else if m < pl j.toNatClampNeg then 1 else if m ≤ pe j.toNatClampNeg then 2 else 3
def ce_X0_stateOf : rz_K := (4, kBo, 0, true, fun av w => ∃ (pb pl pe pt lp im : Nat → Int32) (sz b m q : Int32) (k : Nat), av = [.ref 37, .int b, .int m, .int q] ∧ w = wBo pb pl pe pt lp im (nI k) sz ∧ k ≤ 100 ∧ vp_in b 30, fun av w o _ => ∀ k : Nat, rF w 37 6 = nI k → k ≤ 100 → rR o = stF (lastK (pkP (rI w 38) (rI w 41) (rA av 1) (rA av 3)) k) (rI w 43 (rA av 1).toNatClampNeg) (rA av 2) (rA av 3) (rI w 39) (rI w 40))
def cl_X0_stateOf : List (Nat × rz_K) := []
def cv_X0_stateOf : List (Nat × rz_K) := [(48, ce_X0_planKnown)]
theorem vc_X0_stateOf : rz_VC k_X0_stateOf fl_X0 cl_X0_stateOf cv_X0_stateOf s_X0_stateOf false 6 ce_X0_stateOf := by
  intro av w hlen hk hpre
  obtain ⟨pb, pl, pe, pt, lp, im, sz, b, m, q, k, rfl, rfl, hk2, hb⟩ := hpre
  refine ⟨Nat.le_of_ble_eq_true rfl, [], 90, 0, fun q h => absurd h List.not_mem_nil, ?_⟩
  generalize hJ : lastK (pkP pb pt b q) k = j
  have hjv : ¬ j = -1 → vp_in j 100 := fun z => by
    rcases lastK_in (pkP pb pt b q) k (by omega) with y | ⟨i, y1, y2, y3⟩
    · exact absurd (hJ.symm.trans y) z
    · rw [hJ] at y2
      rw [y2]
      exact vp_in_nI (by omega) (by omega)
  have fin : ∀ v : Int32, v = stF j (im b.toNatClampNeg) m q pl pe → rz_end ce_X0_stateOf [.ref 37, .int b, .int m, .int q] (wBo pb pl pe pt lp im (nI k) sz) (some (.int v)) (wBo pb pl pe pt lp im (nI k) sz) := by
    intro v hv
    refine ⟨⟨_, rfl⟩, fun _ => rfl, ?_⟩
    intro k' e1 h1
    have e1 : k = k' := nI_inj (by omega) (by omega) e1
    subst e1
    rw [hv, ← hJ]
    rfl
  conv => whnf
  refine ⟨⟨pb, pl, pe, pt, lp, im, sz, b, q, k, rfl, rfl, hk2⟩, ?_⟩
  intro r hr
  have hr : r = lastK (pkP pb pt b q) k := hr k rfl hk2
  rw [hJ] at hr
  subst hr
  conv => whnf
  intro v_ ev_
  have ev_ := ev_.symm
  subst ev_
  conv => whnf
  refine ⟨fun h => ?_, fun h => ?_⟩
  · refine fin _ ?_
    unfold stF
    rw [if_pos h]
  · conv => whnf
    refine ⟨hb, ?_⟩
    conv => whnf
    rintro _ rfl
    have go : ¬ (¬ im b.toNatClampNeg = -1 ∧ im b.toNatClampNeg ≤ m ∧ im b.toNatClampNeg ≤ q) → stF r (im b.toNatClampNeg) m q pl pe = if m < pl r.toNatClampNeg then 1 else if m ≤ pe r.toNatClampNeg then 2 else 3 := fun z => by
      unfold stF
      rw [if_neg h, if_neg z]
    have t1 : ∀ (z : ¬ (¬ im b.toNatClampNeg = -1 ∧ im b.toNatClampNeg ≤ m ∧ im b.toNatClampNeg ≤ q)) (y : ¬ pl r.toNatClampNeg ≤ m), (1 : Int32) = stF r (im b.toNatClampNeg) m q pl pe := fun z y => by rw [go z, if_pos ((i32_not_le _ _).mp y)]
    have t2 : ∀ (z : ¬ (¬ im b.toNatClampNeg = -1 ∧ im b.toNatClampNeg ≤ m ∧ im b.toNatClampNeg ≤ q)) (y : pl r.toNatClampNeg ≤ m) (x : ¬ pe r.toNatClampNeg < m), (2 : Int32) = stF r (im b.toNatClampNeg) m q pl pe := fun z y x => by rw [go z, if_neg ((i32_not_lt _ _).mpr y), if_pos ((i32_not_lt _ _).mp x)]
    have t3 : ∀ (z : ¬ (¬ im b.toNatClampNeg = -1 ∧ im b.toNatClampNeg ≤ m ∧ im b.toNatClampNeg ≤ q)) (y : pl r.toNatClampNeg ≤ m) (x : pe r.toNatClampNeg < m), (3 : Int32) = stF r (im b.toNatClampNeg) m q pl pe := fun z y x => by rw [go z, if_neg ((i32_not_lt _ _).mpr y), if_neg ((i32_not_le _ _).mpr x)]
    conv => whnf
    refine ⟨fun h1 => ?_, fun h1 => ?_⟩
    · have z : ¬ (¬ im b.toNatClampNeg = -1 ∧ im b.toNatClampNeg ≤ m ∧ im b.toNatClampNeg ≤ q) := fun y => y.1 h1
      conv => whnf
      refine ⟨hjv h, ?_⟩
      conv => whnf
      refine ⟨fun h2 => ?_, fun h2 => ?_⟩
      · conv => whnf
        refine ⟨hjv h, ?_⟩
        conv => whnf
        refine ⟨fun h3 => ?_, fun h3 => ?_⟩
        · exact fin _ (t3 z h2 h3)
        · exact fin _ (t2 z h2 h3)
      · exact fin _ (t1 z h2)
    · conv => whnf
      refine ⟨fun h2 => ?_, fun h2 => ?_⟩
      · have z : ¬ (¬ im b.toNatClampNeg = -1 ∧ im b.toNatClampNeg ≤ m ∧ im b.toNatClampNeg ≤ q) := fun y => absurd y.2.1 ((i32_not_le _ _).mpr h2)
        conv => whnf
        refine ⟨hjv h, ?_⟩
        conv => whnf
        refine ⟨fun h3 => ?_, fun h3 => ?_⟩
        · conv => whnf
          refine ⟨hjv h, ?_⟩
          conv => whnf
          refine ⟨fun h4 => ?_, fun h4 => ?_⟩
          · exact fin _ (t3 z h3 h4)
          · exact fin _ (t2 z h3 h4)
        · exact fin _ (t1 z h3)
      · conv => whnf
        refine ⟨fun h3 => ?_, fun h3 => ?_⟩
        · have z : ¬ (¬ im b.toNatClampNeg = -1 ∧ im b.toNatClampNeg ≤ m ∧ im b.toNatClampNeg ≤ q) := fun y => absurd y.2.2 ((i32_not_le _ _).mpr h3)
          conv => whnf
          refine ⟨hjv h, ?_⟩
          conv => whnf
          refine ⟨fun h4 => ?_, fun h4 => ?_⟩
          · conv => whnf
            refine ⟨hjv h, ?_⟩
            conv => whnf
            refine ⟨fun h5 => ?_, fun h5 => ?_⟩
            · exact fin _ (t3 z h4 h5)
            · exact fin _ (t2 z h4 h5)
          · exact fin _ (t1 z h4)
        · refine fin _ ?_
          unfold stF
          rw [if_neg h, if_pos ⟨h1, (i32_not_lt _ _).mp h2, (i32_not_lt _ _).mp h3⟩]
theorem rv_X0_stateOf : rz_Rv yX0_stateOf.cls ce_X0_stateOf := fun av w h => by
  obtain ⟨_, _, _, _, _, _, _, _, _, _, _, rfl, rfl, _⟩ := h
  exact ⟨_, _, _, _, _, _, rfl, rfl, rfl⟩
theorem cn_X0_stateOf (l : Launch) : rz_Con l yX0_stateOf cX0_stateOf 6 (some .int) 1 0 0 ce_X0_stateOf := rz_con (by decide +kernel) fo_X0 (fun _ h => absurd h List.not_mem_nil) (by
  intro q hq
  rcases List.mem_cons.mp hq with rfl | hq
  · exact rz_callV (cn_X0_planKnown l) (by decide +kernel) ⟨Nat.le_of_ble_eq_true rfl, Nat.le_of_ble_eq_true rfl⟩ m_X0_planKnown rfl i_X0_planKnown v_X0_planKnown rv_X0_planKnown n_X0_48
  exact absurd hq List.not_mem_nil) r_X0_stateOf vc_X0_stateOf
def cntB (p : Nat → Bool) : Nat → Int32
  | 0 => 0
  | n + 1 => if p n then cntB p n + 1 else cntB p n
abbrev ovP (pe lp im : Nat → Int32) (m : Int32) : Nat → Bool := fun b => decide (im b = -1 ∧ pe (lp b).toNatClampNeg + 1 ≤ m)
def ce_X0_overdueAt : rz_K := (2, kBo, 0, true, fun av w => ∃ (pb pl pe pt lp im : Nat → Int32) (pn m : Int32) (n : Nat), av = [.ref 37, .int m] ∧ w = wBo pb pl pe pt lp im pn (nI n) ∧ n ≤ 30 ∧ ∀ b, b < n → vp_in (lp b) 100, fun av w o _ => ∀ n : Nat, rF w 37 7 = nI n → n ≤ 30 → rR o = cntB (ovP (rI w 40) (rI w 42) (rI w 43) (rA av 1)) n)
def cl_X0_overdueAt : List (Nat × rz_K) := []
def cv_X0_overdueAt : List (Nat × rz_K) := [(45, ce_X0_isIn), (52, ce_X0_firstOverdue)]
theorem vc_X0_overdueAt : rz_VC k_X0_overdueAt fl_X0 cl_X0_overdueAt cv_X0_overdueAt s_X0_overdueAt false 4 ce_X0_overdueAt := by
  intro av w hlen hk hpre
  obtain ⟨pb, pl, pe, pt, lp, im, pn, m, n, rfl, rfl, hn, hlp⟩ := hpre
  have hs : ∀ i, cntB (ovP pe lp im m) (i + 1) = if ovP pe lp im m i then cntB (ovP pe lp im m) i + 1 else cntB (ovP pe lp im m) i := fun _ => rfl
  refine ⟨Nat.le_of_ble_eq_true rfl, [(4, [0, 1, 2, 3], fun z lv w' => ∃ i : Nat, i ≤ n ∧ lv = [(0, .ref 37), (1, .int m), (2, .int (cntB (ovP pe lp im m) i)), (3, .int (nI i))] ∧ w' = wBo pb pl pe pt lp im pn (nI n) ∧ z = n - i)], 60, n + 1, ?_, ?_⟩
  · intro y hq z lv w' hj
    rcases List.mem_cons.mp hq with rfl | hq
    · obtain ⟨i, hi, rfl, rfl, rfl⟩ := hj
      conv => whnf
      refine ⟨fun c => ?_, fun c => ?_⟩
      · have e : i = n := by
          have := (nI_leI (by omega) (by omega)).mp c
          omega
        subst e
        refine ⟨⟨_, rfl⟩, fun _ => rfl, ?_⟩
        intro n' e1 h1
        have e1 : i = n' := nI_inj (by omega) (by omega) e1
        subst e1
        rfl
      · have hi2 : i < n := by
          rcases Nat.lt_or_ge i n with z | z
          · exact z
          · exact absurd (nI_le z (by omega)) c
        have hv : vp_in (nI i) 30 := vp_in_nI (by omega) (by omega)
        have hcl : (nI i).toNatClampNeg = i := nI_clamp (by omega)
        conv => whnf
        refine ⟨⟨pb, pl, pe, pt, lp, im, pn, nI n, nI i, rfl, rfl, hv⟩, ?_⟩
        intro r hr
        have hr : r = bI (¬ im (nI i).toNatClampNeg = -1) := hr
        rw [hcl] at hr
        subst hr
        conv => whnf
        refine ⟨fun c2 => ?_, fun c2 => ?_⟩
        · conv => whnf
          refine ⟨⟨pb, pl, pe, pt, lp, im, pn, nI n, nI i, rfl, rfl, hv, by rw [hcl]; exact hlp i hi2⟩, ?_⟩
          intro r hr
          have hr : r = pe (lp (nI i).toNatClampNeg).toNatClampNeg + 1 := hr
          rw [hcl] at hr
          subst hr
          conv => whnf
          refine ⟨fun c3 => ?_, fun c3 => ?_⟩
          · conv => whnf
            rintro _ rfl
            conv => whnf
            refine ⟨n - (i + 1), by omega, i + 1, by omega, ?_, rfl, rfl⟩
            show [_, _, (2, Value.int (cntB (ovP pe lp im m) i)), (3, Value.int (nI i + 1))] = _
            rw [nI_1, hs, if_neg (by simp only [decide_eq_true_eq]; exact fun y => absurd y.2 ((i32_not_le _ _).mpr c3))]
          · conv => whnf
            rintro _ rfl
            conv => whnf
            rintro _ rfl
            conv => whnf
            refine ⟨n - (i + 1), by omega, i + 1, by omega, ?_, rfl, rfl⟩
            show [_, _, (2, Value.int (cntB (ovP pe lp im m) i + 1)), (3, Value.int (nI i + 1))] = _
            rw [nI_1, hs, if_pos (by simp only [decide_eq_true_eq]; exact ⟨Decidable.not_not.mp (bI_0 c2), (i32_not_lt _ _).mp c3⟩)]
        · conv => whnf
          rintro _ rfl
          conv => whnf
          refine ⟨n - (i + 1), by omega, i + 1, by omega, ?_, rfl, rfl⟩
          show [_, _, (2, Value.int (cntB (ovP pe lp im m) i)), (3, Value.int (nI i + 1))] = _
          rw [nI_1, hs, if_neg (by simp only [decide_eq_true_eq]; exact fun y => bI_n c2 y.1)]
    · exact absurd hq List.not_mem_nil
  · conv => whnf
    rintro _ rfl
    conv => whnf
    rintro _ rfl
    conv => whnf
    refine ⟨n, by omega, 0, by omega, rfl, rfl, rfl⟩
theorem rv_X0_overdueAt : rz_Rv yX0_overdueAt.cls ce_X0_overdueAt := fun av w h => by
  obtain ⟨_, _, _, _, _, _, _, _, _, rfl, rfl, _⟩ := h
  exact ⟨_, _, _, _, _, _, rfl, rfl, rfl⟩
theorem cn_X0_overdueAt (l : Launch) : rz_Con l yX0_overdueAt cX0_overdueAt 4 (some .int) 1 0 0 ce_X0_overdueAt := rz_con (by decide +kernel) fo_X0 (fun _ h => absurd h List.not_mem_nil) (by
  intro q hq
  rcases List.mem_cons.mp hq with rfl | hq
  · exact rz_callV (cn_X0_isIn l) (by decide +kernel) ⟨Nat.le_of_ble_eq_true rfl, Nat.le_of_ble_eq_true rfl⟩ m_X0_isIn rfl i_X0_isIn v_X0_isIn rv_X0_isIn n_X0_45
  rcases List.mem_cons.mp hq with rfl | hq
  · exact rz_callV (cn_X0_firstOverdue l) (by decide +kernel) ⟨Nat.le_of_ble_eq_true rfl, Nat.le_of_ble_eq_true rfl⟩ m_X0_firstOverdue rfl i_X0_firstOverdue v_X0_firstOverdue rv_X0_firstOverdue n_X0_52
  exact absurd hq List.not_mem_nil) r_X0_overdueAt vc_X0_overdueAt
