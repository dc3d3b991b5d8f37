/-! Class and reference tied: lookouts, boats, calls. -/
theorem bc_bits : ∀ t, t < 64 → bc (nI t) = bits (nI t) 10 := by decide +kernel
theorem bits_max : ∀ n, n < 7 → ∀ t, t < 64 → t < 2 ^ n - 1 → (bits (nI t) 10).toInt < (bits (nI (2 ^ n - 1)) 10).toInt := by decide +kernel
theorem orS_full {f : Nat → Int32} : ∀ n, n < 7 → ∀ i, i ≤ n → orS (nI (2 ^ n - 1)) f i = orP f i := by
  have hb : ∀ n, n < 7 → ∀ i, i < 6 → i < n → (nI (2 ^ n - 1) >>> (nI i &&& 31)) &&& 1 = 1 := by decide +kernel
  intro n hn i
  induction i with
  | zero => intro _; rfl
  | succ i ih =>
    intro hi
    show (if (nI (2 ^ n - 1) >>> (nI i &&& 31)) &&& 1 = 1 then orS (nI (2 ^ n - 1)) f i ||| f i else orS (nI (2 ^ n - 1)) f i) = orP f i ||| f i
    rw [if_pos (hb n hn i (by omega) (by omega)), ih (by omega)]
theorem fl_lt (f sp : Nat → Int32) : ∀ n i, i < n → fl f sp n i = f i
  | 0, i, h => absurd h (Nat.not_lt_zero i)
  | n + 1, i, h => by
    show upd (fl f sp n) n (f n) i = f i
    unfold upd
    by_cases z : i = n
    · rw [if_pos z, z]
    · rw [if_neg z]; exact fl_lt f sp n i (by omega)
theorem orS_congr {f g : Nat → Int32} (t : Int32) : ∀ n, (∀ i, i < n → f i = g i) → orS t f n = orS t g n
  | 0, _ => rfl
  | n + 1, h => by
    unfold orS
    rw [orS_congr t n (fun i hi => h i (by omega)), h n (by omega)]
def bsP (ok : Nat → Bool) (N : Nat) (P : Nat → Prop) (b : Nat) : Prop := b < N ∧ ok b = true ∧ ∀ t, P t → t < N → ok t = true → (bits (nI b) 10).toInt < (bits (nI t) 10).toInt ∨ ((bits (nI b) 10).toInt = (bits (nI t) 10).toInt ∧ b ≤ t)
theorem bsP_u {ok : Nat → Bool} {N b c : Nat} (h1 : bsP ok N (fun _ => True) b) (h2 : bsP ok N (fun _ => True) c) : b = c := by
  have a1 := h1.2.2 c trivial h2.1 h2.2.1
  have a2 := h2.2.2 b trivial h1.1 h1.2.1
  omega
theorem best_tie {ok : Nat → Bool} {n : Nat} (hn : n ≤ 6) (hok : ok (2 ^ n - 1) = true) : bestU ok (nI (2 ^ n - 1)) (2 ^ n) = bestD ok (nI (2 ^ n - 1)) (2 ^ n) (2 ^ n) := by
  have hN : 2 ^ n ≤ 64 := Nat.le_trans (Nat.pow_le_pow_right (by omega) hn) (by decide)
  have hN0 : 0 < 2 ^ n := Nat.pow_pos (by omega)
  have mx := bits_max n (by omega)
  generalize 2 ^ n = N at *
  have hU : ∀ k, k ≤ N → ∃ b, bestU ok (nI (N - 1)) k = nI b ∧ (b < k ∨ b = N - 1) ∧ bsP ok N (fun t => t < k) b := by
    intro k
    induction k with
    | zero => intro _; exact ⟨N - 1, rfl, Or.inr rfl, by omega, hok, fun t ht => absurd ht (Nat.not_lt_zero t)⟩
    | succ k ih =>
      intro hk
      obtain ⟨b, e1, e2, e3, e4, e5⟩ := ih (by omega)
      have hs : bestU ok (nI (N - 1)) (k + 1) = if bc (nI k) < bc (bestU ok (nI (N - 1)) k) ∧ ok k = true then nI k else bestU ok (nI (N - 1)) k := rfl
      rw [e1, bc_bits k (by omega), bc_bits b (by omega)] at hs
      simp only [Int32.lt_iff_toInt_lt] at hs
      by_cases z : (bits (nI k) 10).toInt < (bits (nI b) 10).toInt ∧ ok k = true
      · rw [if_pos z] at hs
        refine ⟨k, hs, Or.inl (by omega), by omega, z.2, fun t ht h1 h2 => ?_⟩
        by_cases q : t = k
        · subst q; exact Or.inr ⟨rfl, Nat.le_refl _⟩
        · have := e5 t (by omega) h1 h2
          have z1 := z.1
          exact Or.inl (by omega)
      · rw [if_neg z] at hs
        refine ⟨b, hs, ?_, e3, e4, fun t ht h1 h2 => ?_⟩
        · rcases e2 with q | q
          · exact Or.inl (by omega)
          · exact Or.inr q
        · by_cases q : t = k
          · subst q
            have z1 : ¬ (bits (nI t) 10).toInt < (bits (nI b) 10).toInt := fun y => z ⟨y, h2⟩
            rcases e2 with y | y
            · by_cases x : (bits (nI b) 10).toInt < (bits (nI t) 10).toInt
              · exact Or.inl x
              · exact Or.inr ⟨by omega, by omega⟩
            · by_cases x : t = N - 1
              · exact Or.inr ⟨by rw [y, x], by omega⟩
              · have := mx t (by omega) (by omega)
                rw [y] at z1
                omega
          · exact e5 t (by omega) h1 h2
  have hD : ∀ k, k ≤ N → ∃ b, bestD ok (nI (N - 1)) N k = nI b ∧ bsP ok N (fun t => N - k ≤ t) b := by
    intro k
    induction k with
    | zero => intro _; exact ⟨N - 1, rfl, by omega, hok, fun t ht h1 => by omega⟩
    | succ k ih =>
      intro hk
      obtain ⟨b, e1, e3, e4, e5⟩ := ih (by omega)
      have hs : bestD ok (nI (N - 1)) N (k + 1) = if ok (N - (k + 1)) = true ∧ bits (nI (N - (k + 1))) 10 ≤ bits (bestD ok (nI (N - 1)) N k) 10 then nI (N - (k + 1)) else bestD ok (nI (N - 1)) N k := rfl
      rw [e1] at hs
      simp only [Int32.le_iff_toInt_le] at hs
      by_cases z : ok (N - (k + 1)) = true ∧ (bits (nI (N - (k + 1))) 10).toInt ≤ (bits (nI b) 10).toInt
      · rw [if_pos z] at hs
        refine ⟨_, hs, by omega, z.1, fun t ht h1 h2 => ?_⟩
        by_cases q : t = N - (k + 1)
        · rw [q]; exact Or.inr ⟨rfl, Nat.le_refl _⟩
        · have := e5 t (by omega) h1 h2
          have z1 := z.2
          rcases this with y | y
          · exact Or.inl (by omega)
          · by_cases x : (bits (nI (N - (k + 1))) 10).toInt < (bits (nI t) 10).toInt
            · exact Or.inl x
            · exact Or.inr ⟨by omega, by omega⟩
      · rw [if_neg z] at hs
        refine ⟨b, hs, e3, e4, fun t ht h1 h2 => ?_⟩
        by_cases q : t = N - (k + 1)
        · rw [q] at h2 ⊢
          have z1 : ¬ (bits (nI (N - (k + 1))) 10).toInt ≤ (bits (nI b) 10).toInt := fun y => z ⟨h2, y⟩
          exact Or.inl (by omega)
        · exact e5 t (by omega) h1 h2
  obtain ⟨b, b1, -, b2⟩ := hU N (Nat.le_refl _)
  obtain ⟨c, c1, c2⟩ := hD N (Nat.le_refl _)
  have hbc : b = c := bsP_u ⟨b2.1, b2.2.1, fun t _ h1 h2 => b2.2.2 t h1 h1 h2⟩ ⟨c2.1, c2.2.1, fun t _ h1 h2 => c2.2.2 t (by omega) h1 h2⟩
  rw [b1, c1, hbc]
theorem manned_tie {f sp : Nat → Int32} {n : Nat} (hn : n ≤ 6) : bestU (fun t => decide (orS (nI t) (fl f sp n) n = orP f n)) (nI (2 ^ n - 1)) (2 ^ n) = bestD (fun t => decide (orS (nI t) f n = orS (nI (2 ^ n - 1)) f n)) (nI (2 ^ n - 1)) (2 ^ n) (2 ^ n) := by
  have e : (fun t => decide (orS (nI t) (fl f sp n) n = orP f n)) = (fun t => decide (orS (nI t) f n = orS (nI (2 ^ n - 1)) f n)) := by
    funext t
    rw [orS_congr (nI t) n (fun i hi => fl_lt f sp n i hi), orS_full n (by omega) n (Nat.le_refl _)]
  rw [e]
  exact best_tie hn (decide_eq_true rfl)
/-! Boats. -/
theorem lastK_congr {p q : Nat → Bool} : ∀ k, (∀ i, i < k → p i = q i) → lastK p k = lastK q k
  | 0, _ => rfl
  | k + 1, h => by
    unfold lastK
    rw [h k (by omega), lastK_congr k (fun i hi => h i (by omega))]
theorem lastK_at {p : Nat → Bool} {j : Nat} (hj : p j = true) : ∀ k, j < k → (∀ i, j < i → i < k → p i = false) → lastK p k = nI j
  | 0, h, _ => absurd h (Nat.not_lt_zero j)
  | k + 1, h, hn => by
    unfold lastK
    by_cases z : j = k
    · rw [← z, hj]; rfl
    · rw [hn k (by omega) (by omega)]
      exact lastK_at hj k (by omega) (fun i h1 h2 => hn i h1 (by omega))
def boI (pb pl pe pt lp im pa : Nat → Int32) (k n t : Nat) : Prop :=
  (∀ i, i < k → pb i = mB pa 0 i ∧ pt i = mB pa 1 i ∧ pl i = mB pa 2 i ∧ pe i = mE pa i ∧ (∃ b, b < n ∧ pb i = nI b) ∧ (pt i).toInt ≤ t ∧ (pl i).toInt ≤ (pe i).toInt ∧ 0 ≤ (pe i).toInt ∧ (pe i).toInt ≤ 20600) ∧
  (∀ b, b < n → ∃ j, j < k ∧ lp b = nI j ∧ pb j = nI b ∧ ∀ i, j < i → i < k → ¬ pb i = nI b) ∧
  ∀ b, b < n → im b = -1 ∨ (0 ≤ (im b).toInt ∧ (im b).toInt ≤ t)
theorem boat_tie {pb pl pe pt lp im pa : Nat → Int32} {k n t : Nat} (hk : k ≤ 100) (h : boI pb pl pe pt lp im pa k n t) (b v m q : Int32) : stF (lastK (pkP pb pt b q) k) v m q pl pe = stF (lastK (pkP (mB pa 0) (mB pa 1) b q) k) v m q (mB pa 2) (mE pa) := by
  have e : lastK (pkP pb pt b q) k = lastK (pkP (mB pa 0) (mB pa 1) b q) k := lastK_congr k (fun i hi => by
    obtain ⟨h1, h2, -⟩ := h.1 i hi
    show decide (pb i = b ∧ pt i ≤ q) = decide (mB pa 0 i = b ∧ mB pa 1 i ≤ q)
    rw [h1, h2])
  rw [← e]
  rcases lastK_in (pkP pb pt b q) k (by omega) with z | ⟨j, z1, z2, z3⟩
  · unfold stF
    rw [if_pos z, if_pos z]
  · rw [z2]
    obtain ⟨-, -, h3, h4, -⟩ := h.1 j z1
    unfold stF
    rw [nI_clamp (by omega), h3, h4]
theorem last_lp {pb pl pe pt lp im pa : Nat → Int32} {k n t : Nat} (h : boI pb pl pe pt lp im pa k n t) {b T : Nat} (hb : b < n) (ht : t ≤ T) (hT : T < 2 ^ 31) : lastK (pkP pb pt (nI b) (nI T)) k = lp b := by
  obtain ⟨j, j1, j2, j3, j4⟩ := h.2.1 b hb
  rw [j2]
  refine lastK_at ?_ k j1 (fun i h1 h2 => ?_)
  · obtain ⟨-, -, -, -, -, h6, -⟩ := h.1 j j1
    refine decide_eq_true ⟨j3, ?_⟩
    rw [Int32.le_iff_toInt_le, nI_toInt hT]
    omega
  · exact decide_eq_false (fun z => j4 i h1 h2 z.1)
theorem over_tie {pb pl pe pt lp im pa : Nat → Int32} {k n t : Nat} (hk : k ≤ 100) (h : boI pb pl pe pt lp im pa k n t) {b T : Nat} (hb : b < n) (ht : t ≤ T) (hT : T ≤ 20000) : stF (lastK (pkP (mB pa 0) (mB pa 1) (nI b) (nI T)) k) (im b) (nI T) (nI T) (mB pa 2) (mE pa) = 3 ↔ im b = -1 ∧ (pe (lp b).toNatClampNeg).toInt < T := by
  rw [← boat_tie hk h, last_lp h hb ht (by omega)]
  obtain ⟨j, j1, j2, j3, j4⟩ := h.2.1 b hb
  have hcl : (lp b).toNatClampNeg = j := by rw [j2, nI_clamp (by omega)]
  obtain ⟨-, -, -, -, -, -, h7, h8, h9⟩ := h.1 j j1
  unfold stF
  rw [hcl, if_neg (by rw [j2]; exact nI_ne_m1 (by omega))]
  have hTi : (nI T).toInt = T := nI_toInt (by omega)
  rcases h.2.2 b hb with z | ⟨z1, z2⟩
  · rw [if_neg (fun q => q.1 z)]
    by_cases y1 : nI T < pl j
    · rw [if_pos y1]
      rw [Int32.lt_iff_toInt_lt, hTi] at y1
      constructor
      · intro q; exact absurd q (by decide)
      · intro q; have := q.2; omega
    · rw [if_neg y1]
      by_cases y2 : nI T ≤ pe j
      · rw [if_pos y2]
        rw [Int32.le_iff_toInt_le, hTi] at y2
        constructor
        · intro q; exact absurd q (by decide)
        · intro q; have := q.2; omega
      · rw [if_neg y2]
        rw [Int32.le_iff_toInt_le, hTi] at y2
        exact ⟨fun _ => ⟨z, by omega⟩, fun _ => rfl⟩
  · have hne : ¬ im b = -1 := fun q => by
      rw [q] at z1
      exact absurd z1 (by decide)
    rw [if_pos ⟨hne, by rw [Int32.le_iff_toInt_le, hTi]; omega, by rw [Int32.le_iff_toInt_le, hTi]; omega⟩]
    constructor
    · intro q; exact absurd q (by decide)
    · intro q; exact absurd q.1 hne
theorem cntB_congr {p q : Nat → Bool} : ∀ n, (∀ i, i < n → p i = q i) → cntB p n = cntB q n
  | 0, _ => rfl
  | n + 1, h => by
    unfold cntB
    rw [h n (by omega), cntB_congr n (fun i hi => h i (by omega))]
theorem pe1_toInt {x : Int32} (h1 : 0 ≤ x.toInt) (h2 : x.toInt ≤ 20600) : (x + 1).toInt = x.toInt + 1 := by
  rw [Int32.toInt_add]
  exact Int.bmod_eq_of_le (by show -2 ^ 31 ≤ x.toInt + 1; omega) (by show x.toInt + 1 < 2 ^ 31; omega)
theorem count_tie {pb pl pe pt lp im pa : Nat → Int32} {k n t : Nat} (hk : k ≤ 100) (ht : t ≤ 20000) (h : boI pb pl pe pt lp im pa k n t) : cntB (ovP pe lp im (nI t)) n = cntB (fun b => decide (stF (lastK (pkP (mB pa 0) (mB pa 1) (nI b) (nI t)) k) (im b) (nI t) (nI t) (mB pa 2) (mE pa) = 3)) n := by
  refine cntB_congr n (fun b hb => ?_)
  have e := over_tie hk h hb (Nat.le_refl t) ht
  obtain ⟨j, j1, j2, j3, j4⟩ := h.2.1 b hb
  have hcl : (lp b).toNatClampNeg = j := by rw [j2, nI_clamp (by omega)]
  obtain ⟨-, -, -, -, -, -, h7, h8, h9⟩ := h.1 j j1
  show decide (im b = -1 ∧ pe (lp b).toNatClampNeg + 1 ≤ nI t) = decide _
  refine decide_eq_decide.mpr ?_
  rw [e, hcl, Int32.le_iff_toInt_le, pe1_toInt h8 h9, nI_toInt (by omega)]
  constructor
  · intro q; exact ⟨q.1, by have := q.2; omega⟩
  · intro q; exact ⟨q.1, by have := q.2; omega⟩
def deI (de : Nat → Int32) : Prop := ∀ r, r < 5 → de r = -1 ∨ (0 ≤ (de r).toInt ∧ (de r).toInt ≤ 2000)
theorem add3_toInt {x y : Int32} (h1 : 0 ≤ x.toInt) (h2 : x.toInt ≤ 20600) (h3 : 0 ≤ y.toInt) (h4 : y.toInt ≤ 2000) : (x + 1 + y).toInt = x.toInt + 1 + y.toInt := by
  rw [Int32.toInt_add, pe1_toInt h1 h2]
  exact Int.bmod_eq_of_le (by omega) (by omega)
theorem sub3_toInt {x : Int32} {T : Nat} (h1 : 0 ≤ x.toInt) (h2 : x.toInt ≤ 20600) (hT : T ≤ 20000) : (nI T - (x + 1)).toInt = T - (x.toInt + 1) := by
  rw [Int32.toInt_sub, pe1_toInt h1 h2, nI_toInt (by omega)]
  exact Int.bmod_eq_of_le (by omega) (by omega)
theorem m1_toInt : (-1 : Int32).toInt = -1 := by decide
/-- one minute: the class's calls are the reference's -/
theorem minute_tie {pb pl pe pt lp im pa de : Nat → Int32} {k n t : Nat} (hk : k ≤ 100) (h : boI pb pl pe pt lp im pa k n t) (hde : deI de) {T : Nat} (ht : t ≤ T) (hT : T ≤ 20000) (s : LgS) : ∀ b, b ≤ n → wmF (cmJ de pe lp im) (nI T) s (5 * b) = moF pa im de k (nI T) s b := by
  intro b
  induction b with
  | zero => intro _; rfl
  | succ b ih =>
    intro hb
    have ih := ih (by omega)
    have hb' : b < n := by omega
    have ov := over_tie hk h hb' ht hT
    obtain ⟨j, j1, j2, j3, j4⟩ := h.2.1 b hb'
    have hcl : (lp b).toNatClampNeg = j := by rw [j2, nI_clamp (by omega)]
    obtain ⟨-, -, -, h4, -, -, h7, h8, h9⟩ := h.1 j j1
    rw [hcl] at ov
    have elast : lastK (pkP (mB pa 0) (mB pa 1) (nI b) (nI T)) k = nI j := by
      have e : lastK (pkP pb pt (nI b) (nI T)) k = lastK (pkP (mB pa 0) (mB pa 1) (nI b) (nI T)) k := lastK_congr k (fun i hi => by
        obtain ⟨h1, h2, -⟩ := h.1 i hi
        show decide (pb i = nI b ∧ pt i ≤ nI T) = decide (mB pa 0 i = nI b ∧ mB pa 1 i ≤ nI T)
        rw [h1, h2])
      rw [← e, last_lp h hb' ht (by omega), j2]
    have hTi : (nI T).toInt = T := nI_toInt (by omega)
    have inner : ∀ r, r ≤ 5 → wmF (cmJ de pe lp im) (nI T) s (5 * b + r) = if im b = -1 ∧ (pe j).toInt < T then odF de (nI T - (pe j + 1)) (nI b) (nI T) (moF pa im de k (nI T) s b) r else moF pa im de k (nI T) s b := by
      intro r
      induction r with
      | zero =>
        intro _
        show wmF _ _ _ (5 * b) = _
        rw [ih]
        split <;> rfl
      | succ r ihr =>
        intro hr
        have ihr := ihr (by omega)
        show (if cmJ de pe lp im (5 * b + r) = nI T then wlF (wmF (cmJ de pe lp im) (nI T) s (5 * b + r)) (nI ((5 * b + r) / 5)) (nI ((5 * b + r) % 5)) (nI T) else wmF (cmJ de pe lp im) (nI T) s (5 * b + r)) = _
        rw [cmJ_at _ _ _ _ (show r < 5 by omega), ihr, show (5 * b + r) / 5 = b by omega, show (5 * b + r) % 5 = r by omega]
        have hc : cmF de pe lp im b r = nI T ↔ (im b = -1 ∧ (pe j).toInt < T) ∧ de r = nI T - (pe j + 1) := by
          unfold cmF
          rw [hcl]
          rcases hde r (by omega) with z | ⟨z1, z2⟩
          · rw [if_pos (Or.inl z)]
            constructor
            · intro q; exact absurd q.symm (nI_ne_m1 (by omega))
            · rintro ⟨q1, q2⟩
              rw [z] at q2
              have := congrArg Int32.toInt q2
              rw [sub3_toInt h8 h9 hT, m1_toInt] at this
              omega
          · have hd : ¬ de r = -1 := fun q => by
              rw [q] at z1
              exact absurd z1 (by decide)
            by_cases y : im b = -1
            · rw [if_neg (fun q => q.elim hd (fun q => q y))]
              constructor
              · intro q
                have := congrArg Int32.toInt q
                rw [add3_toInt h8 h9 z1 z2, hTi] at this
                refine ⟨⟨y, by omega⟩, Int32.toInt_inj.mp ?_⟩
                rw [sub3_toInt h8 h9 hT]
                omega
              · rintro ⟨q1, q2⟩
                have := congrArg Int32.toInt q2
                rw [sub3_toInt h8 h9 hT] at this
                refine Int32.toInt_inj.mp ?_
                rw [add3_toInt h8 h9 z1 z2, hTi]
                omega
            · rw [if_pos (Or.inr y)]
              constructor
              · intro q; exact absurd q.symm (nI_ne_m1 (by omega))
              · rintro ⟨q1, q2⟩; exact absurd q1.1 y
        by_cases z : im b = -1 ∧ (pe j).toInt < T
        · rw [if_pos z, if_pos z]
          show _ = if de r = nI T - (pe j + 1) then wlF (odF de (nI T - (pe j + 1)) (nI b) (nI T) (moF pa im de k (nI T) s b) r) (nI b) (nI r) (nI T) else odF de (nI T - (pe j + 1)) (nI b) (nI T) (moF pa im de k (nI T) s b) r
          by_cases y : de r = nI T - (pe j + 1)
          · rw [if_pos (hc.mpr ⟨z, y⟩), if_pos y]
          · rw [if_neg (fun q => y (hc.mp q).2), if_neg y]
        · rw [if_neg z, if_neg z, if_neg (fun q => z (hc.mp q).1)]
    show wmF _ _ _ (5 * b + 5) = if stF (lastK (pkP (mB pa 0) (mB pa 1) (nI b) (nI T)) k) (im b) (nI T) (nI T) (mB pa 2) (mE pa) = 3 then odF de (nI T - (mE pa (lastK (pkP (mB pa 0) (mB pa 1) (nI b) (nI T)) k).toNatClampNeg + 1)) (nI b) (nI T) (moF pa im de k (nI T) s b) 5 else moF pa im de k (nI T) s b
    rw [inner 5 (Nat.le_refl _), elast, nI_clamp (by omega), ← h4]
    rw [elast] at ov
    by_cases z : im b = -1 ∧ (pe j).toInt < T
    · rw [if_pos z, if_pos (ov.mpr z)]
    · rw [if_neg z, if_neg (fun q => z (ov.mp q))]
/-! From call to call, or minute by minute. -/
def wpF (c : Nat → Int32) (J a : Nat) (s : LgS) : Nat → LgS
  | 0 => s
  | x + 1 => wmF c (nI (a + x + 1)) (wpF c J a s x) J
theorem wmF_no {c : Nat → Int32} {m : Int32} {s : LgS} : ∀ J, (∀ j, j < J → ¬ c j = m) → wmF c m s J = s
  | 0, _ => rfl
  | J + 1, h => by
    unfold wmF
    rw [if_neg (h J (by omega))]
    exact wmF_no J (fun j hj => h j (by omega))
theorem wpF_no {c : Nat → Int32} {J a : Nat} {s : LgS} : ∀ x, (∀ j, j < J → ∀ y, a < y → y ≤ a + x → ¬ c j = nI y) → wpF c J a s x = s
  | 0, _ => rfl
  | x + 1, h => by
    show wmF c (nI (a + x + 1)) (wpF c J a s x) J = s
    rw [wpF_no x (fun j hj y h1 h2 => h j hj y h1 (by omega))]
    exact wmF_no J (fun j hj => h j hj _ (by omega) (by omega))
theorem wpF_add {c : Nat → Int32} {J a : Nat} {s : LgS} (y : Nat) : ∀ z, wpF c J a s (y + z) = wpF c J (a + y) (wpF c J a s y) z
  | 0 => rfl
  | z + 1 => by
    show wmF c (nI (a + (y + z) + 1)) (wpF c J a s (y + z)) J = wmF c (nI (a + y + z + 1)) (wpF c J (a + y) (wpF c J a s y) z) J
    rw [wpF_add y z, Nat.add_assoc a y z]
theorem nxF_spec {c : Nat → Int32} {a : Int32} (ha : 0 ≤ a.toInt) : ∀ J, (nxF c a J = -1 ∧ ∀ j, j < J → ¬ a.toInt < (c j).toInt) ∨ ∃ j, j < J ∧ nxF c a J = c j ∧ a.toInt < (c j).toInt ∧ ∀ i, i < J → a.toInt < (c i).toInt → (c j).toInt ≤ (c i).toInt
  | 0 => Or.inl ⟨rfl, fun j h => absurd h (Nat.not_lt_zero j)⟩
  | J + 1 => by
    have ih := nxF_spec (c := c) ha J
    have hs : nxF c a (J + 1) = if a < c J ∧ (nxF c a J = -1 ∨ c J < nxF c a J) then c J else nxF c a J := rfl
    simp only [Int32.lt_iff_toInt_lt] at hs
    rcases ih with ⟨i1, i2⟩ | ⟨j, i1, i2, i3, i4⟩
    · by_cases z : a.toInt < (c J).toInt
      · rw [if_pos ⟨z, Or.inl i1⟩] at hs
        refine Or.inr ⟨J, by omega, hs, z, fun i hi h => ?_⟩
        by_cases y : i = J
        · rw [y]; omega
        · exact absurd h (i2 i (by omega))
      · rw [if_neg (fun q => z q.1), i1] at hs
        refine Or.inl ⟨hs, fun j hj => ?_⟩
        by_cases y : j = J
        · rw [y]; exact z
        · exact i2 j (by omega)
    · have hne : ¬ nxF c a J = -1 := fun q => by
        rw [i2] at q
        rw [q, m1_toInt] at i3
        omega
      by_cases z : a.toInt < (c J).toInt ∧ (c J).toInt < (nxF c a J).toInt
      · rw [if_pos ⟨z.1, Or.inr z.2⟩] at hs
        refine Or.inr ⟨J, by omega, hs, z.1, fun i hi h => ?_⟩
        by_cases y : i = J
        · rw [y]; omega
        · have := i4 i (by omega) h
          rw [i2] at z
          omega
      · rw [if_neg (fun q => z ⟨q.1, q.2.resolve_left hne⟩)] at hs
        refine Or.inr ⟨j, by omega, hs.trans i2, i3, fun i hi h => ?_⟩
        by_cases y : i = J
        · rw [y] at h ⊢
          rw [i2] at z
          omega
        · exact i4 i (by omega) h
def cntA (c : Nat → Int32) (a : Nat) : Nat → Nat
  | 0 => 0
  | j + 1 => if (a : Int) < (c j).toInt then cntA c a j + 1 else cntA c a j
theorem cntA_le (c : Nat → Int32) (a : Nat) : ∀ J, cntA c a J ≤ J
  | 0 => Nat.le_refl _
  | J + 1 => by
    have := cntA_le c a J
    unfold cntA
    split <;> omega
theorem cntA_mono (c : Nat → Int32) {a b : Nat} (h : a ≤ b) : ∀ J, cntA c b J ≤ cntA c a J
  | 0 => Nat.le_refl _
  | J + 1 => by
    have := cntA_mono c h J
    unfold cntA
    split
    · rw [if_pos (by omega)]; omega
    · split <;> omega
theorem cntA_lt (c : Nat → Int32) {a b : Nat} (h : a < b) {j : Nat} (hj : (c j).toInt = b) : ∀ J, j < J → cntA c b J < cntA c a J
  | 0, h => absurd h (Nat.not_lt_zero j)
  | J + 1, hJ => by
    unfold cntA
    by_cases z : j = J
    · have := cntA_mono c (Nat.le_of_lt h) J
      rw [← z, hj, if_neg (by omega), if_pos (by omega), z]
      omega
    · have := cntA_lt c h hj J (by omega)
      split
      · rw [if_pos (by omega)]; omega
      · split <;> omega
theorem ws_wp {c : Nat → Int32} {n : Nat} : ∀ (i a x : Nat) (s : LgS), a + x ≤ 20000 → cntA c a (5 * n) ≤ i → wsF c n (nI (a + x)) i (nxF c (nI a) (5 * n)) s = wpF c (5 * n) a s x := by
  intro i
  induction i with
  | zero =>
    intro a x s hax hc
    refine (wpF_no x (fun j hj y h1 h2 q => ?_)).symm
    have e : (c j).toInt = (y : Int) := by rw [q, nI_toInt (by omega)]
    have := cntA_lt c h1 e (5 * n) hj
    omega
  | succ i ih =>
    intro a x s hax hc
    have hai : (nI a).toInt = (a : Int) := nI_toInt (by omega)
    have hxi : (nI (a + x)).toInt = ((a + x : Nat) : Int) := nI_toInt (by omega)
    show (if nxF c (nI a) (5 * n) = -1 ∨ nI (a + x) < nxF c (nI a) (5 * n) then s else wsF c n (nI (a + x)) i (nxF c (nxF c (nI a) (5 * n)) (5 * n)) (wmF c (nxF c (nI a) (5 * n)) s (5 * n))) = _
    rcases nxF_spec (c := c) (a := nI a) (by omega) (5 * n) with ⟨e1, e2⟩ | ⟨j, e1, e2, e3, e4⟩
    · rw [if_pos (Or.inl e1)]
      refine (wpF_no x (fun j hj y h1 h2 q => e2 j hj ?_)).symm
      rw [q, hai, nI_toInt (by omega)]
      omega
    · rw [hai] at e3 e4
      obtain ⟨M, hM⟩ : ∃ M : Nat, (c j).toInt = (M : Int) := ⟨(c j).toInt.toNat, by omega⟩
      have hMlt : M < 2 ^ 31 := by
        have := Int32.toInt_lt (c j)
        omega
      have ecM : c j = nI M := Int32.toInt_inj.mp (by rw [hM, nI_toInt hMlt])
      have hne : ¬ nxF c (nI a) (5 * n) = -1 := fun q => by
        rw [e2, ecM] at q
        exact nI_ne_m1 hMlt q
      have none : ∀ z, a + z < M → ∀ j', j' < 5 * n → ∀ y, a < y → y ≤ a + z → ¬ c j' = nI y := by
        intro z hz j' hj' y h1 h2 q
        have h3 : (c j').toInt = (y : Int) := by rw [q, nI_toInt (by omega)]
        have := e4 j' hj' (by omega)
        omega
      by_cases z : nI (a + x) < nxF c (nI a) (5 * n)
      · rw [if_pos (Or.inr z)]
        rw [e2, Int32.lt_iff_toInt_lt, hM, hxi] at z
        exact (wpF_no x (none x (by omega))).symm
      · rw [if_neg (fun q => q.elim hne z)]
        rw [e2, Int32.lt_iff_toInt_lt, hM, hxi] at z
        rw [e2, ecM]
        obtain ⟨d, hd⟩ : ∃ d, M = a + d + 1 := ⟨M - a - 1, by omega⟩
        obtain ⟨x', hx'⟩ : ∃ x', x = (d + 1) + x' := ⟨x - (d + 1), by omega⟩
        have e5 := ih M x' (wmF c (nI M) s (5 * n)) (by omega) (by
          have := cntA_lt c (a := a) (b := M) (by omega) hM (5 * n) e1
          omega)
        rw [show M + x' = a + x by omega] at e5
        rw [e5, hx', wpF_add (d + 1) x']
        have e6 : wpF c (5 * n) a s (d + 1) = wmF c (nI M) s (5 * n) := by
          show wmF c (nI (a + d + 1)) (wpF c (5 * n) a s d) (5 * n) = _
          rw [wpF_no d (none d (by omega)), hd]
        rw [e6, show a + (d + 1) = M by omega]
theorem step_tie {pb pl pe pt lp im pa de : Nat → Int32} {k n t : Nat} (hk : k ≤ 100) (hn : n ≤ 30) (h : boI pb pl pe pt lp im pa k n t) (hde : deI de) (x : Nat) (s : LgS) (hx : t + x ≤ 20000) : wsF (cmJ de pe lp im) n (nI (t + x)) 150 (nxF (cmJ de pe lp im) (nI t) (5 * n)) s = spF pa im de k n t s x := by
  rw [ws_wp 150 t x s hx (Nat.le_trans (cntA_le _ _ _) (by omega))]
  induction x with
  | zero => rfl
  | succ x ih =>
    show wmF (cmJ de pe lp im) (nI (t + x + 1)) (wpF (cmJ de pe lp im) (5 * n) t s x) (5 * n) = moF pa im de k (nI (t + x + 1)) (spF pa im de k n t s x) n
    rw [ih (by omega)]
    exact minute_tie hk h hde (by omega) (by omega) _ n (Nat.le_refl _)
