/-! What holds between calls is kept: posts, sightings, plots, boats, calls. -/
def poI (px py : Nat → Int32) (g : Nat) : Prop := ∀ p, p < g → (px p).toInt.natAbs ≤ 2000 ∧ (py p).toInt.natAbs ≤ 2000
theorem i32_0 : (0 : Int32).toInt = 0 := rfl
theorem poI_s {px py : Nat → Int32} {g : Nat} {x y : Int32} (h : poI px py g) (ho : okP x y) : poI (upd px g x) (upd py g y) (g + 1) := by
  intro p hp
  by_cases q : p = g
  · subst q
    rw [upd_s, upd_s]
    obtain ⟨h1, h2, h3, h4⟩ := ho
    rw [Int32.le_iff_toInt_le] at h1 h2 h3 h4
    have e : (2000 : Int32).toInt = 2000 := rfl
    rw [i32_0] at h1 h3
    omega
  · rw [upd_n q, upd_n q]; exact h p (by omega)
theorem cpN_at (tv : Nat → Int32) (base : Nat) (pa : Nat → Int32) : ∀ N j, cpN tv base pa N j = if base ≤ j ∧ j < base + N then tv (j - base) else pa j
  | 0, j => by show pa j = _; rw [if_neg (by omega)]
  | N + 1, j => by
    show upd (cpN tv base pa N) (base + N) (tv N) j = _
    by_cases q : j = base + N
    · rw [q, upd_s, if_pos (by omega), show base + N - base = N by omega]
    · rw [upd_n q, cpN_at tv base pa N j]
      by_cases z : base ≤ j ∧ j < base + N
      · rw [if_pos z, if_pos (by omega)]
      · rw [if_neg z, if_neg (by omega)]
theorem rn_congr {px py sg px' py' sg' : Nat → Int32} {i j : Nat} (hi : ∀ c, c < 6 → sg' (6 * i + c) = sg (6 * i + c)) (hj : ∀ c, c < 6 → sg' (6 * j + c) = sg (6 * j + c)) (pi : mFx px' sg i = mFx px sg i ∧ mFx py' sg i = mFx py sg i) (pj : mFx px' sg j = mFx px sg j ∧ mFx py' sg j = mFx py sg j) {X Y D : Nat → Int64} {q : Nat} : rnR px' py' sg' i j X Y D q ↔ rnR px py sg i j X Y D q := by
  have av : ∀ s, (∀ c, c < 6 → sg' (6 * s + c) = sg (6 * s + c)) → (mFx px' sg s = mFx px sg s ∧ mFx py' sg s = mFx py sg s) → (∀ qq f, bdF (bvA sg' s) qq f 2 = bdF (bvA sg s) qq f 2) ∧ (∀ qq f, bdF (bvB sg' s) qq f 2 = bdF (bvB sg s) qq f 2) ∧ (∀ qq f, bdF (bvC sg' px' py' s) qq f 2 = bdF (bvC sg px py s) qq f 2) := by
    intro s hs hp
    have two : ∀ (u v : Nat → Int64), u 0 = v 0 → u 1 = v 1 → ∀ qq f, bdF u qq f 2 = bdF v qq f 2 := by
      intro u v h0 h1 qq f
      show vp_updL (vp_updL f (qq + 0) (u 0)) (qq + 1) (u 1) = vp_updL (vp_updL f (qq + 0) (v 0)) (qq + 1) (v 1)
      rw [h0, h1]
    have hA : ∀ k, k < 2 → bvA sg' s k = bvA sg s k := fun k hk => by unfold bvA; rw [hs (3 + 2 * k) (by omega)]
    have hB : ∀ k, k < 2 → bvB sg' s k = bvB sg s k := fun k hk => by unfold bvB; rw [hs (2 + 2 * k) (by omega)]
    have hC : ∀ k, k < 2 → bvC sg' px' py' s k = bvC sg px py s k := fun k hk => by
      have e1 : px' (sg' (6 * s + 0)).toNatClampNeg = px (sg (6 * s + 0)).toNatClampNeg := by rw [hs 0 (by omega)]; exact hp.1
      have e2 : py' (sg' (6 * s + 0)).toNatClampNeg = py (sg (6 * s + 0)).toNatClampNeg := by rw [hs 0 (by omega)]; exact hp.2
      unfold bvC
      rw [hA k hk, hB k hk, e1, e2]
    exact ⟨two _ _ (hA 0 (by omega)) (hA 1 (by omega)), two _ _ (hB 0 (by omega)) (hB 1 (by omega)), two _ _ (hC 0 (by omega)) (hC 1 (by omega))⟩
  obtain ⟨i1, i2, i3⟩ := av i hi pi
  obtain ⟨j1, j2, j3⟩ := av j hj pj
  unfold rnR
  simp only [i1, i2, i3, j1, j2, j3]
theorem pa_congr {px py sg px' py' sg' : Nat → Int32} {n n' : Nat} (hn : n ≤ n') (hn' : n' ≤ 100) {x y : Int32} (hs : ∀ i, i < n → ∀ c, c < 6 → sg' (6 * i + c) = sg (6 * i + c)) (hp : ∀ i, i < n → mFx px' sg i = mFx px sg i ∧ mFx py' sg i = mFx py sg i) (h : paP px py sg n x y) : paP px' py' sg' n' x y := by
  obtain ⟨h1, h2, h3, h4⟩ := h
  obtain ⟨i, hi, rfl⟩ := okS_nat h1 (by omega)
  obtain ⟨j, hj, rfl⟩ := okS_nat h2 (by omega)
  rw [nI_clamp (by omega), nI_clamp (by omega)] at h3 h4
  refine ⟨(okS_j (by omega) (by omega)).mpr (by omega), (okS_j (by omega) (by omega)).mpr (by omega), ?_, ?_⟩
  · rw [nI_clamp (by omega), nI_clamp (by omega), hs i hi 1 (by omega), hs j hj 1 (by omega)]; exact h3
  · rw [nI_clamp (by omega), nI_clamp (by omega)]
    have e1 : mFx px' sg' i = mFx px sg i := by rw [← (hp i hi).1]; unfold mFx; rw [hs i hi 0 (by omega)]
    have e2 : mFx py' sg' i = mFx py sg i := by rw [← (hp i hi).2]; unfold mFx; rw [hs i hi 0 (by omega)]
    have e3 : mFx px' sg' j = mFx px sg j := by rw [← (hp j hj).1]; unfold mFx; rw [hs j hj 0 (by omega)]
    have e4 : mFx py' sg' j = mFx py sg j := by rw [← (hp j hj).2]; unfold mFx; rw [hs j hj 0 (by omega)]
    rw [e1, e2, e3, e4]
    exact h4
theorem plI_congr {px py sg px' py' sg' fi se tk mj le bo rg tp la : Nat → Int32} {n n' z m : Nat} (hn : n ≤ n') (hn' : n' ≤ 100) (hs : ∀ i, i < n → ∀ c, c < 6 → sg' (6 * i + c) = sg (6 * i + c)) (hp : ∀ i, i < n → mFx px' sg i = mFx px sg i ∧ mFx py' sg i = mFx py sg i) (h : plI px py sg fi se tk mj le bo rg tp la n z m) : plI px' py' sg' fi se tk mj le bo rg tp la n' z m := by
  obtain ⟨⟨h1, h1'⟩, h2, h3⟩ := h
  refine ⟨⟨fun p hpz => ?_, h1'⟩, h2, fun p hpz => ?_⟩
  · obtain ⟨g1, g2, g3⟩ := h1 p hpz
    obtain ⟨i, hi, ei⟩ := okS_nat g1.1 (by omega)
    obtain ⟨j, hj, ej⟩ := okS_nat g1.2.1 (by omega)
    have ci : (fi p).toNatClampNeg = i := by rw [ei, nI_clamp (by omega)]
    have cj : (se p).toNatClampNeg = j := by rw [ej, nI_clamp (by omega)]
    have cg : ∀ {X Y D : Nat → Int64} {q : Nat}, rnR px' py' sg' (fi p).toNatClampNeg (se p).toNatClampNeg X Y D q ↔ rnR px py sg (fi p).toNatClampNeg (se p).toNatClampNeg X Y D q := by
      intro X Y D q
      rw [ci, cj]
      exact rn_congr (hs i hi) (hs j hj) (hp i hi) (hp j hj)
    refine ⟨pa_congr hn hn' hs hp g1, ?_, fun X Y D q hr => g3 X Y D q (cg.mp hr)⟩
    obtain ⟨X, Y, D, q, hr⟩ := g2
    exact ⟨X, Y, D, q, cg.mpr hr⟩
  · obtain ⟨g1, g2⟩ := h3 p hpz
    obtain ⟨i, hi, ei⟩ := okS_nat (h1 p hpz).1.1 (by omega)
    have ci : (fi p).toNatClampNeg = i := by rw [ei, nI_clamp (by omega)]
    refine ⟨?_, g2⟩
    rw [g1, ci, hs i hi 1 (by omega)]
theorem fx_post {px py sg fx fy mi ax ay bx b2 : Nat → Int32} {g n t : Nat} {x y : Int32} (h : sgI px py sg fx fy mi ax ay bx b2 g n t) (hg : g ≤ 6) : ∀ i, i < n → mFx (upd px g x) sg i = mFx px sg i ∧ mFx (upd py g y) sg i = mFx py sg i := by
  intro i hi
  obtain ⟨-, ⟨p, hp, ep⟩, -⟩ := h i hi
  unfold mFx
  rw [ep, nI_clamp (by omega), upd_n (by omega), upd_n (by omega)]
  exact ⟨rfl, rfl⟩
theorem sgI_post {px py sg fx fy mi ax ay bx b2 : Nat → Int32} {g n t : Nat} {x y : Int32} (h : sgI px py sg fx fy mi ax ay bx b2 g n t) (hg : g ≤ 6) : sgI (upd px g x) (upd py g y) sg fx fy mi ax ay bx b2 (g + 1) n t := by
  intro i hi
  obtain ⟨e1, e2⟩ := fx_post (x := x) (y := y) h hg i hi
  obtain ⟨⟨h1, h2, h3⟩, ⟨p, hp, ep⟩, ⟨h5, h6, h7⟩, h8⟩ := h i hi
  exact ⟨⟨by rw [e1]; exact h1, by rw [e2]; exact h2, h3⟩, ⟨p, by omega, ep⟩, ⟨h5, by rw [e1]; exact h6, by rw [e2]; exact h7⟩, h8⟩
theorem plI_post {px py sg fx fy mi ax ay bx b2 fi se tk mj le bo rg tp la : Nat → Int32} {g n t z m : Nat} {x y : Int32} (h : sgI px py sg fx fy mi ax ay bx b2 g n t) (hg : g ≤ 6) (hn : n ≤ 100) (hl : plI px py sg fi se tk mj le bo rg tp la n z m) : plI (upd px g x) (upd py g y) sg fi se tk mj le bo rg tp la n z m :=
  plI_congr (Nat.le_refl _) hn (fun _ _ _ _ => rfl) (fx_post h hg) hl
theorem sgI_mono {px py sg fx fy mi ax ay bx b2 : Nat → Int32} {g n t t' : Nat} (h : sgI px py sg fx fy mi ax ay bx b2 g n t) (ht : t ≤ t') : sgI px py sg fx fy mi ax ay bx b2 g n t' := by
  intro i hi
  obtain ⟨h1, h2, h3, h4, h5⟩ := h i hi
  exact ⟨h1, h2, h3, h4, by omega⟩
theorem sg_old (tv sg : Nat → Int32) (n : Nat) : ∀ i, i < n → ∀ c, c < 6 → cpN tv (6 * n) sg 6 (6 * i + c) = sg (6 * i + c) := by
  intro i hi c hc
  rw [cpN_at, if_neg (by omega)]
theorem sg_new (tv sg : Nat → Int32) (n c : Nat) (hc : c < 6) : cpN tv (6 * n) sg 6 (6 * n + c) = tv c := by
  rw [cpN_at, if_pos (by omega), show 6 * n + c - 6 * n = c by omega]
theorem sgI_sight {px py sg fx fy mi ax ay bx b2 : Nat → Int32} {g n t : Nat} {p a b c d : Int32} (h : sgI px py sg fx fy mi ax ay bx b2 g n t) (hpo : poI px py g) (hg : g ≤ 6) (ht : t ≤ 20000) (ok : okG p g a b c d) : sgI px py (cpN (tl6 p (nI t) a b c d) (6 * n) sg 6) (upd fx n (px p.toNatClampNeg)) (upd fy n (py p.toNatClampNeg)) (upd mi n (nI t)) (upd ax n a) (upd ay n b) (upd bx n c) (upd b2 n d) g (n + 1) t := by
  intro i hi
  have old := sg_old (tl6 p (nI t) a b c d) sg n
  by_cases q : i = n
  · subst q
    have nw := sg_new (tl6 p (nI t) a b c d) sg i
    obtain ⟨k, hk, rfl⟩ := okS_nat ok.1 (by omega)
    have bd := hpo k hk
    have m0 : mFx px (cpN (tl6 (nI k) (nI t) a b c d) (6 * i) sg 6) i = px k := by unfold mFx; rw [nw 0 (by omega)]; show px (nI k).toNatClampNeg = _; rw [nI_clamp (by omega)]
    have m1 : mFx py (cpN (tl6 (nI k) (nI t) a b c d) (6 * i) sg 6) i = py k := by unfold mFx; rw [nw 0 (by omega)]; show py (nI k).toNatClampNeg = _; rw [nI_clamp (by omega)]
    have w1 : cpN (tl6 (nI k) (nI t) a b c d) (6 * i) sg 6 (6 * i + 1) = nI t := nw 1 (by omega)
    have w2 : cpN (tl6 (nI k) (nI t) a b c d) (6 * i) sg 6 (6 * i + 2) = a := nw 2 (by omega)
    have w3 : cpN (tl6 (nI k) (nI t) a b c d) (6 * i) sg 6 (6 * i + 3) = b := nw 3 (by omega)
    have w4 : cpN (tl6 (nI k) (nI t) a b c d) (6 * i) sg 6 (6 * i + 4) = c := nw 4 (by omega)
    have w5 : cpN (tl6 (nI k) (nI t) a b c d) (6 * i) sg 6 (6 * i + 5) = d := nw 5 (by omega)
    have ab : ∀ u v : Int32, okE u v → u.toInt.natAbs ≤ 50 ∧ v.toInt.natAbs ≤ 50 := by
      intro u v hu
      obtain ⟨u1, u2, u3, u4⟩ := hu
      rw [Int32.le_iff_toInt_le] at u1 u2 u3 u4
      have e1 : (-50 : Int32).toInt = -50 := by decide
      have e2 : (50 : Int32).toInt = 50 := rfl
      omega
    obtain ⟨a1, a2⟩ := ab _ _ ok.2.1
    obtain ⟨a3, a4⟩ := ab _ _ ok.2.2.1
    rw [nI_clamp (by omega)]
    refine ⟨⟨by rw [upd_s, m0], by rw [upd_s, m1], by rw [upd_s, w1], by rw [upd_s, w2], by rw [upd_s, w3], by rw [upd_s, w4], by rw [upd_s, w5]⟩, ⟨k, hk, nw 0 (by omega)⟩, ⟨?_, by rw [m0]; exact bd.1, by rw [m1]; exact bd.2⟩, ?_, ?_⟩
    · intro e he
      match e, he with
      | 0, _ => show (cpN (tl6 (nI k) (nI t) a b c d) (6 * i) sg 6 (6 * i + 2)).toInt.natAbs ≤ 50; rw [w2]; exact a1
      | 1, _ => show (cpN (tl6 (nI k) (nI t) a b c d) (6 * i) sg 6 (6 * i + 3)).toInt.natAbs ≤ 50; rw [w3]; exact a2
      | 2, _ => show (cpN (tl6 (nI k) (nI t) a b c d) (6 * i) sg 6 (6 * i + 4)).toInt.natAbs ≤ 50; rw [w4]; exact a3
      | 3, _ => show (cpN (tl6 (nI k) (nI t) a b c d) (6 * i) sg 6 (6 * i + 5)).toInt.natAbs ≤ 50; rw [w5]; exact a4
    · rw [w1, nI_toInt (by omega)]; omega
    · rw [w1, nI_toInt (by omega)]; omega
  · obtain ⟨⟨h1, h2, h3, h4, h5, h6, h7⟩, ⟨k, hk, ek⟩, ⟨h8, h9, h10⟩, h11, h12⟩ := h i (by omega)
    have hi' : i < n := by omega
    have o0 : mFx px (cpN (tl6 p (nI t) a b c d) (6 * n) sg 6) i = mFx px sg i := by unfold mFx; rw [old i hi' 0 (by omega)]
    have o1 : mFx py (cpN (tl6 p (nI t) a b c d) (6 * n) sg 6) i = mFx py sg i := by unfold mFx; rw [old i hi' 0 (by omega)]
    rw [upd_n q, upd_n q, upd_n q, upd_n q, upd_n q, upd_n q, upd_n q, o0, o1, old i hi' 0 (by omega), old i hi' 1 (by omega), old i hi' 2 (by omega), old i hi' 3 (by omega), old i hi' 4 (by omega), old i hi' 5 (by omega)]
    refine ⟨⟨h1, h2, h3, h4, h5, h6, h7⟩, ⟨k, hk, ek⟩, ⟨fun e he => ?_, by rw [o0]; exact h9, by rw [o1]; exact h10⟩, h11, h12⟩
    rw [old i hi' (2 + e) (by omega)]
    exact h8 e he
theorem plI_sight {px py sg fi se tk mj le bo rg tp la : Nat → Int32} {n z m : Nat} {tv : Nat → Int32} (hn : n < 100) (hl : plI px py sg fi se tk mj le bo rg tp la n z m) : plI px py (cpN tv (6 * n) sg 6) fi se tk mj le bo rg tp la (n + 1) z m :=
  plI_congr (by omega) (by omega) (sg_old tv sg n) (fun _ _ => ⟨rfl, rfl⟩) hl
/-! Boats. -/
theorem boI_mono {pb pl pe pt lp im pa : Nat → Int32} {k n t t' : Nat} (h : boI pb pl pe pt lp im pa k n t) (ht : t ≤ t') : boI pb pl pe pt lp im pa k n t' := by
  refine ⟨fun i hi => ?_, h.2.1, fun b hb => ?_⟩
  · obtain ⟨h1, h2, h3, h4, h5, h6, h7⟩ := h.1 i hi
    exact ⟨h1, h2, h3, h4, h5, by omega, h7⟩
  · rcases h.2.2 b hb with z | z
    · exact Or.inl z
    · exact Or.inr ⟨z.1, by omega⟩
theorem boI_in {pb pl pe pt lp im pa : Nat → Int32} {k n t : Nat} (ht : t ≤ 20000) (h : boI pb pl pe pt lp im pa k n t) (j : Nat) : boI pb pl pe pt lp (upd im j (nI t)) pa k n t := by
  refine ⟨h.1, h.2.1, fun b hb => ?_⟩
  by_cases q : b = j
  · rw [q, upd_s, nI_toInt (by omega)]
    exact Or.inr ⟨by omega, by omega⟩
  · rw [upd_n q]; exact h.2.2 b hb
theorem boI_plan {pb pl pe pt lp im pa : Nat → Int32} {k n t j : Nat} {le du gr : Int32} (ht : t ≤ 20000) (hk : k < 100) (hn : n ≤ 30) (hj : j < 30) (hjn : j ≤ n) (ok : okQ le du gr) (h : boI pb pl pe pt lp im pa k n t) : boI (upd pb k (nI j)) (upd pl k le) (upd pe k (du + gr)) (upd pt k (nI t)) (upd lp j (nI k)) (if j = n then upd im j (-1) else im) (cpN (tl5 (nI j) (nI t) le du gr) (5 * k) pa 5) (k + 1) (if j = n then n + 1 else n) t := by
  have old : ∀ i, i < k → ∀ c, c < 5 → cpN (tl5 (nI j) (nI t) le du gr) (5 * k) pa 5 (5 * i + c) = pa (5 * i + c) := by
    intro i hi c hc
    rw [cpN_at, if_neg (by omega)]
  have nw : ∀ c, c < 5 → cpN (tl5 (nI j) (nI t) le du gr) (5 * k) pa 5 (5 * k + c) = tl5 (nI j) (nI t) le du gr c := by
    intro c hc
    rw [cpN_at, if_pos (by omega), show 5 * k + c - 5 * k = c by omega]
  obtain ⟨⟨q1, q2⟩, ⟨q3, q4⟩, q5, q6⟩ := ok
  rw [Int32.le_iff_toInt_le] at q1 q2 q3 q4 q5 q6
  rw [i32_0] at q1 q5
  have e1 : (20000 : Int32).toInt = 20000 := rfl
  have e2 : (600 : Int32).toInt = 600 := rfl
  have hadd : (du + gr).toInt = du.toInt + gr.toInt := by
    rw [Int32.toInt_add]
    exact Int.bmod_eq_of_le (by omega) (by omega)
  have hn' : n ≤ (if j = n then n + 1 else n) := by split <;> omega
  have hj' : j < (if j = n then n + 1 else n) := by split <;> omega
  refine ⟨fun i hi => ?_, fun b hb => ?_, fun b hb => ?_⟩
  · by_cases q : i = k
    · subst q
      refine ⟨?_, ?_, ?_, ?_, ⟨j, hj', upd_s⟩, ?_, ?_, ?_, ?_⟩
      · rw [upd_s]; exact (nw 0 (by omega)).symm
      · rw [upd_s]; exact (nw 1 (by omega)).symm
      · rw [upd_s]; exact (nw 2 (by omega)).symm
      · rw [upd_s]
        show du + gr = cpN _ _ _ _ (5 * i + 3) + cpN _ _ _ _ (5 * i + 4)
        rw [nw 3 (by omega), nw 4 (by omega)]
        rfl
      · rw [upd_s, nI_toInt (by omega)]; omega
      · rw [upd_s, upd_s, hadd]; omega
      · rw [upd_s, hadd]; omega
      · rw [upd_s, hadd]; omega
    · have hi' : i < k := by omega
      obtain ⟨h1, h2, h3, h4, ⟨b, hb, eb⟩, h6, h7, h8, h9⟩ := h.1 i hi'
      rw [upd_n q, upd_n q, upd_n q, upd_n q]
      refine ⟨?_, ?_, ?_, ?_, ⟨b, by omega, eb⟩, h6, h7, h8, h9⟩
      · rw [h1]; exact (old i hi' 0 (by omega)).symm
      · rw [h2]; exact (old i hi' 1 (by omega)).symm
      · rw [h3]; exact (old i hi' 2 (by omega)).symm
      · rw [h4]
        show pa (5 * i + 3) + pa (5 * i + 4) = cpN _ _ _ _ (5 * i + 3) + cpN _ _ _ _ (5 * i + 4)
        rw [old i hi' 3 (by omega), old i hi' 4 (by omega)]
  · by_cases q : b = j
    · subst q
      refine ⟨k, by omega, upd_s, upd_s, fun i h1 h2 => by omega⟩
    · have hb' : b < n := by
        by_cases z : j = n
        · rw [if_pos z] at hb; omega
        · rw [if_neg z] at hb; exact hb
      obtain ⟨j9, g1, g2, g3, g4⟩ := h.2.1 b hb'
      refine ⟨j9, by omega, by rw [upd_n q]; exact g2, by rw [upd_n (by omega)]; exact g3, fun i h1 h2 => ?_⟩
      by_cases z : i = k
      · rw [z, upd_s]
        intro e
        exact q (nI_inj (by omega) (by omega) e).symm
      · rw [upd_n z]; exact g4 i h1 (by omega)
  · by_cases z : j = n
    · rw [if_pos z] at hb ⊢
      by_cases q : b = j
      · rw [q, upd_s]; exact Or.inl rfl
      · rw [upd_n q]; exact h.2.2 b (by omega)
    · rw [if_neg z] at hb ⊢
      exact h.2.2 b hb
theorem deI_call {de : Nat → Int32} {r m : Int32} (h : deI de) (ok : okR r m) : deI (upd de r.toNatClampNeg m) := by
  intro i hi
  by_cases q : i = r.toNatClampNeg
  · rw [q, upd_s]
    obtain ⟨-, h1, h2⟩ := ok
    rw [Int32.le_iff_toInt_le] at h1 h2
    rw [m1_toInt] at h1
    have e2 : (2000 : Int32).toInt = 2000 := rfl
    by_cases z : m.toInt = -1
    · exact Or.inl (Int32.toInt_inj.mp (by rw [z, m1_toInt]))
    · exact Or.inr ⟨by omega, by omega⟩
  · rw [upd_n q]; exact h i hi
