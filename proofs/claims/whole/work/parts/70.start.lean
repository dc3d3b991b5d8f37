/-! The law: from its entry to its end. -/
theorem sp2 {ca : List (Nat × rz_S)} {cz : List (Nat × rz_Z)} {ck : List (Nat × rz_K × Nat × Nat)} : ∀ k, rz_mem k (ca.map Prod.fst ++ (cz.map Prod.fst ++ ck.map Prod.fst)) = true → (∃ z, rz_get ca k = some z) ∨ (∃ z, rz_get cz k = some z) ∨ ∃ z, rz_get ck k = some z := by
  intro k hk
  rw [rz_mem_app, rz_mem_app] at hk
  rcases (Bool.or_eq_true _ _).mp hk with h | h
  · exact Or.inl (rz_mem_get k ca h)
  · rcases (Bool.or_eq_true _ _).mp h with h | h
    · exact Or.inr (Or.inl (rz_mem_get k cz h))
    · exact Or.inr (Or.inr (rz_mem_get k ck h))
theorem sp1 {ca : List (Nat × rz_S)} {r : List Nat} : ∀ q ∈ ca, rz_mem q.1 (ca.map Prod.fst ++ r) = true := by
  intro q hq
  rw [rz_mem_app, rz_mem_in hq]
  rfl
theorem sp3 {a : List Nat} {cz : List (Nat × rz_Z)} {r : List Nat} : ∀ q ∈ cz, rz_mem q.1 (a ++ (cz.map Prod.fst ++ r)) = true := by
  intro q hq
  rw [rz_mem_app, rz_mem_app, rz_mem_in hq]
  cases rz_mem q.1 a <;> rfl
theorem sp4 {a z : List Nat} {ck : List (Nat × rz_K × Nat × Nat)} : ∀ q ∈ ck, rz_mem q.1 (a ++ (z ++ ck.map Prod.fst)) = true := by
  intro q hq
  rw [rz_mem_app, rz_mem_app, rz_mem_in hq]
  cases rz_mem q.1 a <;> cases rz_mem q.1 z <;> rfl
theorem lw_init : lwI z0 z0 z0 z0 z0 z0 z0 z0 z0 z0 z0 z0 z0 z0 z0 z0 z0 z0 z0 z0 z0 z0 z0 z0 (flV (-1) z0 5) z0 z0 0 0 0 0 0 0 0 0 0 := by
  refine ⟨⟨by omega, by omega, by omega, by omega, by omega, by omega, by omega, by omega, by omega⟩, fun p h => absurd h (Nat.not_lt_zero p), fun i h => absurd h (Nat.not_lt_zero i), ⟨⟨fun p h => absurd h (Nat.not_lt_zero p), fun t h => absurd h (Nat.not_lt_zero t)⟩, fun t h => absurd h (Nat.not_lt_zero t), fun p h => absurd h (Nat.not_lt_zero p)⟩, ⟨fun i h => absurd h (Nat.not_lt_zero i), fun b h => absurd h (Nat.not_lt_zero b), fun b h => absurd h (Nat.not_lt_zero b)⟩, fun r hr => Or.inl ?_⟩
  unfold flV
  rw [if_pos hr]
def JS : List (Nat × rz_XJ) := [(23, [0, 1, 2, 3, 4], fun _ lv w cs sl => lv = [(0, .ref 999), (1, .ref 0), (2, .ref 50), (3, .ref 80), (4, .int (nI 0))] ∧ w = (0, oCW (nI 0)) :: (wLk z0 z0 z0 z0 z0 (flV 300 z0 334) z0 (nI 0) (nI 0) ++ (wSg z0 z0 z0 z0 z0 z0 z0 (nI 0) ++ (wSh z1 z1 z1 z1 z1 z1 z1 z1 z1 0 ++ (wPl z0 z0 z0 z0 z0 z0 z0 z0 z0 (nI 0) (nI 0) 10 ++ (wBo z0 z0 z0 z0 z0 z0 (nI 0) (nI 0) ++ (wCl (flV (-1) z0 5) ((z0, z0, z0, 0)).1 ((z0, z0, z0, 0)).2.1 ((z0, z0, z0, 0)).2.2.1 (nI ((z0, z0, z0, 0)).2.2.2) ++ wM (oMo 0 (nI 0) (nI 0) (nI 0) (nI 0) (nI 0) (nI 0) (nI 0) (nI 0) (nI ((z0, z0, z0, 0)).2.2.2) 10 0) z0 z0 z0 z0 z0 (flV 300 z0 334) z0 z0 z0 z0 z0 z0 ru0 ((z0, z0, z0, 0)).1 ((z0, z0, z0, 0)).2.1 ((z0, z0, z0, 0)).2.2.1 z1 z1 z1 z1 z1 z1 z1 z1)))))) ∧ cs = 74 ∧ sl = 5741)]
set_option maxHeartbeats 8000000 in
set_option maxRecDepth 20000 in
theorem lw_ent {L : Nat} {xs : Nat → Int32} : rz_xrun L xs [] x_df czL [] xa_lA k_lA [] [] [] s_lA true 601024 7293034 JS (fun _ _ => False) 1 120 0 [(0, .ref 999)] [] [] 0 0 := by
  conv => whnf
  refine ⟨Nat.le_of_ble_eq_true rfl, Nat.le_of_ble_eq_true rfl, ?_⟩
  conv => whnf
  refine ⟨rfl, Nat.le_of_ble_eq_true rfl, Nat.le_of_ble_eq_true rfl, ?_⟩
  conv => whnf
  refine ⟨Nat.le_of_ble_eq_true rfl, Nat.le_of_ble_eq_true rfl, ?_⟩
  conv => whnf
  refine ⟨rfl, Nat.le_of_ble_eq_true rfl, Nat.le_of_ble_eq_true rfl, ?_⟩
  conv => whnf
  refine ⟨rfl, Nat.le_of_ble_eq_true rfl, Nat.le_of_ble_eq_true rfl, ?_⟩
  conv => whnf
  rintro _ rfl
  conv => whnf
  exact ⟨0, Nat.zero_lt_one, rfl, rfl, rfl, rfl⟩
set_option maxHeartbeats 8000000 in
theorem whole_start {p : Program} {e : Env} {s : State} {m : MethodId} {below : List Frame} {meth : Method} {c : Code} (l : Launch) (hst : l.stackTraces = false) {b L : Nat} {xs : Nat → Int32} (hL : L ≤ 3072) (C0 : lw_At p s m meth c b L xs) : W p l e room_1 s m #[Value.ref b] below meth c s.heap [] 0 0 (lw_Z below #[Value.ref b] s) (entryFrame m ([Value.ref b] : List Value).toArray 8) := by
  obtain ⟨hx, hb, hr, hml, hown, hts0, hX, hbl, hlocks, hgv⟩ := id C0
  have hts : ∀ w ∈ bw, w.before #[Value.ref b] s = true := fun w hw => hts0 w (bw_good w hw).1
  have hnw : rz_NW s := rz_NW.of (fun w hw => hts0 w (List.mem_append_right _ hw))
  have hr2 : meth.sig.returnType = some .boolean := hr
  have hA : ∀ q : Nat, s.heap.size ≤ q → (fun q : Nat => s.heap.size ≤ q) q := fun _ h => h
  have kn : ∀ (ci : Nat) (C : String) (T : u_T) (N : Nat), vwCl[ci]? = some (C, T, N) → ∃ (cC : ClassId) (iS : Nat → Nat), u_Kn s C T N cC iS := by
    intro ci C T N h
    have hin : Cond.instantiable C N ∈ bw := by
      match ci, h with
      | 0, h => cases h; exact bw_t 187 (by decide +kernel) rfl
      | 1, h => cases h; exact bw_t 221 (by decide +kernel) rfl
      | 2, h => cases h; exact bw_t 26 (by decide +kernel) rfl
      | 3, h => cases h; exact bw_t 141 (by decide +kernel) rfl
      | 4, h => cases h; exact bw_t 102 (by decide +kernel) rfl
      | 5, h => cases h; exact bw_t 69 (by decide +kernel) rfl
      | 6, h => cases h; exact bw_t 18 (by decide +kernel) rfl
      | 7, h => cases h; exact bw_t 676 (by decide +kernel) rfl
      | k + 8, h => simp [vwCl] at h
    exact u_known (n := N) hts (rz_cls ci C T N h).1 (hts _ hin)
  obtain ⟨D, hD1⟩ : ∃ D : va_G, ∀ (k : Nat) (q : vw_C), vwCl[k]? = some q → u_Kn s q.1 q.2.1 q.2.2 (D.1 k) (D.2 k) := by
    have h9 : ∀ k : Nat, ∃ (x : ClassId × (Nat → Nat)), ∀ q : vw_C, vwCl[k]? = some q → u_Kn s q.1 q.2.1 q.2.2 x.1 x.2 := by
      intro k
      cases hk : vwCl[k]? with
      | none => exact ⟨(default, fun _ => 0), fun q h => by cases h⟩
      | some q =>
        obtain ⟨C, T, N⟩ := q
        obtain ⟨cC, iS, h⟩ := kn k C T N hk
        exact ⟨(cC, iS), fun q hq => by cases hq; exact h⟩
    exact ⟨(fun k => (Classical.choose (h9 k)).1, fun k => (Classical.choose (h9 k)).2), fun k q h => Classical.choose_spec (h9 k) q h⟩
  have arr : ∀ ty : FieldType, (ty = .int ∨ ty = .long) → Cond.arrayClass ty ∈ bw → ∃ cA : ClassId, ArrOfT s cA ty ∧ va_RA s cA ty := by
    intro ty hty hw
    obtain ⟨cA, kA, comp, h1, h2, h3⟩ := Cond.arrayClass_spec (hts _ hw)
    refine ⟨cA, fun n z => ⟨fun k h => (by cases h), kA, h2, comp, h3⟩, ?_⟩
    rcases hty with rfl | rfl <;> exact h1
  obtain ⟨cI, aI⟩ := arr .int (Or.inl rfl) rz_arrI
  obtain ⟨cJ, aJ⟩ := arr .long (Or.inr rfl) rz_arrJ
  have hK : va_K D vwCl [(cI, .int), (cJ, .long)] s := ⟨hD1, fun k q h => by
    match k, h with
    | 0, h => cases h; exact aI
    | 1, h => cases h; exact aJ
    | k + 2, h => simp at h⟩
  have no : ∀ q ∈ ([] : List (Nat × rz_Z)), rz_CtorOK l room_1 R_law code q.1 q.2 := fun q hq => absurd hq List.not_mem_nil
  have hxp : rz_XP (fun q : Nat => s.heap.size ≤ q) s s.heap := by
    have hf := flat_of_before _ hgv
    refine ⟨fun w hw => va_Nw.of (A := #[Value.ref b]) ?_ (hts0 w ?_), ?_, ?_⟩
    · rcases List.mem_cons.mp hw with rfl | hw
      · rfl
      rcases List.mem_cons.mp hw with rfl | hw
      · rfl
      rcases List.mem_cons.mp hw with rfl | hw
      · rfl
      rcases List.mem_cons.mp hw with rfl | hw
      · rfl
      exact absurd hw List.not_mem_nil
    · refine List.mem_append_right _ ?_
      rcases List.mem_cons.mp hw with rfl | hw
      · exact List.mem_of_getElem? (i := 604) (by decide +kernel)
      rcases List.mem_cons.mp hw with rfl | hw
      · exact List.mem_of_getElem? (i := 605) (by decide +kernel)
      rcases List.mem_cons.mp hw with rfl | hw
      · exact List.mem_of_getElem? (i := 607) (by decide +kernel)
      rcases List.mem_cons.mp hw with rfl | hw
      · exact List.mem_of_getElem? (i := 609) (by decide +kernel)
      exact absurd hw List.not_mem_nil
    · exact vx_Zqof (hts0 _ (List.mem_append_right _ (List.mem_of_getElem? (i := 629) (by decide +kernel)))) (hts0 _ (List.mem_append_right _ (List.mem_of_getElem? (i := 13) (by decide +kernel)))) (hf _ (by decide +kernel)) (fun a h => Nat.not_le.mpr h)
    · exact vx_Zqof (hts0 _ (List.mem_append_right _ (List.mem_of_getElem? (i := 631) (by decide +kernel)))) (hts0 _ (List.mem_append_right _ (List.mem_of_getElem? (i := 13) (by decide +kernel)))) (hf _ (by decide +kernel)) (fun a h => Nat.not_le.mpr h)
  have hcz : ∀ q ∈ czL, rz_CtorOK l room_1 R_law code q.1 q.2 := by
    intro q hq
    rcases List.mem_cons.mp hq with rfl | hq
    · exact rz_ctorI (cz_X6 l) (by decide) ⟨Nat.le_of_ble_eq_true rfl, Nat.le_of_ble_eq_true rfl⟩ m_X6_init rfl i_X6_init n_L_19 dl_4
    rcases List.mem_cons.mp hq with rfl | hq
    · exact rz_ctorI (cz_X7 l) (by decide) ⟨Nat.le_of_ble_eq_true rfl, Nat.le_of_ble_eq_true rfl⟩ m_X7_init rfl i_X7_init n_L_22 dl_12
    exact absurd hq List.not_mem_nil
  have hXP : ∀ (B : Nat → Prop) (H : Heap) (locs : List Loc), (∀ q, B q → (fun q : Nat => s.heap.size ≤ q) q) → va_S (fun q : Nat => s.heap.size ≤ q) s.heap H locs → rz_XP B s H := fun B H locs h1 h2 => hxp.sub h1 h2
  have hQQ : ∀ (H : Heap) (locs : List Loc) (g : JFrame), W p l e room_1 s m #[Value.ref b] below meth c H locs 601024 7293034 (MQ below (fun _ _ _ _ => False) #[Value.ref b] s 601024 7293034 (fun _ => True)) g → W p l e room_1 s m #[Value.ref b] below meth c H locs 601024 7293034 (lw_Z below #[Value.ref b] s) g := by
    intro H locs g h T hT X
    obtain ⟨t, a1, o, b1, b2, b3, b4⟩ := h T hT X
    exact b3.elim
  have h56 : ∀ (ks : List Nat) (adr0 : Nat → Nat) (k : Nat) (lv : rz_L) (w : rz_W) (cs sl : Nat), rz_G p l e room_1 s m #[Value.ref b] below meth c (lw_Z below #[Value.ref b] s) D cI cJ (fun q : Nat => s.heap.size ≤ q) 8 ks 601024 7293034 adr0 1056 lv [] w cs sl := by
    intro ks adr0 k lv w cs sl adr H locs ls hrel
    obtain ⟨g1, g2, g3, g4, g5, g6, g8, g9⟩ := hrel
    refine va_forget (fun q hq => g3.2.2 q hq) (W.widen g8 g9 ?_)
    exact lv_iconst (v := 1) hx hb (by decide +kernel : decode code 1056 = .ok (.iconst 1, 1)) (by decide) (lw_ret hx hb hr hlocks (by decide +kernel))
  -- a stretch of the law's code
  have chunk : ∀ (cod : List (Nat × rz_I)) (ca : List (Nat × rz_S)) (cz : List (Nat × rz_Z)) (ck : List (Nat × rz_K × Nat × Nat)) (sw : List (Int32 × Nat)) (ks : List Nat) (adr0 : Nat → Nat) (J : List (Nat × rz_XJ)) (pc : Nat) (lv : rz_L) (w : rz_W) (cs sl : Nat), adr0 999 = b → (∀ q ∈ ca, ¬ q.2.1 = 3) → (∀ q ∈ cz, rz_CtorOK l room_1 R_law code q.1 q.2) → (∀ q ∈ ck, rz_CallOKA rz_XP l room_1 R_law code q.1 q.2.1 q.2.2.1 q.2.2.2) → (∀ q ∈ cod, rz_rowX R_law code 8 (some .boolean) true sw (ca.map Prod.fst ++ (cz.map Prod.fst ++ ck.map Prod.fst)) q.1 q.2) → (∀ q ∈ cod, ∀ z, rz_get ca q.1 = some z → rz_caOK R_law x_df z q.2.1) → (∀ q ∈ cod, rz_get ca q.1 = none → rz_mem q.1 (ca.map Prod.fst ++ (cz.map Prod.fst ++ ck.map Prod.fst)) = true → rz_len q.2.1 = 3) → (∀ q ∈ J, ∀ k lv w cs sl, q.2.2 k lv w cs sl → rz_G p l e room_1 s m #[Value.ref b] below meth c (lw_Z below #[Value.ref b] s) D cI cJ (fun q : Nat => s.heap.size ≤ q) 8 ks 601024 7293034 adr0 q.1 lv [] w cs sl) → rz_xrun L xs ks x_df cz ck ca cod [] [] [] sw true 601024 7293034 J (fun _ _ => False) 1 120 pc lv [] w cs sl → rz_G p l e room_1 s m #[Value.ref b] below meth c (lw_Z below #[Value.ref b] s) D cI cJ (fun q : Nat => s.heap.size ≤ q) 8 ks 601024 7293034 adr0 pc lv [] w cs sl := by
    intro cod ca cz ck sw ks adr0 J pc lv w cs sl h999 hn3 hcz9 hck9 hrow hk9 hl9 hJ h0
    exact rz_xall (own := R_law) (cc := code) (ret := some .boolean) (bz := true) (fld := []) (cal := []) (cav := []) (sw := sw) (cod := cod) (df := x_df) (cz := cz) (ck := ck) (ca := ca) (L := L) (xs := xs) (sp := ca.map Prod.fst ++ (cz.map Prod.fst ++ ck.map Prod.fst)) (Q := fun _ _ => False) (Qc := fun _ _ _ _ => False) (free := fun _ => True) (J := J) (N := 120) (n0 := 1) hx hb hlocks hml hown hts hnw hK hA ⟨Nat.le_refl _, Nat.le_refl _⟩ hr2 (fun ix q h => by cases h) (fun ix q h => by cases h) (fun ix q h => by cases h) (fun _ _ _ _ _ _ _ _ _ _ h => h.elim) hQQ rz_cls ⟨Nat.le_of_ble_eq_true rfl, Nat.le_of_ble_eq_true rfl⟩ (Or.inr hn3) (Or.inr (by rw [h999]; exact ⟨hX, hbl, Nat.not_le.mpr hbl⟩)) hcz9 (XP := rz_XP) hXP hck9 sp1 sp2 sp3 sp4 hrow hk9 hl9 (fun q hq => Or.inr (hJ q hq)) h0
  -- the loop
  have loop : ∀ (d i : Nat) (adr0 : Nat → Nat) (lv : rz_L) (w : rz_W) (cs sl : Nat), adr0 999 = b → L + 6 - i ≤ d → i ≤ L → LI i 0 lv w cs sl → rz_G p l e room_1 s m #[Value.ref b] below meth c (lw_Z below #[Value.ref b] s) D cI cJ (fun q : Nat => s.heap.size ≤ q) 8 ksL 601024 7293034 adr0 23 lv [] w cs sl := by
    intro d
    induction d with
    | zero => intro i adr0 lv w cs sl h999 hd hi; omega
    | succ d ih =>
      intro i adr0 lv w cs sl h999 hd hi hLI
      have h50 : ∀ (lv : rz_L) (w : rz_W) (cs sl : Nat), i + 6 ≤ L → LI i 1 lv w cs sl → rz_G p l e room_1 s m #[Value.ref b] below meth c (lw_Z below #[Value.ref b] s) D cI cJ (fun q : Nat => s.heap.size ≤ q) 8 ksL 601024 7293034 adr0 1050 lv [] w cs sl := by
        intro lv w cs sl hi6 hj
        refine chunk k_lT xa_lT [] [] s_lT ksL adr0 (J23 i) 1050 lv w cs sl h999 xn_lT no (fun q hq => absurd hq List.not_mem_nil) xr_lT xk_lT xl_lT ?_ (lw_h50 hj)
        intro q hq
        rcases List.mem_cons.mp hq with rfl | hq
        · exact fun k lv w cs sl hj => ih (i + 6) adr0 lv w cs sl h999 (by omega) hi6 hj
        · exact absurd hq List.not_mem_nil
      have hc : ∀ (cod : List (Nat × rz_I)) (ca : List (Nat × rz_S)) (ck : List (Nat × rz_K × Nat × Nat)) (pc : Nat) (lv : rz_L) (w : rz_W) (cs sl : Nat), (∀ q ∈ ca, ¬ q.2.1 = 3) → (∀ q ∈ ck, rz_CallOKA rz_XP l room_1 R_law code q.1 q.2.1 q.2.2.1 q.2.2.2) → (∀ q ∈ cod, rz_rowX R_law code 8 (some .boolean) true [] (ca.map Prod.fst ++ ([] ++ ck.map Prod.fst)) q.1 q.2) → (∀ q ∈ cod, ∀ z, rz_get ca q.1 = some z → rz_caOK R_law x_df z q.2.1) → (∀ q ∈ cod, rz_get ca q.1 = none → rz_mem q.1 (ca.map Prod.fst ++ ([] ++ ck.map Prod.fst)) = true → rz_len q.2.1 = 3) → i + 6 ≤ L → rz_xrun L xs ksL x_df [] ck ca cod [] [] [] [] true 601024 7293034 (J50 i) (fun _ _ => False) 1 120 pc lv [] w cs sl → rz_G p l e room_1 s m #[Value.ref b] below meth c (lw_Z below #[Value.ref b] s) D cI cJ (fun q : Nat => s.heap.size ≤ q) 8 ksL 601024 7293034 adr0 pc lv [] w cs sl := by
        intro cod ca ck pc lv w cs sl h3 hk h4 h5 h6 hi6 h0
        refine chunk cod ca [] ck [] ksL adr0 (J50 i) pc lv w cs sl h999 h3 no hk h4 h5 h6 ?_ h0
        intro q hq
        rcases List.mem_cons.mp hq with rfl | hq
        · exact fun k lv w cs sl hj => h50 lv w cs sl hi6 hj
        · exact absurd hq List.not_mem_nil
      refine chunk k_lB xa_lB [] [] s_lB ksL adr0 (JB L i) 23 lv w cs sl h999 xn_lB no (fun q hq => absurd hq List.not_mem_nil) xr_lB xk_lB xl_lB ?_ (lw_h23 hL hi hLI)
      intro q hq
      rcases List.mem_cons.mp hq with rfl | hq
      · exact fun k lv w cs sl hj => h50 lv w cs sl hj.1 hj.2
      rcases List.mem_cons.mp hq with rfl | hq
      · exact fun k lv w cs sl _ => h56 ksL adr0 k lv w cs sl
      rcases List.mem_cons.mp hq with rfl | hq
      · exact fun k lv w cs sl hj => hc k_l0 xa_l0 ck_l0 140 lv w cs sl xn_l0 (lk_0 l hst) xr_l0 xk_l0 xl_l0 hj.1 (lw_c0 hL hj.1 hj.2)
      rcases List.mem_cons.mp hq with rfl | hq
      · exact fun k lv w cs sl hj => hc k_l1 xa_l1 ck_l1 189 lv w cs sl xn_l1 (lk_1 l hst) xr_l1 xk_l1 xl_l1 hj.1 (lw_c1 hL hj.1 hj.2)
      rcases List.mem_cons.mp hq with rfl | hq
      · exact fun k lv w cs sl hj => hc k_l2 xa_l2 ck_l2 226 lv w cs sl xn_l2 (lk_2 l hst) xr_l2 xk_l2 xl_l2 hj.1 (lw_c2 hL hj.1 hj.2)
      rcases List.mem_cons.mp hq with rfl | hq
      · exact fun k lv w cs sl hj => hc k_l3 xa_l3 ck_l3 263 lv w cs sl xn_l3 (lk_3 l hst) xr_l3 xk_l3 xl_l3 hj.1 (lw_c3 hL hj.1 hj.2)
      rcases List.mem_cons.mp hq with rfl | hq
      · exact fun k lv w cs sl hj => hc k_l4 xa_l4 ck_l4 324 lv w cs sl xn_l4 (lk_4 l hst) xr_l4 xk_l4 xl_l4 hj.1 (lw_c4 hL hj.1 hj.2)
      rcases List.mem_cons.mp hq with rfl | hq
      · exact fun k lv w cs sl hj => hc k_l5 xa_l5 ck_l5 349 lv w cs sl xn_l5 (lk_5 l hst) xr_l5 xk_l5 xl_l5 hj.1 (lw_c5 hL hj.1 hj.2)
      rcases List.mem_cons.mp hq with rfl | hq
      · exact fun k lv w cs sl hj => hc k_l6 xa_l6 ck_l6 374 lv w cs sl xn_l6 (lk_6 l hst) xr_l6 xk_l6 xl_l6 hj.1 (lw_c6 hL hj.1 hj.2)
      rcases List.mem_cons.mp hq with rfl | hq
      · exact fun k lv w cs sl hj => hc k_l7 xa_l7 ck_l7 447 lv w cs sl xn_l7 (lk_7 l hst) xr_l7 xk_l7 xl_l7 hj.1 (lw_c7 hL hj.1 hj.2)
      rcases List.mem_cons.mp hq with rfl | hq
      · exact fun k lv w cs sl hj => hc k_l8 xa_l8 ck_l8 484 lv w cs sl xn_l8 (lk_8 l hst) xr_l8 xk_l8 xl_l8 hj.1 (lw_c8 hL hj.1 hj.2)
      rcases List.mem_cons.mp hq with rfl | hq
      · exact fun k lv w cs sl hj => hc k_l9 xa_l9 ck_l9 521 lv w cs sl xn_l9 (lk_9 l hst) xr_l9 xk_l9 xl_l9 hj.1 (lw_c9 hL hj.1 hj.2)
      rcases List.mem_cons.mp hq with rfl | hq
      · exact fun k lv w cs sl hj => hc k_l10 xa_l10 ck_l10 612 lv w cs sl xn_l10 (lk_10 l hst) xr_l10 xk_l10 xl_l10 hj.1 (lw_c10 hL hj.1 hj.2)
      rcases List.mem_cons.mp hq with rfl | hq
      · exact fun k lv w cs sl hj => hc k_l11 xa_l11 ck_l11 692 lv w cs sl xn_l11 (lk_11 l hst) xr_l11 xk_l11 xl_l11 hj.1 (lw_c11 hL hj.1 hj.2)
      rcases List.mem_cons.mp hq with rfl | hq
      · exact fun k lv w cs sl hj => hc k_l12 xa_l12 ck_l12 729 lv w cs sl xn_l12 (lk_12 l hst) xr_l12 xk_l12 xl_l12 hj.1 (lw_c12 hL hj.1 hj.2)
      rcases List.mem_cons.mp hq with rfl | hq
      · exact fun k lv w cs sl hj => hc k_l13 xa_l13 ck_l13 754 lv w cs sl xn_l13 (lk_13 l hst) xr_l13 xk_l13 xl_l13 hj.1 (lw_c13 hL hj.1 hj.2)
      rcases List.mem_cons.mp hq with rfl | hq
      · exact fun k lv w cs sl hj => hc k_l14 xa_l14 ck_l14 791 lv w cs sl xn_l14 (lk_14 l hst) xr_l14 xk_l14 xl_l14 hj.1 (lw_c14 hL hj.1 hj.2)
      rcases List.mem_cons.mp hq with rfl | hq
      · exact fun k lv w cs sl hj => hc k_l15 xa_l15 ck_l15 852 lv w cs sl xn_l15 (lk_15 l hst) xr_l15 xk_l15 xl_l15 hj.1 (lw_c15 hL hj.1 hj.2)
      rcases List.mem_cons.mp hq with rfl | hq
      · exact fun k lv w cs sl hj => hc k_l16 xa_l16 ck_l16 877 lv w cs sl xn_l16 (lk_16 l hst) xr_l16 xk_l16 xl_l16 hj.1 (lw_c16 hL hj.1 hj.2)
      rcases List.mem_cons.mp hq with rfl | hq
      · exact fun k lv w cs sl hj => hc k_l17 xa_l17 ck_l17 926 lv w cs sl xn_l17 (lk_17 l hst) xr_l17 xk_l17 xl_l17 hj.1 (lw_c17 hL hj.1 hj.2)
      rcases List.mem_cons.mp hq with rfl | hq
      · exact fun k lv w cs sl hj => hc k_l18 xa_l18 ck_l18 963 lv w cs sl xn_l18 (lk_18 l hst) xr_l18 xk_l18 xl_l18 hj.1 (lw_c18 hL hj.1 hj.2)
      rcases List.mem_cons.mp hq with rfl | hq
      · exact fun k lv w cs sl hj => hc k_l19 xa_l19 ck_l19 988 lv w cs sl xn_l19 (lk_19 l hst) xr_l19 xk_l19 xl_l19 hj.1 (lw_c19 hL hj.1 hj.2)
      rcases List.mem_cons.mp hq with rfl | hq
      · exact fun k lv w cs sl hj => hc k_l20 xa_l20 ck_l20 1025 lv w cs sl xn_l20 (lk_20 l hst) xr_l20 xk_l20 xl_l20 hj.1 (lw_c20 hL hj.1 hj.2)
      exact absurd hq List.not_mem_nil
  -- the start
  have hl := lv_entry ([Value.ref 999].map (rz_v (fun _ => b))) (n := 8) (Nat.le_of_ble_eq_true rfl)
  rw [rz_args_l] at hl
  have start : rz_G p l e room_1 s m #[Value.ref b] below meth c (lw_Z below #[Value.ref b] s) D cI cJ (fun q : Nat => s.heap.size ≤ q) 8 [] 601024 7293034 (fun _ => b) 0 [(0, .ref 999)] [] [] 0 0 := by
    refine chunk k_lA xa_lA czL [] s_lA [] (fun _ => b) JS 0 [(0, .ref 999)] [] 0 0 rfl xn_lA hcz (fun q hq => absurd hq List.not_mem_nil) xr_lA xk_lA xl_lA ?_ lw_ent
    intro q hq
    rcases List.mem_cons.mp hq with rfl | hq
    · intro k lv w cs sl hj
      obtain ⟨rfl, rfl, rfl, rfl⟩ := hj
      rw [ru0_eq]
      intro adr H locs ls hrel
      obtain ⟨g1, g2, g3, g4, g5, ⟨ex, g6, g7, g10⟩, g8, g9⟩ := hrel
      have hex : ex = ksL := g6.symm
      refine loop (L + 6) 0 adr _ _ _ _ (g10 999 (by rw [hex]; decide +kernel)) (by omega) (Nat.zero_le _) ⟨z0, z0, z0, z0, z0, (flV 300 z0 334), z0, z0, z0, z0, z0, z0, z0, z0, z0, z0, z0, z0, z0, z0, z0, z0, z0, z0, z0, z0, z0, z0, z0, (flV (-1) z0 5), z0, z0, (z0, z0, z0, 0), z1, z1, z1, z1, z1, z1, z1, z1, z1, z1, z1, z1, z1, z1, z1, z1, z1, 0, 0, 0, 0, 0, 0, 0, 0, 10, 0, 0, 0, rfl, rfl, lw_init, by omega, by omega⟩ adr H locs ls ⟨g1, g2, g3, g4, fun _ _ => rfl, ⟨[], rfl, Nat.zero_le _, fun _ _ => rfl⟩, g8, g9⟩
    · exact absurd hq List.not_mem_nil
  rw [lg_entry_eq]
  exact start (fun _ => b) s.heap [] _ ⟨(fun k q h => by simp [rz_c] at h), ⟨List.nodup_nil, fun i hi => absurd hi List.not_mem_nil, fun i hi => absurd hi List.not_mem_nil⟩, va_S.rf, hl, fun _ h => absurd h List.not_mem_nil, ⟨[], rfl, Nat.le_refl _, fun _ _ => rfl⟩, Nat.zero_le _, Nat.zero_le _⟩
