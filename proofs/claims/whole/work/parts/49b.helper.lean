/-! The law's helpers: corner and box, with the exception caught. -/
theorem rz_ofWH {l : Launch} {y : MethodName} {ws ws' : List Cond} {rm : Room} {Pc : Array Value → State → Prop} {Qc : Array Value → State → Outcome → State → Prop} {mc ms : Nat} {free : Addr → Prop} {cc : ByteArray} {maxL : Nat} {ret : Option FieldType} {hh : List (Nat × Nat × Nat × Nat)}
    (hy : plainName y.cls = true) (hw : ws = Cond.codeWith y cc maxL ret hh :: ws')
    (body : ∀ p e s m args below meth c s₁, BodyLoose p l y (headSpec ws rm) cc maxL ret e s m args below meth c s₁ → c.maxLocals = maxL → Pc args s →
      W p l e (headSpec ws rm).room s m args below meth c s.heap [] 0 0 (MQ below Qc args s mc ms free) (entryFrame m args maxL)) : Met l y ws rm Pc Qc mc ms free := by
  refine MetFree.of_bodyS (code := cc) (maxLocals := maxL) (ret := ret) hy ?_ ?_
  · intro args s m h hn
    obtain ⟨m9, meth, c, hn9, h1, h2, h3, h4, -, h5, h6, -⟩ := Cond.codeWith_spec (atoms_spec (ws := ws) h _ (by rw [hw]; exact List.mem_cons_self))
    cases hn.symm.trans hn9
    exact ⟨meth, c, h1, h2, h3, h4, h5, h6⟩
  · intro p e s m args below meth c s₁ B hml hP _
    have hh0 : s₁.heap = s.heap := by rw [B.state]; rfl
    obtain ⟨t, a1, o, b1, b2, b3⟩ := body p e s m args below meth c s₁ B hml hP s₁ hh0 (Stand.of_body B)
    exact ⟨t, o, a1, b1, b2, ⟨b3.1, b3.2⟩⟩
theorem rz_backP {D : va_G} {cI cJ : ClassId} {adr : Nat → Nat} {A : Nat → Prop} {w wc w' : rz_W} {H H1 : Heap} (hP : va_P D vwCl (rz_c cI cJ adr w) H) (hD : rz_D adr A (w.map Prod.fst)) (hin : ∀ q ∈ wc, q ∈ w) (hk : w'.map Prod.fst = wc.map Prod.fst) (j5 : va_P D vwCl (rz_c cI cJ adr w') H1) (j7 : ∀ q : Nat, q < H.size → ¬ va_A (rz_c cI cJ adr wc) H.size q → H1[q]? = H[q]?) : va_P D vwCl (rz_c cI cJ adr (rz_back w w')) H1 := by
  refine rz_P_iff.mpr (fun q hq => ?_)
  rcases rz_back_mem hD.1 hq with z | ⟨z1, z2⟩
  · exact rz_P_iff.mp j5 q z
  · have hat := rz_P_iff.mp hP q z1
    refine hat.kept (j7 _ hat.lt (fun z3 => ?_))
    rcases z3 with ⟨k, e9, hk9⟩ | z3
    · obtain ⟨y, hy, e8⟩ := List.mem_map.mp (List.mem_of_getElem? hk9)
      have e7 : adr y.1 = adr q.1 := congrArg Prod.fst e8
      have e6 := hD.2.1 y.1 (List.mem_map.mpr ⟨y, hin y hy, rfl⟩) q.1 (List.mem_map.mpr ⟨q, z1, rfl⟩) e7
      refine z2 ?_
      rw [hk, ← e6]
      exact List.mem_map.mpr ⟨y, hy, rfl⟩
    · exact absurd hat.lt (Nat.not_lt.mpr z3)
section RZH
variable {p : Program} {l : Launch} {e : Env} {R : Room} {s : State} {m : MethodId} {args : Array Value} {below : List Frame} {meth : Method} {c : Code} {QQ : State → Prop}
theorem rz_callXW {H H0 : Heap} {locs : List Loc} {cells slots mc ms pc : Nat} {ls : Array Slot} {rest st0 av : List Value} {a : Array Value} {A0 A1 : Nat → Prop} {free : Addr → Prop} {ce : rz_K} {px : List Value → rz_W → rz_W → Prop} {keys : List Nat} {D : va_G} {cI cJ : ClassId} {adr : Nat → Nat} {wc : rz_W}
    (hr : vx_Run p l e R s m args below meth c H locs cells slots mc ms (F0 m pc ls st0) rest (rz_Qc ce D cI cJ adr av wc A1 a) (rz_XC px keys D cI cJ adr av wc A1) free) (hS : va_S A0 H0 H locs) (hA : ∀ q, q < H.size → A1 q → A0 q) (hf : ∀ q, free q → A0 q)
    (kk : ∀ (o : Option Value) (w' : rz_W) (H1 : Heap) (locs1 : List Loc), rz_kind ce.2.2.1 o → w'.map Prod.fst = ce.2.1 → ce.2.2.2.2.2 av wc o w' → va_P D vwCl (rz_c cI cJ adr w') H1 → (∀ q : Nat, q < H.size → ¬ A1 q → H1[q]? = H[q]?) → va_S A0 H0 H1 locs1 →
      W p l e R s m args below meth c H1 locs1 (cells + mc) (slots + ms) QQ (F0 m (pc + 3) ls (o.toList ++ rest)))
    (kx : ∀ (w' : rz_W) (H1 : Heap) (locs1 : List Loc) (q : Addr) (ce9 : Cell), w'.map Prod.fst = keys → px av wc w' → va_P D vwCl (rz_c cI cJ adr w') H1 → (∀ q : Nat, q < H.size → ¬ A1 q → H1[q]? = H[q]?) → va_S A0 H0 H1 locs1 → H1[q]? = some ce9 → ce9.vm = .none → s.vm.findClass nseN = some ce9.cls →
      vx_W p l e R s m args below meth c H1 locs1 (cells + mc) (slots + ms) QQ (F0 m pc ls rest) q) : W p l e R s m args below meth c H locs cells slots QQ (F0 m pc ls st0) := by
  intro T hT X
  have keepS : ∀ {T' t : State} {L : List Loc}, T'.heap = t.heap → H.size ≤ t.heap.size → (∀ q : Nat, q < H.size → ¬ A1 q → t.heap[q]? = H[q]?) → (∀ q ∈ L, free q.base) → va_S A0 H0 T'.heap (locs ++ L) := by
    intro T' t L e1 hz hk hL
    exact ⟨Nat.le_trans hS.1 (by rw [e1]; exact hz), fun q h1 h2 => by rw [e1, hk q (Nat.lt_of_lt_of_le h1 hS.1) (fun z => h2 (hA q (Nat.lt_of_lt_of_le h1 hS.1) z))]; exact hS.2.1 q h1 h2, fun q hq => by
      rcases List.mem_append.mp hq with h | h
      · exact hS.2.2 q h
      · exact hf _ (hL q h)⟩
  rcases hr T hT X with ⟨v, st₀, t, T', L, h0, X', hL, e1, e2, ⟨⟨o, w', hv, hk1, hk2, hk3, hk4, hk5⟩, hz, hk⟩, st⟩ | ⟨q, st₀, t, T', L, E, ce9, h0, X', hL, e1, e2, ⟨hE, ⟨w', x1, x2, x3⟩, hz, hk⟩, hce, hcv, hcl, st⟩
  · cases hv
    rw [h0] at hz hk
    obtain ⟨t2, a1, b1⟩ := kk v w' T'.heap (locs ++ L) hk1 hk2 hk4 (by rw [e1]; exact hk5) (fun q h1 h2 => by rw [e1]; exact hk q h1 h2) (keepS e1 hz hk hL) T' rfl X'
    exact ⟨t2, st t2 a1, b1⟩
  · rw [h0] at hz hk
    subst hE
    obtain ⟨t2, a1, b1⟩ := kx w' T'.heap (locs ++ L) q ce9 x1 x2 (by rw [e1]; exact x3) (fun q h1 h2 => by rw [e1]; exact hk q h1 h2) (keepS e1 hz hk hL) (by rw [e1]; exact hce) hcv hcl T' rfl X'
    exact ⟨t2, st.trans a1, b1⟩
end RZH
theorem nL_7 : Cond.methodLink RL 7 yX6_corner ∈ bw := bw_t 598 (by decide +kernel) rfl
theorem nL_15 : Cond.methodLink RL 15 yX6_box ∈ bw := bw_t 670 (by decide +kernel) rfl
theorem nL_13 : Cond.classLink RL 13 nseN ∈ bw := bw_t 597 (by decide +kernel) rfl
def ce_L_corner : rz_K := (6, (0 :: kSS) ++ [80], 0, false, fun av w => ∃ (fx fy mi ax ay bx b2 : Nat → Int32) (a b c ex ey tx lx ty ly ou : Nat → Int64) (nw co x y v u : Int32) (n : Nat), av = [.ref 0, .int x, .int y, .int v, .int u, .ref 80] ∧ w = ((0, oCW nw) :: wSS fx fy mi ax ay bx b2 (nI n) a b c ex ey tx lx ty ly co) ++ [(80, rl 1 ou)] ∧ n ≤ 100, fun av w o w' => (∃ (w1 : rz_W) (r : Int64), ce_X6_corner.2.2.2.2.2 av.dropLast w.dropLast (some (.long r)) w1 ∧ rR o = 0 ∧ w' = w1 ++ [(80, rl 1 (vp_updL (rJ w 80) 0 r))]) ∨ (∃ w1 : rz_W, px_X6_corner av.dropLast w.dropLast w1 ∧ rR o = 1 ∧ w' = w1 ++ [(80, rl 1 (rJ w 80))]))
def kL_corner : List (Nat × rz_I) := [(12, .lastore, 13, 0, 0, 0, 0), (13, .goto 7, 16, 20, 0, 0, 0), (20, .iconst 0, 21, 0, 0, 0, 0), (21, .ireturn, 22, 0, 0, 0, 0)]
theorem rL_corner : ∀ q ∈ kL_corner, rz_row RL cL_corner 7 (some .int) false [] q.1 q.2 := rz_rows (by decide +kernel)
set_option maxHeartbeats 4000000 in
theorem cn_L_corner (l : Launch) (hst : l.stackTraces = false) (D : va_G) (cI cJ : ClassId) (adr : Nat → Nat) (sz : Nat) (av : List Value) (w : rz_W) (hpre : ce_L_corner.2.2.2.2.1 av w) :
    Met l yL_corner (.codeWith yL_corner cL_corner 7 (some .int) [(0, 13, 16, 13)] :: bw) (rz_room 7 1 6) (rz_PreX D cI cJ adr sz av w) (rz_Qc ce_L_corner D cI cJ adr av w (va_A (rz_c cI cJ adr w) sz)) 1 6 (va_A (rz_c cI cJ adr w) sz) := by
  obtain ⟨fx, fy, mi, ax, ay, bx, b2, a, b, c, ex, ey, tx, lx, ty, ly, ou, nw, co, x, y, v, u, n, rfl, rfl, hn⟩ := hpre
  refine rz_ofWH (cc := cL_corner) (maxL := 7) (ret := some .int) (by decide +kernel) rfl ?_
  intro p e s m args below meth c0 s₁ B hml hv
  obtain ⟨⟨hargs, hsz, hP, hK, hD0, hnw⟩, hxp⟩ := hv
  subst hargs
  have hts0 := atoms_spec (ws := .codeWith yL_corner cL_corner 7 (some .int) [(0, 13, 16, 13)] :: bw) B.pre
  have hts : ∀ w ∈ bw, w.before ([.ref 0, .int x, .int y, .int v, .int u, .ref 80].map (rz_v adr)).toArray s = true := fun w hw => hts0 w (List.mem_cons_of_mem _ hw)
  have hown : s.vm.findClass RL = some m.cls := findClass_of_methodNamed B.named
  have htab := vx_table (x := yL_corner) B (hts0 _ List.mem_cons_self)
  have hx := B.exec
  have hb := B.bytes
  subst hsz
  have hDv := hD0.self (sz := s.heap.size)
  have hD := rz_D.of_va hDv
  have hl := lv_entry ([.ref 0, .int x, .int y, .int v, .int u, .ref 80].map (rz_v adr)) (n := 7) (by rw [rz_sl_len]; exact Nat.le_of_ble_eq_true rfl)
  rw [lg_entry_eq]
  rw [rz_args_l] at hl
  revert hl
  generalize (lg_sl ([.ref 0, .int x, .int y, .int v, .int u, .ref 80].map (rz_v adr)) ++ List.replicate (7 - (lg_sl ([.ref 0, .int x, .int y, .int v, .int u, .ref 80].map (rz_v adr))).length) Slot.unset).toArray = ls
  intro hl
  have hPc : va_P D vwCl (rz_c cI cJ adr ((0, oCW nw) :: wSS fx fy mi ax ay bx b2 (nI n) a b c ex ey tx lx ty ly co)) s.heap := rz_P_iff.mpr (fun q hq => rz_P_iff.mp hP q (List.mem_append_left _ hq))
  have hDc : va_D (fun _ => True) (rz_c cI cJ adr ((0, oCW nw) :: wSS fx fy mi ax ay bx b2 (nI n) a b c ex ey tx lx ty ly co)) := (rz_D.va (w := (0, oCW nw) :: wSS fx fy mi ax ay bx b2 (nI n) a b c ex ey tx lx ty ly co) (A := fun _ => True) ⟨by show (0 :: kSS).Nodup; decide +kernel, fun i hi j hj e9 => hD.2.1 i (List.mem_append_left [80] hi) j (List.mem_append_left [80] hj) e9, fun _ _ => trivial⟩)
  have hsub : ∀ q, va_A (rz_c cI cJ adr ((0, oCW nw) :: wSS fx fy mi ax ay bx b2 (nI n) a b c ex ey tx lx ty ly co)) s.heap.size q → va_A (rz_c cI cJ adr (((0, oCW nw) :: wSS fx fy mi ax ay bx b2 (nI n) a b c ex ey tx lx ty ly co) ++ [(80, rl 1 ou)])) s.heap.size q := by
    intro q hq
    rcases hq with ⟨k, e9, hk9⟩ | hq
    · obtain ⟨i9, hi9⟩ := List.getElem?_of_mem (show (q, e9) ∈ rz_c cI cJ adr (((0, oCW nw) :: wSS fx fy mi ax ay bx b2 (nI n) a b c ex ey tx lx ty ly co) ++ [(80, rl 1 ou)]) from by
        unfold rz_c
        rw [List.map_append]
        exact List.mem_append_left _ (List.mem_of_getElem? hk9))
      exact Or.inl ⟨i9, e9, hi9⟩
    · exact Or.inr hq
  have hxpc : rz_XP (va_A (rz_c cI cJ adr ((0, oCW nw) :: wSS fx fy mi ax ay bx b2 (nI n) a b c ex ey tx lx ty ly co)) s.heap.size) s s.heap := hxp.sub hsub va_S.rf
  refine lv_aload hx hb (by decide +kernel : decode cL_corner 0 = .ok (.aload 5, 2)) (lv_at hl 5 rfl) ?_
  refine lv_iconst (v := 0) hx hb (by decide +kernel : decode cL_corner 2 = .ok (.iconst 0, 1)) (by decide) ?_
  refine lv_aload_n hx hb (by decide +kernel : decode cL_corner 3 = .ok (.aload_n 0, 1)) rfl (lv_at hl 0 rfl) ?_
  refine lv_iload_n hx hb (by decide +kernel : decode cL_corner 4 = .ok (.iload_n 1, 1)) rfl (lv_at hl 1 rfl) ?_
  refine lv_iload_n hx hb (by decide +kernel : decode cL_corner 5 = .ok (.iload_n 2, 1)) rfl (lv_at hl 2 rfl) ?_
  refine lv_iload_n hx hb (by decide +kernel : decode cL_corner 6 = .ok (.iload_n 3, 1)) rfl (lv_at hl 3 rfl) ?_
  refine lv_iload hx hb (by decide +kernel : decode cL_corner 7 = .ok (.iload 4, 2)) (lv_at hl 4 rfl) ?_
  have hrun := vx_runV (p := p) (e := e) (R := rz_room 7 1 6) (s := s) (m := m) (below := below) (meth := meth) (c := c0) (locs := []) (cells := 0) (slots := 0) (H := s.heap) (g := F0 m 9 ls ([.int u, .int v, .int y, .int x, .ref (adr 0)] ++ [.int 0, .ref (adr 80)])) (As := [.int x, .int y, .int v, .int u]) (b := adr 0) (rest := [.int 0, .ref (adr 80)]) ⟨hx, hb, hml, hown, hts⟩ (cx_X6_corner l hst D cI cJ adr s.heap.size [.ref 0, .int x, .int y, .int v, .int u] ((0, oCW nw) :: wSS fx fy mi ax ay bx b2 (nI n) a b c ex ey tx lx ty ly co) rfl rfl ⟨fx, fy, mi, ax, ay, bx, b2, a, b, c, ex, ey, tx, lx, ty, ly, nw, co, x, y, v, u, n, rfl, rfl, hn⟩)
    ⟨callB_of 4 hts (rz_gcode m_X6_corner.1) rfl rfl rfl (hts _ m_X6_corner.2.1) (hts _ nL_7) m_X6_corner.2.2 ⟨Nat.le_of_ble_eq_true rfl, Nat.le_of_ble_eq_true rfl⟩, hts _ i_X6_corner, hts _ v_X6_corner⟩ ⟨rz_blindX, va_recv hK hPc (q := (RX6, TX6, 7)) (ci := 6) rfl (rz_get_pos (i := 0) (x := oCW nw) rfl), fun U hU hW => ⟨⟨rfl, by rw [hU], by rw [hU]; exact hPc, va_K.moved hW.alike hK, hDc, hnw.warm hW⟩, by rw [hU]; exact rz_XP.warm hW hxpc⟩⟩ rfl rfl hl.1 rfl (Nat.le_of_ble_eq_true rfl) (show decode cL_corner 9 = .ok (.invokevirtual 7, 3) by decide +kernel) ⟨Nat.le_refl _, Nat.le_refl _⟩
  have hbk : ∀ w1 : rz_W, w1.map Prod.fst = 0 :: kSS → rz_back (((0, oCW nw) :: wSS fx fy mi ax ay bx b2 (nI n) a b c ex ey tx lx ty ly co) ++ [(80, rl 1 ou)]) w1 = w1 ++ [(80, rl 1 ou)] := fun w1 h => rz_back_pre (w := (0, oCW nw) :: wSS fx fy mi ax ay bx b2 (nI n) a b c ex ey tx lx ty ly co) (q := [(80, rl 1 ou)]) (by rw [h]; rfl) (by show (0 :: kSS).Nodup; decide +kernel)
  have key9 : ∀ w1 : rz_W, w1.map Prod.fst = 0 :: kSS → ∀ ou' : Nat → Int64, (w1 ++ [(80, rl 1 ou')]).map Prod.fst = (0 :: kSS) ++ [80] := fun w1 h ou' => by rw [List.map_append, h]; rfl
  refine rz_callXW hrun (A0 := va_A (rz_c cI cJ adr (((0, oCW nw) :: wSS fx fy mi ax ay bx b2 (nI n) a b c ex ey tx lx ty ly co) ++ [(80, rl 1 ou)])) s.heap.size) va_S.rf (fun q _ hq => hsub q hq) hsub ?_ ?_
  · intro o w1 H1 locs1 j1 j2 j4 j5 j7 j8
    obtain ⟨r, rfl⟩ : ∃ r : Int64, o = some (.long r) := j1
    have j2 : w1.map Prod.fst = 0 :: kSS := j2
    have hPb := rz_backP hP hD (wc := (0, oCW nw) :: wSS fx fy mi ax ay bx b2 (nI n) a b c ex ey tx lx ty ly co) (w' := w1) (fun q hq => List.mem_append_left _ hq) (by rw [j2]; rfl) j5 j7
    rw [hbk w1 j2] at hPb
    have hpost := j4
    obtain ⟨a', b', c', ex', ey', tx', lx', ty', ly', k, rr, g1, g2, g3, hw1⟩ := j4 n rfl hn
    have hw1 := hw1
    subst hw1
    have hG := rz_xall (p := p) (l := l) (e := e) (s := s) (m := m) (args := ([.ref 0, .int x, .int y, .int v, .int u, .ref 80].map (rz_v adr)).toArray) (meth := meth) (c := c0) (own := RL) (cc := cL_corner) (ret := some .int) (bz := false) (adr0 := adr) (ks := (0 :: kSS) ++ [80]) (nL := 7) (A := va_A (rz_c cI cJ adr (((0, oCW nw) :: wSS fx fy mi ax ay bx b2 (nI n) a b c ex ey tx lx ty ly co) ++ [(80, rl 1 ou)])) s.heap.size) (R := rz_room 7 1 6) (below := below) (free := va_A (rz_c cI cJ adr (((0, oCW nw) :: wSS fx fy mi ax ay bx b2 (nI n) a b c ex ey tx lx ty ly co) ++ [(80, rl 1 ou)])) s.heap.size) (sp := []) (RC := 1) (RS := 6) (fld := []) (cal := []) (cav := []) (sw := []) (cod := kL_corner) (L := 0) (xs := fun _ => 0) (df := []) (cz := []) (ck := []) (ca := [])
      (QQ := MQ below (rz_Qc ce_L_corner D cI cJ adr [.ref 0, .int x, .int y, .int v, .int u, .ref 80] (((0, oCW nw) :: wSS fx fy mi ax ay bx b2 (nI n) a b c ex ey tx lx ty ly co) ++ [(80, rl 1 ou)]) (va_A (rz_c cI cJ adr (((0, oCW nw) :: wSS fx fy mi ax ay bx b2 (nI n) a b c ex ey tx lx ty ly co) ++ [(80, rl 1 ou)])) s.heap.size)) ([.ref 0, .int x, .int y, .int v, .int u, .ref 80].map (rz_v adr)).toArray s 1 6 (va_A (rz_c cI cJ adr (((0, oCW nw) :: wSS fx fy mi ax ay bx b2 (nI n) a b c ex ey tx lx ty ly co) ++ [(80, rl 1 ou)])) s.heap.size))
      hx hb B.notSynchronized hml hown hts hnw hK (fun q h => Or.inr h) ⟨Nat.le_refl _, Nat.le_refl _⟩ B.returns (fun ix q h => by cases h) (fun ix q h => by cases h) (fun ix q h => by cases h)
      (Qc := rz_Qc ce_L_corner D cI cJ adr [.ref 0, .int x, .int y, .int v, .int u, .ref 80] (((0, oCW nw) :: wSS fx fy mi ax ay bx b2 (nI n) a b c ex ey tx lx ty ly co) ++ [(80, rl 1 ou)]) (va_A (rz_c cI cJ adr (((0, oCW nw) :: wSS fx fy mi ax ay bx b2 (nI n) a b c ex ey tx lx ty ly co) ++ [(80, rl 1 ou)])) s.heap.size))
      (Q := fun o w' => o = some (.int 0) ∧ w' = ((0, oCW nw) :: wSS fx fy mi ax ay bx b2 (nI n) a' b' c' ex' ey' tx' lx' ty' ly' k) ++ [(80, rl 1 (vp_updL ou 0 r))]) (by
        intro adr1 lv w2 cs sl H locs ls o hrel hq
        obtain ⟨f1, f2, f3, f4, f5, ⟨ex9, f6, f7, f10⟩, f8, f9⟩ := hrel
        obtain ⟨rfl, rfl⟩ := hq
        have hex : ex9 = [] := List.append_cancel_left (as := (0 :: kSS) ++ [80]) (by rw [← f6, List.append_nil]; rfl)
        have hadr : adr1 = adr := funext (fun k => f10 k (by rw [hex]; exact List.not_mem_nil))
        refine ⟨f3.2.2, fun t ht hW => ⟨⟨_, _, rfl, ⟨_, rfl⟩, rfl, fun z => (by cases z), Or.inl ⟨_, r, hpost, rfl, rfl⟩, ?_⟩, f3.F ht⟩⟩
        rw [ht, ← hadr]
        exact f1) (fun _ _ _ h => h) rz_cls ⟨by decide, by decide⟩ (Or.inr (fun q hq => absurd hq List.not_mem_nil)) (Or.inl (fun q hq => absurd hq List.not_mem_nil)) (fun q hq => absurd hq List.not_mem_nil) (XP := fun _ _ _ => True) (fun _ _ _ _ _ => trivial) (fun q hq => absurd hq List.not_mem_nil) (fun q hq => absurd hq List.not_mem_nil) (fun k hk => by cases hk) (fun q hq => absurd hq List.not_mem_nil) (fun q hq => absurd hq List.not_mem_nil) (fun q hq => rL_corner q hq) (fun q hq z hz => by cases hz) (fun q hq _ hz => by cases hz)
      (J := []) (N := 10) (fun q hq => absurd hq List.not_mem_nil) (n0 := 0) (pc := 12) (lv := rz_args 0 [.ref 0, .int x, .int y, .int v, .int u, .ref 80]) (st := [.long r, .int 0, .ref 80]) (w := ((0, oCW nw) :: wSS fx fy mi ax ay bx b2 (nI n) a' b' c' ex' ey' tx' lx' ty' ly' k) ++ [(80, rl 1 ou)]) (cs := 1) (sl := 6) (by
        conv => whnf
        refine ⟨vp_in_iff.mpr (by decide), ?_⟩
        conv => whnf
        exact ⟨rfl, rfl⟩)
    exact hG adr H1 locs1 ls ⟨hPb, hD, j8, hl, fun _ _ => rfl, ⟨[], rfl, Nat.zero_le _, fun _ _ => rfl⟩, Nat.le_refl _, Nat.le_refl _⟩
  · intro w1 H1 locs1 q ce9 j2 j4 j5 j7 j8 c1 c2 c3
    have j2 : w1.map Prod.fst = 0 :: kSS := j2
    have hPb := rz_backP hP hD (wc := (0, oCW nw) :: wSS fx fy mi ax ay bx b2 (nI n) a b c ex ey tx lx ty ly co) (w' := w1) (fun q hq => List.mem_append_left _ hq) (by rw [j2]; rfl) j5 j7
    rw [hbk w1 j2] at hPb
    refine vx_catch (own := RL) (name := nseN) (E := nseN) hown [] ⟨0, 13, 16, 13⟩ [] htab (fun z hz => absurd hz List.not_mem_nil) (by decide) (by decide) (hts _ nL_13) (va_Nw.use rfl (hxp.1 _ List.mem_cons_self)) c1 c2 c3 ?_
    refine lv_astore hx hb (by decide +kernel : decode cL_corner 16 = .ok (.astore 6, 2)) hl (by decide) rfl (fun ls' hl' => ?_)
    refine lv_iconst (v := 1) hx hb (by decide +kernel : decode cL_corner 18 = .ok (.iconst 1, 1)) (by decide) ?_
    refine W.zret hx hb B.returns rfl (fun t ht hW => ⟨⟨_, w1 ++ [(80, rl 1 ou)], rfl, ⟨_, rfl⟩, key9 w1 j2 ou, fun z => (by cases z), Or.inr ⟨w1, j4, rfl, rfl⟩, by rw [ht]; exact hPb⟩, j8.F ht⟩) j8.2.2 (by decide +kernel) B.notSynchronized
def ce_L_box : rz_K := (5, (0 :: kSS) ++ [80], 0, false, fun av w => ∃ (fx fy mi ax ay bx b2 : Nat → Int32) (a b c ex ey tx lx ty ly ou : Nat → Int64) (nw co x y u : Int32) (n : Nat), av = [.ref 0, .int x, .int y, .int u, .ref 80] ∧ w = ((0, oCW nw) :: wSS fx fy mi ax ay bx b2 (nI n) a b c ex ey tx lx ty ly co) ++ [(80, rl 1 ou)] ∧ n ≤ 100, fun av w o w' => (∃ (w1 : rz_W) (r : Int32), ce_X6_box.2.2.2.2.2 av.dropLast w.dropLast (some (.int r)) w1 ∧ rR o = 0 ∧ w' = w1 ++ [(80, rl 1 (vp_updL (rJ w 80) 0 r.toInt64))]) ∨ (∃ w1 : rz_W, px_X6_box av.dropLast w.dropLast w1 ∧ rR o = 1 ∧ w' = w1 ++ [(80, rl 1 (rJ w 80))]))
def kL_box : List (Nat × rz_I) := [(10, .i2l, 11, 0, 0, 0, 0), (11, .lastore, 12, 0, 0, 0, 0), (12, .goto 7, 15, 19, 0, 0, 0), (19, .iconst 0, 20, 0, 0, 0, 0), (20, .ireturn, 21, 0, 0, 0, 0)]
theorem rL_box : ∀ q ∈ kL_box, rz_row RL cL_box 6 (some .int) false [] q.1 q.2 := rz_rows (by decide +kernel)
set_option maxHeartbeats 4000000 in
theorem cn_L_box (l : Launch) (hst : l.stackTraces = false) (D : va_G) (cI cJ : ClassId) (adr : Nat → Nat) (sz : Nat) (av : List Value) (w : rz_W) (hpre : ce_L_box.2.2.2.2.1 av w) :
    Met l yL_box (.codeWith yL_box cL_box 6 (some .int) [(0, 12, 15, 13)] :: bw) (rz_room 7 1 6) (rz_PreX D cI cJ adr sz av w) (rz_Qc ce_L_box D cI cJ adr av w (va_A (rz_c cI cJ adr w) sz)) 1 6 (va_A (rz_c cI cJ adr w) sz) := by
  obtain ⟨fx, fy, mi, ax, ay, bx, b2, a, b, c, ex, ey, tx, lx, ty, ly, ou, nw, co, x, y, u, n, rfl, rfl, hn⟩ := hpre
  refine rz_ofWH (cc := cL_box) (maxL := 6) (ret := some .int) (by decide +kernel) rfl ?_
  intro p e s m args below meth c0 s₁ B hml hv
  obtain ⟨⟨hargs, hsz, hP, hK, hD0, hnw⟩, hxp⟩ := hv
  subst hargs
  have hts0 := atoms_spec (ws := .codeWith yL_box cL_box 6 (some .int) [(0, 12, 15, 13)] :: bw) B.pre
  have hts : ∀ w ∈ bw, w.before ([.ref 0, .int x, .int y, .int u, .ref 80].map (rz_v adr)).toArray s = true := fun w hw => hts0 w (List.mem_cons_of_mem _ hw)
  have hown : s.vm.findClass RL = some m.cls := findClass_of_methodNamed B.named
  have htab := vx_table (x := yL_box) B (hts0 _ List.mem_cons_self)
  have hx := B.exec
  have hb := B.bytes
  subst hsz
  have hDv := hD0.self (sz := s.heap.size)
  have hD := rz_D.of_va hDv
  have hl := lv_entry ([.ref 0, .int x, .int y, .int u, .ref 80].map (rz_v adr)) (n := 6) (by rw [rz_sl_len]; exact Nat.le_of_ble_eq_true rfl)
  rw [lg_entry_eq]
  rw [rz_args_l] at hl
  revert hl
  generalize (lg_sl ([.ref 0, .int x, .int y, .int u, .ref 80].map (rz_v adr)) ++ List.replicate (6 - (lg_sl ([.ref 0, .int x, .int y, .int u, .ref 80].map (rz_v adr))).length) Slot.unset).toArray = ls
  intro hl
  have hPc : va_P D vwCl (rz_c cI cJ adr ((0, oCW nw) :: wSS fx fy mi ax ay bx b2 (nI n) a b c ex ey tx lx ty ly co)) s.heap := rz_P_iff.mpr (fun q hq => rz_P_iff.mp hP q (List.mem_append_left _ hq))
  have hDc : va_D (fun _ => True) (rz_c cI cJ adr ((0, oCW nw) :: wSS fx fy mi ax ay bx b2 (nI n) a b c ex ey tx lx ty ly co)) := (rz_D.va (w := (0, oCW nw) :: wSS fx fy mi ax ay bx b2 (nI n) a b c ex ey tx lx ty ly co) (A := fun _ => True) ⟨by show (0 :: kSS).Nodup; decide +kernel, fun i hi j hj e9 => hD.2.1 i (List.mem_append_left [80] hi) j (List.mem_append_left [80] hj) e9, fun _ _ => trivial⟩)
  have hsub : ∀ q, va_A (rz_c cI cJ adr ((0, oCW nw) :: wSS fx fy mi ax ay bx b2 (nI n) a b c ex ey tx lx ty ly co)) s.heap.size q → va_A (rz_c cI cJ adr (((0, oCW nw) :: wSS fx fy mi ax ay bx b2 (nI n) a b c ex ey tx lx ty ly co) ++ [(80, rl 1 ou)])) s.heap.size q := by
    intro q hq
    rcases hq with ⟨k, e9, hk9⟩ | hq
    · obtain ⟨i9, hi9⟩ := List.getElem?_of_mem (show (q, e9) ∈ rz_c cI cJ adr (((0, oCW nw) :: wSS fx fy mi ax ay bx b2 (nI n) a b c ex ey tx lx ty ly co) ++ [(80, rl 1 ou)]) from by
        unfold rz_c
        rw [List.map_append]
        exact List.mem_append_left _ (List.mem_of_getElem? hk9))
      exact Or.inl ⟨i9, e9, hi9⟩
    · exact Or.inr hq
  have hxpc : rz_XP (va_A (rz_c cI cJ adr ((0, oCW nw) :: wSS fx fy mi ax ay bx b2 (nI n) a b c ex ey tx lx ty ly co)) s.heap.size) s s.heap := hxp.sub hsub va_S.rf
  refine lv_aload hx hb (by decide +kernel : decode cL_box 0 = .ok (.aload 4, 2)) (lv_at hl 4 rfl) ?_
  refine lv_iconst (v := 0) hx hb (by decide +kernel : decode cL_box 2 = .ok (.iconst 0, 1)) (by decide) ?_
  refine lv_aload_n hx hb (by decide +kernel : decode cL_box 3 = .ok (.aload_n 0, 1)) rfl (lv_at hl 0 rfl) ?_
  refine lv_iload_n hx hb (by decide +kernel : decode cL_box 4 = .ok (.iload_n 1, 1)) rfl (lv_at hl 1 rfl) ?_
  refine lv_iload_n hx hb (by decide +kernel : decode cL_box 5 = .ok (.iload_n 2, 1)) rfl (lv_at hl 2 rfl) ?_
  refine lv_iload_n hx hb (by decide +kernel : decode cL_box 6 = .ok (.iload_n 3, 1)) rfl (lv_at hl 3 rfl) ?_
  have hrun := vx_runV (p := p) (e := e) (R := rz_room 7 1 6) (s := s) (m := m) (below := below) (meth := meth) (c := c0) (locs := []) (cells := 0) (slots := 0) (H := s.heap) (g := F0 m 7 ls ([.int u, .int y, .int x, .ref (adr 0)] ++ [.int 0, .ref (adr 80)])) (As := [.int x, .int y, .int u]) (b := adr 0) (rest := [.int 0, .ref (adr 80)]) ⟨hx, hb, hml, hown, hts⟩ (cx_X6_box l hst D cI cJ adr s.heap.size [.ref 0, .int x, .int y, .int u] ((0, oCW nw) :: wSS fx fy mi ax ay bx b2 (nI n) a b c ex ey tx lx ty ly co) rfl rfl ⟨fx, fy, mi, ax, ay, bx, b2, a, b, c, ex, ey, tx, lx, ty, ly, nw, co, x, y, u, n, rfl, rfl, hn⟩)
    ⟨callB_of 3 hts (rz_gcode m_X6_box.1) rfl rfl rfl (hts _ m_X6_box.2.1) (hts _ nL_15) m_X6_box.2.2 ⟨Nat.le_of_ble_eq_true rfl, Nat.le_of_ble_eq_true rfl⟩, hts _ i_X6_box, hts _ v_X6_box⟩ ⟨rz_blindX, va_recv hK hPc (q := (RX6, TX6, 7)) (ci := 6) rfl (rz_get_pos (i := 0) (x := oCW nw) rfl), fun U hU hW => ⟨⟨rfl, by rw [hU], by rw [hU]; exact hPc, va_K.moved hW.alike hK, hDc, hnw.warm hW⟩, by rw [hU]; exact rz_XP.warm hW hxpc⟩⟩ rfl rfl hl.1 rfl (Nat.le_of_ble_eq_true rfl) (show decode cL_box 7 = .ok (.invokevirtual 15, 3) by decide +kernel) ⟨Nat.le_refl _, Nat.le_refl _⟩
  have hbk : ∀ w1 : rz_W, w1.map Prod.fst = 0 :: kSS → rz_back (((0, oCW nw) :: wSS fx fy mi ax ay bx b2 (nI n) a b c ex ey tx lx ty ly co) ++ [(80, rl 1 ou)]) w1 = w1 ++ [(80, rl 1 ou)] := fun w1 h => rz_back_pre (w := (0, oCW nw) :: wSS fx fy mi ax ay bx b2 (nI n) a b c ex ey tx lx ty ly co) (q := [(80, rl 1 ou)]) (by rw [h]; rfl) (by show (0 :: kSS).Nodup; decide +kernel)
  have key9 : ∀ w1 : rz_W, w1.map Prod.fst = 0 :: kSS → ∀ ou' : Nat → Int64, (w1 ++ [(80, rl 1 ou')]).map Prod.fst = (0 :: kSS) ++ [80] := fun w1 h ou' => by rw [List.map_append, h]; rfl
  refine rz_callXW hrun (A0 := va_A (rz_c cI cJ adr (((0, oCW nw) :: wSS fx fy mi ax ay bx b2 (nI n) a b c ex ey tx lx ty ly co) ++ [(80, rl 1 ou)])) s.heap.size) va_S.rf (fun q _ hq => hsub q hq) hsub ?_ ?_
  · intro o w1 H1 locs1 j1 j2 j4 j5 j7 j8
    obtain ⟨r, rfl⟩ : ∃ r : Int32, o = some (.int r) := j1
    have j2 : w1.map Prod.fst = 0 :: kSS := j2
    have hPb := rz_backP hP hD (wc := (0, oCW nw) :: wSS fx fy mi ax ay bx b2 (nI n) a b c ex ey tx lx ty ly co) (w' := w1) (fun q hq => List.mem_append_left _ hq) (by rw [j2]; rfl) j5 j7
    rw [hbk w1 j2] at hPb
    have hpost := j4
    obtain ⟨a', b', c', ex', ey', tx', lx', ty', ly', k, rr, g1, g2, g3, g4, hw1⟩ := j4 n rfl hn
    have hw1 := hw1
    subst hw1
    have hG := rz_xall (p := p) (l := l) (e := e) (s := s) (m := m) (args := ([.ref 0, .int x, .int y, .int u, .ref 80].map (rz_v adr)).toArray) (meth := meth) (c := c0) (own := RL) (cc := cL_box) (ret := some .int) (bz := false) (adr0 := adr) (ks := (0 :: kSS) ++ [80]) (nL := 6) (A := va_A (rz_c cI cJ adr (((0, oCW nw) :: wSS fx fy mi ax ay bx b2 (nI n) a b c ex ey tx lx ty ly co) ++ [(80, rl 1 ou)])) s.heap.size) (R := rz_room 7 1 6) (below := below) (free := va_A (rz_c cI cJ adr (((0, oCW nw) :: wSS fx fy mi ax ay bx b2 (nI n) a b c ex ey tx lx ty ly co) ++ [(80, rl 1 ou)])) s.heap.size) (sp := []) (RC := 1) (RS := 6) (fld := []) (cal := []) (cav := []) (sw := []) (cod := kL_box) (L := 0) (xs := fun _ => 0) (df := []) (cz := []) (ck := []) (ca := [])
      (QQ := MQ below (rz_Qc ce_L_box D cI cJ adr [.ref 0, .int x, .int y, .int u, .ref 80] (((0, oCW nw) :: wSS fx fy mi ax ay bx b2 (nI n) a b c ex ey tx lx ty ly co) ++ [(80, rl 1 ou)]) (va_A (rz_c cI cJ adr (((0, oCW nw) :: wSS fx fy mi ax ay bx b2 (nI n) a b c ex ey tx lx ty ly co) ++ [(80, rl 1 ou)])) s.heap.size)) ([.ref 0, .int x, .int y, .int u, .ref 80].map (rz_v adr)).toArray s 1 6 (va_A (rz_c cI cJ adr (((0, oCW nw) :: wSS fx fy mi ax ay bx b2 (nI n) a b c ex ey tx lx ty ly co) ++ [(80, rl 1 ou)])) s.heap.size))
      hx hb B.notSynchronized hml hown hts hnw hK (fun q h => Or.inr h) ⟨Nat.le_refl _, Nat.le_refl _⟩ B.returns (fun ix q h => by cases h) (fun ix q h => by cases h) (fun ix q h => by cases h)
      (Qc := rz_Qc ce_L_box D cI cJ adr [.ref 0, .int x, .int y, .int u, .ref 80] (((0, oCW nw) :: wSS fx fy mi ax ay bx b2 (nI n) a b c ex ey tx lx ty ly co) ++ [(80, rl 1 ou)]) (va_A (rz_c cI cJ adr (((0, oCW nw) :: wSS fx fy mi ax ay bx b2 (nI n) a b c ex ey tx lx ty ly co) ++ [(80, rl 1 ou)])) s.heap.size))
      (Q := fun o w' => o = some (.int 0) ∧ w' = ((0, oCW nw) :: wSS fx fy mi ax ay bx b2 (nI n) a' b' c' ex' ey' tx' lx' ty' ly' (nI k)) ++ [(80, rl 1 (vp_updL ou 0 r.toInt64))]) (by
        intro adr1 lv w2 cs sl H locs ls o hrel hq
        obtain ⟨f1, f2, f3, f4, f5, ⟨ex9, f6, f7, f10⟩, f8, f9⟩ := hrel
        obtain ⟨rfl, rfl⟩ := hq
        have hex : ex9 = [] := List.append_cancel_left (as := (0 :: kSS) ++ [80]) (by rw [← f6, List.append_nil]; rfl)
        have hadr : adr1 = adr := funext (fun k => f10 k (by rw [hex]; exact List.not_mem_nil))
        refine ⟨f3.2.2, fun t ht hW => ⟨⟨_, _, rfl, ⟨_, rfl⟩, rfl, fun z => (by cases z), Or.inl ⟨_, r, hpost, rfl, rfl⟩, ?_⟩, f3.F ht⟩⟩
        rw [ht, ← hadr]
        exact f1) (fun _ _ _ h => h) rz_cls ⟨by decide, by decide⟩ (Or.inr (fun q hq => absurd hq List.not_mem_nil)) (Or.inl (fun q hq => absurd hq List.not_mem_nil)) (fun q hq => absurd hq List.not_mem_nil) (XP := fun _ _ _ => True) (fun _ _ _ _ _ => trivial) (fun q hq => absurd hq List.not_mem_nil) (fun q hq => absurd hq List.not_mem_nil) (fun k hk => by cases hk) (fun q hq => absurd hq List.not_mem_nil) (fun q hq => absurd hq List.not_mem_nil) (fun q hq => rL_box q hq) (fun q hq z hz => by cases hz) (fun q hq _ hz => by cases hz)
      (J := []) (N := 10) (fun q hq => absurd hq List.not_mem_nil) (n0 := 0) (pc := 10) (lv := rz_args 0 [.ref 0, .int x, .int y, .int u, .ref 80]) (st := [.int r, .int 0, .ref 80]) (w := ((0, oCW nw) :: wSS fx fy mi ax ay bx b2 (nI n) a' b' c' ex' ey' tx' lx' ty' ly' (nI k)) ++ [(80, rl 1 ou)]) (cs := 1) (sl := 6) (by
        conv => whnf
        refine ⟨vp_in_iff.mpr (by decide), ?_⟩
        conv => whnf
        exact ⟨rfl, rfl⟩)
    exact hG adr H1 locs1 ls ⟨hPb, hD, j8, hl, fun _ _ => rfl, ⟨[], rfl, Nat.zero_le _, fun _ _ => rfl⟩, Nat.le_refl _, Nat.le_refl _⟩
  · intro w1 H1 locs1 q ce9 j2 j4 j5 j7 j8 c1 c2 c3
    have j2 : w1.map Prod.fst = 0 :: kSS := j2
    have hPb := rz_backP hP hD (wc := (0, oCW nw) :: wSS fx fy mi ax ay bx b2 (nI n) a b c ex ey tx lx ty ly co) (w' := w1) (fun q hq => List.mem_append_left _ hq) (by rw [j2]; rfl) j5 j7
    rw [hbk w1 j2] at hPb
    refine vx_catch (own := RL) (name := nseN) (E := nseN) hown [] ⟨0, 12, 15, 13⟩ [] htab (fun z hz => absurd hz List.not_mem_nil) (by decide) (by decide) (hts _ nL_13) (va_Nw.use rfl (hxp.1 _ List.mem_cons_self)) c1 c2 c3 ?_
    refine lv_astore hx hb (by decide +kernel : decode cL_box 15 = .ok (.astore 5, 2)) hl (by decide) rfl (fun ls' hl' => ?_)
    refine lv_iconst (v := 1) hx hb (by decide +kernel : decode cL_box 17 = .ok (.iconst 1, 1)) (by decide) ?_
    refine W.zret hx hb B.returns rfl (fun t ht hW => ⟨⟨_, w1 ++ [(80, rl 1 ou)], rfl, ⟨_, rfl⟩, key9 w1 j2 ou, fun z => (by cases z), Or.inr ⟨w1, j4, rfl, rfl⟩, by rw [ht]; exact hPb⟩, j8.F ht⟩) j8.2.2 (by decide +kernel) B.notSynchronized
