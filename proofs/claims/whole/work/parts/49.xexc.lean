/-! CoastWatch: corner and box, which throw. -/
abbrev nseN : String := "java/util/NoSuchElementException"
abbrev nseS : List String := ["java/lang/RuntimeException", "java/lang/Exception"]
def nseW : List Cond := [.castable nseN nseN, .declares ⟨"java/lang/RuntimeException", "<init>", "()V"⟩, .declares ⟨"java/lang/Exception", "<init>", "()V"⟩, .declares ⟨"java/lang/Throwable", "<init>", "()V"⟩]
/-- what a throw needs of the state: words of the tables, two statics of Throwable -/
def rz_XW (U : State) : Prop := ∀ w ∈ nseW, va_Nw w U
theorem rz_XW.same {u U : State} (h : u.vm = U.vm) (hn : rz_XW u) : rz_XW U := fun w hw => va_Nw.same (by
  rcases List.mem_cons.mp hw with rfl | hw
  · rfl
  rcases List.mem_cons.mp hw with rfl | hw
  · rfl
  rcases List.mem_cons.mp hw with rfl | hw
  · rfl
  rcases List.mem_cons.mp hw with rfl | hw
  · rfl
  exact absurd hw List.not_mem_nil) h (hn w hw)
theorem rz_XW.warm {s U : State} (h : s.WarmedH U.vm) (hn : rz_XW s) : rz_XW U := fun w hw => by
  have h1 := hn w hw
  rcases List.mem_cons.mp hw with rfl | hw
  · exact va_Nw.warmC h h1
  rcases List.mem_cons.mp hw with rfl | hw
  · exact va_Nw.warmD h h1
  rcases List.mem_cons.mp hw with rfl | hw
  · exact va_Nw.warmD h h1
  rcases List.mem_cons.mp hw with rfl | hw
  · exact va_Nw.warmD h h1
  exact absurd hw List.not_mem_nil
def rz_Zs (A : Nat → Prop) (U : State) (H : Heap) : Prop := vx_Zq Bundle.tN "UNASSIGNED_STACK" Bundle.steD A U H ∧ vx_Zq Bundle.tN "SUPPRESSED_SENTINEL" Bundle.listD A U H
def rz_XP (A : Nat → Prop) (U : State) (H : Heap) : Prop := rz_XW U ∧ rz_Zs A U H
theorem rz_XP.moved {A : Nat → Prop} {u U : State} {H : Heap} (hv : u.vm = U.vm) (h : rz_XP A u H) : rz_XP A U H := ⟨rz_XW.same hv h.1, vx_Zq.moved (by rw [hv]; exact Vm.Alike.refl _) h.2.1, vx_Zq.moved (by rw [hv]; exact Vm.Alike.refl _) h.2.2⟩
theorem rz_XP.warm {A : Nat → Prop} {s U : State} {H : Heap} (hv : s.WarmedH U.vm) (h : rz_XP A s H) : rz_XP A U H := ⟨rz_XW.warm hv h.1, vx_Zq.moved hv.alike h.2.1, vx_Zq.moved hv.alike h.2.2⟩
theorem rz_XP.sub {A B : Nat → Prop} {U : State} {H0 H : Heap} {locs : List Loc} (h : rz_XP A U H0) (hAB : ∀ q, B q → A q) (hS : va_S A H0 H locs) : rz_XP B U H := ⟨h.1, ((h.2.1.kept (fun a h1 h2 => hS.2.1 a h1 h2)).narrow hAB), ((h.2.2.kept (fun a h1 h2 => hS.2.1 a h1 h2)).narrow hAB)⟩
def rz_PreX (D : va_G) (cI cJ : ClassId) (adr : Nat → Nat) (sz : Nat) (av : List Value) (w : rz_W) : Array Value → State → Prop := fun a U => rz_Pre D cI cJ adr sz av w a U ∧ rz_XP (va_A (rz_c cI cJ adr w) sz) U U.heap
theorem rz_blindX {D : va_G} {cI cJ : ClassId} {adr : Nat → Nat} {sz : Nat} {av : List Value} {w : rz_W} : FrameBlind (rz_PreX D cI cJ adr sz av w) := fun a U g mk h => ⟨rz_blind a U g mk h.1, rz_XP.moved (u := U) (U := U.calling g mk a) rfl h.2⟩
def rz_XC (px : List Value → rz_W → rz_W → Prop) (keys : List Nat) (D : va_G) (cI cJ : ClassId) (adr : Nat → Nat) (av : List Value) (w : rz_W) (A : Nat → Prop) : String → State → State → Prop := fun E st t => E = nseN ∧ (∃ w', w'.map Prod.fst = keys ∧ px av w w' ∧ va_P D vwCl (rz_c cI cJ adr w') t.heap) ∧ va_F A st t
def rz_ConX (l : Launch) (y : MethodName) (cc : ByteArray) (nL : Nat) (ret : Option FieldType) (d : Nat) (ce : rz_K) (px : List Value → rz_W → rz_W → Prop) : Prop := ∀ (D : va_G) (cI cJ : ClassId) (adr : Nat → Nat) (sz : Nat) (av : List Value) (w : rz_W), av.length = ce.1 → w.map Prod.fst = ce.2.1 → ce.2.2.2.2.1 av w →
  vx_Met l y (.code y cc nL ret :: bw) (rz_room d 1 6) (rz_PreX D cI cJ adr sz av w) (rz_Qc ce D cI cJ adr av w (va_A (rz_c cI cJ adr w) sz)) (rz_XC px ce.2.1 D cI cJ adr av w (va_A (rz_c cI cJ adr w) sz)) 1 6 (va_A (rz_c cI cJ adr w) sz)
def rz_VCX (pcT : Nat) (cod : List (Nat × rz_I)) (fld : List (Nat × Nat × Nat × Bool)) (cal cav : List (Nat × rz_K)) (bz : Bool) (nL : Nat) (ce : rz_K) (px : List Value → rz_W → rz_W → Prop) : Prop := ∀ (av : List Value) (w : rz_W), av.length = ce.1 → w.map Prod.fst = ce.2.1 → ce.2.2.2.2.1 av w →
  rz_words av ≤ nL ∧ ∃ N, rz_xrun 0 (fun _ => 0) ce.2.1 [] [] [] [] cod fld cal cav [] bz 1 6 [(pcT, [], fun _ _ w' cs sl => (px av w w' ∧ w'.map Prod.fst = ce.2.1) ∧ cs = 0 ∧ sl = 0)] (fun o w' => rz_kind ce.2.2.1 o ∧ (ce.2.2.2.1 = true → w' = w) ∧ w'.map Prod.fst = ce.2.1 ∧ ce.2.2.2.2.2 av w o w') 1 N 0 (rz_args 0 av) [] w 0 0
def nseI : List Nat := [13, 624, 633, 635, 638, 640, 625, 626, 23, 24, 627, 632, 636, 652, 614, 653, 616, 654, 618, 628, 630, 620, 642, 643, 644, 645, 645, 646, 647, 648, 648, 649, 650, 625, 641, 603, 611, 612, 613, 615, 617, 619, 623, 622, 621]
theorem nse_good : ∀ w ∈ (vx_at0 "CoastWatch" 117 nseN nseS).filter goodWord, w ∈ bw := bw_ts _ nseI (by decide +kernel) (by decide +kernel)
theorem nse_bad : ∀ w ∈ (vx_at0 "CoastWatch" 117 nseN nseS).filter (fun w => !goodWord w), w ∈ nseW := by decide +kernel
theorem nse_ot : ∀ w ∈ Cond.classLink "CoastWatch" 115 nseN :: Cond.initialized nseN :: vx_at0 "CoastWatch" 117 nseN nseS, vx_ot w = true := by decide +kernel
theorem nse_cl : Cond.classLink "CoastWatch" 115 nseN ∈ bw := bw_t 602 (by decide +kernel) rfl
theorem nse_ini : Cond.initialized nseN ∈ bw := bw_t 16 (by decide +kernel) rfl
theorem rz_conX {l : Launch} {y : MethodName} {cc : ByteArray} {nL d : Nat} {ret : Option FieldType} {bz : Bool} {cod : List (Nat × rz_I)} {fld : List (Nat × Nat × Nat × Bool)} {cal cav : List (Nat × rz_K)} {ce : rz_K} {px : List Value → rz_W → rz_W → Prop} {pcT : Nat}
    (hst : l.stackTraces = false) (hy : plainName y.cls = true) (hyo : y.cls = "CoastWatch") (hd : 6 ≤ d) (hfld : rz_Fld y.cls fld) (hcal : ∀ q ∈ cal, rz_CallOK l (rz_room d 1 6) y.cls cc (.invokestatic q.1) q.2) (hcav : ∀ q ∈ cav, rz_CallOK l (rz_room d 1 6) y.cls cc (.invokevirtual q.1) q.2)
    (hrows : ∀ q ∈ cod, rz_row y.cls cc nL ret bz [] q.1 q.2) (d0 : decode cc pcT = .ok (.new 115, 3)) (d3 : decode cc (pcT + 3) = .ok (.dup, 1)) (d4 : decode cc (pcT + 4) = .ok (.invokespecial 117, 3)) (d7 : decode cc (pcT + 7) = .ok (.athrow, 1))
    (hvc : rz_VCX pcT cod fld cal cav bz nL ce px) : rz_ConX l y cc nL ret d ce px := by
  intro D cI cJ adr sz av w hav hkeys hpre
  refine vx_ofW (cc := cc) (maxL := nL) (ret := ret) hy rfl ?_
  intro p e s m args below meth c s₁ B hml htab hv
  obtain ⟨⟨hargs, hsz, hP, hK, hD0, hnw⟩, hxp⟩ := hv
  subst hargs
  have hts0 := atoms_spec (ws := .code y cc nL ret :: bw) B.pre
  have hts : ∀ w ∈ bw, w.before (av.map (rz_v adr)).toArray s = true := fun w hw => hts0 w (List.mem_cons_of_mem _ hw)
  have hown : s.vm.findClass y.cls = some m.cls := findClass_of_methodNamed B.named
  subst hsz
  have hD := hD0.self (sz := s.heap.size)
  obtain ⟨hwd, N, h0⟩ := hvc av w hav hkeys hpre
  have hl := lv_entry (av.map (rz_v adr)) (n := nL) (by rw [rz_sl_len]; exact hwd)
  rw [lg_entry_eq]
  rw [rz_args_l] at hl
  have hA : ∀ q : Nat, s.heap.size ≤ q → va_A (rz_c cI cJ adr w) s.heap.size q := fun q h => Or.inr h
  have hG := rz_xall (own := y.cls) (ret := ret) (adr0 := adr) (ks := ce.2.1) (nL := nL) (A := va_A (rz_c cI cJ adr w) s.heap.size) (R := rz_room d 1 6) (e := e) (below := below) (l := l) (free := va_A (rz_c cI cJ adr w) s.heap.size) (sp := [])
    (QQ := vx_MQ below (rz_Qc ce D cI cJ adr av w (va_A (rz_c cI cJ adr w) s.heap.size)) (rz_XC px ce.2.1 D cI cJ adr av w (va_A (rz_c cI cJ adr w) s.heap.size)) (av.map (rz_v adr)).toArray s 1 6 (va_A (rz_c cI cJ adr w) s.heap.size))
    B.exec B.bytes B.notSynchronized hml hown hts hnw hK hA ⟨Nat.le_refl _, Nat.le_refl _⟩ B.returns (hfld s _ hts hnw) (fun ix ce9 h9 => hcal (ix, ce9) (rz_get_mem h9)) (fun ix ce9 h9 => hcav (ix, ce9) (rz_get_mem h9))
    (Qc := rz_Qc ce D cI cJ adr av w (va_A (rz_c cI cJ adr w) s.heap.size)) (by
      intro adr1 lv w1 cs sl H locs ls o hrel hq
      obtain ⟨g1, g2, g3, g4, g5, ⟨ex, g6, g7, g10⟩, g8, g9⟩ := hrel
      have hw1 : w1.map Prod.fst = ce.2.1 := hq.2.2.1
      have hex : ex = [] := List.append_cancel_left (as := ce.2.1) (by rw [← g6, hw1, List.append_nil])
      refine ⟨g3.2.2, fun t ht hW => ⟨⟨o, w1, rfl, hq.1, hw1, hq.2.1, hq.2.2.2, ?_⟩, g3.F ht⟩⟩
      rw [ht]
      have hadr : adr1 = adr := funext (fun k => g10 k (by rw [hex]; exact List.not_mem_nil))
      rw [← hadr]
      exact g1) (fun _ _ _ h => vx_ret h) rz_cls ⟨by show 1 ≤ d; omega, by show 20 ≤ 40 * d; omega⟩ (Or.inr (fun q hq => absurd hq List.not_mem_nil)) (Or.inl (fun q hq => absurd hq List.not_mem_nil)) (fun q hq => absurd hq List.not_mem_nil) (XP := fun _ _ _ => True) (fun _ _ _ _ _ => trivial) (fun q hq => absurd hq List.not_mem_nil) (fun q hq => absurd hq List.not_mem_nil) (fun k hk => by cases hk) (fun q hq => absurd hq List.not_mem_nil) (fun q hq => absurd hq List.not_mem_nil) (fun q hq => hrows q hq) (fun q hq z hz => by cases hz) (fun q hq _ hz => by cases hz)
    (Q := fun o w' => rz_kind ce.2.2.1 o ∧ (ce.2.2.2.1 = true → w' = w) ∧ w'.map Prod.fst = ce.2.1 ∧ ce.2.2.2.2.2 av w o w') (J := [(pcT, [], fun _ _ w' cs sl => (px av w w' ∧ w'.map Prod.fst = ce.2.1) ∧ cs = 0 ∧ sl = 0)]) (N := N) (n0 := 1) (by
      intro q hq
      rcases List.mem_cons.mp hq with rfl | hq
      · refine Or.inr (fun k lv w' cs sl hj => ?_)
        obtain ⟨⟨hpx, hkw⟩, rfl, rfl⟩ := hj
        intro adr1 H locs ls hrel
        obtain ⟨g1, g2, g3, g4, g5, ⟨ex, g6, g7, g10⟩, g8, g9⟩ := hrel
        have hex : ex = [] := List.append_cancel_left (as := ce.2.1) (by rw [← g6, hkw, List.append_nil])
        have hadr : adr1 = adr := funext (fun k => g10 k (by rw [hex]; exact List.not_mem_nil))
        subst hadr
        rw [hyo] at hown
        refine vx_throw0 (own := "CoastWatch") (cls := nseN) (names := nseS) (ik := 115) (ic := 117) (rest := []) B.exec B.bytes hst hown (by decide +kernel) (by decide +kernel) (hts _ nse_cl) (hts _ nse_ini) (vx_hat (fun w hw => hts w (nse_good w hw)) nse_bad (fun w hw => va_Nw.use (by
          rcases List.mem_cons.mp hw with rfl | hw
          · rfl
          rcases List.mem_cons.mp hw with rfl | hw
          · rfl
          rcases List.mem_cons.mp hw with rfl | hw
          · rfl
          rcases List.mem_cons.mp hw with rfl | hw
          · rfl
          exact absurd hw List.not_mem_nil) (hxp.1 w hw))) nse_ot hxp.2.1 hxp.2.2 g3 (by rw [hml]; exact g4.1) d0 d3 d4 d7 (fun x hx => (htab x hx).elim) (by show 2 + 3 < d; omega) (by show 0 + _ ≤ 40 * d; show 0 + (13 * (2 + 1) + 42) ≤ 40 * d; omega) (Nat.le_refl _) (Nat.le_refl _) B.notSynchronized ?_ g3.2.2 (Nat.le_refl _) (Nat.le_refl _)
        intro t ht1 ht2 ht3
        refine ⟨rfl, ⟨w', hkw, hpx, g1.kept (fun k q hk => ht3 _ (g1 k q hk).lt)⟩, Nat.le_trans g3.1 ht2, fun q h1 h2 => ?_⟩
        rw [ht3 q (Nat.lt_of_lt_of_le h1 g3.1)]
        exact g3.2.1 q h1 h2
      · exact absurd hq List.not_mem_nil) h0
  exact hG adr s.heap [] _ ⟨hP, rz_D.of_va hD, va_S.rf, hl, fun _ _ => rfl, ⟨[], by rw [hkeys, List.append_nil], Nat.le_refl _, fun _ _ => rfl⟩, Nat.zero_le _, Nat.zero_le _⟩
def ce_X6_corner : rz_K := (5, 0 :: kSS, 1, false, fun av w => ∃ (fx fy mi ax ay bx b2 : Nat → Int32) (a b c ex ey tx lx ty ly : Nat → Int64) (nw co x y v u : Int32) (n : Nat), av = [.ref 0, .int x, .int y, .int v, .int u] ∧ w = (0, oCW nw) :: wSS fx fy mi ax ay bx b2 (nI n) a b c ex ey tx lx ty ly co ∧ n ≤ 100, fun av w o w' => ∀ n, rF w 9 7 = nI n → n ≤ 100 → ∃ (a' b' c' ex' ey' tx' lx' ty' ly' : Nat → Int64) (k r : Int32), mtR (rI w 10) (rI w 11) (rI w 12) (rI w 13) (rI w 14) (rI w 15) (rI w 16) n (rJ w 18) (rJ w 19) (rJ w 20) (rJ w 21) (rJ w 22) (rJ w 23) (rJ w 24) (rJ w 25) (rJ w 26) (rF w 17 9) (rA av 1) (rA av 2) r a' b' c' ex' ey' tx' lx' ty' ly' k ∧ (r = 1 ∧ (0 ≤ rA av 3 ∧ rA av 3 ≤ k - 1) ∧ 0 ≤ rA av 4 ∧ rA av 4 ≤ 3) ∧ rS o = (if rA av 4 = 0 then tx' (rA av 3).toNatClampNeg else if rA av 4 = 1 then lx' (rA av 3).toNatClampNeg else if rA av 4 = 2 then ty' (rA av 3).toNatClampNeg else ly' (rA av 3).toNatClampNeg) ∧ w' = (0, oCW (rF w 0 6)) :: wSS (rI w 10) (rI w 11) (rI w 12) (rI w 13) (rI w 14) (rI w 15) (rI w 16) (rF w 9 7) a' b' c' ex' ey' tx' lx' ty' ly' k)
def px_X6_corner (av : List Value) (w w' : rz_W) : Prop := ∀ n, rF w 9 7 = nI n → n ≤ 100 → ∃ (a' b' c' ex' ey' tx' lx' ty' ly' : Nat → Int64) (k r : Int32), mtR (rI w 10) (rI w 11) (rI w 12) (rI w 13) (rI w 14) (rI w 15) (rI w 16) n (rJ w 18) (rJ w 19) (rJ w 20) (rJ w 21) (rJ w 22) (rJ w 23) (rJ w 24) (rJ w 25) (rJ w 26) (rF w 17 9) (rA av 1) (rA av 2) r a' b' c' ex' ey' tx' lx' ty' ly' k ∧ ¬ (r = 1 ∧ (0 ≤ rA av 3 ∧ rA av 3 ≤ k - 1) ∧ 0 ≤ rA av 4 ∧ rA av 4 ≤ 3) ∧ w' = (0, oCW (rF w 0 6)) :: wSS (rI w 10) (rI w 11) (rI w 12) (rI w 13) (rI w 14) (rI w 15) (rI w 16) (rF w 9 7) a' b' c' ex' ey' tx' lx' ty' ly' k
def cl_X6_corner : List (Nat × rz_K) := [(59, ce_X6_isWithin)]
def cv_X6_corner : List (Nat × rz_K) := [(109, ce_X6_meet), (118, ce_X4_cornerPart)]
theorem vp_6 {v : Int32} {j : Nat} (hj : j ≤ 6) (h : 0 ≤ v ∧ v ≤ nI j - 1) : vp_in v 6 := okS_vp (n := j) h (by omega) (by omega)
set_option maxHeartbeats 4000000 in
theorem vc_X6_corner : rz_VCX 37 k_X6_corner fl_X6 cl_X6_corner cv_X6_corner false 5 ce_X6_corner px_X6_corner := by
  intro av w hlen hk hpre
  obtain ⟨fx, fy, mi, ax, ay, bx, b2, a, b, c, ex, ey, tx, lx, ty, ly, nw, co, x, y, v, u, n, rfl, rfl, hn⟩ := hpre
  refine ⟨Nat.le_of_ble_eq_true rfl, 60, ?_⟩
  have thr : ∀ (a' b' c' ex' ey' tx' lx' ty' ly' : Nat → Int64) (k r : Int32), mtR fx fy mi ax ay bx b2 n a b c ex ey tx lx ty ly co x y r a' b' c' ex' ey' tx' lx' ty' ly' k → ¬ (r = 1 ∧ (0 ≤ v ∧ v ≤ k - 1) ∧ 0 ≤ u ∧ u ≤ 3) → px_X6_corner [.ref 0, .int x, .int y, .int v, .int u] ((0, oCW nw) :: wSS fx fy mi ax ay bx b2 (nI n) a b c ex ey tx lx ty ly co) ((0, oCW nw) :: wSS fx fy mi ax ay bx b2 (nI n) a' b' c' ex' ey' tx' lx' ty' ly' k) := by
    intro a' b' c' ex' ey' tx' lx' ty' ly' k r h1 h2 n' e1 g1
    have e1 : n = n' := nI_inj (by omega) (by omega) e1
    subst e1
    exact ⟨a', b', c', ex', ey', tx', lx', ty', ly', k, r, h1, h2, rfl⟩
  conv => whnf
  refine ⟨⟨fx, fy, mi, ax, ay, bx, b2, a, b, c, ex, ey, tx, lx, ty, ly, nw, co, x, y, n, rfl, rfl, hn⟩, ?_⟩
  intro r wc hwc
  obtain ⟨a', b', c', ex', ey', tx', lx', ty', ly', k, h1, hw⟩ := hwc n rfl hn
  have hw : wc = (0, oCW nw) :: wSS fx fy mi ax ay bx b2 (nI n) a' b' c' ex' ey' tx' lx' ty' ly' k := hw
  have h1 : mtR fx fy mi ax ay bx b2 n a b c ex ey tx lx ty ly co x y r a' b' c' ex' ey' tx' lx' ty' ly' k := h1
  subst hw
  have e : rz_back ((0, oCW nw) :: wSS fx fy mi ax ay bx b2 (nI n) a b c ex ey tx lx ty ly co) ((0, oCW nw) :: wSS fx fy mi ax ay bx b2 (nI n) a' b' c' ex' ey' tx' lx' ty' ly' k) = (0, oCW nw) :: wSS fx fy mi ax ay bx b2 (nI n) a' b' c' ex' ey' tx' lx' ty' ly' k := rz_back_pre (w := (0, oCW nw) :: wSS fx fy mi ax ay bx b2 (nI n) a b c ex ey tx lx ty ly co) (q := []) rfl (show (0 :: kSS).Nodup by decide +kernel)
  rw [e]
  conv => whnf
  refine ⟨fun h2 => ?_, fun h2 => ?_⟩
  · have h2 : r = 1 := h2
    obtain ⟨ok1, ok2, j, hj, rfl⟩ := mtR_1 h1 h2
    conv => whnf
    refine ⟨⟨_, _, _, rfl, rfl, trivial⟩, ?_⟩
    intro r2 hr2
    obtain rfl : r2 = bI (0 ≤ v ∧ v ≤ nI j - 1) := hr2
    conv => whnf
    refine ⟨fun h3 => ?_, fun h3 => ?_⟩
    · conv => whnf
      refine ⟨0, by omega, ⟨thr _ _ _ _ _ _ _ _ _ _ _ h1 (fun q => bI_0 h3 q.2.1), rfl⟩, rfl, rfl⟩
    · have h3 := bI_n h3
      conv => whnf
      refine ⟨⟨_, _, _, rfl, rfl, trivial⟩, ?_⟩
      intro r3 hr3
      obtain rfl : r3 = bI (0 ≤ u ∧ u ≤ 3) := hr3
      conv => whnf
      refine ⟨fun h4 => ?_, fun h4 => ?_⟩
      · conv => whnf
        refine ⟨0, by omega, ⟨thr _ _ _ _ _ _ _ _ _ _ _ h1 (fun q => bI_0 h4 q.2.2), rfl⟩, rfl, rfl⟩
      · have h4 := bI_n h4
        conv => whnf
        refine ⟨⟨a', b', c', ex', ey', tx', lx', ty', ly', nI j, v, u, rfl, rfl, vp_6 hj h3⟩, ?_⟩
        intro r4 hr4
        conv => whnf
        refine ⟨⟨_, rfl⟩, fun z => (by cases z), rfl, ?_⟩
        intro n' e1 g1
        have e1 : n = n' := nI_inj (by omega) (by omega) e1
        subst e1
        exact ⟨a', b', c', ex', ey', tx', lx', ty', ly', nI j, r, h1, ⟨h2, h3, h4⟩, hr4, rfl⟩
  · conv => whnf
    refine ⟨0, by omega, ⟨thr _ _ _ _ _ _ _ _ _ _ _ h1 (fun q => h2 q.1), rfl⟩, rfl, rfl⟩
def ce_X6_box : rz_K := (4, 0 :: kSS, 0, false, fun av w => ∃ (fx fy mi ax ay bx b2 : Nat → Int32) (a b c ex ey tx lx ty ly : Nat → Int64) (nw co x y u : Int32) (n : Nat), av = [.ref 0, .int x, .int y, .int u] ∧ w = (0, oCW nw) :: wSS fx fy mi ax ay bx b2 (nI n) a b c ex ey tx lx ty ly co ∧ n ≤ 100, fun av w o w' => ∀ n, rF w 9 7 = nI n → n ≤ 100 → ∃ (a' b' c' ex' ey' tx' lx' ty' ly' : Nat → Int64) (j : Nat) (r : Int32), mtR (rI w 10) (rI w 11) (rI w 12) (rI w 13) (rI w 14) (rI w 15) (rI w 16) n (rJ w 18) (rJ w 19) (rJ w 20) (rJ w 21) (rJ w 22) (rJ w 23) (rJ w 24) (rJ w 25) (rJ w 26) (rF w 17 9) (rA av 1) (rA av 2) r a' b' c' ex' ey' tx' lx' ty' ly' (nI j) ∧ j ≤ 6 ∧ (r = 1 ∧ 0 ≤ rA av 3 ∧ rA av 3 ≤ 3) ∧ rR o = bxF tx' lx' ty' ly' j (rA av 3) ∧ w' = (0, oCW (rF w 0 6)) :: wSS (rI w 10) (rI w 11) (rI w 12) (rI w 13) (rI w 14) (rI w 15) (rI w 16) (rF w 9 7) a' b' c' ex' ey' tx' lx' ty' ly' (nI j))
def px_X6_box (av : List Value) (w w' : rz_W) : Prop := ∀ n, rF w 9 7 = nI n → n ≤ 100 → ∃ (a' b' c' ex' ey' tx' lx' ty' ly' : Nat → Int64) (k r : Int32), mtR (rI w 10) (rI w 11) (rI w 12) (rI w 13) (rI w 14) (rI w 15) (rI w 16) n (rJ w 18) (rJ w 19) (rJ w 20) (rJ w 21) (rJ w 22) (rJ w 23) (rJ w 24) (rJ w 25) (rJ w 26) (rF w 17 9) (rA av 1) (rA av 2) r a' b' c' ex' ey' tx' lx' ty' ly' k ∧ ¬ (r = 1 ∧ 0 ≤ rA av 3 ∧ rA av 3 ≤ 3) ∧ w' = (0, oCW (rF w 0 6)) :: wSS (rI w 10) (rI w 11) (rI w 12) (rI w 13) (rI w 14) (rI w 15) (rI w 16) (rF w 9 7) a' b' c' ex' ey' tx' lx' ty' ly' k
def cl_X6_box : List (Nat × rz_K) := [(59, ce_X6_isWithin)]
def cv_X6_box : List (Nat × rz_K) := [(109, ce_X6_meet), (122, ce_X4_boxSide)]
set_option maxHeartbeats 4000000 in
theorem vc_X6_box : rz_VCX 19 k_X6_box fl_X6 cl_X6_box cv_X6_box false 4 ce_X6_box px_X6_box := by
  intro av w hlen hk hpre
  obtain ⟨fx, fy, mi, ax, ay, bx, b2, a, b, c, ex, ey, tx, lx, ty, ly, nw, co, x, y, u, n, rfl, rfl, hn⟩ := hpre
  refine ⟨Nat.le_of_ble_eq_true rfl, 60, ?_⟩
  have thr : ∀ (a' b' c' ex' ey' tx' lx' ty' ly' : Nat → Int64) (k r : Int32), mtR fx fy mi ax ay bx b2 n a b c ex ey tx lx ty ly co x y r a' b' c' ex' ey' tx' lx' ty' ly' k → ¬ (r = 1 ∧ 0 ≤ u ∧ u ≤ 3) → px_X6_box [.ref 0, .int x, .int y, .int u] ((0, oCW nw) :: wSS fx fy mi ax ay bx b2 (nI n) a b c ex ey tx lx ty ly co) ((0, oCW nw) :: wSS fx fy mi ax ay bx b2 (nI n) a' b' c' ex' ey' tx' lx' ty' ly' k) := by
    intro a' b' c' ex' ey' tx' lx' ty' ly' k r h1 h2 n' e1 g1
    have e1 : n = n' := nI_inj (by omega) (by omega) e1
    subst e1
    exact ⟨a', b', c', ex', ey', tx', lx', ty', ly', k, r, h1, h2, rfl⟩
  conv => whnf
  refine ⟨⟨fx, fy, mi, ax, ay, bx, b2, a, b, c, ex, ey, tx, lx, ty, ly, nw, co, x, y, n, rfl, rfl, hn⟩, ?_⟩
  intro r wc hwc
  obtain ⟨a', b', c', ex', ey', tx', lx', ty', ly', k, h1, hw⟩ := hwc n rfl hn
  have hw : wc = (0, oCW nw) :: wSS fx fy mi ax ay bx b2 (nI n) a' b' c' ex' ey' tx' lx' ty' ly' k := hw
  have h1 : mtR fx fy mi ax ay bx b2 n a b c ex ey tx lx ty ly co x y r a' b' c' ex' ey' tx' lx' ty' ly' k := h1
  subst hw
  have e : rz_back ((0, oCW nw) :: wSS fx fy mi ax ay bx b2 (nI n) a b c ex ey tx lx ty ly co) ((0, oCW nw) :: wSS fx fy mi ax ay bx b2 (nI n) a' b' c' ex' ey' tx' lx' ty' ly' k) = (0, oCW nw) :: wSS fx fy mi ax ay bx b2 (nI n) a' b' c' ex' ey' tx' lx' ty' ly' k := rz_back_pre (w := (0, oCW nw) :: wSS fx fy mi ax ay bx b2 (nI n) a b c ex ey tx lx ty ly co) (q := []) rfl (show (0 :: kSS).Nodup by decide +kernel)
  rw [e]
  conv => whnf
  refine ⟨fun h2 => ?_, fun h2 => ?_⟩
  · have h2 : r = 1 := h2
    obtain ⟨ok1, ok2, j, hj, rfl⟩ := mtR_1 h1 h2
    conv => whnf
    refine ⟨⟨_, _, _, rfl, rfl, trivial⟩, ?_⟩
    intro r3 hr3
    obtain rfl : r3 = bI (0 ≤ u ∧ u ≤ 3) := hr3
    conv => whnf
    refine ⟨fun h4 => ?_, fun h4 => ?_⟩
    · conv => whnf
      refine ⟨0, by omega, ⟨thr _ _ _ _ _ _ _ _ _ _ _ h1 (fun q => bI_0 h4 q.2), rfl⟩, rfl, rfl⟩
    · have h4 := bI_n h4
      conv => whnf
      refine ⟨⟨a', b', c', ex', ey', tx', lx', ty', ly', j, u, rfl, rfl, hj⟩, ?_⟩
      intro r4 hr4
      have hr4 := hr4 j rfl hj
      conv => whnf
      refine ⟨⟨_, rfl⟩, fun z => (by cases z), rfl, ?_⟩
      intro n' e1 g1
      have e1 : n = n' := nI_inj (by omega) (by omega) e1
      subst e1
      exact ⟨a', b', c', ex', ey', tx', lx', ty', ly', j, r, h1, hj, ⟨h2, h4⟩, hr4, rfl⟩
  · conv => whnf
    refine ⟨0, by omega, ⟨thr _ _ _ _ _ _ _ _ _ _ _ h1 (fun q => h2 q.1), rfl⟩, rfl, rfl⟩
theorem cx_X6_corner (l : Launch) (hst : l.stackTraces = false) : rz_ConX l yX6_corner cX6_corner 5 (some .long) 6 ce_X6_corner px_X6_corner := rz_conX hst (by decide +kernel) rfl (by decide) fo_X6 (by
  intro q hq
  rcases List.mem_cons.mp hq with rfl | hq
  · exact rz_callS (cn_X6_isWithin l) (by decide +kernel) ⟨Nat.le_of_ble_eq_true rfl, Nat.le_of_ble_eq_true rfl⟩ m_X6_isWithin t_X6_isWithin n_X6_59
  exact absurd hq List.not_mem_nil) (by
  intro q hq
  rcases List.mem_cons.mp hq with rfl | hq
  · exact rz_callV (cn_X6_meet l) (by decide +kernel) ⟨Nat.le_of_ble_eq_true rfl, Nat.le_of_ble_eq_true rfl⟩ m_X6_meet rfl i_X6_meet v_X6_meet rv_X6_meet n_X6_109
  rcases List.mem_cons.mp hq with rfl | hq
  · exact rz_callVN (cn_X4_cornerPart l) (by decide +kernel) ⟨Nat.le_of_ble_eq_true rfl, Nat.le_of_ble_eq_true rfl⟩ m_X4_cornerPart rfl i_X4_cornerPart v_X4_cornerPart rv_X4_cornerPart n_X6_118
  exact absurd hq List.not_mem_nil) r_X6_corner (by decide +kernel) (by decide +kernel) (by decide +kernel) (by decide +kernel) vc_X6_corner
theorem cx_X6_box (l : Launch) (hst : l.stackTraces = false) : rz_ConX l yX6_box cX6_box 4 (some .int) 6 ce_X6_box px_X6_box := rz_conX hst (by decide +kernel) rfl (by decide) fo_X6 (by
  intro q hq
  rcases List.mem_cons.mp hq with rfl | hq
  · exact rz_callS (cn_X6_isWithin l) (by decide +kernel) ⟨Nat.le_of_ble_eq_true rfl, Nat.le_of_ble_eq_true rfl⟩ m_X6_isWithin t_X6_isWithin n_X6_59
  exact absurd hq List.not_mem_nil) (by
  intro q hq
  rcases List.mem_cons.mp hq with rfl | hq
  · exact rz_callV (cn_X6_meet l) (by decide +kernel) ⟨Nat.le_of_ble_eq_true rfl, Nat.le_of_ble_eq_true rfl⟩ m_X6_meet rfl i_X6_meet v_X6_meet rv_X6_meet n_X6_109
  rcases List.mem_cons.mp hq with rfl | hq
  · exact rz_callVN (cn_X4_boxSide l) (by decide +kernel) ⟨Nat.le_of_ble_eq_true rfl, Nat.le_of_ble_eq_true rfl⟩ m_X4_boxSide rfl i_X4_boxSide v_X4_boxSide rv_X4_boxSide n_X6_122
  exact absurd hq List.not_mem_nil) r_X6_box (by decide +kernel) (by decide +kernel) (by decide +kernel) (by decide +kernel) vc_X6_box
