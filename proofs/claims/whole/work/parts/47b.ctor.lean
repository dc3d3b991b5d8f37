/-! The extended machine's runs and loops; contracts of constructors; calls that make cells. -/
section RZY
variable {p : Program} {l : Launch} {e : Env} {R : Room} {s : State} {m : MethodId} {args : Array Value} {below : List Frame} {meth : Method} {c : Code} {QQ : State → Prop}
theorem rz_xall {D : va_G} {cI cJ : ClassId} {A : Nat → Prop} {nL : Nat} {ks : List Nat} {RC RS : Nat} {adr0 : Nat → Nat} {own : String} {cc : ByteArray} {ret : Option FieldType} {bz : Bool} {cod : List (Nat × rz_I)} {fld : List (Nat × Nat × Nat × Bool)} {cal cav : List (Nat × rz_K)} {sw : List (Int32 × Nat)} {Q : Option Value → rz_W → Prop} {Qc : Array Value → State → Outcome → State → Prop} {free : Addr → Prop}
    {L : Nat} {xs : Nat → Int32} {df : List (Nat × Nat × List Value)} {cz : List (Nat × rz_Z)} {ck : List (Nat × rz_K × Nat × Nat)} {ca : List (Nat × rz_S)} {sp : List Nat}
    (hx : p.tables.exec = Jvm.exec) (hb : c.code = cc) (hlocks : meth.locks = false) (hml : c.maxLocals = nL) (hown : s.vm.findClass own = some m.cls) (hts : ∀ w ∈ bw, w.before args s = true) (hnw : rz_NW s) (hK : va_K D vwCl [(cI, .int), (cJ, .long)] s) (hA : ∀ q, s.heap.size ≤ q → A q) (hR : RC ≤ R.cells ∧ RS ≤ R.slots) (hr : meth.sig.returnType = ret)
    (hfld : ∀ ix q, rz_get fld ix = some q → rz_FOK own s args ix q) (hcal : ∀ ix ce, rz_get cal ix = some ce → rz_CallOK l R own cc (.invokestatic ix) ce) (hcav : ∀ ix ce, rz_get cav ix = some ce → rz_CallOK l R own cc (.invokevirtual ix) ce)
    (hfin : ∀ (adr : Nat → Nat) (lv : rz_L) (w : rz_W) (cs sl : Nat) (H : Heap) (locs : List Loc) (ls : Array Slot) (o : Option Value), rz_Rel D cI cJ A s nL ks RC RS adr0 adr lv w cs sl H locs ls → Q o w → (∀ q ∈ locs, free q.base) ∧ ∀ t : State, t.heap = H → s.WarmedH t.vm → Qc args s (.returned o) t)
    (hQQ : ∀ (H : Heap) (locs : List Loc) (g : JFrame), W p l e R s m args below meth c H locs RC RS (MQ below Qc args s RC RS free) g → W p l e R s m args below meth c H locs RC RS QQ g)
    (hcls : rz_Cls) (hR2 : 1 ≤ R.frames ∧ 20 ≤ R.locals) (hmn : meth.name = "<init>" ∨ ∀ q ∈ ca, ¬ q.2.1 = 3) (hX : (∀ q ∈ ca, ¬ q.2.1 = 5 ∧ ¬ q.2.1 = 6) ∨ (va_X (adr0 999) L xs s s.heap ∧ adr0 999 < s.heap.size ∧ ¬ A (adr0 999)))
    (hcz : ∀ q ∈ cz, rz_CtorOK l R own cc q.1 q.2) {XP : (Nat → Prop) → State → Heap → Prop} (hXP : ∀ (B : Nat → Prop) (H : Heap) (locs : List Loc), (∀ q, B q → A q) → va_S A s.heap H locs → XP B s H) (hck : ∀ q ∈ ck, rz_CallOKA XP l R own cc q.1 q.2.1 q.2.2.1 q.2.2.2)
    (hsp : ∀ q ∈ ca, rz_mem q.1 sp = true) (hsp2 : ∀ k, rz_mem k sp = true → (∃ z, rz_get ca k = some z) ∨ (∃ z, rz_get cz k = some z) ∨ ∃ z, rz_get ck k = some z) (hcz3 : ∀ q ∈ cz, rz_mem q.1 sp = true) (hck3 : ∀ q ∈ ck, rz_mem q.1 sp = true)
    (hrows : ∀ q ∈ cod, rz_rowX own cc nL ret bz sw sp q.1 q.2) (hca : ∀ q ∈ cod, ∀ z, rz_get ca q.1 = some z → rz_caOK own df z q.2.1) (hlen3 : ∀ q ∈ cod, rz_get ca q.1 = none → rz_mem q.1 sp = true → rz_len q.2.1 = 3)
    {J : List (Nat × rz_XJ)} {N : Nat}
    (hJ : ∀ q ∈ J, (∀ k lv w cs sl, q.2.2 k lv w cs sl → rz_xrun L xs ks df cz ck ca cod fld cal cav sw bz RC RS J Q k N q.1 lv [] w cs sl) ∨ (∀ k lv w cs sl, q.2.2 k lv w cs sl → rz_G p l e R s m args below meth c QQ D cI cJ A nL ks RC RS adr0 q.1 lv [] w cs sl))
    {n0 pc : Nat} {lv : rz_L} {st : List Value} {w : rz_W} {cs sl : Nat} (h0 : rz_xrun L xs ks df cz ck ca cod fld cal cav sw bz RC RS J Q n0 N pc lv st w cs sl) : rz_G p l e R s m args below meth c QQ D cI cJ A nL ks RC RS adr0 pc lv st w cs sl := by
  have sound : ∀ n0, (∀ k, k < n0 → ∀ pc j, rz_get J pc = some j → ∀ lv w cs sl, j.2 k lv w cs sl → rz_G p l e R s m args below meth c QQ D cI cJ A nL ks RC RS adr0 pc lv [] w cs sl) → ∀ n pc lv st w cs sl, rz_xrun L xs ks df cz ck ca cod fld cal cav sw bz RC RS J Q n0 n pc lv st w cs sl → rz_G p l e R s m args below meth c QQ D cI cJ A nL ks RC RS adr0 pc lv st w cs sl := by
    intro n0 hcut n
    induction n with
    | zero => intro pc lv st w cs sl h; exact h.elim
    | succ n ih =>
      intro pc lv st w cs sl h
      obtain ⟨⟨i, nx, tg, na, ci, cl⟩, hi, h⟩ := rz_op_s h
      refine rz_xstep (own := own) (ret := ret) hx hb hlocks hml hown hts hnw hK hA hR hr hfld hcal hcav hfin hQQ hcls hR2 hmn hX hcz hXP hck hsp hsp2 hcz3 hck3 (hrows (pc, _) (rz_get_mem hi)) (hca (pc, _) (rz_get_mem hi)) (hlen3 (pc, _) (rz_get_mem hi)) (fun pc lv st w cs sl hk => ?_) h
      cases hj : rz_get J pc with
      | none =>
        rw [hj] at hk
        exact ih pc lv st w cs sl hk
      | some j =>
        rw [hj] at hk
        match st, hk with
        | [], hk =>
          obtain ⟨k, hk1, hk2⟩ := hk
          intro adr H locs ls hrel
          obtain ⟨hP, hD, hS, hl, hkk, hex, hc1, hc2⟩ := hrel
          exact hcut k hk1 pc j hj _ w cs sl hk2 adr H locs ls ⟨hP, hD, hS, rz_lv_keep j.1 hl, hkk, hex, hc1, hc2⟩
  have loops : ∀ k pc j, rz_get J pc = some j → ∀ lv w cs sl, j.2 k lv w cs sl → rz_G p l e R s m args below meth c QQ D cI cJ A nL ks RC RS adr0 pc lv [] w cs sl := by
    intro k
    induction k using Nat.strongRecOn with
    | _ k ih =>
      intro pc j hj lv w cs sl hjk
      rcases hJ (pc, j) (rz_get_mem hj) with h | h
      · exact sound k (fun k' hk' pc' j' hj' lv' w' cs' sl' h' => ih k' hk' pc' j' hj' lv' w' cs' sl' h') N pc lv [] w cs sl (h k lv w cs sl hjk)
      · exact h k lv w cs sl hjk
  exact sound n0 (fun k _ pc j hj lv w cs sl h => loops k pc j hj lv w cs sl h) N pc lv st w cs sl h0
end RZY
def rz_ConC (l : Launch) (y : MethodName) (cc : ByteArray) (nL d : Nat) (z : rz_Z) : Prop := ∀ (D : va_G) (cI cJ : ClassId) (adr : Nat → Nat) (sz : Nat),
  Met l y (.code y cc nL none :: bw) (rz_room d z.2.2.2.2.1 z.2.2.2.2.2) (rz_Pre D cI cJ adr sz [.ref z.1] [(z.1, z.2.1)]) (rz_Qz z D cI cJ adr (va_A (rz_c cI cJ adr [(z.1, z.2.1)]) sz)) z.2.2.2.2.1 z.2.2.2.2.2 (va_A (rz_c cI cJ adr [(z.1, z.2.1)]) sz)
def rz_VCC (df : List (Nat × Nat × List Value)) (cz : List (Nat × rz_Z)) (ca : List (Nat × rz_S)) (cod : List (Nat × rz_I)) (fld : List (Nat × Nat × Nat × Bool)) (cal : List (Nat × rz_K)) (z : rz_Z) : Prop := ∃ (J : List (Nat × rz_XJ)) (N n0 : Nat),
  (∀ q ∈ J, ∀ k lv w cs sl, q.2.2 k lv w cs sl → rz_xrun 0 (fun _ => 0) [z.1] df cz [] ca cod fld cal [] [] false z.2.2.2.2.1 z.2.2.2.2.2 J (fun o w => o = none ∧ w = (z.1, z.2.2.1) :: z.2.2.2.1) k N q.1 lv [] w cs sl) ∧
  rz_xrun 0 (fun _ => 0) [z.1] df cz [] ca cod fld cal [] [] false z.2.2.2.2.1 z.2.2.2.2.2 J (fun o w => o = none ∧ w = (z.1, z.2.2.1) :: z.2.2.2.1) n0 N 0 [(0, .ref z.1)] [] [(z.1, z.2.1)] 0 0
theorem rz_conC {l : Launch} {y : MethodName} {cc : ByteArray} {nL d : Nat} {cod : List (Nat × rz_I)} {fld : List (Nat × Nat × Nat × Bool)} {cal : List (Nat × rz_K)} {z : rz_Z} {df : List (Nat × Nat × List Value)} {cz : List (Nat × rz_Z)} {ca : List (Nat × rz_S)} {sp : List Nat}
    (hy : plainFor y = true) (hname : y.name = "<init>") (hcls : rz_Cls) (hnL : 1 ≤ nL) (hd : 1 ≤ d) (hfld : rz_Fld y.cls fld) (hcal : ∀ q ∈ cal, rz_CallOK l (rz_room d z.2.2.2.2.1 z.2.2.2.2.2) y.cls cc (.invokestatic q.1) q.2)
    (hX : ca.all (fun q => !Nat.beq q.2.1 5 && !Nat.beq q.2.1 6) = true) (hcz : ∀ q ∈ cz, rz_CtorOK l (rz_room d z.2.2.2.2.1 z.2.2.2.2.2) y.cls cc q.1 q.2)
    (hspa : ca.all (fun q => rz_mem q.1 sp) = true) (hsp2 : ∀ k, rz_mem k sp = true → (∃ z, rz_get ca k = some z) ∨ (∃ z, rz_get cz k = some z)) (hcz3 : cz.all (fun q => rz_mem q.1 sp) = true)
    (hrows : ∀ q ∈ cod, rz_rowX y.cls cc nL none false [] sp q.1 q.2) (hca : ∀ q ∈ cod, ∀ z, rz_get ca q.1 = some z → rz_caOK y.cls df z q.2.1) (hlen3 : ∀ q ∈ cod, rz_get ca q.1 = none → rz_mem q.1 sp = true → rz_len q.2.1 = 3)
    (hvc : rz_VCC df cz ca cod fld cal z) : rz_ConC l y cc nL d z := by
  intro D cI cJ adr sz
  refine rz_ofW (cc := cc) (maxL := nL) (ret := none) hy rfl ?_
  intro p e s m args below meth c s₁ B hml hv
  obtain ⟨hargs, hsz, hP, hK, hD0, hnw⟩ := hv
  subst hargs
  have hts0 := atoms_spec (ws := .code y cc nL none :: bw) B.pre
  have hts : ∀ w ∈ bw, w.before ([Value.ref z.1].map (rz_v adr)).toArray s = true := fun w hw => hts0 w (List.mem_cons_of_mem _ hw)
  have hown : s.vm.findClass y.cls = some m.cls := findClass_of_methodNamed B.named
  have hmn : meth.name = "<init>" := (name_of_methodNamed B.named B.method).1.trans hname
  subst hsz
  have hD := hD0.self (sz := s.heap.size)
  have hl := lv_entry ([Value.ref z.1].map (rz_v adr)) (n := nL) (by rw [rz_sl_len]; exact hnL)
  rw [lg_entry_eq]
  rw [rz_args_l] at hl
  obtain ⟨J, N, n0, hJ, h0⟩ := hvc
  have hG := rz_xall (own := y.cls) (ret := none) (adr0 := adr) (ks := [z.1]) (nL := nL) (A := va_A (rz_c cI cJ adr [(z.1, z.2.1)]) s.heap.size) (R := rz_room d z.2.2.2.2.1 z.2.2.2.2.2) (e := e) (below := below) (l := l) (free := va_A (rz_c cI cJ adr [(z.1, z.2.1)]) s.heap.size) (QQ := MQ below (rz_Qz z D cI cJ adr (va_A (rz_c cI cJ adr [(z.1, z.2.1)]) s.heap.size)) ([Value.ref z.1].map (rz_v adr)).toArray s z.2.2.2.2.1 z.2.2.2.2.2 (va_A (rz_c cI cJ adr [(z.1, z.2.1)]) s.heap.size))
    B.exec B.bytes B.notSynchronized hml hown hts hnw hK (fun q h => Or.inr h) ⟨Nat.le_refl _, Nat.le_refl _⟩ B.returns (hfld s _ hts hnw) (fun ix ce9 h9 => hcal (ix, ce9) (rz_get_mem h9)) (fun ix ce9 h9 => by cases h9)
    (Qc := rz_Qz z D cI cJ adr (va_A (rz_c cI cJ adr [(z.1, z.2.1)]) s.heap.size)) (by
      intro adr1 lv w1 cs sl H locs ls o hrel hq
      obtain ⟨g1, g2, g3, g4, g5, ⟨ex, g6, g7, g10⟩, g8, g9⟩ := hrel
      obtain ⟨rfl, rfl⟩ := hq
      have hex : ex = z.2.2.2.1.map Prod.fst := (List.append_cancel_left (as := [z.1]) (show [z.1] ++ z.2.2.2.1.map Prod.fst = [z.1] ++ ex from g6)).symm
      have hz1 : adr1 z.1 = adr z.1 := g5 z.1 List.mem_cons_self
      have hnd := List.nodup_cons.mp (show (z.1 :: z.2.2.2.1.map Prod.fst).Nodup from g2.1)
      refine ⟨g3.2.2, fun t ht hW => ⟨⟨rfl, adr1, fun k hk => g10 k (by rw [hex]; exact hk), by rw [ht]; exact g1, hnd.2, fun i hi j hj e9 => g2.2.1 i (List.mem_cons_of_mem _ hi) j (List.mem_cons_of_mem _ hj) e9, fun i hi => ?_⟩, g3.F ht⟩⟩
      rcases g2.2.2 i (List.mem_cons_of_mem _ hi) with ⟨k, e9, hk9⟩ | h9
      · exfalso
        have hm9 := List.mem_of_getElem? hk9
        rcases List.mem_cons.mp hm9 with e8 | e8
        · have e7 : adr1 i = adr z.1 := congrArg Prod.fst e8
          rw [← hz1] at e7
          exact hnd.1 (by rw [← g2.2.1 i (List.mem_cons_of_mem _ hi) z.1 List.mem_cons_self e7]; exact hi)
        · exact absurd e8 List.not_mem_nil
      · exact h9)
    (fun _ _ _ h => h) hcls ⟨hd, by show 20 ≤ 40 * d; omega⟩ (Or.inl hmn) (Or.inl (fun q hq => by
      have h9 := (Bool.and_eq_true _ _).mp (List.all_eq_true.mp hX q hq)
      refine ⟨fun z9 => ?_, fun z9 => ?_⟩
      · rw [z9] at h9; exact absurd h9.1 (by decide)
      · rw [z9] at h9; exact absurd h9.2 (by decide))) hcz (XP := fun _ _ _ => True) (fun _ _ _ _ _ => trivial) (ck := []) (fun q hq => absurd hq List.not_mem_nil) (fun q hq => List.all_eq_true.mp hspa q hq) (fun k hk => (hsp2 k hk).elim Or.inl (fun q => Or.inr (Or.inl q))) (fun q hq => List.all_eq_true.mp hcz3 q hq) (fun q hq => absurd hq List.not_mem_nil) hrows hca hlen3 (fun q hq => Or.inl (hJ q hq)) h0
  exact hG adr s.heap [] _ ⟨hP, rz_D.of_va hD, va_S.rf, hl, fun _ _ => rfl, ⟨[], rfl, Nat.zero_le _, fun _ _ => rfl⟩, Nat.zero_le _, Nat.zero_le _⟩
theorem rz_ctorI {l : Launch} {R : Room} {own : String} {cc cc' : ByteArray} {pc ix nL' d' : Nat} {y : MethodName} {z : rz_Z} (hcon : rz_ConC l y cc' nL' d' z) (hnd : z.2.2.2.1.length ≤ z.2.2.2.2.1) (hR : d' + 1 ≤ R.frames ∧ 8 + (nL' + 11) + 40 * d' ≤ R.locals)
    (hm : rz_MW y cc' nL' none 0) (hnm : y.name = "<init>") (hin : Cond.instanceMethod y ∈ bw) (hl : Cond.methodLink own ix y ∈ bw) (hdg : decode cc pc = .ok (.invokespecial ix, 3)) : rz_CtorOK l R own cc pc z := by
  refine ⟨hnd, fun p e s m args below meth c H locs cs sl ls nL D cI cJ adr rest h1 h2 hx hb hml hown hts hnw hK hsz hrest hP => ?_⟩
  have hD : va_D (fun _ => True) (rz_c cI cJ adr [(z.1, z.2.1)]) := (rz_D.va (w := [(z.1, z.2.1)]) ⟨by simp, fun i hi j hj _ => by
    rw [List.mem_singleton.mp (show i ∈ [z.1] from hi), List.mem_singleton.mp (show j ∈ [z.1] from hj)], fun _ _ => trivial⟩)
  exact ⟨_, va_runI (As := []) (b := adr z.1) ⟨hx, hb, hml, hown, hts⟩ (hcon D cI cJ adr H.size) ⟨callB_of 0 hts (rz_gcode hm.1) rfl rfl rfl (hts _ hm.2.1) (hts _ hl) hm.2.2 hR, hnm, hts _ hin⟩ ⟨rz_blind, fun U hU hW => ⟨rfl, by rw [hU], by rw [hU]; exact hP, va_K.moved hW.alike hK, hD, hnw.warm hW⟩⟩ rfl rfl hsz rfl (lv_room hrest) hdg ⟨h1, h2⟩⟩
theorem rz_ctorIN {l : Launch} {R : Room} {own : String} {cc cc' : ByteArray} {pc ix nL' d' : Nat} {y : MethodName} {z : rz_Z} (hcon : rz_ConC l y cc' nL' d' z) (hnd : z.2.2.2.1.length ≤ z.2.2.2.2.1) (hR : d' + 1 ≤ R.frames ∧ 8 + (nL' + 11) + 40 * d' ≤ R.locals)
    (hm : rz_MW y cc' nL' none 0) (hnm : y.name = "<init>") (hin : Cond.instanceMethod y ∈ bw) (hl : Cond.methodLinkNest own ix y "CoastWatch" ∈ tables_1) (hdg : decode cc pc = .ok (.invokespecial ix, 3)) : rz_CtorOK l R own cc pc z := by
  refine ⟨hnd, fun p e s m args below meth c H locs cs sl ls nL D cI cJ adr rest h1 h2 hx hb hml hown hts hnw hK hsz hrest hP => ?_⟩
  have hD : va_D (fun _ => True) (rz_c cI cJ adr [(z.1, z.2.1)]) := (rz_D.va (w := [(z.1, z.2.1)]) ⟨by simp, fun i hi j hj _ => by
    rw [List.mem_singleton.mp (show i ∈ [z.1] from hi), List.mem_singleton.mp (show j ∈ [z.1] from hj)], fun _ _ => trivial⟩)
  exact ⟨_, va_runIN (As := []) (b := adr z.1) ⟨hx, hb, hml, hown, hts⟩ (hcon D cI cJ adr H.size) ⟨va_cnB 0 hts (rz_gcode hm.1) rfl rfl rfl (hnw _ hl rfl) (hts _ hm.2.1) hm.2.2 hR, hnm, hts _ hin⟩ ⟨rz_blind, fun U hU hW => ⟨rfl, by rw [hU], by rw [hU]; exact hP, va_K.moved hW.alike hK, hD, hnw.warm hW⟩⟩ rfl rfl hsz rfl (lv_room hrest) hdg ⟨h1, h2⟩⟩
theorem rz_callVA {XP : (Nat → Prop) → State → Heap → Prop} {l : Launch} {R : Room} {own : String} {cc cc' : ByteArray} {pc ix n nL' d' mc ms : Nat} {y : MethodName} {ret' : Option FieldType} {ce : rz_K} (hcon : rz_Con l y cc' nL' ret' d' mc ms ce) (hnd : ce.2.1.Nodup) (hR : d' + 1 ≤ R.frames ∧ 8 + (nL' + 11) + 40 * d' ≤ R.locals)
    (hm : rz_MW y cc' nL' ret' n) (hn : ce.1 = n + 1) (hin : Cond.instanceMethod y ∈ bw) (hsel : Cond.selects y.cls y y ∈ bw) (hrv : rz_Rv y.cls ce) (hl : Cond.methodLink own ix y ∈ bw) (hdg : decode cc pc = .ok (.invokevirtual ix, 3)) : rz_CallOKA XP l R own cc pc ce mc ms := by
  refine ⟨hnd, fun p e s m args below meth c H locs cs sl ls nL D cI cJ adr av rest w h1 h2 hx hb hml hown hts hnw hK hsz hlen hrest hP hD hkeys hpre _ => ?_⟩
  obtain ⟨k, av', ci, fs, T, N, e1, e2, e3⟩ := hrv av w hpre
  subst e1
  have hlen2 : av'.length = n := by rw [hn] at hlen; exact Nat.succ.inj hlen
  refine ⟨_, va_runV (As := av'.map (rz_v adr)) (b := adr k) ⟨hx, hb, hml, hown, hts⟩ (hcon D cI cJ adr H.size _ w hlen hkeys hpre) ⟨callB_of n hts (rz_gcode hm.1) rfl rfl rfl (hts _ hm.2.1) (hts _ hl) hm.2.2 hR, hts _ hin, hts _ hsel⟩ ⟨rz_blind, va_recv hK hP e3 (rz_get_pos e2), fun U hU hW => ⟨rfl, by rw [hU], by rw [hU]; exact hP, va_K.moved hW.alike hK, hD, hnw.warm hW⟩⟩ rfl (by rw [List.length_map]; exact hlen2) hsz (by simp [rz_v]) (lv_room hrest) hdg ⟨h1, h2⟩⟩
