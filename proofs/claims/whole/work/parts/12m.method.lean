/-! A method's contract out of rz_run: entry, loops, calls. -/
def rz_args : Nat → List Value → rz_L
  | _, [] => []
  | i, v :: vs => match rz_two v with
    | true => (i, v) :: rz_args (i + 2) vs
    | false => (i, v) :: rz_args (i + 1) vs
theorem rz_args_l (adr : Nat → Nat) : ∀ (av : List Value) (i : Nat), lv_args i (av.map (rz_v adr)) = rz_l adr (rz_args i av)
  | [], _ => rfl
  | v :: vs, i => by
    show (i, rz_v adr v) :: lv_args (if (rz_v adr v).category = 2 then i + 2 else i + 1) (vs.map (rz_v adr)) = _
    rw [rz_cat]
    unfold rz_args
    cases h : rz_two v with
    | true =>
      show (i, rz_v adr v) :: lv_args (i + 2) (vs.map (rz_v adr)) = (i, rz_v adr v) :: rz_l adr (rz_args (i + 2) vs)
      rw [rz_args_l adr vs (i + 2)]
    | false =>
      show (i, rz_v adr v) :: lv_args (i + 1) (vs.map (rz_v adr)) = (i, rz_v adr v) :: rz_l adr (rz_args (i + 1) vs)
      rw [rz_args_l adr vs (i + 1)]
theorem rz_sl_len (adr : Nat → Nat) : ∀ av : List Value, (lg_sl (av.map (rz_v adr))).length = rz_words av
  | [] => rfl
  | v :: vs => by
    have h1 : lg_sl ((v :: vs).map (rz_v adr)) = (if (rz_v adr v).category = 2 then [.val (rz_v adr v), .second] else [.val (rz_v adr v)]) ++ lg_sl (vs.map (rz_v adr)) := by
      simp [lg_sl]
    rw [h1, List.length_append, rz_sl_len adr vs, rz_cat]
    show _ = match rz_two v with
      | true => rz_words vs + 2
      | false => rz_words vs + 1
    cases rz_two v with
    | true => show 2 + rz_words vs = rz_words vs + 2; omega
    | false => show 1 + rz_words vs = rz_words vs + 1; omega
section RZM
variable {p : Program} {l : Launch} {e : Env} {R : Room} {s : State} {m : MethodId} {args : Array Value} {below : List Frame} {meth : Method} {c : Code} {QQ : State → Prop}
theorem rz_run_sound {D : va_G} {cI cJ : ClassId} {A : Nat → Prop} {nL : Nat} {ks : List Nat} {RC RS : Nat} {adr0 : Nat → Nat} {own : String} {cc : ByteArray} {ret : Option FieldType} {bz : Bool} {cod : List (Nat × rz_I)} {fld : List (Nat × Nat × Nat × Bool)} {cal cav : List (Nat × rz_K)} {sw : List (Int32 × Nat)} {J : List (Nat × rz_J)} {Q : Option Value → rz_W → Prop} {Qc : Array Value → State → Outcome → State → Prop} {free : Addr → Prop}
    (hx : p.tables.exec = Jvm.exec) (hb : c.code = cc) (hlocks : meth.locks = false) (hml : c.maxLocals = nL) (hown : s.vm.findClass own = some m.cls) (hts : ∀ w ∈ bw, w.before args s = true) (hnw : rz_NW s) (hK : va_K D vwCl [(cI, .int), (cJ, .long)] s) (hA : ∀ q, s.heap.size ≤ q → A q) (hR : RC ≤ R.cells ∧ RS ≤ R.slots) (hr : meth.sig.returnType = ret)
    (hfld : ∀ ix q, rz_get fld ix = some q → rz_FOK own s args ix q) (hcal : ∀ ix ce, rz_get cal ix = some ce → rz_CallOK l R own cc (.invokestatic ix) ce) (hcav : ∀ ix ce, rz_get cav ix = some ce → rz_CallOK l R own cc (.invokevirtual ix) ce)
    (hfin : ∀ (adr : Nat → Nat) (lv : rz_L) (w : rz_W) (cs sl : Nat) (H : Heap) (locs : List Loc) (ls : Array Slot) (o : Option Value), rz_Rel D cI cJ A s nL ks RC RS adr0 adr lv w cs sl H locs ls → Q o w → (∀ q ∈ locs, free q.base) ∧ ∀ t : State, t.heap = H → s.WarmedH t.vm → Qc args s (.returned o) t)
    (hQQ : ∀ (H : Heap) (locs : List Loc) (g : JFrame), W p l e R s m args below meth c H locs RC RS (MQ below Qc args s RC RS free) g → W p l e R s m args below meth c H locs RC RS QQ g)
    (hrows : ∀ q ∈ cod, rz_row own cc nL ret bz sw q.1 q.2) {n0 : Nat}
    (hcut : ∀ k, k < n0 → ∀ pc j, rz_get J pc = some j → ∀ lv w, j.2 k lv w → rz_G p l e R s m args below meth c QQ D cI cJ A nL ks RC RS adr0 pc lv [] w RC RS) :
    ∀ n pc lv st w cs sl, rz_run cod fld cal cav sw bz RC RS J Q n0 n pc lv st w cs sl → rz_G p l e R s m args below meth c QQ D cI cJ A nL ks RC RS adr0 pc lv st w cs sl := by
  intro n
  induction n with
  | zero => intro pc lv st w cs sl h; exact h.elim
  | succ n ih =>
    intro pc lv st w cs sl h
    obtain ⟨⟨i, nx, tg, na, ci, cl⟩, hi, h⟩ := rz_op_s h
    refine rz_step (own := own) (ret := ret) hx hb hlocks hml hown hts hnw hK hA hR hr hfld hcal hcav hfin hQQ (hrows (pc, _) (rz_get_mem hi)) (fun pc lv st w cs sl hk => ?_) h
    cases hj : rz_get J pc with
    | none =>
      rw [hj] at hk
      exact ih pc lv st w cs sl hk
    | some j =>
      rw [hj] at hk
      match st, hk with
      | [], hk =>
        obtain ⟨k, hk1, hk2⟩ := hk
        intro adr H locs ls hrel
        obtain ⟨hP, hD, hS, hl, hkk, ⟨ex, e1, e2, e3⟩, hc1, hc2⟩ := hrel
        exact W.widen hc1 hc2 (hcut k hk1 pc j hj _ w hk2 adr H locs ls ⟨hP, hD, hS, rz_lv_keep j.1 hl, hkk, ⟨ex, e1, Nat.le_trans e2 hc1, e3⟩, Nat.le_refl _, Nat.le_refl _⟩)
theorem rz_loops {D : va_G} {cI cJ : ClassId} {A : Nat → Prop} {nL : Nat} {ks : List Nat} {RC RS : Nat} {adr0 : Nat → Nat} {own : String} {cc : ByteArray} {ret : Option FieldType} {bz : Bool} {cod : List (Nat × rz_I)} {fld : List (Nat × Nat × Nat × Bool)} {cal cav : List (Nat × rz_K)} {sw : List (Int32 × Nat)} {J : List (Nat × rz_J)} {Q : Option Value → rz_W → Prop} {Qc : Array Value → State → Outcome → State → Prop} {free : Addr → Prop}
    (hx : p.tables.exec = Jvm.exec) (hb : c.code = cc) (hlocks : meth.locks = false) (hml : c.maxLocals = nL) (hown : s.vm.findClass own = some m.cls) (hts : ∀ w ∈ bw, w.before args s = true) (hnw : rz_NW s) (hK : va_K D vwCl [(cI, .int), (cJ, .long)] s) (hA : ∀ q, s.heap.size ≤ q → A q) (hR : RC ≤ R.cells ∧ RS ≤ R.slots) (hr : meth.sig.returnType = ret)
    (hfld : ∀ ix q, rz_get fld ix = some q → rz_FOK own s args ix q) (hcal : ∀ ix ce, rz_get cal ix = some ce → rz_CallOK l R own cc (.invokestatic ix) ce) (hcav : ∀ ix ce, rz_get cav ix = some ce → rz_CallOK l R own cc (.invokevirtual ix) ce)
    (hfin : ∀ (adr : Nat → Nat) (lv : rz_L) (w : rz_W) (cs sl : Nat) (H : Heap) (locs : List Loc) (ls : Array Slot) (o : Option Value), rz_Rel D cI cJ A s nL ks RC RS adr0 adr lv w cs sl H locs ls → Q o w → (∀ q ∈ locs, free q.base) ∧ ∀ t : State, t.heap = H → s.WarmedH t.vm → Qc args s (.returned o) t)
    (hQQ : ∀ (H : Heap) (locs : List Loc) (g : JFrame), W p l e R s m args below meth c H locs RC RS (MQ below Qc args s RC RS free) g → W p l e R s m args below meth c H locs RC RS QQ g)
    (hrows : ∀ q ∈ cod, rz_row own cc nL ret bz sw q.1 q.2) {N : Nat}
    (hJ : ∀ q ∈ J, ∀ k lv w, q.2.2 k lv w → rz_run cod fld cal cav sw bz RC RS J Q k N q.1 lv [] w RC RS) :
    ∀ k pc j, rz_get J pc = some j → ∀ lv w, j.2 k lv w → rz_G p l e R s m args below meth c QQ D cI cJ A nL ks RC RS adr0 pc lv [] w RC RS := by
  intro k
  induction k using Nat.strongRecOn with
  | _ k ih =>
    intro pc j hj lv w hjk
    exact rz_run_sound (own := own) (ret := ret) hx hb hlocks hml hown hts hnw hK hA hR hr hfld hcal hcav hfin hQQ hrows (fun k' hk' pc' j' hj' lv' w' h' => ih k' hk' pc' j' hj' lv' w' h') N pc lv [] w RC RS (hJ (pc, j) (rz_get_mem hj) k lv w hjk)
end RZM
abbrev rz_room (d mc ms : Nat) : Room := { frames := d, cells := mc, slots := ms, locals := 40 * d }
def rz_Pre (D : va_G) (cI cJ : ClassId) (adr : Nat → Nat) (sz : Nat) (av : List Value) (w : rz_W) : Array Value → State → Prop := va_Pc (av.map (rz_v adr)) (fun U => U.heap.size = sz ∧ va_P D vwCl (rz_c cI cJ adr w) U.heap ∧ va_K D vwCl [(cI, .int), (cJ, .long)] U ∧ va_D (fun _ => True) (rz_c cI cJ adr w) ∧ rz_NW U)
/-- a method's contract: y of level d, by its callee's row -/
def rz_Con (l : Launch) (y : MethodName) (cc : ByteArray) (nL : Nat) (ret : Option FieldType) (d mc ms : Nat) (ce : rz_K) : Prop := ∀ (D : va_G) (cI cJ : ClassId) (adr : Nat → Nat) (sz : Nat) (av : List Value) (w : rz_W), av.length = ce.1 → w.map Prod.fst = ce.2.1 → ce.2.2.2.2.1 av w →
  Met l y (.code y cc nL ret :: bw) (rz_room d mc ms) (rz_Pre D cI cJ adr sz av w) (rz_Qc ce D cI cJ adr av w (va_A (rz_c cI cJ adr w) sz)) mc ms (va_A (rz_c cI cJ adr w) sz)
def rz_end (ce : rz_K) (av : List Value) (w : rz_W) : Option Value → rz_W → Prop := fun o w' => rz_kind ce.2.2.1 o ∧ (ce.2.2.2.1 = true → w' = w) ∧ ce.2.2.2.2.2 av w o w'
/-- what is to be shown of a method without new cells: entry, and each loop's head -/
def rz_VC (cod : List (Nat × rz_I)) (fld : List (Nat × Nat × Nat × Bool)) (cal cav : List (Nat × rz_K)) (sw : List (Int32 × Nat)) (bz : Bool) (nL : Nat) (ce : rz_K) : Prop := ∀ (av : List Value) (w : rz_W), av.length = ce.1 → w.map Prod.fst = ce.2.1 → ce.2.2.2.2.1 av w →
  rz_words av ≤ nL ∧ ∃ (J : List (Nat × rz_J)) (N n0 : Nat), (∀ q ∈ J, ∀ k lv w', q.2.2 k lv w' → rz_run cod fld cal cav sw bz 0 0 J (rz_end ce av w) k N q.1 lv [] w' 0 0) ∧ rz_run cod fld cal cav sw bz 0 0 J (rz_end ce av w) n0 N 0 (rz_args 0 av) [] w 0 0
/-- as the kit's Met.ofW, for a method that no entry of the table of natives runs instead -/
theorem rz_ofW {l : Launch} {y : MethodName} {ws ws' : List Cond} {rm : Room} {Pc : Array Value → State → Prop} {Qc : Array Value → State → Outcome → State → Prop} {mc ms : Nat} {free : Addr → Prop} {cc : ByteArray} {maxL : Nat} {ret : Option FieldType}
    (hy : plainFor y = true) (hw : ws = Cond.code y cc maxL ret :: ws')
    (body : ∀ p e s m args below meth c s₁, BodyLoose p l y (headSpec ws rm) cc maxL ret e s m args below meth c s₁ → c.maxLocals = maxL → Pc args s →
      W p l e (headSpec ws rm).room s m args below meth c s.heap [] 0 0 (MQ below Qc args s mc ms free) (entryFrame m args maxL)) : Met l y ws rm Pc Qc mc ms free := by
  refine MetFree.of_bodySF (code := cc) (maxLocals := maxL) (ret := ret) hy ?_ ?_
  · intro args s m h hn
    obtain ⟨meth, c, h1, h2, h3, h4, h5, h6, -, -⟩ := Cond.code_spec hn (atoms_spec (ws := ws) h _ (by rw [hw]; exact List.mem_cons_self))
    exact ⟨meth, c, h1, h2, h3, h4, h5, h6⟩
  · intro p e s m args below meth c s₁ B hml hP _
    have hh0 : s₁.heap = s.heap := by rw [B.state]; rfl
    obtain ⟨t, a1, o, b1, b2, b3⟩ := body p e s m args below meth c s₁ B hml hP s₁ hh0 (Stand.of_body B)
    exact ⟨t, o, a1, b1, b2, ⟨b3.1, b3.2⟩⟩
theorem rz_con {l : Launch} {y : MethodName} {cc : ByteArray} {nL d : Nat} {ret : Option FieldType} {bz : Bool} {cod : List (Nat × rz_I)} {fld : List (Nat × Nat × Nat × Bool)} {cal cav : List (Nat × rz_K)} {sw : List (Int32 × Nat)} {ce : rz_K}
    (hy : plainFor y = true) (hfld : rz_Fld y.cls fld) (hcal : ∀ q ∈ cal, rz_CallOK l (rz_room d 0 0) y.cls cc (.invokestatic q.1) q.2) (hcav : ∀ q ∈ cav, rz_CallOK l (rz_room d 0 0) y.cls cc (.invokevirtual q.1) q.2)
    (hrows : ∀ q ∈ cod, rz_row y.cls cc nL ret bz sw q.1 q.2) (hvc : rz_VC cod fld cal cav sw bz nL ce) : rz_Con l y cc nL ret d 0 0 ce := by
  intro D cI cJ adr sz av w hav hkeys hpre
  refine rz_ofW (cc := cc) (maxL := nL) (ret := ret) hy rfl ?_
  intro p e s m args below meth c s₁ B hml hv
  obtain ⟨hargs, hsz, hP, hK, hD0, hnw⟩ := hv
  subst hargs
  have hts0 := atoms_spec (ws := .code y cc nL ret :: bw) B.pre
  have hts : ∀ w ∈ bw, w.before (av.map (rz_v adr)).toArray s = true := fun w hw => hts0 w (List.mem_cons_of_mem _ hw)
  have hown : s.vm.findClass y.cls = some m.cls := findClass_of_methodNamed B.named
  subst hsz
  have hD := hD0.self (sz := s.heap.size)
  obtain ⟨hwd, J, N, n0, hJ, h0⟩ := hvc av w hav hkeys hpre
  have hl := lv_entry (av.map (rz_v adr)) (n := nL) (by rw [rz_sl_len]; exact hwd)
  rw [lg_entry_eq]
  rw [rz_args_l] at hl
  have hA : ∀ q : Nat, s.heap.size ≤ q → va_A (rz_c cI cJ adr w) s.heap.size q := fun q h => Or.inr h
  have hR : (0 : Nat) ≤ (rz_room d 0 0).cells ∧ 0 ≤ (rz_room d 0 0).slots := ⟨Nat.zero_le _, Nat.zero_le _⟩
  have hfin : ∀ (adr1 : Nat → Nat) (lv : rz_L) (w1 : rz_W) (cs sl : Nat) (H : Heap) (locs : List Loc) (ls : Array Slot) (o : Option Value), rz_Rel D cI cJ (va_A (rz_c cI cJ adr w) s.heap.size) s nL ce.2.1 0 0 adr adr1 lv w1 cs sl H locs ls → rz_end ce av w o w1 → (∀ q ∈ locs, va_A (rz_c cI cJ adr w) s.heap.size q.base) ∧ ∀ t : State, t.heap = H → s.WarmedH t.vm → rz_Qc ce D cI cJ adr av w (va_A (rz_c cI cJ adr w) s.heap.size) (av.map (rz_v adr)).toArray s (.returned o) t := by
    intro adr1 lv w1 cs sl H locs ls o hrel hq
    obtain ⟨g1, g2, g3, g4, g5, ⟨ex, g6, g7, g10⟩, g8, g9⟩ := hrel
    have hex : ex = [] := List.eq_nil_of_length_eq_zero (by omega)
    rw [hex, List.append_nil] at g6
    refine ⟨g3.2.2, fun t ht hW => ⟨⟨o, w1, rfl, hq.1, g6, hq.2.1, hq.2.2, ?_⟩, g3.F ht⟩⟩
    rw [ht]
    have hadr : adr1 = adr := funext (fun k => g10 k (by rw [hex]; exact List.not_mem_nil))
    rw [← hadr]
    exact g1
  have hG := rz_run_sound (own := y.cls) (ret := ret) (adr0 := adr) (ks := ce.2.1) (R := rz_room d 0 0) (e := e) (below := below) (free := va_A (rz_c cI cJ adr w) s.heap.size) B.exec B.bytes B.notSynchronized hml hown hts hnw hK hA hR B.returns (hfld s _ hts hnw) (fun ix ce9 h9 => hcal (ix, ce9) (rz_get_mem h9)) (fun ix ce9 h9 => hcav (ix, ce9) (rz_get_mem h9)) hfin (fun _ _ _ h => h) hrows (n0 := n0)
    (fun k _ pc j hj lv w9 hjk => rz_loops (own := y.cls) (ret := ret) (adr0 := adr) (ks := ce.2.1) (R := rz_room d 0 0) (e := e) (below := below) B.exec B.bytes B.notSynchronized hml hown hts hnw hK hA hR B.returns (hfld s _ hts hnw) (fun ix ce9 h9 => hcal (ix, ce9) (rz_get_mem h9)) (fun ix ce9 h9 => hcav (ix, ce9) (rz_get_mem h9)) hfin (fun _ _ _ h => h) hrows hJ k pc j hj lv w9 hjk) N 0 (rz_args 0 av) [] w 0 0 h0
  exact hG adr s.heap [] _ ⟨hP, rz_D.of_va hD, va_S.rf, hl, fun _ _ => rfl, ⟨[], by rw [hkeys, List.append_nil], Nat.le_refl _, fun _ _ => rfl⟩, Nat.le_refl _, Nat.le_refl _⟩
