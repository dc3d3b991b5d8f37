/-! The machine with new cells that stay, final fields, calls that make cells, the script: for constructors and the law. -/
/-- a constructor's row: the object's name, its cell before and behind, the new cells, how many cells and slots -/
abbrev rz_Z : Type := Nat × rz_C × rz_C × rz_W × Nat × Nat
/-- a place: 0 newarray int (name, length), 1 newarray long, 2 new (name, class), 3 a final field (class, field), 4 Object.<init>, 5 the script's element, 6 its length -/
abbrev rz_S : Type := Nat × Nat × Nat
def rz_frs (k : Nat) (lv : rz_L) (st : List Value) (w : rz_W) : Bool := rz_noV k lv && (rz_noL k st && rz_noW k w)
def rz_frz (lv : rz_L) (st : List Value) (w : rz_W) : rz_W → Bool
  | [] => true
  | (k, _) :: r => rz_frs k lv st w && rz_frz lv st w r
def rz_cat2 : rz_W → rz_W → rz_W
  | [], b => b
  | q :: a, b => q :: rz_cat2 a b
theorem rz_cat2_eq : ∀ a b : rz_W, rz_cat2 a b = a ++ b
  | [], _ => rfl
  | q :: a, b => by unfold rz_cat2; rw [rz_cat2_eq a b]; rfl
def rz_spl (L : Nat) (xs : Nat → Int32) (ks : List Nat) (df : List (Nat × Nat × List Value)) (RC RS : Nat) (K : Nat → rz_L → List Value → rz_W → Nat → Nat → Prop) (z : rz_S) (nx : Nat) (lv : rz_L) (st : List Value) (w : rz_W) (cs sl : Nat) : Prop := match z.1 with
  | 0 => rz_pi st fun x r => rz_if (rz_frs z.2.1 lv r w) (x = nI z.2.2 ∧ cs + 1 ≤ RC ∧ sl + z.2.2 ≤ RS ∧ K nx lv (.ref z.2.1 :: r) (rz_cat2 w [(z.2.1, .inr (.inl (z.2.2, fun _ => 0)))]) (cs + 1) (sl + z.2.2))
  | 1 => rz_pi st fun x r => rz_if (rz_frs z.2.1 lv r w) (x = nI z.2.2 ∧ cs + 1 ≤ RC ∧ sl + z.2.2 ≤ RS ∧ K nx lv (.ref z.2.1 :: r) (rz_cat2 w [(z.2.1, .inr (.inr (z.2.2, fun _ => 0)))]) (cs + 1) (sl + z.2.2))
  | 2 => rz_op (rz_get df z.2.2) fun q => rz_if (rz_frs z.2.1 lv st w) (cs + 1 ≤ RC ∧ sl + q.1 ≤ RS ∧ K nx lv (.ref z.2.1 :: st) (rz_cat2 w [(z.2.1, .inl (z.2.2, q.2))]) (cs + 1) (sl + q.1))
  | 3 => rz_pr st fun v r => rz_pr r fun a r => rz_ob w a z.2.1 fun fs => rz_if (Nat.blt z.2.2 fs.length) (K nx lv r (rz_set w a (.inl (z.2.1, fs.set z.2.2 (.ref v)))) cs sl)
  | 4 => rz_pr st fun _ r => rz_if (Nat.ble (rz_words r) 8) (K nx lv r w cs sl)
  | 5 => rz_pi st fun j r => rz_pr r fun a r => rz_if (Nat.beq a 999) (vp_in j L ∧ w.map Prod.fst = ks ∧ K nx lv (.int (xs j.toNatClampNeg) :: r) w cs sl)
  | 6 => rz_pr st fun a r => rz_if (Nat.beq a 999) (w.map Prod.fst = ks ∧ K nx lv (.int (nI L) :: r) w cs sl)
  | _ => False
def rz_ctr (RC RS : Nat) (K : Nat → rz_L → List Value → rz_W → Nat → Nat → Prop) (z : rz_Z) (nx : Nat) (lv : rz_L) (st : List Value) (w : rz_W) (cs sl : Nat) : Prop :=
  rz_pr st fun a r => rz_if (Nat.beq a z.1 && (Nat.ble (rz_words r) 8 && rz_frz lv r w z.2.2.2.1)) (rz_get w z.1 = some z.2.1 ∧ cs + z.2.2.2.2.1 ≤ RC ∧ sl + z.2.2.2.2.2 ≤ RS ∧ K nx lv r (rz_cat2 (rz_set w z.1 z.2.2.1) z.2.2.2.1) (cs + z.2.2.2.2.1) (sl + z.2.2.2.2.2))
def rz_xst (L : Nat) (xs : Nat → Int32) (ks : List Nat) (df : List (Nat × Nat × List Value)) (cz : List (Nat × rz_Z)) (ck : List (Nat × rz_K × Nat × Nat)) (ca : List (Nat × rz_S)) (fld : List (Nat × Nat × Nat × Bool)) (cal cav : List (Nat × rz_K)) (sw : List (Int32 × Nat)) (bz : Bool) (RC RS : Nat) (Q : Option Value → rz_W → Prop) (K : Nat → rz_L → List Value → rz_W → Nat → Nat → Prop)
    (pc : Nat) (i : Instr) (nx tg na : Nat) (ci : Int32) (cl : Int64) (lv : rz_L) (st : List Value) (w : rz_W) (cs sl : Nat) : Prop := match rz_get ca pc with
  | some z => rz_spl L xs ks df RC RS K z nx lv st w cs sl
  | none => match rz_get cz pc with
    | some z => rz_ctr RC RS K z nx lv st w cs sl
    | none => match rz_get ck pc with
      | some q => cs + q.2.1 ≤ RC ∧ sl + q.2.2 ≤ RS ∧ rz_call q.1 st w fun st' w' => K nx lv st' w' (cs + q.2.1) (sl + q.2.2)
      | none => rz_stp fld cal cav sw bz RC RS Q K i nx tg na ci cl lv st w cs sl
abbrev rz_XJ : Type := List Nat × (Nat → rz_L → rz_W → Nat → Nat → Prop)
def rz_xrun (L : Nat) (xs : Nat → Int32) (ks : List Nat) (df : List (Nat × Nat × List Value)) (cz : List (Nat × rz_Z)) (ck : List (Nat × rz_K × Nat × Nat)) (ca : List (Nat × rz_S)) (cod : List (Nat × rz_I)) (fld : List (Nat × Nat × Nat × Bool)) (cal cav : List (Nat × rz_K)) (sw : List (Int32 × Nat)) (bz : Bool) (RC RS : Nat) (J : List (Nat × rz_XJ)) (Q : Option Value → rz_W → Prop) (n0 : Nat) : Nat → Nat → rz_L → List Value → rz_W → Nat → Nat → Prop
  | 0, _, _, _, _, _, _ => False
  | n + 1, pc, lv, st, w, cs, sl => rz_op (rz_get cod pc) fun i => rz_xst L xs ks df cz ck ca fld cal cav sw bz RC RS Q
      (fun pc lv st w cs sl => match rz_get J pc with
        | some j => match st with
          | [] => ∃ k, k < n0 ∧ j.2 k (rz_keep j.1 lv) w cs sl
          | _ => False
        | none => rz_xrun L xs ks df cz ck ca cod fld cal cav sw bz RC RS J Q n0 n pc lv st w cs sl) pc i.1 i.2.1 i.2.2.1 i.2.2.2.1 i.2.2.2.2.1 i.2.2.2.2.2 lv st w cs sl
def rz_noR : List Value → Bool
  | [] => true
  | .ref _ :: _ => false
  | _ :: r => rz_noR r
def rz_refTy : FieldType → Bool
  | .array _ => true
  | .object _ => true
  | _ => false
/-- what the tables say of a special place -/
def rz_caOK (own : String) (df : List (Nat × Nat × List Value)) (z : rz_S) (i : Instr) : Prop := match z.1 with
  | 0 => i = .newarray .int ∧ z.2.2 ≤ 10000
  | 1 => i = .newarray .long ∧ z.2.2 ≤ 10000
  | 2 => ∃ (ix : Nat) (C : String) (T : u_T) (N : Nat) (ty : Nat → FieldType) (fs : List Value), i = .new ix ∧ vwCl[z.2.2]? = some (C, T, N) ∧ rz_get df z.2.2 = some (N, fs) ∧ (∀ k, k < N → parseFieldDescriptor (T k).2.2.1 = some (ty k)) ∧ (∀ j, j < N → defaultValue (ty j) = vp_V fs j) ∧ rz_noR fs = true ∧ Cond.classLink own ix C ∈ bw ∧ Cond.instantiable C N ∈ bw ∧ Cond.initialized C ∈ bw ∧ ∀ w ∈ u_ws C T N, w ∈ bw
  | 3 => ∃ (ix : Nat) (C : String) (T : u_T) (N : Nat) (ty : FieldType), i = .putfield ix ∧ vwCl[z.2.1]? = some (C, T, N) ∧ z.2.2 < N ∧ (T z.2.2).1 = own ∧ (T z.2.2).2.2.2 = true ∧ parseFieldDescriptor (T z.2.2).2.2.1 = some ty ∧ rz_refTy ty = true ∧ Cond.fieldLink own ix (T z.2.2).1 (T z.2.2).2.1 (T z.2.2).2.2.1 ∈ bw
  | 4 => ∃ ix : Nat, i = .invokespecial ix ∧ Cond.methodLink own ix Lib.objectInit ∈ bw ∧ Cond.instanceMethod Lib.objectInit ∈ bw ∧ Cond.code Lib.objectInit ⟨#[0xb1]⟩ 1 none ∈ bw
  | 5 => i = .iaload
  | 6 => i = .arraylength
  | _ => False
theorem rz_noR_v {adr : Nat → Nat} : ∀ {l : List Value}, rz_noR l = true → l.map (rz_v adr) = l
  | [], _ => rfl
  | v :: r, h => by
    cases v with
    | ref a => cases h
    | _ => show _ :: r.map (rz_v adr) = _; rw [rz_noR_v (l := r) h]; rfl
/-- what a constructor gives: the object's cell, the new cells at names of their own -/
def rz_Qz (z : rz_Z) (D : va_G) (cI cJ : ClassId) (adr : Nat → Nat) (A : Nat → Prop) : Array Value → State → Outcome → State → Prop := fun _ st oc t =>
  (oc = .returned none ∧ ∃ adr' : Nat → Nat, (∀ k, k ∉ z.2.2.2.1.map Prod.fst → adr' k = adr k) ∧ va_P D vwCl (rz_c cI cJ adr' ((z.1, z.2.2.1) :: z.2.2.2.1)) t.heap ∧ rz_D adr' (fun q => st.heap.size ≤ q) (z.2.2.2.1.map Prod.fst)) ∧ va_F A st t
def rz_CtorOK (l : Launch) (R : Room) (own : String) (cc : ByteArray) (pc : Nat) (z : rz_Z) : Prop :=
  z.2.2.2.1.length ≤ z.2.2.2.2.1 ∧ ∀ (p : Program) (e : Env) (s : State) (m : MethodId) (args : Array Value) (below : List Frame) (meth : Method) (c : Code) (H : Heap) (locs : List Loc) (cs sl : Nat) (ls : Array Slot) (nL : Nat) (D : va_G) (cI cJ : ClassId) (adr : Nat → Nat) (rest : List Value),
    cs + z.2.2.2.2.1 ≤ R.cells → sl + z.2.2.2.2.2 ≤ R.slots → p.tables.exec = Jvm.exec → c.code = cc → c.maxLocals = nL → s.vm.findClass own = some m.cls → (∀ w ∈ bw, w.before args s = true) → rz_NW s → va_K D vwCl [(cI, .int), (cJ, .long)] s →
    ls.size = nL → (rest.map fun v => v.category).sum ≤ 8 → va_P D vwCl (rz_c cI cJ adr [(z.1, z.2.1)]) H →
    ∃ a, va_Run p l e R s m args below meth c H locs cs sl z.2.2.2.2.1 z.2.2.2.2.2 (F0 m pc ls (.ref (adr z.1) :: rest)) rest (rz_Qz z D cI cJ adr (va_A (rz_c cI cJ adr [(z.1, z.2.1)]) H.size) a) (va_A (rz_c cI cJ adr [(z.1, z.2.1)]) H.size)
def rz_CallOKA (XP : (Nat → Prop) → State → Heap → Prop) (l : Launch) (R : Room) (own : String) (cc : ByteArray) (pc : Nat) (ce : rz_K) (mc ms : Nat) : Prop :=
  ce.2.1.Nodup ∧ ∀ (p : Program) (e : Env) (s : State) (m : MethodId) (args : Array Value) (below : List Frame) (meth : Method) (c : Code) (H : Heap) (locs : List Loc) (cs sl : Nat) (ls : Array Slot) (nL : Nat) (D : va_G) (cI cJ : ClassId) (adr : Nat → Nat) (av rest : List Value) (w : rz_W),
    cs + mc ≤ R.cells → sl + ms ≤ R.slots → p.tables.exec = Jvm.exec → c.code = cc → c.maxLocals = nL → s.vm.findClass own = some m.cls → (∀ w ∈ bw, w.before args s = true) → rz_NW s → va_K D vwCl [(cI, .int), (cJ, .long)] s →
    ls.size = nL → av.length = ce.1 → (rest.map fun v => v.category).sum ≤ 8 → va_P D vwCl (rz_c cI cJ adr w) H → va_D (fun _ => True) (rz_c cI cJ adr w) → w.map Prod.fst = ce.2.1 → ce.2.2.2.2.1 av w → XP (va_A (rz_c cI cJ adr w) H.size) s H →
    ∃ a, va_Run p l e R s m args below meth c H locs cs sl mc ms (F0 m pc ls ((av.map (rz_v adr)).reverse ++ rest)) rest (rz_Qc ce D cI cJ adr av w (va_A (rz_c cI cJ adr w) H.size) a) (va_A (rz_c cI cJ adr w) H.size)
/-- a row of a special place: decoded only -/
def rz_rowX (own : String) (cc : ByteArray) (nL : Nat) (ret : Option FieldType) (bz : Bool) (sw : List (Int32 × Nat)) (sp : List Nat) (pc : Nat) (q : rz_I) : Prop := match rz_mem pc sp with
  | true => decode cc pc = .ok (q.1, rz_len q.1) ∧ q.2.1 = pc + rz_len q.1
  | false => rz_row own cc nL ret bz sw pc q
def rz_rowbX (own : String) (cc : ByteArray) (nL : Nat) (ret : Option FieldType) (bz : Bool) (sw : List (Int32 × Nat)) (sp : List Nat) (pc : Nat) (q : rz_I) : Bool := match rz_mem pc sp with
  | true => decide (decode cc pc = .ok (q.1, rz_len q.1)) && decide (q.2.1 = pc + rz_len q.1)
  | false => rz_rowb own cc nL ret bz sw pc q
theorem rz_rowsX {own : String} {cc : ByteArray} {nL : Nat} {ret : Option FieldType} {bz : Bool} {sw : List (Int32 × Nat)} {sp : List Nat} {cod : List (Nat × rz_I)} (h : cod.all (fun q => rz_rowbX own cc nL ret bz sw sp q.1 q.2) = true) : ∀ q ∈ cod, rz_rowX own cc nL ret bz sw sp q.1 q.2 := fun q hq => by
  have h1 := List.all_eq_true.mp h q hq
  unfold rz_rowbX at h1
  unfold rz_rowX
  split
  · rename_i z
    rw [z] at h1
    have h2 := (Bool.and_eq_true _ _).mp h1
    exact ⟨of_decide_eq_true h2.1, of_decide_eq_true h2.2⟩
  · rename_i z
    rw [z] at h1
    exact rz_rowb_ok h1
theorem rz_frz_n {lv : rz_L} {st : List Value} {w : rz_W} : ∀ {wn : rz_W}, rz_frz lv st w wn = true → ∀ k ∈ wn.map Prod.fst, rz_noV k lv = true ∧ rz_noL k st = true ∧ rz_noW k w = true
  | [], _, k, h => absurd h List.not_mem_nil
  | (i, x) :: r, h, k, hk => by
    have h1 := (Bool.and_eq_true _ _).mp (show (rz_frs i lv st w && rz_frz lv st w r) = true from h)
    rcases List.mem_cons.mp (show k ∈ i :: r.map Prod.fst from hk) with z | z
    · have h2 := (Bool.and_eq_true _ _).mp (show (rz_noV i lv && (rz_noL i st && rz_noW i w)) = true from h1.1)
      have h3 := (Bool.and_eq_true _ _).mp h2.2
      rw [z]
      exact ⟨h2.1, h3.1, h3.2⟩
    · exact rz_frz_n h1.2 k z
theorem rz_noV_adr {adr0 adr1 : Nat → Nat} {nk : List Nat} (h : ∀ k, k ∉ nk → adr1 k = adr0 k) : ∀ {l : rz_L}, (∀ k ∈ nk, rz_noV k l = true) → rz_l adr1 l = rz_l adr0 l
  | [], _ => rfl
  | (i, v) :: r, hv => by
    have h1 : ∀ k ∈ nk, rz_no1 k v = true := fun k hk => ((Bool.and_eq_true _ _).mp (show (rz_no1 k v && rz_noV k r) = true from hv k hk)).1
    have h2 : ∀ k ∈ nk, rz_noV k r = true := fun k hk => ((Bool.and_eq_true _ _).mp (show (rz_no1 k v && rz_noV k r) = true from hv k hk)).2
    show (i, rz_v adr1 v) :: rz_l adr1 r = (i, rz_v adr0 v) :: rz_l adr0 r
    rw [rz_no_adr h h1, rz_noV_adr h h2]
theorem rz_noW_key {k : Nat} : ∀ {w : rz_W}, rz_noW k w = true → k ∉ w.map Prod.fst
  | [], _ => List.not_mem_nil
  | (i, .inl (ci, fs)) :: r, h => fun z => by
    have h1 := (Bool.and_eq_true _ _).mp (show (!Nat.beq i k && (rz_noL k fs && rz_noW k r)) = true from h)
    have h2 := (Bool.and_eq_true _ _).mp h1.2
    have h3 : Nat.beq i k = false := by
      have := h1.1; revert this; cases Nat.beq i k <;> simp
    rcases List.mem_cons.mp (show k ∈ i :: r.map Prod.fst from z) with z | z
    · exact rz_nbeq h3 z.symm
    · exact rz_noW_key h2.2 z
  | (i, .inr x) :: r, h => fun z => by
    have h1 := (Bool.and_eq_true _ _).mp (show (!Nat.beq i k && rz_noW k r) = true from h)
    have h3 : Nat.beq i k = false := by
      have := h1.1; revert this; cases Nat.beq i k <;> simp
    rcases List.mem_cons.mp (show k ∈ i :: r.map Prod.fst from z) with z | z
    · exact rz_nbeq h3 z.symm
    · exact rz_noW_key h1.2 z
theorem rz_arrJ : Cond.arrayClass .long ∈ bw := bw_t 139 (by decide +kernel) rfl
section RZX
variable {p : Program} {l : Launch} {e : Env} {R : Room} {s : State} {m : MethodId} {args : Array Value} {below : List Frame} {meth : Method} {c : Code} {QQ : State → Prop}
set_option maxHeartbeats 8000000 in
set_option maxRecDepth 100000 in
theorem rz_xstep {D : va_G} {cI cJ : ClassId} {A : Nat → Prop} {nL : Nat} {ks : List Nat} {RC RS : Nat} {adr0 : Nat → Nat} {own : String} {cc : ByteArray} {ret : Option FieldType} {bz : Bool} {fld : List (Nat × Nat × Nat × Bool)} {cal cav : List (Nat × rz_K)} {sw : List (Int32 × Nat)} {Q : Option Value → rz_W → Prop} {Qc : Array Value → State → Outcome → State → Prop} {free : Addr → Prop}
    {L : Nat} {xs : Nat → Int32} {df : List (Nat × Nat × List Value)} {cz : List (Nat × rz_Z)} {ck : List (Nat × rz_K × Nat × Nat)} {ca : List (Nat × rz_S)} {sp : List Nat} {pc : Nat}
    (hx : p.tables.exec = Jvm.exec) (hb : c.code = cc) (hlocks : meth.locks = false) (hml : c.maxLocals = nL) (hown : s.vm.findClass own = some m.cls) (hts : ∀ w ∈ bw, w.before args s = true) (hnw : rz_NW s) (hK : va_K D vwCl [(cI, .int), (cJ, .long)] s) (hA : ∀ q, s.heap.size ≤ q → A q) (hR : RC ≤ R.cells ∧ RS ≤ R.slots) (hr : meth.sig.returnType = ret)
    (hfld : ∀ ix q, rz_get fld ix = some q → rz_FOK own s args ix q) (hcal : ∀ ix ce, rz_get cal ix = some ce → rz_CallOK l R own cc (.invokestatic ix) ce) (hcav : ∀ ix ce, rz_get cav ix = some ce → rz_CallOK l R own cc (.invokevirtual ix) ce)
    (hfin : ∀ (adr : Nat → Nat) (lv : rz_L) (w : rz_W) (cs sl : Nat) (H : Heap) (locs : List Loc) (ls : Array Slot) (o : Option Value), rz_Rel D cI cJ A s nL ks RC RS adr0 adr lv w cs sl H locs ls → Q o w → (∀ q ∈ locs, free q.base) ∧ ∀ t : State, t.heap = H → s.WarmedH t.vm → Qc args s (.returned o) t)
    (hQQ : ∀ (H : Heap) (locs : List Loc) (g : JFrame), W p l e R s m args below meth c H locs RC RS (MQ below Qc args s RC RS free) g → W p l e R s m args below meth c H locs RC RS QQ g)
    (hcls : rz_Cls) (hR2 : 1 ≤ R.frames ∧ 20 ≤ R.locals) (hmn : meth.name = "<init>" ∨ ∀ q ∈ ca, ¬ q.2.1 = 3) (hX : (∀ q ∈ ca, ¬ q.2.1 = 5 ∧ ¬ q.2.1 = 6) ∨ (va_X (adr0 999) L xs s s.heap ∧ adr0 999 < s.heap.size ∧ ¬ A (adr0 999)))
    (hcz : ∀ q ∈ cz, rz_CtorOK l R own cc q.1 q.2) {XP : (Nat → Prop) → State → Heap → Prop} (hXP : ∀ (B : Nat → Prop) (H : Heap) (locs : List Loc), (∀ q, B q → A q) → va_S A s.heap H locs → XP B s H) (hck : ∀ q ∈ ck, rz_CallOKA XP l R own cc q.1 q.2.1 q.2.2.1 q.2.2.2)
    (hsp : ∀ q ∈ ca, rz_mem q.1 sp = true) (hsp2 : ∀ k, rz_mem k sp = true → (∃ z, rz_get ca k = some z) ∨ (∃ z, rz_get cz k = some z) ∨ ∃ z, rz_get ck k = some z) (hcz3 : ∀ q ∈ cz, rz_mem q.1 sp = true) (hck3 : ∀ q ∈ ck, rz_mem q.1 sp = true)
    {nx tg na : Nat} {ci : Int32} {cl : Int64} {i : Instr} (hrow : rz_rowX own cc nL ret bz sw sp pc (i, nx, tg, na, ci, cl)) (hca : ∀ z, rz_get ca pc = some z → rz_caOK own df z i) (hlen3 : rz_get ca pc = none → rz_mem pc sp = true → rz_len i = 3)
    {Kp : Nat → rz_L → List Value → rz_W → Nat → Nat → Prop} (hKp : ∀ pc lv st w cs sl, Kp pc lv st w cs sl → rz_G p l e R s m args below meth c QQ D cI cJ A nL ks RC RS adr0 pc lv st w cs sl)
    {lv : rz_L} {st : List Value} {w : rz_W} {cs sl : Nat} (h : rz_xst L xs ks df cz ck ca fld cal cav sw bz RC RS Q Kp pc i nx tg na ci cl lv st w cs sl) : rz_G p l e R s m args below meth c QQ D cI cJ A nL ks RC RS adr0 pc lv st w cs sl := by
  unfold rz_xst at h
  cases hgz : rz_get ca pc with
  | some z =>
    rw [hgz] at h
    have hm : rz_mem pc sp = true := hsp (pc, z) (rz_get_mem hgz)
    unfold rz_rowX at hrow
    rw [hm] at hrow
    obtain ⟨hd, hn⟩ := hrow
    have hd : decode cc pc = .ok (i, rz_len i) := hd
    have hn : nx = pc + rz_len i := hn
    have hok := hca z hgz
    obtain ⟨kd, za, zb⟩ := z
    have hmem : (pc, kd, za, zb) ∈ ca := rz_get_mem hgz
    intro adr H locs ls hr0
    obtain ⟨hP, hD, hS, hl, hk, hex, hc1, hc2⟩ := id hr0
    have newA : ∀ (r : List Value) (tg na : Nat) (cell : rz_C) (ec : va_E) (q : Nat) (H1 : Heap), rz_frs tg lv r w = true → (∀ adr' : Nat → Nat, rz_e cI cJ adr' cell = ec) → va_P D vwCl (rz_c cI cJ adr w ++ [(q, ec)]) H1 → va_D A (rz_c cI cJ adr w ++ [(q, ec)]) → va_S A s.heap H1 locs → cs + 1 ≤ RC → sl + na ≤ RS → Kp nx lv (.ref tg :: r) (rz_cat2 w [(tg, cell)]) (cs + 1) (sl + na) → W p l e R s m args below meth c H1 locs (cs + 1) (sl + na) QQ (F0 m nx ls (.ref q :: r.map (rz_v adr))) := by
      intro r tg na cell ec q H1 hno hec k1 k2 k3 hcs hsl h5
      rw [rz_cat2_eq] at h5
      have hno := (Bool.and_eq_true _ _).mp hno
      have hno2 := (Bool.and_eq_true _ _).mp hno.2
      have ew := rz_noW_c (cI := cI) (cJ := cJ) (adr := adr) (q := q) hno2.2
      have e3 : rz_c cI cJ adr w ++ [(q, ec)] = rz_c cI cJ (rz_ad adr tg q) (w ++ [(tg, cell)]) := by
        unfold rz_c
        rw [List.map_append]
        have := ew.1
        unfold rz_c at this
        rw [this]
        show _ ++ [(q, _)] = _ ++ [(rz_ad adr tg q tg, rz_e cI cJ (rz_ad adr tg q) cell)]
        rw [rz_ad_s, hec]
      rw [e3] at k1 k2
      have e4 : (Value.ref q :: r.map (rz_v adr)) = (Value.ref tg :: r).map (rz_v (rz_ad adr tg q)) := by
        show Value.ref q :: r.map (rz_v adr) = Value.ref (rz_ad adr tg q tg) :: r.map (rz_v (rz_ad adr tg q))
        rw [rz_ad_s, rz_noL_v hno2.1]
      refine W.eq (g2 := F0 m nx ls ((Value.ref tg :: r).map (rz_v (rz_ad adr tg q)))) (by rw [← e4]) ?_
      refine hKp _ _ _ _ _ _ h5 (rz_ad adr tg q) H1 locs ls ⟨k1, rz_D.of_va k2, k3, by rw [rz_noV_v hno.1]; exact hl, fun k hk9 => ?_, ?_, hcs, hsl⟩
      · have hkw : k ∈ w.map Prod.fst := by
          obtain ⟨ex, h1, -, -⟩ := hex
          rw [h1]
          exact List.mem_append_left _ hk9
        rw [rz_ad_n (fun z => ew.2 (by rw [← z]; exact hkw))]
        exact hk k hk9
      · obtain ⟨ex, h1, h2, h3⟩ := hex
        refine ⟨ex ++ [tg], by rw [List.map_append, h1, List.append_assoc]; rfl, by rw [List.length_append]; exact Nat.add_le_add_right h2 1, fun k hk8 => ?_⟩
        have hk7 : k ≠ tg := fun z => hk8 (List.mem_append_right _ (by rw [z]; exact List.mem_cons_self))
        rw [rz_ad_n hk7]
        exact h3 k (fun z => hk8 (List.mem_append_left _ z))
    match kd, hok, h, hmem with
    | 0, hok, h, hmem =>
      obtain ⟨rfl, hna⟩ : i = .newarray .int ∧ zb ≤ 10000 := hok
      have hn : nx = pc + 2 := hn
      subst hn
      obtain ⟨x, r, e1, h⟩ := rz_pi_s h
      subst e1
      obtain ⟨hno, hx1, hcs, hsl, h5⟩ := rz_if_s h
      have hx1 : x = nI zb := hx1
      subst hx1
      have hcl : (nI zb).toNatClampNeg = zb := nI_clamp (by omega)
      refine va_newa (atype := .int) (ty := .int) (a0 := (zb, .inl (fun _ => 0))) hx hb (hts _ rz_arrI) rfl hK hP hD.va hS hA (fun _ => rfl) (nI_pos (by omega)) hcl (by show zb * 4 ≤ 536870912; omega) (Nat.le_trans hcs hR.1) (Nat.le_trans hsl hR.2) hd (fun q cA H1 k0 k1 k2 k3 => ?_)
      have hcA : cA = cI := by
        have f1 := va_nm_int (k0.2 2 (cA, .int) rfl).2
        have f2 := va_nm_int (hK.2 0 (cI, .int) rfl).2
        rw [f1] at f2
        exact Option.some.inj f2
      subst hcA
      exact newA r za zb _ _ q H1 hno (fun _ => rfl) k1 k2 k3 hcs hsl h5
    | 1, hok, h, hmem =>
      obtain ⟨rfl, hna⟩ : i = .newarray .long ∧ zb ≤ 10000 := hok
      have hn : nx = pc + 2 := hn
      subst hn
      obtain ⟨x, r, e1, h⟩ := rz_pi_s h
      subst e1
      obtain ⟨hno, hx1, hcs, hsl, h5⟩ := rz_if_s h
      have hx1 : x = nI zb := hx1
      subst hx1
      have hcl : (nI zb).toNatClampNeg = zb := nI_clamp (by omega)
      refine va_newa (atype := .long) (ty := .long) (a0 := (zb, .inr (.inl (fun _ => 0)))) hx hb (hts _ rz_arrJ) rfl hK hP hD.va hS hA (fun _ => rfl) (nI_pos (by omega)) hcl (by show zb * 8 ≤ 536870912; omega) (Nat.le_trans hcs hR.1) (Nat.le_trans hsl hR.2) hd (fun q cA H1 k0 k1 k2 k3 => ?_)
      have hcA : cA = cJ := by
        have f1 := va_nm_long (k0.2 2 (cA, .long) rfl).2
        have f2 := va_nm_long (hK.2 1 (cJ, .long) rfl).2
        rw [f1] at f2
        exact Option.some.inj f2
      subst hcA
      exact newA r za zb _ _ q H1 hno (fun _ => rfl) k1 k2 k3 hcs hsl h5
    | 2, hok, h, hmem =>
      obtain ⟨ix, C, T, N, ty, fs, rfl, g1, g2, g3, g4, g5, g6, g7, g8, g9⟩ := hok
      have hn : nx = pc + 3 := hn
      subst hn
      obtain ⟨q, hq, h⟩ := rz_op_s h
      have hq : rz_get df zb = some q := hq
      have g2 : rz_get df zb = some (N, fs) := g2
      rw [g2] at hq
      cases hq
      obtain ⟨hno, hcs, hsl, h5⟩ := rz_if_s h
      refine va_new (C := C) (T := T) (N := N) (ci := zb) (fs := fs) hx hb hts g9 ty g3 hown (hts _ g6) (hts _ g7) (hts _ g8) hK hP hD.va hS hA g1 g4 (Nat.le_trans hcs hR.1) (Nat.le_trans hsl hR.2) hd (fun q H1 k1 k2 k3 => ?_)
      exact newA st za N (.inl (zb, fs)) (.inr (zb, fs)) q H1 hno (fun adr' => by show (Sum.inr (zb, fs.map (rz_v adr')) : va_E) = _; rw [rz_noR_v g5]) k1 k2 k3 hcs hsl h5
    | 3, hok, h, hmem =>
      obtain ⟨ix, C, T, N, ty, rfl, g1, g2, g3, g4, g5, g6, g7⟩ := hok
      have hn : nx = pc + 3 := hn
      subst hn
      obtain ⟨v, r, e1, h⟩ := rz_pr_s h
      subst e1
      obtain ⟨a, r, e1, h⟩ := rz_pr_s h
      subst e1
      obtain ⟨fs, hfs, h⟩ := rz_ob_s h
      obtain ⟨hlt, h⟩ := rz_if_s h
      have hmn : meth.name = "<init>" := hmn.elim id (fun q => absurd rfl (q _ hmem))
      obtain ⟨c1, ⟨ty0, c2⟩, c3⟩ := hcls za C T N g1
      have hlen : zb < (fs.map (rz_v adr)).length := by
        rw [List.length_map]
        exact Nat.le_of_ble_eq_true hlt
      have hset : ((fs.map (rz_v adr)).set zb (Value.ref (adr v))) = (fs.set zb (.ref v)).map (rz_v adr) := by rw [List.map_set]; rfl
      have hnr : narrow ty (Value.ref (adr v)) = .ref (adr v) := by cases ty <;> first | rfl | cases g6
      have hft : fits ty (Value.ref (adr v)) = true := by cases ty <;> first | rfl | cases g6
      refine va_putF (ci := za) (v := .ref (adr v)) (ty := ty) (C := C) (T := T) (N := N) hx hb hts c1 ty0 c2 c3 hown hK hP hD.va hS (rz_pos w a) (rz_get_pos hfs) g1 zb g2 (hts _ g7) (fun _ h9 => h9) g4 hmn g3 g5 hnr hft hlen hd (fun H1 locs1 k1 k2 k3 => ?_)
      have e2 : (rz_c cI cJ adr w).set (rz_pos w a) (adr a, .inr (za, (fs.map (rz_v adr)).set zb (Value.ref (adr v)))) = rz_c cI cJ adr (rz_set w a (.inl (za, fs.set zb (.ref v)))) := by
        rw [hset]
        exact rz_set_pos (y := .inl (za, fs.set zb (.ref v))) hfs
      rw [e2] at k1
      exact hKp _ _ _ _ _ _ h adr H1 locs1 ls ⟨k1, by rw [rz_set_keys]; exact hD, k3, hl, hk, by rw [rz_set_keys]; exact hex, hc1, hc2⟩
    | 4, hok, h, hmem =>
      obtain ⟨ix, rfl, g1, g2, g3⟩ := hok
      have hn : nx = pc + 3 := hn
      subst hn
      obtain ⟨a, r, e1, h⟩ := rz_pr_s h
      subst e1
      obtain ⟨hwd, h⟩ := rz_if_s h
      have hwd2 : ((r.map (rz_v adr)).map fun v => v.category).sum ≤ 8 := by rw [rz_words_sum]; exact Nat.le_of_ble_eq_true hwd
      refine W.objInit (a := adr a) (rest := r.map (rz_v adr)) hx hb hown (hts _ g1) (hts _ g2) (hts _ g3) rfl (by rw [hml]; exact hl.1) rfl hd hR2.1 (by show 2 * 0 + _ + 12 ≤ _; omega) ?_
      exact hKp _ _ _ _ _ _ h adr H locs ls hr0
    | 5, hok, h, hmem =>
      have hok : i = .iaload := hok
      subst hok
      have hn : nx = pc + 1 := hn
      subst hn
      obtain ⟨j, r, e1, h⟩ := rz_pi_s h
      subst e1
      obtain ⟨a, r, e1, h⟩ := rz_pr_s h
      subst e1
      obtain ⟨ha, h1, h2, h9⟩ := rz_if_s h
      have ha := rz_beq ha
      subst ha
      obtain ⟨x1, x2, x3⟩ := hX.elim (fun q => absurd rfl (q _ hmem).1) id
      obtain ⟨ex, f1, f2, f3⟩ := id hex
      have hexn : ex = [] := List.append_cancel_left (as := ks) (by rw [← f1, h2, List.append_nil])
      have hadr : adr 999 = adr0 999 := f3 999 (by rw [hexn]; exact List.not_mem_nil)
      show W p l e R s m args below meth c H locs cs sl QQ (F0 m pc ls (.int j :: .ref (adr 999) :: r.map (rz_v adr)))
      rw [hadr]
      exact va_sld hx hb x1 x2 x3 hS h1 hd (hKp _ _ _ _ _ _ h9 adr H locs ls hr0)
    | 6, hok, h, hmem =>
      have hok : i = .arraylength := hok
      subst hok
      have hn : nx = pc + 1 := hn
      subst hn
      obtain ⟨a, r, e1, h⟩ := rz_pr_s h
      subst e1
      obtain ⟨ha, h2, h9⟩ := rz_if_s h
      have ha := rz_beq ha
      subst ha
      obtain ⟨x1, x2, x3⟩ := hX.elim (fun q => absurd rfl (q _ hmem).2) id
      obtain ⟨ex, f1, f2, f3⟩ := id hex
      have hexn : ex = [] := List.append_cancel_left (as := ks) (by rw [← f1, h2, List.append_nil])
      have hadr : adr 999 = adr0 999 := f3 999 (by rw [hexn]; exact List.not_mem_nil)
      show W p l e R s m args below meth c H locs cs sl QQ (F0 m pc ls (.ref (adr 999) :: r.map (rz_v adr)))
      rw [hadr]
      exact va_slen hx hb x1 x2 x3 hS hd (hKp _ _ _ _ _ _ h9 adr H locs ls hr0)
    | n + 7, hok, h, hmem => exact hok.elim
  | none =>
    rw [hgz] at h
    cases hgc : rz_get cz pc with
    | some z =>
      rw [hgc] at h
      have hm : rz_mem pc sp = true := hcz3 (pc, z) (rz_get_mem hgc)
      unfold rz_rowX at hrow
      rw [hm] at hrow
      obtain ⟨hd, hn⟩ := hrow
      have hn : nx = pc + rz_len i := hn
      rw [hlen3 hgz hm] at hn
      subst hn
      obtain ⟨hokn, hok⟩ := hcz (pc, z) (rz_get_mem hgc)
      intro adr H locs ls hr0
      obtain ⟨hP, hD, hS, hl, hk, hex, hc1, hc2⟩ := id hr0
      obtain ⟨a, r, e1, h⟩ := rz_pr_s h
      subst e1
      obtain ⟨hcond, hget, hcs, hsl, h9⟩ := rz_if_s h
      have hcond := (Bool.and_eq_true _ _).mp hcond
      have hcond2 := (Bool.and_eq_true _ _).mp hcond.2
      have ha := rz_beq hcond.1
      subst ha
      have hfr := rz_frz_n hcond2.2
      have hwd2 : ((r.map (rz_v adr)).map fun v => v.category).sum ≤ 8 := by rw [rz_words_sum]; exact Nat.le_of_ble_eq_true hcond2.1
      have hPc : va_P D vwCl (rz_c cI cJ adr [(z.1, z.2.1)]) H := rz_P_iff.mpr (fun q hq => by
        rcases List.mem_cons.mp hq with e9 | e9
        · rw [e9]; exact rz_P_iff.mp hP _ (rz_get_mem hget)
        · exact absurd e9 List.not_mem_nil)
      have hkz : z.1 ∈ w.map Prod.fst := List.mem_map.mpr ⟨_, rz_get_mem hget, rfl⟩
      obtain ⟨a9, hrun⟩ := hok p e s m args below meth c H locs cs sl ls nL D cI cJ adr (r.map (rz_v adr)) (Nat.le_trans hcs hR.1) (Nat.le_trans hsl hR.2) hx hb hml hown hts hnw hK hl.1 hwd2 hPc
      intro T0 hT X
      obtain ⟨v, st₀, t, T', L9, h0, X', hL, e1, e2, ⟨⟨ho, adr', q1, q2, q3⟩, hz, hkp⟩, stp⟩ := hrun T0 hT X
      cases ho
      rw [h0] at hz hkp q3
      have hAin : ∀ q, va_A (rz_c cI cJ adr [(z.1, z.2.1)]) H.size q → A q := by
        intro q hq
        rcases hq with ⟨k, e9, hk9⟩ | hq
        · have hm9 := List.mem_of_getElem? hk9
          rcases List.mem_cons.mp hm9 with e8 | e8
          · have e7 : q = adr z.1 := congrArg Prod.fst e8
            rw [e7]; exact hD.2.2 _ hkz
          · exact absurd e8 List.not_mem_nil
        · exact hA q (Nat.le_trans hS.1 hq)
      have hkeep : ∀ q ∈ w, q.1 ≠ z.1 → va_at D vwCl (adr q.1, rz_e cI cJ adr q.2) t.heap := by
        intro q hq hne
        have hat := rz_P_iff.mp hP q hq
        refine hat.kept (hkp _ hat.lt (fun z3 => ?_))
        rcases z3 with ⟨k, e9, hk9⟩ | z3
        · have hm9 := List.mem_of_getElem? hk9
          rcases List.mem_cons.mp hm9 with e8 | e8
          · have e7 : adr q.1 = adr z.1 := congrArg Prod.fst e8
            exact hne (hD.2.1 _ (List.mem_map.mpr ⟨q, hq, rfl⟩) _ hkz e7)
          · exact absurd e8 List.not_mem_nil
        · exact absurd hat.lt (Nat.not_lt.mpr z3)
      have hnk : ∀ k ∈ w.map Prod.fst, k ∉ z.2.2.2.1.map Prod.fst := fun k hk9 hk8 => rz_noW_key (hfr k hk8).2.2 hk9
      have ewc : rz_c cI cJ adr' w = rz_c cI cJ adr w := rz_noW_adr q1 (fun k hk9 => (hfr k hk9).2.2)
      have hcq : ∀ q ∈ w, (adr' q.1, rz_e cI cJ adr' q.2) = (adr q.1, rz_e cI cJ adr q.2) := by
        intro q hq
        obtain ⟨i9, hi9⟩ := List.getElem?_of_mem hq
        have f1 : (rz_c cI cJ adr' w)[i9]? = some (adr' q.1, rz_e cI cJ adr' q.2) := by unfold rz_c; rw [List.getElem?_map, hi9]; rfl
        have f2 : (rz_c cI cJ adr w)[i9]? = some (adr q.1, rz_e cI cJ adr q.2) := by unfold rz_c; rw [List.getElem?_map, hi9]; rfl
        rw [ewc, f2] at f1
        exact (Option.some.inj f1).symm
      rw [rz_cat2_eq] at h9
      have keys9 : (rz_set w z.1 z.2.2.1 ++ z.2.2.2.1).map Prod.fst = w.map Prod.fst ++ z.2.2.2.1.map Prod.fst := by rw [List.map_append, rz_set_keys]
      have hP' : va_P D vwCl (rz_c cI cJ adr' (rz_set w z.1 z.2.2.1 ++ z.2.2.2.1)) t.heap := by
        refine rz_P_iff.mpr (fun q hq => ?_)
        rcases List.mem_append.mp hq with hq | hq
        · rcases rz_set_mem hD.1 hq with e9 | ⟨e9, e8⟩
          · rw [e9]; exact rz_P_iff.mp q2 _ List.mem_cons_self
          · rw [hcq q e9]; exact hkeep q e9 e8
        · exact rz_P_iff.mp q2 _ (List.mem_cons_of_mem _ hq)
      have hlt9 : ∀ k ∈ w.map Prod.fst, adr' k = adr k ∧ adr k < H.size := by
        intro k hk9
        refine ⟨q1 k (hnk k hk9), ?_⟩
        obtain ⟨q, hq, e9⟩ := List.mem_map.mp hk9
        rw [← e9]
        exact (rz_P_iff.mp hP q hq).lt
      have hD' : rz_D adr' A (w.map Prod.fst ++ z.2.2.2.1.map Prod.fst) := by
        refine ⟨List.nodup_append.mpr ⟨hD.1, q3.1, fun a ha b hb e9 => hnk a ha (by rw [e9]; exact hb)⟩, fun i hi j hj e9 => ?_, fun i hi => ?_⟩
        · rcases List.mem_append.mp hi with hi | hi <;> rcases List.mem_append.mp hj with hj | hj
          · rw [(hlt9 i hi).1, (hlt9 j hj).1] at e9
            exact hD.2.1 i hi j hj e9
          · have h7 : H.size ≤ adr' j := q3.2.2 j hj
            have h8 := (hlt9 i hi).2
            rw [(hlt9 i hi).1] at e9
            exfalso
            omega
          · have h7 : H.size ≤ adr' i := q3.2.2 i hi
            have h8 := (hlt9 j hj).2
            rw [(hlt9 j hj).1] at e9
            exfalso
            omega
          · exact q3.2.1 i hi j hj e9
        · rcases List.mem_append.mp hi with hi | hi
          · rw [(hlt9 i hi).1]; exact hD.2.2 i hi
          · have h7 : H.size ≤ adr' i := q3.2.2 i hi
            exact hA _ (Nat.le_trans hS.1 h7)
      have hS' : va_S A s.heap T'.heap (locs ++ L9) := by
        refine ⟨Nat.le_trans hS.1 (by rw [e1]; exact hz), fun q h1 h2 => ?_, fun q hq => ?_⟩
        · rw [e1, hkp q (Nat.lt_of_lt_of_le h1 hS.1) (fun z9 => h2 (hAin q z9))]
          exact hS.2.1 q h1 h2
        · rcases List.mem_append.mp hq with h9 | h9
          · exact hS.2.2 q h9
          · exact hAin _ (hL q h9)
      obtain ⟨t2, a1, b1⟩ := hKp _ _ _ _ _ _ h9 adr' T'.heap (locs ++ L9) ls ⟨by rw [e1]; exact hP', by rw [keys9]; exact hD', hS', by rw [rz_noV_adr q1 (fun k hk9 => (hfr k hk9).1)]; exact hl, fun k hk9 => by
          obtain ⟨ex, f1, -, -⟩ := hex
          rw [(hlt9 k (by rw [f1]; exact List.mem_append_left _ hk9)).1]
          exact hk k hk9, by
          obtain ⟨ex, f1, f2, f3⟩ := hex
          refine ⟨ex ++ z.2.2.2.1.map Prod.fst, by rw [keys9, f1, List.append_assoc], ?_, fun k hk8 => ?_⟩
          · rw [List.length_append, List.length_map]
            exact Nat.add_le_add f2 hokn
          · rw [q1 k (fun z9 => hk8 (List.mem_append_right _ z9))]
            exact f3 k (fun z9 => hk8 (List.mem_append_left _ z9)), hcs, hsl⟩ T' rfl X'
      refine ⟨t2, stp t2 ?_, b1⟩
      rw [rz_noL_adr q1 (fun k hk9 => (hfr k hk9).2.1)] at a1
      exact a1
    | none =>
      rw [hgc] at h
      cases hgk : rz_get ck pc with
      | some q =>
        rw [hgk] at h
        have hm : rz_mem pc sp = true := hck3 (pc, q) (rz_get_mem hgk)
        unfold rz_rowX at hrow
        rw [hm] at hrow
        obtain ⟨hd, hn⟩ := hrow
        have hn : nx = pc + rz_len i := hn
        rw [hlen3 hgz hm] at hn
        subst hn
        intro adr H locs ls hr0
        obtain ⟨hP, hD, hS, hl, hk, hex, hc1, hc2⟩ := id hr0
        obtain ⟨ce, mc, ms⟩ := q
        obtain ⟨g1, g2, h⟩ := h
        have g1 : cs + mc ≤ RC := g1
        have g2 : sl + ms ≤ RS := g2
        have hok : rz_CallOKA XP l R own cc pc ce mc ms := hck (pc, ce, mc, ms) (rz_get_mem hgk)
        have h : rz_call ce st w (fun st' w' => Kp (pc + 3) lv st' w' (cs + mc) (sl + ms)) := h
        have hex2 : ∃ ex : List Nat, w.map Prod.fst = ks ++ ex ∧ ex.length ≤ cs + mc ∧ ∀ k, k ∉ ex → adr k = adr0 k := by
          obtain ⟨ex, f1, f2, f3⟩ := hex
          exact ⟨ex, f1, Nat.le_trans f2 (Nat.le_add_right _ _), f3⟩
        obtain ⟨⟨av, rest⟩, hpop, h⟩ := rz_op_s h
        obtain ⟨wc, hsub, h⟩ := rz_op_s h
        obtain ⟨hwd, hpre, h⟩ := rz_if_s h
        obtain ⟨b, b1, b2, b3⟩ := rz_pop_spec hpop
        rw [List.append_nil] at b1
        subst b1
        obtain ⟨hkeys, hin⟩ := rz_sub_keys hsub
        have hwd2 : ((rest.map (rz_v adr)).map fun v => v.category).sum ≤ 8 := by rw [rz_words_sum]; exact Nat.le_of_ble_eq_true hwd
        have hPc : va_P D vwCl (rz_c cI cJ adr wc) H := rz_P_iff.mpr (fun q hq => rz_P_iff.mp hP q (hin q hq))
        have hkin : ∀ k ∈ wc.map Prod.fst, k ∈ w.map Prod.fst := by
          intro k hk9
          obtain ⟨q, hq, e9⟩ := List.mem_map.mp hk9
          exact List.mem_map.mpr ⟨q, hin q hq, e9⟩
        have hDc : rz_D adr A (wc.map Prod.fst) := ⟨by rw [hkeys]; exact hok.1, fun i hi j hj e9 => hD.2.1 i (hkin i hi) j (hkin j hj) e9, fun i hi => hD.2.2 i (hkin i hi)⟩
        have hDt : va_D (fun _ => True) (rz_c cI cJ adr wc) := hDc.va.weaken (fun _ _ _ _ => trivial)
        have hAin : ∀ q, va_A (rz_c cI cJ adr wc) H.size q → A q := by
          intro q hq
          rcases hq with ⟨k, e9, hk9⟩ | hq
          · exact hDc.va.2 k _ hk9
          · exact hA q (Nat.le_trans hS.1 hq)
        obtain ⟨a, hrun⟩ := hok.2 p e s m args below meth c H locs cs sl ls nL D cI cJ adr av (rest.map (rz_v adr)) wc (Nat.le_trans g1 hR.1) (Nat.le_trans g2 hR.2) hx hb hml hown hts hnw hK hl.1 b3 hwd2 hPc hDt hkeys hpre (hXP _ H locs hAin hS)
        have hst : st.map (rz_v adr) = (av.map (rz_v adr)).reverse ++ rest.map (rz_v adr) := by rw [b2, List.map_append, List.map_reverse]
        rw [hst]
        refine rz_callW hrun hS (fun q _ hq => hAin q hq) hAin (fun o w' H1 locs1 j1 j2 j3 j4 j5 j6 j7 j8 => ?_)
        have hback : va_P D vwCl (rz_c cI cJ adr (rz_back w w')) H1 := by
          refine rz_P_iff.mpr (fun q hq => ?_)
          rcases rz_back_mem hD.1 hq with z | ⟨z1, z2⟩
          · exact rz_P_iff.mp j5 q z
          · have hat := rz_P_iff.mp hP q z1
            refine hat.kept (j7 _ hat.lt (fun z3 => ?_))
            rcases z3 with ⟨k, e9, hk9⟩ | z3
            · obtain ⟨y, hy, e8⟩ := List.mem_map.mp (List.mem_of_getElem? hk9)
              have e7 : adr y.1 = adr q.1 := congrArg Prod.fst e8
              have e6 := hD.2.1 y.1 (List.mem_map.mpr ⟨y, hin y hy, rfl⟩) q.1 (List.mem_map.mpr ⟨q, z1, rfl⟩) e7
              refine z2 ?_
              rw [j2, ← hkeys, ← e6]
              exact List.mem_map.mpr ⟨y, hy, rfl⟩
            · exact absurd hat.lt (Nat.not_lt.mpr z3)
        have hrel : ∀ w2 : rz_W, va_P D vwCl (rz_c cI cJ adr w2) H1 → w2.map Prod.fst = w.map Prod.fst → rz_Rel D cI cJ A s nL ks RC RS adr0 adr lv w2 (cs + mc) (sl + ms) H1 locs1 ls := fun w2 f1 f2 => ⟨f1, by rw [f2]; exact hD, j8, hl, hk, by rw [f2]; exact hex2, g1, g2⟩
        have hkp : ∀ vs : List Value, o.toList = vs → vs.map (rz_v adr) = vs → rz_kept ce.2.2.2.1 (ce.2.2.2.2.2 av wc o) wc w (fun w2 => Kp (pc + 3) lv (rz_app vs rest) w2 (cs + mc) (sl + ms)) → W p l e R s m args below meth c H1 locs1 (cs + mc) (sl + ms) QQ (F0 m (pc + 3) ls (o.toList ++ rest.map (rz_v adr))) := by
          intro vs hvs hvm hkept
          have e5 : o.toList ++ rest.map (rz_v adr) = (rz_app vs rest).map (rz_v adr) := by rw [rz_app_eq, List.map_append, hvm, hvs]
          rw [e5]
          unfold rz_kept at hkept
          cases hb2 : ce.2.2.2.1 with
          | true =>
            rw [hb2] at hkept
            have e4 := j3 hb2
            subst e4
            have hsame : va_P D vwCl (rz_c cI cJ adr w) H1 := by
              refine rz_P_iff.mpr (fun q hq => ?_)
              by_cases z : q.1 ∈ w'.map Prod.fst
              · obtain ⟨y, hy, e8⟩ := List.mem_map.mp z
                have e3 : y = q := by
                  have hy2 := hin y hy
                  obtain ⟨i1, hi1⟩ := List.getElem?_of_mem hy2
                  obtain ⟨i2, hi2⟩ := List.getElem?_of_mem hq
                  have : i1 = i2 := rz_nodup_inj hD.1 (a := q.1) (by rw [List.getElem?_map, hi1]; exact congrArg some e8) (by rw [List.getElem?_map, hi2]; rfl)
                  subst this
                  rw [hi1] at hi2
                  exact Option.some.inj hi2
                rw [← e3]
                exact rz_P_iff.mp j5 y hy
              · have hat := rz_P_iff.mp hP q hq
                refine hat.kept (j7 _ hat.lt (fun z3 => ?_))
                rcases z3 with ⟨k, e9, hk9⟩ | z3
                · obtain ⟨y, hy, e8⟩ := List.mem_map.mp (List.mem_of_getElem? hk9)
                  have e7 : adr y.1 = adr q.1 := congrArg Prod.fst e8
                  have e6 := hD.2.1 y.1 (List.mem_map.mpr ⟨y, hin y hy, rfl⟩) q.1 (List.mem_map.mpr ⟨q, hq, rfl⟩) e7
                  exact z (by rw [← e6]; exact List.mem_map.mpr ⟨y, hy, rfl⟩)
                · exact absurd hat.lt (Nat.not_lt.mpr z3)
            exact hKp _ _ _ _ _ _ (hkept j4) adr H1 locs1 ls (hrel w hsame rfl)
          | false =>
            rw [hb2] at hkept
            exact hKp _ _ _ _ _ _ (hkept w' j4) adr H1 locs1 ls (hrel _ hback (rz_back_keys w' w))
        unfold rz_kind at j1
        unfold rz_ret at h
        split at j1
        · rename_i hrk
          obtain ⟨rv, rfl⟩ := j1
          rw [hrk] at h
          exact hkp [.int rv] rfl rfl (h rv)
        · rename_i hrk
          obtain ⟨rv, rfl⟩ := j1
          rw [hrk] at h
          exact hkp [.long rv] rfl rfl (h rv)
        · rename_i hrk1 hrk2
          subst j1
          refine hkp [] rfl rfl ?_
          revert h
          split
          · rename_i z; exact absurd z (by intro z; exact hrk1 z)
          · rename_i z; exact absurd z (by intro z; exact hrk2 z)
          · exact id
      | none =>
        rw [hgk] at h
        have hm : rz_mem pc sp = false := by
          cases hm9 : rz_mem pc sp with
          | false => rfl
          | true =>
            rcases hsp2 pc hm9 with ⟨z, hz⟩ | ⟨z, hz⟩ | ⟨z, hz⟩
            · rw [hgz] at hz; cases hz
            · rw [hgc] at hz; cases hz
            · rw [hgk] at hz; cases hz
        unfold rz_rowX at hrow
        rw [hm] at hrow
        exact rz_step (own := own) (ret := ret) hx hb hlocks hml hown hts hnw hK hA hR hr hfld hcal hcav hfin hQQ hrow hKp h
end RZX
