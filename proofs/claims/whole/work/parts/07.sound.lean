/-! One instruction of rz_stp is sound: the machine does it. -/
theorem rz_pi_s {st : List Value} {k : Int32 → List Value → Prop} (h : rz_pi st k) : ∃ x r, st = .int x :: r ∧ k x r := by
  match st, h with
  | .int x :: r, h => exact ⟨x, r, rfl, h⟩
theorem rz_pl_s {st : List Value} {k : Int64 → List Value → Prop} (h : rz_pl st k) : ∃ x r, st = .long x :: r ∧ k x r := by
  match st, h with
  | .long x :: r, h => exact ⟨x, r, rfl, h⟩
theorem rz_pr_s {st : List Value} {k : Nat → List Value → Prop} (h : rz_pr st k) : ∃ x r, st = .ref x :: r ∧ k x r := by
  match st, h with
  | .ref x :: r, h => exact ⟨x, r, rfl, h⟩
theorem rz_op_s {α : Type} {o : Option α} {k : α → Prop} (h : rz_op o k) : ∃ x, o = some x ∧ k x := by
  match o, h with
  | some x, h => exact ⟨x, rfl, h⟩
theorem rz_if_s {b : Bool} {k : Prop} (h : rz_if b k) : b = true ∧ k := by
  match b, h with
  | true, h => exact ⟨rfl, h⟩
theorem rz_gi_s {lv : rz_L} {i : Nat} {k : Int32 → Prop} (h : rz_gi lv i k) : ∃ x, rz_get lv i = some (.int x) ∧ k x := by
  unfold rz_gi at h
  split at h
  · rename_i x e; exact ⟨x, e, h⟩
  · exact h.elim
theorem rz_gl_s {lv : rz_L} {i : Nat} {k : Int64 → Prop} (h : rz_gl lv i k) : ∃ x, rz_get lv i = some (.long x) ∧ k x := by
  unfold rz_gl at h
  split at h
  · rename_i x e; exact ⟨x, e, h⟩
  · exact h.elim
theorem rz_gr_s {lv : rz_L} {i : Nat} {k : Nat → Prop} (h : rz_gr lv i k) : ∃ x, rz_get lv i = some (.ref x) ∧ k x := by
  unfold rz_gr at h
  split at h
  · rename_i x e; exact ⟨x, e, h⟩
  · exact h.elim
theorem rz_ob_s {w : rz_W} {a ci : Nat} {k : List Value → Prop} (h : rz_ob w a ci k) : ∃ fs, rz_get w a = some (.inl (ci, fs)) ∧ k fs := by
  unfold rz_ob at h
  split at h
  · rename_i cj fs e
    cases hb : Nat.beq cj ci with
    | true => rw [hb] at h; rw [rz_beq hb] at e; exact ⟨fs, e, h⟩
    | false => rw [hb] at h; exact h.elim
  · exact h.elim
theorem rz_ai_s {w : rz_W} {a : Nat} {k : Nat → (Nat → Int32) → Prop} (h : rz_ai w a k) : ∃ n f, rz_get w a = some (.inr (.inl (n, f))) ∧ k n f := by
  unfold rz_ai at h
  split at h
  · rename_i n f e; exact ⟨n, f, e, h⟩
  · exact h.elim
theorem rz_al_s {w : rz_W} {a : Nat} {k : Nat → (Nat → Int64) → Prop} (h : rz_al w a k) : ∃ n f, rz_get w a = some (.inr (.inr (n, f))) ∧ k n f := by
  unfold rz_al at h
  split at h
  · rename_i n f e; exact ⟨n, f, e, h⟩
  · exact h.elim
theorem rz_l_pos {adr : Nat → Nat} : ∀ {lv : rz_L} {i : Nat} {v : Value}, rz_get lv i = some v → (rz_l adr lv)[rz_pos lv i]? = some (i, rz_v adr v)
  | [], _, _, h => by cases h
  | (k, u) :: r, i, v, h => by
    unfold rz_get at h
    unfold rz_pos
    cases hb : Nat.beq k i with
    | true => rw [hb] at h; cases h; rw [rz_beq hb]; rfl
    | false => rw [hb] at h; exact rz_l_pos (adr := adr) (lv := r) h
theorem rz_sw_s {x : Int32} {K : Nat → Prop} {d : Nat} : ∀ {l : List (Int32 × Nat)}, rz_sw x K d l → (∃ (j : Nat) (t : Nat), l[j]? = some (x, t) ∧ K t) ∨ ((∀ q ∈ l, ¬ x = q.1) ∧ K d)
  | [], h => Or.inr ⟨fun q hq => absurd hq List.not_mem_nil, h⟩
  | (v, t) :: r, h => by
    by_cases e : x = v
    · exact Or.inl ⟨0, t, by rw [e]; rfl, h.1 e⟩
    · rcases rz_sw_s (h.2 e) with ⟨j, t', h1, h2⟩ | ⟨h1, h2⟩
      · exact Or.inl ⟨j + 1, t', h1, h2⟩
      · refine Or.inr ⟨fun q hq => ?_, h2⟩
        rcases List.mem_cons.mp hq with z | z
        · rw [z]; exact e
        · exact h1 q z
def rz_kind (rk : Nat) (o : Option Value) : Prop := match rk with
  | 0 => ∃ r : Int32, o = some (.int r)
  | 1 => ∃ r : Int64, o = some (.long r)
  | _ => o = none
def rz_Qc (ce : rz_K) (D : va_G) (cI cJ : ClassId) (adr : Nat → Nat) (av : List Value) (w : rz_W) (A : Nat → Prop) : Array Value → State → Outcome → State → Prop := fun _ st oc t =>
  (∃ (o : Option Value) (w' : rz_W), oc = .returned o ∧ rz_kind ce.2.2.1 o ∧ w'.map Prod.fst = ce.2.1 ∧ (ce.2.2.2.1 = true → w' = w) ∧ ce.2.2.2.2.2 av w o w' ∧ va_P D vwCl (rz_c cI cJ adr w') t.heap) ∧ va_F A st t
def rz_CallOK (l : Launch) (R : Room) (own : String) (cc : ByteArray) (ins : Instr) (ce : rz_K) : Prop :=
  ce.2.1.Nodup ∧ ∀ (p : Program) (e : Env) (s : State) (m : MethodId) (args : Array Value) (below : List Frame) (meth : Method) (c : Code) (H : Heap) (locs : List Loc) (cs sl pc : Nat) (ls : Array Slot) (nL : Nat) (D : va_G) (cI cJ : ClassId) (adr : Nat → Nat) (av rest : List Value) (w : rz_W),
    cs ≤ R.cells → sl ≤ R.slots → p.tables.exec = Jvm.exec → c.code = cc → c.maxLocals = nL → s.vm.findClass own = some m.cls → (∀ w ∈ bw, w.before args s = true) → rz_NW s → va_K D vwCl [(cI, .int), (cJ, .long)] s →
    decode cc pc = .ok (ins, 3) → ls.size = nL → av.length = ce.1 → (rest.map fun v => v.category).sum ≤ 8 → va_P D vwCl (rz_c cI cJ adr w) H → va_D (fun _ => True) (rz_c cI cJ adr w) → w.map Prod.fst = ce.2.1 → ce.2.2.2.2.1 av w →
    ∃ a, va_Run p l e R s m args below meth c H locs cs sl 0 0 (F0 m pc ls ((av.map (rz_v adr)).reverse ++ rest)) rest (rz_Qc ce D cI cJ adr av w (va_A (rz_c cI cJ adr w) H.size) a) (va_A (rz_c cI cJ adr w) H.size)
def rz_FOK (own : String) (s : State) (args : Array Value) (ix : Nat) (q : Nat × Nat × Bool) : Prop := ∃ (C : String) (T : u_T) (N : Nat), vwCl[q.1]? = some (C, T, N) ∧ (∀ w ∈ u_ws C T N, w ∈ bw) ∧ q.2.1 < N ∧
  ((Cond.fieldLink own ix (T q.2.1).1 (T q.2.1).2.1 (T q.2.1).2.2.1).before args s = true ∨ (Cond.fieldLinkNest own ix (T q.2.1).1 (T q.2.1).2.1 (T q.2.1).2.2.1 "CoastWatch").before args s = true) ∧
  (∃ ty : Nat → FieldType, ∀ k, k < N → parseFieldDescriptor (T k).2.2.1 = some (ty k)) ∧ (∀ a, a < N → ∀ b, b < N → a ≠ b → (T a).2.1 ≠ (T b).2.1) ∧ (q.2.2 = true → (T q.2.1).2.2.2 = false ∧ parseFieldDescriptor (T q.2.1).2.2.1 = some .int)
def rz_len : Instr → Nat
  | .bipush _ => 2
  | .sipush _ => 3
  | .ldc_w _ => 3
  | .ldc2_w _ => 3
  | .iload _ => 2
  | .lload _ => 2
  | .aload _ => 2
  | .istore _ => 2
  | .lstore _ => 2
  | .astore _ => 2
  | .iinc _ _ => 3
  | .ifCond _ _ => 3
  | .if_icmp _ _ => 3
  | .goto _ => 3
  | .getfield _ => 3
  | .putfield _ => 3
  | .newarray _ => 2
  | .new _ => 3
  | .invokespecial _ => 3
  | .invokestatic _ => 3
  | .invokevirtual _ => 3
  | _ => 1
def rz_aux (own : String) (nL : Nat) (ret : Option FieldType) (bz : Bool) (i : Instr) (pc tg na : Nat) (ci : Int32) (cl : Int64) : Bool := match i with
  | .iconst n => decide (Int32.ofInt n = ci)
  | .bipush n => decide ((Int8.ofInt n).toInt32 = ci)
  | .sipush n => decide ((Int16.ofInt n).toInt32 = ci)
  | .lconst n => decide (Int64.ofNat (n : Nat) = cl)
  | .ldc_w ix => decide (tables_1[na]? = some (.constant own ix ci))
  | .ldc2_w ix => decide (tables_1[na]? = some (.constantLong own ix cl))
  | .iload k => decide (k = tg)
  | .iload_n k => decide ((k : Nat) = tg)
  | .lload k => decide (k = tg)
  | .lload_n k => decide ((k : Nat) = tg)
  | .aload k => decide (k = tg)
  | .aload_n k => decide ((k : Nat) = tg)
  | .istore k => decide (k = tg ∧ tg < nL)
  | .istore_n k => decide ((k : Nat) = tg ∧ tg < nL)
  | .lstore k => decide (k = tg ∧ tg + 1 < nL)
  | .lstore_n k => decide ((k : Nat) = tg ∧ tg + 1 < nL)
  | .astore k => decide (k = tg ∧ tg < nL)
  | .astore_n k => decide ((k : Nat) = tg ∧ tg < nL)
  | .iinc k n => decide (k = tg ∧ tg < nL ∧ Int32.ofInt n = ci)
  | .ifCond _ off => decide ((pc : Int) + off = (tg : Int))
  | .if_icmp _ off => decide ((pc : Int) + off = (tg : Int))
  | .goto off => decide ((pc : Int) + off = (tg : Int))
  | .newarray a => decide (a = .int ∧ ¬ ci < 0 ∧ ci.toNatClampNeg = na ∧ na ≤ 10000)
  | .ireturn => decide (ret = some (if bz then .boolean else .int))
  | .lreturn => decide (ret = some .long)
  | .return_ => decide (ret = none)
  | _ => true
/-- the row of a table is the code's own -/
def rz_row (own : String) (cc : ByteArray) (nL : Nat) (ret : Option FieldType) (bz : Bool) (sw : List (Int32 × Nat)) (pc : Nat) (q : rz_I) : Prop := match q.1 with
  | .tableswitch d lo hi offs => (∃ len, decode cc pc = .ok (.tableswitch d lo hi offs, len)) ∧ (pc : Int) + d = (q.2.2.1 : Int) ∧ lo + sw.length = hi + 1 ∧ (List.range sw.length).all (fun j => match sw[j]?, offs[j]? with
    | some (v, t), some off => decide (v.toInt = lo + j ∧ (pc : Int) + off = (t : Int))
    | _, _ => false) = true
  | i => decode cc pc = .ok (i, rz_len i) ∧ q.2.1 = pc + rz_len i ∧ rz_aux own nL ret bz i pc q.2.2.1 q.2.2.2.1 q.2.2.2.2.1 q.2.2.2.2.2 = true
theorem rz_arrI : Cond.arrayClass .int ∈ bw := bw_t 67 (by decide +kernel) rfl
section RZS
variable {p : Program} {l : Launch} {e : Env} {R : Room} {s : State} {m : MethodId} {args : Array Value} {below : List Frame} {meth : Method} {c : Code} {QQ : State → Prop}
theorem rz_callW {H H0 : Heap} {locs : List Loc} {cells slots mc ms pc : Nat} {ls : Array Slot} {rest st0 av : List Value} {a : Array Value} {A0 A1 : Nat → Prop} {free : Addr → Prop} {ce : rz_K} {D : va_G} {cI cJ : ClassId} {adr : Nat → Nat} {wc : rz_W}
    (hr : va_Run p l e R s m args below meth c H locs cells slots mc ms (F0 m pc ls st0) rest (rz_Qc ce D cI cJ adr av wc A1 a) free) (hS : va_S A0 H0 H locs) (hA : ∀ q, q < H.size → A1 q → A0 q) (hf : ∀ q, free q → A0 q)
    (kk : ∀ (o : Option Value) (w' : rz_W) (H1 : Heap) (locs1 : List Loc), rz_kind ce.2.2.1 o → w'.map Prod.fst = ce.2.1 → (ce.2.2.2.1 = true → w' = wc) → ce.2.2.2.2.2 av wc o w' → va_P D vwCl (rz_c cI cJ adr w') H1 → H.size ≤ H1.size → (∀ q : Nat, q < H.size → ¬ A1 q → H1[q]? = H[q]?) → va_S A0 H0 H1 locs1 →
      W p l e R s m args below meth c H1 locs1 (cells + mc) (slots + ms) QQ (F0 m (pc + 3) ls (o.toList ++ rest))) : W p l e R s m args below meth c H locs cells slots QQ (F0 m pc ls st0) := by
  intro T hT X
  obtain ⟨v, st₀, t, T', L, h0, X', hL, e1, e2, ⟨⟨o, w', hv, hk1, hk2, hk3, hk4, hk5⟩, hz, hk⟩, st⟩ := hr T hT X
  cases hv
  rw [h0] at hz hk
  obtain ⟨t2, a1, b1⟩ := kk v w' T'.heap (locs ++ L) hk1 hk2 hk3 hk4 (by rw [e1]; exact hk5) (by rw [e1]; exact hz) (fun q h1 h2 => by rw [e1]; exact hk q h1 h2)
    ⟨Nat.le_trans hS.1 (by rw [e1]; exact hz), fun q h1 h2 => by rw [e1, hk q (Nat.lt_of_lt_of_le h1 hS.1) (fun z => h2 (hA q (Nat.lt_of_lt_of_le h1 hS.1) z))]; exact hS.2.1 q h1 h2, fun q hq => by
      rcases List.mem_append.mp hq with h | h
      · exact hS.2.2 q h
      · exact hf _ (hL q h)⟩ T' rfl X'
  exact ⟨t2, st t2 a1, b1⟩
def rz_Rel (D : va_G) (cI cJ : ClassId) (A : Nat → Prop) (s : State) (nL : Nat) (ks : List Nat) (RC RS : Nat) (adr0 adr : Nat → Nat) (lv : rz_L) (w : rz_W) (cs sl : Nat) (H : Heap) (locs : List Loc) (ls : Array Slot) : Prop :=
  va_P D vwCl (rz_c cI cJ adr w) H ∧ rz_D adr A (w.map Prod.fst) ∧ va_S A s.heap H locs ∧ lv_has ls nL (rz_l adr lv) ∧ (∀ k ∈ ks, adr k = adr0 k) ∧ (∃ ex : List Nat, w.map Prod.fst = ks ++ ex ∧ ex.length ≤ cs ∧ ∀ k, k ∉ ex → adr k = adr0 k) ∧ cs ≤ RC ∧ sl ≤ RS
def rz_G (p : Program) (l : Launch) (e : Env) (R : Room) (s : State) (m : MethodId) (args : Array Value) (below : List Frame) (meth : Method) (c : Code) (QQ : State → Prop) (D : va_G) (cI cJ : ClassId) (A : Nat → Prop) (nL : Nat) (ks : List Nat) (RC RS : Nat) (adr0 : Nat → Nat) (pc : Nat) (lv : rz_L) (st : List Value) (w : rz_W) (cs sl : Nat) : Prop :=
  ∀ (adr : Nat → Nat) (H : Heap) (locs : List Loc) (ls : Array Slot), rz_Rel D cI cJ A s nL ks RC RS adr0 adr lv w cs sl H locs ls → W p l e R s m args below meth c H locs cs sl QQ (F0 m pc ls (st.map (rz_v adr)))
set_option maxHeartbeats 8000000 in
set_option maxRecDepth 100000 in
theorem rz_step {D : va_G} {cI cJ : ClassId} {A : Nat → Prop} {nL : Nat} {ks : List Nat} {RC RS : Nat} {adr0 : Nat → Nat} {own : String} {cc : ByteArray} {ret : Option FieldType} {bz : Bool} {fld : List (Nat × Nat × Nat × Bool)} {cal cav : List (Nat × rz_K)} {sw : List (Int32 × Nat)} {Q : Option Value → rz_W → Prop} {Qc : Array Value → State → Outcome → State → Prop} {free : Addr → Prop}
    (hx : p.tables.exec = Jvm.exec) (hb : c.code = cc) (hlocks : meth.locks = false) (hml : c.maxLocals = nL) (hown : s.vm.findClass own = some m.cls) (hts : ∀ w ∈ bw, w.before args s = true) (hnw : rz_NW s) (hK : va_K D vwCl [(cI, .int), (cJ, .long)] s) (hA : ∀ q, s.heap.size ≤ q → A q) (hR : RC ≤ R.cells ∧ RS ≤ R.slots) (hr : meth.sig.returnType = ret)
    (hfld : ∀ ix q, rz_get fld ix = some q → rz_FOK own s args ix q) (hcal : ∀ ix ce, rz_get cal ix = some ce → rz_CallOK l R own cc (.invokestatic ix) ce) (hcav : ∀ ix ce, rz_get cav ix = some ce → rz_CallOK l R own cc (.invokevirtual ix) ce)
    (hfin : ∀ (adr : Nat → Nat) (lv : rz_L) (w : rz_W) (cs sl : Nat) (H : Heap) (locs : List Loc) (ls : Array Slot) (o : Option Value), rz_Rel D cI cJ A s nL ks RC RS adr0 adr lv w cs sl H locs ls → Q o w → (∀ q ∈ locs, free q.base) ∧ ∀ t : State, t.heap = H → s.WarmedH t.vm → Qc args s (.returned o) t)
    (hQQ : ∀ (H : Heap) (locs : List Loc) (g : JFrame), W p l e R s m args below meth c H locs RC RS (MQ below Qc args s RC RS free) g → W p l e R s m args below meth c H locs RC RS QQ g)
    {pc nx tg na : Nat} {ci : Int32} {cl : Int64} {i : Instr} (hrow : rz_row own cc nL ret bz sw pc (i, nx, tg, na, ci, cl))
    {Kp : Nat → rz_L → List Value → rz_W → Nat → Nat → Prop} (hKp : ∀ pc lv st w cs sl, Kp pc lv st w cs sl → rz_G p l e R s m args below meth c QQ D cI cJ A nL ks RC RS adr0 pc lv st w cs sl)
    {lv : rz_L} {st : List Value} {w : rz_W} {cs sl : Nat} (h : rz_stp fld cal cav sw bz RC RS Q Kp i nx tg na ci cl lv st w cs sl) : rz_G p l e R s m args below meth c QQ D cI cJ A nL ks RC RS adr0 pc lv st w cs sl := by
  intro adr H locs ls hr0
  obtain ⟨hP, hD, hS, hl, hk, hex, hc1, hc2⟩ := id hr0
  have ax : ∀ {b : Bool} {P : Prop} [Decidable P], b = true → b = decide P → P := fun h1 h2 => of_decide_eq_true (h2.symm.trans h1)
  have callk : ∀ {ins : Instr} {ce : rz_K}, rz_CallOK l R own cc ins ce → decode cc pc = .ok (ins, 3) → rz_call ce st w (fun st' w' => Kp (pc + 3) lv st' w' cs sl) → W p l e R s m args below meth c H locs cs sl QQ (F0 m pc ls (st.map (rz_v adr))) := by
    intro ins ce hok hd h
    obtain ⟨⟨av, rest⟩, hpop, h⟩ := rz_op_s h
    obtain ⟨wc, hsub, h⟩ := rz_op_s h
    obtain ⟨hwd, hpre, h⟩ := rz_if_s h
    obtain ⟨b, b1, b2, b3⟩ := rz_pop_spec hpop
    rw [List.append_nil] at b1
    subst b1
    obtain ⟨hkeys, hin⟩ := rz_sub_keys hsub
    have hwd2 : ((rest.map (rz_v adr)).map fun v => v.category).sum ≤ 8 := by rw [rz_words_sum]; exact Nat.le_of_ble_eq_true hwd
    have hPc : va_P D vwCl (rz_c cI cJ adr wc) H := rz_P_iff.mpr (fun q hq => rz_P_iff.mp hP q (hin q hq))
    have hkin : ∀ k ∈ wc.map Prod.fst, k ∈ w.map Prod.fst := by
      intro k hk9
      obtain ⟨q, hq, e9⟩ := List.mem_map.mp hk9
      exact List.mem_map.mpr ⟨q, hin q hq, e9⟩
    have hDc : rz_D adr A (wc.map Prod.fst) := ⟨by rw [hkeys]; exact hok.1, fun i hi j hj e9 => hD.2.1 i (hkin i hi) j (hkin j hj) e9, fun i hi => hD.2.2 i (hkin i hi)⟩
    have hDt : va_D (fun _ => True) (rz_c cI cJ adr wc) := hDc.va.weaken (fun _ _ _ _ => trivial)
    obtain ⟨a, hrun⟩ := hok.2 p e s m args below meth c H locs cs sl pc ls nL D cI cJ adr av (rest.map (rz_v adr)) wc (Nat.le_trans hc1 hR.1) (Nat.le_trans hc2 hR.2) hx hb hml hown hts hnw hK hd hl.1 b3 hwd2 hPc hDt hkeys hpre
    have hst : st.map (rz_v adr) = (av.map (rz_v adr)).reverse ++ rest.map (rz_v adr) := by rw [b2, List.map_append, List.map_reverse]
    rw [hst]
    have hAin : ∀ q, va_A (rz_c cI cJ adr wc) H.size q → A q := by
      intro q hq
      rcases hq with ⟨k, e9, hk9⟩ | hq
      · exact hDc.va.2 k _ hk9
      · exact hA q (Nat.le_trans hS.1 hq)
    refine rz_callW hrun hS (fun q _ hq => hAin q hq) hAin (fun o w' H1 locs1 j1 j2 j3 j4 j5 j6 j7 j8 => ?_)
    have hback : va_P D vwCl (rz_c cI cJ adr (rz_back w w')) H1 := by
      refine rz_P_iff.mpr (fun q hq => ?_)
      rcases rz_back_mem hD.1 hq with z | ⟨z1, z2⟩
      · exact rz_P_iff.mp j5 q z
      · have hat := rz_P_iff.mp hP q z1
        refine hat.kept (j7 _ hat.lt (fun z3 => ?_))
        rcases z3 with ⟨k, e9, hk9⟩ | z3
        · obtain ⟨y, hy, e8⟩ := List.mem_map.mp (List.mem_of_getElem? hk9)
          have e7 : adr y.1 = adr q.1 := congrArg Prod.fst e8
          have e6 := hD.2.1 y.1 (List.mem_map.mpr ⟨y, hin y hy, rfl⟩) q.1 (List.mem_map.mpr ⟨q, z1, rfl⟩) e7
          refine z2 ?_
          rw [j2, ← hkeys, ← e6]
          exact List.mem_map.mpr ⟨y, hy, rfl⟩
        · exact absurd hat.lt (Nat.not_lt.mpr z3)
    have hrel : ∀ w2 : rz_W, va_P D vwCl (rz_c cI cJ adr w2) H1 → w2.map Prod.fst = w.map Prod.fst → rz_Rel D cI cJ A s nL ks RC RS adr0 adr lv w2 cs sl H1 locs1 ls := fun w2 g1 g2 => ⟨g1, by rw [g2]; exact hD, j8, hl, hk, by rw [g2]; exact hex, hc1, hc2⟩
    have hkp : ∀ vs : List Value, o.toList = vs → vs.map (rz_v adr) = vs → rz_kept ce.2.2.2.1 (ce.2.2.2.2.2 av wc o) wc w (fun w2 => Kp (pc + 3) lv (rz_app vs rest) w2 cs sl) → W p l e R s m args below meth c H1 locs1 cs sl QQ (F0 m (pc + 3) ls (o.toList ++ rest.map (rz_v adr))) := by
      intro vs hvs hvm hkept
      have e5 : o.toList ++ rest.map (rz_v adr) = (rz_app vs rest).map (rz_v adr) := by rw [rz_app_eq, List.map_append, hvm, hvs]
      rw [e5]
      unfold rz_kept at hkept
      cases hb2 : ce.2.2.2.1 with
      | true =>
        rw [hb2] at hkept
        have e4 := j3 hb2
        subst e4
        have hsame : va_P D vwCl (rz_c cI cJ adr w) H1 := by
          refine rz_P_iff.mpr (fun q hq => ?_)
          by_cases z : q.1 ∈ w'.map Prod.fst
          · obtain ⟨y, hy, e8⟩ := List.mem_map.mp z
            have e3 : y = q := by
              have hy2 := hin y hy
              obtain ⟨i1, hi1⟩ := List.getElem?_of_mem hy2
              obtain ⟨i2, hi2⟩ := List.getElem?_of_mem hq
              have : i1 = i2 := rz_nodup_inj hD.1 (a := q.1) (by rw [List.getElem?_map, hi1]; exact congrArg some e8) (by rw [List.getElem?_map, hi2]; rfl)
              subst this
              rw [hi1] at hi2
              exact Option.some.inj hi2
            rw [← e3]
            exact rz_P_iff.mp j5 y hy
          · have hat := rz_P_iff.mp hP q hq
            refine hat.kept (j7 _ hat.lt (fun z3 => ?_))
            rcases z3 with ⟨k, e9, hk9⟩ | z3
            · obtain ⟨y, hy, e8⟩ := List.mem_map.mp (List.mem_of_getElem? hk9)
              have e7 : adr y.1 = adr q.1 := congrArg Prod.fst e8
              have e6 := hD.2.1 y.1 (List.mem_map.mpr ⟨y, hin y hy, rfl⟩) q.1 (List.mem_map.mpr ⟨q, hq, rfl⟩) e7
              exact z (by rw [← e6]; exact List.mem_map.mpr ⟨y, hy, rfl⟩)
            · exact absurd hat.lt (Nat.not_lt.mpr z3)
        exact hKp _ _ _ _ _ _ (hkept j4) adr H1 locs1 ls (hrel w hsame rfl)
      | false =>
        rw [hb2] at hkept
        exact hKp _ _ _ _ _ _ (hkept w' j4) adr H1 locs1 ls (hrel _ hback (rz_back_keys w' w))
    unfold rz_kind at j1
    unfold rz_ret at h
    split at j1
    · rename_i hrk
      obtain ⟨rv, rfl⟩ := j1
      rw [hrk] at h
      exact hkp [.int rv] rfl rfl (h rv)
    · rename_i hrk
      obtain ⟨rv, rfl⟩ := j1
      rw [hrk] at h
      exact hkp [.long rv] rfl rfl (h rv)
    · rename_i hrk1 hrk2
      subst j1
      refine hkp [] rfl rfl ?_
      revert h
      split
      · rename_i z; exact absurd z (by intro z; exact hrk1 z)
      · rename_i z; exact absurd z (by intro z; exact hrk2 z)
      · exact id
  cases i with
  | iconst n =>
    obtain ⟨hd, hn, ha⟩ := hrow
    have hn : nx = pc + 1 := hn
    subst hn
    exact lv_iconst hx hb hd (ax ha rfl) (hKp _ _ _ _ _ _ h adr H locs ls hr0)
  | bipush n =>
    obtain ⟨hd, hn, ha⟩ := hrow
    have hn : nx = pc + 2 := hn
    subst hn
    exact lv_bipush hx hb hd (ax ha rfl) (hKp _ _ _ _ _ _ h adr H locs ls hr0)
  | sipush n =>
    obtain ⟨hd, hn, ha⟩ := hrow
    have hn : nx = pc + 3 := hn
    subst hn
    exact lv_sipush hx hb hd (ax ha rfl) (hKp _ _ _ _ _ _ h adr H locs ls hr0)
  | lconst n =>
    obtain ⟨hd, hn, ha⟩ := hrow
    have hn : nx = pc + 1 := hn
    subst hn
    exact lv_lconst hx hb hd (ax ha rfl) (hKp _ _ _ _ _ _ h adr H locs ls hr0)
  | ldc_w ix =>
    obtain ⟨hd, hn, ha⟩ := hrow
    have hn : nx = pc + 3 := hn
    subst hn
    have ha : tables_1[na]? = some (.constant own ix ci) := ax ha rfl
    exact lv_ldcw hx hb hown (hts _ (bw_t na ha rfl)) hd (hKp _ _ _ _ _ _ h adr H locs ls hr0)
  | ldc2_w ix =>
    obtain ⟨hd, hn, ha⟩ := hrow
    have hn : nx = pc + 3 := hn
    subst hn
    have ha : tables_1[na]? = some (.constantLong own ix cl) := ax ha rfl
    exact lv_ldc2 hx hb hown (hts _ (bw_t na ha rfl)) hd (hKp _ _ _ _ _ _ h adr H locs ls hr0)
  | iload k =>
    obtain ⟨hd, hn, ha⟩ := hrow
    have hn : nx = pc + 2 := hn
    subst hn
    have ha : k = tg := ax ha rfl
    subst ha
    obtain ⟨x, hg, h⟩ := rz_gi_s h
    exact lv_iload hx hb hd (rz_lv_at hl hg) (hKp _ _ _ _ _ _ h adr H locs ls hr0)
  | iload_n k =>
    obtain ⟨hd, hn, ha⟩ := hrow
    have hn : nx = pc + 1 := hn
    subst hn
    have ha : (k : Nat) = tg := ax ha rfl
    obtain ⟨x, hg, h⟩ := rz_gi_s h
    exact lv_iload_n hx hb hd ha (rz_lv_at hl hg) (hKp _ _ _ _ _ _ h adr H locs ls hr0)
  | lload k =>
    obtain ⟨hd, hn, ha⟩ := hrow
    have hn : nx = pc + 2 := hn
    subst hn
    have ha : k = tg := ax ha rfl
    subst ha
    obtain ⟨x, hg, h⟩ := rz_gl_s h
    exact lv_lload hx hb hd (rz_lv_at hl hg) (hKp _ _ _ _ _ _ h adr H locs ls hr0)
  | lload_n k =>
    obtain ⟨hd, hn, ha⟩ := hrow
    have hn : nx = pc + 1 := hn
    subst hn
    have ha : (k : Nat) = tg := ax ha rfl
    obtain ⟨x, hg, h⟩ := rz_gl_s h
    exact lv_lload_n hx hb hd ha (rz_lv_at hl hg) (hKp _ _ _ _ _ _ h adr H locs ls hr0)
  | aload k =>
    obtain ⟨hd, hn, ha⟩ := hrow
    have hn : nx = pc + 2 := hn
    subst hn
    have ha : k = tg := ax ha rfl
    subst ha
    obtain ⟨x, hg, h⟩ := rz_gr_s h
    exact lv_aload hx hb hd (rz_lv_at hl hg) (hKp _ _ _ _ _ _ h adr H locs ls hr0)
  | aload_n k =>
    obtain ⟨hd, hn, ha⟩ := hrow
    have hn : nx = pc + 1 := hn
    subst hn
    have ha : (k : Nat) = tg := ax ha rfl
    obtain ⟨x, hg, h⟩ := rz_gr_s h
    exact lv_aload_n hx hb hd ha (rz_lv_at hl hg) (hKp _ _ _ _ _ _ h adr H locs ls hr0)
  | istore k =>
    obtain ⟨hd, hn, ha⟩ := hrow
    have hn : nx = pc + 2 := hn
    subst hn
    obtain ⟨ha, ha2⟩ : k = tg ∧ tg < nL := ax ha rfl
    subst ha
    obtain ⟨x, r, e1, h⟩ := rz_pi_s h
    subst e1
    exact lv_istore hx hb hd hl ha2 rfl (fun ls' hl' => hKp _ _ _ _ _ _ (h x rfl) adr H locs ls' ⟨hP, hD, hS, rz_lv_st1 (v := .int x) hl', hk, hex, hc1, hc2⟩)
  | istore_n k =>
    obtain ⟨hd, hn, ha⟩ := hrow
    have hn : nx = pc + 1 := hn
    subst hn
    obtain ⟨ha, ha2⟩ : (k : Nat) = tg ∧ tg < nL := ax ha rfl
    obtain ⟨x, r, e1, h⟩ := rz_pi_s h
    subst e1
    exact lv_istore_n hx hb hd ha hl ha2 rfl (fun ls' hl' => hKp _ _ _ _ _ _ (h x rfl) adr H locs ls' ⟨hP, hD, hS, rz_lv_st1 (v := .int x) hl', hk, hex, hc1, hc2⟩)
  | lstore k =>
    obtain ⟨hd, hn, ha⟩ := hrow
    have hn : nx = pc + 2 := hn
    subst hn
    obtain ⟨ha, ha2⟩ : k = tg ∧ tg + 1 < nL := ax ha rfl
    subst ha
    obtain ⟨x, r, e1, h⟩ := rz_pl_s h
    subst e1
    exact lv_lstore hx hb hd hl ha2 rfl (fun ls' hl' => hKp _ _ _ _ _ _ (h x rfl) adr H locs ls' ⟨hP, hD, hS, rz_lv_st2 (v := .long x) hl', hk, hex, hc1, hc2⟩)
  | lstore_n k =>
    obtain ⟨hd, hn, ha⟩ := hrow
    have hn : nx = pc + 1 := hn
    subst hn
    obtain ⟨ha, ha2⟩ : (k : Nat) = tg ∧ tg + 1 < nL := ax ha rfl
    obtain ⟨x, r, e1, h⟩ := rz_pl_s h
    subst e1
    exact lv_lstore_n hx hb hd ha hl ha2 rfl (fun ls' hl' => hKp _ _ _ _ _ _ (h x rfl) adr H locs ls' ⟨hP, hD, hS, rz_lv_st2 (v := .long x) hl', hk, hex, hc1, hc2⟩)
  | astore k =>
    obtain ⟨hd, hn, ha⟩ := hrow
    have hn : nx = pc + 2 := hn
    subst hn
    obtain ⟨ha, ha2⟩ : k = tg ∧ tg < nL := ax ha rfl
    subst ha
    obtain ⟨x, r, e1, h⟩ := rz_pr_s h
    subst e1
    exact lv_astore hx hb hd hl ha2 rfl (fun ls' hl' => hKp _ _ _ _ _ _ h adr H locs ls' ⟨hP, hD, hS, rz_lv_st1 (v := .ref x) hl', hk, hex, hc1, hc2⟩)
  | astore_n k =>
    obtain ⟨hd, hn, ha⟩ := hrow
    have hn : nx = pc + 1 := hn
    subst hn
    obtain ⟨ha, ha2⟩ : (k : Nat) = tg ∧ tg < nL := ax ha rfl
    obtain ⟨x, r, e1, h⟩ := rz_pr_s h
    subst e1
    exact lv_astore_n hx hb hd ha hl ha2 rfl (fun ls' hl' => hKp _ _ _ _ _ _ h adr H locs ls' ⟨hP, hD, hS, rz_lv_st1 (v := .ref x) hl', hk, hex, hc1, hc2⟩)
  | iinc k n =>
    obtain ⟨hd, hn, ha⟩ := hrow
    have hn : nx = pc + 3 := hn
    subst hn
    obtain ⟨ha, ha2, ha3⟩ : k = tg ∧ tg < nL ∧ Int32.ofInt n = ci := ax ha rfl
    subst ha
    obtain ⟨x, hg, h⟩ := rz_gi_s h
    exact lv_iinc hx hb hd hl (k := rz_pos lv k) (rz_l_pos hg) (by rw [ha3]) ha2 rfl (fun ls' hl' => hKp _ _ _ _ _ _ (h (x + ci) rfl) adr H locs ls' ⟨hP, hD, hS, rz_lv_st1 (v := .int (x + ci)) hl', hk, hex, hc1, hc2⟩)
  | iadd =>
    obtain ⟨hd, hn, ha⟩ := hrow
    have hn : nx = pc + 1 := hn
    subst hn
    obtain ⟨y, r, e1, h⟩ := rz_pi_s h
    subst e1
    obtain ⟨x, r, e1, h⟩ := rz_pi_s h
    subst e1
    exact lv_iadd hx hb hd (hKp _ _ _ _ _ _ h adr H locs ls hr0)
  | isub =>
    obtain ⟨hd, hn, ha⟩ := hrow
    have hn : nx = pc + 1 := hn
    subst hn
    obtain ⟨y, r, e1, h⟩ := rz_pi_s h
    subst e1
    obtain ⟨x, r, e1, h⟩ := rz_pi_s h
    subst e1
    exact lv_isub hx hb hd (hKp _ _ _ _ _ _ h adr H locs ls hr0)
  | imul =>
    obtain ⟨hd, hn, ha⟩ := hrow
    have hn : nx = pc + 1 := hn
    subst hn
    obtain ⟨y, r, e1, h⟩ := rz_pi_s h
    subst e1
    obtain ⟨x, r, e1, h⟩ := rz_pi_s h
    subst e1
    exact lv_imul hx hb hd (hKp _ _ _ _ _ _ h adr H locs ls hr0)
  | iand =>
    obtain ⟨hd, hn, ha⟩ := hrow
    have hn : nx = pc + 1 := hn
    subst hn
    obtain ⟨y, r, e1, h⟩ := rz_pi_s h
    subst e1
    obtain ⟨x, r, e1, h⟩ := rz_pi_s h
    subst e1
    exact lv_iand hx hb hd (hKp _ _ _ _ _ _ h adr H locs ls hr0)
  | ior =>
    obtain ⟨hd, hn, ha⟩ := hrow
    have hn : nx = pc + 1 := hn
    subst hn
    obtain ⟨y, r, e1, h⟩ := rz_pi_s h
    subst e1
    obtain ⟨x, r, e1, h⟩ := rz_pi_s h
    subst e1
    exact lv_ior hx hb hd (hKp _ _ _ _ _ _ h adr H locs ls hr0)
  | ixor =>
    obtain ⟨hd, hn, ha⟩ := hrow
    have hn : nx = pc + 1 := hn
    subst hn
    obtain ⟨y, r, e1, h⟩ := rz_pi_s h
    subst e1
    obtain ⟨x, r, e1, h⟩ := rz_pi_s h
    subst e1
    exact lv_ixor hx hb hd (hKp _ _ _ _ _ _ h adr H locs ls hr0)
  | ishl =>
    obtain ⟨hd, hn, ha⟩ := hrow
    have hn : nx = pc + 1 := hn
    subst hn
    obtain ⟨y, r, e1, h⟩ := rz_pi_s h
    subst e1
    obtain ⟨x, r, e1, h⟩ := rz_pi_s h
    subst e1
    exact lv_ishl hx hb hd (hKp _ _ _ _ _ _ h adr H locs ls hr0)
  | ishr =>
    obtain ⟨hd, hn, ha⟩ := hrow
    have hn : nx = pc + 1 := hn
    subst hn
    obtain ⟨y, r, e1, h⟩ := rz_pi_s h
    subst e1
    obtain ⟨x, r, e1, h⟩ := rz_pi_s h
    subst e1
    exact lv_ishr hx hb hd (hKp _ _ _ _ _ _ h adr H locs ls hr0)
  | iushr =>
    obtain ⟨hd, hn, ha⟩ := hrow
    have hn : nx = pc + 1 := hn
    subst hn
    obtain ⟨y, r, e1, h⟩ := rz_pi_s h
    subst e1
    obtain ⟨x, r, e1, h⟩ := rz_pi_s h
    subst e1
    exact lv_iushr hx hb hd rfl (hKp _ _ _ _ _ _ h adr H locs ls hr0)
  | irem =>
    obtain ⟨hd, hn, ha⟩ := hrow
    have hn : nx = pc + 1 := hn
    subst hn
    obtain ⟨y, r, e1, h⟩ := rz_pi_s h
    subst e1
    obtain ⟨x, r, e1, h⟩ := rz_pi_s h
    subst e1
    exact lv_irem hx hb hd h.1 (hKp _ _ _ _ _ _ h.2 adr H locs ls hr0)
  | ladd =>
    obtain ⟨hd, hn, ha⟩ := hrow
    have hn : nx = pc + 1 := hn
    subst hn
    obtain ⟨y, r, e1, h⟩ := rz_pl_s h
    subst e1
    obtain ⟨x, r, e1, h⟩ := rz_pl_s h
    subst e1
    exact lv_ladd hx hb hd (hKp _ _ _ _ _ _ h adr H locs ls hr0)
  | lsub =>
    obtain ⟨hd, hn, ha⟩ := hrow
    have hn : nx = pc + 1 := hn
    subst hn
    obtain ⟨y, r, e1, h⟩ := rz_pl_s h
    subst e1
    obtain ⟨x, r, e1, h⟩ := rz_pl_s h
    subst e1
    exact lv_lsub hx hb hd (hKp _ _ _ _ _ _ h adr H locs ls hr0)
  | lmul =>
    obtain ⟨hd, hn, ha⟩ := hrow
    have hn : nx = pc + 1 := hn
    subst hn
    obtain ⟨y, r, e1, h⟩ := rz_pl_s h
    subst e1
    obtain ⟨x, r, e1, h⟩ := rz_pl_s h
    subst e1
    exact lv_lmul hx hb hd (hKp _ _ _ _ _ _ h adr H locs ls hr0)
  | lxor =>
    obtain ⟨hd, hn, ha⟩ := hrow
    have hn : nx = pc + 1 := hn
    subst hn
    obtain ⟨y, r, e1, h⟩ := rz_pl_s h
    subst e1
    obtain ⟨x, r, e1, h⟩ := rz_pl_s h
    subst e1
    exact lv_lxor hx hb hd (hKp _ _ _ _ _ _ h adr H locs ls hr0)
  | ldiv =>
    obtain ⟨hd, hn, ha⟩ := hrow
    have hn : nx = pc + 1 := hn
    subst hn
    obtain ⟨y, r, e1, h⟩ := rz_pl_s h
    subst e1
    obtain ⟨x, r, e1, h⟩ := rz_pl_s h
    subst e1
    exact lv_ldiv hx hb hd h.1 (hKp _ _ _ _ _ _ h.2 adr H locs ls hr0)
  | lrem =>
    obtain ⟨hd, hn, ha⟩ := hrow
    have hn : nx = pc + 1 := hn
    subst hn
    obtain ⟨y, r, e1, h⟩ := rz_pl_s h
    subst e1
    obtain ⟨x, r, e1, h⟩ := rz_pl_s h
    subst e1
    exact lv_lrem hx hb hd h.1 (hKp _ _ _ _ _ _ h.2 adr H locs ls hr0)
  | lcmp =>
    obtain ⟨hd, hn, ha⟩ := hrow
    have hn : nx = pc + 1 := hn
    subst hn
    obtain ⟨y, r, e1, h⟩ := rz_pl_s h
    subst e1
    obtain ⟨x, r, e1, h⟩ := rz_pl_s h
    subst e1
    exact W.lcmp hx hb hd (hKp _ _ _ _ _ _ h adr H locs ls hr0)
  | ineg =>
    obtain ⟨hd, hn, ha⟩ := hrow
    have hn : nx = pc + 1 := hn
    subst hn
    obtain ⟨x, r, e1, h⟩ := rz_pi_s h
    subst e1
    exact lv_ineg hx hb hd (hKp _ _ _ _ _ _ h adr H locs ls hr0)
  | lneg =>
    obtain ⟨hd, hn, ha⟩ := hrow
    have hn : nx = pc + 1 := hn
    subst hn
    obtain ⟨x, r, e1, h⟩ := rz_pl_s h
    subst e1
    exact lv_lneg hx hb hd (hKp _ _ _ _ _ _ h adr H locs ls hr0)
  | i2l =>
    obtain ⟨hd, hn, ha⟩ := hrow
    have hn : nx = pc + 1 := hn
    subst hn
    obtain ⟨x, r, e1, h⟩ := rz_pi_s h
    subst e1
    exact lv_i2l hx hb hd rfl (hKp _ _ _ _ _ _ h adr H locs ls hr0)
  | l2i =>
    obtain ⟨hd, hn, ha⟩ := hrow
    have hn : nx = pc + 1 := hn
    subst hn
    obtain ⟨x, r, e1, h⟩ := rz_pl_s h
    subst e1
    exact lv_l2i hx hb hd rfl (hKp _ _ _ _ _ _ h adr H locs ls hr0)
  | dup =>
    obtain ⟨hd, hn, ha⟩ := hrow
    have hn : nx = pc + 1 := hn
    subst hn
    match st, h with
    | .int x :: r, h => exact lv_dup hx hb hd rfl (hKp _ _ _ _ _ _ h adr H locs ls hr0)
    | .ref x :: r, h => exact lv_dup hx hb hd rfl (hKp _ _ _ _ _ _ h adr H locs ls hr0)
  | ifCond cd off =>
    obtain ⟨hd, hn, ha⟩ := hrow
    have hn : nx = pc + 3 := hn
    subst hn
    have ht : (pc : Int) + off = (tg : Int) := ax ha rfl
    obtain ⟨x, r, e1, h⟩ := rz_pi_s h
    subst e1
    cases cd with
    | eq => exact lv_if_eq hx hb hd ht (fun z => hKp _ _ _ _ _ _ (h.1 z) adr H locs ls hr0) (fun z => hKp _ _ _ _ _ _ (h.2 z) adr H locs ls hr0)
    | ne => exact lv_if_ne hx hb hd ht (fun z => hKp _ _ _ _ _ _ (h.2 z) adr H locs ls hr0) (fun z => hKp _ _ _ _ _ _ (h.1 z) adr H locs ls hr0)
    | lt => exact lv_if_lt hx hb hd ht (fun z => hKp _ _ _ _ _ _ (h.1 z) adr H locs ls hr0) (fun z => hKp _ _ _ _ _ _ (h.2 z) adr H locs ls hr0)
    | ge => exact lv_if_ge hx hb hd ht (fun z => hKp _ _ _ _ _ _ (h.1 z) adr H locs ls hr0) (fun z => hKp _ _ _ _ _ _ (h.2 z) adr H locs ls hr0)
    | gt => exact lv_if_gt hx hb hd ht (fun z => hKp _ _ _ _ _ _ (h.1 z) adr H locs ls hr0) (fun z => hKp _ _ _ _ _ _ (h.2 z) adr H locs ls hr0)
    | le => exact lv_if_le hx hb hd ht (fun z => hKp _ _ _ _ _ _ (h.1 z) adr H locs ls hr0) (fun z => hKp _ _ _ _ _ _ (h.2 z) adr H locs ls hr0)
  | if_icmp cd off =>
    obtain ⟨hd, hn, ha⟩ := hrow
    have hn : nx = pc + 3 := hn
    subst hn
    have ht : (pc : Int) + off = (tg : Int) := ax ha rfl
    obtain ⟨y, r, e1, h⟩ := rz_pi_s h
    subst e1
    obtain ⟨x, r, e1, h⟩ := rz_pi_s h
    subst e1
    cases cd with
    | eq => exact lv_icmp_eq hx hb hd ht (fun z => hKp _ _ _ _ _ _ (h.1 z) adr H locs ls hr0) (fun z => hKp _ _ _ _ _ _ (h.2 z) adr H locs ls hr0)
    | ne => exact lv_icmp_ne hx hb hd ht (fun z => hKp _ _ _ _ _ _ (h.2 z) adr H locs ls hr0) (fun z => hKp _ _ _ _ _ _ (h.1 z) adr H locs ls hr0)
    | lt => exact lv_icmp_lt hx hb hd ht (fun z => hKp _ _ _ _ _ _ (h.1 z) adr H locs ls hr0) (fun z => hKp _ _ _ _ _ _ (h.2 z) adr H locs ls hr0)
    | ge => exact lv_icmp_ge hx hb hd ht (fun z => hKp _ _ _ _ _ _ (h.1 z) adr H locs ls hr0) (fun z => hKp _ _ _ _ _ _ (h.2 z) adr H locs ls hr0)
    | gt => exact lv_icmp_gt hx hb hd ht (fun z => hKp _ _ _ _ _ _ (h.1 z) adr H locs ls hr0) (fun z => hKp _ _ _ _ _ _ (h.2 z) adr H locs ls hr0)
    | le => exact lv_icmp_le hx hb hd ht (fun z => hKp _ _ _ _ _ _ (h.1 z) adr H locs ls hr0) (fun z => hKp _ _ _ _ _ _ (h.2 z) adr H locs ls hr0)
  | goto off =>
    obtain ⟨hd, hn, ha⟩ := hrow
    have ha : (pc : Int) + off = (tg : Int) := ax ha rfl
    exact lv_goto hx hb hd ha (hKp _ _ _ _ _ _ h adr H locs ls hr0)
  | tableswitch d lo hi offs =>
    obtain ⟨⟨len, hd⟩, h1, h2, h3⟩ := hrow
    obtain ⟨x, r, e1, h⟩ := rz_pi_s h
    subst e1
    have h3 : ∀ (j : Nat) (v : Int32) (t : Nat), sw[j]? = some (v, t) → ∃ off, offs[j]? = some off ∧ v.toInt = lo + j ∧ (pc : Int) + off = (t : Int) := by
      intro j v t hj
      have hjl : j < sw.length := (List.getElem?_eq_some_iff.mp hj).1
      have h4 := List.all_eq_true.mp h3 j (List.mem_range.mpr hjl)
      rw [hj] at h4
      cases ho : offs[j]? with
      | none => rw [ho] at h4; cases h4
      | some off =>
        rw [ho] at h4
        exact ⟨off, rfl, of_decide_eq_true h4⟩
    rcases rz_sw_s h with ⟨j, t, hj, hKt⟩ | ⟨hno, hKd⟩
    · obtain ⟨off, o1, o2, o3⟩ := h3 j x t hj
      have hjl : j < sw.length := (List.getElem?_eq_some_iff.mp hj).1
      refine lv_tableIn hx hb hd (by omega) (by omega) (off := off) ?_ o3 (hKp _ _ _ _ _ _ hKt adr H locs ls hr0)
      rw [o2, show lo + (j : Int) - lo = (j : Int) by omega]
      exact o1
    · refine lv_tableOut hx hb hd ?_ h1 (hKp _ _ _ _ _ _ hKd adr H locs ls hr0)
      by_cases z1 : x.toInt < lo
      · exact Or.inl z1
      · by_cases z2 : hi < x.toInt
        · exact Or.inr z2
        · exfalso
          have hjl : (x.toInt - lo).toNat < sw.length := by omega
          obtain ⟨off, o1, o2, o3⟩ := h3 (x.toInt - lo).toNat (sw[(x.toInt - lo).toNat]).1 (sw[(x.toInt - lo).toNat]).2 (List.getElem?_eq_getElem hjl)
          refine hno _ (List.getElem_mem hjl) (Int32.toInt_inj.mp ?_)
          rw [o2]
          omega
  | getfield ix =>
    obtain ⟨hd, hn, ha⟩ := hrow
    have hn : nx = pc + 3 := hn
    subst hn
    obtain ⟨a, r, e1, h⟩ := rz_pr_s h
    subst e1
    obtain ⟨q, hq, h⟩ := rz_op_s h
    obtain ⟨fs, hfs, h⟩ := rz_ob_s h
    obtain ⟨v, hv, h⟩ := rz_op_s h
    obtain ⟨C, T, N, g1, g2, g3, g4, -, -, -⟩ := hfld ix q hq
    have hv2 : (fs.map (rz_v adr))[q.2.1]? = some (rz_v adr v) := by rw [List.getElem?_map, hv]; rfl
    rcases g4 with g4 | g4
    · exact va_get (ci := q.1) (v := rz_v adr v) (C := C) (T := T) (N := N) hx hb hts g2 hown hK hP (rz_pos w a) (rz_get_pos hfs) g1 q.2.1 g3 g4 (fun _ h9 => h9) hv2 hd (hKp _ _ _ _ _ _ h adr H locs ls hr0)
    · exact va_getN (ci := q.1) (v := rz_v adr v) (C := C) (T := T) (N := N) hx hb hts g2 hown hK hP (rz_pos w a) (rz_get_pos hfs) g1 q.2.1 g3 g4 (fun _ h9 => h9) hv2 hd (hKp _ _ _ _ _ _ h adr H locs ls hr0)
  | putfield ix =>
    obtain ⟨hd, hn, ha⟩ := hrow
    have hn : nx = pc + 3 := hn
    subst hn
    obtain ⟨x, r, e1, h⟩ := rz_pi_s h
    subst e1
    obtain ⟨a, r, e1, h⟩ := rz_pr_s h
    subst e1
    obtain ⟨q, hq, h⟩ := rz_op_s h
    obtain ⟨fs, hfs, h⟩ := rz_ob_s h
    obtain ⟨hlt, h⟩ := rz_if_s h
    have hlt := (Bool.and_eq_true _ _).mp hlt
    obtain ⟨C, T, N, g1, g2, g3, g4, ⟨ty, g5⟩, g6, g7⟩ := hfld ix q hq
    obtain ⟨g8, g9⟩ := g7 hlt.1
    have hlen : q.2.1 < (fs.map (rz_v adr)).length := by
      rw [List.length_map]
      have h9 := hlt.2
      exact Nat.le_of_ble_eq_true h9
    have hset : ((fs.map (rz_v adr)).set q.2.1 (Value.int x)) = (fs.set q.2.1 (.int x)).map (rz_v adr) := by rw [List.map_set]; rfl
    have kk : ∀ (H1 : Heap) (locs1 : List Loc), va_P D vwCl ((rz_c cI cJ adr w).set (rz_pos w a) (adr a, .inr (q.1, (fs.map (rz_v adr)).set q.2.1 (Value.int x)))) H1 → va_D A ((rz_c cI cJ adr w).set (rz_pos w a) (adr a, .inr (q.1, (fs.map (rz_v adr)).set q.2.1 (Value.int x)))) → va_S A s.heap H1 locs1 → W p l e R s m args below meth c H1 locs1 cs sl QQ (F0 m (pc + 3) ls (r.map (rz_v adr))) := by
      intro H1 locs1 k1 k2 k3
      have e2 : (rz_c cI cJ adr w).set (rz_pos w a) (adr a, .inr (q.1, (fs.map (rz_v adr)).set q.2.1 (Value.int x))) = rz_c cI cJ adr (rz_set w a (.inl (q.1, fs.set q.2.1 (.int x)))) := by
        rw [hset]
        exact rz_set_pos (y := .inl (q.1, fs.set q.2.1 (.int x))) hfs
      rw [e2] at k1
      exact hKp _ _ _ _ _ _ h adr H1 locs1 ls ⟨k1, by rw [rz_set_keys]; exact hD, k3, hl, hk, by rw [rz_set_keys]; exact hex, hc1, hc2⟩
    rcases g4 with g4 | g4
    · exact va_put (ci := q.1) (v := .int x) (ty := .int) (C := C) (T := T) (N := N) hx hb hts g2 ty g5 g6 hown hK hP hD.va hS (rz_pos w a) (rz_get_pos hfs) g1 q.2.1 g3 g4 (fun _ h9 => h9) g8 g9 rfl rfl hlen hd kk
    · exact va_putN (ci := q.1) (v := .int x) (ty := .int) (C := C) (T := T) (N := N) hx hb hts g2 ty g5 g6 hown hK hP hD.va hS (rz_pos w a) (rz_get_pos hfs) g1 q.2.1 g3 g4 (fun _ h9 => h9) g8 g9 rfl rfl hlen hd kk
  | iaload =>
    obtain ⟨hd, hn, ha⟩ := hrow
    have hn : nx = pc + 1 := hn
    subst hn
    obtain ⟨j, r, e1, h⟩ := rz_pi_s h
    subst e1
    obtain ⟨a, r, e1, h⟩ := rz_pr_s h
    subst e1
    obtain ⟨n, f, hg, h1, h⟩ := rz_ai_s h
    exact va_iald hx hb hK hP (rz_pos w a) 0 (rz_get_pos hg) rfl h1 hd (hKp _ _ _ _ _ _ h adr H locs ls hr0)
  | laload =>
    obtain ⟨hd, hn, ha⟩ := hrow
    have hn : nx = pc + 1 := hn
    subst hn
    obtain ⟨j, r, e1, h⟩ := rz_pi_s h
    subst e1
    obtain ⟨a, r, e1, h⟩ := rz_pr_s h
    subst e1
    obtain ⟨n, f, hg, h1, h⟩ := rz_al_s h
    exact va_lald hx hb hK hP (rz_pos w a) 1 (rz_get_pos hg) rfl h1 hd (hKp _ _ _ _ _ _ h adr H locs ls hr0)
  | iastore =>
    obtain ⟨hd, hn, ha⟩ := hrow
    have hn : nx = pc + 1 := hn
    subst hn
    obtain ⟨x, r, e1, h⟩ := rz_pi_s h
    subst e1
    obtain ⟨j, r, e1, h⟩ := rz_pi_s h
    subst e1
    obtain ⟨a, r, e1, h⟩ := rz_pr_s h
    subst e1
    obtain ⟨n, f, hg, h1, h⟩ := rz_ai_s h
    refine va_iast hx hb hK hP hD.va hS (rz_pos w a) 0 (rz_get_pos hg) rfl h1 hd (fun H1 locs1 k1 k2 k3 => ?_)
    have e2 := rz_set_pos (cI := cI) (cJ := cJ) (adr := adr) (y := .inr (.inl (n, upd f j.toNatClampNeg x))) hg
    have k1 : va_P D vwCl ((rz_c cI cJ adr w).set (rz_pos w a) (adr a, rz_e cI cJ adr (.inr (.inl (n, upd f j.toNatClampNeg x))))) H1 := k1
    rw [e2] at k1
    exact hKp _ _ _ _ _ _ h adr H1 locs1 ls ⟨k1, by rw [rz_set_keys]; exact hD, k3, hl, hk, by rw [rz_set_keys]; exact hex, hc1, hc2⟩
  | lastore =>
    obtain ⟨hd, hn, ha⟩ := hrow
    have hn : nx = pc + 1 := hn
    subst hn
    obtain ⟨x, r, e1, h⟩ := rz_pl_s h
    subst e1
    obtain ⟨j, r, e1, h⟩ := rz_pi_s h
    subst e1
    obtain ⟨a, r, e1, h⟩ := rz_pr_s h
    subst e1
    obtain ⟨n, f, hg, h1, h⟩ := rz_al_s h
    refine va_last hx hb hK hP hD.va hS (rz_pos w a) 1 (rz_get_pos hg) rfl h1 hd (fun H1 locs1 k1 k2 k3 => ?_)
    have e2 := rz_set_pos (cI := cI) (cJ := cJ) (adr := adr) (y := .inr (.inr (n, vp_updL f j.toNatClampNeg x))) hg
    have k1 : va_P D vwCl ((rz_c cI cJ adr w).set (rz_pos w a) (adr a, rz_e cI cJ adr (.inr (.inr (n, vp_updL f j.toNatClampNeg x))))) H1 := k1
    rw [e2] at k1
    exact hKp _ _ _ _ _ _ h adr H1 locs1 ls ⟨k1, by rw [rz_set_keys]; exact hD, k3, hl, hk, by rw [rz_set_keys]; exact hex, hc1, hc2⟩
  | arraylength =>
    obtain ⟨hd, hn, ha⟩ := hrow
    have hn : nx = pc + 1 := hn
    subst hn
    obtain ⟨a, r, e1, h⟩ := rz_pr_s h
    subst e1
    obtain ⟨n, f, hg, h⟩ := rz_ai_s h
    exact va_alen hx hb hK hP (rz_pos w a) 0 (rz_get_pos hg) (ty := .int) rfl rfl hd (hKp _ _ _ _ _ _ h adr H locs ls hr0)
  | newarray at1 =>
    obtain ⟨hd, hn, ha⟩ := hrow
    have hn : nx = pc + 2 := hn
    subst hn
    obtain ⟨ha1, ha2, ha3, ha4⟩ : at1 = .int ∧ ¬ ci < 0 ∧ ci.toNatClampNeg = na ∧ na ≤ 10000 := ax ha rfl
    subst ha1
    obtain ⟨x, r, e1, h⟩ := rz_pi_s h
    subst e1
    obtain ⟨hno, hx1, hcs, hsl, h5⟩ := rz_if_s h
    subst hx1
    have hno := (Bool.and_eq_true _ _).mp hno
    have hno2 := (Bool.and_eq_true _ _).mp hno.2
    refine va_newa (atype := .int) (ty := .int) (a0 := (na, .inl (fun _ => 0))) hx hb (hts _ rz_arrI) rfl hK hP hD.va hS hA (fun _ => rfl) ha2 ha3 (by show na * 4 ≤ 536870912; omega) (Nat.le_trans hcs hR.1) (Nat.le_trans hsl hR.2) hd (fun q cA H1 k0 k1 k2 k3 => ?_)
    have hcA : cA = cI := by
      have f1 := va_nm_int (k0.2 2 (cA, .int) rfl).2
      have f2 := va_nm_int (hK.2 0 (cI, .int) rfl).2
      rw [f1] at f2
      exact Option.some.inj f2
    subst hcA
    have ew := rz_noW_c (cI := cA) (cJ := cJ) (adr := adr) (q := q) hno2.2
    have e3 : rz_c cA cJ adr w ++ [(q, .inl (cA, (na, .inl (fun _ => 0))))] = rz_c cA cJ (rz_ad adr tg q) (w ++ [(tg, .inr (.inl (na, fun _ => 0)))]) := by
      unfold rz_c
      rw [List.map_append]
      have := ew.1
      unfold rz_c at this
      rw [this]
      show _ ++ [(q, _)] = _ ++ [(rz_ad adr tg q tg, _)]
      rw [rz_ad_s]
      rfl
    rw [e3] at k1 k2
    have e4 : (Value.ref q :: r.map (rz_v adr)) = (Value.ref tg :: r).map (rz_v (rz_ad adr tg q)) := by
      show Value.ref q :: r.map (rz_v adr) = Value.ref (rz_ad adr tg q tg) :: r.map (rz_v (rz_ad adr tg q))
      rw [rz_ad_s, rz_noL_v hno2.1]
    refine W.eq (g2 := F0 m (pc + 2) ls ((Value.ref tg :: r).map (rz_v (rz_ad adr tg q)))) (by rw [← e4]) ?_
    refine hKp _ _ _ _ _ _ h5 (rz_ad adr tg q) H1 locs ls ⟨k1, rz_D.of_va k2, k3, by rw [rz_noV_v hno.1]; exact hl, fun k hk9 => ?_, ?_, hcs, hsl⟩
    · have hkw : k ∈ w.map Prod.fst := by
        obtain ⟨ex, h1, -, -⟩ := hex
        rw [h1]
        exact List.mem_append_left _ hk9
      rw [rz_ad_n (fun z => ew.2 (by rw [← z]; exact hkw))]
      exact hk k hk9
    · obtain ⟨ex, h1, h2, h3⟩ := hex
      refine ⟨ex ++ [tg], by rw [List.map_append, h1, List.append_assoc]; rfl, by rw [List.length_append]; exact Nat.add_le_add_right h2 1, fun k hk8 => ?_⟩
      have hk7 : k ≠ tg := fun z => hk8 (List.mem_append_right _ (by rw [z]; exact List.mem_cons_self))
      rw [rz_ad_n hk7]
      exact h3 k (fun z => hk8 (List.mem_append_left _ z))
  | ireturn =>
    obtain ⟨hd, hn, ha⟩ := hrow
    have ha : ret = some (if bz then .boolean else .int) := ax ha rfl
    obtain ⟨x, r, e1, h⟩ := rz_pi_s h
    subst e1
    have fin : Q (some (.int x)) w → r = [] → narrow (if bz then .boolean else .int) (.int x) = .int x → W p l e R s m args below meth c H locs cs sl QQ (F0 m pc ls ((Value.int x :: r).map (rz_v adr))) := by
      intro hq hr1 hnr
      subst hr1
      obtain ⟨f1, f2⟩ := hfin adr lv w cs sl H locs ls _ hr0 hq
      exact W.widen hc1 hc2 (hQQ _ _ _ (W.zret hx hb (hr.trans ha) hnr f2 f1 hd hlocks))
    match r, bz, h with
    | [], false, h => exact fin h rfl rfl
    | [], true, h =>
      refine fin h.2 rfl ?_
      rcases h.1 with z | z <;> rw [z] <;> decide
  | lreturn =>
    obtain ⟨hd, hn, ha⟩ := hrow
    have ha : ret = some .long := ax ha rfl
    obtain ⟨x, r, e1, h⟩ := rz_pl_s h
    subst e1
    match r, h with
    | [], h =>
      obtain ⟨f1, f2⟩ := hfin adr lv w cs sl H locs ls _ hr0 h
      exact W.widen hc1 hc2 (hQQ _ _ _ (W.lret hx hb (hr.trans ha) f2 f1 hd hlocks))
  | return_ =>
    obtain ⟨hd, hn, ha⟩ := hrow
    have ha : ret = none := ax ha rfl
    match st, h with
    | [], h =>
      obtain ⟨f1, f2⟩ := hfin adr lv w cs sl H locs ls _ hr0 h
      exact W.widen hc1 hc2 (hQQ _ _ _ (W.vret hx hb (hr.trans ha) f2 f1 hd hlocks))
  | invokestatic ix =>
    obtain ⟨hd, hn, ha⟩ := hrow
    have hn : nx = pc + 3 := hn
    subst hn
    obtain ⟨ce, hq, h⟩ := rz_op_s h
    exact callk (hcal ix ce hq) hd h
  | invokevirtual ix =>
    obtain ⟨hd, hn, ha⟩ := hrow
    have hn : nx = pc + 3 := hn
    subst hn
    obtain ⟨ce, hq, h⟩ := rz_op_s h
    exact callk (hcav ix ce hq) hd h
  | _ => exact h.elim
end RZS
