/-! Calls by contract; rows and fields by program. -/
theorem rz_blind {D : va_G} {cI cJ : ClassId} {adr : Nat → Nat} {sz : Nat} {av : List Value} {w : rz_W} : FrameBlind (rz_Pre D cI cJ adr sz av w) := fun a U g mk h => by
  obtain ⟨h1, h2, h3, h4, h5, h6⟩ := h
  exact ⟨h1, h2, h3, va_K.moved (u := U) (U := U.calling g mk a) (Vm.Alike.refl U.vm) h4, h5, rz_NW.same (u := U) (U := U.calling g mk a) rfl h6⟩
theorem rz_gcode {y : MethodName} {cc : ByteArray} {nL : Nat} {ret : Option FieldType} (h : Cond.code y cc nL ret ∈ bw) : GoodIn bw (.code y cc nL ret :: bw) := fun w hw => by
  rcases List.mem_cons.mp hw with z | z
  · rw [z]; exact ⟨h, Or.inl rfl⟩
  · exact bw_self w z
/-- a method's own words -/
def rz_MW (y : MethodName) (cc : ByteArray) (nL : Nat) (ret : Option FieldType) (n : Nat) : Prop := Cond.code y cc nL ret ∈ bw ∧ Cond.initialized y.cls ∈ bw ∧ y.cls ≠ "java/lang/invoke/MethodHandle" ∧ y.cls ≠ "java/lang/invoke/VarHandle" ∧ (parseMethodDescriptor y.desc).map (fun d => d.parameters.length) = some n
theorem rz_callS {l : Launch} {R : Room} {own : String} {cc cc' : ByteArray} {ix nL' d' : Nat} {y : MethodName} {ret' : Option FieldType} {ce : rz_K} (hcon : rz_Con l y cc' nL' ret' d' 0 0 ce) (hnd : ce.2.1.Nodup) (hR : d' + 1 ≤ R.frames ∧ 8 + (nL' + 11) + 40 * d' ≤ R.locals)
    (hm : rz_MW y cc' nL' ret' ce.1) (hst : Cond.static y ∈ bw) (hl : Cond.methodLink own ix y ∈ bw) : rz_CallOK l R own cc (.invokestatic ix) ce := by
  refine ⟨hnd, fun p e s m args below meth c H locs cs sl pc ls nL D cI cJ adr av rest w h1 h2 hx hb hml hown hts hnw hK hdg hsz hlen hrest hP hD hkeys hpre => ⟨_, va_runS ⟨hx, hb, hml, hown, hts⟩ (hcon D cI cJ adr H.size av w hlen hkeys hpre) ⟨callB_of ce.1 hts (rz_gcode hm.1) rfl rfl rfl (hts _ hm.2.1) (hts _ hl) hm.2.2 hR, hts _ hst⟩ ⟨rz_blind, fun U hU hW => ⟨rfl, by rw [hU], by rw [hU]; exact hP, va_K.moved hW.alike hK, hD, hnw.warm hW⟩⟩ rfl (by rw [List.length_map]; exact hlen) hsz rfl (lv_room hrest) hdg ⟨h1, h2⟩⟩⟩
theorem rz_callSN {l : Launch} {R : Room} {own : String} {cc cc' : ByteArray} {ix nL' d' : Nat} {y : MethodName} {ret' : Option FieldType} {ce : rz_K} (hcon : rz_Con l y cc' nL' ret' d' 0 0 ce) (hnd : ce.2.1.Nodup) (hR : d' + 1 ≤ R.frames ∧ 8 + (nL' + 11) + 40 * d' ≤ R.locals)
    (hm : rz_MW y cc' nL' ret' ce.1) (hst : Cond.static y ∈ bw) (hl : Cond.methodLinkNest own ix y "CoastWatch" ∈ tables_1) : rz_CallOK l R own cc (.invokestatic ix) ce := by
  refine ⟨hnd, fun p e s m args below meth c H locs cs sl pc ls nL D cI cJ adr av rest w h1 h2 hx hb hml hown hts hnw hK hdg hsz hlen hrest hP hD hkeys hpre => ⟨_, va_runSN ⟨hx, hb, hml, hown, hts⟩ (hcon D cI cJ adr H.size av w hlen hkeys hpre) ⟨va_cnB ce.1 hts (rz_gcode hm.1) rfl rfl rfl (hnw _ hl rfl) (hts _ hm.2.1) hm.2.2 hR, hts _ hst, trivial⟩ ⟨rz_blind, fun U hU hW => ⟨rfl, by rw [hU], by rw [hU]; exact hP, va_K.moved hW.alike hK, hD, hnw.warm hW⟩⟩ rfl (by rw [List.length_map]; exact hlen) hsz rfl (lv_room hrest) hdg ⟨h1, h2⟩⟩⟩
/-- the receiver: the first argument is an object of the method's class -/
def rz_Rv (C : String) (ce : rz_K) : Prop := ∀ (av : List Value) (w : rz_W), ce.2.2.2.2.1 av w → ∃ (k : Nat) (av' : List Value) (ci : Nat) (fs : List Value) (T : u_T) (N : Nat), av = .ref k :: av' ∧ rz_get w k = some (.inl (ci, fs)) ∧ vwCl[ci]? = some (C, T, N)
theorem rz_callV {l : Launch} {R : Room} {own : String} {cc cc' : ByteArray} {ix n nL' d' : Nat} {y : MethodName} {ret' : Option FieldType} {ce : rz_K} (hcon : rz_Con l y cc' nL' ret' d' 0 0 ce) (hnd : ce.2.1.Nodup) (hR : d' + 1 ≤ R.frames ∧ 8 + (nL' + 11) + 40 * d' ≤ R.locals)
    (hm : rz_MW y cc' nL' ret' n) (hn : ce.1 = n + 1) (hin : Cond.instanceMethod y ∈ bw) (hsel : Cond.selects y.cls y y ∈ bw) (hrv : rz_Rv y.cls ce) (hl : Cond.methodLink own ix y ∈ bw) : rz_CallOK l R own cc (.invokevirtual ix) ce := by
  refine ⟨hnd, fun p e s m args below meth c H locs cs sl pc ls nL D cI cJ adr av rest w h1 h2 hx hb hml hown hts hnw hK hdg hsz hlen hrest hP hD hkeys hpre => ?_⟩
  obtain ⟨k, av', ci, fs, T, N, e1, e2, e3⟩ := hrv av w hpre
  subst e1
  have hlen2 : av'.length = n := by rw [hn] at hlen; exact Nat.succ.inj hlen
  refine ⟨_, va_runV (As := av'.map (rz_v adr)) (b := adr k) ⟨hx, hb, hml, hown, hts⟩ (hcon D cI cJ adr H.size _ w hlen hkeys hpre) ⟨callB_of n hts (rz_gcode hm.1) rfl rfl rfl (hts _ hm.2.1) (hts _ hl) hm.2.2 hR, hts _ hin, hts _ hsel⟩ ⟨rz_blind, va_recv hK hP e3 (rz_get_pos e2), fun U hU hW => ⟨rfl, by rw [hU], by rw [hU]; exact hP, va_K.moved hW.alike hK, hD, hnw.warm hW⟩⟩ rfl (by rw [List.length_map]; exact hlen2) hsz (by simp [rz_v]) (lv_room hrest) hdg ⟨h1, h2⟩⟩
theorem rz_callVN {l : Launch} {R : Room} {own : String} {cc cc' : ByteArray} {ix n nL' d' : Nat} {y : MethodName} {ret' : Option FieldType} {ce : rz_K} (hcon : rz_Con l y cc' nL' ret' d' 0 0 ce) (hnd : ce.2.1.Nodup) (hR : d' + 1 ≤ R.frames ∧ 8 + (nL' + 11) + 40 * d' ≤ R.locals)
    (hm : rz_MW y cc' nL' ret' n) (hn : ce.1 = n + 1) (hin : Cond.instanceMethod y ∈ bw) (hsel : Cond.selects y.cls y y ∈ bw) (hrv : rz_Rv y.cls ce) (hl : Cond.methodLinkNest own ix y "CoastWatch" ∈ tables_1) : rz_CallOK l R own cc (.invokevirtual ix) ce := by
  refine ⟨hnd, fun p e s m args below meth c H locs cs sl pc ls nL D cI cJ adr av rest w h1 h2 hx hb hml hown hts hnw hK hdg hsz hlen hrest hP hD hkeys hpre => ?_⟩
  obtain ⟨k, av', ci, fs, T, N, e1, e2, e3⟩ := hrv av w hpre
  subst e1
  have hlen2 : av'.length = n := by rw [hn] at hlen; exact Nat.succ.inj hlen
  refine ⟨_, va_runVN (As := av'.map (rz_v adr)) (b := adr k) ⟨hx, hb, hml, hown, hts⟩ (hcon D cI cJ adr H.size _ w hlen hkeys hpre) ⟨va_cnB n hts (rz_gcode hm.1) rfl rfl rfl (hnw _ hl rfl) (hts _ hm.2.1) hm.2.2 hR, hts _ hin, hts _ hsel⟩ ⟨rz_blind, va_recv hK hP e3 (rz_get_pos e2), fun U hU hW => ⟨rfl, by rw [hU], by rw [hU]; exact hP, va_K.moved hW.alike hK, hD, hnw.warm hW⟩⟩ rfl (by rw [List.length_map]; exact hlen2) hsz (by simp [rz_v]) (lv_room hrest) hdg ⟨h1, h2⟩⟩
def rz_rowb (own : String) (cc : ByteArray) (nL : Nat) (ret : Option FieldType) (bz : Bool) (sw : List (Int32 × Nat)) (pc : Nat) (q : rz_I) : Bool := match q.1 with
  | .tableswitch d lo hi offs => decide (decode cc pc = .ok (.tableswitch d lo hi offs, q.2.1 - pc)) && decide ((pc : Int) + d = (q.2.2.1 : Int)) && decide (lo + sw.length = hi + 1) && (List.range sw.length).all (fun j => match sw[j]?, offs[j]? with
    | some (v, t), some off => decide (v.toInt = lo + j ∧ (pc : Int) + off = (t : Int))
    | _, _ => false)
  | i => decide (decode cc pc = .ok (i, rz_len i)) && decide (q.2.1 = pc + rz_len i) && rz_aux own nL ret bz i pc q.2.2.1 q.2.2.2.1 q.2.2.2.2.1 q.2.2.2.2.2
theorem rz_rowb_ok {own : String} {cc : ByteArray} {nL : Nat} {ret : Option FieldType} {bz : Bool} {sw : List (Int32 × Nat)} {pc : Nat} {q : rz_I} (h : rz_rowb own cc nL ret bz sw pc q = true) : rz_row own cc nL ret bz sw pc q := by
  obtain ⟨i, nx, tg, na, ci, cl⟩ := q
  cases i with
  | tableswitch d lo hi offs =>
    have h := (Bool.and_eq_true _ _).mp h
    have h1 := (Bool.and_eq_true _ _).mp h.1
    have h2 := (Bool.and_eq_true _ _).mp h1.1
    exact ⟨⟨_, of_decide_eq_true h2.1⟩, of_decide_eq_true h2.2, of_decide_eq_true h1.2, h.2⟩
  | _ =>
    have h := (Bool.and_eq_true _ _).mp h
    have h1 := (Bool.and_eq_true _ _).mp h.1
    exact ⟨of_decide_eq_true h1.1, of_decide_eq_true h1.2, h.2⟩
theorem rz_rows {own : String} {cc : ByteArray} {nL : Nat} {ret : Option FieldType} {bz : Bool} {sw : List (Int32 × Nat)} {cod : List (Nat × rz_I)} (h : cod.all (fun q => rz_rowb own cc nL ret bz sw q.1 q.2) = true) : ∀ q ∈ cod, rz_row own cc nL ret bz sw q.1 q.2 := fun q hq => rz_rowb_ok (List.all_eq_true.mp h q hq)
def rz_fchk (own : String) (z : (Nat × Nat × Nat × Bool) × Nat) : Bool := match vwCl[z.1.2.1]? with
  | some (_, T, N) => decide (z.1.2.2.1 < N) && (decide (tables_1[z.2]? = some (.fieldLink own z.1.1 (T z.1.2.2.1).1 (T z.1.2.2.1).2.1 (T z.1.2.2.1).2.2.1)) || decide (tables_1[z.2]? = some (.fieldLinkNest own z.1.1 (T z.1.2.2.1).1 (T z.1.2.2.1).2.1 (T z.1.2.2.1).2.2.1 "CoastWatch"))) && (!z.1.2.2.2 || (decide ((T z.1.2.2.1).2.2.2 = false) && decide (parseFieldDescriptor (T z.1.2.2.1).2.2.1 = some .int)))
  | none => false
def rz_Cls : Prop := ∀ (ci : Nat) (C : String) (T : u_T) (N : Nat), vwCl[ci]? = some (C, T, N) → (∀ w ∈ u_ws C T N, w ∈ bw) ∧ (∃ ty : Nat → FieldType, ∀ k, k < N → parseFieldDescriptor (T k).2.2.1 = some (ty k)) ∧ ∀ a, a < N → ∀ b, b < N → a ≠ b → (T a).2.1 ≠ (T b).2.1
theorem rz_fldOf (hcls : rz_Cls) {own : String} {fld : List (Nat × Nat × Nat × Bool)} (hints : List Nat) (hlen : hints.length = fld.length) (h : (fld.zip hints).all (rz_fchk own) = true) : rz_Fld own fld := by
  intro s args hts hnw ix q hq
  have hm := rz_get_mem hq
  obtain ⟨j, hj⟩ := List.getElem?_of_mem hm
  have hjl : j < fld.length := (List.getElem?_eq_some_iff.mp hj).1
  have hz : ((ix, q), hints[j]'(by omega)) ∈ fld.zip hints := by
    refine List.mem_of_getElem? (i := j) ?_
    rw [List.getElem?_zip_eq_some]
    exact ⟨hj, List.getElem?_eq_getElem (by omega)⟩
  have h1 := List.all_eq_true.mp h _ hz
  unfold rz_fchk at h1
  split at h1
  · rename_i C T N hv
    have h2 := (Bool.and_eq_true _ _).mp h1
    have h3 := (Bool.and_eq_true _ _).mp h2.1
    obtain ⟨c1, c2, c3⟩ := hcls q.1 C T N hv
    refine ⟨C, T, N, hv, c1, of_decide_eq_true h3.1, ?_, c2, c3, fun hb => ?_⟩
    · rcases (Bool.or_eq_true _ _).mp h3.2 with z | z
      · exact Or.inl (hts _ (bw_t _ (of_decide_eq_true z) rfl))
      · exact Or.inr (va_Nw.use rfl (hnw _ (List.mem_of_getElem? (of_decide_eq_true z)) rfl))
    · have h4 := h2.2
      rw [hb] at h4
      have h5 := (Bool.and_eq_true _ _).mp (show (decide ((T q.2.1).2.2.2 = false) && decide (parseFieldDescriptor (T q.2.1).2.2.1 = some .int)) = true from h4)
      exact ⟨of_decide_eq_true h5.1, of_decide_eq_true h5.2⟩
  · cases h1
