/-! Rows and fields by program. -/
/-- the fields that a class's methods name by pool numbers -/
def rz_Fld (own : String) (fld : List (Nat × Nat × Nat × Bool)) : Prop := ∀ (s : State) (args : Array Value), (∀ w ∈ bw, w.before args s = true) → rz_NW s → ∀ ix q, rz_get fld ix = some q → rz_FOK own s args ix q
/-- a method's own words -/
def rz_MW (y : MethodName) (cc : ByteArray) (nL : Nat) (ret : Option FieldType) (n : Nat) : Prop := Cond.code y cc nL ret ∈ bw ∧ Cond.initialized y.cls ∈ bw ∧ y.cls ≠ "java/lang/invoke/MethodHandle" ∧ y.cls ≠ "java/lang/invoke/VarHandle" ∧ (parseMethodDescriptor y.desc).map (fun d => d.parameters.length) = some n
def rz_rowb (own : String) (cc : ByteArray) (nL : Nat) (ret : Option FieldType) (bz : Bool) (sw : List (Int32 × Nat)) (pc : Nat) (q : rz_I) : Bool := match q.1 with
  | .tableswitch d lo hi offs => decide (decode cc pc = .ok (.tableswitch d lo hi offs, q.2.1 - pc)) && decide ((pc : Int) + d = (q.2.2.1 : Int)) && decide (lo + sw.length = hi + 1) && (List.range sw.length).all (fun j => match sw[j]?, offs[j]? with
    | some (v, t), some off => decide (v.toInt = lo + j ∧ (pc : Int) + off = (t : Int))
    | _, _ => false)
  | i => decide (decode cc pc = .ok (i, rz_len i)) && decide (q.2.1 = pc + rz_len i) && rz_aux own nL ret bz i pc q.2.2.1 q.2.2.2.1 q.2.2.2.2.1 q.2.2.2.2.2
theorem rz_rowb_ok {own : String} {cc : ByteArray} {nL : Nat} {ret : Option FieldType} {bz : Bool} {sw : List (Int32 × Nat)} {pc : Nat} {q : rz_I} (h : rz_rowb own cc nL ret bz sw pc q = true) : rz_row own cc nL ret bz sw pc q := by
  obtain ⟨i, nx, tg, na, ci, cl⟩ := q
  cases i with
  | tableswitch d lo hi offs =>
    have h := (Bool.and_eq_true _ _).mp h
    have h1 := (Bool.and_eq_true _ _).mp h.1
    have h2 := (Bool.and_eq_true _ _).mp h1.1
    exact ⟨⟨_, of_decide_eq_true h2.1⟩, of_decide_eq_true h2.2, of_decide_eq_true h1.2, h.2⟩
  | _ =>
    have h := (Bool.and_eq_true _ _).mp h
    have h1 := (Bool.and_eq_true _ _).mp h.1
    exact ⟨of_decide_eq_true h1.1, of_decide_eq_true h1.2, h.2⟩
theorem rz_rows {own : String} {cc : ByteArray} {nL : Nat} {ret : Option FieldType} {bz : Bool} {sw : List (Int32 × Nat)} {cod : List (Nat × rz_I)} (h : cod.all (fun q => rz_rowb own cc nL ret bz sw q.1 q.2) = true) : ∀ q ∈ cod, rz_row own cc nL ret bz sw q.1 q.2 := fun q hq => rz_rowb_ok (List.all_eq_true.mp h q hq)
def rz_fchk (own : String) (z : (Nat × Nat × Nat × Bool) × Nat) : Bool := match vwCl[z.1.2.1]? with
  | some (_, T, N) => decide (z.1.2.2.1 < N) && (decide (tables_1[z.2]? = some (.fieldLink own z.1.1 (T z.1.2.2.1).1 (T z.1.2.2.1).2.1 (T z.1.2.2.1).2.2.1)) || decide (tables_1[z.2]? = some (.fieldLinkNest own z.1.1 (T z.1.2.2.1).1 (T z.1.2.2.1).2.1 (T z.1.2.2.1).2.2.1 "CoastWatch"))) && (!z.1.2.2.2 || (decide ((T z.1.2.2.1).2.2.2 = false) && decide (parseFieldDescriptor (T z.1.2.2.1).2.2.1 = some .int)))
  | none => false
def rz_Cls : Prop := ∀ (ci : Nat) (C : String) (T : u_T) (N : Nat), vwCl[ci]? = some (C, T, N) → (∀ w ∈ u_ws C T N, w ∈ bw) ∧ (∃ ty : Nat → FieldType, ∀ k, k < N → parseFieldDescriptor (T k).2.2.1 = some (ty k)) ∧ ∀ a, a < N → ∀ b, b < N → a ≠ b → (T a).2.1 ≠ (T b).2.1
theorem rz_fldOf (hcls : rz_Cls) {own : String} {fld : List (Nat × Nat × Nat × Bool)} (hints : List Nat) (hlen : hints.length = fld.length) (h : (fld.zip hints).all (rz_fchk own) = true) : rz_Fld own fld := by
  intro s args hts hnw ix q hq
  have hm := rz_get_mem hq
  obtain ⟨j, hj⟩ := List.getElem?_of_mem hm
  have hjl : j < fld.length := (List.getElem?_eq_some_iff.mp hj).1
  have hz : ((ix, q), hints[j]'(by omega)) ∈ fld.zip hints := by
    refine List.mem_of_getElem? (i := j) ?_
    rw [List.getElem?_zip_eq_some]
    exact ⟨hj, List.getElem?_eq_getElem (by omega)⟩
  have h1 := List.all_eq_true.mp h _ hz
  unfold rz_fchk at h1
  split at h1
  · rename_i C T N hv
    have h2 := (Bool.and_eq_true _ _).mp h1
    have h3 := (Bool.and_eq_true _ _).mp h2.1
    obtain ⟨c1, c2, c3⟩ := hcls q.1 C T N hv
    refine ⟨C, T, N, hv, c1, of_decide_eq_true h3.1, ?_, c2, c3, fun hb => ?_⟩
    · rcases (Bool.or_eq_true _ _).mp h3.2 with z | z
      · exact Or.inl (hts _ (bw_t _ (of_decide_eq_true z) rfl))
      · exact Or.inr (va_Nw.use rfl (hnw _ (List.mem_of_getElem? (of_decide_eq_true z)) rfl))
    · have h4 := h2.2
      rw [hb] at h4
      have h5 := (Bool.and_eq_true _ _).mp (show (decide ((T q.2.1).2.2.2 = false) && decide (parseFieldDescriptor (T q.2.1).2.2.1 = some .int)) = true from h4)
      exact ⟨of_decide_eq_true h5.1, of_decide_eq_true h5.2⟩
  · cases h1
