/-! Methods that make cells and let them go. -/
theorem rz_no_adr {adr0 adr1 : Nat → Nat} {nk : List Nat} (h : ∀ k, k ∉ nk → adr1 k = adr0 k) {v : Value} (hv : ∀ k ∈ nk, rz_no1 k v = true) : rz_v adr1 v = rz_v adr0 v := by
  cases v with
  | ref a =>
    show Value.ref (adr1 a) = Value.ref (adr0 a)
    rw [h a (fun z => ?_)]
    have h1 : (!Nat.beq a a) = true := hv a z
    rw [show Nat.beq a a = true from Nat.beq_refl a] at h1
    cases h1
  | _ => rfl
theorem rz_noL_adr {adr0 adr1 : Nat → Nat} {nk : List Nat} (h : ∀ k, k ∉ nk → adr1 k = adr0 k) : ∀ {l : List Value}, (∀ k ∈ nk, rz_noL k l = true) → l.map (rz_v adr1) = l.map (rz_v adr0)
  | [], _ => rfl
  | v :: r, hv => by
    have h1 : ∀ k ∈ nk, rz_no1 k v = true := fun k hk => ((Bool.and_eq_true _ _).mp (show (rz_no1 k v && rz_noL k r) = true from hv k hk)).1
    have h2 : ∀ k ∈ nk, rz_noL k r = true := fun k hk => ((Bool.and_eq_true _ _).mp (show (rz_no1 k v && rz_noL k r) = true from hv k hk)).2
    show rz_v adr1 v :: r.map _ = rz_v adr0 v :: r.map _
    rw [rz_no_adr h h1, rz_noL_adr h h2]
theorem rz_noW_adr {cI cJ : ClassId} {adr0 adr1 : Nat → Nat} {nk : List Nat} (h : ∀ k, k ∉ nk → adr1 k = adr0 k) : ∀ {w : rz_W}, (∀ k ∈ nk, rz_noW k w = true) → rz_c cI cJ adr1 w = rz_c cI cJ adr0 w
  | [], _ => rfl
  | (i, .inl (ci, fs)) :: r, hw => by
    have hx : ∀ k ∈ nk, Nat.beq i k = false ∧ rz_noL k fs = true ∧ rz_noW k r = true := fun k hk => by
      have h1 := (Bool.and_eq_true _ _).mp (show (!Nat.beq i k && (rz_noL k fs && rz_noW k r)) = true from hw k hk)
      have h2 := (Bool.and_eq_true _ _).mp h1.2
      refine ⟨?_, h2.1, h2.2⟩
      have := h1.1; revert this; cases Nat.beq i k <;> simp
    have hi : adr1 i = adr0 i := h i (fun z => rz_nbeq (hx i z).1 rfl)
    show (adr1 i, rz_ei ci fs adr1) :: rz_c cI cJ adr1 r = (adr0 i, rz_ei ci fs adr0) :: rz_c cI cJ adr0 r
    rw [hi, rz_noW_adr h (fun k hk => (hx k hk).2.2)]
    unfold rz_ei
    rw [rz_noL_adr h (fun k hk => (hx k hk).2.1)]
  | (i, .inr x) :: r, hw => by
    have hx : ∀ k ∈ nk, Nat.beq i k = false ∧ rz_noW k r = true := fun k hk => by
      have h1 := (Bool.and_eq_true _ _).mp (show (!Nat.beq i k && rz_noW k r) = true from hw k hk)
      refine ⟨?_, h1.2⟩
      have := h1.1; revert this; cases Nat.beq i k <;> simp
    have hi : adr1 i = adr0 i := h i (fun z => rz_nbeq (hx i z).1 rfl)
    show (adr1 i, rz_e cI cJ adr1 (.inr x)) :: rz_c cI cJ adr1 r = (adr0 i, rz_e cI cJ adr0 (.inr x)) :: rz_c cI cJ adr0 r
    rw [hi, rz_noW_adr h (fun k hk => (hx k hk).2)]
    cases x <;> rfl
def rz_endA (nk : List Nat) (ce : rz_K) (av : List Value) (w : rz_W) : Option Value → rz_W → Prop := fun o w1 => (∃ j, w1.map Prod.fst = ce.2.1 ++ nk.take j) ∧ ∃ w', rz_sub w1 ce.2.1 = some w' ∧ (nk.all (fun k => rz_noW k w') = true) ∧ rz_kind ce.2.2.1 o ∧ (ce.2.2.2.1 = true → w' = w) ∧ ce.2.2.2.2.2 av w o w'
def rz_VCA (nk : List Nat) (RC RS : Nat) (cod : List (Nat × rz_I)) (fld : List (Nat × Nat × Nat × Bool)) (cal cav : List (Nat × rz_K)) (sw : List (Int32 × Nat)) (bz : Bool) (nL : Nat) (ce : rz_K) : Prop := ∀ (av : List Value) (w : rz_W), av.length = ce.1 → w.map Prod.fst = ce.2.1 → ce.2.2.2.2.1 av w →
  rz_words av ≤ nL ∧ ∃ (J : List (Nat × rz_J)) (N n0 : Nat), (∀ q ∈ J, ∀ k lv w', q.2.2 k lv w' → rz_run cod fld cal cav sw bz RC RS J (rz_endA nk ce av w) k N q.1 lv [] w' RC RS) ∧ rz_run cod fld cal cav sw bz RC RS J (rz_endA nk ce av w) n0 N 0 (rz_args 0 av) [] w 0 0
theorem rz_conA {l : Launch} {y : MethodName} {cc : ByteArray} {nL d RC RS : Nat} {nk : List Nat} {ret : Option FieldType} {bz : Bool} {cod : List (Nat × rz_I)} {fld : List (Nat × Nat × Nat × Bool)} {cal cav : List (Nat × rz_K)} {sw : List (Int32 × Nat)} {ce : rz_K}
    (hy : plainFor y = true) (hfld : rz_Fld y.cls fld) (hcal : ∀ q ∈ cal, rz_CallOK l (rz_room d RC RS) y.cls cc (.invokestatic q.1) q.2) (hcav : ∀ q ∈ cav, rz_CallOK l (rz_room d RC RS) y.cls cc (.invokevirtual q.1) q.2)
    (hrows : ∀ q ∈ cod, rz_row y.cls cc nL ret bz sw q.1 q.2) (hvc : rz_VCA nk RC RS cod fld cal cav sw bz nL ce) : rz_Con l y cc nL ret d RC RS ce := by
  intro D cI cJ adr sz av w hav hkeys hpre
  refine rz_ofW (cc := cc) (maxL := nL) (ret := ret) hy rfl ?_
  intro p e s m args below meth c s₁ B hml hv
  obtain ⟨hargs, hsz, hP, hK, hD0, hnw⟩ := hv
  subst hargs
  have hts0 := atoms_spec (ws := .code y cc nL ret :: bw) B.pre
  have hts : ∀ w ∈ bw, w.before (av.map (rz_v adr)).toArray s = true := fun w hw => hts0 w (List.mem_cons_of_mem _ hw)
  have hown : s.vm.findClass y.cls = some m.cls := findClass_of_methodNamed B.named
  subst hsz
  have hD := hD0.self (sz := s.heap.size)
  obtain ⟨hwd, J, N, n0, hJ, h0⟩ := hvc av w hav hkeys hpre
  have hl := lv_entry (av.map (rz_v adr)) (n := nL) (by rw [rz_sl_len]; exact hwd)
  rw [lg_entry_eq]
  rw [rz_args_l] at hl
  have hA : ∀ q : Nat, s.heap.size ≤ q → va_A (rz_c cI cJ adr w) s.heap.size q := fun q h => Or.inr h
  have hR : RC ≤ (rz_room d RC RS).cells ∧ RS ≤ (rz_room d RC RS).slots := ⟨Nat.le_refl _, Nat.le_refl _⟩
  have hfin : ∀ (adr1 : Nat → Nat) (lv : rz_L) (w1 : rz_W) (cs sl : Nat) (H : Heap) (locs : List Loc) (ls : Array Slot) (o : Option Value), rz_Rel D cI cJ (va_A (rz_c cI cJ adr w) s.heap.size) s nL ce.2.1 RC RS adr adr1 lv w1 cs sl H locs ls → rz_endA nk ce av w o w1 → (∀ q ∈ locs, va_A (rz_c cI cJ adr w) s.heap.size q.base) ∧ ∀ t : State, t.heap = H → s.WarmedH t.vm → rz_Qc ce D cI cJ adr av w (va_A (rz_c cI cJ adr w) s.heap.size) (av.map (rz_v adr)).toArray s (.returned o) t := by
    intro adr1 lv w1 cs sl H locs ls o hrel hq
    obtain ⟨g1, g2, g3, g4, g5, ⟨ex, g6, g7, g10⟩, g8, g9⟩ := hrel
    obtain ⟨⟨j, q0⟩, w', q1, q2, q3, q4, q5⟩ := hq
    obtain ⟨k1, k2⟩ := rz_sub_keys q1
    refine ⟨g3.2.2, fun t ht hW => ⟨⟨o, w', rfl, q3, k1, q4, q5, ?_⟩, g3.F ht⟩⟩
    rw [ht]
    have hex : ex = nk.take j := by
      rw [g6] at q0
      exact List.append_cancel_left q0
    have hadr : rz_c cI cJ adr1 w' = rz_c cI cJ adr w' := rz_noW_adr (nk := nk) (fun k hk => g10 k (fun z => hk (List.mem_of_mem_take (by rw [← hex]; exact z)))) (fun k hk => List.all_eq_true.mp q2 k hk)
    rw [← hadr]
    exact rz_P_iff.mpr (fun q hq => rz_P_iff.mp g1 q (k2 q hq))
  have hG := rz_run_sound (own := y.cls) (ret := ret) (adr0 := adr) (ks := ce.2.1) (R := rz_room d RC RS) (e := e) (below := below) (free := va_A (rz_c cI cJ adr w) s.heap.size) B.exec B.bytes B.notSynchronized hml hown hts hnw hK hA hR B.returns (hfld s _ hts hnw) (fun ix ce9 h9 => hcal (ix, ce9) (rz_get_mem h9)) (fun ix ce9 h9 => hcav (ix, ce9) (rz_get_mem h9)) hfin (fun _ _ _ h => h) hrows (n0 := n0)
    (fun k _ pc j hj lv w9 hjk => rz_loops (own := y.cls) (ret := ret) (adr0 := adr) (ks := ce.2.1) (R := rz_room d RC RS) (e := e) (below := below) B.exec B.bytes B.notSynchronized hml hown hts hnw hK hA hR B.returns (hfld s _ hts hnw) (fun ix ce9 h9 => hcal (ix, ce9) (rz_get_mem h9)) (fun ix ce9 h9 => hcav (ix, ce9) (rz_get_mem h9)) hfin (fun _ _ _ h => h) hrows hJ k pc j hj lv w9 hjk) N 0 (rz_args 0 av) [] w 0 0 h0
  exact hG adr s.heap [] _ ⟨hP, rz_D.of_va hD, va_S.rf, hl, fun _ _ => rfl, ⟨[], by rw [hkeys, List.append_nil], Nat.zero_le _, fun _ _ => rfl⟩, Nat.zero_le _, Nat.zero_le _⟩
