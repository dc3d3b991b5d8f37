/-! Calls by contract; rows and fields by program. -/
theorem rz_blind {D : va_G} {cI cJ : ClassId} {adr : Nat → Nat} {sz : Nat} {av : List Value} {w : rz_W} : FrameBlind (rz_Pre D cI cJ adr sz av w) := fun a U g mk h => by
  obtain ⟨h1, h2, h3, h4, h5, h6⟩ := h
  exact ⟨h1, h2, h3, va_K.moved (u := U) (U := U.calling g mk a) (Vm.Alike.refl U.vm) h4, h5, rz_NW.same (u := U) (U := U.calling g mk a) rfl h6⟩
theorem rz_gcode {y : MethodName} {cc : ByteArray} {nL : Nat} {ret : Option FieldType} (h : Cond.code y cc nL ret ∈ bw) : GoodIn bw (.code y cc nL ret :: bw) := fun w hw => by
  rcases List.mem_cons.mp hw with z | z
  · rw [z]; exact ⟨h, Or.inl rfl⟩
  · exact bw_self w z
theorem rz_callS {l : Launch} {R : Room} {own : String} {cc cc' : ByteArray} {ix nL' d' : Nat} {y : MethodName} {ret' : Option FieldType} {ce : rz_K} (hcon : rz_Con l y cc' nL' ret' d' 0 0 ce) (hnd : ce.2.1.Nodup) (hR : d' + 1 ≤ R.frames ∧ 8 + (nL' + 11) + 40 * d' ≤ R.locals)
    (hm : rz_MW y cc' nL' ret' ce.1) (hst : Cond.static y ∈ bw) (hl : Cond.methodLink own ix y ∈ bw) : rz_CallOK l R own cc (.invokestatic ix) ce := by
  refine ⟨hnd, fun p e s m args below meth c H locs cs sl pc ls nL D cI cJ adr av rest w h1 h2 hx hb hml hown hts hnw hK hdg hsz hlen hrest hP hD hkeys hpre => ⟨_, va_runS ⟨hx, hb, hml, hown, hts⟩ (hcon D cI cJ adr H.size av w hlen hkeys hpre) ⟨callB_of ce.1 hts (rz_gcode hm.1) rfl rfl rfl (hts _ hm.2.1) (hts _ hl) hm.2.2 hR, hts _ hst⟩ ⟨rz_blind, fun U hU hW => ⟨rfl, by rw [hU], by rw [hU]; exact hP, va_K.moved hW.alike hK, hD, hnw.warm hW⟩⟩ rfl (by rw [List.length_map]; exact hlen) hsz rfl (lv_room hrest) hdg ⟨h1, h2⟩⟩⟩
theorem rz_callSN {l : Launch} {R : Room} {own : String} {cc cc' : ByteArray} {ix nL' d' : Nat} {y : MethodName} {ret' : Option FieldType} {ce : rz_K} (hcon : rz_Con l y cc' nL' ret' d' 0 0 ce) (hnd : ce.2.1.Nodup) (hR : d' + 1 ≤ R.frames ∧ 8 + (nL' + 11) + 40 * d' ≤ R.locals)
    (hm : rz_MW y cc' nL' ret' ce.1) (hst : Cond.static y ∈ bw) (hl : Cond.methodLinkNest own ix y "CoastWatch" ∈ tables_1) : rz_CallOK l R own cc (.invokestatic ix) ce := by
  refine ⟨hnd, fun p e s m args below meth c H locs cs sl pc ls nL D cI cJ adr av rest w h1 h2 hx hb hml hown hts hnw hK hdg hsz hlen hrest hP hD hkeys hpre => ⟨_, va_runSN ⟨hx, hb, hml, hown, hts⟩ (hcon D cI cJ adr H.size av w hlen hkeys hpre) ⟨va_cnB ce.1 hts (rz_gcode hm.1) rfl rfl rfl (hnw _ hl rfl) (hts _ hm.2.1) hm.2.2 hR, hts _ hst, trivial⟩ ⟨rz_blind, fun U hU hW => ⟨rfl, by rw [hU], by rw [hU]; exact hP, va_K.moved hW.alike hK, hD, hnw.warm hW⟩⟩ rfl (by rw [List.length_map]; exact hlen) hsz rfl (lv_room hrest) hdg ⟨h1, h2⟩⟩⟩
/-- the receiver: the first argument is an object of the method's class -/
def rz_Rv (C : String) (ce : rz_K) : Prop := ∀ (av : List Value) (w : rz_W), ce.2.2.2.2.1 av w → ∃ (k : Nat) (av' : List Value) (ci : Nat) (fs : List Value) (T : u_T) (N : Nat), av = .ref k :: av' ∧ rz_get w k = some (.inl (ci, fs)) ∧ vwCl[ci]? = some (C, T, N)
theorem rz_callV {l : Launch} {R : Room} {own : String} {cc cc' : ByteArray} {ix n nL' d' : Nat} {y : MethodName} {ret' : Option FieldType} {ce : rz_K} (hcon : rz_Con l y cc' nL' ret' d' 0 0 ce) (hnd : ce.2.1.Nodup) (hR : d' + 1 ≤ R.frames ∧ 8 + (nL' + 11) + 40 * d' ≤ R.locals)
    (hm : rz_MW y cc' nL' ret' n) (hn : ce.1 = n + 1) (hin : Cond.instanceMethod y ∈ bw) (hsel : Cond.selects y.cls y y ∈ bw) (hrv : rz_Rv y.cls ce) (hl : Cond.methodLink own ix y ∈ bw) : rz_CallOK l R own cc (.invokevirtual ix) ce := by
  refine ⟨hnd, fun p e s m args below meth c H locs cs sl pc ls nL D cI cJ adr av rest w h1 h2 hx hb hml hown hts hnw hK hdg hsz hlen hrest hP hD hkeys hpre => ?_⟩
  obtain ⟨k, av', ci, fs, T, N, e1, e2, e3⟩ := hrv av w hpre
  subst e1
  have hlen2 : av'.length = n := by rw [hn] at hlen; exact Nat.succ.inj hlen
  refine ⟨_, va_runV (As := av'.map (rz_v adr)) (b := adr k) ⟨hx, hb, hml, hown, hts⟩ (hcon D cI cJ adr H.size _ w hlen hkeys hpre) ⟨callB_of n hts (rz_gcode hm.1) rfl rfl rfl (hts _ hm.2.1) (hts _ hl) hm.2.2 hR, hts _ hin, hts _ hsel⟩ ⟨rz_blind, va_recv hK hP e3 (rz_get_pos e2), fun U hU hW => ⟨rfl, by rw [hU], by rw [hU]; exact hP, va_K.moved hW.alike hK, hD, hnw.warm hW⟩⟩ rfl (by rw [List.length_map]; exact hlen2) hsz (by simp [rz_v]) (lv_room hrest) hdg ⟨h1, h2⟩⟩
theorem rz_callVN {l : Launch} {R : Room} {own : String} {cc cc' : ByteArray} {ix n nL' d' : Nat} {y : MethodName} {ret' : Option FieldType} {ce : rz_K} (hcon : rz_Con l y cc' nL' ret' d' 0 0 ce) (hnd : ce.2.1.Nodup) (hR : d' + 1 ≤ R.frames ∧ 8 + (nL' + 11) + 40 * d' ≤ R.locals)
    (hm : rz_MW y cc' nL' ret' n) (hn : ce.1 = n + 1) (hin : Cond.instanceMethod y ∈ bw) (hsel : Cond.selects y.cls y y ∈ bw) (hrv : rz_Rv y.cls ce) (hl : Cond.methodLinkNest own ix y "CoastWatch" ∈ tables_1) : rz_CallOK l R own cc (.invokevirtual ix) ce := by
  refine ⟨hnd, fun p e s m args below meth c H locs cs sl pc ls nL D cI cJ adr av rest w h1 h2 hx hb hml hown hts hnw hK hdg hsz hlen hrest hP hD hkeys hpre => ?_⟩
  obtain ⟨k, av', ci, fs, T, N, e1, e2, e3⟩ := hrv av w hpre
  subst e1
  have hlen2 : av'.length = n := by rw [hn] at hlen; exact Nat.succ.inj hlen
  refine ⟨_, va_runVN (As := av'.map (rz_v adr)) (b := adr k) ⟨hx, hb, hml, hown, hts⟩ (hcon D cI cJ adr H.size _ w hlen hkeys hpre) ⟨va_cnB n hts (rz_gcode hm.1) rfl rfl rfl (hnw _ hl rfl) (hts _ hm.2.1) hm.2.2 hR, hts _ hin, hts _ hsel⟩ ⟨rz_blind, va_recv hK hP e3 (rz_get_pos e2), fun U hU hW => ⟨rfl, by rw [hU], by rw [hU]; exact hP, va_K.moved hW.alike hK, hD, hnw.warm hW⟩⟩ rfl (by rw [List.length_map]; exact hlen2) hsz (by simp [rz_v]) (lv_room hrest) hdg ⟨h1, h2⟩⟩
