/-! The words that every contract takes: all good words of the tables; and the nest's links, which ride in the premises. -/
def bw : List Cond := lw_tbl.filter goodWord
theorem bw_good : GoodIn lw_tbl bw := fun w h => ⟨(List.mem_filter.mp h).1, good_of_word (List.mem_filter.mp h).2⟩
theorem bw_self : GoodIn bw bw := fun w h => ⟨h, good_of_word (List.mem_filter.mp h).2⟩
theorem bw_t {w : Cond} (i : Nat) (h : tables_1[i]? = some w) (hg : goodWord w = true) : w ∈ bw := List.mem_filter.mpr ⟨List.mem_append_right _ (List.mem_of_getElem? h), hg⟩
theorem bw_p {w : Cond} (i : Nat) (h : (k2_sels lw_privs)[i]? = some w) (hg : goodWord w = true) : w ∈ bw := List.mem_filter.mpr ⟨List.mem_append_left _ (List.mem_of_getElem? h), hg⟩
theorem bw_ts (ws : List Cond) (ps : List Nat) (h : ws = ps.filterMap (fun i => tables_1[i]?)) (hg : ws.all goodWord = true) : ∀ w ∈ ws, w ∈ bw := by
  intro w hw
  have h1 := List.all_eq_true.mp hg w hw
  rw [h] at hw
  obtain ⟨i, -, hi⟩ := List.mem_filterMap.mp hw
  exact bw_t i hi h1
def rz_nest : Cond → Bool
  | .fieldLinkNest .. => true
  | .methodLinkNest .. => true
  | _ => false
def rz_NW (U : State) : Prop := ∀ w ∈ tables_1, rz_nest w = true → va_Nw w U
theorem rz_NW.same {u U : State} (h : u.vm = U.vm) (hn : rz_NW u) : rz_NW U := fun w hw hi => by
  have h1 := hn w hw hi
  cases w with
  | fieldLinkNest a b c d e f => exact va_Nw.same rfl h h1
  | methodLinkNest a b c d => exact va_Nw.same rfl h h1
  | _ => cases hi
theorem rz_NW.warm {s U : State} (h : s.WarmedH U.vm) (hn : rz_NW s) : rz_NW U := fun w hw hi => by
  have h1 := hn w hw hi
  cases w with
  | fieldLinkNest a b c d e f => exact va_Nw.warmF h h1
  | methodLinkNest a b c d => exact va_Nw.warmM h h1
  | _ => cases hi
theorem rz_NW.of {A : Array Value} {s : State} (h : ∀ w ∈ tables_1, w.before A s = true) : rz_NW s := fun w hw hi => by
  have h1 := h w hw
  cases w with
  | fieldLinkNest a b c d e f => exact va_Nw.of rfl h1
  | methodLinkNest a b c d => exact va_Nw.of rfl h1
  | _ => cases hi
