/-! What the named cells are on the heap, and the lemmas on lists that the soundness of rz_run takes. -/
def rz_v (adr : Nat → Nat) : Value → Value
  | .ref k => .ref (adr k)
  | v => v
def rz_e (cI cJ : ClassId) (adr : Nat → Nat) : rz_C → va_E
  | .inl (ci, fs) => .inr (ci, fs.map (rz_v adr))
  | .inr (.inl (n, f)) => .inl (cI, n, .inl f)
  | .inr (.inr (n, f)) => .inl (cJ, n, .inr (.inl f))
def rz_c (cI cJ : ClassId) (adr : Nat → Nat) (w : rz_W) : va_W := w.map (fun q => (adr q.1, rz_e cI cJ adr q.2))
def rz_l (adr : Nat → Nat) (lv : rz_L) : rz_L := lv.map (fun q => (q.1, rz_v adr q.2))
def rz_D (adr : Nat → Nat) (A : Nat → Prop) (ks : List Nat) : Prop := ks.Nodup ∧ (∀ i ∈ ks, ∀ j ∈ ks, adr i = adr j → i = j) ∧ ∀ i ∈ ks, A (adr i)
theorem rz_beq {k i : Nat} (h : Nat.beq k i = true) : k = i := Nat.eq_of_beq_eq_true h
theorem rz_nbeq {k i : Nat} (h : Nat.beq k i = false) : k ≠ i := Nat.ne_of_beq_eq_false h
theorem rz_get_mem {α : Type} : ∀ {l : List (Nat × α)} {i : Nat} {v : α}, rz_get l i = some v → (i, v) ∈ l
  | [], _, _, h => by cases h
  | (k, u) :: r, i, v, h => by
    unfold rz_get at h
    cases hb : Nat.beq k i with
    | true =>
      rw [hb] at h
      cases h
      rw [rz_beq hb]
      exact List.mem_cons_self
    | false =>
      rw [hb] at h
      exact List.mem_cons_of_mem _ (rz_get_mem h)
theorem rz_get_pos {cI cJ : ClassId} {adr : Nat → Nat} : ∀ {w : rz_W} {i : Nat} {x : rz_C}, rz_get w i = some x → (rz_c cI cJ adr w)[rz_pos w i]? = some (adr i, rz_e cI cJ adr x)
  | [], _, _, h => by cases h
  | (k, u) :: r, i, x, h => by
    unfold rz_get at h
    unfold rz_pos
    cases hb : Nat.beq k i with
    | true =>
      rw [hb] at h
      cases h
      rw [rz_beq hb]
      rfl
    | false =>
      rw [hb] at h
      exact rz_get_pos (cI := cI) (cJ := cJ) (adr := adr) (w := r) h
theorem rz_set_pos {cI cJ : ClassId} {adr : Nat → Nat} {y : rz_C} : ∀ {w : rz_W} {i : Nat} {x : rz_C}, rz_get w i = some x → (rz_c cI cJ adr w).set (rz_pos w i) (adr i, rz_e cI cJ adr y) = rz_c cI cJ adr (rz_set w i y)
  | [], _, _, h => by cases h
  | (k, u) :: r, i, x, h => by
    unfold rz_get at h
    unfold rz_pos rz_set
    cases hb : Nat.beq k i with
    | true =>
      rw [hb] at h
      rw [rz_beq hb]
      rfl
    | false =>
      rw [hb] at h
      have ih := rz_set_pos (cI := cI) (cJ := cJ) (adr := adr) (y := y) (w := r) h
      show (adr k, rz_e cI cJ adr u) :: ((rz_c cI cJ adr r).set (rz_pos r i) (adr i, rz_e cI cJ adr y)) = (adr k, rz_e cI cJ adr u) :: rz_c cI cJ adr (rz_set r i y)
      rw [ih]
theorem rz_set_keys {α : Type} (y : α) : ∀ (w : List (Nat × α)) (i : Nat), (rz_set w i y).map Prod.fst = w.map Prod.fst
  | [], _ => rfl
  | (k, u) :: r, i => by
    unfold rz_set
    cases hb : Nat.beq k i with
    | true => rfl
    | false =>
      show k :: ((rz_set r i y).map Prod.fst) = k :: (r.map Prod.fst)
      rw [rz_set_keys y r i]
theorem rz_set_mem {α : Type} {y : α} : ∀ {w : List (Nat × α)} {i : Nat} {q : Nat × α}, (w.map Prod.fst).Nodup → q ∈ rz_set w i y → q = (i, y) ∨ (q ∈ w ∧ q.1 ≠ i)
  | [], _, _, _, h => by cases h
  | (k, u) :: r, i, q, hn, h => by
    have hn2 := List.nodup_cons.mp (show (k :: r.map Prod.fst).Nodup from hn)
    unfold rz_set at h
    cases hb : Nat.beq k i with
    | true =>
      rw [hb] at h
      have e := rz_beq hb
      rcases List.mem_cons.mp h with h | h
      · left; rw [h, e]
      · right
        refine ⟨List.mem_cons_of_mem _ h, fun z => hn2.1 ?_⟩
        rw [e, ← z]
        exact List.mem_map.mpr ⟨q, h, rfl⟩
    | false =>
      rw [hb] at h
      rcases List.mem_cons.mp h with h | h
      · right
        rw [h]
        exact ⟨List.mem_cons_self, rz_nbeq hb⟩
      · rcases rz_set_mem hn2.2 h with h | h
        · exact Or.inl h
        · exact Or.inr ⟨List.mem_cons_of_mem _ h.1, h.2⟩
theorem rz_back_keys : ∀ (wc w : rz_W), (rz_back w wc).map Prod.fst = w.map Prod.fst
  | [], _ => rfl
  | (k, x) :: r, w => by
    unfold rz_back
    rw [rz_back_keys r (rz_set w k x), rz_set_keys]
theorem rz_back_mem : ∀ {wc w : rz_W} {q : Nat × rz_C}, (w.map Prod.fst).Nodup → q ∈ rz_back w wc → q ∈ wc ∨ (q ∈ w ∧ q.1 ∉ wc.map Prod.fst)
  | [], w, q, _, h => Or.inr ⟨h, List.not_mem_nil⟩
  | (k, x) :: r, w, q, hn, h => by
    unfold rz_back at h
    rcases rz_back_mem (by rw [rz_set_keys]; exact hn) h with h | h
    · exact Or.inl (List.mem_cons_of_mem _ h)
    · rcases rz_set_mem hn h.1 with e | e
      · left; rw [e]; exact List.mem_cons_self
      · right
        refine ⟨e.1, fun z => ?_⟩
        rcases List.mem_cons.mp (show q.1 ∈ k :: r.map Prod.fst from z) with z | z
        · exact e.2 z
        · exact h.2 z
theorem rz_sub_keys {w : rz_W} : ∀ {ks : List Nat} {wc : rz_W}, rz_sub w ks = some wc → wc.map Prod.fst = ks ∧ ∀ q ∈ wc, q ∈ w
  | [], wc, h => by cases h; exact ⟨rfl, fun q h => by cases h⟩
  | k :: ks, wc, h => by
    unfold rz_sub at h
    cases hg : rz_get w k with
    | none => rw [hg] at h; cases h
    | some x =>
      rw [hg] at h
      cases hs : rz_sub w ks with
      | none => rw [hs] at h; cases h
      | some r =>
        rw [hs] at h
        cases h
        obtain ⟨h1, h2⟩ := rz_sub_keys hs
        refine ⟨by show k :: r.map Prod.fst = k :: ks; rw [h1], fun q hq => ?_⟩
        rcases List.mem_cons.mp hq with e | e
        · rw [e]; exact rz_get_mem hg
        · exact h2 q e
theorem rz_P_iff {D : va_G} {cl : List vw_C} {cI cJ : ClassId} {adr : Nat → Nat} {w : rz_W} {H : Heap} : va_P D cl (rz_c cI cJ adr w) H ↔ ∀ q ∈ w, va_at D cl (adr q.1, rz_e cI cJ adr q.2) H := by
  constructor
  · intro h q hq
    have h1 : (adr q.1, rz_e cI cJ adr q.2) ∈ rz_c cI cJ adr w := List.mem_map.mpr ⟨q, hq, rfl⟩
    obtain ⟨k, hk⟩ := List.getElem?_of_mem h1
    exact h k _ hk
  · intro h k q hk
    obtain ⟨z, hz, e⟩ := List.mem_map.mp (List.mem_of_getElem? hk)
    rw [← e]
    exact h z hz
theorem rz_nodup_inj {α : Type} : ∀ {l : List α}, l.Nodup → ∀ {i j : Nat} {a : α}, l[i]? = some a → l[j]? = some a → i = j
  | [], _, i, j, a, h, _ => by simp at h
  | b :: r, hn, 0, 0, a, _, _ => rfl
  | b :: r, hn, 0, j + 1, a, h1, h2 => by
    have h3 := List.nodup_cons.mp hn
    simp at h1 h2
    exact absurd (List.mem_of_getElem? h2) (by rw [← h1]; exact h3.1)
  | b :: r, hn, i + 1, 0, a, h1, h2 => by
    have h3 := List.nodup_cons.mp hn
    simp at h1 h2
    exact absurd (List.mem_of_getElem? h1) (by rw [← h2]; exact h3.1)
  | b :: r, hn, i + 1, j + 1, a, h1, h2 => by
    have h3 := List.nodup_cons.mp hn
    simp at h1 h2
    rw [rz_nodup_inj h3.2 h1 h2]
theorem rz_D.va {cI cJ : ClassId} {adr : Nat → Nat} {A : Nat → Prop} {w : rz_W} (h : rz_D adr A (w.map Prod.fst)) : va_D A (rz_c cI cJ adr w) := by
  obtain ⟨h1, h2, h3⟩ := h
  constructor
  · intro i j p q hi hj he
    have gi : ∃ z, w[i]? = some z ∧ (adr z.1, rz_e cI cJ adr z.2) = p := by
      have : (w.map (fun q => (adr q.1, rz_e cI cJ adr q.2)))[i]? = some p := hi
      rw [List.getElem?_map] at this
      cases hw : w[i]? with
      | none => rw [hw] at this; cases this
      | some z => rw [hw] at this; exact ⟨z, rfl, Option.some.inj this⟩
    have gj : ∃ z, w[j]? = some z ∧ (adr z.1, rz_e cI cJ adr z.2) = q := by
      have : (w.map (fun q => (adr q.1, rz_e cI cJ adr q.2)))[j]? = some q := hj
      rw [List.getElem?_map] at this
      cases hw : w[j]? with
      | none => rw [hw] at this; cases this
      | some z => rw [hw] at this; exact ⟨z, rfl, Option.some.inj this⟩
    obtain ⟨z1, e1, f1⟩ := gi
    obtain ⟨z2, e2, f2⟩ := gj
    rw [← f1, ← f2] at he
    have e3 := h2 z1.1 (List.mem_map.mpr ⟨z1, List.mem_of_getElem? e1, rfl⟩) z2.1 (List.mem_map.mpr ⟨z2, List.mem_of_getElem? e2, rfl⟩) he
    refine rz_nodup_inj h1 (a := z1.1) ?_ ?_
    · rw [List.getElem?_map, e1]; rfl
    · rw [List.getElem?_map, e2, e3]; rfl
  · intro k q hk
    obtain ⟨z, hz, e⟩ := List.mem_map.mp (List.mem_of_getElem? hk)
    rw [← e]
    exact h3 _ (List.mem_map.mpr ⟨z, hz, rfl⟩)
theorem rz_D.of_va {cI cJ : ClassId} {adr : Nat → Nat} {A : Nat → Prop} {w : rz_W} (h : va_D A (rz_c cI cJ adr w)) : rz_D adr A (w.map Prod.fst) := by
  have hm : ∀ (i k : Nat), (w.map Prod.fst)[i]? = some k → ∃ z, w[i]? = some z ∧ z.1 = k ∧ (rz_c cI cJ adr w)[i]? = some (adr k, rz_e cI cJ adr z.2) := by
    intro i k hi
    rw [List.getElem?_map] at hi
    cases hw : w[i]? with
    | none => rw [hw] at hi; cases hi
    | some z =>
      rw [hw] at hi
      have e : z.1 = k := Option.some.inj hi
      refine ⟨z, rfl, e, ?_⟩
      show (w.map _)[i]? = _
      rw [List.getElem?_map, hw, ← e]
      rfl
  refine ⟨?_, ?_, ?_⟩
  · rw [List.nodup_iff_pairwise_ne, List.pairwise_iff_getElem]
    intro i j hi hj hij e
    obtain ⟨z1, a1, b1, c1⟩ := hm i _ (List.getElem?_eq_getElem hi)
    obtain ⟨z2, a2, b2, c2⟩ := hm j _ (List.getElem?_eq_getElem hj)
    have := h.1 i j _ _ c1 c2 (by show adr _ = adr _; rw [e])
    omega
  · intro a ha b hb e
    obtain ⟨i, hi⟩ := List.getElem?_of_mem ha
    obtain ⟨j, hj⟩ := List.getElem?_of_mem hb
    obtain ⟨z1, a1, b1, c1⟩ := hm i _ hi
    obtain ⟨z2, a2, b2, c2⟩ := hm j _ hj
    have := h.1 i j _ _ c1 c2 e
    subst this
    rw [hi] at hj
    exact Option.some.inj hj
  · intro a ha
    obtain ⟨i, hi⟩ := List.getElem?_of_mem ha
    obtain ⟨z1, a1, b1, c1⟩ := hm i _ hi
    exact h.2 i _ c1
theorem rz_two_cat (adr : Nat → Nat) (u : Value) : ((rz_v adr u).category == 2) = rz_two u := by cases u <;> rfl
theorem rz_cat (adr : Nat → Nat) (u : Value) : (rz_v adr u).category = if rz_two u then 2 else 1 := by cases u <;> rfl
theorem rz_words_sum (adr : Nat → Nat) : ∀ st : List Value, ((st.map (rz_v adr)).map fun v => v.category).sum = rz_words st
  | [] => rfl
  | v :: r => by
    show (rz_v adr v).category + ((r.map (rz_v adr)).map fun v => v.category).sum = rz_words (v :: r)
    rw [rz_words_sum adr r, rz_cat]
    show (if rz_two v = true then 2 else 1) + rz_words r = match rz_two v with
      | true => rz_words r + 2
      | false => rz_words r + 1
    cases h : rz_two v
    · show 1 + rz_words r = rz_words r + 1
      omega
    · show 2 + rz_words r = rz_words r + 2
      omega
theorem rz_ins_mem {i : Nat} {v : Value} : ∀ {l : rz_L} {q : Nat × Value}, q ∈ rz_ins i v l → q = (i, v) ∨ q ∈ l
  | [], q, h => by
    rcases List.mem_cons.mp h with h | h
    · exact Or.inl h
    · cases h
  | (k, u) :: r, q, h => by
    unfold rz_ins at h
    cases hb : Nat.ble i k with
    | true =>
      rw [hb] at h
      rcases List.mem_cons.mp h with h | h
      · exact Or.inl h
      · exact Or.inr h
    | false =>
      rw [hb] at h
      rcases List.mem_cons.mp h with h | h
      · right; rw [h]; exact List.mem_cons_self
      · rcases rz_ins_mem h with h | h
        · exact Or.inl h
        · exact Or.inr (List.mem_cons_of_mem _ h)
theorem rz_cut1_mem {i : Nat} : ∀ {l : rz_L} {q : Nat × Value}, q ∈ rz_cut1 i l → q ∈ l ∧ (Nat.beq q.1 i || (Nat.beq (q.1 + 1) i && rz_two q.2)) = false
  | [], q, h => by cases h
  | (k, u) :: r, q, h => by
    unfold rz_cut1 at h
    cases hb : (Nat.beq k i || (Nat.beq (k + 1) i && rz_two u)) with
    | true =>
      rw [hb] at h
      obtain ⟨h1, h2⟩ := rz_cut1_mem h
      exact ⟨List.mem_cons_of_mem _ h1, h2⟩
    | false =>
      rw [hb] at h
      rcases List.mem_cons.mp h with h | h
      · rw [h]; exact ⟨List.mem_cons_self, hb⟩
      · obtain ⟨h1, h2⟩ := rz_cut1_mem h
        exact ⟨List.mem_cons_of_mem _ h1, h2⟩
theorem rz_cut2_mem {i : Nat} : ∀ {l : rz_L} {q : Nat × Value}, q ∈ rz_cut2 i l → q ∈ l ∧ (Nat.beq q.1 i || (Nat.beq q.1 (i + 1) || (Nat.beq (q.1 + 1) i && rz_two q.2))) = false
  | [], q, h => by cases h
  | (k, u) :: r, q, h => by
    unfold rz_cut2 at h
    cases hb : (Nat.beq k i || (Nat.beq k (i + 1) || (Nat.beq (k + 1) i && rz_two u))) with
    | true =>
      rw [hb] at h
      obtain ⟨h1, h2⟩ := rz_cut2_mem h
      exact ⟨List.mem_cons_of_mem _ h1, h2⟩
    | false =>
      rw [hb] at h
      rcases List.mem_cons.mp h with h | h
      · rw [h]; exact ⟨List.mem_cons_self, hb⟩
      · obtain ⟨h1, h2⟩ := rz_cut2_mem h
        exact ⟨List.mem_cons_of_mem _ h1, h2⟩
theorem rz_nb (a b : Nat) : (a == b) = Nat.beq a b := by
  cases h : Nat.beq a b with
  | true => rw [rz_beq h]; exact beq_self_eq_true b
  | false => exact beq_false_of_ne (rz_nbeq h)
theorem rz_lv_sub {ls : Array Slot} {nL : Nat} {l l' : rz_L} (h : lv_has ls nL l) (hs : ∀ q ∈ l', q ∈ l) : lv_has ls nL l' := ⟨h.1, h.2.1, fun q hq => h.2.2 q (hs q hq)⟩
theorem rz_lv_st1 {ls : Array Slot} {nL i : Nat} {lv : rz_L} {v : Value} {adr : Nat → Nat} (h : lv_has ls nL ((i, rz_v adr v) :: (rz_l adr lv).filter (fun q => !(q.1 == i) && !(q.1 + 1 == i && q.2.category == 2)))) : lv_has ls nL (rz_l adr (rz_st1 lv i v)) := by
  refine rz_lv_sub h (fun q hq => ?_)
  obtain ⟨z, hz, e⟩ := List.mem_map.mp hq
  rcases rz_ins_mem hz with hz | hz
  · rw [← e, hz]; exact List.mem_cons_self
  · obtain ⟨h1, h2⟩ := rz_cut1_mem hz
    refine List.mem_cons_of_mem _ (List.mem_filter.mpr ⟨?_, ?_⟩)
    · rw [← e]; exact List.mem_map.mpr ⟨z, h1, rfl⟩
    · rw [← e]
      show (!(z.1 == i) && !(z.1 + 1 == i && (rz_v adr z.2).category == 2)) = true
      rw [rz_two_cat, rz_nb, rz_nb]
      revert h2
      cases Nat.beq z.1 i <;> cases Nat.beq (z.1 + 1) i <;> cases rz_two z.2 <;> simp
theorem rz_lv_st2 {ls : Array Slot} {nL i : Nat} {lv : rz_L} {v : Value} {adr : Nat → Nat} (h : lv_has ls nL ((i, rz_v adr v) :: (rz_l adr lv).filter (fun q => !(q.1 == i) && (!(q.1 == i + 1) && !(q.1 + 1 == i && q.2.category == 2))))) : lv_has ls nL (rz_l adr (rz_st2 lv i v)) := by
  refine rz_lv_sub h (fun q hq => ?_)
  obtain ⟨z, hz, e⟩ := List.mem_map.mp hq
  rcases rz_ins_mem hz with hz | hz
  · rw [← e, hz]; exact List.mem_cons_self
  · obtain ⟨h1, h2⟩ := rz_cut2_mem hz
    refine List.mem_cons_of_mem _ (List.mem_filter.mpr ⟨?_, ?_⟩)
    · rw [← e]; exact List.mem_map.mpr ⟨z, h1, rfl⟩
    · rw [← e]
      show (!(z.1 == i) && (!(z.1 == i + 1) && !(z.1 + 1 == i && (rz_v adr z.2).category == 2))) = true
      rw [rz_two_cat, rz_nb, rz_nb, rz_nb]
      revert h2
      cases Nat.beq z.1 i <;> cases Nat.beq z.1 (i + 1) <;> cases Nat.beq (z.1 + 1) i <;> cases rz_two z.2 <;> simp
theorem rz_keep_mem {ks : List Nat} : ∀ {l : rz_L} {q : Nat × Value}, q ∈ rz_keep ks l → q ∈ l
  | [], q, h => by cases h
  | (k, u) :: r, q, h => by
    unfold rz_keep at h
    cases hb : rz_mem k ks with
    | true =>
      rw [hb] at h
      rcases List.mem_cons.mp h with h | h
      · rw [h]; exact List.mem_cons_self
      · exact List.mem_cons_of_mem _ (rz_keep_mem h)
    | false =>
      rw [hb] at h
      exact List.mem_cons_of_mem _ (rz_keep_mem h)
theorem rz_lv_keep {ls : Array Slot} {nL : Nat} {lv : rz_L} {adr : Nat → Nat} (ks : List Nat) (h : lv_has ls nL (rz_l adr lv)) : lv_has ls nL (rz_l adr (rz_keep ks lv)) := by
  refine rz_lv_sub h (fun q hq => ?_)
  obtain ⟨z, hz, e⟩ := List.mem_map.mp hq
  rw [← e]
  exact List.mem_map.mpr ⟨z, rz_keep_mem hz, rfl⟩
theorem rz_lv_at {ls : Array Slot} {nL i : Nat} {lv : rz_L} {v : Value} {adr : Nat → Nat} (h : lv_has ls nL (rz_l adr lv)) (hg : rz_get lv i = some v) : ls[i]? = some (.val (rz_v adr v)) :=
  h.2.2 (i, rz_v adr v) (List.mem_map.mpr ⟨(i, v), rz_get_mem hg, rfl⟩)
theorem rz_pop_spec : ∀ {n : Nat} {st acc av rest : List Value}, rz_pop n st acc = some (av, rest) → ∃ b, av = b ++ acc ∧ st = b.reverse ++ rest ∧ b.length = n
  | 0, st, acc, av, rest, h => by cases h; exact ⟨[], rfl, rfl, rfl⟩
  | n + 1, [], acc, av, rest, h => by cases h
  | n + 1, v :: st, acc, av, rest, h => by
    obtain ⟨b, h1, h2, h3⟩ := rz_pop_spec (n := n) (st := st) (acc := v :: acc) h
    refine ⟨b ++ [v], by rw [h1]; simp, by rw [h2]; simp, by simp [h3]⟩
theorem rz_app_eq : ∀ (a b : List Value), rz_app a b = a ++ b
  | [], _ => rfl
  | v :: a, b => by unfold rz_app; rw [rz_app_eq a b]; rfl
-- a new cell's name
def rz_ad (adr : Nat → Nat) (k q : Nat) : Nat → Nat := fun i => if i = k then q else adr i
theorem rz_ad_s (adr : Nat → Nat) (k q : Nat) : rz_ad adr k q k = q := by simp [rz_ad]
theorem rz_ad_n {adr : Nat → Nat} {k q i : Nat} (h : i ≠ k) : rz_ad adr k q i = adr i := by simp [rz_ad, h]
theorem rz_no1_v {adr : Nat → Nat} {k q : Nat} {v : Value} (h : rz_no1 k v = true) : rz_v (rz_ad adr k q) v = rz_v adr v := by
  cases v with
  | ref a =>
    have h1 : Nat.beq a k = false := by
      revert h; show (!Nat.beq a k) = true → _; cases Nat.beq a k <;> simp
    show Value.ref (rz_ad adr k q a) = .ref (adr a)
    rw [rz_ad_n (rz_nbeq h1)]
  | _ => rfl
theorem rz_noL_v {adr : Nat → Nat} {k q : Nat} : ∀ {l : List Value}, rz_noL k l = true → l.map (rz_v (rz_ad adr k q)) = l.map (rz_v adr)
  | [], _ => rfl
  | v :: r, h => by
    have h1 := (Bool.and_eq_true _ _).mp (show (rz_no1 k v && rz_noL k r) = true from h)
    show rz_v _ v :: r.map _ = rz_v _ v :: r.map _
    rw [rz_no1_v h1.1, rz_noL_v h1.2]
theorem rz_noV_v {adr : Nat → Nat} {k q : Nat} : ∀ {l : rz_L}, rz_noV k l = true → rz_l (rz_ad adr k q) l = rz_l adr l
  | [], _ => rfl
  | (i, v) :: r, h => by
    have h1 := (Bool.and_eq_true _ _).mp (show (rz_no1 k v && rz_noV k r) = true from h)
    show (i, rz_v _ v) :: rz_l _ r = (i, rz_v _ v) :: rz_l _ r
    rw [rz_no1_v h1.1, rz_noV_v h1.2]
def rz_ei (ci : Nat) (fs : List Value) (adr : Nat → Nat) : va_E := .inr (ci, fs.map (rz_v adr))
theorem rz_noW_c {cI cJ : ClassId} {adr : Nat → Nat} {k q : Nat} : ∀ {w : rz_W}, rz_noW k w = true → rz_c cI cJ (rz_ad adr k q) w = rz_c cI cJ adr w ∧ k ∉ w.map Prod.fst
  | [], _ => ⟨rfl, List.not_mem_nil⟩
  | (i, .inl (ci, fs)) :: r, h => by
    have h1 := (Bool.and_eq_true _ _).mp (show (!Nat.beq i k && (rz_noL k fs && rz_noW k r)) = true from h)
    have h2 := (Bool.and_eq_true _ _).mp h1.2
    have h3 : Nat.beq i k = false := by
      have := h1.1; revert this; cases Nat.beq i k <;> simp
    obtain ⟨e1, e2⟩ := rz_noW_c (cI := cI) (cJ := cJ) (adr := adr) (q := q) h2.2
    refine ⟨?_, fun z => ?_⟩
    · show (rz_ad adr k q i, rz_ei ci fs (rz_ad adr k q)) :: rz_c cI cJ (rz_ad adr k q) r = (adr i, rz_ei ci fs adr) :: rz_c cI cJ adr r
      rw [e1, rz_ad_n (rz_nbeq h3)]
      unfold rz_ei
      rw [rz_noL_v h2.1]
    · rcases List.mem_cons.mp (show k ∈ i :: r.map Prod.fst from z) with z | z
      · exact rz_nbeq h3 z.symm
      · exact e2 z
  | (i, .inr x) :: r, h => by
    have h1 := (Bool.and_eq_true _ _).mp (show (!Nat.beq i k && rz_noW k r) = true from h)
    have h3 : Nat.beq i k = false := by
      have := h1.1; revert this; cases Nat.beq i k <;> simp
    obtain ⟨e1, e2⟩ := rz_noW_c (cI := cI) (cJ := cJ) (adr := adr) (q := q) h1.2
    refine ⟨?_, fun z => ?_⟩
    · show (rz_ad adr k q i, rz_e cI cJ (rz_ad adr k q) (.inr x)) :: rz_c cI cJ (rz_ad adr k q) r = (adr i, rz_e cI cJ adr (.inr x)) :: rz_c cI cJ adr r
      rw [e1, rz_ad_n (rz_nbeq h3)]
      cases x <;> rfl
    · rcases List.mem_cons.mp (show k ∈ i :: r.map Prod.fst from z) with z | z
      · exact rz_nbeq h3 z.symm
      · exact e2 z
