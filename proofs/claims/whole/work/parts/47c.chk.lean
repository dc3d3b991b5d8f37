/-! Checks of special places, by program. -/
theorem x_oi1 : Cond.instanceMethod Lib.objectInit ∈ bw := bw_t 23 (by decide +kernel) rfl
theorem x_oi2 : Cond.code Lib.objectInit ⟨#[0xb1]⟩ 1 none ∈ bw := bw_t 24 (by decide +kernel) rfl
def rz_dfOK (T : u_T) (fs : List Value) : Nat → Bool
  | 0 => true
  | j + 1 => (match parseFieldDescriptor (T j).2.2.1 with
    | some t => decide (defaultValue t = vp_V fs j)
    | none => false) && rz_dfOK T fs j
def rz_cab2 (own : String) (df : List (Nat × Nat × List Value)) (zb : Nat) (i : Instr) (h : Nat × Nat × Nat) : Bool := match i, vwCl[zb]?, rz_get df zb with
  | .new ix, some (C, T, N), some (N', fs) => decide (N = N') && (rz_dfOK T fs N && (rz_noR fs && (decide (tables_1[h.1]? = some (.classLink own ix C)) && (decide (tables_1[h.2.1]? = some (.instantiable C N)) && decide (tables_1[h.2.2]? = some (.initialized C))))))
  | _, _, _ => false
def rz_cab3 (own : String) (za zb : Nat) (i : Instr) (h : Nat × Nat × Nat) : Bool := match i, vwCl[za]? with
  | .putfield ix, some (C, T, N) => decide (zb < N) && (decide ((T zb).1 = own) && ((T zb).2.2.2 && ((match parseFieldDescriptor (T zb).2.2.1 with
    | some t => rz_refTy t
    | none => false) && decide (tables_1[h.1]? = some (.fieldLink own ix (T zb).1 (T zb).2.1 (T zb).2.2.1)))))
  | _, _ => false
def rz_cab4 (own : String) (i : Instr) (h : Nat × Nat × Nat) : Bool := match i with
  | .invokespecial ix => decide (tables_1[h.1]? = some (.methodLink own ix Lib.objectInit))
  | _ => false
def rz_cab (own : String) (df : List (Nat × Nat × List Value)) (z : rz_S) (i : Instr) (h : Nat × Nat × Nat) : Bool := match z.1 with
  | 0 => decide (i = .newarray .int) && decide (z.2.2 ≤ 10000)
  | 1 => decide (i = .newarray .long) && decide (z.2.2 ≤ 10000)
  | 2 => rz_cab2 own df z.2.2 i h
  | 3 => rz_cab3 own z.2.1 z.2.2 i h
  | 4 => rz_cab4 own i h
  | 5 => decide (i = .iaload)
  | 6 => decide (i = .arraylength)
  | _ => false
theorem rz_dfOK_s {T : u_T} {fs : List Value} : ∀ {N : Nat}, rz_dfOK T fs N = true → ∀ j, j < N → ∃ t, parseFieldDescriptor (T j).2.2.1 = some t ∧ defaultValue t = vp_V fs j
  | 0, _, j, h => absurd h (Nat.not_lt_zero j)
  | N + 1, h, j, hj => by
    have h1 := (Bool.and_eq_true _ _).mp h
    by_cases z : j = N
    · have h2 := h1.1
      rw [z]
      revert h2
      split
      · rename_i t ht
        intro h2
        exact ⟨t, ht, of_decide_eq_true h2⟩
      · intro h2; cases h2
    · exact rz_dfOK_s h1.2 j (by omega)
theorem rz_cab_ok (hcls : rz_Cls) {own : String} {df : List (Nat × Nat × List Value)} {z : rz_S} {i : Instr} {h : Nat × Nat × Nat} (hc : rz_cab own df z i h = true) : rz_caOK own df z i := by
  obtain ⟨kd, za, zb⟩ := z
  revert hc
  match kd with
  | 0 =>
    intro hc
    have h1 := (Bool.and_eq_true _ _).mp hc
    exact ⟨of_decide_eq_true h1.1, of_decide_eq_true h1.2⟩
  | 1 =>
    intro hc
    have h1 := (Bool.and_eq_true _ _).mp hc
    exact ⟨of_decide_eq_true h1.1, of_decide_eq_true h1.2⟩
  | 2 =>
    intro hc
    replace hc : rz_cab2 own df zb i h = true := hc
    unfold rz_cab2 at hc
    split at hc
    · rename_i ix C T N N' fs h1 h2
      have g0 := (Bool.and_eq_true _ _).mp hc
      have g1 := (Bool.and_eq_true _ _).mp g0.2
      have g2 := (Bool.and_eq_true _ _).mp g1.2
      have g3 := (Bool.and_eq_true _ _).mp g2.2
      have g4 := (Bool.and_eq_true _ _).mp g3.2
      have e := of_decide_eq_true g0.1
      subst e
      obtain ⟨c1, ⟨ty, c2⟩, c3⟩ := hcls zb C T N h1
      refine ⟨ix, C, T, N, ty, fs, rfl, h1, h2, c2, fun j hj => ?_, g2.1, bw_t _ (of_decide_eq_true g3.1) rfl, bw_t _ (of_decide_eq_true g4.1) rfl, bw_t _ (of_decide_eq_true g4.2) rfl, c1⟩
      obtain ⟨t, t1, t2⟩ := rz_dfOK_s g1.1 j hj
      rw [c2 j hj] at t1
      rw [Option.some.inj t1]
      exact t2
    · cases hc
  | 3 =>
    intro hc
    replace hc : rz_cab3 own za zb i h = true := hc
    unfold rz_cab3 at hc
    split at hc
    · rename_i ix C T N h1
      have g0 := (Bool.and_eq_true _ _).mp hc
      have g1 := (Bool.and_eq_true _ _).mp g0.2
      have g2 := (Bool.and_eq_true _ _).mp g1.2
      have g3 := (Bool.and_eq_true _ _).mp g2.2
      have g4 := g3.1
      revert g4
      split
      · rename_i t ht
        intro g4
        exact ⟨ix, C, T, N, t, rfl, h1, of_decide_eq_true g0.1, of_decide_eq_true g1.1, g2.1, ht, g4, bw_t _ (of_decide_eq_true g3.2) rfl⟩
      · intro g4; cases g4
    · cases hc
  | 4 =>
    intro hc
    replace hc : rz_cab4 own i h = true := hc
    unfold rz_cab4 at hc
    split at hc
    · rename_i ix
      exact ⟨ix, rfl, bw_t _ (of_decide_eq_true hc) rfl, x_oi1, x_oi2⟩
    · cases hc
  | 5 =>
    intro hc
    exact (show i = .iaload from of_decide_eq_true hc)
  | 6 =>
    intro hc
    exact (show i = .arraylength from of_decide_eq_true hc)
  | n + 7 => intro hc; cases hc
theorem rz_caOf (hcls : rz_Cls) {own : String} {df : List (Nat × Nat × List Value)} {ca : List (Nat × rz_S)} {cod : List (Nat × rz_I)} (hi : List (Nat × Nat × Nat × Nat)) (h : cod.all (fun q => match rz_get ca q.1, rz_get hi q.1 with
    | some z, some x => rz_cab own df z q.2.1 x
    | some _, none => false
    | none, _ => true) = true) : ∀ q ∈ cod, ∀ z, rz_get ca q.1 = some z → rz_caOK own df z q.2.1 := by
  intro q hq z hz
  have h1 := List.all_eq_true.mp h q hq
  rw [hz] at h1
  revert h1
  cases rz_get hi q.1 with
  | none => intro h1; cases h1
  | some x => intro h1; exact rz_cab_ok hcls h1
theorem rz_l3 {ca : List (Nat × rz_S)} {cod : List (Nat × rz_I)} {sp : List Nat} (h : cod.all (fun q => match rz_get ca q.1 with
    | some _ => true
    | none => !rz_mem q.1 sp || decide (rz_len q.2.1 = 3)) = true) : ∀ q ∈ cod, rz_get ca q.1 = none → rz_mem q.1 sp = true → rz_len q.2.1 = 3 := by
  intro q hq hn hm
  have h1 := List.all_eq_true.mp h q hq
  rw [hn] at h1
  have h1 : (!rz_mem q.1 sp || decide (rz_len q.2.1 = 3)) = true := h1
  rw [hm] at h1
  exact of_decide_eq_true h1
theorem rz_mem_app (k : Nat) : ∀ a b : List Nat, rz_mem k (a ++ b) = (rz_mem k a || rz_mem k b)
  | [], b => by show rz_mem k b = (false || rz_mem k b); cases rz_mem k b <;> rfl
  | x :: a, b => by
    show (match Nat.beq x k with | true => true | false => rz_mem k (a ++ b)) = ((match Nat.beq x k with | true => true | false => rz_mem k a) || rz_mem k b)
    rw [rz_mem_app k a b]
    cases Nat.beq x k <;> rfl
theorem rz_mem_get {α : Type} (k : Nat) : ∀ l : List (Nat × α), rz_mem k (l.map Prod.fst) = true → ∃ z, rz_get l k = some z
  | [], h => by cases h
  | (x, v) :: l, h => by
    have h : (match Nat.beq x k with | true => true | false => rz_mem k (l.map Prod.fst)) = true := h
    unfold rz_get
    revert h
    cases Nat.beq x k with
    | true => intro _; exact ⟨v, rfl⟩
    | false => intro h; exact rz_mem_get k l h
theorem rz_mem_in {α : Type} {q : Nat × α} : ∀ {l : List (Nat × α)}, q ∈ l → rz_mem q.1 (l.map Prod.fst) = true
  | [], h => absurd h List.not_mem_nil
  | (x, v) :: l, h => by
    show (match Nat.beq x q.1 with | true => true | false => rz_mem q.1 (l.map Prod.fst)) = true
    rcases List.mem_cons.mp h with z | z
    · rw [z]
      rw [show Nat.beq x x = true from Nat.beq_refl x]
    · rw [rz_mem_in z]
      cases Nat.beq x q.1 <;> rfl
