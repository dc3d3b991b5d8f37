/-! An abstract machine over named cells: rz_wp computes, for the code of one method, what must hold for it to end well; rz_sound (next part): then the machine itself does. -/
abbrev rz_C : Type := (Nat × List Value) ⊕ ((Nat × (Nat → Int32)) ⊕ (Nat × (Nat → Int64)))
abbrev rz_W : Type := List (Nat × rz_C)
abbrev rz_L : Type := List (Nat × Value)
/-- an instruction, the next place, the target (or the local, or a new cell's name), a number, its int and its long constant -/
abbrev rz_I : Type := Instr × Nat × Nat × Nat × Int32 × Int64
/-- a callee: how many arguments (the receiver too), its cells, its answer (0 int, 1 long, else none), whether it leaves all cells as they are, what it wants, what it gives -/
abbrev rz_K : Type := Nat × List Nat × Nat × Bool × (List Value → rz_W → Prop) × (List Value → rz_W → Option Value → rz_W → Prop)
def rz_get {α : Type} : List (Nat × α) → Nat → Option α
  | [], _ => none
  | (k, v) :: r, i => match Nat.beq k i with
    | true => some v
    | false => rz_get r i
def rz_set {α : Type} : List (Nat × α) → Nat → α → List (Nat × α)
  | [], _, _ => []
  | (k, v) :: r, i, x => match Nat.beq k i with
    | true => (k, x) :: r
    | false => (k, v) :: rz_set r i x
def rz_pos {α : Type} : List (Nat × α) → Nat → Nat
  | [], _ => 0
  | (k, _) :: r, i => match Nat.beq k i with
    | true => 0
    | false => rz_pos r i + 1
def rz_pop : Nat → List Value → List Value → Option (List Value × List Value)
  | 0, st, acc => some (acc, st)
  | _ + 1, [], _ => none
  | n + 1, v :: st, acc => rz_pop n st (v :: acc)
def rz_sub (w : rz_W) : List Nat → Option rz_W
  | [] => some []
  | k :: ks => match rz_get w k with
    | some c => match rz_sub w ks with
      | some r => some ((k, c) :: r)
      | none => none
    | none => none
def rz_back (w : rz_W) : rz_W → rz_W
  | [] => w
  | (k, c) :: r => rz_back (rz_set w k c) r
def rz_two : Value → Bool
  | .long _ => true
  | .double _ => true
  | _ => false
def rz_ins (i : Nat) (v : Value) : rz_L → rz_L
  | [] => [(i, v)]
  | (k, u) :: r => match Nat.ble i k with
    | true => (i, v) :: (k, u) :: r
    | false => (k, u) :: rz_ins i v r
def rz_cut1 (i : Nat) : rz_L → rz_L
  | [] => []
  | (k, u) :: r => match Nat.beq k i || (Nat.beq (k + 1) i && rz_two u) with
    | true => rz_cut1 i r
    | false => (k, u) :: rz_cut1 i r
def rz_cut2 (i : Nat) : rz_L → rz_L
  | [] => []
  | (k, u) :: r => match Nat.beq k i || (Nat.beq k (i + 1) || (Nat.beq (k + 1) i && rz_two u)) with
    | true => rz_cut2 i r
    | false => (k, u) :: rz_cut2 i r
def rz_st1 (lv : rz_L) (i : Nat) (v : Value) : rz_L := rz_ins i v (rz_cut1 i lv)
def rz_st2 (lv : rz_L) (i : Nat) (v : Value) : rz_L := rz_ins i v (rz_cut2 i lv)
def rz_mem (i : Nat) : List Nat → Bool
  | [] => false
  | k :: r => match Nat.beq k i with
    | true => true
    | false => rz_mem i r
def rz_keep (ks : List Nat) : rz_L → rz_L
  | [] => []
  | (k, u) :: r => match rz_mem k ks with
    | true => (k, u) :: rz_keep ks r
    | false => rz_keep ks r
def rz_words : List Value → Nat
  | [] => 0
  | v :: r => match rz_two v with
    | true => rz_words r + 2
    | false => rz_words r + 1
/-- no reference to the cell of this name -/
def rz_no1 (k : Nat) : Value → Bool
  | .ref a => !Nat.beq a k
  | _ => true
def rz_noL (k : Nat) : List Value → Bool
  | [] => true
  | v :: r => rz_no1 k v && rz_noL k r
def rz_noV (k : Nat) : rz_L → Bool
  | [] => true
  | (_, v) :: r => rz_no1 k v && rz_noV k r
def rz_noW (k : Nat) : rz_W → Bool
  | [] => true
  | (i, .inl (_, fs)) :: r => !Nat.beq i k && (rz_noL k fs && rz_noW k r)
  | (i, .inr _) :: r => !Nat.beq i k && rz_noW k r
def rz_pi (st : List Value) (k : Int32 → List Value → Prop) : Prop := match st with
  | .int x :: r => k x r
  | _ => False
def rz_pl (st : List Value) (k : Int64 → List Value → Prop) : Prop := match st with
  | .long x :: r => k x r
  | _ => False
def rz_pr (st : List Value) (k : Nat → List Value → Prop) : Prop := match st with
  | .ref x :: r => k x r
  | _ => False
def rz_gi (lv : rz_L) (i : Nat) (k : Int32 → Prop) : Prop := match rz_get lv i with
  | some (.int x) => k x
  | _ => False
def rz_gl (lv : rz_L) (i : Nat) (k : Int64 → Prop) : Prop := match rz_get lv i with
  | some (.long x) => k x
  | _ => False
def rz_gr (lv : rz_L) (i : Nat) (k : Nat → Prop) : Prop := match rz_get lv i with
  | some (.ref x) => k x
  | _ => False
def rz_ob (w : rz_W) (a ci : Nat) (k : List Value → Prop) : Prop := match rz_get w a with
  | some (.inl (cj, fs)) => match Nat.beq cj ci with
    | true => k fs
    | false => False
  | _ => False
def rz_ai (w : rz_W) (a : Nat) (k : Nat → (Nat → Int32) → Prop) : Prop := match rz_get w a with
  | some (.inr (.inl (n, f))) => k n f
  | _ => False
def rz_al (w : rz_W) (a : Nat) (k : Nat → (Nat → Int64) → Prop) : Prop := match rz_get w a with
  | some (.inr (.inr (n, f))) => k n f
  | _ => False
def rz_op {α : Type} (o : Option α) (k : α → Prop) : Prop := match o with
  | some x => k x
  | none => False
def rz_if (b : Bool) (k : Prop) : Prop := match b with
  | true => k
  | false => False
def rz_ret (rk : Nat) (k : Option Value → List Value → Prop) : Prop := match rk with
  | 0 => ∀ r : Int32, k (some (.int r)) [.int r]
  | 1 => ∀ r : Int64, k (some (.long r)) [.long r]
  | _ => k none []
def rz_kept (kp : Bool) (post : rz_W → Prop) (wc w : rz_W) (k : rz_W → Prop) : Prop := match kp with
  | true => post wc → k w
  | false => ∀ wc' : rz_W, post wc' → k (rz_back w wc')
def rz_app : List Value → List Value → List Value
  | [], b => b
  | v :: a, b => v :: rz_app a b
def rz_call (ce : rz_K) (st : List Value) (w : rz_W) (K : List Value → rz_W → Prop) : Prop :=
  rz_op (rz_pop ce.1 st []) fun q => rz_op (rz_sub w ce.2.1) fun wc => rz_if (Nat.ble (rz_words q.2) 8) (ce.2.2.2.2.1 q.1 wc ∧ rz_ret ce.2.2.1 (fun o vs => rz_kept ce.2.2.2.1 (ce.2.2.2.2.2 q.1 wc o) wc w (fun w' => K (rz_app vs q.2) w')))
def rz_sw (x : Int32) (K : Nat → Prop) (d : Nat) : List (Int32 × Nat) → Prop
  | [] => K d
  | (v, t) :: r => (x = v → K t) ∧ (¬ x = v → rz_sw x K d r)
def rz_c0 (cd : ClassFile.Cond) (x : Int32) (A B : Prop) : Prop := match cd with
  | .eq => (x = 0 → A) ∧ (¬ x = 0 → B)
  | .ne => (x = 0 → B) ∧ (¬ x = 0 → A)
  | .lt => (x < 0 → A) ∧ (¬ x < 0 → B)
  | .ge => (0 ≤ x → A) ∧ (¬ 0 ≤ x → B)
  | .gt => (0 < x → A) ∧ (¬ 0 < x → B)
  | .le => (x ≤ 0 → A) ∧ (¬ x ≤ 0 → B)
def rz_c2 (cd : ClassFile.Cond) (x y : Int32) (A B : Prop) : Prop := match cd with
  | .eq => (x = y → A) ∧ (¬ x = y → B)
  | .ne => (x = y → B) ∧ (¬ x = y → A)
  | .lt => (x < y → A) ∧ (¬ x < y → B)
  | .ge => (y ≤ x → A) ∧ (¬ y ≤ x → B)
  | .gt => (y < x → A) ∧ (¬ y < x → B)
  | .le => (x ≤ y → A) ∧ (¬ x ≤ y → B)
/-- one instruction: fld: a pool number's class and field; cal: its callee; sw: a switch's cases; bz: the answer is a truth value -/
def rz_stp (fld : List (Nat × Nat × Nat × Bool)) (cal cav : List (Nat × rz_K)) (sw : List (Int32 × Nat)) (bz : Bool) (RC RS : Nat) (Q : Option Value → rz_W → Prop) (K : Nat → rz_L → List Value → rz_W → Nat → Nat → Prop)
    (i : Instr) (nx tg na : Nat) (ci : Int32) (cl : Int64) (lv : rz_L) (st : List Value) (w : rz_W) (cs sl : Nat) : Prop := match i with
  | .iconst _ => K nx lv (.int ci :: st) w cs sl
  | .bipush _ => K nx lv (.int ci :: st) w cs sl
  | .sipush _ => K nx lv (.int ci :: st) w cs sl
  | .lconst _ => K nx lv (.long cl :: st) w cs sl
  | .ldc_w _ => K nx lv (.int ci :: st) w cs sl
  | .ldc2_w _ => K nx lv (.long cl :: st) w cs sl
  | .iload _ => rz_gi lv tg fun x => K nx lv (.int x :: st) w cs sl
  | .iload_n _ => rz_gi lv tg fun x => K nx lv (.int x :: st) w cs sl
  | .lload _ => rz_gl lv tg fun x => K nx lv (.long x :: st) w cs sl
  | .lload_n _ => rz_gl lv tg fun x => K nx lv (.long x :: st) w cs sl
  | .aload _ => rz_gr lv tg fun x => K nx lv (.ref x :: st) w cs sl
  | .aload_n _ => rz_gr lv tg fun x => K nx lv (.ref x :: st) w cs sl
  | .istore _ => rz_pi st fun x r => ∀ v : Int32, v = x → K nx (rz_st1 lv tg (.int v)) r w cs sl
  | .istore_n _ => rz_pi st fun x r => ∀ v : Int32, v = x → K nx (rz_st1 lv tg (.int v)) r w cs sl
  | .lstore _ => rz_pl st fun x r => ∀ v : Int64, v = x → K nx (rz_st2 lv tg (.long v)) r w cs sl
  | .lstore_n _ => rz_pl st fun x r => ∀ v : Int64, v = x → K nx (rz_st2 lv tg (.long v)) r w cs sl
  | .astore _ => rz_pr st fun x r => K nx (rz_st1 lv tg (.ref x)) r w cs sl
  | .astore_n _ => rz_pr st fun x r => K nx (rz_st1 lv tg (.ref x)) r w cs sl
  | .iinc _ _ => rz_gi lv tg fun x => ∀ v : Int32, v = x + ci → K nx (rz_st1 lv tg (.int v)) st w cs sl
  | .iadd => rz_pi st fun y r => rz_pi r fun x r => K nx lv (.int (x + y) :: r) w cs sl
  | .isub => rz_pi st fun y r => rz_pi r fun x r => K nx lv (.int (x - y) :: r) w cs sl
  | .imul => rz_pi st fun y r => rz_pi r fun x r => K nx lv (.int (x * y) :: r) w cs sl
  | .iand => rz_pi st fun y r => rz_pi r fun x r => K nx lv (.int (x &&& y) :: r) w cs sl
  | .ior => rz_pi st fun y r => rz_pi r fun x r => K nx lv (.int (x ||| y) :: r) w cs sl
  | .ixor => rz_pi st fun y r => rz_pi r fun x r => K nx lv (.int (x ^^^ y) :: r) w cs sl
  | .irem => rz_pi st fun y r => rz_pi r fun x r => ¬ y = 0 ∧ K nx lv (.int (x - x / y * y) :: r) w cs sl
  | .ineg => rz_pi st fun x r => K nx lv (.int (-x) :: r) w cs sl
  | .ishl => rz_pi st fun y r => rz_pi r fun x r => K nx lv (.int (x <<< (y &&& 31)) :: r) w cs sl
  | .ishr => rz_pi st fun y r => rz_pi r fun x r => K nx lv (.int (x >>> (y &&& 31)) :: r) w cs sl
  | .iushr => rz_pi st fun y r => rz_pi r fun x r => K nx lv (.int (x.toUInt32 >>> (y.toUInt32 &&& Int32.toUInt32 31)).toInt32 :: r) w cs sl
  | .ladd => rz_pl st fun y r => rz_pl r fun x r => K nx lv (.long (x + y) :: r) w cs sl
  | .lsub => rz_pl st fun y r => rz_pl r fun x r => K nx lv (.long (x - y) :: r) w cs sl
  | .lmul => rz_pl st fun y r => rz_pl r fun x r => K nx lv (.long (x * y) :: r) w cs sl
  | .lxor => rz_pl st fun y r => rz_pl r fun x r => K nx lv (.long (x ^^^ y) :: r) w cs sl
  | .ldiv => rz_pl st fun y r => rz_pl r fun x r => ¬ y = 0 ∧ K nx lv (.long (x / y) :: r) w cs sl
  | .lrem => rz_pl st fun y r => rz_pl r fun x r => ¬ y = 0 ∧ K nx lv (.long (x - x / y * y) :: r) w cs sl
  | .lneg => rz_pl st fun x r => K nx lv (.long (-x) :: r) w cs sl
  | .lcmp => rz_pl st fun y r => rz_pl r fun x r => K nx lv (.int (lg_cmp x y) :: r) w cs sl
  | .i2l => rz_pi st fun x r => K nx lv (.long x.toInt64 :: r) w cs sl
  | .l2i => rz_pl st fun x r => K nx lv (.int x.toInt32 :: r) w cs sl
  | .dup => match st with
    | .int x :: r => K nx lv (.int x :: .int x :: r) w cs sl
    | .ref x :: r => K nx lv (.ref x :: .ref x :: r) w cs sl
    | _ => False
  | .ifCond cd _ => rz_pi st fun x r => rz_c0 cd x (K tg lv r w cs sl) (K nx lv r w cs sl)
  | .if_icmp cd _ => rz_pi st fun y r => rz_pi r fun x r => rz_c2 cd x y (K tg lv r w cs sl) (K nx lv r w cs sl)
  | .goto _ => K tg lv st w cs sl
  | .tableswitch _ _ _ _ => rz_pi st fun x r => rz_sw x (fun t => K t lv r w cs sl) tg sw
  | .getfield ix => rz_pr st fun a r => rz_op (rz_get fld ix) fun q => rz_ob w a q.1 fun fs => rz_op fs[q.2.1]? fun v => K nx lv (v :: r) w cs sl
  | .putfield ix => rz_pi st fun x r => rz_pr r fun a r => rz_op (rz_get fld ix) fun q => rz_ob w a q.1 fun fs => rz_if (q.2.2 && Nat.blt q.2.1 fs.length) (K nx lv r (rz_set w a (.inl (q.1, fs.set q.2.1 (.int x)))) cs sl)
  | .iaload => rz_pi st fun j r => rz_pr r fun a r => rz_ai w a fun n f => vp_in j n ∧ K nx lv (.int (f j.toNatClampNeg) :: r) w cs sl
  | .laload => rz_pi st fun j r => rz_pr r fun a r => rz_al w a fun n f => vp_in j n ∧ K nx lv (.long (f j.toNatClampNeg) :: r) w cs sl
  | .iastore => rz_pi st fun x r => rz_pi r fun j r => rz_pr r fun a r => rz_ai w a fun n f => vp_in j n ∧ K nx lv r (rz_set w a (.inr (.inl (n, upd f j.toNatClampNeg x)))) cs sl
  | .lastore => rz_pl st fun x r => rz_pi r fun j r => rz_pr r fun a r => rz_al w a fun n f => vp_in j n ∧ K nx lv r (rz_set w a (.inr (.inr (n, vp_updL f j.toNatClampNeg x)))) cs sl
  | .arraylength => rz_pr st fun a r => rz_ai w a fun n _ => K nx lv (.int (nI n) :: r) w cs sl
  | .newarray _ => rz_pi st fun x r => rz_if (rz_noV tg lv && (rz_noL tg r && rz_noW tg w)) (x = ci ∧ cs + 1 ≤ RC ∧ sl + na ≤ RS ∧ K nx lv (.ref tg :: r) (w ++ [(tg, .inr (.inl (na, fun _ => 0)))]) (cs + 1) (sl + na))
  | .invokestatic ix => rz_op (rz_get cal ix) fun ce => rz_call ce st w fun st' w' => K nx lv st' w' cs sl
  | .invokevirtual ix => rz_op (rz_get cav ix) fun ce => rz_call ce st w fun st' w' => K nx lv st' w' cs sl
  | .ireturn => rz_pi st fun x r => match r, bz with
    | [], false => Q (some (.int x)) w
    | [], true => (x = 0 ∨ x = 1) ∧ Q (some (.int x)) w
    | _, _ => False
  | .lreturn => rz_pl st fun x r => match r with
    | [] => Q (some (.long x)) w
    | _ => False
  | .return_ => match st with
    | [] => Q none w
    | _ => False
  | _ => False
/-- a loop's head: which locals stay, and what holds there, by a number that falls -/
abbrev rz_J : Type := List Nat × (Nat → rz_L → rz_W → Prop)
/-- what a method hangs on: its code, fields, callees, switch, kind of answer, room, loops, end -/
def rz_run (cod : List (Nat × rz_I)) (fld : List (Nat × Nat × Nat × Bool)) (cal cav : List (Nat × rz_K)) (sw : List (Int32 × Nat)) (bz : Bool) (RC RS : Nat) (J : List (Nat × rz_J)) (Q : Option Value → rz_W → Prop) (n0 : Nat) : Nat → Nat → rz_L → List Value → rz_W → Nat → Nat → Prop
  | 0, _, _, _, _, _, _ => False
  | n + 1, pc, lv, st, w, cs, sl => rz_op (rz_get cod pc) fun i => rz_stp fld cal cav sw bz RC RS Q
      (fun pc lv st w cs sl => match rz_get J pc with
        | some j => match st with
          | [] => ∃ k, k < n0 ∧ j.2 k (rz_keep j.1 lv) w
          | _ => False
        | none => rz_run cod fld cal cav sw bz RC RS J Q n0 n pc lv st w cs sl) i.1 i.2.1 i.2.2.1 i.2.2.2.1 i.2.2.2.2.1 i.2.2.2.2.2 lv st w cs sl
