/-! Cells of the class and of the reference, by names; what a contract reads off arguments, answers and cells. -/
abbrev ro (ci : Nat) (fs : List Value) : rz_C := .inl (ci, fs)
abbrev ri (n : Nat) (f : Nat → Int32) : rz_C := .inr (.inl (n, f))
abbrev rl (n : Nat) (f : Nat → Int64) : rz_C := .inr (.inr (n, f))
def rA (av : List Value) (i : Nat) : Int32 := match av[i]? with
  | some (.int x) => x
  | _ => 0
def rB (av : List Value) (i : Nat) : Int64 := match av[i]? with
  | some (.long x) => x
  | _ => 0
def rR (o : Option Value) : Int32 := match o with
  | some (.int x) => x
  | _ => 0
def rS (o : Option Value) : Int64 := match o with
  | some (.long x) => x
  | _ => 0
def rF (w : rz_W) (k i : Nat) : Int32 := match rz_get w k with
  | some (.inl (_, fs)) => match fs[i]? with
    | some (.int x) => x
    | _ => 0
  | _ => 0
def rI (w : rz_W) (k : Nat) : Nat → Int32 := match rz_get w k with
  | some (.inr (.inl (_, f))) => f
  | _ => fun _ => 0
def rJ (w : rz_W) (k : Nat) : Nat → Int64 := match rz_get w k with
  | some (.inr (.inr (_, f))) => f
  | _ => fun _ => 0
abbrev bI (c : Prop) [Decidable c] : Int32 := if c then 1 else 0
abbrev oCW (now : Int32) : rz_C := ro 6 [.ref 1, .ref 9, .ref 17, .ref 27, .ref 37, .ref 44, .int now]
abbrev wLk (px py ph rx ry vi sp : Nat → Int32) (po re : Int32) : rz_W := [(1, ro 2 [.ref 2, .ref 3, .ref 4, .ref 5, .ref 6, .ref 7, .ref 8, .int po, .int re]), (2, ri 6 px), (3, ri 6 py), (4, ri 6 ph), (5, ri 8 rx), (6, ri 8 ry), (7, ri 334 vi), (8, ri 6 sp)]
abbrev kLk : List Nat := [1, 2, 3, 4, 5, 6, 7, 8]
abbrev wSg (fx fy mi ax ay bx b2 : Nat → Int32) (n : Int32) : rz_W := [(9, ro 5 [.ref 10, .ref 11, .ref 12, .ref 13, .ref 14, .ref 15, .ref 16, .int n]), (10, ri 100 fx), (11, ri 100 fy), (12, ri 100 mi), (13, ri 100 ax), (14, ri 100 ay), (15, ri 100 bx), (16, ri 100 b2)]
abbrev kSg : List Nat := [9, 10, 11, 12, 13, 14, 15, 16]
abbrev wSh (a b c ex ey tx lx ty ly : Nat → Int64) (co : Int32) : rz_W := [(17, ro 4 [.ref 18, .ref 19, .ref 20, .ref 21, .ref 22, .ref 23, .ref 24, .ref 25, .ref 26, .int co]), (18, rl 4 a), (19, rl 4 b), (20, rl 4 c), (21, rl 4 ex), (22, rl 4 ey), (23, rl 6 tx), (24, rl 6 lx), (25, rl 6 ty), (26, rl 6 ly)]
abbrev kSh : List Nat := [17, 18, 19, 20, 21, 22, 23, 24, 25, 26]
abbrev wPl (fi se mi tk le bo rg tp la : Nat → Int32) (sz tr sp : Int32) : rz_W := [(27, ro 3 [.ref 28, .ref 29, .ref 30, .ref 31, .ref 32, .ref 33, .ref 34, .ref 35, .ref 36, .int sz, .int tr, .int sp]), (28, ri 60 fi), (29, ri 60 se), (30, ri 60 mi), (31, ri 60 tk), (32, ri 60 le), (33, ri 60 bo), (34, ri 60 rg), (35, ri 60 tp), (36, ri 60 la)]
abbrev kPl : List Nat := [27, 28, 29, 30, 31, 32, 33, 34, 35, 36]
abbrev wBo (pb pl pe pt lp im : Nat → Int32) (pn sz : Int32) : rz_W := [(37, ro 0 [.ref 38, .ref 39, .ref 40, .ref 41, .ref 42, .ref 43, .int pn, .int sz]), (38, ri 100 pb), (39, ri 100 pl), (40, ri 100 pe), (41, ri 100 pt), (42, ri 30 lp), (43, ri 30 im)]
abbrev kBo : List Nat := [37, 38, 39, 40, 41, 42, 43]
abbrev wCl (de lb lr lm : Nat → Int32) (wr : Int32) : rz_W := [(44, ro 1 [.ref 45, .ref 46, .ref 47, .ref 48, .int wr]), (45, ri 5 de), (46, ri 300 lb), (47, ri 300 lr), (48, ri 300 lm)]
abbrev kCl : List Nat := [44, 45, 46, 47, 48]
abbrev oMo (th po re nw si pl tr bo pn ca sp co : Int32) : rz_C := ro 7 [.int th, .ref 51, .ref 52, .ref 53, .ref 54, .ref 55, .ref 56, .int po, .int re, .int nw, .int si, .int pl, .int tr, .int bo, .int pn, .int ca, .int sp, .ref 57, .ref 58, .ref 59, .ref 60, .ref 61, .ref 62, .ref 63, .ref 64, .ref 65, .ref 66, .ref 67, .ref 68, .ref 69, .ref 70, .ref 71, .ref 72, .int co, .ref 73]
theorem lg_lt0 (x y : Int64) : lg_cmp x y < 0 ↔ x < y := by
  unfold lg_cmp
  by_cases h1 : x > y
  · rw [if_pos h1]
    constructor
    · intro h; exact absurd h (by decide)
    · intro h; exact absurd h (lg_lt_not h1)
  · rw [if_neg h1]
    by_cases h2 : x = y
    · rw [if_pos h2]
      constructor
      · intro h; exact absurd h (by decide)
      · intro h; rw [h2] at h; exact absurd h (by simp [Int64.lt_iff_toInt_lt])
    · rw [if_neg h2]
      constructor
      · intro _
        have h3 : ¬ x.toInt = y.toInt := fun z => h2 (Int64.toInt_inj.mp z)
        have h4 : ¬ y.toInt < x.toInt := fun z => h1 (Int64.lt_iff_toInt_lt.mpr z)
        exact Int64.lt_iff_toInt_lt.mpr (by omega)
      · intro _; decide
theorem lg_eq0 (x y : Int64) : lg_cmp x y = 0 ↔ x = y := by
  unfold lg_cmp
  by_cases h1 : x > y
  · rw [if_pos h1]
    constructor
    · intro h; exact absurd h (by decide)
    · intro h; rw [h] at h1; exact absurd h1 (by simp [Int64.lt_iff_toInt_lt])
  · rw [if_neg h1]
    by_cases h2 : x = y
    · rw [if_pos h2]; exact ⟨fun _ => h2, fun _ => rfl⟩
    · rw [if_neg h2]
      constructor
      · intro h; exact absurd h (by decide)
      · intro h; exact absurd h h2
theorem lg_gt0 (x y : Int64) : 0 < lg_cmp x y ↔ y < x := by
  unfold lg_cmp
  by_cases h1 : x > y
  · rw [if_pos h1]; exact ⟨fun _ => h1, fun _ => by decide⟩
  · rw [if_neg h1]
    by_cases h2 : x = y
    · rw [if_pos h2]
      constructor
      · intro h; exact absurd h (by decide)
      · intro h; exact absurd h h1
    · rw [if_neg h2]
      constructor
      · intro h; exact absurd h (by decide)
      · intro h; exact absurd h h1
theorem i32_not_lt (a b : Int32) : ¬ a < b ↔ b ≤ a := by rw [Int32.lt_iff_toInt_lt, Int32.le_iff_toInt_le]; omega
theorem i32_not_le (a b : Int32) : ¬ a ≤ b ↔ b < a := by rw [Int32.lt_iff_toInt_lt, Int32.le_iff_toInt_le]; omega
theorem i64_not_lt (a b : Int64) : ¬ a < b ↔ b ≤ a := by rw [Int64.lt_iff_toInt_lt, Int64.le_iff_toInt_le]; omega
theorem i64_not_le (a b : Int64) : ¬ a ≤ b ↔ b < a := by rw [Int64.lt_iff_toInt_lt, Int64.le_iff_toInt_le]; omega
theorem lg_ge0 (x y : Int64) : 0 ≤ lg_cmp x y ↔ y ≤ x := by rw [← i32_not_lt, lg_lt0, i64_not_lt]
theorem lg_le0 (x y : Int64) : lg_cmp x y ≤ 0 ↔ x ≤ y := by rw [← i32_not_lt, lg_gt0, i64_not_lt]
