/-! Leaves: tests of bounds, and the JDK's few. -/
theorem bI_01 (c : Prop) [Decidable c] : bI c = 0 ∨ bI c = 1 := by
  by_cases h : c
  · right; exact if_pos h
  · left; exact if_neg h
theorem bI_0 {c : Prop} [Decidable c] (h : bI c = 0) : ¬ c := fun z => by
  rw [bI, if_pos z] at h
  exact absurd h (by decide)
theorem bI_n {c : Prop} [Decidable c] (h : ¬ bI c = 0) : c := Decidable.byContradiction (fun z => h (if_neg z))
theorem bI_t {c : Prop} [Decidable c] (h : c) : (1 : Int32) = bI c := (if_pos h).symm
theorem bI_f {c : Prop} [Decidable c] (h : ¬ c) : (0 : Int32) = bI c := (if_neg h).symm
theorem if_no {c : Prop} [Decidable c] {A B : Prop} (hc : ¬ c) (h : B) : if c then A else B := by rw [if_neg hc]; exact h
theorem if_yes {c : Prop} [Decidable c] {A B : Prop} (hc : c) (h : A) : if c then A else B := by rw [if_pos hc]; exact h
theorem if_n {c : Prop} [Decidable c] {A B : Prop} (h : if c then A else B) (hc : ¬ c) : B := by rw [if_neg hc] at h; exact h
theorem if_y {c : Prop} [Decidable c] {A B : Prop} (h : if c then A else B) (hc : c) : A := by rw [if_pos hc] at h; exact h
theorem vp_of {j : Int32} {n : Nat} {m : Int32} (h0 : 0 ≤ j) (h1 : ¬ m ≤ j) (hm : m.toInt = (n : Int)) : vp_in j n := by
  rw [vp_in_iff]
  rw [Int32.le_iff_toInt_le] at h0 h1
  have : (0 : Int32).toInt = 0 := rfl
  omega
theorem vp_of2 {j : Int32} {n : Nat} {m : Int32} (h0 : 0 ≤ j) (h1 : j ≤ m) (hm : m.toInt + 1 = (n : Int)) : vp_in j n := by
  rw [vp_in_iff]
  rw [Int32.le_iff_toInt_le] at h0 h1
  have : (0 : Int32).toInt = 0 := rfl
  omega
def ce_X6_isWithin : rz_K := (3, [], 0, true, fun av w => ∃ a b c : Int32, av = [.int a, .int b, .int c] ∧ w = [] ∧ True, fun av _ o _ => rR o = bI (rA av 1 ≤ rA av 0 ∧ rA av 0 ≤ rA av 2))
theorem vc_X6_isWithin : rz_VC k_X6_isWithin fl_X6 [] [] s_X6_isWithin true 3 ce_X6_isWithin := by
  intro av w hlen hk hpre
  obtain ⟨a, b, c, rfl, rfl, -⟩ := hpre
  refine ⟨Nat.le_of_ble_eq_true rfl, [], 30, 0, fun q h => absurd h List.not_mem_nil, ?_⟩
  conv => whnf
  refine ⟨fun h => ?_, fun h => ?_⟩
  · exact ⟨Or.inl rfl, ⟨_, rfl⟩, fun _ => rfl, bI_f (fun z => absurd z.1 ((i32_not_le _ _).mpr h))⟩
  · conv => whnf
    refine ⟨fun h2 => ?_, fun h2 => ?_⟩
    · exact ⟨Or.inl rfl, ⟨_, rfl⟩, fun _ => rfl, bI_f (fun z => absurd z.2 ((i32_not_le _ _).mpr h2))⟩
    · exact ⟨Or.inr rfl, ⟨_, rfl⟩, fun _ => rfl, bI_t ⟨(i32_not_lt _ _).mp h, (i32_not_lt _ _).mp h2⟩⟩
theorem cn_X6_isWithin (l : Launch) : rz_Con l yX6_isWithin cX6_isWithin 3 (some .boolean) 0 0 0 ce_X6_isWithin := rz_con (by decide +kernel) fo_X6 (fun _ h => absurd h List.not_mem_nil) (fun _ h => absurd h List.not_mem_nil) r_X6_isWithin vc_X6_isWithin
def ce_X7_isIn : rz_K := (3, [], 0, true, fun av w => ∃ a b c : Int32, av = [.int a, .int b, .int c] ∧ w = [] ∧ True, fun av _ o _ => rR o = bI (rA av 1 ≤ rA av 0 ∧ rA av 0 ≤ rA av 2))
theorem vc_X7_isIn : rz_VC k_X7_isIn fl_X7 [] [] s_X7_isIn true 3 ce_X7_isIn := by
  intro av w hlen hk hpre
  obtain ⟨a, b, c, rfl, rfl, -⟩ := hpre
  refine ⟨Nat.le_of_ble_eq_true rfl, [], 30, 0, fun q h => absurd h List.not_mem_nil, ?_⟩
  conv => whnf
  refine ⟨fun h => ?_, fun h => ?_⟩
  · exact ⟨Or.inl rfl, ⟨_, rfl⟩, fun _ => rfl, bI_f (fun z => absurd z.1 ((i32_not_le _ _).mpr h))⟩
  · conv => whnf
    refine ⟨fun h2 => ?_, fun h2 => ?_⟩
    · exact ⟨Or.inl rfl, ⟨_, rfl⟩, fun _ => rfl, bI_f (fun z => absurd z.2 ((i32_not_le _ _).mpr h2))⟩
    · exact ⟨Or.inr rfl, ⟨_, rfl⟩, fun _ => rfl, bI_t ⟨(i32_not_lt _ _).mp h, (i32_not_lt _ _).mp h2⟩⟩
theorem cn_X7_isIn (l : Launch) : rz_Con l yX7_isIn cX7_isIn 3 (some .boolean) 0 0 0 ce_X7_isIn := rz_con (by decide +kernel) fo_X7 (fun _ h => absurd h List.not_mem_nil) (fun _ h => absurd h List.not_mem_nil) r_X7_isIn vc_X7_isIn
def ce_X6_isPlace : rz_K := (2, [], 0, true, fun av w => ∃ x y : Int32, av = [.int x, .int y] ∧ w = [] ∧ True, fun av _ o _ => rR o = bI (0 ≤ rA av 0 ∧ rA av 0 ≤ 2000 ∧ 0 ≤ rA av 1 ∧ rA av 1 ≤ 2000))
def cl_X6_isPlace : List (Nat × rz_K) := [(59, ce_X6_isWithin)]
def cv_X6_isPlace : List (Nat × rz_K) := []
theorem vc_X6_isPlace : rz_VC k_X6_isPlace fl_X6 cl_X6_isPlace cv_X6_isPlace s_X6_isPlace true 2 ce_X6_isPlace := by
  intro av w hlen hk hpre
  obtain ⟨x, y, rfl, rfl, -⟩ := hpre
  refine ⟨Nat.le_of_ble_eq_true rfl, [], 30, 0, fun q h => absurd h List.not_mem_nil, ?_⟩
  conv => whnf
  refine ⟨⟨_, _, _, rfl, rfl, trivial⟩, ?_⟩
  intro r hr
  obtain rfl : r = bI (0 ≤ x ∧ x ≤ 2000) := hr
  conv => whnf
  refine ⟨fun h => ?_, fun h => ?_⟩
  · exact ⟨Or.inl rfl, ⟨_, rfl⟩, fun _ => rfl, bI_f (fun z => bI_0 h ⟨z.1, z.2.1⟩)⟩
  · conv => whnf
    refine ⟨⟨_, _, _, rfl, rfl, trivial⟩, ?_⟩
    intro r hr
    obtain rfl : r = bI (0 ≤ y ∧ y ≤ 2000) := hr
    conv => whnf
    refine ⟨fun h2 => ?_, fun h2 => ?_⟩
    · exact ⟨Or.inl rfl, ⟨_, rfl⟩, fun _ => rfl, bI_f (fun z => bI_0 h2 z.2.2)⟩
    · exact ⟨Or.inr rfl, ⟨_, rfl⟩, fun _ => rfl, bI_t ⟨(bI_n h).1, (bI_n h).2, bI_n h2⟩⟩
theorem cn_X6_isPlace (l : Launch) : rz_Con l yX6_isPlace cX6_isPlace 2 (some .boolean) 1 0 0 ce_X6_isPlace := rz_con (by decide +kernel) fo_X6 (by
  intro q hq
  rcases List.mem_cons.mp hq with rfl | hq
  · exact rz_callS (cn_X6_isWithin l) (by decide +kernel) ⟨Nat.le_of_ble_eq_true rfl, Nat.le_of_ble_eq_true rfl⟩ m_X6_isWithin t_X6_isWithin n_X6_59
  exact absurd hq List.not_mem_nil) (fun _ h => absurd h List.not_mem_nil) r_X6_isPlace vc_X6_isPlace
def ce_X7_isPlace : rz_K := (2, [], 0, true, fun av w => ∃ x y : Int32, av = [.int x, .int y] ∧ w = [] ∧ True, fun av _ o _ => rR o = bI (0 ≤ rA av 0 ∧ rA av 0 ≤ 2000 ∧ 0 ≤ rA av 1 ∧ rA av 1 ≤ 2000))
def cl_X7_isPlace : List (Nat × rz_K) := [(87, ce_X7_isIn)]
def cv_X7_isPlace : List (Nat × rz_K) := []
theorem vc_X7_isPlace : rz_VC k_X7_isPlace fl_X7 cl_X7_isPlace cv_X7_isPlace s_X7_isPlace true 2 ce_X7_isPlace := by
  intro av w hlen hk hpre
  obtain ⟨x, y, rfl, rfl, -⟩ := hpre
  refine ⟨Nat.le_of_ble_eq_true rfl, [], 30, 0, fun q h => absurd h List.not_mem_nil, ?_⟩
  conv => whnf
  refine ⟨⟨_, _, _, rfl, rfl, trivial⟩, ?_⟩
  intro r hr
  obtain rfl : r = bI (0 ≤ x ∧ x ≤ 2000) := hr
  conv => whnf
  refine ⟨fun h => ?_, fun h => ?_⟩
  · exact ⟨Or.inl rfl, ⟨_, rfl⟩, fun _ => rfl, bI_f (fun z => bI_0 h ⟨z.1, z.2.1⟩)⟩
  · conv => whnf
    refine ⟨⟨_, _, _, rfl, rfl, trivial⟩, ?_⟩
    intro r hr
    obtain rfl : r = bI (0 ≤ y ∧ y ≤ 2000) := hr
    conv => whnf
    refine ⟨fun h2 => ?_, fun h2 => ?_⟩
    · exact ⟨Or.inl rfl, ⟨_, rfl⟩, fun _ => rfl, bI_f (fun z => bI_0 h2 z.2.2)⟩
    · exact ⟨Or.inr rfl, ⟨_, rfl⟩, fun _ => rfl, bI_t ⟨(bI_n h).1, (bI_n h).2, bI_n h2⟩⟩
theorem cn_X7_isPlace (l : Launch) : rz_Con l yX7_isPlace cX7_isPlace 2 (some .boolean) 1 0 0 ce_X7_isPlace := rz_con (by decide +kernel) fo_X7 (by
  intro q hq
  rcases List.mem_cons.mp hq with rfl | hq
  · exact rz_callS (cn_X7_isIn l) (by decide +kernel) ⟨Nat.le_of_ble_eq_true rfl, Nat.le_of_ble_eq_true rfl⟩ m_X7_isIn t_X7_isIn n_X7_87
  exact absurd hq List.not_mem_nil) (fun _ h => absurd h List.not_mem_nil) r_X7_isPlace vc_X7_isPlace
def ce_X6_isEdge : rz_K := (2, [], 0, true, fun av w => ∃ x y : Int32, av = [.int x, .int y] ∧ w = [] ∧ True, fun av _ o _ => rR o = bI (-50 ≤ rA av 0 ∧ rA av 0 ≤ 50 ∧ -50 ≤ rA av 1 ∧ rA av 1 ≤ 50))
def cl_X6_isEdge : List (Nat × rz_K) := [(59, ce_X6_isWithin)]
def cv_X6_isEdge : List (Nat × rz_K) := []
theorem vc_X6_isEdge : rz_VC k_X6_isEdge fl_X6 cl_X6_isEdge cv_X6_isEdge s_X6_isEdge true 2 ce_X6_isEdge := by
  intro av w hlen hk hpre
  obtain ⟨x, y, rfl, rfl, -⟩ := hpre
  refine ⟨Nat.le_of_ble_eq_true rfl, [], 30, 0, fun q h => absurd h List.not_mem_nil, ?_⟩
  conv => whnf
  refine ⟨⟨_, _, _, rfl, rfl, trivial⟩, ?_⟩
  intro r hr
  obtain rfl : r = bI (-50 ≤ x ∧ x ≤ 50) := hr
  conv => whnf
  refine ⟨fun h => ?_, fun h => ?_⟩
  · exact ⟨Or.inl rfl, ⟨_, rfl⟩, fun _ => rfl, bI_f (fun z => bI_0 h ⟨z.1, z.2.1⟩)⟩
  · conv => whnf
    refine ⟨⟨_, _, _, rfl, rfl, trivial⟩, ?_⟩
    intro r hr
    obtain rfl : r = bI (-50 ≤ y ∧ y ≤ 50) := hr
    conv => whnf
    refine ⟨fun h2 => ?_, fun h2 => ?_⟩
    · exact ⟨Or.inl rfl, ⟨_, rfl⟩, fun _ => rfl, bI_f (fun z => bI_0 h2 z.2.2)⟩
    · exact ⟨Or.inr rfl, ⟨_, rfl⟩, fun _ => rfl, bI_t ⟨(bI_n h).1, (bI_n h).2, bI_n h2⟩⟩
theorem cn_X6_isEdge (l : Launch) : rz_Con l yX6_isEdge cX6_isEdge 2 (some .boolean) 1 0 0 ce_X6_isEdge := rz_con (by decide +kernel) fo_X6 (by
  intro q hq
  rcases List.mem_cons.mp hq with rfl | hq
  · exact rz_callS (cn_X6_isWithin l) (by decide +kernel) ⟨Nat.le_of_ble_eq_true rfl, Nat.le_of_ble_eq_true rfl⟩ m_X6_isWithin t_X6_isWithin n_X6_59
  exact absurd hq List.not_mem_nil) (fun _ h => absurd h List.not_mem_nil) r_X6_isEdge vc_X6_isEdge
def ce_X6_isHour : rz_K := (1, [], 0, true, fun av w => ∃ x : Int32, av = [.int x] ∧ w = [] ∧ True, fun av _ o _ => rR o = bI (0 ≤ rA av 0 ∧ rA av 0 ≤ 333))
def cl_X6_isHour : List (Nat × rz_K) := [(59, ce_X6_isWithin)]
def cv_X6_isHour : List (Nat × rz_K) := []
theorem vc_X6_isHour : rz_VC k_X6_isHour fl_X6 cl_X6_isHour cv_X6_isHour s_X6_isHour true 1 ce_X6_isHour := by
  intro av w hlen hk hpre
  obtain ⟨x, rfl, rfl, -⟩ := hpre
  refine ⟨Nat.le_of_ble_eq_true rfl, [], 30, 0, fun q h => absurd h List.not_mem_nil, ?_⟩
  conv => whnf
  refine ⟨⟨_, _, _, rfl, rfl, trivial⟩, ?_⟩
  intro r hr
  obtain rfl : r = bI (0 ≤ x ∧ x ≤ 333) := hr
  conv => whnf
  exact ⟨bI_01 _, ⟨_, rfl⟩, fun _ => rfl, rfl⟩
theorem cn_X6_isHour (l : Launch) : rz_Con l yX6_isHour cX6_isHour 1 (some .boolean) 1 0 0 ce_X6_isHour := rz_con (by decide +kernel) fo_X6 (by
  intro q hq
  rcases List.mem_cons.mp hq with rfl | hq
  · exact rz_callS (cn_X6_isWithin l) (by decide +kernel) ⟨Nat.le_of_ble_eq_true rfl, Nat.le_of_ble_eq_true rfl⟩ m_X6_isWithin t_X6_isWithin n_X6_59
  exact absurd hq List.not_mem_nil) (fun _ h => absurd h List.not_mem_nil) r_X6_isHour vc_X6_isHour
def ce_X6_isMinute : rz_K := (1, [], 0, true, fun av w => ∃ x : Int32, av = [.int x] ∧ w = [] ∧ True, fun av _ o _ => rR o = bI (0 ≤ rA av 0 ∧ rA av 0 ≤ 20000))
def cl_X6_isMinute : List (Nat × rz_K) := [(59, ce_X6_isWithin)]
def cv_X6_isMinute : List (Nat × rz_K) := []
theorem vc_X6_isMinute : rz_VC k_X6_isMinute fl_X6 cl_X6_isMinute cv_X6_isMinute s_X6_isMinute true 1 ce_X6_isMinute := by
  intro av w hlen hk hpre
  obtain ⟨x, rfl, rfl, -⟩ := hpre
  refine ⟨Nat.le_of_ble_eq_true rfl, [], 30, 0, fun q h => absurd h List.not_mem_nil, ?_⟩
  conv => whnf
  refine ⟨⟨_, _, _, rfl, rfl, trivial⟩, ?_⟩
  intro r hr
  obtain rfl : r = bI (0 ≤ x ∧ x ≤ 20000) := hr
  conv => whnf
  exact ⟨bI_01 _, ⟨_, rfl⟩, fun _ => rfl, rfl⟩
theorem cn_X6_isMinute (l : Launch) : rz_Con l yX6_isMinute cX6_isMinute 1 (some .boolean) 1 0 0 ce_X6_isMinute := rz_con (by decide +kernel) fo_X6 (by
  intro q hq
  rcases List.mem_cons.mp hq with rfl | hq
  · exact rz_callS (cn_X6_isWithin l) (by decide +kernel) ⟨Nat.le_of_ble_eq_true rfl, Nat.le_of_ble_eq_true rfl⟩ m_X6_isWithin t_X6_isWithin n_X6_59
  exact absurd hq List.not_mem_nil) (fun _ h => absurd h List.not_mem_nil) r_X6_isMinute vc_X6_isMinute
-- the JDK's
abbrev iu (x : Int32) (n : Int32) : Int32 := (x.toUInt32 >>> (n.toUInt32 &&& Int32.toUInt32 31)).toInt32
def bc (i : Int32) : Int32 :=
  let a := i - (iu i 1 &&& 1431655765)
  let b := (a &&& 858993459) + (iu a 2 &&& 858993459)
  let c := (b + iu b 4) &&& 252645135
  let d := c + iu c 8
  let e := d + iu d 16
  e &&& 63
def ce_J6_bitCount_0f7a4 : rz_K := (1, [], 0, true, fun av w => ∃ x : Int32, av = [.int x] ∧ w = [] ∧ True, fun av _ o _ => rR o = bc (rA av 0))
theorem vc_J6_bitCount_0f7a4 : rz_VC k_J6_bitCount_0f7a4 fl_J6 [] [] s_J6_bitCount_0f7a4 false 1 ce_J6_bitCount_0f7a4 := by
  intro av w hlen hk hpre
  obtain ⟨x, rfl, rfl, -⟩ := hpre
  refine ⟨Nat.le_of_ble_eq_true rfl, [], 60, 0, fun q h => absurd h List.not_mem_nil, ?_⟩
  conv => whnf
  intro a ea
  conv => whnf
  intro b eb
  conv => whnf
  intro c ec
  conv => whnf
  intro d ed
  conv => whnf
  intro e ee
  conv => whnf
  refine ⟨⟨_, rfl⟩, fun _ => rfl, ?_⟩
  show e &&& 63 = bc x
  rw [ee, ed, ec, eb, ea]
  rfl
theorem cn_J6_bitCount_0f7a4 (l : Launch) : rz_Con l yJ6_bitCount_0f7a4 cJ6_bitCount_0f7a4 1 (some .int) 0 0 0 ce_J6_bitCount_0f7a4 := rz_con (by decide +kernel) fo_J6 (fun _ h => absurd h List.not_mem_nil) (fun _ h => absurd h List.not_mem_nil) r_J6_bitCount_0f7a4 vc_J6_bitCount_0f7a4
def ce_J13_compare_74951 : rz_K := (2, [], 0, true, fun av w => ∃ x y : Int64, av = [.long x, .long y] ∧ w = [] ∧ True, fun av _ o _ => rR o = lg_cmp (rB av 0) (rB av 1))
theorem vc_J13_compare_74951 : rz_VC k_J13_compare_74951 fl_J13 [] [] s_J13_compare_74951 false 4 ce_J13_compare_74951 := by
  intro av w hlen hk hpre
  obtain ⟨x, y, rfl, rfl, -⟩ := hpre
  refine ⟨Nat.le_of_ble_eq_true rfl, [], 60, 0, fun q h => absurd h List.not_mem_nil, ?_⟩
  conv => whnf
  refine ⟨fun h => ?_, fun h => ?_⟩
  · conv => whnf
    refine ⟨fun h2 => ?_, fun h2 => ?_⟩
    · refine ⟨⟨_, rfl⟩, fun _ => rfl, ?_⟩
      show (0 : Int32) = lg_cmp x y
      exact h2.symm
    · refine ⟨⟨_, rfl⟩, fun _ => rfl, ?_⟩
      show (1 : Int32) = lg_cmp x y
      have h3 : y < x := by
        have a := (lg_ge0 x y).mp h
        have b : ¬ x = y := fun z => h2 ((lg_eq0 x y).mpr z)
        rw [Int64.le_iff_toInt_le] at a
        rw [Int64.lt_iff_toInt_lt]
        have : ¬ x.toInt = y.toInt := fun z => b (Int64.toInt_inj.mp z)
        omega
      unfold lg_cmp
      rw [if_pos h3]
  · refine ⟨⟨_, rfl⟩, fun _ => rfl, ?_⟩
    show (-1 : Int32) = lg_cmp x y
    have h3 : x < y := (i64_not_le _ _).mp (fun z => h ((lg_ge0 x y).mpr z))
    unfold lg_cmp
    rw [if_neg (lg_lt_not h3), if_neg (fun z => by rw [z, Int64.lt_iff_toInt_lt] at h3; omega)]
theorem cn_J13_compare_74951 (l : Launch) : rz_Con l yJ13_compare_74951 cJ13_compare_74951 4 (some .int) 0 0 0 ce_J13_compare_74951 := rz_con (by decide +kernel) fo_J13 (fun _ h => absurd h List.not_mem_nil) (fun _ h => absurd h List.not_mem_nil) r_J13_compare_74951 vc_J13_compare_74951
def ce_J9_abs_067f4 : rz_K := (1, [], 1, true, fun av w => ∃ x : Int64, av = [.long x] ∧ w = [] ∧ True, fun av _ o _ => rS o = if 0 ≤ rB av 0 then rB av 0 else - rB av 0)
theorem vc_J9_abs_067f4 : rz_VC k_J9_abs_067f4 fl_J9 [] [] s_J9_abs_067f4 false 2 ce_J9_abs_067f4 := by
  intro av w hlen hk hpre
  obtain ⟨x, rfl, rfl, -⟩ := hpre
  refine ⟨Nat.le_of_ble_eq_true rfl, [], 60, 0, fun q h => absurd h List.not_mem_nil, ?_⟩
  conv => whnf
  refine ⟨fun h => ?_, fun h => ?_⟩
  · exact ⟨⟨_, rfl⟩, fun _ => rfl, (if_pos ((lg_ge0 x 0).mp h)).symm⟩
  · exact ⟨⟨_, rfl⟩, fun _ => rfl, (if_neg (fun z => h ((lg_ge0 x 0).mpr z))).symm⟩
theorem cn_J9_abs_067f4 (l : Launch) : rz_Con l yJ9_abs_067f4 cJ9_abs_067f4 2 (some .long) 0 0 0 ce_J9_abs_067f4 := rz_con (by decide +kernel) fo_J9 (fun _ h => absurd h List.not_mem_nil) (fun _ h => absurd h List.not_mem_nil) r_J9_abs_067f4 vc_J9_abs_067f4
def ce_J9_max_f86c9 : rz_K := (2, [], 1, true, fun av w => ∃ x y : Int64, av = [.long x, .long y] ∧ w = [] ∧ True, fun av _ o _ => rS o = if rB av 0 < rB av 1 then rB av 1 else rB av 0)
theorem vc_J9_max_f86c9 : rz_VC k_J9_max_f86c9 fl_J9 [] [] s_J9_max_f86c9 false 4 ce_J9_max_f86c9 := by
  intro av w hlen hk hpre
  obtain ⟨x, y, rfl, rfl, -⟩ := hpre
  refine ⟨Nat.le_of_ble_eq_true rfl, [], 60, 0, fun q h => absurd h List.not_mem_nil, ?_⟩
  conv => whnf
  refine ⟨fun h => ?_, fun h => ?_⟩
  · exact ⟨⟨_, rfl⟩, fun _ => rfl, (if_pos ((lg_lt0 x y).mp h)).symm⟩
  · exact ⟨⟨_, rfl⟩, fun _ => rfl, (if_neg (fun z => h ((lg_lt0 x y).mpr z))).symm⟩
theorem cn_J9_max_f86c9 (l : Launch) : rz_Con l yJ9_max_f86c9 cJ9_max_f86c9 4 (some .long) 0 0 0 ce_J9_max_f86c9 := rz_con (by decide +kernel) fo_J9 (fun _ h => absurd h List.not_mem_nil) (fun _ h => absurd h List.not_mem_nil) r_J9_max_f86c9 vc_J9_max_f86c9
def ce_J9_min_f86c9 : rz_K := (2, [], 1, true, fun av w => ∃ x y : Int64, av = [.long x, .long y] ∧ w = [] ∧ True, fun av _ o _ => rS o = if rB av 1 < rB av 0 then rB av 1 else rB av 0)
theorem vc_J9_min_f86c9 : rz_VC k_J9_min_f86c9 fl_J9 [] [] s_J9_min_f86c9 false 4 ce_J9_min_f86c9 := by
  intro av w hlen hk hpre
  obtain ⟨x, y, rfl, rfl, -⟩ := hpre
  refine ⟨Nat.le_of_ble_eq_true rfl, [], 60, 0, fun q h => absurd h List.not_mem_nil, ?_⟩
  conv => whnf
  refine ⟨fun h => ?_, fun h => ?_⟩
  · exact ⟨⟨_, rfl⟩, fun _ => rfl, (if_pos ((lg_gt0 x y).mp h)).symm⟩
  · exact ⟨⟨_, rfl⟩, fun _ => rfl, (if_neg (fun z => h ((lg_gt0 x y).mpr z))).symm⟩
theorem cn_J9_min_f86c9 (l : Launch) : rz_Con l yJ9_min_f86c9 cJ9_min_f86c9 4 (some .long) 0 0 0 ce_J9_min_f86c9 := rz_con (by decide +kernel) fo_J9 (fun _ h => absurd h List.not_mem_nil) (fun _ h => absurd h List.not_mem_nil) r_J9_min_f86c9 vc_J9_min_f86c9
def ce_J9_min_7cf53 : rz_K := (2, [], 0, true, fun av w => ∃ x y : Int32, av = [.int x, .int y] ∧ w = [] ∧ True, fun av _ o _ => rR o = if rA av 1 < rA av 0 then rA av 1 else rA av 0)
theorem vc_J9_min_7cf53 : rz_VC k_J9_min_7cf53 fl_J9 [] [] s_J9_min_7cf53 false 2 ce_J9_min_7cf53 := by
  intro av w hlen hk hpre
  obtain ⟨x, y, rfl, rfl, -⟩ := hpre
  refine ⟨Nat.le_of_ble_eq_true rfl, [], 60, 0, fun q h => absurd h List.not_mem_nil, ?_⟩
  conv => whnf
  refine ⟨fun h => ?_, fun h => ?_⟩
  · exact ⟨⟨_, rfl⟩, fun _ => rfl, (if_pos h).symm⟩
  · exact ⟨⟨_, rfl⟩, fun _ => rfl, (if_neg h).symm⟩
theorem cn_J9_min_7cf53 (l : Launch) : rz_Con l yJ9_min_7cf53 cJ9_min_7cf53 2 (some .int) 0 0 0 ce_J9_min_7cf53 := rz_con (by decide +kernel) fo_J9 (fun _ h => absurd h List.not_mem_nil) (fun _ h => absurd h List.not_mem_nil) r_J9_min_7cf53 vc_J9_min_7cf53
/-- floorDiv as the JDK has it -/
def fdv (x y : Int64) : Int64 := if x ^^^ y < 0 ∧ ¬ x / y * y = x then x / y - 1 else x / y
def ce_J9_floorDiv_f86c9 : rz_K := (2, [], 1, true, fun av w => ∃ x y : Int64, av = [.long x, .long y] ∧ w = [] ∧ ¬ y = 0, fun av _ o _ => rS o = fdv (rB av 0) (rB av 1))
theorem vc_J9_floorDiv_f86c9 : rz_VC k_J9_floorDiv_f86c9 fl_J9 [] [] s_J9_floorDiv_f86c9 false 6 ce_J9_floorDiv_f86c9 := by
  intro av w hlen hk hpre
  obtain ⟨x, y, rfl, rfl, hy⟩ := hpre
  refine ⟨Nat.le_of_ble_eq_true rfl, [], 60, 0, fun q h => absurd h List.not_mem_nil, ?_⟩
  conv => whnf
  refine ⟨hy, ?_⟩
  conv => whnf
  rintro _ rfl
  conv => whnf
  refine ⟨fun h => ?_, fun h => ?_⟩
  · refine ⟨⟨_, rfl⟩, fun _ => rfl, ?_⟩
    show x / y = fdv x y
    exact (if_neg (fun z => absurd z.1 ((i64_not_lt _ _).mpr ((lg_ge0 _ _).mp h)))).symm
  · have h' : x ^^^ y < 0 := (i64_not_le _ _).mp (fun z => h ((lg_ge0 _ _).mpr z))
    conv => whnf
    refine ⟨fun h2 => ?_, fun h2 => ?_⟩
    · refine ⟨⟨_, rfl⟩, fun _ => rfl, ?_⟩
      show x / y = fdv x y
      exact (if_neg (fun z => z.2 ((lg_eq0 _ _).mp h2))).symm
    · refine ⟨⟨_, rfl⟩, fun _ => rfl, ?_⟩
      show x / y - 1 = fdv x y
      exact (if_pos ⟨h', fun z => h2 ((lg_eq0 _ _).mpr z)⟩).symm
theorem cn_J9_floorDiv_f86c9 (l : Launch) : rz_Con l yJ9_floorDiv_f86c9 cJ9_floorDiv_f86c9 6 (some .long) 0 0 0 ce_J9_floorDiv_f86c9 := rz_con (by decide +kernel) fo_J9 (fun _ h => absurd h List.not_mem_nil) (fun _ h => absurd h List.not_mem_nil) r_J9_floorDiv_f86c9 vc_J9_floorDiv_f86c9
