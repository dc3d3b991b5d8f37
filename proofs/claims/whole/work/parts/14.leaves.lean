/-! Leaves: tests of bounds, and the JDK's few. -/
def ce_X6_isWithin : rz_K := (3, [], 0, true, fun av w => ∃ a b c : Int32, av = [.int a, .int b, .int c] ∧ w = [] ∧ True, fun av _ o _ => rR o = bI (rA av 1 ≤ rA av 0 ∧ rA av 0 ≤ rA av 2))
theorem vc_X6_isWithin : rz_VC k_X6_isWithin fl_X6 [] [] s_X6_isWithin true 3 ce_X6_isWithin := by
  intro av w hlen hk hpre
  obtain ⟨a, b, c, rfl, rfl, -⟩ := hpre
  refine ⟨Nat.le_of_ble_eq_true rfl, [], 30, 0, fun q h => absurd h List.not_mem_nil, ?_⟩
  conv => whnf
  refine ⟨fun h => ?_, fun h => ?_⟩
  · exact ⟨Or.inl rfl, ⟨_, rfl⟩, fun _ => rfl, (if_neg (fun z => absurd z.1 ((i32_not_le _ _).mpr h))).symm⟩
  · conv => whnf
    refine ⟨fun h2 => ?_, fun h2 => ?_⟩
    · exact ⟨Or.inl rfl, ⟨_, rfl⟩, fun _ => rfl, (if_neg (fun z => absurd z.2 ((i32_not_le _ _).mpr h2))).symm⟩
    · exact ⟨Or.inr rfl, ⟨_, rfl⟩, fun _ => rfl, (if_pos ⟨(i32_not_lt _ _).mp h, (i32_not_lt _ _).mp h2⟩).symm⟩
def cl_X6_isWithin : List (Nat × rz_K) := []
theorem cn_X6_isWithin (l : Launch) : rz_Con l yX6_isWithin cX6_isWithin 3 (some .boolean) 0 0 0 ce_X6_isWithin := rz_con (by decide +kernel) fo_X6 (fun _ h => absurd h List.not_mem_nil) (fun _ h => absurd h List.not_mem_nil) r_X6_isWithin vc_X6_isWithin
