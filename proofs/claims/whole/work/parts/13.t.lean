def ce_X6_isWithin : rz_K := (3, [], 0, true, fun av _ => ∃ a b c : Int32, av = [.int a, .int b, .int c], fun av _ o _ => ∀ a b c : Int32, av = [.int a, .int b, .int c] → o = some (.int (if b ≤ a ∧ a ≤ c then 1 else 0)))
set_option maxRecDepth 10000 in
theorem vc_X6_isWithin : rz_VC k_X6_isWithin fl_X6 [] [] s_X6_isWithin true 3 ce_X6_isWithin := by
  intro av w hlen hk hpre
  obtain ⟨a, b, c, rfl⟩ := hpre
  refine ⟨Nat.le_of_ble_eq_true rfl, [], 30, 0, fun q h => absurd h List.not_mem_nil, ?_⟩
  conv => whnf
  refine ⟨fun h => ?_, fun h => ?_⟩
  · conv => whnf
    trace_state
    sorry
  · conv => whnf
    trace_state
    sorry
