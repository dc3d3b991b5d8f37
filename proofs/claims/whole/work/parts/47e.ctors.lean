/-! Constructors of the class and of the reference. -/
/-- f with v below n -/
def flV (v : Int32) (f : Nat → Int32) (n : Nat) : Nat → Int32 := fun i => if i < n then v else f i
theorem flV_0 (v : Int32) (f : Nat → Int32) : flV v f 0 = f := by
  funext i
  show (if i < 0 then v else f i) = f i
  rw [if_neg (Nat.not_lt_zero i)]
theorem flV_s (v : Int32) (f : Nat → Int32) (n : Nat) : upd (flV v f n) n v = flV v f (n + 1) := by
  funext i
  unfold upd flV
  by_cases h : i = n
  · rw [if_pos h, if_pos (by omega)]
  · rw [if_neg h]
    by_cases h2 : i < n
    · rw [if_pos h2, if_pos (by omega)]
    · rw [if_neg h2, if_neg (by omega)]
def ce_fill (k N : Nat) : rz_K := (2, [k], 2, false, fun av w => ∃ (f : Nat → Int32) (v : Int32), av = [.ref k, .int v] ∧ w = [(k, ri N f)] ∧ True, fun av w _ w' => w' = [(k, ri N (flV (rA av 1) (rI w k) N))])
theorem rI_self (k N : Nat) (f : Nat → Int32) : rI [(k, ri N f)] k = f := by
  unfold rI
  have : rz_get [(k, ri N f)] k = some (ri N f) := by
    unfold rz_get
    rw [show Nat.beq k k = true from Nat.beq_refl k]
  rw [this]
theorem vc_fill (k N : Nat) (hN : N < 2 ^ 30) (hk : Nat.beq k k = true) : rz_VC k_J7_fill_53178 fl_J7 [] [] s_J7_fill_53178 false 4 (ce_fill k N) := by
  intro av w hlen hkk hpre
  obtain ⟨f, v, rfl, rfl, -⟩ := hpre
  have hget : ∀ g : Nat → Int32, rz_get [(k, ri N g)] k = some (ri N g) := fun g => by
    unfold rz_get
    rw [hk]
  have hset : ∀ g g' : Nat → Int32, rz_set [(k, ri N g)] k (ri N g') = [(k, ri N g')] := fun g g' => by
    unfold rz_set
    rw [hk]
  refine ⟨Nat.le_of_ble_eq_true rfl, [(5, [0, 1, 2, 3], fun y lv w' => ∃ i : Nat, i ≤ N ∧ lv = [(0, .ref k), (1, .int v), (2, .int (nI i)), (3, .int (nI N))] ∧ w' = [(k, ri N (flV v f i))] ∧ y = N - i)], 60, N + 1, ?_, ?_⟩
  · intro q hq y lv w' hj
    rcases List.mem_cons.mp hq with rfl | hq
    · obtain ⟨i, hi, rfl, rfl, rfl⟩ := hj
      conv => whnf
      refine ⟨fun c => ?_, fun c => ?_⟩
      · have e : i = N := by
          have := (nI_leI (by omega) (by omega)).mp c
          omega
        subst e
        refine ⟨rfl, fun z => (by cases z), ?_⟩
        show [(k, ri i (flV v f i))] = [(k, ri i (flV v (rI [(k, ri i f)] k) i))]
        rw [rI_self]
      · have hi2 : i < N := by
          rcases Nat.lt_or_ge i N with z | z
          · exact z
          · exact absurd (nI_le z (by omega)) c
        show rz_ai [(k, ri N (flV v f i))] k _
        unfold rz_ai
        rw [hget]
        refine ⟨vp_in_nI hi2 (by omega), ?_⟩
        conv => whnf
        rintro _ rfl
        conv => whnf
        refine ⟨N - (i + 1), by omega, i + 1, by omega, ?_, ?_, rfl⟩
        · show [_, _, (2, Value.int (nI i + 1)), _] = _
          rw [nI_1]
        · show rz_set [(k, ri N (flV v f i))] k (ri N (upd (flV v f i) (nI i).toNatClampNeg v)) = _
          rw [hset, nI_clamp (by omega), flV_s]
    · exact absurd hq List.not_mem_nil
  · conv => whnf
    rintro _ rfl
    show rz_ai [(k, ri N f)] k _
    unfold rz_ai
    rw [hget]
    conv => whnf
    rintro _ rfl
    conv => whnf
    refine ⟨N, by omega, 0, by omega, rfl, ?_, rfl⟩
    rw [flV_0]
theorem cn_fill (l : Launch) (k N : Nat) (hN : N < 2 ^ 30) : rz_Con l yJ7_fill_53178 cJ7_fill_53178 4 none 0 0 0 (ce_fill k N) := rz_con (by decide +kernel) fo_J7 (fun _ h => absurd h List.not_mem_nil) (fun _ h => absurd h List.not_mem_nil) r_J7_fill_53178 (vc_fill k N hN (Nat.beq_refl k))
abbrev z0 : Nat → Int32 := fun _ => 0
abbrev z1 : Nat → Int64 := fun _ => 0
def z_X0 : rz_Z := (37, ro 0 [.null, .null, .null, .null, .null, .null, .int 0, .int 0], ro 0 [.ref 38, .ref 39, .ref 40, .ref 41, .ref 42, .ref 43, .int 0, .int 0], [(38, ri 100 z0), (39, ri 100 z0), (40, ri 100 z0), (41, ri 100 z0), (42, ri 30 z0), (43, ri 30 z0)], 6, 460)
def z_X1 : rz_Z := (44, ro 1 [.null, .null, .null, .null, .int 0], ro 1 [.ref 45, .ref 46, .ref 47, .ref 48, .int 0], [(45, ri 5 (flV (-1) z0 5)), (46, ri 300 z0), (47, ri 300 z0), (48, ri 300 z0)], 4, 905)
def z_X2 : rz_Z := (1, ro 2 [.null, .null, .null, .null, .null, .null, .null, .int 0, .int 0], ro 2 [.ref 2, .ref 3, .ref 4, .ref 5, .ref 6, .ref 7, .ref 8, .int 0, .int 0], [(2, ri 6 z0), (3, ri 6 z0), (4, ri 6 z0), (5, ri 8 z0), (6, ri 8 z0), (7, ri 334 (flV 300 z0 334)), (8, ri 6 z0)], 7, 374)
def z_X3 : rz_Z := (27, ro 3 [.null, .null, .null, .null, .null, .null, .null, .null, .null, .int 0, .int 0, .int 0], ro 3 [.ref 28, .ref 29, .ref 30, .ref 31, .ref 32, .ref 33, .ref 34, .ref 35, .ref 36, .int 0, .int 0, .int 10], [(28, ri 60 z0), (29, ri 60 z0), (30, ri 60 z0), (31, ri 60 z0), (32, ri 60 z0), (33, ri 60 z0), (34, ri 60 z0), (35, ri 60 z0), (36, ri 60 z0)], 9, 540)
def z_X4 : rz_Z := (17, ro 4 [.null, .null, .null, .null, .null, .null, .null, .null, .null, .int 0], ro 4 [.ref 18, .ref 19, .ref 20, .ref 21, .ref 22, .ref 23, .ref 24, .ref 25, .ref 26, .int 0], [(18, rl 4 z1), (19, rl 4 z1), (20, rl 4 z1), (21, rl 4 z1), (22, rl 4 z1), (23, rl 6 z1), (24, rl 6 z1), (25, rl 6 z1), (26, rl 6 z1)], 9, 44)
def z_X5 : rz_Z := (9, ro 5 [.null, .null, .null, .null, .null, .null, .null, .int 0], ro 5 [.ref 10, .ref 11, .ref 12, .ref 13, .ref 14, .ref 15, .ref 16, .int 0], [(10, ri 100 z0), (11, ri 100 z0), (12, ri 100 z0), (13, ri 100 z0), (14, ri 100 z0), (15, ri 100 z0), (16, ri 100 z0)], 7, 700)
theorem vz_X0 : rz_VCC x_df [] xa_X0_init k_X0_init fl_X0 [] z_X0 := by
  refine ⟨[], 60, 0, fun q h => absurd h List.not_mem_nil, ?_⟩
  iterate 6
    conv => whnf
    refine ⟨rfl, Nat.le_of_ble_eq_true rfl, Nat.le_of_ble_eq_true rfl, ?_⟩
  conv => whnf
  exact ⟨rfl, rfl⟩
def xf_X1 : List (Nat × rz_K) := [(28, ce_fill 45 5)]
theorem vz_X1 : rz_VCC x_df [] xa_X1_init k_X1_init fl_X1 xf_X1 z_X1 := by
  refine ⟨[], 80, 0, fun q h => absurd h List.not_mem_nil, ?_⟩
  iterate 4
    conv => whnf
    refine ⟨rfl, Nat.le_of_ble_eq_true rfl, Nat.le_of_ble_eq_true rfl, ?_⟩
  conv => whnf
  refine ⟨⟨_, _, rfl, rfl, trivial⟩, ?_⟩
  intro wc hwc
  have hwc : wc = [(45, ri 5 (flV (-1) z0 5))] := hwc
  subst hwc
  conv => whnf
  exact ⟨rfl, rfl⟩
def xf_X2 : List (Nat × rz_K) := [(40, ce_fill 7 334)]
theorem vz_X2 : rz_VCC x_df [] xa_X2_init k_X2_init fl_X2 xf_X2 z_X2 := by
  refine ⟨[], 80, 0, fun q h => absurd h List.not_mem_nil, ?_⟩
  iterate 7
    conv => whnf
    refine ⟨rfl, Nat.le_of_ble_eq_true rfl, Nat.le_of_ble_eq_true rfl, ?_⟩
  conv => whnf
  refine ⟨⟨_, _, rfl, rfl, trivial⟩, ?_⟩
  intro wc hwc
  have hwc : wc = [(7, ri 334 (flV 300 z0 334))] := hwc
  subst hwc
  conv => whnf
  exact ⟨rfl, rfl⟩
theorem vz_X3 : rz_VCC x_df [] xa_X3_init k_X3_init fl_X3 [] z_X3 := by
  refine ⟨[], 80, 0, fun q h => absurd h List.not_mem_nil, ?_⟩
  iterate 9
    conv => whnf
    refine ⟨rfl, Nat.le_of_ble_eq_true rfl, Nat.le_of_ble_eq_true rfl, ?_⟩
  conv => whnf
  exact ⟨rfl, rfl⟩
theorem vz_X4 : rz_VCC x_df [] xa_X4_init k_X4_init fl_X4 [] z_X4 := by
  refine ⟨[], 80, 0, fun q h => absurd h List.not_mem_nil, ?_⟩
  iterate 9
    conv => whnf
    refine ⟨rfl, Nat.le_of_ble_eq_true rfl, Nat.le_of_ble_eq_true rfl, ?_⟩
  conv => whnf
  exact ⟨rfl, rfl⟩
theorem vz_X5 : rz_VCC x_df [] xa_X5_init k_X5_init fl_X5 [] z_X5 := by
  refine ⟨[], 80, 0, fun q h => absurd h List.not_mem_nil, ?_⟩
  iterate 7
    conv => whnf
    refine ⟨rfl, Nat.le_of_ble_eq_true rfl, Nat.le_of_ble_eq_true rfl, ?_⟩
  conv => whnf
  exact ⟨rfl, rfl⟩
theorem cz_X0 (l : Launch) : rz_ConC l yX0_init cX0_init 1 1 z_X0 := rz_conC (sp := xa_X0_init.map Prod.fst ++ []) (by decide +kernel) rfl rz_cls (by decide) (by decide) fo_X0 (fun _ h => absurd h List.not_mem_nil) (by decide +kernel) (fun _ h => absurd h List.not_mem_nil) (List.all_eq_true.mpr (fun q hq => by rw [rz_mem_app, rz_mem_in hq]; rfl)) (fun k hk => by
  rw [rz_mem_app] at hk
  rcases (Bool.or_eq_true _ _).mp hk with h | h
  · exact Or.inl (rz_mem_get k _ h)
  · exact absurd h (by simp [rz_mem])) (by decide +kernel) xr_X0_init xk_X0_init xl_X0_init vz_X0
theorem cz_X1 (l : Launch) : rz_ConC l yX1_init cX1_init 1 1 z_X1 := rz_conC (sp := xa_X1_init.map Prod.fst ++ []) (by decide +kernel) rfl rz_cls (by decide) (by decide) fo_X1 (by
  intro q hq
  rcases List.mem_cons.mp hq with rfl | hq
  · exact rz_callS (cn_fill l 45 5 (by decide)) (by simp [ce_fill]) ⟨Nat.le_of_ble_eq_true rfl, Nat.le_of_ble_eq_true rfl⟩ m_J7_fill_53178 t_J7_fill_53178 n_X1_28
  exact absurd hq List.not_mem_nil) (by decide +kernel) (fun _ h => absurd h List.not_mem_nil) (List.all_eq_true.mpr (fun q hq => by rw [rz_mem_app, rz_mem_in hq]; rfl)) (fun k hk => by
  rw [rz_mem_app] at hk
  rcases (Bool.or_eq_true _ _).mp hk with h | h
  · exact Or.inl (rz_mem_get k _ h)
  · exact absurd h (by simp [rz_mem])) (by decide +kernel) xr_X1_init xk_X1_init xl_X1_init vz_X1
theorem cz_X2 (l : Launch) : rz_ConC l yX2_init cX2_init 1 1 z_X2 := rz_conC (sp := xa_X2_init.map Prod.fst ++ []) (by decide +kernel) rfl rz_cls (by decide) (by decide) fo_X2 (by
  intro q hq
  rcases List.mem_cons.mp hq with rfl | hq
  · exact rz_callS (cn_fill l 7 334 (by decide)) (by simp [ce_fill]) ⟨Nat.le_of_ble_eq_true rfl, Nat.le_of_ble_eq_true rfl⟩ m_J7_fill_53178 t_J7_fill_53178 n_X2_40
  exact absurd hq List.not_mem_nil) (by decide +kernel) (fun _ h => absurd h List.not_mem_nil) (List.all_eq_true.mpr (fun q hq => by rw [rz_mem_app, rz_mem_in hq]; rfl)) (fun k hk => by
  rw [rz_mem_app] at hk
  rcases (Bool.or_eq_true _ _).mp hk with h | h
  · exact Or.inl (rz_mem_get k _ h)
  · exact absurd h (by simp [rz_mem])) (by decide +kernel) xr_X2_init xk_X2_init xl_X2_init vz_X2
theorem cz_X3 (l : Launch) : rz_ConC l yX3_init cX3_init 1 1 z_X3 := rz_conC (sp := xa_X3_init.map Prod.fst ++ []) (by decide +kernel) rfl rz_cls (by decide) (by decide) fo_X3 (fun _ h => absurd h List.not_mem_nil) (by decide +kernel) (fun _ h => absurd h List.not_mem_nil) (List.all_eq_true.mpr (fun q hq => by rw [rz_mem_app, rz_mem_in hq]; rfl)) (fun k hk => by
  rw [rz_mem_app] at hk
  rcases (Bool.or_eq_true _ _).mp hk with h | h
  · exact Or.inl (rz_mem_get k _ h)
  · exact absurd h (by simp [rz_mem])) (by decide +kernel) xr_X3_init xk_X3_init xl_X3_init vz_X3
theorem cz_X4 (l : Launch) : rz_ConC l yX4_init cX4_init 1 1 z_X4 := rz_conC (sp := xa_X4_init.map Prod.fst ++ []) (by decide +kernel) rfl rz_cls (by decide) (by decide) fo_X4 (fun _ h => absurd h List.not_mem_nil) (by decide +kernel) (fun _ h => absurd h List.not_mem_nil) (List.all_eq_true.mpr (fun q hq => by rw [rz_mem_app, rz_mem_in hq]; rfl)) (fun k hk => by
  rw [rz_mem_app] at hk
  rcases (Bool.or_eq_true _ _).mp hk with h | h
  · exact Or.inl (rz_mem_get k _ h)
  · exact absurd h (by simp [rz_mem])) (by decide +kernel) xr_X4_init xk_X4_init xl_X4_init vz_X4
theorem cz_X5 (l : Launch) : rz_ConC l yX5_init cX5_init 1 1 z_X5 := rz_conC (sp := xa_X5_init.map Prod.fst ++ []) (by decide +kernel) rfl rz_cls (by decide) (by decide) fo_X5 (fun _ h => absurd h List.not_mem_nil) (by decide +kernel) (fun _ h => absurd h List.not_mem_nil) (List.all_eq_true.mpr (fun q hq => by rw [rz_mem_app, rz_mem_in hq]; rfl)) (fun k hk => by
  rw [rz_mem_app] at hk
  rcases (Bool.or_eq_true _ _).mp hk with h | h
  · exact Or.inl (rz_mem_get k _ h)
  · exact absurd h (by simp [rz_mem])) (by decide +kernel) xr_X5_init xk_X5_init xl_X5_init vz_X5
def z_X6 : rz_Z := (0, ro 6 [.null, .null, .null, .null, .null, .null, .int 0], oCW 0, wLk z0 z0 z0 z0 z0 (flV 300 z0 334) z0 0 0 ++ (wSg z0 z0 z0 z0 z0 z0 z0 0 ++ (wSh z1 z1 z1 z1 z1 z1 z1 z1 z1 0 ++ (wPl z0 z0 z0 z0 z0 z0 z0 z0 z0 0 0 10 ++ (wBo z0 z0 z0 z0 z0 z0 0 0 ++ wCl (flV (-1) z0 5) z0 z0 z0 0)))), 48, 3075)
def xz_X6 : List (Nat × rz_Z) := [(9, z_X2), (20, z_X5), (31, z_X4), (42, z_X3), (53, z_X0), (64, z_X1)]
theorem vz_X6 : rz_VCC x_df xz_X6 xa_X6_init k_X6_init fl_X6 [] z_X6 := by
  refine ⟨[], 80, 0, fun q h => absurd h List.not_mem_nil, ?_⟩
  iterate 6
    conv => whnf
    refine ⟨Nat.le_of_ble_eq_true rfl, Nat.le_of_ble_eq_true rfl, ?_⟩
    conv => whnf
    refine ⟨rfl, Nat.le_of_ble_eq_true rfl, Nat.le_of_ble_eq_true rfl, ?_⟩
  conv => whnf
  exact ⟨rfl, rfl⟩
theorem cz_X6 (l : Launch) : rz_ConC l yX6_init cX6_init 1 2 z_X6 := rz_conC (sp := xa_X6_init.map Prod.fst ++ [9, 20, 31, 42, 53, 64]) (by decide +kernel) rfl rz_cls (by decide) (by decide) fo_X6 (fun _ h => absurd h List.not_mem_nil) (by decide +kernel) (by
  intro q hq
  rcases List.mem_cons.mp hq with rfl | hq
  · exact rz_ctorIN (cz_X2 l) (by decide) ⟨Nat.le_of_ble_eq_true rfl, Nat.le_of_ble_eq_true rfl⟩ m_X2_init rfl i_X2_init n_X6_9 (by decide +kernel)
  rcases List.mem_cons.mp hq with rfl | hq
  · exact rz_ctorIN (cz_X5 l) (by decide) ⟨Nat.le_of_ble_eq_true rfl, Nat.le_of_ble_eq_true rfl⟩ m_X5_init rfl i_X5_init n_X6_18 (by decide +kernel)
  rcases List.mem_cons.mp hq with rfl | hq
  · exact rz_ctorIN (cz_X4 l) (by decide) ⟨Nat.le_of_ble_eq_true rfl, Nat.le_of_ble_eq_true rfl⟩ m_X4_init rfl i_X4_init n_X6_25 (by decide +kernel)
  rcases List.mem_cons.mp hq with rfl | hq
  · exact rz_ctorIN (cz_X3 l) (by decide) ⟨Nat.le_of_ble_eq_true rfl, Nat.le_of_ble_eq_true rfl⟩ m_X3_init rfl i_X3_init n_X6_32 (by decide +kernel)
  rcases List.mem_cons.mp hq with rfl | hq
  · exact rz_ctorIN (cz_X0 l) (by decide) ⟨Nat.le_of_ble_eq_true rfl, Nat.le_of_ble_eq_true rfl⟩ m_X0_init rfl i_X0_init n_X6_39 (by decide +kernel)
  rcases List.mem_cons.mp hq with rfl | hq
  · exact rz_ctorIN (cz_X1 l) (by decide) ⟨Nat.le_of_ble_eq_true rfl, Nat.le_of_ble_eq_true rfl⟩ m_X1_init rfl i_X1_init n_X6_46 (by decide +kernel)
  exact absurd hq List.not_mem_nil) (List.all_eq_true.mpr (fun q hq => by rw [rz_mem_app, rz_mem_in hq]; rfl)) (fun k hk => by
  rw [rz_mem_app] at hk
  rcases (Bool.or_eq_true _ _).mp hk with h | h
  · exact Or.inl (rz_mem_get k _ h)
  · exact Or.inr (rz_mem_get k xz_X6 h)) (by decide +kernel) xr_X6_init xk_X6_init xl_X6_init vz_X6
abbrev ru0 : Nat → Int32 := upd (upd (upd (upd (upd z0 0 (-1)) 1 (-1)) 2 (-1)) 3 (-1)) 4 (-1)
theorem ru0_eq : ru0 = flV (-1) z0 5 := by
  funext i
  unfold ru0 upd flV
  by_cases h4 : i = 4
  · rw [if_pos h4, if_pos (by omega)]
  by_cases h3 : i = 3
  · rw [if_neg h4, if_pos h3, if_pos (by omega)]
  by_cases h2 : i = 2
  · rw [if_neg h4, if_neg h3, if_pos h2, if_pos (by omega)]
  by_cases h1 : i = 1
  · rw [if_neg h4, if_neg h3, if_neg h2, if_pos h1, if_pos (by omega)]
  by_cases h0 : i = 0
  · rw [if_neg h4, if_neg h3, if_neg h2, if_neg h1, if_pos h0, if_pos (by omega)]
  rw [if_neg h4, if_neg h3, if_neg h2, if_neg h1, if_neg h0, if_neg (by omega)]
abbrev wM0 (vi : Nat → Int32) : rz_W := [(51, ri 6 z0), (52, ri 6 z0), (53, ri 6 z0), (54, ri 8 z0), (55, ri 8 z0), (56, ri 334 vi), (57, ri 600 z0), (58, ri 60 z0), (59, ri 60 z0), (60, ri 60 z0), (61, ri 500 z0), (62, ri 30 z0), (63, ri 5 ru0), (64, ri 300 z0), (65, ri 300 z0), (66, ri 300 z0), (67, rl 4 z1), (68, rl 4 z1), (69, rl 4 z1), (70, rl 8 z1), (71, rl 8 z1), (72, rl 8 z1), (73, rl 4 z1)]
def z_X7 : rz_Z := (50, ro 7 [.int 0, .null, .null, .null, .null, .null, .null, .int 0, .int 0, .int 0, .int 0, .int 0, .int 0, .int 0, .int 0, .int 0, .int 0, .null, .null, .null, .null, .null, .null, .null, .null, .null, .null, .null, .null, .null, .null, .null, .null, .int 0, .null], oMo 0 0 0 0 0 0 0 0 0 0 10 0, wM0 (flV 300 z0 334), 23, 2623)
set_option maxHeartbeats 4000000 in
theorem vz_X7 : rz_VCC x_df [] xa_X7_init k_X7_init fl_X7 [] z_X7 := by
  have b0 : vp_in 0 5 := vp_in_iff.mpr (by decide)
  have b1 : vp_in 1 5 := vp_in_iff.mpr (by decide)
  have b2 : vp_in 2 5 := vp_in_iff.mpr (by decide)
  have b3 : vp_in 3 5 := vp_in_iff.mpr (by decide)
  have b4 : vp_in 4 5 := vp_in_iff.mpr (by decide)
  refine ⟨[(217, [0, 1], fun y lv w cs sl => ∃ i : Nat, i ≤ 334 ∧ lv = [(0, .ref 50), (1, .int (nI i))] ∧ w = (50, oMo 0 0 0 0 0 0 0 0 0 0 10 0) :: wM0 (flV 300 z0 i) ∧ y = 334 - i)], 200, 400, ?_, ?_⟩
  · intro q hq y lv w cs sl hj
    rcases List.mem_cons.mp hq with rfl | hq
    · obtain ⟨i, hi, rfl, rfl, rfl⟩ := hj
      conv => whnf
      refine ⟨fun c => ?_, fun c => ?_⟩
      · have c : nI 334 ≤ nI i := c
        have e : i = 334 := by
          have := (nI_leI (by omega) (by omega)).mp c
          omega
        subst e
        exact ⟨rfl, rfl⟩
      · have c : ¬ nI 334 ≤ nI i := c
        have hi2 : i < 334 := by
          rcases Nat.lt_or_ge i 334 with z | z
          · exact z
          · exact absurd (nI_le z (by omega)) c
        conv => whnf
        refine ⟨vp_in_nI hi2 (by omega), ?_⟩
        conv => whnf
        rintro _ rfl
        conv => whnf
        refine ⟨334 - (i + 1), by omega, i + 1, by omega, ?_, ?_, rfl⟩
        · show [_, (1, Value.int (nI i + 1))] = _
          rw [nI_1]
        · show (50, oMo 0 0 0 0 0 0 0 0 0 0 10 0) :: wM0 (upd (flV 300 z0 i) (nI i).toNatClampNeg 300) = _
          rw [nI_clamp (by omega), flV_s]
    · exact absurd hq List.not_mem_nil
  · iterate 13
      conv => whnf
      refine ⟨rfl, Nat.le_of_ble_eq_true rfl, Nat.le_of_ble_eq_true rfl, ?_⟩
    conv => whnf
    refine ⟨b0, ?_⟩
    conv => whnf
    refine ⟨b1, ?_⟩
    conv => whnf
    refine ⟨b2, ?_⟩
    conv => whnf
    refine ⟨b3, ?_⟩
    conv => whnf
    refine ⟨b4, ?_⟩
    iterate 10
      conv => whnf
      refine ⟨rfl, Nat.le_of_ble_eq_true rfl, Nat.le_of_ble_eq_true rfl, ?_⟩
    conv => whnf
    rintro _ rfl
    conv => whnf
    refine ⟨334, by omega, 0, by omega, rfl, ?_, rfl⟩
    rw [flV_0]
    rfl
theorem cz_X7 (l : Launch) : rz_ConC l yX7_init cX7_init 2 1 z_X7 := rz_conC (sp := xa_X7_init.map Prod.fst ++ []) (by decide +kernel) rfl rz_cls (by decide) (by decide) fo_X7 (fun _ h => absurd h List.not_mem_nil) (by decide +kernel) (fun _ h => absurd h List.not_mem_nil) (List.all_eq_true.mpr (fun q hq => by rw [rz_mem_app, rz_mem_in hq]; rfl)) (fun k hk => by
  rw [rz_mem_app] at hk
  rcases (Bool.or_eq_true _ _).mp hk with h | h
  · exact Or.inl (rz_mem_get k _ h)
  · exact absurd h (by simp [rz_mem])) (by decide +kernel) xr_X7_init xk_X7_init xl_X7_init vz_X7
