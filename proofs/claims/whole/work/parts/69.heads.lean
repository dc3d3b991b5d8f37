/-! The law: its loop heads, its calls, its start. -/
def JB (L i : Nat) : List (Nat × rz_XJ) := [(1050, [0, 1, 2, 3, 4], fun _ lv w cs sl => i + 6 ≤ L ∧ LI i 1 lv w cs sl), (1056, [], fun _ _ _ _ _ => True), (140, [0, 1, 2, 3, 4], fun _ lv w cs sl => i + 6 ≤ L ∧ LI i 0 lv w cs sl), (189, [0, 1, 2, 3, 4], fun _ lv w cs sl => i + 6 ≤ L ∧ LI i 0 lv w cs sl), (226, [0, 1, 2, 3, 4], fun _ lv w cs sl => i + 6 ≤ L ∧ LI i 0 lv w cs sl), (263, [0, 1, 2, 3, 4], fun _ lv w cs sl => i + 6 ≤ L ∧ LI i 0 lv w cs sl), (324, [0, 1, 2, 3, 4], fun _ lv w cs sl => i + 6 ≤ L ∧ LI i 0 lv w cs sl), (349, [0, 1, 2, 3, 4], fun _ lv w cs sl => i + 6 ≤ L ∧ LI i 0 lv w cs sl), (374, [0, 1, 2, 3, 4], fun _ lv w cs sl => i + 6 ≤ L ∧ LI i 0 lv w cs sl), (447, [0, 1, 2, 3, 4], fun _ lv w cs sl => i + 6 ≤ L ∧ LI i 0 lv w cs sl), (484, [0, 1, 2, 3, 4], fun _ lv w cs sl => i + 6 ≤ L ∧ LI i 0 lv w cs sl), (521, [0, 1, 2, 3, 4], fun _ lv w cs sl => i + 6 ≤ L ∧ LI i 0 lv w cs sl), (612, [0, 1, 2, 3, 4], fun _ lv w cs sl => i + 6 ≤ L ∧ LI i 0 lv w cs sl), (692, [0, 1, 2, 3, 4], fun _ lv w cs sl => i + 6 ≤ L ∧ LI i 0 lv w cs sl), (729, [0, 1, 2, 3, 4], fun _ lv w cs sl => i + 6 ≤ L ∧ LI i 0 lv w cs sl), (754, [0, 1, 2, 3, 4], fun _ lv w cs sl => i + 6 ≤ L ∧ LI i 0 lv w cs sl), (791, [0, 1, 2, 3, 4], fun _ lv w cs sl => i + 6 ≤ L ∧ LI i 0 lv w cs sl), (852, [0, 1, 2, 3, 4], fun _ lv w cs sl => i + 6 ≤ L ∧ LI i 0 lv w cs sl), (877, [0, 1, 2, 3, 4], fun _ lv w cs sl => i + 6 ≤ L ∧ LI i 0 lv w cs sl), (926, [0, 1, 2, 3, 4], fun _ lv w cs sl => i + 6 ≤ L ∧ LI i 0 lv w cs sl), (963, [0, 1, 2, 3, 4], fun _ lv w cs sl => i + 6 ≤ L ∧ LI i 0 lv w cs sl), (988, [0, 1, 2, 3, 4], fun _ lv w cs sl => i + 6 ≤ L ∧ LI i 0 lv w cs sl), (1025, [0, 1, 2, 3, 4], fun _ lv w cs sl => i + 6 ≤ L ∧ LI i 0 lv w cs sl)]
set_option maxHeartbeats 4000000 in
set_option maxRecDepth 20000 in
theorem lw_h23 {L : Nat} {xs : Nat → Int32} (hL : L ≤ 3072) {i : Nat} (hi : i ≤ L) {lv : rz_L} {w : rz_W} {cs sl : Nat} (hLI : LI i 0 lv w cs sl) : rz_xrun L xs ksL x_df [] [] xa_lB k_lB [] [] [] s_lB true 601024 7293034 (JB L i) (fun _ _ => False) 1 120 23 lv [] w cs sl := by
  obtain ⟨px, py, ph, rx, ry, vi, spx, fx, fy, mi, ax, ay, bx, b2, fi, se, mj, tk, le, bo, rg, tp, la, pb, pl, pe, pt, lp, im, de, sg, pa, s, a, b0, c, ex, ey, tx, lx, ty, ly, A, B, C, X, Y, D, bx9, ou, t, g, h, n, z, m, k, b, sp, co, th, co2, rfl, rfl, -, hcs, hsl⟩ := id hLI
  conv => whnf
  refine ⟨rfl, ?_⟩
  conv => whnf
  refine ⟨fun _ => ?_, fun hc => ?_⟩
  · conv => whnf
    exact ⟨0, Nat.zero_lt_one, trivial⟩
  · have hi6 : i + 6 ≤ L := by
      have hc : ¬ nI L - 6 < nI i := hc
      rw [Int32.lt_iff_toInt_lt, show (nI L - 6).toInt = (L : Int) - 6 from pk_sub_toInt (a := L) (b := 6) (by omega) (by omega), nI_toInt (by omega)] at hc
      omega
    conv => whnf
    refine ⟨vp_in_nI (by omega) (by omega), rfl, ?_⟩
    conv => whnf
    refine ⟨fun _ => ?_, fun _ => ?_⟩
    · conv => whnf
      exact ⟨0, Nat.zero_lt_one, hi6, hLI⟩
    conv => whnf
    refine ⟨fun _ => ?_, fun _ => ?_⟩
    · conv => whnf
      exact ⟨0, Nat.zero_lt_one, hi6, hLI⟩
    conv => whnf
    refine ⟨fun _ => ?_, fun _ => ?_⟩
    · conv => whnf
      exact ⟨0, Nat.zero_lt_one, hi6, hLI⟩
    conv => whnf
    refine ⟨fun _ => ?_, fun _ => ?_⟩
    · conv => whnf
      exact ⟨0, Nat.zero_lt_one, hi6, hLI⟩
    conv => whnf
    refine ⟨fun _ => ?_, fun _ => ?_⟩
    · conv => whnf
      exact ⟨0, Nat.zero_lt_one, hi6, hLI⟩
    conv => whnf
    refine ⟨fun _ => ?_, fun _ => ?_⟩
    · conv => whnf
      exact ⟨0, Nat.zero_lt_one, hi6, hLI⟩
    conv => whnf
    refine ⟨fun _ => ?_, fun _ => ?_⟩
    · conv => whnf
      exact ⟨0, Nat.zero_lt_one, hi6, hLI⟩
    conv => whnf
    refine ⟨fun _ => ?_, fun _ => ?_⟩
    · conv => whnf
      exact ⟨0, Nat.zero_lt_one, hi6, hLI⟩
    conv => whnf
    refine ⟨fun _ => ?_, fun _ => ?_⟩
    · conv => whnf
      exact ⟨0, Nat.zero_lt_one, hi6, hLI⟩
    conv => whnf
    refine ⟨fun _ => ?_, fun _ => ?_⟩
    · conv => whnf
      exact ⟨0, Nat.zero_lt_one, hi6, hLI⟩
    conv => whnf
    refine ⟨fun _ => ?_, fun _ => ?_⟩
    · conv => whnf
      exact ⟨0, Nat.zero_lt_one, hi6, hLI⟩
    conv => whnf
    refine ⟨fun _ => ?_, fun _ => ?_⟩
    · conv => whnf
      exact ⟨0, Nat.zero_lt_one, hi6, hLI⟩
    conv => whnf
    refine ⟨fun _ => ?_, fun _ => ?_⟩
    · conv => whnf
      exact ⟨0, Nat.zero_lt_one, hi6, hLI⟩
    conv => whnf
    refine ⟨fun _ => ?_, fun _ => ?_⟩
    · conv => whnf
      exact ⟨0, Nat.zero_lt_one, hi6, hLI⟩
    conv => whnf
    refine ⟨fun _ => ?_, fun _ => ?_⟩
    · conv => whnf
      exact ⟨0, Nat.zero_lt_one, hi6, hLI⟩
    conv => whnf
    refine ⟨fun _ => ?_, fun _ => ?_⟩
    · conv => whnf
      exact ⟨0, Nat.zero_lt_one, hi6, hLI⟩
    conv => whnf
    refine ⟨fun _ => ?_, fun _ => ?_⟩
    · conv => whnf
      exact ⟨0, Nat.zero_lt_one, hi6, hLI⟩
    conv => whnf
    refine ⟨fun _ => ?_, fun _ => ?_⟩
    · conv => whnf
      exact ⟨0, Nat.zero_lt_one, hi6, hLI⟩
    conv => whnf
    refine ⟨fun _ => ?_, fun _ => ?_⟩
    · conv => whnf
      exact ⟨0, Nat.zero_lt_one, hi6, hLI⟩
    conv => whnf
    refine ⟨fun _ => ?_, fun _ => ?_⟩
    · conv => whnf
      exact ⟨0, Nat.zero_lt_one, hi6, hLI⟩
    conv => whnf
    refine ⟨fun _ => ?_, fun _ => ?_⟩
    · conv => whnf
      exact ⟨0, Nat.zero_lt_one, hi6, hLI⟩
    conv => whnf
    refine ⟨0, Nat.zero_lt_one, hi6, ?_⟩
    obtain ⟨px, py, ph, rx, ry, vi, spx, fx, fy, mi, ax, ay, bx, b2, fi, se, mj, tk, le, bo, rg, tp, la, pb, pl, pe, pt, lp, im, de, sg, pa, s, a, b0, c, ex, ey, tx, lx, ty, ly, A, B, C, X, Y, D, bx9, ou, t, g, h, n, z, m, k, b, sp, co, th, co2, e1, e2, e3, e4, e5⟩ := hLI
    exact ⟨px, py, ph, rx, ry, vi, spx, fx, fy, mi, ax, ay, bx, b2, fi, se, mj, tk, le, bo, rg, tp, la, pb, pl, pe, pt, lp, im, de, sg, pa, s, a, b0, c, ex, ey, tx, lx, ty, ly, A, B, C, X, Y, D, bx9, ou, t, g, h, n, z, m, k, b, sp, co, th, co2, e1, e2, e3, by omega, by omega⟩
def J23 (i : Nat) : List (Nat × rz_XJ) := [(23, [0, 1, 2, 3, 4], fun _ lv w cs sl => LI (i + 6) 0 lv w cs sl)]
set_option maxRecDepth 20000 in
theorem lw_h50 {L : Nat} {xs : Nat → Int32} {i : Nat} {lv : rz_L} {w : rz_W} {cs sl : Nat} (hJ : LI i 1 lv w cs sl) : rz_xrun L xs ksL x_df [] [] xa_lT k_lT [] [] [] s_lT true 601024 7293034 (J23 i) (fun _ _ => False) 1 120 1050 lv [] w cs sl := by
  obtain ⟨px, py, ph, rx, ry, vi, spx, fx, fy, mi, ax, ay, bx, b2, fi, se, mj, tk, le, bo, rg, tp, la, pb, pl, pe, pt, lp, im, de, sg, pa, s, a, b0, c, ex, ey, tx, lx, ty, ly, A, B, C, X, Y, D, bx9, ou, t, g, h, n, z, m, k, b, sp, co, th, co2, rfl, rfl, hI, hcs, hsl⟩ := hJ
  conv => whnf
  rintro _ rfl
  conv => whnf
  refine ⟨0, Nat.zero_lt_one, px, py, ph, rx, ry, vi, spx, fx, fy, mi, ax, ay, bx, b2, fi, se, mj, tk, le, bo, rg, tp, la, pb, pl, pe, pt, lp, im, de, sg, pa, s, a, b0, c, ex, ey, tx, lx, ty, ly, A, B, C, X, Y, D, bx9, ou, t, g, h, n, z, m, k, b, sp, co, th, co2, ?_, rfl, hI, by omega, by omega⟩
  rw [← nIa]
  rfl
theorem ts_L_corner : Cond.static yL_corner ∈ bw := bw_t 595 (by decide +kernel) rfl
theorem cw_L_corner : Cond.codeWith yL_corner cL_corner 7 (some .int) [(0, 13, 16, 13)] ∈ bw := bw_t 596 (by decide +kernel) rfl
theorem iL_L_corner : Cond.initialized yL_corner.cls ∈ bw := bw_t 0 (by decide +kernel) rfl
theorem co_L_corner (l : Launch) (hst : l.stackTraces = false) : rz_CallOKA rz_XP l room_1 R_law code 547 ce_L_corner 1 6 := by
  refine ⟨by decide +kernel, fun p e s m args below meth c H locs cs sl ls nL D cI cJ adr av rest w h1 h2 hx hb hml hown hts hnw hK hsz hlen hrest hP hD hkeys hpre hxp => ?_⟩
  have hgood : GoodIn bw (.codeWith yL_corner cL_corner 7 (some .int) [(0, 13, 16, 13)] :: bw) := fun w hw => by
    rcases List.mem_cons.mp hw with z | z
    · rw [z]; exact ⟨cw_L_corner, good_of_word rfl⟩
    · exact bw_self w z
  exact ⟨_, vx_runSW (n := 6) ⟨hx, hb, hml, hown, hts⟩ (cn_L_corner l hst D cI cJ adr H.size av w hpre) ⟨⟨rfl, rfl, Nat.le_of_ble_eq_true rfl, Nat.le_of_ble_eq_true rfl, pay_in hts hgood, List.mem_cons_self⟩, hts _ cw_L_corner, hts _ iL_L_corner, ⟨by decide +kernel, by decide +kernel⟩, fun sig h => by
    have h9 : (parseMethodDescriptor yL_corner.desc).map (fun d => d.parameters.length) = some 6 := by decide +kernel
    rw [h] at h9
    exact (Option.some.inj h9).symm, hts _ n_L_64, hts _ ts_L_corner⟩ ⟨rz_blindX, fun U hU hW => ⟨⟨rfl, by rw [hU], by rw [hU]; exact hP, va_K.moved hW.alike hK, hD, hnw.warm hW⟩, by rw [hU]; exact rz_XP.warm hW hxp⟩⟩ rfl (by rw [List.length_map]; exact hlen) hsz rfl (lv_room hrest) dl_547 ⟨h1, h2⟩⟩
theorem ts_L_box : Cond.static yL_box ∈ bw := bw_t 668 (by decide +kernel) rfl
theorem cw_L_box : Cond.codeWith yL_box cL_box 6 (some .int) [(0, 12, 15, 13)] ∈ bw := bw_t 669 (by decide +kernel) rfl
theorem iL_L_box : Cond.initialized yL_box.cls ∈ bw := bw_t 0 (by decide +kernel) rfl
theorem co_L_box (l : Launch) (hst : l.stackTraces = false) : rz_CallOKA rz_XP l room_1 R_law code 632 ce_L_box 1 6 := by
  refine ⟨by decide +kernel, fun p e s m args below meth c H locs cs sl ls nL D cI cJ adr av rest w h1 h2 hx hb hml hown hts hnw hK hsz hlen hrest hP hD hkeys hpre hxp => ?_⟩
  have hgood : GoodIn bw (.codeWith yL_box cL_box 6 (some .int) [(0, 12, 15, 13)] :: bw) := fun w hw => by
    rcases List.mem_cons.mp hw with z | z
    · rw [z]; exact ⟨cw_L_box, good_of_word rfl⟩
    · exact bw_self w z
  exact ⟨_, vx_runSW (n := 5) ⟨hx, hb, hml, hown, hts⟩ (cn_L_box l hst D cI cJ adr H.size av w hpre) ⟨⟨rfl, rfl, Nat.le_of_ble_eq_true rfl, Nat.le_of_ble_eq_true rfl, pay_in hts hgood, List.mem_cons_self⟩, hts _ cw_L_box, hts _ iL_L_box, ⟨by decide +kernel, by decide +kernel⟩, fun sig h => by
    have h9 : (parseMethodDescriptor yL_box.desc).map (fun d => d.parameters.length) = some 5 := by decide +kernel
    rw [h] at h9
    exact (Option.some.inj h9).symm, hts _ n_L_74, hts _ ts_L_box⟩ ⟨rz_blindX, fun U hU hW => ⟨⟨rfl, by rw [hU], by rw [hU]; exact hP, va_K.moved hW.alike hK, hD, hnw.warm hW⟩, by rw [hU]; exact rz_XP.warm hW hxp⟩⟩ rfl (by rw [List.length_map]; exact hlen) hsz rfl (lv_room hrest) dl_632 ⟨h1, h2⟩⟩
theorem lk_0 (l : Launch) (hst : l.stackTraces = false) : ∀ q ∈ ck_l0, rz_CallOKA rz_XP l room_1 R_law code q.1 q.2.1 q.2.2.1 q.2.2.2 := by
  intro q hq
  rcases List.mem_cons.mp hq with rfl | hq
  · exact rz_callVA (cn_X6_post l) (by decide +kernel) ⟨Nat.le_of_ble_eq_true rfl, Nat.le_of_ble_eq_true rfl⟩ m_X6_post rfl i_X6_post v_X6_post rv_X6_post n_L_23 dl_159
  rcases List.mem_cons.mp hq with rfl | hq
  · exact rz_callVA (cn_X7_post l) (by decide +kernel) ⟨Nat.le_of_ble_eq_true rfl, Nat.le_of_ble_eq_true rfl⟩ m_X7_post rfl i_X7_post v_X7_post rv_X7_post n_L_26 dl_181
  exact absurd hq List.not_mem_nil
theorem lk_1 (l : Launch) (hst : l.stackTraces = false) : ∀ q ∈ ck_l1, rz_CallOKA rz_XP l room_1 R_law code q.1 q.2.1 q.2.2.1 q.2.2.2 := by
  intro q hq
  rcases List.mem_cons.mp hq with rfl | hq
  · exact rz_callVA (cn_X6_reach l) (by decide +kernel) ⟨Nat.le_of_ble_eq_true rfl, Nat.le_of_ble_eq_true rfl⟩ m_X6_reach rfl i_X6_reach v_X6_reach rv_X6_reach n_L_27 dl_202
  rcases List.mem_cons.mp hq with rfl | hq
  · exact rz_callVA (cn_X7_reach l) (by decide +kernel) ⟨Nat.le_of_ble_eq_true rfl, Nat.le_of_ble_eq_true rfl⟩ m_X7_reach rfl i_X7_reach v_X7_reach rv_X7_reach n_L_31 dl_218
  exact absurd hq List.not_mem_nil
theorem lk_2 (l : Launch) (hst : l.stackTraces = false) : ∀ q ∈ ck_l2, rz_CallOKA rz_XP l room_1 R_law code q.1 q.2.1 q.2.2.1 q.2.2.2 := by
  intro q hq
  rcases List.mem_cons.mp hq with rfl | hq
  · exact rz_callVA (cn_X6_weather l) (by decide +kernel) ⟨Nat.le_of_ble_eq_true rfl, Nat.le_of_ble_eq_true rfl⟩ m_X6_weather rfl i_X6_weather v_X6_weather rv_X6_weather n_L_32 dl_239
  rcases List.mem_cons.mp hq with rfl | hq
  · exact rz_callVA (cn_X7_weather l) (by decide +kernel) ⟨Nat.le_of_ble_eq_true rfl, Nat.le_of_ble_eq_true rfl⟩ m_X7_weather rfl i_X7_weather v_X7_weather rv_X7_weather n_L_36 dl_255
  exact absurd hq List.not_mem_nil
theorem lk_3 (l : Launch) (hst : l.stackTraces = false) : ∀ q ∈ ck_l3, rz_CallOKA rz_XP l room_1 R_law code q.1 q.2.1 q.2.2.1 q.2.2.2 := by
  intro q hq
  rcases List.mem_cons.mp hq with rfl | hq
  · exact rz_callVA (cn_X6_sees l) (by decide +kernel) ⟨Nat.le_of_ble_eq_true rfl, Nat.le_of_ble_eq_true rfl⟩ m_X6_sees rfl i_X6_sees v_X6_sees rv_X6_sees n_L_37 dl_288
  rcases List.mem_cons.mp hq with rfl | hq
  · exact rz_callVA (cn_X7_sees l) (by decide +kernel) ⟨Nat.le_of_ble_eq_true rfl, Nat.le_of_ble_eq_true rfl⟩ m_X7_sees rfl i_X7_sees v_X7_sees rv_X7_sees n_L_41 dl_316
  exact absurd hq List.not_mem_nil
theorem lk_4 (l : Launch) (hst : l.stackTraces = false) : ∀ q ∈ ck_l4, rz_CallOKA rz_XP l room_1 R_law code q.1 q.2.1 q.2.2.1 q.2.2.2 := by
  intro q hq
  rcases List.mem_cons.mp hq with rfl | hq
  · exact rz_callVA (cn_X6_manned l) (by decide +kernel) ⟨Nat.le_of_ble_eq_true rfl, Nat.le_of_ble_eq_true rfl⟩ m_X6_manned rfl i_X6_manned v_X6_manned rv_X6_manned n_L_42 dl_331
  rcases List.mem_cons.mp hq with rfl | hq
  · exact rz_callVA (cn_X7_manned l) (by decide +kernel) ⟨Nat.le_of_ble_eq_true rfl, Nat.le_of_ble_eq_true rfl⟩ m_X7_manned rfl i_X7_manned v_X7_manned rv_X7_manned n_L_46 dl_341
  exact absurd hq List.not_mem_nil
theorem lk_5 (l : Launch) (hst : l.stackTraces = false) : ∀ q ∈ ck_l5, rz_CallOKA rz_XP l room_1 R_law code q.1 q.2.1 q.2.2.1 q.2.2.2 := by
  intro q hq
  rcases List.mem_cons.mp hq with rfl | hq
  · exact rz_callVA (cn_X6_open l) (by decide +kernel) ⟨Nat.le_of_ble_eq_true rfl, Nat.le_of_ble_eq_true rfl⟩ m_X6_open rfl i_X6_open v_X6_open rv_X6_open n_L_47 dl_356
  rcases List.mem_cons.mp hq with rfl | hq
  · exact rz_callVA (cn_X7_open l) (by decide +kernel) ⟨Nat.le_of_ble_eq_true rfl, Nat.le_of_ble_eq_true rfl⟩ m_X7_open rfl i_X7_open v_X7_open rv_X7_open n_L_50 dl_366
  exact absurd hq List.not_mem_nil
theorem lk_6 (l : Launch) (hst : l.stackTraces = false) : ∀ q ∈ ck_l6, rz_CallOKA rz_XP l room_1 R_law code q.1 q.2.1 q.2.2.1 q.2.2.2 := by
  intro q hq
  rcases List.mem_cons.mp hq with rfl | hq
  · exact rz_callVA (cn_X6_sight l) (by decide +kernel) ⟨Nat.le_of_ble_eq_true rfl, Nat.le_of_ble_eq_true rfl⟩ m_X6_sight rfl i_X6_sight v_X6_sight rv_X6_sight n_L_51 dl_405
  rcases List.mem_cons.mp hq with rfl | hq
  · exact rz_callVA (cn_X7_sight l) (by decide +kernel) ⟨Nat.le_of_ble_eq_true rfl, Nat.le_of_ble_eq_true rfl⟩ m_X7_sight rfl i_X7_sight v_X7_sight rv_X7_sight n_L_55 dl_439
  exact absurd hq List.not_mem_nil
theorem lk_7 (l : Launch) (hst : l.stackTraces = false) : ∀ q ∈ ck_l7, rz_CallOKA rz_XP l room_1 R_law code q.1 q.2.1 q.2.2.1 q.2.2.2 := by
  intro q hq
  rcases List.mem_cons.mp hq with rfl | hq
  · exact rz_callVA (cn_X6_plot l) (by decide +kernel) ⟨Nat.le_of_ble_eq_true rfl, Nat.le_of_ble_eq_true rfl⟩ m_X6_plot rfl i_X6_plot v_X6_plot rv_X6_plot n_L_56 dl_460
  rcases List.mem_cons.mp hq with rfl | hq
  · exact rz_callVA (cn_X7_plot l) (by decide +kernel) ⟨Nat.le_of_ble_eq_true rfl, Nat.le_of_ble_eq_true rfl⟩ m_X7_plot rfl i_X7_plot v_X7_plot rv_X7_plot n_L_59 dl_476
  exact absurd hq List.not_mem_nil
theorem lk_8 (l : Launch) (hst : l.stackTraces = false) : ∀ q ∈ ck_l8, rz_CallOKA rz_XP l room_1 R_law code q.1 q.2.1 q.2.2.1 q.2.2.2 := by
  intro q hq
  rcases List.mem_cons.mp hq with rfl | hq
  · exact rz_callVA (cn_X6_corners l) (by decide +kernel) ⟨Nat.le_of_ble_eq_true rfl, Nat.le_of_ble_eq_true rfl⟩ m_X6_corners rfl i_X6_corners v_X6_corners rv_X6_corners n_L_60 dl_497
  rcases List.mem_cons.mp hq with rfl | hq
  · exact rz_callVA (cn_X7_corners l) (by decide +kernel) ⟨Nat.le_of_ble_eq_true rfl, Nat.le_of_ble_eq_true rfl⟩ m_X7_corners rfl i_X7_corners v_X7_corners rv_X7_corners n_L_63 dl_513
  exact absurd hq List.not_mem_nil
theorem lk_9 (l : Launch) (hst : l.stackTraces = false) : ∀ q ∈ ck_l9, rz_CallOKA rz_XP l room_1 R_law code q.1 q.2.1 q.2.2.1 q.2.2.2 := by
  intro q hq
  rcases List.mem_cons.mp hq with rfl | hq
  · exact co_L_corner l hst
  rcases List.mem_cons.mp hq with rfl | hq
  · exact rz_callVA (cn_X7_corner l) (by decide +kernel) ⟨Nat.le_of_ble_eq_true rfl, Nat.le_of_ble_eq_true rfl⟩ m_X7_corner rfl i_X7_corner v_X7_corner rv_X7_corner n_L_69 dl_577
  rcases List.mem_cons.mp hq with rfl | hq
  · exact rz_callVA (cn_X7_thrown l) (by decide +kernel) ⟨Nat.le_of_ble_eq_true rfl, Nat.le_of_ble_eq_true rfl⟩ m_X7_thrown rfl i_X7_thrown v_X7_thrown rv_X7_thrown n_L_70 dl_583
  exact absurd hq List.not_mem_nil
theorem lk_10 (l : Launch) (hst : l.stackTraces = false) : ∀ q ∈ ck_l10, rz_CallOKA rz_XP l room_1 R_law code q.1 q.2.1 q.2.2.1 q.2.2.2 := by
  intro q hq
  rcases List.mem_cons.mp hq with rfl | hq
  · exact co_L_box l hst
  rcases List.mem_cons.mp hq with rfl | hq
  · exact rz_callVA (cn_X7_box l) (by decide +kernel) ⟨Nat.le_of_ble_eq_true rfl, Nat.le_of_ble_eq_true rfl⟩ m_X7_box rfl i_X7_box v_X7_box rv_X7_box n_L_77 dl_656
  rcases List.mem_cons.mp hq with rfl | hq
  · exact rz_callVA (cn_X7_thrown l) (by decide +kernel) ⟨Nat.le_of_ble_eq_true rfl, Nat.le_of_ble_eq_true rfl⟩ m_X7_thrown rfl i_X7_thrown v_X7_thrown rv_X7_thrown n_L_70 dl_662
  exact absurd hq List.not_mem_nil
theorem lk_11 (l : Launch) (hst : l.stackTraces = false) : ∀ q ∈ ck_l11, rz_CallOKA rz_XP l room_1 R_law code q.1 q.2.1 q.2.2.1 q.2.2.2 := by
  intro q hq
  rcases List.mem_cons.mp hq with rfl | hq
  · exact rz_callVA (cn_X6_plotted l) (by decide +kernel) ⟨Nat.le_of_ble_eq_true rfl, Nat.le_of_ble_eq_true rfl⟩ m_X6_plotted rfl i_X6_plotted v_X6_plotted rv_X6_plotted n_L_78 dl_705
  rcases List.mem_cons.mp hq with rfl | hq
  · exact rz_callVA (cn_X7_plotted l) (by decide +kernel) ⟨Nat.le_of_ble_eq_true rfl, Nat.le_of_ble_eq_true rfl⟩ m_X7_plotted rfl i_X7_plotted v_X7_plotted rv_X7_plotted n_L_81 dl_721
  exact absurd hq List.not_mem_nil
theorem lk_12 (l : Launch) (hst : l.stackTraces = false) : ∀ q ∈ ck_l12, rz_CallOKA rz_XP l room_1 R_law code q.1 q.2.1 q.2.2.1 q.2.2.2 := by
  intro q hq
  rcases List.mem_cons.mp hq with rfl | hq
  · exact rz_callVA (cn_X6_speed l) (by decide +kernel) ⟨Nat.le_of_ble_eq_true rfl, Nat.le_of_ble_eq_true rfl⟩ m_X6_speed rfl i_X6_speed v_X6_speed rv_X6_speed n_L_82 dl_736
  rcases List.mem_cons.mp hq with rfl | hq
  · exact rz_callVA (cn_X7_speed l) (by decide +kernel) ⟨Nat.le_of_ble_eq_true rfl, Nat.le_of_ble_eq_true rfl⟩ m_X7_speed rfl i_X7_speed v_X7_speed rv_X7_speed n_L_86 dl_746
  exact absurd hq List.not_mem_nil
theorem lk_13 (l : Launch) (hst : l.stackTraces = false) : ∀ q ∈ ck_l13, rz_CallOKA rz_XP l room_1 R_law code q.1 q.2.1 q.2.2.1 q.2.2.2 := by
  intro q hq
  rcases List.mem_cons.mp hq with rfl | hq
  · exact rz_callVA (cn_X6_track l) (by decide +kernel) ⟨Nat.le_of_ble_eq_true rfl, Nat.le_of_ble_eq_true rfl⟩ m_X6_track rfl i_X6_track v_X6_track rv_X6_track n_L_87 dl_767
  rcases List.mem_cons.mp hq with rfl | hq
  · exact rz_callVA (cn_X7_track l) (by decide +kernel) ⟨Nat.le_of_ble_eq_true rfl, Nat.le_of_ble_eq_true rfl⟩ m_X7_track rfl i_X7_track v_X7_track rv_X7_track n_L_90 dl_783
  exact absurd hq List.not_mem_nil
theorem lk_14 (l : Launch) (hst : l.stackTraces = false) : ∀ q ∈ ck_l14, rz_CallOKA rz_XP l room_1 R_law code q.1 q.2.1 q.2.2.1 q.2.2.2 := by
  intro q hq
  rcases List.mem_cons.mp hq with rfl | hq
  · exact rz_callVA (cn_X6_plan l) (by decide +kernel) ⟨Nat.le_of_ble_eq_true rfl, Nat.le_of_ble_eq_true rfl⟩ m_X6_plan rfl i_X6_plan v_X6_plan rv_X6_plan n_L_91 dl_816
  rcases List.mem_cons.mp hq with rfl | hq
  · exact rz_callVA (cn_X7_plan l) (by decide +kernel) ⟨Nat.le_of_ble_eq_true rfl, Nat.le_of_ble_eq_true rfl⟩ m_X7_plan rfl i_X7_plan v_X7_plan rv_X7_plan n_L_94 dl_844
  exact absurd hq List.not_mem_nil
theorem lk_15 (l : Launch) (hst : l.stackTraces = false) : ∀ q ∈ ck_l15, rz_CallOKA rz_XP l room_1 R_law code q.1 q.2.1 q.2.2.1 q.2.2.2 := by
  intro q hq
  rcases List.mem_cons.mp hq with rfl | hq
  · exact rz_callVA (cn_X6_in l) (by decide +kernel) ⟨Nat.le_of_ble_eq_true rfl, Nat.le_of_ble_eq_true rfl⟩ m_X6_in rfl i_X6_in v_X6_in rv_X6_in n_L_95 dl_859
  rcases List.mem_cons.mp hq with rfl | hq
  · exact rz_callVA (cn_X7_in l) (by decide +kernel) ⟨Nat.le_of_ble_eq_true rfl, Nat.le_of_ble_eq_true rfl⟩ m_X7_in rfl i_X7_in v_X7_in rv_X7_in n_L_98 dl_869
  exact absurd hq List.not_mem_nil
theorem lk_16 (l : Launch) (hst : l.stackTraces = false) : ∀ q ∈ ck_l16, rz_CallOKA rz_XP l room_1 R_law code q.1 q.2.1 q.2.2.1 q.2.2.2 := by
  intro q hq
  rcases List.mem_cons.mp hq with rfl | hq
  · exact rz_callVA (cn_X6_boat l) (by decide +kernel) ⟨Nat.le_of_ble_eq_true rfl, Nat.le_of_ble_eq_true rfl⟩ m_X6_boat rfl i_X6_boat v_X6_boat rv_X6_boat n_L_99 dl_896
  rcases List.mem_cons.mp hq with rfl | hq
  · exact rz_callVA (cn_X7_boat l) (by decide +kernel) ⟨Nat.le_of_ble_eq_true rfl, Nat.le_of_ble_eq_true rfl⟩ m_X7_boat rfl i_X7_boat v_X7_boat rv_X7_boat n_L_102 dl_918
  exact absurd hq List.not_mem_nil
theorem lk_17 (l : Launch) (hst : l.stackTraces = false) : ∀ q ∈ ck_l17, rz_CallOKA rz_XP l room_1 R_law code q.1 q.2.1 q.2.2.1 q.2.2.2 := by
  intro q hq
  rcases List.mem_cons.mp hq with rfl | hq
  · exact rz_callVA (cn_X6_call l) (by decide +kernel) ⟨Nat.le_of_ble_eq_true rfl, Nat.le_of_ble_eq_true rfl⟩ m_X6_call rfl i_X6_call v_X6_call rv_X6_call n_L_103 dl_939
  rcases List.mem_cons.mp hq with rfl | hq
  · exact rz_callVA (cn_X7_call l) (by decide +kernel) ⟨Nat.le_of_ble_eq_true rfl, Nat.le_of_ble_eq_true rfl⟩ m_X7_call rfl i_X7_call v_X7_call rv_X7_call n_L_106 dl_955
  exact absurd hq List.not_mem_nil
theorem lk_18 (l : Launch) (hst : l.stackTraces = false) : ∀ q ∈ ck_l18, rz_CallOKA rz_XP l room_1 R_law code q.1 q.2.1 q.2.2.1 q.2.2.2 := by
  intro q hq
  rcases List.mem_cons.mp hq with rfl | hq
  · exact rz_callVA (cn_X6_step l) (by decide +kernel) ⟨Nat.le_of_ble_eq_true rfl, Nat.le_of_ble_eq_true rfl⟩ m_X6_step rfl i_X6_step v_X6_step rv_X6_step n_L_107 dl_970
  rcases List.mem_cons.mp hq with rfl | hq
  · exact rz_callVA (cn_X7_step l) (by decide +kernel) ⟨Nat.le_of_ble_eq_true rfl, Nat.le_of_ble_eq_true rfl⟩ m_X7_step rfl i_X7_step v_X7_step rv_X7_step n_L_110 dl_980
  exact absurd hq List.not_mem_nil
theorem lk_19 (l : Launch) (hst : l.stackTraces = false) : ∀ q ∈ ck_l19, rz_CallOKA rz_XP l room_1 R_law code q.1 q.2.1 q.2.2.1 q.2.2.2 := by
  intro q hq
  rcases List.mem_cons.mp hq with rfl | hq
  · exact rz_callVA (cn_X6_log l) (by decide +kernel) ⟨Nat.le_of_ble_eq_true rfl, Nat.le_of_ble_eq_true rfl⟩ m_X6_log rfl i_X6_log v_X6_log rv_X6_log n_L_111 dl_1001
  rcases List.mem_cons.mp hq with rfl | hq
  · exact rz_callVA (cn_X7_log l) (by decide +kernel) ⟨Nat.le_of_ble_eq_true rfl, Nat.le_of_ble_eq_true rfl⟩ m_X7_log rfl i_X7_log v_X7_log rv_X7_log n_L_114 dl_1017
  exact absurd hq List.not_mem_nil
theorem lk_20 (l : Launch) (hst : l.stackTraces = false) : ∀ q ∈ ck_l20, rz_CallOKA rz_XP l room_1 R_law code q.1 q.2.1 q.2.2.1 q.2.2.2 := by
  intro q hq
  rcases List.mem_cons.mp hq with rfl | hq
  · exact rz_callVA (cn_X6_count l) (by decide +kernel) ⟨Nat.le_of_ble_eq_true rfl, Nat.le_of_ble_eq_true rfl⟩ m_X6_count rfl i_X6_count v_X6_count rv_X6_count n_L_115 dl_1032
  rcases List.mem_cons.mp hq with rfl | hq
  · exact rz_callVA (cn_X7_count l) (by decide +kernel) ⟨Nat.le_of_ble_eq_true rfl, Nat.le_of_ble_eq_true rfl⟩ m_X7_count rfl i_X7_count v_X7_count rv_X7_count n_L_118 dl_1042
  exact absurd hq List.not_mem_nil
