/-! Fields and classes: by program out of the tables. -/
theorem cu_X0 : ∀ w ∈ u_ws RX0 TX0 8, w ∈ bw := bw_ts _ [203, 205, 207, 209, 211, 213, 215, 217] (by decide +kernel) (by decide +kernel)
theorem cu_X1 : ∀ w ∈ u_ws RX1 TX1 5, w ∈ bw := bw_ts _ [234, 236, 238, 240, 242] (by decide +kernel) (by decide +kernel)
theorem cu_X2 : ∀ w ∈ u_ws RX2 TX2 9, w ∈ bw := bw_ts _ [48, 50, 52, 54, 56, 58, 60, 62, 64] (by decide +kernel) (by decide +kernel)
theorem cu_X3 : ∀ w ∈ u_ws RX3 TX3 12, w ∈ bw := bw_ts _ [161, 163, 165, 167, 169, 171, 173, 175, 177, 179, 181, 183] (by decide +kernel) (by decide +kernel)
theorem cu_X4 : ∀ w ∈ u_ws RX4 TX4 10, w ∈ bw := bw_ts _ [118, 120, 122, 124, 126, 128, 130, 132, 134, 136] (by decide +kernel) (by decide +kernel)
theorem cu_X5 : ∀ w ∈ u_ws RX5 TX5 8, w ∈ bw := bw_ts _ [84, 86, 88, 90, 92, 94, 96, 98] (by decide +kernel) (by decide +kernel)
theorem cu_X6 : ∀ w ∈ u_ws RX6 TX6 7, w ∈ bw := bw_ts _ [252, 254, 256, 258, 260, 262, 264] (by decide +kernel) (by decide +kernel)
theorem cu_X7 : ∀ w ∈ u_ws RX7 TX7 35, w ∈ bw := bw_ts _ [716, 718, 720, 722, 724, 726, 728, 730, 732, 734, 736, 738, 740, 742, 744, 746, 748, 750, 752, 754, 756, 758, 760, 762, 764, 766, 768, 770, 772, 774, 776, 778, 780, 782, 784] (by decide +kernel) (by decide +kernel)
theorem rz_cls : rz_Cls := by
  intro ci C T N h
  match ci, h with
  | 0, h => cases h; exact ⟨cu_X0, ⟨tyX0, tyX0_ok⟩, nmX0⟩
  | 1, h => cases h; exact ⟨cu_X1, ⟨tyX1, tyX1_ok⟩, nmX1⟩
  | 2, h => cases h; exact ⟨cu_X2, ⟨tyX2, tyX2_ok⟩, nmX2⟩
  | 3, h => cases h; exact ⟨cu_X3, ⟨tyX3, tyX3_ok⟩, nmX3⟩
  | 4, h => cases h; exact ⟨cu_X4, ⟨tyX4, tyX4_ok⟩, nmX4⟩
  | 5, h => cases h; exact ⟨cu_X5, ⟨tyX5, tyX5_ok⟩, nmX5⟩
  | 6, h => cases h; exact ⟨cu_X6, ⟨tyX6, tyX6_ok⟩, nmX6⟩
  | 7, h => cases h; exact ⟨cu_X7, ⟨tyX7, tyX7_ok⟩, nmX7⟩
  | k + 8, h => simp [vwCl] at h
def fl_X0 : List (Nat × Nat × Nat × Bool) := [(9, 0, 0, false), (15, 0, 1, false), (18, 0, 2, false), (21, 0, 3, false), (24, 0, 4, false), (27, 0, 5, false), (30, 0, 6, true), (34, 0, 7, true)]
theorem fo_X0 : rz_Fld RX0 fl_X0 := rz_fldOf rz_cls [192, 193, 194, 195, 196, 197, 199, 200] rfl (by decide +kernel)
def fl_X1 : List (Nat × Nat × Nat × Bool) := [(9, 1, 0, false), (15, 1, 1, false), (18, 1, 2, false), (21, 1, 3, false), (24, 1, 4, true), (42, 0, 7, true)]
theorem fo_X1 : rz_Fld RX1 fl_X1 := rz_fldOf rz_cls [227, 229, 230, 231, 232, 201] rfl (by decide +kernel)
def fl_X2 : List (Nat × Nat × Nat × Bool) := [(9, 2, 0, false), (15, 2, 1, false), (18, 2, 2, false), (21, 2, 3, false), (24, 2, 4, false), (27, 2, 5, false), (30, 2, 6, false), (33, 2, 7, true), (37, 2, 8, true)]
theorem fo_X2 : rz_Fld RX2 fl_X2 := rz_fldOf rz_cls [34, 36, 38, 39, 40, 41, 43, 44, 46] rfl (by decide +kernel)
def fl_X3 : List (Nat × Nat × Nat × Bool) := [(9, 3, 0, false), (15, 3, 1, false), (18, 3, 2, false), (21, 3, 3, false), (24, 3, 4, false), (27, 3, 5, false), (30, 3, 6, false), (33, 3, 7, false), (36, 3, 8, false), (39, 3, 9, true), (43, 3, 10, true), (46, 3, 11, true)]
theorem fo_X3 : rz_Fld RX3 fl_X3 := rz_fldOf rz_cls [146, 147, 148, 149, 150, 151, 152, 153, 154, 155, 157, 159] rfl (by decide +kernel)
def fl_X4 : List (Nat × Nat × Nat × Bool) := [(11, 4, 0, false), (15, 4, 1, false), (18, 4, 2, false), (21, 4, 3, false), (24, 4, 4, false), (27, 4, 5, false), (30, 4, 6, false), (33, 4, 7, false), (36, 4, 8, false), (39, 4, 9, true)]
theorem fo_X4 : rz_Fld RX4 fl_X4 := rz_fldOf rz_cls [107, 108, 109, 110, 111, 112, 113, 114, 115, 116] rfl (by decide +kernel)
def fl_X5 : List (Nat × Nat × Nat × Bool) := [(9, 5, 0, false), (15, 5, 1, false), (18, 5, 2, false), (21, 5, 3, false), (24, 5, 4, false), (27, 5, 5, false), (30, 5, 6, false), (33, 5, 7, true)]
theorem fo_X5 : rz_Fld RX5 fl_X5 := rz_fldOf rz_cls [74, 75, 76, 78, 79, 80, 81, 82] rfl (by decide +kernel)
def fl_X6 : List (Nat × Nat × Nat × Bool) := [(10, 6, 0, false), (19, 6, 1, false), (26, 6, 2, false), (33, 6, 3, false), (40, 6, 4, false), (47, 6, 5, false), (51, 6, 6, true), (75, 2, 5, false), (96, 2, 0, false), (99, 2, 1, false), (112, 4, 9, true), (128, 5, 2, false), (134, 3, 11, true), (156, 0, 5, false), (162, 1, 0, false), (170, 2, 7, true), (173, 2, 8, true), (176, 5, 7, true), (179, 3, 9, true), (180, 3, 10, true), (183, 0, 7, true), (184, 1, 4, true)]
theorem fo_X6 : rz_Fld RX6 fl_X6 := rz_fldOf rz_cls [245, 246, 247, 248, 249, 250, 251, 42, 35, 37, 117, 77, 160, 198, 228, 45, 47, 83, 156, 158, 202, 233] rfl (by decide +kernel)
def fl_X7 : List (Nat × Nat × Nat × Bool) := [(9, 7, 1, false), (13, 7, 2, false), (16, 7, 3, false), (19, 7, 4, false), (22, 7, 5, false), (25, 7, 6, false), (28, 7, 16, true), (32, 7, 17, false), (35, 7, 18, false), (38, 7, 19, false), (41, 7, 20, false), (44, 7, 21, false), (47, 7, 22, false), (50, 7, 23, false), (53, 7, 24, false), (56, 7, 25, false), (59, 7, 26, false), (62, 7, 27, false), (66, 7, 28, false), (69, 7, 29, false), (72, 7, 30, false), (75, 7, 31, false), (78, 7, 32, false), (81, 7, 34, false), (84, 7, 0, true), (91, 7, 7, true), (98, 7, 8, true), (113, 7, 10, true), (116, 7, 9, true), (131, 7, 33, true), (175, 7, 11, true), (178, 7, 12, true), (188, 7, 13, true), (193, 7, 14, true), (210, 7, 15, true)]
theorem fo_X7 : rz_Fld RX7 fl_X7 := rz_fldOf rz_cls [682, 683, 684, 685, 686, 687, 697, 698, 699, 700, 701, 702, 703, 704, 705, 706, 707, 708, 709, 710, 711, 712, 713, 715, 681, 688, 689, 691, 690, 714, 692, 693, 694, 695, 696] rfl (by decide +kernel)
def fl_J6 : List (Nat × Nat × Nat × Bool) := []
theorem fo_J6 : rz_Fld RJ6 fl_J6 := fun _ _ _ _ ix q h => by cases h
def fl_J7 : List (Nat × Nat × Nat × Bool) := []
theorem fo_J7 : rz_Fld RJ7 fl_J7 := fun _ _ _ _ ix q h => by cases h
def fl_J9 : List (Nat × Nat × Nat × Bool) := []
theorem fo_J9 : rz_Fld RJ9 fl_J9 := fun _ _ _ _ ix q h => by cases h
def fl_J13 : List (Nat × Nat × Nat × Bool) := []
theorem fo_J13 : rz_Fld RJ13 fl_J13 := fun _ _ _ _ ix q h => by cases h
