/-! Tables of the law: by program. -/
def k_lA : List (Nat × rz_I) := [(0, .new 8, 3, 0, 0, 0, 0), (3, .dup, 4, 0, 0, 0, 0), (4, .invokespecial 19, 7, 0, 0, 0, 0), (7, .astore_n 1, 8, 1, 0, 0, 0), (8, .new 20, 11, 0, 0, 0, 0), (11, .dup, 12, 0, 0, 0, 0), (12, .invokespecial 22, 15, 0, 0, 0, 0), (15, .astore_n 2, 16, 2, 0, 0, 0), (16, .iconst 1, 17, 0, 0, 1, 0), (17, .newarray .long, 19, 0, 0, 0, 0), (19, .astore_n 3, 20, 3, 0, 0, 0), (20, .iconst 0, 21, 0, 0, 0, 0), (21, .istore 4, 23, 4, 0, 0, 0)]
def s_lA : List (Int32 × Nat) := []
def xa_lA : List (Nat × rz_S) := [(0, 2, 0, 6), (8, 2, 50, 7), (17, 1, 80, 1)]
def xh_lA : List (Nat × Nat × Nat × Nat) := [(0, 17, 18, 1), (8, 675, 676, 9), (17, 0, 0, 0)]
theorem xr_lA : ∀ q ∈ k_lA, rz_rowX R_law code 8 (some .boolean) true s_lA (xa_lA.map Prod.fst ++ ([4, 12] ++ [])) q.1 q.2 := rz_rowsX (by decide +kernel)
theorem xk_lA : ∀ q ∈ k_lA, ∀ z, rz_get xa_lA q.1 = some z → rz_caOK R_law x_df z q.2.1 := rz_caOf rz_cls xh_lA (by decide +kernel)
theorem xl_lA : ∀ q ∈ k_lA, rz_get xa_lA q.1 = none → rz_mem q.1 (xa_lA.map Prod.fst ++ ([4, 12] ++ [])) = true → rz_len q.2.1 = 3 := rz_l3 (by decide +kernel)
theorem xn_lA : ∀ q ∈ xa_lA, ¬ q.2.1 = 3 := by decide +kernel
def k_lB : List (Nat × rz_I) := [(23, .iload 4, 25, 4, 0, 0, 0), (25, .aload_n 0, 26, 0, 0, 0, 0), (26, .arraylength, 27, 0, 0, 0, 0), (27, .bipush 6, 29, 0, 0, 6, 0), (29, .isub, 30, 0, 0, 0, 0), (30, .if_icmp .gt 1026, 33, 1056, 0, 0, 0), (33, .aload_n 0, 34, 0, 0, 0, 0), (34, .iload 4, 36, 4, 0, 0, 0), (36, .iaload, 37, 0, 0, 0, 0), (37, .bipush 31, 39, 0, 0, 31, 0), (39, .iand, 40, 0, 0, 0, 0), (40, .tableswitch 1010 0 20 #[100, 149, 186, 223, 284, 309, 334, 407, 444, 481, 572, 652, 689, 714, 751, 812, 837, 886, 923, 948, 985], 140, 1050, 0, 0, 0)]
def s_lB : List (Int32 × Nat) := [(0, 140), (1, 189), (2, 226), (3, 263), (4, 324), (5, 349), (6, 374), (7, 447), (8, 484), (9, 521), (10, 612), (11, 692), (12, 729), (13, 754), (14, 791), (15, 852), (16, 877), (17, 926), (18, 963), (19, 988), (20, 1025)]
def xa_lB : List (Nat × rz_S) := [(26, 6, 0, 0), (36, 5, 0, 0)]
def xh_lB : List (Nat × Nat × Nat × Nat) := [(26, 0, 0, 0), (36, 0, 0, 0)]
theorem xr_lB : ∀ q ∈ k_lB, rz_rowX R_law code 8 (some .boolean) true s_lB (xa_lB.map Prod.fst ++ ([] ++ [])) q.1 q.2 := rz_rowsX (by decide +kernel)
theorem xk_lB : ∀ q ∈ k_lB, ∀ z, rz_get xa_lB q.1 = some z → rz_caOK R_law x_df z q.2.1 := rz_caOf rz_cls xh_lB (by decide +kernel)
theorem xl_lB : ∀ q ∈ k_lB, rz_get xa_lB q.1 = none → rz_mem q.1 (xa_lB.map Prod.fst ++ ([] ++ [])) = true → rz_len q.2.1 = 3 := rz_l3 (by decide +kernel)
theorem xn_lB : ∀ q ∈ xa_lB, ¬ q.2.1 = 3 := by decide +kernel
def k_l0 : List (Nat × rz_I) := [(140, .aload_n 1, 141, 1, 0, 0, 0), (141, .aload_n 0, 142, 0, 0, 0, 0), (142, .iload 4, 144, 4, 0, 0, 0), (144, .iconst 1, 145, 0, 0, 1, 0), (145, .iadd, 146, 0, 0, 0, 0), (146, .iaload, 147, 0, 0, 0, 0), (147, .aload_n 0, 148, 0, 0, 0, 0), (148, .iload 4, 150, 4, 0, 0, 0), (150, .iconst 2, 151, 0, 0, 2, 0), (151, .iadd, 152, 0, 0, 0, 0), (152, .iaload, 153, 0, 0, 0, 0), (153, .aload_n 0, 154, 0, 0, 0, 0), (154, .iload 4, 156, 4, 0, 0, 0), (156, .iconst 3, 157, 0, 0, 3, 0), (157, .iadd, 158, 0, 0, 0, 0), (158, .iaload, 159, 0, 0, 0, 0), (159, .invokevirtual 23, 162, 0, 0, 0, 0), (162, .aload_n 2, 163, 2, 0, 0, 0), (163, .aload_n 0, 164, 0, 0, 0, 0), (164, .iload 4, 166, 4, 0, 0, 0), (166, .iconst 1, 167, 0, 0, 1, 0), (167, .iadd, 168, 0, 0, 0, 0), (168, .iaload, 169, 0, 0, 0, 0), (169, .aload_n 0, 170, 0, 0, 0, 0), (170, .iload 4, 172, 4, 0, 0, 0), (172, .iconst 2, 173, 0, 0, 2, 0), (173, .iadd, 174, 0, 0, 0, 0), (174, .iaload, 175, 0, 0, 0, 0), (175, .aload_n 0, 176, 0, 0, 0, 0), (176, .iload 4, 178, 4, 0, 0, 0), (178, .iconst 3, 179, 0, 0, 3, 0), (179, .iadd, 180, 0, 0, 0, 0), (180, .iaload, 181, 0, 0, 0, 0), (181, .invokevirtual 26, 184, 0, 0, 0, 0), (184, .if_icmp .eq 866, 187, 1050, 0, 0, 0), (187, .iconst 0, 188, 0, 0, 0, 0), (188, .ireturn, 189, 0, 0, 0, 0)]
def s_l0 : List (Int32 × Nat) := []
def xa_l0 : List (Nat × rz_S) := [(146, 5, 0, 0), (152, 5, 0, 0), (158, 5, 0, 0), (168, 5, 0, 0), (174, 5, 0, 0), (180, 5, 0, 0)]
def xh_l0 : List (Nat × Nat × Nat × Nat) := [(146, 0, 0, 0), (152, 0, 0, 0), (158, 0, 0, 0), (168, 0, 0, 0), (174, 0, 0, 0), (180, 0, 0, 0)]
theorem xr_l0 : ∀ q ∈ k_l0, rz_rowX R_law code 8 (some .boolean) true s_l0 (xa_l0.map Prod.fst ++ ([] ++ [159, 181])) q.1 q.2 := rz_rowsX (by decide +kernel)
theorem xk_l0 : ∀ q ∈ k_l0, ∀ z, rz_get xa_l0 q.1 = some z → rz_caOK R_law x_df z q.2.1 := rz_caOf rz_cls xh_l0 (by decide +kernel)
theorem xl_l0 : ∀ q ∈ k_l0, rz_get xa_l0 q.1 = none → rz_mem q.1 (xa_l0.map Prod.fst ++ ([] ++ [159, 181])) = true → rz_len q.2.1 = 3 := rz_l3 (by decide +kernel)
theorem xn_l0 : ∀ q ∈ xa_l0, ¬ q.2.1 = 3 := by decide +kernel
def k_l1 : List (Nat × rz_I) := [(189, .aload_n 1, 190, 1, 0, 0, 0), (190, .aload_n 0, 191, 0, 0, 0, 0), (191, .iload 4, 193, 4, 0, 0, 0), (193, .iconst 1, 194, 0, 0, 1, 0), (194, .iadd, 195, 0, 0, 0, 0), (195, .iaload, 196, 0, 0, 0, 0), (196, .aload_n 0, 197, 0, 0, 0, 0), (197, .iload 4, 199, 4, 0, 0, 0), (199, .iconst 2, 200, 0, 0, 2, 0), (200, .iadd, 201, 0, 0, 0, 0), (201, .iaload, 202, 0, 0, 0, 0), (202, .invokevirtual 27, 205, 0, 0, 0, 0), (205, .aload_n 2, 206, 2, 0, 0, 0), (206, .aload_n 0, 207, 0, 0, 0, 0), (207, .iload 4, 209, 4, 0, 0, 0), (209, .iconst 1, 210, 0, 0, 1, 0), (210, .iadd, 211, 0, 0, 0, 0), (211, .iaload, 212, 0, 0, 0, 0), (212, .aload_n 0, 213, 0, 0, 0, 0), (213, .iload 4, 215, 4, 0, 0, 0), (215, .iconst 2, 216, 0, 0, 2, 0), (216, .iadd, 217, 0, 0, 0, 0), (217, .iaload, 218, 0, 0, 0, 0), (218, .invokevirtual 31, 221, 0, 0, 0, 0), (221, .if_icmp .eq 829, 224, 1050, 0, 0, 0), (224, .iconst 0, 225, 0, 0, 0, 0), (225, .ireturn, 226, 0, 0, 0, 0)]
def s_l1 : List (Int32 × Nat) := []
def xa_l1 : List (Nat × rz_S) := [(195, 5, 0, 0), (201, 5, 0, 0), (211, 5, 0, 0), (217, 5, 0, 0)]
def xh_l1 : List (Nat × Nat × Nat × Nat) := [(195, 0, 0, 0), (201, 0, 0, 0), (211, 0, 0, 0), (217, 0, 0, 0)]
theorem xr_l1 : ∀ q ∈ k_l1, rz_rowX R_law code 8 (some .boolean) true s_l1 (xa_l1.map Prod.fst ++ ([] ++ [202, 218])) q.1 q.2 := rz_rowsX (by decide +kernel)
theorem xk_l1 : ∀ q ∈ k_l1, ∀ z, rz_get xa_l1 q.1 = some z → rz_caOK R_law x_df z q.2.1 := rz_caOf rz_cls xh_l1 (by decide +kernel)
theorem xl_l1 : ∀ q ∈ k_l1, rz_get xa_l1 q.1 = none → rz_mem q.1 (xa_l1.map Prod.fst ++ ([] ++ [202, 218])) = true → rz_len q.2.1 = 3 := rz_l3 (by decide +kernel)
theorem xn_l1 : ∀ q ∈ xa_l1, ¬ q.2.1 = 3 := by decide +kernel
def k_l2 : List (Nat × rz_I) := [(226, .aload_n 1, 227, 1, 0, 0, 0), (227, .aload_n 0, 228, 0, 0, 0, 0), (228, .iload 4, 230, 4, 0, 0, 0), (230, .iconst 1, 231, 0, 0, 1, 0), (231, .iadd, 232, 0, 0, 0, 0), (232, .iaload, 233, 0, 0, 0, 0), (233, .aload_n 0, 234, 0, 0, 0, 0), (234, .iload 4, 236, 4, 0, 0, 0), (236, .iconst 2, 237, 0, 0, 2, 0), (237, .iadd, 238, 0, 0, 0, 0), (238, .iaload, 239, 0, 0, 0, 0), (239, .invokevirtual 32, 242, 0, 0, 0, 0), (242, .aload_n 2, 243, 2, 0, 0, 0), (243, .aload_n 0, 244, 0, 0, 0, 0), (244, .iload 4, 246, 4, 0, 0, 0), (246, .iconst 1, 247, 0, 0, 1, 0), (247, .iadd, 248, 0, 0, 0, 0), (248, .iaload, 249, 0, 0, 0, 0), (249, .aload_n 0, 250, 0, 0, 0, 0), (250, .iload 4, 252, 4, 0, 0, 0), (252, .iconst 2, 253, 0, 0, 2, 0), (253, .iadd, 254, 0, 0, 0, 0), (254, .iaload, 255, 0, 0, 0, 0), (255, .invokevirtual 36, 258, 0, 0, 0, 0), (258, .if_icmp .eq 792, 261, 1050, 0, 0, 0), (261, .iconst 0, 262, 0, 0, 0, 0), (262, .ireturn, 263, 0, 0, 0, 0)]
def s_l2 : List (Int32 × Nat) := []
def xa_l2 : List (Nat × rz_S) := [(232, 5, 0, 0), (238, 5, 0, 0), (248, 5, 0, 0), (254, 5, 0, 0)]
def xh_l2 : List (Nat × Nat × Nat × Nat) := [(232, 0, 0, 0), (238, 0, 0, 0), (248, 0, 0, 0), (254, 0, 0, 0)]
theorem xr_l2 : ∀ q ∈ k_l2, rz_rowX R_law code 8 (some .boolean) true s_l2 (xa_l2.map Prod.fst ++ ([] ++ [239, 255])) q.1 q.2 := rz_rowsX (by decide +kernel)
theorem xk_l2 : ∀ q ∈ k_l2, ∀ z, rz_get xa_l2 q.1 = some z → rz_caOK R_law x_df z q.2.1 := rz_caOf rz_cls xh_l2 (by decide +kernel)
theorem xl_l2 : ∀ q ∈ k_l2, rz_get xa_l2 q.1 = none → rz_mem q.1 (xa_l2.map Prod.fst ++ ([] ++ [239, 255])) = true → rz_len q.2.1 = 3 := rz_l3 (by decide +kernel)
theorem xn_l2 : ∀ q ∈ xa_l2, ¬ q.2.1 = 3 := by decide +kernel
def k_l3 : List (Nat × rz_I) := [(263, .aload_n 1, 264, 1, 0, 0, 0), (264, .aload_n 0, 265, 0, 0, 0, 0), (265, .iload 4, 267, 4, 0, 0, 0), (267, .iconst 1, 268, 0, 0, 1, 0), (268, .iadd, 269, 0, 0, 0, 0), (269, .iaload, 270, 0, 0, 0, 0), (270, .aload_n 0, 271, 0, 0, 0, 0), (271, .iload 4, 273, 4, 0, 0, 0), (273, .iconst 2, 274, 0, 0, 2, 0), (274, .iadd, 275, 0, 0, 0, 0), (275, .iaload, 276, 0, 0, 0, 0), (276, .aload_n 0, 277, 0, 0, 0, 0), (277, .iload 4, 279, 4, 0, 0, 0), (279, .iconst 3, 280, 0, 0, 3, 0), (280, .iadd, 281, 0, 0, 0, 0), (281, .iaload, 282, 0, 0, 0, 0), (282, .aload_n 0, 283, 0, 0, 0, 0), (283, .iload 4, 285, 4, 0, 0, 0), (285, .iconst 4, 286, 0, 0, 4, 0), (286, .iadd, 287, 0, 0, 0, 0), (287, .iaload, 288, 0, 0, 0, 0), (288, .invokevirtual 37, 291, 0, 0, 0, 0), (291, .aload_n 2, 292, 2, 0, 0, 0), (292, .aload_n 0, 293, 0, 0, 0, 0), (293, .iload 4, 295, 4, 0, 0, 0), (295, .iconst 1, 296, 0, 0, 1, 0), (296, .iadd, 297, 0, 0, 0, 0), (297, .iaload, 298, 0, 0, 0, 0), (298, .aload_n 0, 299, 0, 0, 0, 0), (299, .iload 4, 301, 4, 0, 0, 0), (301, .iconst 2, 302, 0, 0, 2, 0), (302, .iadd, 303, 0, 0, 0, 0), (303, .iaload, 304, 0, 0, 0, 0), (304, .aload_n 0, 305, 0, 0, 0, 0), (305, .iload 4, 307, 4, 0, 0, 0), (307, .iconst 3, 308, 0, 0, 3, 0), (308, .iadd, 309, 0, 0, 0, 0), (309, .iaload, 310, 0, 0, 0, 0), (310, .aload_n 0, 311, 0, 0, 0, 0), (311, .iload 4, 313, 4, 0, 0, 0), (313, .iconst 4, 314, 0, 0, 4, 0), (314, .iadd, 315, 0, 0, 0, 0), (315, .iaload, 316, 0, 0, 0, 0), (316, .invokevirtual 41, 319, 0, 0, 0, 0), (319, .if_icmp .eq 731, 322, 1050, 0, 0, 0), (322, .iconst 0, 323, 0, 0, 0, 0), (323, .ireturn, 324, 0, 0, 0, 0)]
def s_l3 : List (Int32 × Nat) := []
def xa_l3 : List (Nat × rz_S) := [(269, 5, 0, 0), (275, 5, 0, 0), (281, 5, 0, 0), (287, 5, 0, 0), (297, 5, 0, 0), (303, 5, 0, 0), (309, 5, 0, 0), (315, 5, 0, 0)]
def xh_l3 : List (Nat × Nat × Nat × Nat) := [(269, 0, 0, 0), (275, 0, 0, 0), (281, 0, 0, 0), (287, 0, 0, 0), (297, 0, 0, 0), (303, 0, 0, 0), (309, 0, 0, 0), (315, 0, 0, 0)]
theorem xr_l3 : ∀ q ∈ k_l3, rz_rowX R_law code 8 (some .boolean) true s_l3 (xa_l3.map Prod.fst ++ ([] ++ [288, 316])) q.1 q.2 := rz_rowsX (by decide +kernel)
theorem xk_l3 : ∀ q ∈ k_l3, ∀ z, rz_get xa_l3 q.1 = some z → rz_caOK R_law x_df z q.2.1 := rz_caOf rz_cls xh_l3 (by decide +kernel)
theorem xl_l3 : ∀ q ∈ k_l3, rz_get xa_l3 q.1 = none → rz_mem q.1 (xa_l3.map Prod.fst ++ ([] ++ [288, 316])) = true → rz_len q.2.1 = 3 := rz_l3 (by decide +kernel)
theorem xn_l3 : ∀ q ∈ xa_l3, ¬ q.2.1 = 3 := by decide +kernel
def k_l4 : List (Nat × rz_I) := [(324, .aload_n 1, 325, 1, 0, 0, 0), (325, .aload_n 0, 326, 0, 0, 0, 0), (326, .iload 4, 328, 4, 0, 0, 0), (328, .iconst 1, 329, 0, 0, 1, 0), (329, .iadd, 330, 0, 0, 0, 0), (330, .iaload, 331, 0, 0, 0, 0), (331, .invokevirtual 42, 334, 0, 0, 0, 0), (334, .aload_n 2, 335, 2, 0, 0, 0), (335, .aload_n 0, 336, 0, 0, 0, 0), (336, .iload 4, 338, 4, 0, 0, 0), (338, .iconst 1, 339, 0, 0, 1, 0), (339, .iadd, 340, 0, 0, 0, 0), (340, .iaload, 341, 0, 0, 0, 0), (341, .invokevirtual 46, 344, 0, 0, 0, 0), (344, .if_icmp .eq 706, 347, 1050, 0, 0, 0), (347, .iconst 0, 348, 0, 0, 0, 0), (348, .ireturn, 349, 0, 0, 0, 0)]
def s_l4 : List (Int32 × Nat) := []
def xa_l4 : List (Nat × rz_S) := [(330, 5, 0, 0), (340, 5, 0, 0)]
def xh_l4 : List (Nat × Nat × Nat × Nat) := [(330, 0, 0, 0), (340, 0, 0, 0)]
theorem xr_l4 : ∀ q ∈ k_l4, rz_rowX R_law code 8 (some .boolean) true s_l4 (xa_l4.map Prod.fst ++ ([] ++ [331, 341])) q.1 q.2 := rz_rowsX (by decide +kernel)
theorem xk_l4 : ∀ q ∈ k_l4, ∀ z, rz_get xa_l4 q.1 = some z → rz_caOK R_law x_df z q.2.1 := rz_caOf rz_cls xh_l4 (by decide +kernel)
theorem xl_l4 : ∀ q ∈ k_l4, rz_get xa_l4 q.1 = none → rz_mem q.1 (xa_l4.map Prod.fst ++ ([] ++ [331, 341])) = true → rz_len q.2.1 = 3 := rz_l3 (by decide +kernel)
theorem xn_l4 : ∀ q ∈ xa_l4, ¬ q.2.1 = 3 := by decide +kernel
def k_l5 : List (Nat × rz_I) := [(349, .aload_n 1, 350, 1, 0, 0, 0), (350, .aload_n 0, 351, 0, 0, 0, 0), (351, .iload 4, 353, 4, 0, 0, 0), (353, .iconst 1, 354, 0, 0, 1, 0), (354, .iadd, 355, 0, 0, 0, 0), (355, .iaload, 356, 0, 0, 0, 0), (356, .invokevirtual 47, 359, 0, 0, 0, 0), (359, .aload_n 2, 360, 2, 0, 0, 0), (360, .aload_n 0, 361, 0, 0, 0, 0), (361, .iload 4, 363, 4, 0, 0, 0), (363, .iconst 1, 364, 0, 0, 1, 0), (364, .iadd, 365, 0, 0, 0, 0), (365, .iaload, 366, 0, 0, 0, 0), (366, .invokevirtual 50, 369, 0, 0, 0, 0), (369, .if_icmp .eq 681, 372, 1050, 0, 0, 0), (372, .iconst 0, 373, 0, 0, 0, 0), (373, .ireturn, 374, 0, 0, 0, 0)]
def s_l5 : List (Int32 × Nat) := []
def xa_l5 : List (Nat × rz_S) := [(355, 5, 0, 0), (365, 5, 0, 0)]
def xh_l5 : List (Nat × Nat × Nat × Nat) := [(355, 0, 0, 0), (365, 0, 0, 0)]
theorem xr_l5 : ∀ q ∈ k_l5, rz_rowX R_law code 8 (some .boolean) true s_l5 (xa_l5.map Prod.fst ++ ([] ++ [356, 366])) q.1 q.2 := rz_rowsX (by decide +kernel)
theorem xk_l5 : ∀ q ∈ k_l5, ∀ z, rz_get xa_l5 q.1 = some z → rz_caOK R_law x_df z q.2.1 := rz_caOf rz_cls xh_l5 (by decide +kernel)
theorem xl_l5 : ∀ q ∈ k_l5, rz_get xa_l5 q.1 = none → rz_mem q.1 (xa_l5.map Prod.fst ++ ([] ++ [356, 366])) = true → rz_len q.2.1 = 3 := rz_l3 (by decide +kernel)
theorem xn_l5 : ∀ q ∈ xa_l5, ¬ q.2.1 = 3 := by decide +kernel
def k_l6 : List (Nat × rz_I) := [(374, .aload_n 1, 375, 1, 0, 0, 0), (375, .aload_n 0, 376, 0, 0, 0, 0), (376, .iload 4, 378, 4, 0, 0, 0), (378, .iconst 1, 379, 0, 0, 1, 0), (379, .iadd, 380, 0, 0, 0, 0), (380, .iaload, 381, 0, 0, 0, 0), (381, .aload_n 0, 382, 0, 0, 0, 0), (382, .iload 4, 384, 4, 0, 0, 0), (384, .iconst 2, 385, 0, 0, 2, 0), (385, .iadd, 386, 0, 0, 0, 0), (386, .iaload, 387, 0, 0, 0, 0), (387, .aload_n 0, 388, 0, 0, 0, 0), (388, .iload 4, 390, 4, 0, 0, 0), (390, .iconst 3, 391, 0, 0, 3, 0), (391, .iadd, 392, 0, 0, 0, 0), (392, .iaload, 393, 0, 0, 0, 0), (393, .aload_n 0, 394, 0, 0, 0, 0), (394, .iload 4, 396, 4, 0, 0, 0), (396, .iconst 4, 397, 0, 0, 4, 0), (397, .iadd, 398, 0, 0, 0, 0), (398, .iaload, 399, 0, 0, 0, 0), (399, .aload_n 0, 400, 0, 0, 0, 0), (400, .iload 4, 402, 4, 0, 0, 0), (402, .iconst 5, 403, 0, 0, 5, 0), (403, .iadd, 404, 0, 0, 0, 0), (404, .iaload, 405, 0, 0, 0, 0), (405, .invokevirtual 51, 408, 0, 0, 0, 0), (408, .aload_n 2, 409, 2, 0, 0, 0), (409, .aload_n 0, 410, 0, 0, 0, 0), (410, .iload 4, 412, 4, 0, 0, 0), (412, .iconst 1, 413, 0, 0, 1, 0), (413, .iadd, 414, 0, 0, 0, 0), (414, .iaload, 415, 0, 0, 0, 0), (415, .aload_n 0, 416, 0, 0, 0, 0), (416, .iload 4, 418, 4, 0, 0, 0), (418, .iconst 2, 419, 0, 0, 2, 0), (419, .iadd, 420, 0, 0, 0, 0), (420, .iaload, 421, 0, 0, 0, 0), (421, .aload_n 0, 422, 0, 0, 0, 0), (422, .iload 4, 424, 4, 0, 0, 0), (424, .iconst 3, 425, 0, 0, 3, 0), (425, .iadd, 426, 0, 0, 0, 0), (426, .iaload, 427, 0, 0, 0, 0), (427, .aload_n 0, 428, 0, 0, 0, 0), (428, .iload 4, 430, 4, 0, 0, 0), (430, .iconst 4, 431, 0, 0, 4, 0), (431, .iadd, 432, 0, 0, 0, 0), (432, .iaload, 433, 0, 0, 0, 0), (433, .aload_n 0, 434, 0, 0, 0, 0), (434, .iload 4, 436, 4, 0, 0, 0), (436, .iconst 5, 437, 0, 0, 5, 0), (437, .iadd, 438, 0, 0, 0, 0), (438, .iaload, 439, 0, 0, 0, 0), (439, .invokevirtual 55, 442, 0, 0, 0, 0), (442, .if_icmp .eq 608, 445, 1050, 0, 0, 0), (445, .iconst 0, 446, 0, 0, 0, 0), (446, .ireturn, 447, 0, 0, 0, 0)]
def s_l6 : List (Int32 × Nat) := []
def xa_l6 : List (Nat × rz_S) := [(380, 5, 0, 0), (386, 5, 0, 0), (392, 5, 0, 0), (398, 5, 0, 0), (404, 5, 0, 0), (414, 5, 0, 0), (420, 5, 0, 0), (426, 5, 0, 0), (432, 5, 0, 0), (438, 5, 0, 0)]
def xh_l6 : List (Nat × Nat × Nat × Nat) := [(380, 0, 0, 0), (386, 0, 0, 0), (392, 0, 0, 0), (398, 0, 0, 0), (404, 0, 0, 0), (414, 0, 0, 0), (420, 0, 0, 0), (426, 0, 0, 0), (432, 0, 0, 0), (438, 0, 0, 0)]
theorem xr_l6 : ∀ q ∈ k_l6, rz_rowX R_law code 8 (some .boolean) true s_l6 (xa_l6.map Prod.fst ++ ([] ++ [405, 439])) q.1 q.2 := rz_rowsX (by decide +kernel)
theorem xk_l6 : ∀ q ∈ k_l6, ∀ z, rz_get xa_l6 q.1 = some z → rz_caOK R_law x_df z q.2.1 := rz_caOf rz_cls xh_l6 (by decide +kernel)
theorem xl_l6 : ∀ q ∈ k_l6, rz_get xa_l6 q.1 = none → rz_mem q.1 (xa_l6.map Prod.fst ++ ([] ++ [405, 439])) = true → rz_len q.2.1 = 3 := rz_l3 (by decide +kernel)
theorem xn_l6 : ∀ q ∈ xa_l6, ¬ q.2.1 = 3 := by decide +kernel
def k_l7 : List (Nat × rz_I) := [(447, .aload_n 1, 448, 1, 0, 0, 0), (448, .aload_n 0, 449, 0, 0, 0, 0), (449, .iload 4, 451, 4, 0, 0, 0), (451, .iconst 1, 452, 0, 0, 1, 0), (452, .iadd, 453, 0, 0, 0, 0), (453, .iaload, 454, 0, 0, 0, 0), (454, .aload_n 0, 455, 0, 0, 0, 0), (455, .iload 4, 457, 4, 0, 0, 0), (457, .iconst 2, 458, 0, 0, 2, 0), (458, .iadd, 459, 0, 0, 0, 0), (459, .iaload, 460, 0, 0, 0, 0), (460, .invokevirtual 56, 463, 0, 0, 0, 0), (463, .aload_n 2, 464, 2, 0, 0, 0), (464, .aload_n 0, 465, 0, 0, 0, 0), (465, .iload 4, 467, 4, 0, 0, 0), (467, .iconst 1, 468, 0, 0, 1, 0), (468, .iadd, 469, 0, 0, 0, 0), (469, .iaload, 470, 0, 0, 0, 0), (470, .aload_n 0, 471, 0, 0, 0, 0), (471, .iload 4, 473, 4, 0, 0, 0), (473, .iconst 2, 474, 0, 0, 2, 0), (474, .iadd, 475, 0, 0, 0, 0), (475, .iaload, 476, 0, 0, 0, 0), (476, .invokevirtual 59, 479, 0, 0, 0, 0), (479, .if_icmp .eq 571, 482, 1050, 0, 0, 0), (482, .iconst 0, 483, 0, 0, 0, 0), (483, .ireturn, 484, 0, 0, 0, 0)]
def s_l7 : List (Int32 × Nat) := []
def xa_l7 : List (Nat × rz_S) := [(453, 5, 0, 0), (459, 5, 0, 0), (469, 5, 0, 0), (475, 5, 0, 0)]
def xh_l7 : List (Nat × Nat × Nat × Nat) := [(453, 0, 0, 0), (459, 0, 0, 0), (469, 0, 0, 0), (475, 0, 0, 0)]
theorem xr_l7 : ∀ q ∈ k_l7, rz_rowX R_law code 8 (some .boolean) true s_l7 (xa_l7.map Prod.fst ++ ([] ++ [460, 476])) q.1 q.2 := rz_rowsX (by decide +kernel)
theorem xk_l7 : ∀ q ∈ k_l7, ∀ z, rz_get xa_l7 q.1 = some z → rz_caOK R_law x_df z q.2.1 := rz_caOf rz_cls xh_l7 (by decide +kernel)
theorem xl_l7 : ∀ q ∈ k_l7, rz_get xa_l7 q.1 = none → rz_mem q.1 (xa_l7.map Prod.fst ++ ([] ++ [460, 476])) = true → rz_len q.2.1 = 3 := rz_l3 (by decide +kernel)
theorem xn_l7 : ∀ q ∈ xa_l7, ¬ q.2.1 = 3 := by decide +kernel
def k_l8 : List (Nat × rz_I) := [(484, .aload_n 1, 485, 1, 0, 0, 0), (485, .aload_n 0, 486, 0, 0, 0, 0), (486, .iload 4, 488, 4, 0, 0, 0), (488, .iconst 1, 489, 0, 0, 1, 0), (489, .iadd, 490, 0, 0, 0, 0), (490, .iaload, 491, 0, 0, 0, 0), (491, .aload_n 0, 492, 0, 0, 0, 0), (492, .iload 4, 494, 4, 0, 0, 0), (494, .iconst 2, 495, 0, 0, 2, 0), (495, .iadd, 496, 0, 0, 0, 0), (496, .iaload, 497, 0, 0, 0, 0), (497, .invokevirtual 60, 500, 0, 0, 0, 0), (500, .aload_n 2, 501, 2, 0, 0, 0), (501, .aload_n 0, 502, 0, 0, 0, 0), (502, .iload 4, 504, 4, 0, 0, 0), (504, .iconst 1, 505, 0, 0, 1, 0), (505, .iadd, 506, 0, 0, 0, 0), (506, .iaload, 507, 0, 0, 0, 0), (507, .aload_n 0, 508, 0, 0, 0, 0), (508, .iload 4, 510, 4, 0, 0, 0), (510, .iconst 2, 511, 0, 0, 2, 0), (511, .iadd, 512, 0, 0, 0, 0), (512, .iaload, 513, 0, 0, 0, 0), (513, .invokevirtual 63, 516, 0, 0, 0, 0), (516, .if_icmp .eq 534, 519, 1050, 0, 0, 0), (519, .iconst 0, 520, 0, 0, 0, 0), (520, .ireturn, 521, 0, 0, 0, 0)]
def s_l8 : List (Int32 × Nat) := []
def xa_l8 : List (Nat × rz_S) := [(490, 5, 0, 0), (496, 5, 0, 0), (506, 5, 0, 0), (512, 5, 0, 0)]
def xh_l8 : List (Nat × Nat × Nat × Nat) := [(490, 0, 0, 0), (496, 0, 0, 0), (506, 0, 0, 0), (512, 0, 0, 0)]
theorem xr_l8 : ∀ q ∈ k_l8, rz_rowX R_law code 8 (some .boolean) true s_l8 (xa_l8.map Prod.fst ++ ([] ++ [497, 513])) q.1 q.2 := rz_rowsX (by decide +kernel)
theorem xk_l8 : ∀ q ∈ k_l8, ∀ z, rz_get xa_l8 q.1 = some z → rz_caOK R_law x_df z q.2.1 := rz_caOf rz_cls xh_l8 (by decide +kernel)
theorem xl_l8 : ∀ q ∈ k_l8, rz_get xa_l8 q.1 = none → rz_mem q.1 (xa_l8.map Prod.fst ++ ([] ++ [497, 513])) = true → rz_len q.2.1 = 3 := rz_l3 (by decide +kernel)
theorem xn_l8 : ∀ q ∈ xa_l8, ¬ q.2.1 = 3 := by decide +kernel
def k_l9 : List (Nat × rz_I) := [(521, .aload_n 1, 522, 1, 0, 0, 0), (522, .aload_n 0, 523, 0, 0, 0, 0), (523, .iload 4, 525, 4, 0, 0, 0), (525, .iconst 1, 526, 0, 0, 1, 0), (526, .iadd, 527, 0, 0, 0, 0), (527, .iaload, 528, 0, 0, 0, 0), (528, .aload_n 0, 529, 0, 0, 0, 0), (529, .iload 4, 531, 4, 0, 0, 0), (531, .iconst 2, 532, 0, 0, 2, 0), (532, .iadd, 533, 0, 0, 0, 0), (533, .iaload, 534, 0, 0, 0, 0), (534, .aload_n 0, 535, 0, 0, 0, 0), (535, .iload 4, 537, 4, 0, 0, 0), (537, .iconst 3, 538, 0, 0, 3, 0), (538, .iadd, 539, 0, 0, 0, 0), (539, .iaload, 540, 0, 0, 0, 0), (540, .aload_n 0, 541, 0, 0, 0, 0), (541, .iload 4, 543, 4, 0, 0, 0), (543, .iconst 4, 544, 0, 0, 4, 0), (544, .iadd, 545, 0, 0, 0, 0), (545, .iaload, 546, 0, 0, 0, 0), (546, .aload_n 3, 547, 3, 0, 0, 0), (547, .invokestatic 64, 550, 0, 0, 0, 0), (550, .istore 5, 552, 5, 0, 0, 0), (552, .aload_n 2, 553, 2, 0, 0, 0), (553, .aload_n 0, 554, 0, 0, 0, 0), (554, .iload 4, 556, 4, 0, 0, 0), (556, .iconst 1, 557, 0, 0, 1, 0), (557, .iadd, 558, 0, 0, 0, 0), (558, .iaload, 559, 0, 0, 0, 0), (559, .aload_n 0, 560, 0, 0, 0, 0), (560, .iload 4, 562, 4, 0, 0, 0), (562, .iconst 2, 563, 0, 0, 2, 0), (563, .iadd, 564, 0, 0, 0, 0), (564, .iaload, 565, 0, 0, 0, 0), (565, .aload_n 0, 566, 0, 0, 0, 0), (566, .iload 4, 568, 4, 0, 0, 0), (568, .iconst 3, 569, 0, 0, 3, 0), (569, .iadd, 570, 0, 0, 0, 0), (570, .iaload, 571, 0, 0, 0, 0), (571, .aload_n 0, 572, 0, 0, 0, 0), (572, .iload 4, 574, 4, 0, 0, 0), (574, .iconst 4, 575, 0, 0, 4, 0), (575, .iadd, 576, 0, 0, 0, 0), (576, .iaload, 577, 0, 0, 0, 0), (577, .invokevirtual 69, 580, 0, 0, 0, 0), (580, .lstore 6, 582, 6, 0, 0, 0), (582, .aload_n 2, 583, 2, 0, 0, 0), (583, .invokevirtual 70, 586, 0, 0, 0, 0), (586, .iload 5, 588, 5, 0, 0, 0), (588, .if_icmp .eq 5, 591, 593, 0, 0, 0), (591, .iconst 0, 592, 0, 0, 0, 0), (592, .ireturn, 593, 0, 0, 0, 0), (593, .iload 5, 595, 5, 0, 0, 0), (595, .ifCond .ne 14, 598, 609, 0, 0, 0), (598, .aload_n 3, 599, 3, 0, 0, 0), (599, .iconst 0, 600, 0, 0, 0, 0), (600, .laload, 601, 0, 0, 0, 0), (601, .lload 6, 603, 6, 0, 0, 0), (603, .lcmp, 604, 0, 0, 0, 0), (604, .ifCond .eq 5, 607, 609, 0, 0, 0), (607, .iconst 0, 608, 0, 0, 0, 0), (608, .ireturn, 609, 0, 0, 0, 0), (609, .goto 441, 612, 1050, 0, 0, 0)]
def s_l9 : List (Int32 × Nat) := []
def xa_l9 : List (Nat × rz_S) := [(527, 5, 0, 0), (533, 5, 0, 0), (539, 5, 0, 0), (545, 5, 0, 0), (558, 5, 0, 0), (564, 5, 0, 0), (570, 5, 0, 0), (576, 5, 0, 0)]
def xh_l9 : List (Nat × Nat × Nat × Nat) := [(527, 0, 0, 0), (533, 0, 0, 0), (539, 0, 0, 0), (545, 0, 0, 0), (558, 0, 0, 0), (564, 0, 0, 0), (570, 0, 0, 0), (576, 0, 0, 0)]
theorem xr_l9 : ∀ q ∈ k_l9, rz_rowX R_law code 8 (some .boolean) true s_l9 (xa_l9.map Prod.fst ++ ([] ++ [547, 577, 583])) q.1 q.2 := rz_rowsX (by decide +kernel)
theorem xk_l9 : ∀ q ∈ k_l9, ∀ z, rz_get xa_l9 q.1 = some z → rz_caOK R_law x_df z q.2.1 := rz_caOf rz_cls xh_l9 (by decide +kernel)
theorem xl_l9 : ∀ q ∈ k_l9, rz_get xa_l9 q.1 = none → rz_mem q.1 (xa_l9.map Prod.fst ++ ([] ++ [547, 577, 583])) = true → rz_len q.2.1 = 3 := rz_l3 (by decide +kernel)
theorem xn_l9 : ∀ q ∈ xa_l9, ¬ q.2.1 = 3 := by decide +kernel
def k_l10 : List (Nat × rz_I) := [(612, .aload_n 1, 613, 1, 0, 0, 0), (613, .aload_n 0, 614, 0, 0, 0, 0), (614, .iload 4, 616, 4, 0, 0, 0), (616, .iconst 1, 617, 0, 0, 1, 0), (617, .iadd, 618, 0, 0, 0, 0), (618, .iaload, 619, 0, 0, 0, 0), (619, .aload_n 0, 620, 0, 0, 0, 0), (620, .iload 4, 622, 4, 0, 0, 0), (622, .iconst 2, 623, 0, 0, 2, 0), (623, .iadd, 624, 0, 0, 0, 0), (624, .iaload, 625, 0, 0, 0, 0), (625, .aload_n 0, 626, 0, 0, 0, 0), (626, .iload 4, 628, 4, 0, 0, 0), (628, .iconst 3, 629, 0, 0, 3, 0), (629, .iadd, 630, 0, 0, 0, 0), (630, .iaload, 631, 0, 0, 0, 0), (631, .aload_n 3, 632, 3, 0, 0, 0), (632, .invokestatic 74, 635, 0, 0, 0, 0), (635, .istore 5, 637, 5, 0, 0, 0), (637, .aload_n 2, 638, 2, 0, 0, 0), (638, .aload_n 0, 639, 0, 0, 0, 0), (639, .iload 4, 641, 4, 0, 0, 0), (641, .iconst 1, 642, 0, 0, 1, 0), (642, .iadd, 643, 0, 0, 0, 0), (643, .iaload, 644, 0, 0, 0, 0), (644, .aload_n 0, 645, 0, 0, 0, 0), (645, .iload 4, 647, 4, 0, 0, 0), (647, .iconst 2, 648, 0, 0, 2, 0), (648, .iadd, 649, 0, 0, 0, 0), (649, .iaload, 650, 0, 0, 0, 0), (650, .aload_n 0, 651, 0, 0, 0, 0), (651, .iload 4, 653, 4, 0, 0, 0), (653, .iconst 3, 654, 0, 0, 3, 0), (654, .iadd, 655, 0, 0, 0, 0), (655, .iaload, 656, 0, 0, 0, 0), (656, .invokevirtual 77, 659, 0, 0, 0, 0), (659, .istore 6, 661, 6, 0, 0, 0), (661, .aload_n 2, 662, 2, 0, 0, 0), (662, .invokevirtual 70, 665, 0, 0, 0, 0), (665, .iload 5, 667, 5, 0, 0, 0), (667, .if_icmp .eq 5, 670, 672, 0, 0, 0), (670, .iconst 0, 671, 0, 0, 0, 0), (671, .ireturn, 672, 0, 0, 0, 0), (672, .iload 5, 674, 5, 0, 0, 0), (674, .ifCond .ne 15, 677, 689, 0, 0, 0), (677, .aload_n 3, 678, 3, 0, 0, 0), (678, .iconst 0, 679, 0, 0, 0, 0), (679, .laload, 680, 0, 0, 0, 0), (680, .iload 6, 682, 6, 0, 0, 0), (682, .i2l, 683, 0, 0, 0, 0), (683, .lcmp, 684, 0, 0, 0, 0), (684, .ifCond .eq 5, 687, 689, 0, 0, 0), (687, .iconst 0, 688, 0, 0, 0, 0), (688, .ireturn, 689, 0, 0, 0, 0), (689, .goto 361, 692, 1050, 0, 0, 0)]
def s_l10 : List (Int32 × Nat) := []
def xa_l10 : List (Nat × rz_S) := [(618, 5, 0, 0), (624, 5, 0, 0), (630, 5, 0, 0), (643, 5, 0, 0), (649, 5, 0, 0), (655, 5, 0, 0)]
def xh_l10 : List (Nat × Nat × Nat × Nat) := [(618, 0, 0, 0), (624, 0, 0, 0), (630, 0, 0, 0), (643, 0, 0, 0), (649, 0, 0, 0), (655, 0, 0, 0)]
theorem xr_l10 : ∀ q ∈ k_l10, rz_rowX R_law code 8 (some .boolean) true s_l10 (xa_l10.map Prod.fst ++ ([] ++ [632, 656, 662])) q.1 q.2 := rz_rowsX (by decide +kernel)
theorem xk_l10 : ∀ q ∈ k_l10, ∀ z, rz_get xa_l10 q.1 = some z → rz_caOK R_law x_df z q.2.1 := rz_caOf rz_cls xh_l10 (by decide +kernel)
theorem xl_l10 : ∀ q ∈ k_l10, rz_get xa_l10 q.1 = none → rz_mem q.1 (xa_l10.map Prod.fst ++ ([] ++ [632, 656, 662])) = true → rz_len q.2.1 = 3 := rz_l3 (by decide +kernel)
theorem xn_l10 : ∀ q ∈ xa_l10, ¬ q.2.1 = 3 := by decide +kernel
def k_l11 : List (Nat × rz_I) := [(692, .aload_n 1, 693, 1, 0, 0, 0), (693, .aload_n 0, 694, 0, 0, 0, 0), (694, .iload 4, 696, 4, 0, 0, 0), (696, .iconst 1, 697, 0, 0, 1, 0), (697, .iadd, 698, 0, 0, 0, 0), (698, .iaload, 699, 0, 0, 0, 0), (699, .aload_n 0, 700, 0, 0, 0, 0), (700, .iload 4, 702, 4, 0, 0, 0), (702, .iconst 2, 703, 0, 0, 2, 0), (703, .iadd, 704, 0, 0, 0, 0), (704, .iaload, 705, 0, 0, 0, 0), (705, .invokevirtual 78, 708, 0, 0, 0, 0), (708, .aload_n 2, 709, 2, 0, 0, 0), (709, .aload_n 0, 710, 0, 0, 0, 0), (710, .iload 4, 712, 4, 0, 0, 0), (712, .iconst 1, 713, 0, 0, 1, 0), (713, .iadd, 714, 0, 0, 0, 0), (714, .iaload, 715, 0, 0, 0, 0), (715, .aload_n 0, 716, 0, 0, 0, 0), (716, .iload 4, 718, 4, 0, 0, 0), (718, .iconst 2, 719, 0, 0, 2, 0), (719, .iadd, 720, 0, 0, 0, 0), (720, .iaload, 721, 0, 0, 0, 0), (721, .invokevirtual 81, 724, 0, 0, 0, 0), (724, .if_icmp .eq 326, 727, 1050, 0, 0, 0), (727, .iconst 0, 728, 0, 0, 0, 0), (728, .ireturn, 729, 0, 0, 0, 0)]
def s_l11 : List (Int32 × Nat) := []
def xa_l11 : List (Nat × rz_S) := [(698, 5, 0, 0), (704, 5, 0, 0), (714, 5, 0, 0), (720, 5, 0, 0)]
def xh_l11 : List (Nat × Nat × Nat × Nat) := [(698, 0, 0, 0), (704, 0, 0, 0), (714, 0, 0, 0), (720, 0, 0, 0)]
theorem xr_l11 : ∀ q ∈ k_l11, rz_rowX R_law code 8 (some .boolean) true s_l11 (xa_l11.map Prod.fst ++ ([] ++ [705, 721])) q.1 q.2 := rz_rowsX (by decide +kernel)
theorem xk_l11 : ∀ q ∈ k_l11, ∀ z, rz_get xa_l11 q.1 = some z → rz_caOK R_law x_df z q.2.1 := rz_caOf rz_cls xh_l11 (by decide +kernel)
theorem xl_l11 : ∀ q ∈ k_l11, rz_get xa_l11 q.1 = none → rz_mem q.1 (xa_l11.map Prod.fst ++ ([] ++ [705, 721])) = true → rz_len q.2.1 = 3 := rz_l3 (by decide +kernel)
theorem xn_l11 : ∀ q ∈ xa_l11, ¬ q.2.1 = 3 := by decide +kernel
def k_l12 : List (Nat × rz_I) := [(729, .aload_n 1, 730, 1, 0, 0, 0), (730, .aload_n 0, 731, 0, 0, 0, 0), (731, .iload 4, 733, 4, 0, 0, 0), (733, .iconst 1, 734, 0, 0, 1, 0), (734, .iadd, 735, 0, 0, 0, 0), (735, .iaload, 736, 0, 0, 0, 0), (736, .invokevirtual 82, 739, 0, 0, 0, 0), (739, .aload_n 2, 740, 2, 0, 0, 0), (740, .aload_n 0, 741, 0, 0, 0, 0), (741, .iload 4, 743, 4, 0, 0, 0), (743, .iconst 1, 744, 0, 0, 1, 0), (744, .iadd, 745, 0, 0, 0, 0), (745, .iaload, 746, 0, 0, 0, 0), (746, .invokevirtual 86, 749, 0, 0, 0, 0), (749, .if_icmp .eq 301, 752, 1050, 0, 0, 0), (752, .iconst 0, 753, 0, 0, 0, 0), (753, .ireturn, 754, 0, 0, 0, 0)]
def s_l12 : List (Int32 × Nat) := []
def xa_l12 : List (Nat × rz_S) := [(735, 5, 0, 0), (745, 5, 0, 0)]
def xh_l12 : List (Nat × Nat × Nat × Nat) := [(735, 0, 0, 0), (745, 0, 0, 0)]
theorem xr_l12 : ∀ q ∈ k_l12, rz_rowX R_law code 8 (some .boolean) true s_l12 (xa_l12.map Prod.fst ++ ([] ++ [736, 746])) q.1 q.2 := rz_rowsX (by decide +kernel)
theorem xk_l12 : ∀ q ∈ k_l12, ∀ z, rz_get xa_l12 q.1 = some z → rz_caOK R_law x_df z q.2.1 := rz_caOf rz_cls xh_l12 (by decide +kernel)
theorem xl_l12 : ∀ q ∈ k_l12, rz_get xa_l12 q.1 = none → rz_mem q.1 (xa_l12.map Prod.fst ++ ([] ++ [736, 746])) = true → rz_len q.2.1 = 3 := rz_l3 (by decide +kernel)
theorem xn_l12 : ∀ q ∈ xa_l12, ¬ q.2.1 = 3 := by decide +kernel
def k_l13 : List (Nat × rz_I) := [(754, .aload_n 1, 755, 1, 0, 0, 0), (755, .aload_n 0, 756, 0, 0, 0, 0), (756, .iload 4, 758, 4, 0, 0, 0), (758, .iconst 1, 759, 0, 0, 1, 0), (759, .iadd, 760, 0, 0, 0, 0), (760, .iaload, 761, 0, 0, 0, 0), (761, .aload_n 0, 762, 0, 0, 0, 0), (762, .iload 4, 764, 4, 0, 0, 0), (764, .iconst 2, 765, 0, 0, 2, 0), (765, .iadd, 766, 0, 0, 0, 0), (766, .iaload, 767, 0, 0, 0, 0), (767, .invokevirtual 87, 770, 0, 0, 0, 0), (770, .aload_n 2, 771, 2, 0, 0, 0), (771, .aload_n 0, 772, 0, 0, 0, 0), (772, .iload 4, 774, 4, 0, 0, 0), (774, .iconst 1, 775, 0, 0, 1, 0), (775, .iadd, 776, 0, 0, 0, 0), (776, .iaload, 777, 0, 0, 0, 0), (777, .aload_n 0, 778, 0, 0, 0, 0), (778, .iload 4, 780, 4, 0, 0, 0), (780, .iconst 2, 781, 0, 0, 2, 0), (781, .iadd, 782, 0, 0, 0, 0), (782, .iaload, 783, 0, 0, 0, 0), (783, .invokevirtual 90, 786, 0, 0, 0, 0), (786, .if_icmp .eq 264, 789, 1050, 0, 0, 0), (789, .iconst 0, 790, 0, 0, 0, 0), (790, .ireturn, 791, 0, 0, 0, 0)]
def s_l13 : List (Int32 × Nat) := []
def xa_l13 : List (Nat × rz_S) := [(760, 5, 0, 0), (766, 5, 0, 0), (776, 5, 0, 0), (782, 5, 0, 0)]
def xh_l13 : List (Nat × Nat × Nat × Nat) := [(760, 0, 0, 0), (766, 0, 0, 0), (776, 0, 0, 0), (782, 0, 0, 0)]
theorem xr_l13 : ∀ q ∈ k_l13, rz_rowX R_law code 8 (some .boolean) true s_l13 (xa_l13.map Prod.fst ++ ([] ++ [767, 783])) q.1 q.2 := rz_rowsX (by decide +kernel)
theorem xk_l13 : ∀ q ∈ k_l13, ∀ z, rz_get xa_l13 q.1 = some z → rz_caOK R_law x_df z q.2.1 := rz_caOf rz_cls xh_l13 (by decide +kernel)
theorem xl_l13 : ∀ q ∈ k_l13, rz_get xa_l13 q.1 = none → rz_mem q.1 (xa_l13.map Prod.fst ++ ([] ++ [767, 783])) = true → rz_len q.2.1 = 3 := rz_l3 (by decide +kernel)
theorem xn_l13 : ∀ q ∈ xa_l13, ¬ q.2.1 = 3 := by decide +kernel
def k_l14 : List (Nat × rz_I) := [(791, .aload_n 1, 792, 1, 0, 0, 0), (792, .aload_n 0, 793, 0, 0, 0, 0), (793, .iload 4, 795, 4, 0, 0, 0), (795, .iconst 1, 796, 0, 0, 1, 0), (796, .iadd, 797, 0, 0, 0, 0), (797, .iaload, 798, 0, 0, 0, 0), (798, .aload_n 0, 799, 0, 0, 0, 0), (799, .iload 4, 801, 4, 0, 0, 0), (801, .iconst 2, 802, 0, 0, 2, 0), (802, .iadd, 803, 0, 0, 0, 0), (803, .iaload, 804, 0, 0, 0, 0), (804, .aload_n 0, 805, 0, 0, 0, 0), (805, .iload 4, 807, 4, 0, 0, 0), (807, .iconst 3, 808, 0, 0, 3, 0), (808, .iadd, 809, 0, 0, 0, 0), (809, .iaload, 810, 0, 0, 0, 0), (810, .aload_n 0, 811, 0, 0, 0, 0), (811, .iload 4, 813, 4, 0, 0, 0), (813, .iconst 4, 814, 0, 0, 4, 0), (814, .iadd, 815, 0, 0, 0, 0), (815, .iaload, 816, 0, 0, 0, 0), (816, .invokevirtual 91, 819, 0, 0, 0, 0), (819, .aload_n 2, 820, 2, 0, 0, 0), (820, .aload_n 0, 821, 0, 0, 0, 0), (821, .iload 4, 823, 4, 0, 0, 0), (823, .iconst 1, 824, 0, 0, 1, 0), (824, .iadd, 825, 0, 0, 0, 0), (825, .iaload, 826, 0, 0, 0, 0), (826, .aload_n 0, 827, 0, 0, 0, 0), (827, .iload 4, 829, 4, 0, 0, 0), (829, .iconst 2, 830, 0, 0, 2, 0), (830, .iadd, 831, 0, 0, 0, 0), (831, .iaload, 832, 0, 0, 0, 0), (832, .aload_n 0, 833, 0, 0, 0, 0), (833, .iload 4, 835, 4, 0, 0, 0), (835, .iconst 3, 836, 0, 0, 3, 0), (836, .iadd, 837, 0, 0, 0, 0), (837, .iaload, 838, 0, 0, 0, 0), (838, .aload_n 0, 839, 0, 0, 0, 0), (839, .iload 4, 841, 4, 0, 0, 0), (841, .iconst 4, 842, 0, 0, 4, 0), (842, .iadd, 843, 0, 0, 0, 0), (843, .iaload, 844, 0, 0, 0, 0), (844, .invokevirtual 94, 847, 0, 0, 0, 0), (847, .if_icmp .eq 203, 850, 1050, 0, 0, 0), (850, .iconst 0, 851, 0, 0, 0, 0), (851, .ireturn, 852, 0, 0, 0, 0)]
def s_l14 : List (Int32 × Nat) := []
def xa_l14 : List (Nat × rz_S) := [(797, 5, 0, 0), (803, 5, 0, 0), (809, 5, 0, 0), (815, 5, 0, 0), (825, 5, 0, 0), (831, 5, 0, 0), (837, 5, 0, 0), (843, 5, 0, 0)]
def xh_l14 : List (Nat × Nat × Nat × Nat) := [(797, 0, 0, 0), (803, 0, 0, 0), (809, 0, 0, 0), (815, 0, 0, 0), (825, 0, 0, 0), (831, 0, 0, 0), (837, 0, 0, 0), (843, 0, 0, 0)]
theorem xr_l14 : ∀ q ∈ k_l14, rz_rowX R_law code 8 (some .boolean) true s_l14 (xa_l14.map Prod.fst ++ ([] ++ [816, 844])) q.1 q.2 := rz_rowsX (by decide +kernel)
theorem xk_l14 : ∀ q ∈ k_l14, ∀ z, rz_get xa_l14 q.1 = some z → rz_caOK R_law x_df z q.2.1 := rz_caOf rz_cls xh_l14 (by decide +kernel)
theorem xl_l14 : ∀ q ∈ k_l14, rz_get xa_l14 q.1 = none → rz_mem q.1 (xa_l14.map Prod.fst ++ ([] ++ [816, 844])) = true → rz_len q.2.1 = 3 := rz_l3 (by decide +kernel)
theorem xn_l14 : ∀ q ∈ xa_l14, ¬ q.2.1 = 3 := by decide +kernel
def k_l15 : List (Nat × rz_I) := [(852, .aload_n 1, 853, 1, 0, 0, 0), (853, .aload_n 0, 854, 0, 0, 0, 0), (854, .iload 4, 856, 4, 0, 0, 0), (856, .iconst 1, 857, 0, 0, 1, 0), (857, .iadd, 858, 0, 0, 0, 0), (858, .iaload, 859, 0, 0, 0, 0), (859, .invokevirtual 95, 862, 0, 0, 0, 0), (862, .aload_n 2, 863, 2, 0, 0, 0), (863, .aload_n 0, 864, 0, 0, 0, 0), (864, .iload 4, 866, 4, 0, 0, 0), (866, .iconst 1, 867, 0, 0, 1, 0), (867, .iadd, 868, 0, 0, 0, 0), (868, .iaload, 869, 0, 0, 0, 0), (869, .invokevirtual 98, 872, 0, 0, 0, 0), (872, .if_icmp .eq 178, 875, 1050, 0, 0, 0), (875, .iconst 0, 876, 0, 0, 0, 0), (876, .ireturn, 877, 0, 0, 0, 0)]
def s_l15 : List (Int32 × Nat) := []
def xa_l15 : List (Nat × rz_S) := [(858, 5, 0, 0), (868, 5, 0, 0)]
def xh_l15 : List (Nat × Nat × Nat × Nat) := [(858, 0, 0, 0), (868, 0, 0, 0)]
theorem xr_l15 : ∀ q ∈ k_l15, rz_rowX R_law code 8 (some .boolean) true s_l15 (xa_l15.map Prod.fst ++ ([] ++ [859, 869])) q.1 q.2 := rz_rowsX (by decide +kernel)
theorem xk_l15 : ∀ q ∈ k_l15, ∀ z, rz_get xa_l15 q.1 = some z → rz_caOK R_law x_df z q.2.1 := rz_caOf rz_cls xh_l15 (by decide +kernel)
theorem xl_l15 : ∀ q ∈ k_l15, rz_get xa_l15 q.1 = none → rz_mem q.1 (xa_l15.map Prod.fst ++ ([] ++ [859, 869])) = true → rz_len q.2.1 = 3 := rz_l3 (by decide +kernel)
theorem xn_l15 : ∀ q ∈ xa_l15, ¬ q.2.1 = 3 := by decide +kernel
def k_l16 : List (Nat × rz_I) := [(877, .aload_n 1, 878, 1, 0, 0, 0), (878, .aload_n 0, 879, 0, 0, 0, 0), (879, .iload 4, 881, 4, 0, 0, 0), (881, .iconst 1, 882, 0, 0, 1, 0), (882, .iadd, 883, 0, 0, 0, 0), (883, .iaload, 884, 0, 0, 0, 0), (884, .aload_n 0, 885, 0, 0, 0, 0), (885, .iload 4, 887, 4, 0, 0, 0), (887, .iconst 2, 888, 0, 0, 2, 0), (888, .iadd, 889, 0, 0, 0, 0), (889, .iaload, 890, 0, 0, 0, 0), (890, .aload_n 0, 891, 0, 0, 0, 0), (891, .iload 4, 893, 4, 0, 0, 0), (893, .iconst 3, 894, 0, 0, 3, 0), (894, .iadd, 895, 0, 0, 0, 0), (895, .iaload, 896, 0, 0, 0, 0), (896, .invokevirtual 99, 899, 0, 0, 0, 0), (899, .aload_n 2, 900, 2, 0, 0, 0), (900, .aload_n 0, 901, 0, 0, 0, 0), (901, .iload 4, 903, 4, 0, 0, 0), (903, .iconst 1, 904, 0, 0, 1, 0), (904, .iadd, 905, 0, 0, 0, 0), (905, .iaload, 906, 0, 0, 0, 0), (906, .aload_n 0, 907, 0, 0, 0, 0), (907, .iload 4, 909, 4, 0, 0, 0), (909, .iconst 2, 910, 0, 0, 2, 0), (910, .iadd, 911, 0, 0, 0, 0), (911, .iaload, 912, 0, 0, 0, 0), (912, .aload_n 0, 913, 0, 0, 0, 0), (913, .iload 4, 915, 4, 0, 0, 0), (915, .iconst 3, 916, 0, 0, 3, 0), (916, .iadd, 917, 0, 0, 0, 0), (917, .iaload, 918, 0, 0, 0, 0), (918, .invokevirtual 102, 921, 0, 0, 0, 0), (921, .if_icmp .eq 129, 924, 1050, 0, 0, 0), (924, .iconst 0, 925, 0, 0, 0, 0), (925, .ireturn, 926, 0, 0, 0, 0)]
def s_l16 : List (Int32 × Nat) := []
def xa_l16 : List (Nat × rz_S) := [(883, 5, 0, 0), (889, 5, 0, 0), (895, 5, 0, 0), (905, 5, 0, 0), (911, 5, 0, 0), (917, 5, 0, 0)]
def xh_l16 : List (Nat × Nat × Nat × Nat) := [(883, 0, 0, 0), (889, 0, 0, 0), (895, 0, 0, 0), (905, 0, 0, 0), (911, 0, 0, 0), (917, 0, 0, 0)]
theorem xr_l16 : ∀ q ∈ k_l16, rz_rowX R_law code 8 (some .boolean) true s_l16 (xa_l16.map Prod.fst ++ ([] ++ [896, 918])) q.1 q.2 := rz_rowsX (by decide +kernel)
theorem xk_l16 : ∀ q ∈ k_l16, ∀ z, rz_get xa_l16 q.1 = some z → rz_caOK R_law x_df z q.2.1 := rz_caOf rz_cls xh_l16 (by decide +kernel)
theorem xl_l16 : ∀ q ∈ k_l16, rz_get xa_l16 q.1 = none → rz_mem q.1 (xa_l16.map Prod.fst ++ ([] ++ [896, 918])) = true → rz_len q.2.1 = 3 := rz_l3 (by decide +kernel)
theorem xn_l16 : ∀ q ∈ xa_l16, ¬ q.2.1 = 3 := by decide +kernel
def k_l17 : List (Nat × rz_I) := [(926, .aload_n 1, 927, 1, 0, 0, 0), (927, .aload_n 0, 928, 0, 0, 0, 0), (928, .iload 4, 930, 4, 0, 0, 0), (930, .iconst 1, 931, 0, 0, 1, 0), (931, .iadd, 932, 0, 0, 0, 0), (932, .iaload, 933, 0, 0, 0, 0), (933, .aload_n 0, 934, 0, 0, 0, 0), (934, .iload 4, 936, 4, 0, 0, 0), (936, .iconst 2, 937, 0, 0, 2, 0), (937, .iadd, 938, 0, 0, 0, 0), (938, .iaload, 939, 0, 0, 0, 0), (939, .invokevirtual 103, 942, 0, 0, 0, 0), (942, .aload_n 2, 943, 2, 0, 0, 0), (943, .aload_n 0, 944, 0, 0, 0, 0), (944, .iload 4, 946, 4, 0, 0, 0), (946, .iconst 1, 947, 0, 0, 1, 0), (947, .iadd, 948, 0, 0, 0, 0), (948, .iaload, 949, 0, 0, 0, 0), (949, .aload_n 0, 950, 0, 0, 0, 0), (950, .iload 4, 952, 4, 0, 0, 0), (952, .iconst 2, 953, 0, 0, 2, 0), (953, .iadd, 954, 0, 0, 0, 0), (954, .iaload, 955, 0, 0, 0, 0), (955, .invokevirtual 106, 958, 0, 0, 0, 0), (958, .if_icmp .eq 92, 961, 1050, 0, 0, 0), (961, .iconst 0, 962, 0, 0, 0, 0), (962, .ireturn, 963, 0, 0, 0, 0)]
def s_l17 : List (Int32 × Nat) := []
def xa_l17 : List (Nat × rz_S) := [(932, 5, 0, 0), (938, 5, 0, 0), (948, 5, 0, 0), (954, 5, 0, 0)]
def xh_l17 : List (Nat × Nat × Nat × Nat) := [(932, 0, 0, 0), (938, 0, 0, 0), (948, 0, 0, 0), (954, 0, 0, 0)]
theorem xr_l17 : ∀ q ∈ k_l17, rz_rowX R_law code 8 (some .boolean) true s_l17 (xa_l17.map Prod.fst ++ ([] ++ [939, 955])) q.1 q.2 := rz_rowsX (by decide +kernel)
theorem xk_l17 : ∀ q ∈ k_l17, ∀ z, rz_get xa_l17 q.1 = some z → rz_caOK R_law x_df z q.2.1 := rz_caOf rz_cls xh_l17 (by decide +kernel)
theorem xl_l17 : ∀ q ∈ k_l17, rz_get xa_l17 q.1 = none → rz_mem q.1 (xa_l17.map Prod.fst ++ ([] ++ [939, 955])) = true → rz_len q.2.1 = 3 := rz_l3 (by decide +kernel)
theorem xn_l17 : ∀ q ∈ xa_l17, ¬ q.2.1 = 3 := by decide +kernel
def k_l18 : List (Nat × rz_I) := [(963, .aload_n 1, 964, 1, 0, 0, 0), (964, .aload_n 0, 965, 0, 0, 0, 0), (965, .iload 4, 967, 4, 0, 0, 0), (967, .iconst 1, 968, 0, 0, 1, 0), (968, .iadd, 969, 0, 0, 0, 0), (969, .iaload, 970, 0, 0, 0, 0), (970, .invokevirtual 107, 973, 0, 0, 0, 0), (973, .aload_n 2, 974, 2, 0, 0, 0), (974, .aload_n 0, 975, 0, 0, 0, 0), (975, .iload 4, 977, 4, 0, 0, 0), (977, .iconst 1, 978, 0, 0, 1, 0), (978, .iadd, 979, 0, 0, 0, 0), (979, .iaload, 980, 0, 0, 0, 0), (980, .invokevirtual 110, 983, 0, 0, 0, 0), (983, .if_icmp .eq 67, 986, 1050, 0, 0, 0), (986, .iconst 0, 987, 0, 0, 0, 0), (987, .ireturn, 988, 0, 0, 0, 0)]
def s_l18 : List (Int32 × Nat) := []
def xa_l18 : List (Nat × rz_S) := [(969, 5, 0, 0), (979, 5, 0, 0)]
def xh_l18 : List (Nat × Nat × Nat × Nat) := [(969, 0, 0, 0), (979, 0, 0, 0)]
theorem xr_l18 : ∀ q ∈ k_l18, rz_rowX R_law code 8 (some .boolean) true s_l18 (xa_l18.map Prod.fst ++ ([] ++ [970, 980])) q.1 q.2 := rz_rowsX (by decide +kernel)
theorem xk_l18 : ∀ q ∈ k_l18, ∀ z, rz_get xa_l18 q.1 = some z → rz_caOK R_law x_df z q.2.1 := rz_caOf rz_cls xh_l18 (by decide +kernel)
theorem xl_l18 : ∀ q ∈ k_l18, rz_get xa_l18 q.1 = none → rz_mem q.1 (xa_l18.map Prod.fst ++ ([] ++ [970, 980])) = true → rz_len q.2.1 = 3 := rz_l3 (by decide +kernel)
theorem xn_l18 : ∀ q ∈ xa_l18, ¬ q.2.1 = 3 := by decide +kernel
def k_l19 : List (Nat × rz_I) := [(988, .aload_n 1, 989, 1, 0, 0, 0), (989, .aload_n 0, 990, 0, 0, 0, 0), (990, .iload 4, 992, 4, 0, 0, 0), (992, .iconst 1, 993, 0, 0, 1, 0), (993, .iadd, 994, 0, 0, 0, 0), (994, .iaload, 995, 0, 0, 0, 0), (995, .aload_n 0, 996, 0, 0, 0, 0), (996, .iload 4, 998, 4, 0, 0, 0), (998, .iconst 2, 999, 0, 0, 2, 0), (999, .iadd, 1000, 0, 0, 0, 0), (1000, .iaload, 1001, 0, 0, 0, 0), (1001, .invokevirtual 111, 1004, 0, 0, 0, 0), (1004, .aload_n 2, 1005, 2, 0, 0, 0), (1005, .aload_n 0, 1006, 0, 0, 0, 0), (1006, .iload 4, 1008, 4, 0, 0, 0), (1008, .iconst 1, 1009, 0, 0, 1, 0), (1009, .iadd, 1010, 0, 0, 0, 0), (1010, .iaload, 1011, 0, 0, 0, 0), (1011, .aload_n 0, 1012, 0, 0, 0, 0), (1012, .iload 4, 1014, 4, 0, 0, 0), (1014, .iconst 2, 1015, 0, 0, 2, 0), (1015, .iadd, 1016, 0, 0, 0, 0), (1016, .iaload, 1017, 0, 0, 0, 0), (1017, .invokevirtual 114, 1020, 0, 0, 0, 0), (1020, .if_icmp .eq 30, 1023, 1050, 0, 0, 0), (1023, .iconst 0, 1024, 0, 0, 0, 0), (1024, .ireturn, 1025, 0, 0, 0, 0)]
def s_l19 : List (Int32 × Nat) := []
def xa_l19 : List (Nat × rz_S) := [(994, 5, 0, 0), (1000, 5, 0, 0), (1010, 5, 0, 0), (1016, 5, 0, 0)]
def xh_l19 : List (Nat × Nat × Nat × Nat) := [(994, 0, 0, 0), (1000, 0, 0, 0), (1010, 0, 0, 0), (1016, 0, 0, 0)]
theorem xr_l19 : ∀ q ∈ k_l19, rz_rowX R_law code 8 (some .boolean) true s_l19 (xa_l19.map Prod.fst ++ ([] ++ [1001, 1017])) q.1 q.2 := rz_rowsX (by decide +kernel)
theorem xk_l19 : ∀ q ∈ k_l19, ∀ z, rz_get xa_l19 q.1 = some z → rz_caOK R_law x_df z q.2.1 := rz_caOf rz_cls xh_l19 (by decide +kernel)
theorem xl_l19 : ∀ q ∈ k_l19, rz_get xa_l19 q.1 = none → rz_mem q.1 (xa_l19.map Prod.fst ++ ([] ++ [1001, 1017])) = true → rz_len q.2.1 = 3 := rz_l3 (by decide +kernel)
theorem xn_l19 : ∀ q ∈ xa_l19, ¬ q.2.1 = 3 := by decide +kernel
def k_l20 : List (Nat × rz_I) := [(1025, .aload_n 1, 1026, 1, 0, 0, 0), (1026, .aload_n 0, 1027, 0, 0, 0, 0), (1027, .iload 4, 1029, 4, 0, 0, 0), (1029, .iconst 1, 1030, 0, 0, 1, 0), (1030, .iadd, 1031, 0, 0, 0, 0), (1031, .iaload, 1032, 0, 0, 0, 0), (1032, .invokevirtual 115, 1035, 0, 0, 0, 0), (1035, .aload_n 2, 1036, 2, 0, 0, 0), (1036, .aload_n 0, 1037, 0, 0, 0, 0), (1037, .iload 4, 1039, 4, 0, 0, 0), (1039, .iconst 1, 1040, 0, 0, 1, 0), (1040, .iadd, 1041, 0, 0, 0, 0), (1041, .iaload, 1042, 0, 0, 0, 0), (1042, .invokevirtual 118, 1045, 0, 0, 0, 0), (1045, .if_icmp .eq 5, 1048, 1050, 0, 0, 0), (1048, .iconst 0, 1049, 0, 0, 0, 0), (1049, .ireturn, 1050, 0, 0, 0, 0)]
def s_l20 : List (Int32 × Nat) := []
def xa_l20 : List (Nat × rz_S) := [(1031, 5, 0, 0), (1041, 5, 0, 0)]
def xh_l20 : List (Nat × Nat × Nat × Nat) := [(1031, 0, 0, 0), (1041, 0, 0, 0)]
theorem xr_l20 : ∀ q ∈ k_l20, rz_rowX R_law code 8 (some .boolean) true s_l20 (xa_l20.map Prod.fst ++ ([] ++ [1032, 1042])) q.1 q.2 := rz_rowsX (by decide +kernel)
theorem xk_l20 : ∀ q ∈ k_l20, ∀ z, rz_get xa_l20 q.1 = some z → rz_caOK R_law x_df z q.2.1 := rz_caOf rz_cls xh_l20 (by decide +kernel)
theorem xl_l20 : ∀ q ∈ k_l20, rz_get xa_l20 q.1 = none → rz_mem q.1 (xa_l20.map Prod.fst ++ ([] ++ [1032, 1042])) = true → rz_len q.2.1 = 3 := rz_l3 (by decide +kernel)
theorem xn_l20 : ∀ q ∈ xa_l20, ¬ q.2.1 = 3 := by decide +kernel
def k_lT : List (Nat × rz_I) := [(1050, .iinc 4 6, 1053, 4, 0, 6, 0), (1053, .goto (-1030), 1056, 23, 0, 0, 0)]
def s_lT : List (Int32 × Nat) := []
def xa_lT : List (Nat × rz_S) := []
def xh_lT : List (Nat × Nat × Nat × Nat) := []
theorem xr_lT : ∀ q ∈ k_lT, rz_rowX R_law code 8 (some .boolean) true s_lT (xa_lT.map Prod.fst ++ ([] ++ [])) q.1 q.2 := rz_rowsX (by decide +kernel)
theorem xk_lT : ∀ q ∈ k_lT, ∀ z, rz_get xa_lT q.1 = some z → rz_caOK R_law x_df z q.2.1 := rz_caOf rz_cls xh_lT (by decide +kernel)
theorem xl_lT : ∀ q ∈ k_lT, rz_get xa_lT q.1 = none → rz_mem q.1 (xa_lT.map Prod.fst ++ ([] ++ [])) = true → rz_len q.2.1 = 3 := rz_l3 (by decide +kernel)
theorem xn_lT : ∀ q ∈ xa_lT, ¬ q.2.1 = 3 := by decide +kernel
theorem n_L_19 : Cond.methodLink R_law 19 yX6_init ∈ bw := bw_t 19 (by decide +kernel) rfl
theorem n_L_22 : Cond.methodLink R_law 22 yX7_init ∈ bw := bw_t 677 (by decide +kernel) rfl
theorem n_L_23 : Cond.methodLink R_law 23 yX6_post ∈ bw := bw_t 267 (by decide +kernel) rfl
theorem dl_159 : decode code 159 = .ok (.invokevirtual 23, 3) := by decide +kernel
theorem n_L_26 : Cond.methodLink R_law 26 yX7_post ∈ bw := bw_t 791 (by decide +kernel) rfl
theorem dl_181 : decode code 181 = .ok (.invokevirtual 26, 3) := by decide +kernel
theorem n_L_27 : Cond.methodLink R_law 27 yX6_reach ∈ bw := bw_t 281 (by decide +kernel) rfl
theorem dl_202 : decode code 202 = .ok (.invokevirtual 27, 3) := by decide +kernel
theorem n_L_31 : Cond.methodLink R_law 31 yX7_reach ∈ bw := bw_t 801 (by decide +kernel) rfl
theorem dl_218 : decode code 218 = .ok (.invokevirtual 31, 3) := by decide +kernel
theorem n_L_32 : Cond.methodLink R_law 32 yX6_weather ∈ bw := bw_t 289 (by decide +kernel) rfl
theorem dl_239 : decode code 239 = .ok (.invokevirtual 32, 3) := by decide +kernel
theorem n_L_36 : Cond.methodLink R_law 36 yX7_weather ∈ bw := bw_t 805 (by decide +kernel) rfl
theorem dl_255 : decode code 255 = .ok (.invokevirtual 36, 3) := by decide +kernel
theorem n_L_37 : Cond.methodLink R_law 37 yX6_sees ∈ bw := bw_t 296 (by decide +kernel) rfl
theorem dl_288 : decode code 288 = .ok (.invokevirtual 37, 3) := by decide +kernel
theorem n_L_41 : Cond.methodLink R_law 41 yX7_sees ∈ bw := bw_t 809 (by decide +kernel) rfl
theorem dl_316 : decode code 316 = .ok (.invokevirtual 41, 3) := by decide +kernel
theorem n_L_42 : Cond.methodLink R_law 42 yX6_manned ∈ bw := bw_t 309 (by decide +kernel) rfl
theorem dl_331 : decode code 331 = .ok (.invokevirtual 42, 3) := by decide +kernel
theorem n_L_46 : Cond.methodLink R_law 46 yX7_manned ∈ bw := bw_t 817 (by decide +kernel) rfl
theorem dl_341 : decode code 341 = .ok (.invokevirtual 46, 3) := by decide +kernel
theorem n_L_47 : Cond.methodLink R_law 47 yX6_open ∈ bw := bw_t 336 (by decide +kernel) rfl
theorem dl_356 : decode code 356 = .ok (.invokevirtual 47, 3) := by decide +kernel
theorem n_L_50 : Cond.methodLink R_law 50 yX7_open ∈ bw := bw_t 828 (by decide +kernel) rfl
theorem dl_366 : decode code 366 = .ok (.invokevirtual 50, 3) := by decide +kernel
theorem n_L_51 : Cond.methodLink R_law 51 yX6_sight ∈ bw := bw_t 344 (by decide +kernel) rfl
theorem dl_405 : decode code 405 = .ok (.invokevirtual 51, 3) := by decide +kernel
theorem n_L_55 : Cond.methodLink R_law 55 yX7_sight ∈ bw := bw_t 832 (by decide +kernel) rfl
theorem dl_439 : decode code 439 = .ok (.invokevirtual 55, 3) := by decide +kernel
theorem n_L_56 : Cond.methodLink R_law 56 yX6_plot ∈ bw := bw_t 359 (by decide +kernel) rfl
theorem dl_460 : decode code 460 = .ok (.invokevirtual 56, 3) := by decide +kernel
theorem n_L_59 : Cond.methodLink R_law 59 yX7_plot ∈ bw := bw_t 836 (by decide +kernel) rfl
theorem dl_476 : decode code 476 = .ok (.invokevirtual 59, 3) := by decide +kernel
theorem n_L_60 : Cond.methodLink R_law 60 yX6_corners ∈ bw := bw_t 432 (by decide +kernel) rfl
theorem dl_497 : decode code 497 = .ok (.invokevirtual 60, 3) := by decide +kernel
theorem n_L_63 : Cond.methodLink R_law 63 yX7_corners ∈ bw := bw_t 870 (by decide +kernel) rfl
theorem dl_513 : decode code 513 = .ok (.invokevirtual 63, 3) := by decide +kernel
theorem n_L_64 : Cond.methodLink R_law 64 yL_corner ∈ bw := bw_t 594 (by decide +kernel) rfl
theorem dl_547 : decode code 547 = .ok (.invokestatic 64, 3) := by decide +kernel
theorem n_L_69 : Cond.methodLink R_law 69 yX7_corner ∈ bw := bw_t 874 (by decide +kernel) rfl
theorem dl_577 : decode code 577 = .ok (.invokevirtual 69, 3) := by decide +kernel
theorem n_L_70 : Cond.methodLink R_law 70 yX7_thrown ∈ bw := bw_t 787 (by decide +kernel) rfl
theorem dl_583 : decode code 583 = .ok (.invokevirtual 70, 3) := by decide +kernel
theorem n_L_74 : Cond.methodLink R_law 74 yL_box ∈ bw := bw_t 667 (by decide +kernel) rfl
theorem dl_632 : decode code 632 = .ok (.invokestatic 74, 3) := by decide +kernel
theorem n_L_77 : Cond.methodLink R_law 77 yX7_box ∈ bw := bw_t 882 (by decide +kernel) rfl
theorem dl_656 : decode code 656 = .ok (.invokevirtual 77, 3) := by decide +kernel
theorem dl_662 : decode code 662 = .ok (.invokevirtual 70, 3) := by decide +kernel
theorem n_L_78 : Cond.methodLink R_law 78 yX6_plotted ∈ bw := bw_t 436 (by decide +kernel) rfl
theorem dl_705 : decode code 705 = .ok (.invokevirtual 78, 3) := by decide +kernel
theorem n_L_81 : Cond.methodLink R_law 81 yX7_plotted ∈ bw := bw_t 893 (by decide +kernel) rfl
theorem dl_721 : decode code 721 = .ok (.invokevirtual 81, 3) := by decide +kernel
theorem n_L_82 : Cond.methodLink R_law 82 yX6_speed ∈ bw := bw_t 485 (by decide +kernel) rfl
theorem dl_736 : decode code 736 = .ok (.invokevirtual 82, 3) := by decide +kernel
theorem n_L_86 : Cond.methodLink R_law 86 yX7_speed ∈ bw := bw_t 904 (by decide +kernel) rfl
theorem dl_746 : decode code 746 = .ok (.invokevirtual 86, 3) := by decide +kernel
theorem n_L_87 : Cond.methodLink R_law 87 yX6_track ∈ bw := bw_t 489 (by decide +kernel) rfl
theorem dl_767 : decode code 767 = .ok (.invokevirtual 87, 3) := by decide +kernel
theorem n_L_90 : Cond.methodLink R_law 90 yX7_track ∈ bw := bw_t 908 (by decide +kernel) rfl
theorem dl_783 : decode code 783 = .ok (.invokevirtual 90, 3) := by decide +kernel
theorem n_L_91 : Cond.methodLink R_law 91 yX6_plan ∈ bw := bw_t 498 (by decide +kernel) rfl
theorem dl_816 : decode code 816 = .ok (.invokevirtual 91, 3) := by decide +kernel
theorem n_L_94 : Cond.methodLink R_law 94 yX7_plan ∈ bw := bw_t 912 (by decide +kernel) rfl
theorem dl_844 : decode code 844 = .ok (.invokevirtual 94, 3) := by decide +kernel
theorem n_L_95 : Cond.methodLink R_law 95 yX6_in ∈ bw := bw_t 522 (by decide +kernel) rfl
theorem dl_859 : decode code 859 = .ok (.invokevirtual 95, 3) := by decide +kernel
theorem n_L_98 : Cond.methodLink R_law 98 yX7_in ∈ bw := bw_t 917 (by decide +kernel) rfl
theorem dl_869 : decode code 869 = .ok (.invokevirtual 98, 3) := by decide +kernel
theorem n_L_99 : Cond.methodLink R_law 99 yX6_boat ∈ bw := bw_t 528 (by decide +kernel) rfl
theorem dl_896 : decode code 896 = .ok (.invokevirtual 99, 3) := by decide +kernel
theorem n_L_102 : Cond.methodLink R_law 102 yX7_boat ∈ bw := bw_t 921 (by decide +kernel) rfl
theorem dl_918 : decode code 918 = .ok (.invokevirtual 102, 3) := by decide +kernel
theorem n_L_103 : Cond.methodLink R_law 103 yX6_call ∈ bw := bw_t 540 (by decide +kernel) rfl
theorem dl_939 : decode code 939 = .ok (.invokevirtual 103, 3) := by decide +kernel
theorem n_L_106 : Cond.methodLink R_law 106 yX7_call ∈ bw := bw_t 937 (by decide +kernel) rfl
theorem dl_955 : decode code 955 = .ok (.invokevirtual 106, 3) := by decide +kernel
theorem n_L_107 : Cond.methodLink R_law 107 yX6_step ∈ bw := bw_t 544 (by decide +kernel) rfl
theorem dl_970 : decode code 970 = .ok (.invokevirtual 107, 3) := by decide +kernel
theorem n_L_110 : Cond.methodLink R_law 110 yX7_step ∈ bw := bw_t 941 (by decide +kernel) rfl
theorem dl_980 : decode code 980 = .ok (.invokevirtual 110, 3) := by decide +kernel
theorem n_L_111 : Cond.methodLink R_law 111 yX6_log ∈ bw := bw_t 573 (by decide +kernel) rfl
theorem dl_1001 : decode code 1001 = .ok (.invokevirtual 111, 3) := by decide +kernel
theorem n_L_114 : Cond.methodLink R_law 114 yX7_log ∈ bw := bw_t 949 (by decide +kernel) rfl
theorem dl_1017 : decode code 1017 = .ok (.invokevirtual 114, 3) := by decide +kernel
theorem n_L_115 : Cond.methodLink R_law 115 yX6_count ∈ bw := bw_t 585 (by decide +kernel) rfl
theorem dl_1032 : decode code 1032 = .ok (.invokevirtual 115, 3) := by decide +kernel
theorem n_L_118 : Cond.methodLink R_law 118 yX7_count ∈ bw := bw_t 953 (by decide +kernel) rfl
theorem dl_1042 : decode code 1042 = .ok (.invokevirtual 118, 3) := by decide +kernel
theorem dl_4 : decode code 4 = .ok (.invokespecial 19, 3) := by decide +kernel
theorem dl_12 : decode code 12 = .ok (.invokespecial 22, 3) := by decide +kernel
