/-! The law: its world, what holds between calls, its loop heads. -/
abbrev wM (o : rz_C) (px py ph rx ry vi sg fi se tk pa im de lb lr lm : Nat → Int32) (A B C X Y D bx9 ou : Nat → Int64) : rz_W := [(50, o), (51, ri 6 px), (52, ri 6 py), (53, ri 6 ph), (54, ri 8 rx), (55, ri 8 ry), (56, ri 334 vi), (57, ri 600 sg), (58, ri 60 fi), (59, ri 60 se), (60, ri 60 tk), (61, ri 500 pa), (62, ri 30 im), (63, ri 5 de), (64, ri 300 lb), (65, ri 300 lr), (66, ri 300 lm), (67, rl 4 A), (68, rl 4 B), (69, rl 4 C), (70, rl 8 X), (71, rl 8 Y), (72, rl 8 D), (73, rl 4 bx9), (80, rl 1 ou)]
abbrev ksL : List Nat := [0, 1, 2, 3, 4, 5, 6, 7, 8, 9, 10, 11, 12, 13, 14, 15, 16, 17, 18, 19, 20, 21, 22, 23, 24, 25, 26, 27, 28, 29, 30, 31, 32, 33, 34, 35, 36, 37, 38, 39, 40, 41, 42, 43, 44, 45, 46, 47, 48, 50, 51, 52, 53, 54, 55, 56, 57, 58, 59, 60, 61, 62, 63, 64, 65, 66, 67, 68, 69, 70, 71, 72, 73, 80]
def lwI (px py fx fy mi ax ay bx b2 fi se mj tk le bo rg tp la pb pl pe pt lp im de sg pa : Nat → Int32) (q t g h n z m k b : Nat) : Prop := (t ≤ 20000 ∧ g ≤ 6 ∧ h ≤ 8 ∧ n ≤ 100 ∧ z ≤ 60 ∧ m ≤ z ∧ k ≤ 100 ∧ b ≤ 30 ∧ q ≤ 150 * t) ∧ poI px py g ∧ sgI px py sg fx fy mi ax ay bx b2 g n t ∧ plI px py sg fi se tk mj le bo rg tp la n z m ∧ boI pb pl pe pt lp im pa k b t ∧ deI de
def LI (i dc : Nat) (lv : rz_L) (w : rz_W) (cs sl : Nat) : Prop := ∃ (px py ph rx ry vi spx fx fy mi ax ay bx b2 fi se mj tk le bo rg tp la pb pl pe pt lp im de sg pa : Nat → Int32) (s : LgS) (a b0 c ex ey tx lx ty ly A B C X Y D bx9 ou : Nat → Int64) (t g h n z m k b : Nat) (sp co th co2 : Int32), lv = [(0, .ref 999), (1, .ref 0), (2, .ref 50), (3, .ref 80), (4, .int (nI i))] ∧ w = (0, oCW (nI t)) :: (wLk px py ph rx ry vi spx (nI g) (nI h) ++ (wSg fx fy mi ax ay bx b2 (nI n) ++ (wSh a b0 c ex ey tx lx ty ly co ++ (wPl fi se mj tk le bo rg tp la (nI z) (nI m) sp ++ (wBo pb pl pe pt lp im (nI k) (nI b) ++ (wCl de s.1 s.2.1 s.2.2.1 (nI s.2.2.2) ++ wM (oMo th (nI g) (nI h) (nI t) (nI n) (nI z) (nI m) (nI b) (nI k) (nI s.2.2.2) sp co2) px py ph rx ry vi sg fi se tk pa im de s.1 s.2.1 s.2.2.1 A B C X Y D bx9 ou)))))) ∧ lwI px py fx fy mi ax ay bx b2 fi se mj tk le bo rg tp la pb pl pe pt lp im de sg pa s.2.2.2 t g h n z m k b ∧ cs ≤ 74 + i + dc ∧ sl ≤ 5741 + 6 * (i + dc)
def J50 (i : Nat) : List (Nat × rz_XJ) := [(1050, [0, 1, 2, 3, 4], fun _ lv w cs sl => LI i 1 lv w cs sl)]
def ck_l0 : List (Nat × rz_K × Nat × Nat) := [(159, ce_X6_post, 0, 0), (181, ce_X7_post, 0, 0)]
def ck_l1 : List (Nat × rz_K × Nat × Nat) := [(202, ce_X6_reach, 0, 0), (218, ce_X7_reach, 0, 0)]
def ck_l2 : List (Nat × rz_K × Nat × Nat) := [(239, ce_X6_weather, 0, 0), (255, ce_X7_weather, 0, 0)]
def ck_l3 : List (Nat × rz_K × Nat × Nat) := [(288, ce_X6_sees, 0, 0), (316, ce_X7_sees, 0, 0)]
def ck_l4 : List (Nat × rz_K × Nat × Nat) := [(331, ce_X6_manned, 0, 0), (341, ce_X7_manned, 0, 0)]
def ck_l5 : List (Nat × rz_K × Nat × Nat) := [(356, ce_X6_open, 0, 0), (366, ce_X7_open, 0, 0)]
def ck_l6 : List (Nat × rz_K × Nat × Nat) := [(405, ce_X6_sight, 0, 0), (439, ce_X7_sight, 1, 6)]
def ck_l7 : List (Nat × rz_K × Nat × Nat) := [(460, ce_X6_plot, 0, 0), (476, ce_X7_plot, 0, 0)]
def ck_l8 : List (Nat × rz_K × Nat × Nat) := [(497, ce_X6_corners, 0, 0), (513, ce_X7_corners, 0, 0)]
def ck_l9 : List (Nat × rz_K × Nat × Nat) := [(547, ce_L_corner, 1, 6), (577, ce_X7_corner, 0, 0), (583, ce_X7_thrown, 0, 0)]
def ck_l10 : List (Nat × rz_K × Nat × Nat) := [(632, ce_L_box, 1, 6), (656, ce_X7_box, 0, 0), (662, ce_X7_thrown, 0, 0)]
def ck_l11 : List (Nat × rz_K × Nat × Nat) := [(705, ce_X6_plotted, 0, 0), (721, ce_X7_plotted, 0, 0)]
def ck_l12 : List (Nat × rz_K × Nat × Nat) := [(736, ce_X6_speed, 0, 0), (746, ce_X7_speed, 0, 0)]
def ck_l13 : List (Nat × rz_K × Nat × Nat) := [(767, ce_X6_track, 0, 0), (783, ce_X7_track, 0, 0)]
def ck_l14 : List (Nat × rz_K × Nat × Nat) := [(816, ce_X6_plan, 0, 0), (844, ce_X7_plan, 1, 5)]
def ck_l15 : List (Nat × rz_K × Nat × Nat) := [(859, ce_X6_in, 0, 0), (869, ce_X7_in, 0, 0)]
def ck_l16 : List (Nat × rz_K × Nat × Nat) := [(896, ce_X6_boat, 0, 0), (918, ce_X7_boat, 0, 0)]
def ck_l17 : List (Nat × rz_K × Nat × Nat) := [(939, ce_X6_call, 0, 0), (955, ce_X7_call, 0, 0)]
def ck_l18 : List (Nat × rz_K × Nat × Nat) := [(970, ce_X6_step, 0, 0), (980, ce_X7_step, 0, 0)]
def ck_l19 : List (Nat × rz_K × Nat × Nat) := [(1001, ce_X6_log, 0, 0), (1017, ce_X7_log, 0, 0)]
def ck_l20 : List (Nat × rz_K × Nat × Nat) := [(1032, ce_X6_count, 0, 0), (1042, ce_X7_count, 0, 0)]
def czL : List (Nat × rz_Z) := [(4, z_X6), (12, z_X7)]
theorem nIa (i j : Nat) : nI i + nI j = nI (i + j) := by
  unfold nI
  rw [← Int32.ofNat_add]
theorem vL {i L : Nat} (hL : L ≤ 3072) (h : i + 6 ≤ L) (j : Nat) (hj : j ≤ 5) : vp_in (nI i + nI j) L := by
  rw [nIa]
  exact vp_in_nI (by omega) (by omega)
theorem bk_skip : ∀ (wd p w : rz_W), (∀ k ∈ wd.map Prod.fst, k ∉ p.map Prod.fst) → rz_back (p ++ w) wd = p ++ rz_back w wd
  | [], p, w, _ => rfl
  | (k, c) :: r, p, w, h => by
    show rz_back (rz_set (p ++ w) k c) r = p ++ rz_back (rz_set w k c) r
    rw [rz_set_pre p w (h k List.mem_cons_self)]
    exact bk_skip r p _ (fun i hi => h i (List.mem_cons_of_mem _ hi))
theorem bk_take {B B' R : rz_W} {ks : List Nat} (h1 : B.map Prod.fst = ks) (h2 : B'.map Prod.fst = ks) (hn : ks.Nodup) : rz_back (B ++ R) B' = B' ++ R := rz_back_pre (w := B) (q := R) (by rw [h1, h2]) (by rw [h1]; exact hn)
theorem bk_0 {c0 c1 : rz_C} {X wc : rz_W} (h : 0 ∉ wc.map Prod.fst) : rz_back ((0, c0) :: X) ((0, c1) :: wc) = (0, c1) :: rz_back X wc := by
  show rz_back ([(0, c1)] ++ X) wc = [(0, c1)] ++ rz_back X wc
  refine bk_skip wc [(0, c1)] X (fun k hk z => ?_)
  rw [List.mem_singleton.mp z] at hk
  exact h hk
theorem sk {p w wd : rz_W} {k1 k2 : List Nat} (h1 : wd.map Prod.fst = k1) (h2 : p.map Prod.fst = k2) (h : ∀ k ∈ k1, k ∉ k2) : rz_back (p ++ w) wd = p ++ rz_back w wd := bk_skip wd p w (by rw [h1, h2]; exact h)
theorem ap {a b c : rz_W} {k1 k2 : List Nat} (h1 : b.map Prod.fst = k1) (h2 : c.map Prod.fst = k2) : (b ++ c).map Prod.fst = k1 ++ k2 := by rw [List.map_append, h1, h2]
section BK
variable {c0 c1 : rz_C} {A B C D E F M A' B' C' D' E' F' wd : rz_W}
theorem bkA (hA : A.map Prod.fst = kLk) (hA' : A'.map Prod.fst = kLk) {R : rz_W} : rz_back ((0, c0) :: (A ++ R)) ((0, c1) :: A') = (0, c1) :: (A' ++ R) := by
  rw [bk_0 (by rw [hA']; decide), bk_take hA hA' (by decide)]
theorem bkAB (hA : A.map Prod.fst = kLk) (hB : B.map Prod.fst = kSg) (hA' : A'.map Prod.fst = kLk) (hB' : B'.map Prod.fst = kSg) {R : rz_W} : rz_back ((0, c0) :: (A ++ (B ++ R))) ((0, c1) :: (A' ++ B')) = (0, c1) :: (A' ++ (B' ++ R)) := by
  rw [bk_0 (by rw [ap (a := []) hA' hB']; decide), rz_back_app, bk_take hA hA' (by decide), sk hB' hA' (by decide), bk_take hB hB' (by decide)]
theorem bkBC (hA : A.map Prod.fst = kLk) (hB : B.map Prod.fst = kSg) (hC : C.map Prod.fst = kSh) (hB' : B'.map Prod.fst = kSg) (hC' : C'.map Prod.fst = kSh) {R : rz_W} : rz_back ((0, c0) :: (A ++ (B ++ (C ++ R)))) ((0, c1) :: (B' ++ C')) = (0, c1) :: (A ++ (B' ++ (C' ++ R))) := by
  rw [bk_0 (by rw [ap (a := []) hB' hC']; decide), sk (ap (a := []) hB' hC') hA (by decide), rz_back_app, bk_take hB hB' (by decide), sk hC' hB' (by decide), bk_take hC hC' (by decide)]
theorem bkBD (hA : A.map Prod.fst = kLk) (hB : B.map Prod.fst = kSg) (hC : C.map Prod.fst = kSh) (hD : D.map Prod.fst = kPl) (hB' : B'.map Prod.fst = kSg) (hC' : C'.map Prod.fst = kSh) (hD' : D'.map Prod.fst = kPl) {R : rz_W} : rz_back ((0, c0) :: (A ++ (B ++ (C ++ (D ++ R))))) ((0, c1) :: (B' ++ (C' ++ D'))) = (0, c1) :: (A ++ (B' ++ (C' ++ (D' ++ R)))) := by
  rw [bk_0 (by rw [ap (a := []) hB' (ap (a := []) hC' hD')]; decide), sk (ap (a := []) hB' (ap (a := []) hC' hD')) hA (by decide), rz_back_app, bk_take hB hB' (by decide), sk (ap (a := []) hC' hD') hB' (by decide), rz_back_app, bk_take hC hC' (by decide), sk hD' hC' (by decide), bk_take hD hD' (by decide)]
theorem bkD (hA : A.map Prod.fst = kLk) (hB : B.map Prod.fst = kSg) (hC : C.map Prod.fst = kSh) (hD : D.map Prod.fst = kPl) (hD' : D'.map Prod.fst = kPl) {R : rz_W} : rz_back ((0, c0) :: (A ++ (B ++ (C ++ (D ++ R))))) ((0, c1) :: D') = (0, c1) :: (A ++ (B ++ (C ++ (D' ++ R)))) := by
  rw [bk_0 (by rw [hD']; decide), sk hD' hA (by decide), sk hD' hB (by decide), sk hD' hC (by decide), bk_take hD hD' (by decide)]
theorem bkE (hA : A.map Prod.fst = kLk) (hB : B.map Prod.fst = kSg) (hC : C.map Prod.fst = kSh) (hD : D.map Prod.fst = kPl) (hE : E.map Prod.fst = kBo) (hE' : E'.map Prod.fst = kBo) {R : rz_W} : rz_back ((0, c0) :: (A ++ (B ++ (C ++ (D ++ (E ++ R)))))) ((0, c1) :: E') = (0, c1) :: (A ++ (B ++ (C ++ (D ++ (E' ++ R))))) := by
  rw [bk_0 (by rw [hE']; decide), sk hE' hA (by decide), sk hE' hB (by decide), sk hE' hC (by decide), sk hE' hD (by decide), bk_take hE hE' (by decide)]
theorem bkF (hA : A.map Prod.fst = kLk) (hB : B.map Prod.fst = kSg) (hC : C.map Prod.fst = kSh) (hD : D.map Prod.fst = kPl) (hE : E.map Prod.fst = kBo) (hF : F.map Prod.fst = kCl) (hF' : F'.map Prod.fst = kCl) {R : rz_W} : rz_back ((0, c0) :: (A ++ (B ++ (C ++ (D ++ (E ++ (F ++ R))))))) ((0, c1) :: F') = (0, c1) :: (A ++ (B ++ (C ++ (D ++ (E ++ (F' ++ R)))))) := by
  rw [bk_0 (by rw [hF']; decide), sk hF' hA (by decide), sk hF' hB (by decide), sk hF' hC (by decide), sk hF' hD (by decide), sk hF' hE (by decide), bk_take hF hF' (by decide)]
theorem bkFE (hA : A.map Prod.fst = kLk) (hB : B.map Prod.fst = kSg) (hC : C.map Prod.fst = kSh) (hD : D.map Prod.fst = kPl) (hE : E.map Prod.fst = kBo) (hF : F.map Prod.fst = kCl) (hF' : F'.map Prod.fst = kCl) (hE' : E'.map Prod.fst = kBo) {R : rz_W} : rz_back ((0, c0) :: (A ++ (B ++ (C ++ (D ++ (E ++ (F ++ R))))))) ((0, c1) :: (F' ++ E')) = (0, c1) :: (A ++ (B ++ (C ++ (D ++ (E' ++ (F' ++ R)))))) := by
  have hk : (F' ++ E').map Prod.fst = kCl ++ kBo := ap (a := []) hF' hE'
  rw [bk_0 (by rw [hk]; decide), sk hk hA (by decide), sk hk hB (by decide), sk hk hC (by decide), sk hk hD (by decide), rz_back_app, sk hF' hE (by decide), bk_take hF hF' (by decide), bk_take hE hE' (by decide)]
theorem bkM (hA : A.map Prod.fst = kLk) (hB : B.map Prod.fst = kSg) (hC : C.map Prod.fst = kSh) (hD : D.map Prod.fst = kPl) (hE : E.map Prod.fst = kBo) (hF : F.map Prod.fst = kCl) {ks : List Nat} (hk : wd.map Prod.fst = ks) (h : ∀ k ∈ ks, 50 ≤ k) : rz_back ((0, c0) :: (A ++ (B ++ (C ++ (D ++ (E ++ (F ++ M))))))) wd = (0, c0) :: (A ++ (B ++ (C ++ (D ++ (E ++ (F ++ rz_back M wd)))))) := by
  have no : ∀ l : List Nat, (∀ i ∈ l, i < 50) → ∀ k ∈ ks, k ∉ l := fun l hl k h1 h2 => by
    have := h k h1
    have := hl k h2
    omega
  show rz_back ([(0, c0)] ++ (A ++ (B ++ (C ++ (D ++ (E ++ (F ++ M))))))) wd = [(0, c0)] ++ (A ++ (B ++ (C ++ (D ++ (E ++ (F ++ rz_back M wd))))))
  rw [sk hk (k2 := [0]) rfl (no _ (by decide)), sk hk hA (no _ (by decide)), sk hk hB (no _ (by decide)), sk hk hC (no _ (by decide)), sk hk hD (no _ (by decide)), sk hk hE (no _ (by decide)), sk hk hF (no _ (by decide))]
theorem bkBCM (hA : A.map Prod.fst = kLk) (hB : B.map Prod.fst = kSg) (hC : C.map Prod.fst = kSh) (hD : D.map Prod.fst = kPl) (hE : E.map Prod.fst = kBo) (hF : F.map Prod.fst = kCl) (hB' : B'.map Prod.fst = kSg) (hC' : C'.map Prod.fst = kSh) (hk : wd.map Prod.fst = [80]) : rz_back ((0, c0) :: (A ++ (B ++ (C ++ (D ++ (E ++ (F ++ M))))))) (((0, c1) :: (B' ++ C')) ++ wd) = (0, c1) :: (A ++ (B' ++ (C' ++ (D ++ (E ++ (F ++ rz_back M wd)))))) := by
  rw [rz_back_app, bkBC hA hB hC hB' hC', bkM hA hB' hC' hD hE hF hk (by decide)]
end BK
