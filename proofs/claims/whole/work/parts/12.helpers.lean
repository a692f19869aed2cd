/-! PaperDolls$Game.gain(LPaperDolls$Doll;III)I -/
def L_X2_gain : List (Nat × Instr × Nat) := [(0, .iload_n 2, 1), (1, .iload_n 3, 1), (2, .if_icmp .ne 6, 3), (5, .bipush (-2), 2), (7, .ireturn, 1), (8, .iload_n 1, 1), (9, .iload_n 2, 1), (10, .ishr, 1), (11, .iconst 1, 1), (12, .iand, 1), (13, .ifCond .ne 5, 3), (16, .iconst 0, 1), (17, .ireturn, 1), (18, .iload_n 1, 1), (19, .iload_n 3, 1), (20, .ishr, 1), (21, .iconst 1, 1), (22, .iand, 1), (23, .iconst 1, 1), (24, .if_icmp .ne 14, 3), (27, .aload_n 0, 1), (28, .iload_n 2, 1), (29, .iload_n 3, 1), (30, .invokevirtual 23, 3), (33, .ifCond .ne 5, 3), (36, .iconst (-1), 1), (37, .ireturn, 1), (38, .aload_n 0, 1), (39, .iload_n 2, 1), (40, .invokevirtual 27, 3), (43, .istore 4, 2), (45, .iload 4, 2), (47, .invokestatic 31, 3), (50, .iload 4, 2), (52, .aload_n 0, 1), (53, .iload_n 3, 1), (54, .invokevirtual 27, 3), (57, .iconst (-1), 1), (58, .ixor, 1), (59, .iand, 1), (60, .invokestatic 31, 3), (63, .iadd, 1), (64, .ireturn, 1)]
theorem dd_X2_gain : ∀ q ∈ L_X2_gain, decode cX2_gain q.1 = .ok q.2 := by decide +kernel
abbrev M_X2_gain : zM := (cX2_gain, RX2, "gain", 5, some .int, 2, 0, 0)
theorem u_X2_gain : zCal yX2_gain (M_X2_gain) 4 := ⟨(zmem 730 (by decide +kernel) rfl : Cond.code yX2_gain cX2_gain 5 (some .int) ∈ zTb), zmem 74 (by decide +kernel) rfl, by decide +kernel, Nat.le_of_ble_eq_true rfl⟩
theorem qi_X2_gain : Cond.static yX2_gain ∈ zTb := zmem 729 (by decide +kernel) rfl
def f_X2_gain_38 (v0 : Nat) (v2 : Int32) (v3 : Int32) (h : zH) : zR :=
  zoc h v0 0 <|
  zcI (f_X1_spotsOf v0 v2 h) fun x1 h2 =>
  zcI (f_J6_bitCount_0f7a4 x1 h2) fun x3 h4 =>
  zoc h4 v0 0 <|
  zcI (f_X1_spotsOf v0 v3 h4) fun x5 h6 =>
  zcI (f_J6_bitCount_0f7a4 (x1 &&& (x5 ^^^ (-1))) h6) fun x7 h8 =>
  zrI (x3 + x7) h8
set_option maxRecDepth 100000 in
set_option maxHeartbeats 4000000 in
theorem zb_X2_gain_38 (Y : zY) (v0 : Nat) (v2 : Int32) (v3 : Int32) (h : zH) : Z Y M_X2_gain 0 0 38 [(0, .ref v0), (2, .int v2), (3, .int v3)] [] h (f_X2_gain_38 v0 v2 v3 h) := by
  rw [f_X2_gain_38]
  refine z_aload_n 0 (zat dd_X2_gain 27 rfl) rfl rfl ?_
  refine z_iload_n 1 (zat dd_X2_gain 28 rfl) rfl rfl ?_
  refine z_callV_I0 (M2 := M_X1_spotsOf) [.int v2] (fun l D _ _ => m_X1_spotsOf l D v0 v2 h) u_X1_spotsOf ql_X2_27 qi_X1_spotsOf qs_X1_spotsOf (ci := 0) rfl rfl rfl (Nat.le_of_ble_eq_true rfl) (by decide) rfl rfl (zat dd_X2_gain 29 rfl) (fun x1 h2 => ?_)
  refine z_istore (lv' := [(4, .int x1), (0, .ref v0), (2, .int v2), (3, .int v3)]) (zat dd_X2_gain 30 rfl) (Nat.le_of_ble_eq_true rfl) rfl ?_
  refine z_iload 0 (zat dd_X2_gain 31 rfl) rfl ?_
  refine z_callS_I0 (M2 := M_J6_bitCount_0f7a4) [.int x1] (fun l D _ _ => m_J6_bitCount_0f7a4 l D x1 h2) u_J6_bitCount_0f7a4 ql_X2_31 qi_J6_bitCount_0f7a4 rfl rfl (Nat.le_of_ble_eq_true rfl) (by decide) rfl rfl (zat dd_X2_gain 32 rfl) (fun x3 h4 => ?_)
  refine z_iload 0 (zat dd_X2_gain 33 rfl) rfl ?_
  refine z_aload_n 1 (zat dd_X2_gain 34 rfl) rfl rfl ?_
  refine z_iload_n 3 (zat dd_X2_gain 35 rfl) rfl rfl ?_
  refine z_callV_I0 (M2 := M_X1_spotsOf) [.int v3] (fun l D _ _ => m_X1_spotsOf l D v0 v3 h4) u_X1_spotsOf ql_X2_27 qi_X1_spotsOf qs_X1_spotsOf (ci := 0) rfl rfl rfl (Nat.le_of_ble_eq_true rfl) (by decide) rfl rfl (zat dd_X2_gain 36 rfl) (fun x5 h6 => ?_)
  refine z_iconst (x := (-1)) (zat dd_X2_gain 37 rfl) (by decide) ?_
  refine z_ixor (zat dd_X2_gain 38 rfl) ?_
  refine z_iand (zat dd_X2_gain 39 rfl) ?_
  refine z_callS_I0 (M2 := M_J6_bitCount_0f7a4) [.int (x1 &&& (x5 ^^^ (-1)))] (fun l D _ _ => m_J6_bitCount_0f7a4 l D (x1 &&& (x5 ^^^ (-1))) h6) u_J6_bitCount_0f7a4 ql_X2_31 qi_J6_bitCount_0f7a4 rfl rfl (Nat.le_of_ble_eq_true rfl) (by decide) rfl rfl (zat dd_X2_gain 40 rfl) (fun x7 h8 => ?_)
  refine z_iadd (zat dd_X2_gain 41 rfl) ?_
  exact z_iret rfl (zat dd_X2_gain 42 rfl)
def f_X2_gain (v0 : Nat) (v1 : Int32) (v2 : Int32) (v3 : Int32) (h : zH) : zR :=
  if v2 = v3 then
  zrI (-2) h
  else
  if ((v1 >>> (v2 &&& 31)) &&& 1) = 0 then
  zrI 0 h
  else
  if ((v1 >>> (v3 &&& 31)) &&& 1) = 1 then
  zoc h v0 0 <|
  zcI (f_X1_match v0 v2 v3 h) fun x1 h2 =>
  if x1 = 0 then
  zrI (-1) h2
  else
  f_X2_gain_38 v0 v2 v3 h2
  else
  f_X2_gain_38 v0 v2 v3 h
set_option maxRecDepth 100000 in
set_option maxHeartbeats 4000000 in
theorem m_X2_gain (l : Launch) (D : zD) (v0 : Nat) (v1 : Int32) (v2 : Int32) (v3 : Int32) (h : zH) : zMet l D yX2_gain M_X2_gain [.ref v0, .int v1, .int v2, .int v3] h (f_X2_gain v0 v1 v2 v3 h) := by
  refine zMet.of (by decide +kernel) ⟨rfl, rfl⟩ (Nat.le_of_ble_eq_true rfl) (fun Y hl hD => ?_)
  show Z Y M_X2_gain 0 0 0 [(0, .ref v0), (1, .int v1), (2, .int v2), (3, .int v3)] [] h _
  rw [f_X2_gain]
  refine z_iload_n 2 (zat dd_X2_gain 0 rfl) rfl rfl ?_
  refine z_iload_n 3 (zat dd_X2_gain 1 rfl) rfl rfl ?_
  refine z_icmp_ne (tgt := 8) (zat dd_X2_gain 2 rfl) (by decide) ?_ ?_
  · refine z_iload_n 1 (zat dd_X2_gain 5 rfl) rfl rfl ?_
    refine z_iload_n 2 (zat dd_X2_gain 6 rfl) rfl rfl ?_
    refine z_ishr (zat dd_X2_gain 7 rfl) ?_
    refine z_iconst (x := 1) (zat dd_X2_gain 8 rfl) (by decide) ?_
    refine z_iand (zat dd_X2_gain 9 rfl) ?_
    refine z_if_ne (tgt := 18) (zat dd_X2_gain 10 rfl) (by decide) ?_ ?_
    · refine z_iload_n 1 (zat dd_X2_gain 13 rfl) rfl rfl ?_
      refine z_iload_n 3 (zat dd_X2_gain 14 rfl) rfl rfl ?_
      refine z_ishr (zat dd_X2_gain 15 rfl) ?_
      refine z_iconst (x := 1) (zat dd_X2_gain 16 rfl) (by decide) ?_
      refine z_iand (zat dd_X2_gain 17 rfl) ?_
      refine z_iconst (x := 1) (zat dd_X2_gain 18 rfl) (by decide) ?_
      refine z_icmp_ne (tgt := 38) (zat dd_X2_gain 19 rfl) (by decide) ?_ ?_
      · refine z_sub [0, 2, 3] rfl ?_
        exact zb_X2_gain_38 Y v0 v2 v3 h
      · refine z_aload_n 0 (zat dd_X2_gain 20 rfl) rfl rfl ?_
        refine z_iload_n 2 (zat dd_X2_gain 21 rfl) rfl rfl ?_
        refine z_iload_n 3 (zat dd_X2_gain 22 rfl) rfl rfl ?_
        refine z_callV_I0 (M2 := M_X1_match) [.int v2, .int v3] (fun l D _ _ => m_X1_match l D v0 v2 v3 h) u_X1_match ql_X2_23 qi_X1_match qs_X1_match (ci := 0) rfl rfl rfl (Nat.le_of_ble_eq_true rfl) (by decide) rfl rfl (zat dd_X2_gain 23 rfl) (fun x1 h2 => ?_)
        refine z_if_ne (tgt := 38) (zat dd_X2_gain 24 rfl) (by decide) ?_ ?_
        · refine z_sub [0, 2, 3] rfl ?_
          exact zb_X2_gain_38 Y v0 v2 v3 h2
        · refine z_iconst (x := (-1)) (zat dd_X2_gain 25 rfl) (by decide) ?_
          exact z_iret rfl (zat dd_X2_gain 26 rfl)
    · refine z_iconst (x := 0) (zat dd_X2_gain 11 rfl) (by decide) ?_
      exact z_iret rfl (zat dd_X2_gain 12 rfl)
  · refine z_bipush (x := (-2)) (zat dd_X2_gain 3 rfl) (by decide) ?_
    exact z_iret rfl (zat dd_X2_gain 4 rfl)
/-! PaperDolls$Game.noneIsBetter(LPaperDolls$Doll;IIII)Z -/
def L_X2_noneIsBetter : List (Nat × Instr × Nat) := [(0, .aload_n 0, 1), (1, .iload_n 1, 1), (2, .iload_n 3, 1), (3, .iload 4, 2), (5, .invokestatic 13, 3), (8, .istore 5, 2), (10, .iconst 0, 1), (11, .istore 6, 2), (13, .iload 6, 2), (15, .aload_n 0, 1), (16, .getfield 17, 3), (19, .if_icmp .ge 35, 3), (22, .iload_n 2, 1), (23, .iload 6, 2), (25, .ishr, 1), (26, .iconst 1, 1), (27, .iand, 1), (28, .iconst 1, 1), (29, .if_icmp .ne 19, 3), (32, .aload_n 0, 1), (33, .iload_n 1, 1), (34, .iload 6, 2), (36, .iload 4, 2), (38, .invokestatic 13, 3), (41, .iload 5, 2), (43, .if_icmp .le 5, 3), (46, .iconst 0, 1), (47, .ireturn, 1), (48, .iinc 6 1, 3), (51, .goto (-38), 3), (54, .iconst 1, 1), (55, .ireturn, 1)]
theorem dd_X2_noneIsBetter : ∀ q ∈ L_X2_noneIsBetter, decode cX2_noneIsBetter q.1 = .ok q.2 := by decide +kernel
abbrev M_X2_noneIsBetter : zM := (cX2_noneIsBetter, RX2, "noneIsBetter", 7, some .boolean, 3, 0, 0)
theorem u_X2_noneIsBetter : zCal yX2_noneIsBetter (M_X2_noneIsBetter) 5 := ⟨(zmem 727 (by decide +kernel) rfl : Cond.code yX2_noneIsBetter cX2_noneIsBetter 7 (some .boolean) ∈ zTb), zmem 74 (by decide +kernel) rfl, by decide +kernel, Nat.le_of_ble_eq_true rfl⟩
theorem qi_X2_noneIsBetter : Cond.static yX2_noneIsBetter ∈ zTb := zmem 726 (by decide +kernel) rfl
def f_X2_noneIsBetter_48 (k13 : Nat → Int32 → Int32 → Int32 → Int32 → Int32 → zH → zR) (v0 : Nat) (v1 : Int32) (v2 : Int32) (v4 : Int32) (v5 : Int32) (v6 : Int32) (h : zH) : zR :=
  k13 v0 v1 v2 v4 v5 (v6 + 1) h
set_option maxRecDepth 100000 in
set_option maxHeartbeats 4000000 in
theorem zb_X2_noneIsBetter_48 (Y : zY) (k13 : Nat → Int32 → Int32 → Int32 → Int32 → Int32 → zH → zR) (hk13 : ∀ (v0 : Nat) (v1 : Int32) (v2 : Int32) (v4 : Int32) (v5 : Int32) (v6 : Int32) (h : zH), Z Y M_X2_noneIsBetter 0 0 13 [(0, .ref v0), (1, .int v1), (2, .int v2), (4, .int v4), (5, .int v5), (6, .int v6)] [] h (k13 v0 v1 v2 v4 v5 v6 h)) (v0 : Nat) (v1 : Int32) (v2 : Int32) (v4 : Int32) (v5 : Int32) (v6 : Int32) (h : zH) : Z Y M_X2_noneIsBetter 0 0 48 [(0, .ref v0), (1, .int v1), (2, .int v2), (4, .int v4), (5, .int v5), (6, .int v6)] [] h (f_X2_noneIsBetter_48 k13 v0 v1 v2 v4 v5 v6 h) := by
  rw [f_X2_noneIsBetter_48]
  refine z_iinc (y := v6 + 1) (lv' := [(6, .int (v6 + 1)), (0, .ref v0), (1, .int v1), (2, .int v2), (4, .int v4), (5, .int v5)]) 5 (zat dd_X2_noneIsBetter 28 rfl) rfl rfl (Nat.le_of_ble_eq_true rfl) rfl ?_
  refine z_goto (tgt := 13) (zat dd_X2_noneIsBetter 29 rfl) (by decide) ?_
  refine z_sub [1, 2, 3, 4, 5, 0] rfl ?_
  exact hk13 v0 v1 v2 v4 v5 (v6 + 1) h
def f_X2_noneIsBetter_13 : Nat → Nat → Int32 → Int32 → Int32 → Int32 → Int32 → zH → zR
  | 0, _, _, _, _, _, _, _ => none
  | n + 1, v0, v1, v2, v4, v5, v6, h =>
  zgI h v0 0 1 fun x1 =>
  if x1 ≤ v6 then
  zrZ 1 h
  else
  if ((v2 >>> (v6 &&& 31)) &&& 1) = 1 then
  zcI (f_X2_gain v0 v1 v6 v4 h) fun x2 h3 =>
  if x2 ≤ v5 then
  f_X2_noneIsBetter_48 (f_X2_noneIsBetter_13 n) v0 v1 v2 v4 v5 v6 h3
  else
  zrZ 0 h3
  else
  f_X2_noneIsBetter_48 (f_X2_noneIsBetter_13 n) v0 v1 v2 v4 v5 v6 h
set_option maxRecDepth 100000 in
set_option maxHeartbeats 4000000 in
theorem zb_X2_noneIsBetter_13 (Y : zY) : ∀ (n : Nat) (v0 : Nat) (v1 : Int32) (v2 : Int32) (v4 : Int32) (v5 : Int32) (v6 : Int32) (h : zH), Z Y M_X2_noneIsBetter 0 0 13 [(0, .ref v0), (1, .int v1), (2, .int v2), (4, .int v4), (5, .int v5), (6, .int v6)] [] h (f_X2_noneIsBetter_13 n v0 v1 v2 v4 v5 v6 h) := by
  intro n
  induction n with
  | zero =>
    intro v0 v1 v2 v4 v5 v6 h
    rw [f_X2_noneIsBetter_13]
    exact z_none
  | succ n ih =>
    intro v0 v1 v2 v4 v5 v6 h
    rw [f_X2_noneIsBetter_13]
    refine z_iload 5 (zat dd_X2_noneIsBetter 8 rfl) rfl ?_
    refine z_aload_n 0 (zat dd_X2_noneIsBetter 9 rfl) rfl rfl ?_
    refine z_getI fl_X2_17 (zat dd_X2_noneIsBetter 10 rfl) (fun x1 => ?_)
    refine z_icmp_ge (tgt := 54) (zat dd_X2_noneIsBetter 11 rfl) (by decide) ?_ ?_
    · refine z_iconst (x := 1) (zat dd_X2_noneIsBetter 30 rfl) (by decide) ?_
      exact z_zret rfl (zat dd_X2_noneIsBetter 31 rfl)
    · refine z_iload_n 2 (zat dd_X2_noneIsBetter 12 rfl) rfl rfl ?_
      refine z_iload 5 (zat dd_X2_noneIsBetter 13 rfl) rfl ?_
      refine z_ishr (zat dd_X2_noneIsBetter 14 rfl) ?_
      refine z_iconst (x := 1) (zat dd_X2_noneIsBetter 15 rfl) (by decide) ?_
      refine z_iand (zat dd_X2_noneIsBetter 16 rfl) ?_
      refine z_iconst (x := 1) (zat dd_X2_noneIsBetter 17 rfl) (by decide) ?_
      refine z_icmp_ne (tgt := 48) (zat dd_X2_noneIsBetter 18 rfl) (by decide) ?_ ?_
      · exact zb_X2_noneIsBetter_48 Y (f_X2_noneIsBetter_13 n) ih v0 v1 v2 v4 v5 v6 h
      · refine z_aload_n 0 (zat dd_X2_noneIsBetter 19 rfl) rfl rfl ?_
        refine z_iload_n 1 (zat dd_X2_noneIsBetter 20 rfl) rfl rfl ?_
        refine z_iload 5 (zat dd_X2_noneIsBetter 21 rfl) rfl ?_
        refine z_iload 3 (zat dd_X2_noneIsBetter 22 rfl) rfl ?_
        refine z_callS_I0 (M2 := M_X2_gain) [.ref v0, .int v1, .int v6, .int v4] (fun l D _ _ => m_X2_gain l D v0 v1 v6 v4 h) u_X2_gain ql_X2_13 qi_X2_gain rfl rfl (Nat.le_of_ble_eq_true rfl) (by decide) rfl rfl (zat dd_X2_noneIsBetter 23 rfl) (fun x2 h3 => ?_)
        refine z_iload 4 (zat dd_X2_noneIsBetter 24 rfl) rfl ?_
        refine z_icmp_le (tgt := 48) (zat dd_X2_noneIsBetter 25 rfl) (by decide) ?_ ?_
        · exact zb_X2_noneIsBetter_48 Y (f_X2_noneIsBetter_13 n) ih v0 v1 v2 v4 v5 v6 h3
        · refine z_iconst (x := 0) (zat dd_X2_noneIsBetter 26 rfl) (by decide) ?_
          exact z_zret rfl (zat dd_X2_noneIsBetter 27 rfl)
def f_X2_noneIsBetter (v0 : Nat) (v1 : Int32) (v2 : Int32) (v3 : Int32) (v4 : Int32) (h : zH) : zR :=
  zcI (f_X2_gain v0 v1 v3 v4 h) fun x1 h2 =>
  f_X2_noneIsBetter_13 zF v0 v1 v2 v4 x1 0 h2
set_option maxRecDepth 100000 in
set_option maxHeartbeats 4000000 in
theorem m_X2_noneIsBetter (l : Launch) (D : zD) (v0 : Nat) (v1 : Int32) (v2 : Int32) (v3 : Int32) (v4 : Int32) (h : zH) : zMet l D yX2_noneIsBetter M_X2_noneIsBetter [.ref v0, .int v1, .int v2, .int v3, .int v4] h (f_X2_noneIsBetter v0 v1 v2 v3 v4 h) := by
  refine zMet.of (by decide +kernel) ⟨rfl, rfl⟩ (Nat.le_of_ble_eq_true rfl) (fun Y hl hD => ?_)
  show Z Y M_X2_noneIsBetter 0 0 0 [(0, .ref v0), (1, .int v1), (2, .int v2), (3, .int v3), (4, .int v4)] [] h _
  rw [f_X2_noneIsBetter]
  refine z_aload_n 0 (zat dd_X2_noneIsBetter 0 rfl) rfl rfl ?_
  refine z_iload_n 1 (zat dd_X2_noneIsBetter 1 rfl) rfl rfl ?_
  refine z_iload_n 3 (zat dd_X2_noneIsBetter 2 rfl) rfl rfl ?_
  refine z_iload 4 (zat dd_X2_noneIsBetter 3 rfl) rfl ?_
  refine z_callS_I0 (M2 := M_X2_gain) [.ref v0, .int v1, .int v3, .int v4] (fun l D _ _ => m_X2_gain l D v0 v1 v3 v4 h) u_X2_gain ql_X2_13 qi_X2_gain rfl rfl (Nat.le_of_ble_eq_true rfl) (by decide) rfl rfl (zat dd_X2_noneIsBetter 4 rfl) (fun x1 h2 => ?_)
  refine z_istore (lv' := [(5, .int x1), (0, .ref v0), (1, .int v1), (2, .int v2), (3, .int v3), (4, .int v4)]) (zat dd_X2_noneIsBetter 5 rfl) (Nat.le_of_ble_eq_true rfl) rfl ?_
  refine z_iconst (x := 0) (zat dd_X2_noneIsBetter 6 rfl) (by decide) ?_
  refine z_istore (lv' := [(6, .int 0), (5, .int x1), (0, .ref v0), (1, .int v1), (2, .int v2), (3, .int v3), (4, .int v4)]) (zat dd_X2_noneIsBetter 7 rfl) (Nat.le_of_ble_eq_true rfl) rfl ?_
  refine z_sub [2, 3, 4, 6, 1, 0] rfl ?_
  exact zb_X2_noneIsBetter_13 Y zF v0 v1 v2 v4 x1 0 h2
/-! PaperDolls$Game.rests(LPaperDolls$Doll;IIII)Z -/
def L_X2_rests : List (Nat × Instr × Nat) := [(0, .iload_n 2, 1), (1, .iload_n 3, 1), (2, .ishr, 1), (3, .iconst 1, 1), (4, .iand, 1), (5, .iconst 1, 1), (6, .if_icmp .ne 41, 3), (9, .iload_n 2, 1), (10, .iload 4, 2), (12, .ishr, 1), (13, .iconst 1, 1), (14, .iand, 1), (15, .iconst 1, 1), (16, .if_icmp .ne 31, 3), (19, .aload_n 0, 1), (20, .iload_n 1, 1), (21, .iload_n 2, 1), (22, .iload_n 3, 1), (23, .iload 4, 2), (25, .invokestatic 7, 3), (28, .ifCond .eq 19, 3), (31, .aload_n 0, 1), (32, .iload_n 1, 1), (33, .iload_n 2, 1), (34, .iload 4, 2), (36, .iload_n 3, 1), (37, .invokestatic 7, 3), (40, .ifCond .eq 7, 3), (43, .iconst 1, 1), (44, .goto 4, 3), (47, .iconst 0, 1), (48, .ireturn, 1)]
theorem dd_X2_rests : ∀ q ∈ L_X2_rests, decode cX2_rests q.1 = .ok q.2 := by decide +kernel
abbrev M_X2_rests : zM := (cX2_rests, RX2, "rests", 5, some .boolean, 4, 0, 0)
theorem u_X2_rests : zCal yX2_rests (M_X2_rests) 5 := ⟨(zmem 724 (by decide +kernel) rfl : Cond.code yX2_rests cX2_rests 5 (some .boolean) ∈ zTb), zmem 74 (by decide +kernel) rfl, by decide +kernel, Nat.le_of_ble_eq_true rfl⟩
theorem qi_X2_rests : Cond.static yX2_rests ∈ zTb := zmem 723 (by decide +kernel) rfl
def f_X2_rests_48 (t0 : Int32) (h : zH) : zR :=
  zrZ t0 h
set_option maxRecDepth 100000 in
set_option maxHeartbeats 4000000 in
theorem zb_X2_rests_48 (Y : zY) (t0 : Int32) (h : zH) : Z Y M_X2_rests 0 0 48 [] [.int t0] h (f_X2_rests_48 t0 h) := by
  rw [f_X2_rests_48]
  exact z_zret rfl (zat dd_X2_rests 31 rfl)
def f_X2_rests_47 (h : zH) : zR :=
  f_X2_rests_48 0 h
set_option maxRecDepth 100000 in
set_option maxHeartbeats 4000000 in
theorem zb_X2_rests_47 (Y : zY) (h : zH) : Z Y M_X2_rests 0 0 47 [] [] h (f_X2_rests_47  h) := by
  rw [f_X2_rests_47]
  refine z_iconst (x := 0) (zat dd_X2_rests 30 rfl) (by decide) ?_
  exact zb_X2_rests_48 Y 0 h
def f_X2_rests (v0 : Nat) (v1 : Int32) (v2 : Int32) (v3 : Int32) (v4 : Int32) (h : zH) : zR :=
  if ((v2 >>> (v3 &&& 31)) &&& 1) = 1 then
  if ((v2 >>> (v4 &&& 31)) &&& 1) = 1 then
  zcI (f_X2_noneIsBetter v0 v1 v2 v3 v4 h) fun x1 h2 =>
  if x1 = 0 then
  f_X2_rests_47 h2
  else
  zcI (f_X2_noneIsBetter v0 v1 v2 v4 v3 h2) fun x3 h4 =>
  if x3 = 0 then
  f_X2_rests_47 h4
  else
  f_X2_rests_48 1 h4
  else
  f_X2_rests_47 h
  else
  f_X2_rests_47 h
set_option maxRecDepth 100000 in
set_option maxHeartbeats 4000000 in
theorem m_X2_rests (l : Launch) (D : zD) (v0 : Nat) (v1 : Int32) (v2 : Int32) (v3 : Int32) (v4 : Int32) (h : zH) : zMet l D yX2_rests M_X2_rests [.ref v0, .int v1, .int v2, .int v3, .int v4] h (f_X2_rests v0 v1 v2 v3 v4 h) := by
  refine zMet.of (by decide +kernel) ⟨rfl, rfl⟩ (Nat.le_of_ble_eq_true rfl) (fun Y hl hD => ?_)
  show Z Y M_X2_rests 0 0 0 [(0, .ref v0), (1, .int v1), (2, .int v2), (3, .int v3), (4, .int v4)] [] h _
  rw [f_X2_rests]
  refine z_iload_n 2 (zat dd_X2_rests 0 rfl) rfl rfl ?_
  refine z_iload_n 3 (zat dd_X2_rests 1 rfl) rfl rfl ?_
  refine z_ishr (zat dd_X2_rests 2 rfl) ?_
  refine z_iconst (x := 1) (zat dd_X2_rests 3 rfl) (by decide) ?_
  refine z_iand (zat dd_X2_rests 4 rfl) ?_
  refine z_iconst (x := 1) (zat dd_X2_rests 5 rfl) (by decide) ?_
  refine z_icmp_ne (tgt := 47) (zat dd_X2_rests 6 rfl) (by decide) ?_ ?_
  · refine z_sub [] rfl ?_
    exact zb_X2_rests_47 Y h
  · refine z_iload_n 2 (zat dd_X2_rests 7 rfl) rfl rfl ?_
    refine z_iload 4 (zat dd_X2_rests 8 rfl) rfl ?_
    refine z_ishr (zat dd_X2_rests 9 rfl) ?_
    refine z_iconst (x := 1) (zat dd_X2_rests 10 rfl) (by decide) ?_
    refine z_iand (zat dd_X2_rests 11 rfl) ?_
    refine z_iconst (x := 1) (zat dd_X2_rests 12 rfl) (by decide) ?_
    refine z_icmp_ne (tgt := 47) (zat dd_X2_rests 13 rfl) (by decide) ?_ ?_
    · refine z_sub [] rfl ?_
      exact zb_X2_rests_47 Y h
    · refine z_aload_n 0 (zat dd_X2_rests 14 rfl) rfl rfl ?_
      refine z_iload_n 1 (zat dd_X2_rests 15 rfl) rfl rfl ?_
      refine z_iload_n 2 (zat dd_X2_rests 16 rfl) rfl rfl ?_
      refine z_iload_n 3 (zat dd_X2_rests 17 rfl) rfl rfl ?_
      refine z_iload 4 (zat dd_X2_rests 18 rfl) rfl ?_
      refine z_callS_I0 (M2 := M_X2_noneIsBetter) [.ref v0, .int v1, .int v2, .int v3, .int v4] (fun l D _ _ => m_X2_noneIsBetter l D v0 v1 v2 v3 v4 h) u_X2_noneIsBetter ql_X2_7 qi_X2_noneIsBetter rfl rfl (Nat.le_of_ble_eq_true rfl) (by decide) rfl rfl (zat dd_X2_rests 19 rfl) (fun x1 h2 => ?_)
      refine z_if_eq (tgt := 47) (zat dd_X2_rests 20 rfl) (by decide) ?_ ?_
      · refine z_sub [] rfl ?_
        exact zb_X2_rests_47 Y h2
      · refine z_aload_n 0 (zat dd_X2_rests 21 rfl) rfl rfl ?_
        refine z_iload_n 1 (zat dd_X2_rests 22 rfl) rfl rfl ?_
        refine z_iload_n 2 (zat dd_X2_rests 23 rfl) rfl rfl ?_
        refine z_iload 4 (zat dd_X2_rests 24 rfl) rfl ?_
        refine z_iload_n 3 (zat dd_X2_rests 25 rfl) rfl rfl ?_
        refine z_callS_I0 (M2 := M_X2_noneIsBetter) [.ref v0, .int v1, .int v2, .int v4, .int v3] (fun l D _ _ => m_X2_noneIsBetter l D v0 v1 v2 v4 v3 h2) u_X2_noneIsBetter ql_X2_7 qi_X2_noneIsBetter rfl rfl (Nat.le_of_ble_eq_true rfl) (by decide) rfl rfl (zat dd_X2_rests 26 rfl) (fun x3 h4 => ?_)
        refine z_if_eq (tgt := 47) (zat dd_X2_rests 27 rfl) (by decide) ?_ ?_
        · refine z_sub [] rfl ?_
          exact zb_X2_rests_47 Y h4
        · refine z_iconst (x := 1) (zat dd_X2_rests 28 rfl) (by decide) ?_
          refine z_goto (tgt := 48) (zat dd_X2_rests 29 rfl) (by decide) ?_
          refine z_sub [] rfl ?_
          exact zb_X2_rests_48 Y 1 h4
/-! PaperDolls$Guess.fitsNotes(LPaperDolls$Doll;I)Z -/
def L_X3_fitsNotes : List (Nat × Instr × Nat) := [(0, .iconst 0, 1), (1, .istore_n 2, 1), (2, .iload_n 2, 1), (3, .aload_n 0, 1), (4, .getfield 15, 3), (7, .if_icmp .ge 57, 3), (10, .iload_n 2, 1), (11, .iconst 3, 1), (12, .imul, 1), (13, .istore_n 3, 1), (14, .aload_n 0, 1), (15, .getfield 21, 3), (18, .iload_n 3, 1), (19, .iconst 2, 1), (20, .iadd, 1), (21, .iaload, 1), (22, .iconst 1, 1), (23, .if_icmp .ne 7, 3), (26, .iconst 1, 1), (27, .goto 4, 3), (30, .iconst 0, 1), (31, .istore 4, 2), (33, .iload_n 1, 1), (34, .aload_n 0, 1), (35, .getfield 21, 3), (38, .iload_n 3, 1), (39, .iaload, 1), (40, .aload_n 0, 1), (41, .getfield 21, 3), (44, .iload_n 3, 1), (45, .iconst 1, 1), (46, .iadd, 1), (47, .iaload, 1), (48, .invokestatic 25, 3), (51, .iload 4, 2), (53, .if_icmp .eq 5, 3), (56, .iconst 0, 1), (57, .ireturn, 1), (58, .iinc 2 1, 3), (61, .goto (-59), 3), (64, .iconst 1, 1), (65, .ireturn, 1)]
theorem dd_X3_fitsNotes : ∀ q ∈ L_X3_fitsNotes, decode cX3_fitsNotes q.1 = .ok q.2 := by decide +kernel
abbrev M_X3_fitsNotes : zM := (cX3_fitsNotes, RX3, "fitsNotes", 5, some .boolean, 1, 0, 0)
theorem u_X3_fitsNotes : zCal yX3_fitsNotes (M_X3_fitsNotes) 2 := ⟨(zmem 679 (by decide +kernel) rfl : Cond.code yX3_fitsNotes cX3_fitsNotes 5 (some .boolean) ∈ zTb), zmem 73 (by decide +kernel) rfl, by decide +kernel, Nat.le_of_ble_eq_true rfl⟩
theorem qi_X3_fitsNotes : Cond.static yX3_fitsNotes ∈ zTb := zmem 678 (by decide +kernel) rfl
def f_X3_fitsNotes_31 (k2 : Nat → Int32 → Int32 → zH → zR) (v0 : Nat) (v1 : Int32) (v2 : Int32) (v3 : Int32) (t0 : Int32) (h : zH) : zR :=
  zgR h v0 0 8 fun a1 =>
  zaI h a1 0 v3 fun x2 =>
  zgR h v0 0 8 fun a3 =>
  zaI h a3 0 (v3 + 1) fun x4 =>
  zcI (f_X6_allows v1 x2 x4 h) fun x5 h6 =>
  if x5 = t0 then
  k2 v0 v1 (v2 + 1) h6
  else
  zrZ 0 h6
set_option maxRecDepth 100000 in
set_option maxHeartbeats 4000000 in
theorem zb_X3_fitsNotes_31 (Y : zY) (k2 : Nat → Int32 → Int32 → zH → zR) (hk2 : ∀ (v0 : Nat) (v1 : Int32) (v2 : Int32) (h : zH), Z Y M_X3_fitsNotes 0 0 2 [(0, .ref v0), (1, .int v1), (2, .int v2)] [] h (k2 v0 v1 v2 h)) (v0 : Nat) (v1 : Int32) (v2 : Int32) (v3 : Int32) (t0 : Int32) (h : zH) : Z Y M_X3_fitsNotes 0 0 31 [(0, .ref v0), (1, .int v1), (2, .int v2), (3, .int v3)] [.int t0] h (f_X3_fitsNotes_31 k2 v0 v1 v2 v3 t0 h) := by
  rw [f_X3_fitsNotes_31]
  refine z_istore (lv' := [(4, .int t0), (0, .ref v0), (1, .int v1), (2, .int v2), (3, .int v3)]) (zat dd_X3_fitsNotes 21 rfl) (Nat.le_of_ble_eq_true rfl) rfl ?_
  refine z_iload_n 2 (zat dd_X3_fitsNotes 22 rfl) rfl rfl ?_
  refine z_aload_n 1 (zat dd_X3_fitsNotes 23 rfl) rfl rfl ?_
  refine z_getR fl_X3_21 (zat dd_X3_fitsNotes 24 rfl) (fun a1 => ?_)
  refine z_iload_n 4 (zat dd_X3_fitsNotes 25 rfl) rfl rfl ?_
  refine z_iald (zat dd_X3_fitsNotes 26 rfl) (fun x2 => ?_)
  refine z_aload_n 1 (zat dd_X3_fitsNotes 27 rfl) rfl rfl ?_
  refine z_getR fl_X3_21 (zat dd_X3_fitsNotes 28 rfl) (fun a3 => ?_)
  refine z_iload_n 4 (zat dd_X3_fitsNotes 29 rfl) rfl rfl ?_
  refine z_iconst (x := 1) (zat dd_X3_fitsNotes 30 rfl) (by decide) ?_
  refine z_iadd (zat dd_X3_fitsNotes 31 rfl) ?_
  refine z_iald (zat dd_X3_fitsNotes 32 rfl) (fun x4 => ?_)
  refine z_callS_I0 (M2 := M_X6_allows) [.int v1, .int x2, .int x4] (fun l D _ _ => m_X6_allows l D v1 x2 x4 h) u_X6_allows ql_X3_25 qi_X6_allows rfl rfl (Nat.le_of_ble_eq_true rfl) (by decide) rfl rfl (zat dd_X3_fitsNotes 33 rfl) (fun x5 h6 => ?_)
  refine z_iload 0 (zat dd_X3_fitsNotes 34 rfl) rfl ?_
  refine z_icmp_eq (tgt := 58) (zat dd_X3_fitsNotes 35 rfl) (by decide) ?_ ?_
  · refine z_iinc (y := v2 + 1) (lv' := [(2, .int (v2 + 1)), (4, .int t0), (0, .ref v0), (1, .int v1), (3, .int v3)]) 3 (zat dd_X3_fitsNotes 38 rfl) rfl rfl (Nat.le_of_ble_eq_true rfl) rfl ?_
    refine z_goto (tgt := 2) (zat dd_X3_fitsNotes 39 rfl) (by decide) ?_
    refine z_sub [2, 3, 0] rfl ?_
    exact hk2 v0 v1 (v2 + 1) h6
  · refine z_iconst (x := 0) (zat dd_X3_fitsNotes 36 rfl) (by decide) ?_
    exact z_zret rfl (zat dd_X3_fitsNotes 37 rfl)
def f_X3_fitsNotes_2 : Nat → Nat → Int32 → Int32 → zH → zR
  | 0, _, _, _, _ => none
  | n + 1, v0, v1, v2, h =>
  zgI h v0 0 9 fun x1 =>
  if x1 ≤ v2 then
  zrZ 1 h
  else
  zlt (v2 * 3) fun x2 =>
  zgR h v0 0 8 fun a3 =>
  zaI h a3 0 (x2 + 2) fun x4 =>
  if x4 = 1 then
  f_X3_fitsNotes_31 (f_X3_fitsNotes_2 n) v0 v1 v2 x2 1 h
  else
  f_X3_fitsNotes_31 (f_X3_fitsNotes_2 n) v0 v1 v2 x2 0 h
set_option maxRecDepth 100000 in
set_option maxHeartbeats 4000000 in
theorem zb_X3_fitsNotes_2 (Y : zY) : ∀ (n : Nat) (v0 : Nat) (v1 : Int32) (v2 : Int32) (h : zH), Z Y M_X3_fitsNotes 0 0 2 [(0, .ref v0), (1, .int v1), (2, .int v2)] [] h (f_X3_fitsNotes_2 n v0 v1 v2 h) := by
  intro n
  induction n with
  | zero =>
    intro v0 v1 v2 h
    rw [f_X3_fitsNotes_2]
    exact z_none
  | succ n ih =>
    intro v0 v1 v2 h
    rw [f_X3_fitsNotes_2]
    refine z_iload_n 2 (zat dd_X3_fitsNotes 2 rfl) rfl rfl ?_
    refine z_aload_n 0 (zat dd_X3_fitsNotes 3 rfl) rfl rfl ?_
    refine z_getI fl_X3_15 (zat dd_X3_fitsNotes 4 rfl) (fun x1 => ?_)
    refine z_icmp_ge (tgt := 64) (zat dd_X3_fitsNotes 5 rfl) (by decide) ?_ ?_
    · refine z_iconst (x := 1) (zat dd_X3_fitsNotes 40 rfl) (by decide) ?_
      exact z_zret rfl (zat dd_X3_fitsNotes 41 rfl)
    · refine z_iload_n 2 (zat dd_X3_fitsNotes 6 rfl) rfl rfl ?_
      refine z_iconst (x := 3) (zat dd_X3_fitsNotes 7 rfl) (by decide) ?_
      refine z_imul (zat dd_X3_fitsNotes 8 rfl) ?_
      refine z_let (fun x2 => ?_)
      refine z_istore_n (lv' := [(3, .int x2), (0, .ref v0), (1, .int v1), (2, .int v2)]) (zat dd_X3_fitsNotes 9 rfl) rfl (Nat.le_of_ble_eq_true rfl) rfl ?_
      refine z_aload_n 1 (zat dd_X3_fitsNotes 10 rfl) rfl rfl ?_
      refine z_getR fl_X3_21 (zat dd_X3_fitsNotes 11 rfl) (fun a3 => ?_)
      refine z_iload_n 0 (zat dd_X3_fitsNotes 12 rfl) rfl rfl ?_
      refine z_iconst (x := 2) (zat dd_X3_fitsNotes 13 rfl) (by decide) ?_
      refine z_iadd (zat dd_X3_fitsNotes 14 rfl) ?_
      refine z_iald (zat dd_X3_fitsNotes 15 rfl) (fun x4 => ?_)
      refine z_iconst (x := 1) (zat dd_X3_fitsNotes 16 rfl) (by decide) ?_
      refine z_icmp_ne (tgt := 30) (zat dd_X3_fitsNotes 17 rfl) (by decide) ?_ ?_
      · refine z_iconst (x := 0) (zat dd_X3_fitsNotes 20 rfl) (by decide) ?_
        refine z_sub [1, 2, 3, 0] rfl ?_
        exact zb_X3_fitsNotes_31 Y (f_X3_fitsNotes_2 n) ih v0 v1 v2 x2 0 h
      · refine z_iconst (x := 1) (zat dd_X3_fitsNotes 18 rfl) (by decide) ?_
        refine z_goto (tgt := 31) (zat dd_X3_fitsNotes 19 rfl) (by decide) ?_
        refine z_sub [1, 2, 3, 0] rfl ?_
        exact zb_X3_fitsNotes_31 Y (f_X3_fitsNotes_2 n) ih v0 v1 v2 x2 1 h
def f_X3_fitsNotes (v0 : Nat) (v1 : Int32) (h : zH) : zR :=
  f_X3_fitsNotes_2 zF v0 v1 0 h
set_option maxRecDepth 100000 in
set_option maxHeartbeats 4000000 in
theorem m_X3_fitsNotes (l : Launch) (D : zD) (v0 : Nat) (v1 : Int32) (h : zH) : zMet l D yX3_fitsNotes M_X3_fitsNotes [.ref v0, .int v1] h (f_X3_fitsNotes v0 v1 h) := by
  refine zMet.of (by decide +kernel) ⟨rfl, rfl⟩ (Nat.le_of_ble_eq_true rfl) (fun Y hl hD => ?_)
  show Z Y M_X3_fitsNotes 0 0 0 [(0, .ref v0), (1, .int v1)] [] h _
  rw [f_X3_fitsNotes]
  refine z_iconst (x := 0) (zat dd_X3_fitsNotes 0 rfl) (by decide) ?_
  refine z_istore_n (lv' := [(2, .int 0), (0, .ref v0), (1, .int v1)]) (zat dd_X3_fitsNotes 1 rfl) rfl (Nat.le_of_ble_eq_true rfl) rfl ?_
  refine z_sub [1, 2, 0] rfl ?_
  exact zb_X3_fitsNotes_2 Y zF v0 v1 0 h
/-! PaperDolls$Guess.childKinds(LPaperDolls$Doll;)I -/
def L_X3_childKinds : List (Nat × Instr × Nat) := [(0, .iconst 0, 1), (1, .istore_n 1, 1), (2, .iconst 0, 1), (3, .istore_n 2, 1), (4, .iload_n 2, 1), (5, .bipush 6, 2), (7, .if_icmp .ge 23, 3), (10, .aload_n 0, 1), (11, .iload_n 2, 1), (12, .invokestatic 9, 3), (15, .ifCond .eq 9, 3), (18, .iload_n 1, 1), (19, .iconst 1, 1), (20, .iload_n 2, 1), (21, .ishl, 1), (22, .ior, 1), (23, .istore_n 1, 1), (24, .iinc 2 1, 3), (27, .goto (-23), 3), (30, .iload_n 1, 1), (31, .ireturn, 1)]
theorem dd_X3_childKinds : ∀ q ∈ L_X3_childKinds, decode cX3_childKinds q.1 = .ok q.2 := by decide +kernel
abbrev M_X3_childKinds : zM := (cX3_childKinds, RX3, "childKinds", 3, some .int, 2, 0, 0)
theorem u_X3_childKinds : zCal yX3_childKinds (M_X3_childKinds) 1 := ⟨(zmem 676 (by decide +kernel) rfl : Cond.code yX3_childKinds cX3_childKinds 3 (some .int) ∈ zTb), zmem 73 (by decide +kernel) rfl, by decide +kernel, Nat.le_of_ble_eq_true rfl⟩
theorem qi_X3_childKinds : Cond.static yX3_childKinds ∈ zTb := zmem 675 (by decide +kernel) rfl
def f_X3_childKinds_24 (k4 : Nat → Int32 → Int32 → zH → zR) (v0 : Nat) (v1 : Int32) (v2 : Int32) (h : zH) : zR :=
  k4 v0 v1 (v2 + 1) h
set_option maxRecDepth 100000 in
set_option maxHeartbeats 4000000 in
theorem zb_X3_childKinds_24 (Y : zY) (k4 : Nat → Int32 → Int32 → zH → zR) (hk4 : ∀ (v0 : Nat) (v1 : Int32) (v2 : Int32) (h : zH), Z Y M_X3_childKinds 0 0 4 [(0, .ref v0), (1, .int v1), (2, .int v2)] [] h (k4 v0 v1 v2 h)) (v0 : Nat) (v1 : Int32) (v2 : Int32) (h : zH) : Z Y M_X3_childKinds 0 0 24 [(0, .ref v0), (1, .int v1), (2, .int v2)] [] h (f_X3_childKinds_24 k4 v0 v1 v2 h) := by
  rw [f_X3_childKinds_24]
  refine z_iinc (y := v2 + 1) (lv' := [(2, .int (v2 + 1)), (0, .ref v0), (1, .int v1)]) 2 (zat dd_X3_childKinds 17 rfl) rfl rfl (Nat.le_of_ble_eq_true rfl) rfl ?_
  refine z_goto (tgt := 4) (zat dd_X3_childKinds 18 rfl) (by decide) ?_
  refine z_sub [1, 2, 0] rfl ?_
  exact hk4 v0 v1 (v2 + 1) h
def f_X3_childKinds_4 : Nat → Nat → Int32 → Int32 → zH → zR
  | 0, _, _, _, _ => none
  | n + 1, v0, v1, v2, h =>
  if 6 ≤ v2 then
  zrI v1 h
  else
  zcI (f_X3_fitsNotes v0 v2 h) fun x1 h2 =>
  if x1 = 0 then
  f_X3_childKinds_24 (f_X3_childKinds_4 n) v0 v1 v2 h2
  else
  zlt (v1 ||| (1 <<< (v2 &&& 31))) fun x3 =>
  f_X3_childKinds_24 (f_X3_childKinds_4 n) v0 x3 v2 h2
set_option maxRecDepth 100000 in
set_option maxHeartbeats 4000000 in
theorem zb_X3_childKinds_4 (Y : zY) : ∀ (n : Nat) (v0 : Nat) (v1 : Int32) (v2 : Int32) (h : zH), Z Y M_X3_childKinds 0 0 4 [(0, .ref v0), (1, .int v1), (2, .int v2)] [] h (f_X3_childKinds_4 n v0 v1 v2 h) := by
  intro n
  induction n with
  | zero =>
    intro v0 v1 v2 h
    rw [f_X3_childKinds_4]
    exact z_none
  | succ n ih =>
    intro v0 v1 v2 h
    rw [f_X3_childKinds_4]
    refine z_iload_n 2 (zat dd_X3_childKinds 4 rfl) rfl rfl ?_
    refine z_bipush (x := 6) (zat dd_X3_childKinds 5 rfl) (by decide) ?_
    refine z_icmp_ge (tgt := 30) (zat dd_X3_childKinds 6 rfl) (by decide) ?_ ?_
    · refine z_iload_n 1 (zat dd_X3_childKinds 19 rfl) rfl rfl ?_
      exact z_iret rfl (zat dd_X3_childKinds 20 rfl)
    · refine z_aload_n 0 (zat dd_X3_childKinds 7 rfl) rfl rfl ?_
      refine z_iload_n 2 (zat dd_X3_childKinds 8 rfl) rfl rfl ?_
      refine z_callS_I0 (M2 := M_X3_fitsNotes) [.ref v0, .int v2] (fun l D _ _ => m_X3_fitsNotes l D v0 v2 h) u_X3_fitsNotes ql_X3_9 qi_X3_fitsNotes rfl rfl (Nat.le_of_ble_eq_true rfl) (by decide) rfl rfl (zat dd_X3_childKinds 9 rfl) (fun x1 h2 => ?_)
      refine z_if_eq (tgt := 24) (zat dd_X3_childKinds 10 rfl) (by decide) ?_ ?_
      · exact zb_X3_childKinds_24 Y (f_X3_childKinds_4 n) ih v0 v1 v2 h2
      · refine z_iload_n 1 (zat dd_X3_childKinds 11 rfl) rfl rfl ?_
        refine z_iconst (x := 1) (zat dd_X3_childKinds 12 rfl) (by decide) ?_
        refine z_iload_n 2 (zat dd_X3_childKinds 13 rfl) rfl rfl ?_
        refine z_ishl (zat dd_X3_childKinds 14 rfl) ?_
        refine z_ior (zat dd_X3_childKinds 15 rfl) ?_
        refine z_let (fun x3 => ?_)
        refine z_istore_n (lv' := [(1, .int x3), (0, .ref v0), (2, .int v2)]) (zat dd_X3_childKinds 16 rfl) rfl (Nat.le_of_ble_eq_true rfl) rfl ?_
        refine z_sub [1, 0, 2] rfl ?_
        exact zb_X3_childKinds_24 Y (f_X3_childKinds_4 n) ih v0 x3 v2 h2
def f_X3_childKinds (v0 : Nat) (h : zH) : zR :=
  f_X3_childKinds_4 zF v0 0 0 h
set_option maxRecDepth 100000 in
set_option maxHeartbeats 4000000 in
theorem m_X3_childKinds (l : Launch) (D : zD) (v0 : Nat) (h : zH) : zMet l D yX3_childKinds M_X3_childKinds [.ref v0] h (f_X3_childKinds v0 h) := by
  refine zMet.of (by decide +kernel) ⟨rfl, rfl⟩ (Nat.le_of_ble_eq_true rfl) (fun Y hl hD => ?_)
  show Z Y M_X3_childKinds 0 0 0 [(0, .ref v0)] [] h _
  rw [f_X3_childKinds]
  refine z_iconst (x := 0) (zat dd_X3_childKinds 0 rfl) (by decide) ?_
  refine z_istore_n (lv' := [(1, .int 0), (0, .ref v0)]) (zat dd_X3_childKinds 1 rfl) rfl (Nat.le_of_ble_eq_true rfl) rfl ?_
  refine z_iconst (x := 0) (zat dd_X3_childKinds 2 rfl) (by decide) ?_
  refine z_istore_n (lv' := [(2, .int 0), (1, .int 0), (0, .ref v0)]) (zat dd_X3_childKinds 3 rfl) rfl (Nat.le_of_ble_eq_true rfl) rfl ?_
  refine z_sub [2, 1, 0] rfl ?_
  exact zb_X3_childKinds_4 Y zF v0 0 0 h
/-! PaperDolls$Guess.greaterPart(III)I -/
def L_X3_greaterPart : List (Nat × Instr × Nat) := [(0, .iconst 0, 1), (1, .istore_n 3, 1), (2, .iconst 0, 1), (3, .istore 4, 2), (5, .iload 4, 2), (7, .bipush 6, 2), (9, .if_icmp .ge 32, 3), (12, .iload_n 0, 1), (13, .iload 4, 2), (15, .ishr, 1), (16, .iconst 1, 1), (17, .iand, 1), (18, .iconst 1, 1), (19, .if_icmp .ne 16, 3), (22, .iload 4, 2), (24, .iload_n 1, 1), (25, .iload_n 2, 1), (26, .invokestatic 25, 3), (29, .ifCond .eq 6, 3), (32, .iinc 3 1, 3), (35, .iinc 4 1, 3), (38, .goto (-33), 3), (41, .iload_n 3, 1), (42, .iload_n 0, 1), (43, .invokestatic 35, 3), (46, .iload_n 3, 1), (47, .isub, 1), (48, .invokestatic 41, 3), (51, .ireturn, 1)]
theorem dd_X3_greaterPart : ∀ q ∈ L_X3_greaterPart, decode cX3_greaterPart q.1 = .ok q.2 := by decide +kernel
abbrev M_X3_greaterPart : zM := (cX3_greaterPart, RX3, "greaterPart", 5, some .int, 1, 0, 0)
theorem u_X3_greaterPart : zCal yX3_greaterPart (M_X3_greaterPart) 3 := ⟨(zmem 690 (by decide +kernel) rfl : Cond.code yX3_greaterPart cX3_greaterPart 5 (some .int) ∈ zTb), zmem 73 (by decide +kernel) rfl, by decide +kernel, Nat.le_of_ble_eq_true rfl⟩
theorem qi_X3_greaterPart : Cond.static yX3_greaterPart ∈ zTb := zmem 689 (by decide +kernel) rfl
def f_X3_greaterPart_35 (k5 : Int32 → Int32 → Int32 → Int32 → Int32 → zH → zR) (v0 : Int32) (v1 : Int32) (v2 : Int32) (v3 : Int32) (v4 : Int32) (h : zH) : zR :=
  k5 v0 v1 v2 v3 (v4 + 1) h
set_option maxRecDepth 100000 in
set_option maxHeartbeats 4000000 in
theorem zb_X3_greaterPart_35 (Y : zY) (k5 : Int32 → Int32 → Int32 → Int32 → Int32 → zH → zR) (hk5 : ∀ (v0 : Int32) (v1 : Int32) (v2 : Int32) (v3 : Int32) (v4 : Int32) (h : zH), Z Y M_X3_greaterPart 0 0 5 [(0, .int v0), (1, .int v1), (2, .int v2), (3, .int v3), (4, .int v4)] [] h (k5 v0 v1 v2 v3 v4 h)) (v0 : Int32) (v1 : Int32) (v2 : Int32) (v3 : Int32) (v4 : Int32) (h : zH) : Z Y M_X3_greaterPart 0 0 35 [(0, .int v0), (1, .int v1), (2, .int v2), (3, .int v3), (4, .int v4)] [] h (f_X3_greaterPart_35 k5 v0 v1 v2 v3 v4 h) := by
  rw [f_X3_greaterPart_35]
  refine z_iinc (y := v4 + 1) (lv' := [(4, .int (v4 + 1)), (0, .int v0), (1, .int v1), (2, .int v2), (3, .int v3)]) 4 (zat dd_X3_greaterPart 20 rfl) rfl rfl (Nat.le_of_ble_eq_true rfl) rfl ?_
  refine z_goto (tgt := 5) (zat dd_X3_greaterPart 21 rfl) (by decide) ?_
  refine z_sub [1, 2, 3, 4, 0] rfl ?_
  exact hk5 v0 v1 v2 v3 (v4 + 1) h
def f_X3_greaterPart_5 : Nat → Int32 → Int32 → Int32 → Int32 → Int32 → zH → zR
  | 0, _, _, _, _, _, _ => none
  | n + 1, v0, v1, v2, v3, v4, h =>
  if 6 ≤ v4 then
  zcI (f_J6_bitCount_0f7a4 v0 h) fun x1 h2 =>
  zrI (if v3 < (x1 - v3) then (x1 - v3) else v3) h2
  else
  if ((v0 >>> (v4 &&& 31)) &&& 1) = 1 then
  zcI (f_X6_allows v4 v1 v2 h) fun x3 h4 =>
  if x3 = 0 then
  f_X3_greaterPart_35 (f_X3_greaterPart_5 n) v0 v1 v2 v3 v4 h4
  else
  f_X3_greaterPart_35 (f_X3_greaterPart_5 n) v0 v1 v2 (v3 + 1) v4 h4
  else
  f_X3_greaterPart_35 (f_X3_greaterPart_5 n) v0 v1 v2 v3 v4 h
set_option maxRecDepth 100000 in
set_option maxHeartbeats 4000000 in
theorem zb_X3_greaterPart_5 (Y : zY) : ∀ (n : Nat) (v0 : Int32) (v1 : Int32) (v2 : Int32) (v3 : Int32) (v4 : Int32) (h : zH), Z Y M_X3_greaterPart 0 0 5 [(0, .int v0), (1, .int v1), (2, .int v2), (3, .int v3), (4, .int v4)] [] h (f_X3_greaterPart_5 n v0 v1 v2 v3 v4 h) := by
  intro n
  induction n with
  | zero =>
    intro v0 v1 v2 v3 v4 h
    rw [f_X3_greaterPart_5]
    exact z_none
  | succ n ih =>
    intro v0 v1 v2 v3 v4 h
    rw [f_X3_greaterPart_5]
    refine z_iload 4 (zat dd_X3_greaterPart 4 rfl) rfl ?_
    refine z_bipush (x := 6) (zat dd_X3_greaterPart 5 rfl) (by decide) ?_
    refine z_icmp_ge (tgt := 41) (zat dd_X3_greaterPart 6 rfl) (by decide) ?_ ?_
    · refine z_iload_n 3 (zat dd_X3_greaterPart 22 rfl) rfl rfl ?_
      refine z_iload_n 0 (zat dd_X3_greaterPart 23 rfl) rfl rfl ?_
      refine z_callS_I0 (M2 := M_J6_bitCount_0f7a4) [.int v0] (fun l D _ _ => m_J6_bitCount_0f7a4 l D v0 h) u_J6_bitCount_0f7a4 ql_X3_35 qi_J6_bitCount_0f7a4 rfl rfl (Nat.le_of_ble_eq_true rfl) (by decide) rfl rfl (zat dd_X3_greaterPart 24 rfl) (fun x1 h2 => ?_)
      refine z_iload_n 3 (zat dd_X3_greaterPart 25 rfl) rfl rfl ?_
      refine z_isub (zat dd_X3_greaterPart 26 rfl) ?_
      refine z_mmax ql_X3_41 qm_max1 qm_2 qm_max3 (Nat.le_of_ble_eq_true rfl) (zat dd_X3_greaterPart 27 rfl) ?_
      exact z_iret rfl (zat dd_X3_greaterPart 28 rfl)
    · refine z_iload_n 0 (zat dd_X3_greaterPart 7 rfl) rfl rfl ?_
      refine z_iload 4 (zat dd_X3_greaterPart 8 rfl) rfl ?_
      refine z_ishr (zat dd_X3_greaterPart 9 rfl) ?_
      refine z_iconst (x := 1) (zat dd_X3_greaterPart 10 rfl) (by decide) ?_
      refine z_iand (zat dd_X3_greaterPart 11 rfl) ?_
      refine z_iconst (x := 1) (zat dd_X3_greaterPart 12 rfl) (by decide) ?_
      refine z_icmp_ne (tgt := 35) (zat dd_X3_greaterPart 13 rfl) (by decide) ?_ ?_
      · exact zb_X3_greaterPart_35 Y (f_X3_greaterPart_5 n) ih v0 v1 v2 v3 v4 h
      · refine z_iload 4 (zat dd_X3_greaterPart 14 rfl) rfl ?_
        refine z_iload_n 1 (zat dd_X3_greaterPart 15 rfl) rfl rfl ?_
        refine z_iload_n 2 (zat dd_X3_greaterPart 16 rfl) rfl rfl ?_
        refine z_callS_I0 (M2 := M_X6_allows) [.int v4, .int v1, .int v2] (fun l D _ _ => m_X6_allows l D v4 v1 v2 h) u_X6_allows ql_X3_25 qi_X6_allows rfl rfl (Nat.le_of_ble_eq_true rfl) (by decide) rfl rfl (zat dd_X3_greaterPart 17 rfl) (fun x3 h4 => ?_)
        refine z_if_eq (tgt := 35) (zat dd_X3_greaterPart 18 rfl) (by decide) ?_ ?_
        · exact zb_X3_greaterPart_35 Y (f_X3_greaterPart_5 n) ih v0 v1 v2 v3 v4 h4
        · refine z_iinc (y := v3 + 1) (lv' := [(3, .int (v3 + 1)), (0, .int v0), (1, .int v1), (2, .int v2), (4, .int v4)]) 3 (zat dd_X3_greaterPart 19 rfl) rfl rfl (Nat.le_of_ble_eq_true rfl) rfl ?_
          refine z_sub [1, 2, 3, 0, 4] rfl ?_
          exact zb_X3_greaterPart_35 Y (f_X3_greaterPart_5 n) ih v0 v1 v2 (v3 + 1) v4 h4
def f_X3_greaterPart (v0 : Int32) (v1 : Int32) (v2 : Int32) (h : zH) : zR :=
  f_X3_greaterPart_5 zF v0 v1 v2 0 0 h
set_option maxRecDepth 100000 in
set_option maxHeartbeats 4000000 in
theorem m_X3_greaterPart (l : Launch) (D : zD) (v0 : Int32) (v1 : Int32) (v2 : Int32) (h : zH) : zMet l D yX3_greaterPart M_X3_greaterPart [.int v0, .int v1, .int v2] h (f_X3_greaterPart v0 v1 v2 h) := by
  refine zMet.of (by decide +kernel) ⟨rfl, rfl⟩ (Nat.le_of_ble_eq_true rfl) (fun Y hl hD => ?_)
  show Z Y M_X3_greaterPart 0 0 0 [(0, .int v0), (1, .int v1), (2, .int v2)] [] h _
  rw [f_X3_greaterPart]
  refine z_iconst (x := 0) (zat dd_X3_greaterPart 0 rfl) (by decide) ?_
  refine z_istore_n (lv' := [(3, .int 0), (0, .int v0), (1, .int v1), (2, .int v2)]) (zat dd_X3_greaterPart 1 rfl) rfl (Nat.le_of_ble_eq_true rfl) rfl ?_
  refine z_iconst (x := 0) (zat dd_X3_greaterPart 2 rfl) (by decide) ?_
  refine z_istore (lv' := [(4, .int 0), (3, .int 0), (0, .int v0), (1, .int v1), (2, .int v2)]) (zat dd_X3_greaterPart 3 rfl) (Nat.le_of_ble_eq_true rfl) rfl ?_
  refine z_sub [2, 3, 4, 1, 0] rfl ?_
  exact zb_X3_greaterPart_5 Y zF v0 v1 v2 0 0 h
/-! PaperDolls$Guess.bestPair(I)I -/
def L_X3_bestPair : List (Nat × Instr × Nat) := [(0, .bipush (-101), 2), (2, .istore_n 1, 1), (3, .bipush 7, 2), (5, .istore_n 2, 1), (6, .iload_n 0, 1), (7, .ifCond .ne 6, 3), (10, .bipush (-101), 2), (12, .ireturn, 1), (13, .iconst 0, 1), (14, .istore_n 3, 1), (15, .iload_n 3, 1), (16, .iconst 4, 1), (17, .if_icmp .ge 50, 3), (20, .iload_n 3, 1), (21, .istore 4, 2), (23, .iload 4, 2), (25, .iconst 4, 1), (26, .if_icmp .ge 35, 3), (29, .iload_n 0, 1), (30, .iload_n 3, 1), (31, .iload 4, 2), (33, .invokestatic 31, 3), (36, .istore 5, 2), (38, .iload 5, 2), (40, .iload_n 2, 1), (41, .if_icmp .ge 14, 3), (44, .iload 5, 2), (46, .istore_n 2, 1), (47, .bipush 10, 2), (49, .iload_n 3, 1), (50, .imul, 1), (51, .iload 4, 2), (53, .iadd, 1), (54, .istore_n 1, 1), (55, .iinc 4 1, 3), (58, .goto (-35), 3), (61, .iinc 3 1, 3), (64, .goto (-49), 3), (67, .iload_n 1, 1), (68, .ireturn, 1)]
theorem dd_X3_bestPair : ∀ q ∈ L_X3_bestPair, decode cX3_bestPair q.1 = .ok q.2 := by decide +kernel
abbrev M_X3_bestPair : zM := (cX3_bestPair, RX3, "bestPair", 6, some .int, 2, 0, 0)
theorem u_X3_bestPair : zCal yX3_bestPair (M_X3_bestPair) 1 := ⟨(zmem 687 (by decide +kernel) rfl : Cond.code yX3_bestPair cX3_bestPair 6 (some .int) ∈ zTb), zmem 73 (by decide +kernel) rfl, by decide +kernel, Nat.le_of_ble_eq_true rfl⟩
theorem qi_X3_bestPair : Cond.static yX3_bestPair ∈ zTb := zmem 686 (by decide +kernel) rfl
def f_X3_bestPair_55 (k23 : Int32 → Int32 → Int32 → Int32 → Int32 → zH → zR) (v0 : Int32) (v1 : Int32) (v2 : Int32) (v3 : Int32) (v4 : Int32) (h : zH) : zR :=
  k23 v0 v1 v2 v3 (v4 + 1) h
set_option maxRecDepth 100000 in
set_option maxHeartbeats 4000000 in
theorem zb_X3_bestPair_55 (Y : zY) (k23 : Int32 → Int32 → Int32 → Int32 → Int32 → zH → zR) (hk23 : ∀ (v0 : Int32) (v1 : Int32) (v2 : Int32) (v3 : Int32) (v4 : Int32) (h : zH), Z Y M_X3_bestPair 0 0 23 [(0, .int v0), (1, .int v1), (2, .int v2), (3, .int v3), (4, .int v4)] [] h (k23 v0 v1 v2 v3 v4 h)) (v0 : Int32) (v1 : Int32) (v2 : Int32) (v3 : Int32) (v4 : Int32) (h : zH) : Z Y M_X3_bestPair 0 0 55 [(0, .int v0), (1, .int v1), (2, .int v2), (3, .int v3), (4, .int v4)] [] h (f_X3_bestPair_55 k23 v0 v1 v2 v3 v4 h) := by
  rw [f_X3_bestPair_55]
  refine z_iinc (y := v4 + 1) (lv' := [(4, .int (v4 + 1)), (0, .int v0), (1, .int v1), (2, .int v2), (3, .int v3)]) 4 (zat dd_X3_bestPair 34 rfl) rfl rfl (Nat.le_of_ble_eq_true rfl) rfl ?_
  refine z_goto (tgt := 23) (zat dd_X3_bestPair 35 rfl) (by decide) ?_
  refine z_sub [1, 2, 3, 4, 0] rfl ?_
  exact hk23 v0 v1 v2 v3 (v4 + 1) h
def f_X3_bestPair_23 (k15 : Int32 → Int32 → Int32 → Int32 → zH → zR) : Nat → Int32 → Int32 → Int32 → Int32 → Int32 → zH → zR
  | 0, _, _, _, _, _, _ => none
  | n + 1, v0, v1, v2, v3, v4, h =>
  if 4 ≤ v4 then
  k15 v0 v1 v2 (v3 + 1) h
  else
  zcI (f_X3_greaterPart v0 v3 v4 h) fun x1 h2 =>
  if v2 ≤ x1 then
  f_X3_bestPair_55 (f_X3_bestPair_23 k15 n) v0 v1 v2 v3 v4 h2
  else
  zlt ((10 * v3) + v4) fun x3 =>
  f_X3_bestPair_55 (f_X3_bestPair_23 k15 n) v0 x3 x1 v3 v4 h2
set_option maxRecDepth 100000 in
set_option maxHeartbeats 4000000 in
theorem zb_X3_bestPair_23 (Y : zY) (k15 : Int32 → Int32 → Int32 → Int32 → zH → zR) (hk15 : ∀ (v0 : Int32) (v1 : Int32) (v2 : Int32) (v3 : Int32) (h : zH), Z Y M_X3_bestPair 0 0 15 [(0, .int v0), (1, .int v1), (2, .int v2), (3, .int v3)] [] h (k15 v0 v1 v2 v3 h)) : ∀ (n : Nat) (v0 : Int32) (v1 : Int32) (v2 : Int32) (v3 : Int32) (v4 : Int32) (h : zH), Z Y M_X3_bestPair 0 0 23 [(0, .int v0), (1, .int v1), (2, .int v2), (3, .int v3), (4, .int v4)] [] h (f_X3_bestPair_23 k15 n v0 v1 v2 v3 v4 h) := by
  intro n
  induction n with
  | zero =>
    intro v0 v1 v2 v3 v4 h
    rw [f_X3_bestPair_23]
    exact z_none
  | succ n ih =>
    intro v0 v1 v2 v3 v4 h
    rw [f_X3_bestPair_23]
    refine z_iload 4 (zat dd_X3_bestPair 15 rfl) rfl ?_
    refine z_iconst (x := 4) (zat dd_X3_bestPair 16 rfl) (by decide) ?_
    refine z_icmp_ge (tgt := 61) (zat dd_X3_bestPair 17 rfl) (by decide) ?_ ?_
    · refine z_iinc (y := v3 + 1) (lv' := [(3, .int (v3 + 1)), (0, .int v0), (1, .int v1), (2, .int v2), (4, .int v4)]) 3 (zat dd_X3_bestPair 36 rfl) rfl rfl (Nat.le_of_ble_eq_true rfl) rfl ?_
      refine z_goto (tgt := 15) (zat dd_X3_bestPair 37 rfl) (by decide) ?_
      refine z_sub [1, 2, 3, 0] rfl ?_
      exact hk15 v0 v1 v2 (v3 + 1) h
    · refine z_iload_n 0 (zat dd_X3_bestPair 18 rfl) rfl rfl ?_
      refine z_iload_n 3 (zat dd_X3_bestPair 19 rfl) rfl rfl ?_
      refine z_iload 4 (zat dd_X3_bestPair 20 rfl) rfl ?_
      refine z_callS_I0 (M2 := M_X3_greaterPart) [.int v0, .int v3, .int v4] (fun l D _ _ => m_X3_greaterPart l D v0 v3 v4 h) u_X3_greaterPart ql_X3_31 qi_X3_greaterPart rfl rfl (Nat.le_of_ble_eq_true rfl) (by decide) rfl rfl (zat dd_X3_bestPair 21 rfl) (fun x1 h2 => ?_)
      refine z_istore (lv' := [(5, .int x1), (0, .int v0), (1, .int v1), (2, .int v2), (3, .int v3), (4, .int v4)]) (zat dd_X3_bestPair 22 rfl) (Nat.le_of_ble_eq_true rfl) rfl ?_
      refine z_iload 0 (zat dd_X3_bestPair 23 rfl) rfl ?_
      refine z_iload_n 3 (zat dd_X3_bestPair 24 rfl) rfl rfl ?_
      refine z_icmp_ge (tgt := 55) (zat dd_X3_bestPair 25 rfl) (by decide) ?_ ?_
      · refine z_sub [1, 2, 3, 4, 5] rfl ?_
        exact zb_X3_bestPair_55 Y (f_X3_bestPair_23 k15 n) ih v0 v1 v2 v3 v4 h2
      · refine z_iload 0 (zat dd_X3_bestPair 26 rfl) rfl ?_
        refine z_istore_n (lv' := [(2, .int x1), (5, .int x1), (0, .int v0), (1, .int v1), (3, .int v3), (4, .int v4)]) (zat dd_X3_bestPair 27 rfl) rfl (Nat.le_of_ble_eq_true rfl) rfl ?_
        refine z_bipush (x := 10) (zat dd_X3_bestPair 28 rfl) (by decide) ?_
        refine z_iload_n 4 (zat dd_X3_bestPair 29 rfl) rfl rfl ?_
        refine z_imul (zat dd_X3_bestPair 30 rfl) ?_
        refine z_iload 5 (zat dd_X3_bestPair 31 rfl) rfl ?_
        refine z_iadd (zat dd_X3_bestPair 32 rfl) ?_
        refine z_let (fun x3 => ?_)
        refine z_istore_n (lv' := [(1, .int x3), (2, .int x1), (5, .int x1), (0, .int v0), (3, .int v3), (4, .int v4)]) (zat dd_X3_bestPair 33 rfl) rfl (Nat.le_of_ble_eq_true rfl) rfl ?_
        refine z_sub [3, 0, 1, 4, 5] rfl ?_
        exact zb_X3_bestPair_55 Y (f_X3_bestPair_23 k15 n) ih v0 x3 x1 v3 v4 h2
def f_X3_bestPair_15 : Nat → Int32 → Int32 → Int32 → Int32 → zH → zR
  | 0, _, _, _, _, _ => none
  | n + 1, v0, v1, v2, v3, h =>
  if 4 ≤ v3 then
  zrI v1 h
  else
  f_X3_bestPair_23 (f_X3_bestPair_15 n) zF v0 v1 v2 v3 v3 h
set_option maxRecDepth 100000 in
set_option maxHeartbeats 4000000 in
theorem zb_X3_bestPair_15 (Y : zY) : ∀ (n : Nat) (v0 : Int32) (v1 : Int32) (v2 : Int32) (v3 : Int32) (h : zH), Z Y M_X3_bestPair 0 0 15 [(0, .int v0), (1, .int v1), (2, .int v2), (3, .int v3)] [] h (f_X3_bestPair_15 n v0 v1 v2 v3 h) := by
  intro n
  induction n with
  | zero =>
    intro v0 v1 v2 v3 h
    rw [f_X3_bestPair_15]
    exact z_none
  | succ n ih =>
    intro v0 v1 v2 v3 h
    rw [f_X3_bestPair_15]
    refine z_iload_n 3 (zat dd_X3_bestPair 10 rfl) rfl rfl ?_
    refine z_iconst (x := 4) (zat dd_X3_bestPair 11 rfl) (by decide) ?_
    refine z_icmp_ge (tgt := 67) (zat dd_X3_bestPair 12 rfl) (by decide) ?_ ?_
    · refine z_iload_n 1 (zat dd_X3_bestPair 38 rfl) rfl rfl ?_
      exact z_iret rfl (zat dd_X3_bestPair 39 rfl)
    · refine z_iload_n 3 (zat dd_X3_bestPair 13 rfl) rfl rfl ?_
      refine z_istore (lv' := [(4, .int v3), (0, .int v0), (1, .int v1), (2, .int v2), (3, .int v3)]) (zat dd_X3_bestPair 14 rfl) (Nat.le_of_ble_eq_true rfl) rfl ?_
      refine z_sub [1, 2, 3, 4, 0] rfl ?_
      exact zb_X3_bestPair_23 Y (f_X3_bestPair_15 n) ih zF v0 v1 v2 v3 v3 h
def f_X3_bestPair (v0 : Int32) (h : zH) : zR :=
  if v0 = 0 then
  zrI (-101) h
  else
  f_X3_bestPair_15 zF v0 (-101) 7 0 h
set_option maxRecDepth 100000 in
set_option maxHeartbeats 4000000 in
theorem m_X3_bestPair (l : Launch) (D : zD) (v0 : Int32) (h : zH) : zMet l D yX3_bestPair M_X3_bestPair [.int v0] h (f_X3_bestPair v0 h) := by
  refine zMet.of (by decide +kernel) ⟨rfl, rfl⟩ (Nat.le_of_ble_eq_true rfl) (fun Y hl hD => ?_)
  show Z Y M_X3_bestPair 0 0 0 [(0, .int v0)] [] h _
  rw [f_X3_bestPair]
  refine z_bipush (x := (-101)) (zat dd_X3_bestPair 0 rfl) (by decide) ?_
  refine z_istore_n (lv' := [(1, .int (-101)), (0, .int v0)]) (zat dd_X3_bestPair 1 rfl) rfl (Nat.le_of_ble_eq_true rfl) rfl ?_
  refine z_bipush (x := 7) (zat dd_X3_bestPair 2 rfl) (by decide) ?_
  refine z_istore_n (lv' := [(2, .int 7), (1, .int (-101)), (0, .int v0)]) (zat dd_X3_bestPair 3 rfl) rfl (Nat.le_of_ble_eq_true rfl) rfl ?_
  refine z_iload_n 2 (zat dd_X3_bestPair 4 rfl) rfl rfl ?_
  refine z_if_ne (tgt := 13) (zat dd_X3_bestPair 5 rfl) (by decide) ?_ ?_
  · refine z_iconst (x := 0) (zat dd_X3_bestPair 8 rfl) (by decide) ?_
    refine z_istore_n (lv' := [(3, .int 0), (2, .int 7), (1, .int (-101)), (0, .int v0)]) (zat dd_X3_bestPair 9 rfl) rfl (Nat.le_of_ble_eq_true rfl) rfl ?_
    refine z_sub [3, 2, 1, 0] rfl ?_
    exact zb_X3_bestPair_15 Y zF v0 (-101) 7 0 h
  · refine z_bipush (x := (-101)) (zat dd_X3_bestPair 6 rfl) (by decide) ?_
    exact z_iret rfl (zat dd_X3_bestPair 7 rfl)
/-! PaperDolls$Guess.fitsMarks(LPaperDolls$Doll;II)Z -/
def L_X3_fitsMarks : List (Nat × Instr × Nat) := [(0, .iconst 0, 1), (1, .istore_n 3, 1), (2, .iload_n 3, 1), (3, .aload_n 0, 1), (4, .getfield 51, 3), (7, .if_icmp .ge 61, 3), (10, .iload_n 3, 1), (11, .iconst 4, 1), (12, .imul, 1), (13, .istore 4, 2), (15, .aload_n 0, 1), (16, .getfield 54, 3), (19, .iload 4, 2), (21, .iaload, 1), (22, .iload_n 1, 1), (23, .if_icmp .ne 39, 3), (26, .iload_n 2, 1), (27, .aload_n 0, 1), (28, .getfield 54, 3), (31, .iload 4, 2), (33, .iconst 1, 1), (34, .iadd, 1), (35, .iaload, 1), (36, .aload_n 0, 1), (37, .getfield 54, 3), (40, .iload 4, 2), (42, .iconst 2, 1), (43, .iadd, 1), (44, .iaload, 1), (45, .invokestatic 57, 3), (48, .aload_n 0, 1), (49, .getfield 54, 3), (52, .iload 4, 2), (54, .iconst 3, 1), (55, .iadd, 1), (56, .iaload, 1), (57, .if_icmp .eq 5, 3), (60, .iconst 0, 1), (61, .ireturn, 1), (62, .iinc 3 1, 3), (65, .goto (-63), 3), (68, .iconst 1, 1), (69, .ireturn, 1)]
theorem dd_X3_fitsMarks : ∀ q ∈ L_X3_fitsMarks, decode cX3_fitsMarks q.1 = .ok q.2 := by decide +kernel
abbrev M_X3_fitsMarks : zM := (cX3_fitsMarks, RX3, "fitsMarks", 5, some .boolean, 1, 0, 0)
theorem u_X3_fitsMarks : zCal yX3_fitsMarks (M_X3_fitsMarks) 3 := ⟨(zmem 702 (by decide +kernel) rfl : Cond.code yX3_fitsMarks cX3_fitsMarks 5 (some .boolean) ∈ zTb), zmem 73 (by decide +kernel) rfl, by decide +kernel, Nat.le_of_ble_eq_true rfl⟩
theorem qi_X3_fitsMarks : Cond.static yX3_fitsMarks ∈ zTb := zmem 701 (by decide +kernel) rfl
def f_X3_fitsMarks_62 (k2 : Nat → Int32 → Int32 → Int32 → zH → zR) (v0 : Nat) (v1 : Int32) (v2 : Int32) (v3 : Int32) (h : zH) : zR :=
  k2 v0 v1 v2 (v3 + 1) h
set_option maxRecDepth 100000 in
set_option maxHeartbeats 4000000 in
theorem zb_X3_fitsMarks_62 (Y : zY) (k2 : Nat → Int32 → Int32 → Int32 → zH → zR) (hk2 : ∀ (v0 : Nat) (v1 : Int32) (v2 : Int32) (v3 : Int32) (h : zH), Z Y M_X3_fitsMarks 0 0 2 [(0, .ref v0), (1, .int v1), (2, .int v2), (3, .int v3)] [] h (k2 v0 v1 v2 v3 h)) (v0 : Nat) (v1 : Int32) (v2 : Int32) (v3 : Int32) (h : zH) : Z Y M_X3_fitsMarks 0 0 62 [(0, .ref v0), (1, .int v1), (2, .int v2), (3, .int v3)] [] h (f_X3_fitsMarks_62 k2 v0 v1 v2 v3 h) := by
  rw [f_X3_fitsMarks_62]
  refine z_iinc (y := v3 + 1) (lv' := [(3, .int (v3 + 1)), (0, .ref v0), (1, .int v1), (2, .int v2)]) 3 (zat dd_X3_fitsMarks 39 rfl) rfl rfl (Nat.le_of_ble_eq_true rfl) rfl ?_
  refine z_goto (tgt := 2) (zat dd_X3_fitsMarks 40 rfl) (by decide) ?_
  refine z_sub [1, 2, 3, 0] rfl ?_
  exact hk2 v0 v1 v2 (v3 + 1) h
def f_X3_fitsMarks_2 : Nat → Nat → Int32 → Int32 → Int32 → zH → zR
  | 0, _, _, _, _, _ => none
  | n + 1, v0, v1, v2, v3, h =>
  zgI h v0 0 11 fun x1 =>
  if x1 ≤ v3 then
  zrZ 1 h
  else
  zlt (v3 * 4) fun x2 =>
  zgR h v0 0 10 fun a3 =>
  zaI h a3 0 x2 fun x4 =>
  if x4 = v1 then
  zgR h v0 0 10 fun a5 =>
  zaI h a5 0 (x2 + 1) fun x6 =>
  zgR h v0 0 10 fun a7 =>
  zaI h a7 0 (x2 + 2) fun x8 =>
  zcI (f_X0_holds v2 x6 x8 h) fun x9 h10 =>
  zgR h10 v0 0 10 fun a11 =>
  zaI h10 a11 0 (x2 + 3) fun x12 =>
  if x9 = x12 then
  f_X3_fitsMarks_62 (f_X3_fitsMarks_2 n) v0 v1 v2 v3 h10
  else
  zrZ 0 h10
  else
  f_X3_fitsMarks_62 (f_X3_fitsMarks_2 n) v0 v1 v2 v3 h
set_option maxRecDepth 100000 in
set_option maxHeartbeats 4000000 in
theorem zb_X3_fitsMarks_2 (Y : zY) : ∀ (n : Nat) (v0 : Nat) (v1 : Int32) (v2 : Int32) (v3 : Int32) (h : zH), Z Y M_X3_fitsMarks 0 0 2 [(0, .ref v0), (1, .int v1), (2, .int v2), (3, .int v3)] [] h (f_X3_fitsMarks_2 n v0 v1 v2 v3 h) := by
  intro n
  induction n with
  | zero =>
    intro v0 v1 v2 v3 h
    rw [f_X3_fitsMarks_2]
    exact z_none
  | succ n ih =>
    intro v0 v1 v2 v3 h
    rw [f_X3_fitsMarks_2]
    refine z_iload_n 3 (zat dd_X3_fitsMarks 2 rfl) rfl rfl ?_
    refine z_aload_n 0 (zat dd_X3_fitsMarks 3 rfl) rfl rfl ?_
    refine z_getI fl_X3_51 (zat dd_X3_fitsMarks 4 rfl) (fun x1 => ?_)
    refine z_icmp_ge (tgt := 68) (zat dd_X3_fitsMarks 5 rfl) (by decide) ?_ ?_
    · refine z_iconst (x := 1) (zat dd_X3_fitsMarks 41 rfl) (by decide) ?_
      exact z_zret rfl (zat dd_X3_fitsMarks 42 rfl)
    · refine z_iload_n 3 (zat dd_X3_fitsMarks 6 rfl) rfl rfl ?_
      refine z_iconst (x := 4) (zat dd_X3_fitsMarks 7 rfl) (by decide) ?_
      refine z_imul (zat dd_X3_fitsMarks 8 rfl) ?_
      refine z_let (fun x2 => ?_)
      refine z_istore (lv' := [(4, .int x2), (0, .ref v0), (1, .int v1), (2, .int v2), (3, .int v3)]) (zat dd_X3_fitsMarks 9 rfl) (Nat.le_of_ble_eq_true rfl) rfl ?_
      refine z_aload_n 1 (zat dd_X3_fitsMarks 10 rfl) rfl rfl ?_
      refine z_getR fl_X3_54 (zat dd_X3_fitsMarks 11 rfl) (fun a3 => ?_)
      refine z_iload 0 (zat dd_X3_fitsMarks 12 rfl) rfl ?_
      refine z_iald (zat dd_X3_fitsMarks 13 rfl) (fun x4 => ?_)
      refine z_iload_n 2 (zat dd_X3_fitsMarks 14 rfl) rfl rfl ?_
      refine z_icmp_ne (tgt := 62) (zat dd_X3_fitsMarks 15 rfl) (by decide) ?_ ?_
      · refine z_sub [1, 2, 3, 4] rfl ?_
        exact zb_X3_fitsMarks_62 Y (f_X3_fitsMarks_2 n) ih v0 v1 v2 v3 h
      · refine z_iload_n 3 (zat dd_X3_fitsMarks 16 rfl) rfl rfl ?_
        refine z_aload_n 1 (zat dd_X3_fitsMarks 17 rfl) rfl rfl ?_
        refine z_getR fl_X3_54 (zat dd_X3_fitsMarks 18 rfl) (fun a5 => ?_)
        refine z_iload 0 (zat dd_X3_fitsMarks 19 rfl) rfl ?_
        refine z_iconst (x := 1) (zat dd_X3_fitsMarks 20 rfl) (by decide) ?_
        refine z_iadd (zat dd_X3_fitsMarks 21 rfl) ?_
        refine z_iald (zat dd_X3_fitsMarks 22 rfl) (fun x6 => ?_)
        refine z_aload_n 1 (zat dd_X3_fitsMarks 23 rfl) rfl rfl ?_
        refine z_getR fl_X3_54 (zat dd_X3_fitsMarks 24 rfl) (fun a7 => ?_)
        refine z_iload 0 (zat dd_X3_fitsMarks 25 rfl) rfl ?_
        refine z_iconst (x := 2) (zat dd_X3_fitsMarks 26 rfl) (by decide) ?_
        refine z_iadd (zat dd_X3_fitsMarks 27 rfl) ?_
        refine z_iald (zat dd_X3_fitsMarks 28 rfl) (fun x8 => ?_)
        refine z_callS_I0 (M2 := M_X0_holds) [.int v2, .int x6, .int x8] (fun l D _ _ => m_X0_holds l D v2 x6 x8 h) u_X0_holds ql_X3_57 qi_X0_holds rfl rfl (Nat.le_of_ble_eq_true rfl) (by decide) rfl rfl (zat dd_X3_fitsMarks 29 rfl) (fun x9 h10 => ?_)
        refine z_aload_n 1 (zat dd_X3_fitsMarks 30 rfl) rfl rfl ?_
        refine z_getR fl_X3_54 (zat dd_X3_fitsMarks 31 rfl) (fun a11 => ?_)
        refine z_iload 0 (zat dd_X3_fitsMarks 32 rfl) rfl ?_
        refine z_iconst (x := 3) (zat dd_X3_fitsMarks 33 rfl) (by decide) ?_
        refine z_iadd (zat dd_X3_fitsMarks 34 rfl) ?_
        refine z_iald (zat dd_X3_fitsMarks 35 rfl) (fun x12 => ?_)
        refine z_icmp_eq (tgt := 62) (zat dd_X3_fitsMarks 36 rfl) (by decide) ?_ ?_
        · refine z_sub [1, 2, 3, 4] rfl ?_
          exact zb_X3_fitsMarks_62 Y (f_X3_fitsMarks_2 n) ih v0 v1 v2 v3 h10
        · refine z_iconst (x := 0) (zat dd_X3_fitsMarks 37 rfl) (by decide) ?_
          exact z_zret rfl (zat dd_X3_fitsMarks 38 rfl)
def f_X3_fitsMarks (v0 : Nat) (v1 : Int32) (v2 : Int32) (h : zH) : zR :=
  f_X3_fitsMarks_2 zF v0 v1 v2 0 h
set_option maxRecDepth 100000 in
set_option maxHeartbeats 4000000 in
theorem m_X3_fitsMarks (l : Launch) (D : zD) (v0 : Nat) (v1 : Int32) (v2 : Int32) (h : zH) : zMet l D yX3_fitsMarks M_X3_fitsMarks [.ref v0, .int v1, .int v2] h (f_X3_fitsMarks v0 v1 v2 h) := by
  refine zMet.of (by decide +kernel) ⟨rfl, rfl⟩ (Nat.le_of_ble_eq_true rfl) (fun Y hl hD => ?_)
  show Z Y M_X3_fitsMarks 0 0 0 [(0, .ref v0), (1, .int v1), (2, .int v2)] [] h _
  rw [f_X3_fitsMarks]
  refine z_iconst (x := 0) (zat dd_X3_fitsMarks 0 rfl) (by decide) ?_
  refine z_istore_n (lv' := [(3, .int 0), (0, .ref v0), (1, .int v1), (2, .int v2)]) (zat dd_X3_fitsMarks 1 rfl) rfl (Nat.le_of_ble_eq_true rfl) rfl ?_
  refine z_sub [1, 2, 3, 0] rfl ?_
  exact zb_X3_fitsMarks_2 Y zF v0 v1 v2 0 h
/-! PaperDolls$Guess.clothKinds(LPaperDolls$Doll;I)I -/
def L_X3_clothKinds : List (Nat × Instr × Nat) := [(0, .iconst 0, 1), (1, .istore_n 2, 1), (2, .iconst 0, 1), (3, .istore_n 3, 1), (4, .iload_n 3, 1), (5, .bipush 6, 2), (7, .if_icmp .ge 24, 3), (10, .aload_n 0, 1), (11, .iload_n 1, 1), (12, .iload_n 3, 1), (13, .invokestatic 47, 3), (16, .ifCond .eq 9, 3), (19, .iload_n 2, 1), (20, .iconst 1, 1), (21, .iload_n 3, 1), (22, .ishl, 1), (23, .ior, 1), (24, .istore_n 2, 1), (25, .iinc 3 1, 3), (28, .goto (-24), 3), (31, .iload_n 2, 1), (32, .ireturn, 1)]
theorem dd_X3_clothKinds : ∀ q ∈ L_X3_clothKinds, decode cX3_clothKinds q.1 = .ok q.2 := by decide +kernel
abbrev M_X3_clothKinds : zM := (cX3_clothKinds, RX3, "clothKinds", 4, some .int, 2, 0, 0)
theorem u_X3_clothKinds : zCal yX3_clothKinds (M_X3_clothKinds) 2 := ⟨(zmem 699 (by decide +kernel) rfl : Cond.code yX3_clothKinds cX3_clothKinds 4 (some .int) ∈ zTb), zmem 73 (by decide +kernel) rfl, by decide +kernel, Nat.le_of_ble_eq_true rfl⟩
theorem qi_X3_clothKinds : Cond.static yX3_clothKinds ∈ zTb := zmem 698 (by decide +kernel) rfl
def f_X3_clothKinds_25 (k4 : Nat → Int32 → Int32 → Int32 → zH → zR) (v0 : Nat) (v1 : Int32) (v2 : Int32) (v3 : Int32) (h : zH) : zR :=
  k4 v0 v1 v2 (v3 + 1) h
set_option maxRecDepth 100000 in
set_option maxHeartbeats 4000000 in
theorem zb_X3_clothKinds_25 (Y : zY) (k4 : Nat → Int32 → Int32 → Int32 → zH → zR) (hk4 : ∀ (v0 : Nat) (v1 : Int32) (v2 : Int32) (v3 : Int32) (h : zH), Z Y M_X3_clothKinds 0 0 4 [(0, .ref v0), (1, .int v1), (2, .int v2), (3, .int v3)] [] h (k4 v0 v1 v2 v3 h)) (v0 : Nat) (v1 : Int32) (v2 : Int32) (v3 : Int32) (h : zH) : Z Y M_X3_clothKinds 0 0 25 [(0, .ref v0), (1, .int v1), (2, .int v2), (3, .int v3)] [] h (f_X3_clothKinds_25 k4 v0 v1 v2 v3 h) := by
  rw [f_X3_clothKinds_25]
  refine z_iinc (y := v3 + 1) (lv' := [(3, .int (v3 + 1)), (0, .ref v0), (1, .int v1), (2, .int v2)]) 3 (zat dd_X3_clothKinds 18 rfl) rfl rfl (Nat.le_of_ble_eq_true rfl) rfl ?_
  refine z_goto (tgt := 4) (zat dd_X3_clothKinds 19 rfl) (by decide) ?_
  refine z_sub [1, 2, 3, 0] rfl ?_
  exact hk4 v0 v1 v2 (v3 + 1) h
def f_X3_clothKinds_4 : Nat → Nat → Int32 → Int32 → Int32 → zH → zR
  | 0, _, _, _, _, _ => none
  | n + 1, v0, v1, v2, v3, h =>
  if 6 ≤ v3 then
  zrI v2 h
  else
  zcI (f_X3_fitsMarks v0 v1 v3 h) fun x1 h2 =>
  if x1 = 0 then
  f_X3_clothKinds_25 (f_X3_clothKinds_4 n) v0 v1 v2 v3 h2
  else
  zlt (v2 ||| (1 <<< (v3 &&& 31))) fun x3 =>
  f_X3_clothKinds_25 (f_X3_clothKinds_4 n) v0 v1 x3 v3 h2
set_option maxRecDepth 100000 in
set_option maxHeartbeats 4000000 in
theorem zb_X3_clothKinds_4 (Y : zY) : ∀ (n : Nat) (v0 : Nat) (v1 : Int32) (v2 : Int32) (v3 : Int32) (h : zH), Z Y M_X3_clothKinds 0 0 4 [(0, .ref v0), (1, .int v1), (2, .int v2), (3, .int v3)] [] h (f_X3_clothKinds_4 n v0 v1 v2 v3 h) := by
  intro n
  induction n with
  | zero =>
    intro v0 v1 v2 v3 h
    rw [f_X3_clothKinds_4]
    exact z_none
  | succ n ih =>
    intro v0 v1 v2 v3 h
    rw [f_X3_clothKinds_4]
    refine z_iload_n 3 (zat dd_X3_clothKinds 4 rfl) rfl rfl ?_
    refine z_bipush (x := 6) (zat dd_X3_clothKinds 5 rfl) (by decide) ?_
    refine z_icmp_ge (tgt := 31) (zat dd_X3_clothKinds 6 rfl) (by decide) ?_ ?_
    · refine z_iload_n 2 (zat dd_X3_clothKinds 20 rfl) rfl rfl ?_
      exact z_iret rfl (zat dd_X3_clothKinds 21 rfl)
    · refine z_aload_n 0 (zat dd_X3_clothKinds 7 rfl) rfl rfl ?_
      refine z_iload_n 1 (zat dd_X3_clothKinds 8 rfl) rfl rfl ?_
      refine z_iload_n 3 (zat dd_X3_clothKinds 9 rfl) rfl rfl ?_
      refine z_callS_I0 (M2 := M_X3_fitsMarks) [.ref v0, .int v1, .int v3] (fun l D _ _ => m_X3_fitsMarks l D v0 v1 v3 h) u_X3_fitsMarks ql_X3_47 qi_X3_fitsMarks rfl rfl (Nat.le_of_ble_eq_true rfl) (by decide) rfl rfl (zat dd_X3_clothKinds 10 rfl) (fun x1 h2 => ?_)
      refine z_if_eq (tgt := 25) (zat dd_X3_clothKinds 11 rfl) (by decide) ?_ ?_
      · exact zb_X3_clothKinds_25 Y (f_X3_clothKinds_4 n) ih v0 v1 v2 v3 h2
      · refine z_iload_n 2 (zat dd_X3_clothKinds 12 rfl) rfl rfl ?_
        refine z_iconst (x := 1) (zat dd_X3_clothKinds 13 rfl) (by decide) ?_
        refine z_iload_n 3 (zat dd_X3_clothKinds 14 rfl) rfl rfl ?_
        refine z_ishl (zat dd_X3_clothKinds 15 rfl) ?_
        refine z_ior (zat dd_X3_clothKinds 16 rfl) ?_
        refine z_let (fun x3 => ?_)
        refine z_istore_n (lv' := [(2, .int x3), (0, .ref v0), (1, .int v1), (3, .int v3)]) (zat dd_X3_clothKinds 17 rfl) rfl (Nat.le_of_ble_eq_true rfl) rfl ?_
        refine z_sub [1, 2, 0, 3] rfl ?_
        exact zb_X3_clothKinds_25 Y (f_X3_clothKinds_4 n) ih v0 v1 x3 v3 h2
def f_X3_clothKinds (v0 : Nat) (v1 : Int32) (h : zH) : zR :=
  f_X3_clothKinds_4 zF v0 v1 0 0 h
set_option maxRecDepth 100000 in
set_option maxHeartbeats 4000000 in
theorem m_X3_clothKinds (l : Launch) (D : zD) (v0 : Nat) (v1 : Int32) (h : zH) : zMet l D yX3_clothKinds M_X3_clothKinds [.ref v0, .int v1] h (f_X3_clothKinds v0 v1 h) := by
  refine zMet.of (by decide +kernel) ⟨rfl, rfl⟩ (Nat.le_of_ble_eq_true rfl) (fun Y hl hD => ?_)
  show Z Y M_X3_clothKinds 0 0 0 [(0, .ref v0), (1, .int v1)] [] h _
  rw [f_X3_clothKinds]
  refine z_iconst (x := 0) (zat dd_X3_clothKinds 0 rfl) (by decide) ?_
  refine z_istore_n (lv' := [(2, .int 0), (0, .ref v0), (1, .int v1)]) (zat dd_X3_clothKinds 1 rfl) rfl (Nat.le_of_ble_eq_true rfl) rfl ?_
  refine z_iconst (x := 0) (zat dd_X3_clothKinds 2 rfl) (by decide) ?_
  refine z_istore_n (lv' := [(3, .int 0), (2, .int 0), (0, .ref v0), (1, .int v1)]) (zat dd_X3_clothKinds 3 rfl) rfl (Nat.le_of_ble_eq_true rfl) rfl ?_
  refine z_sub [2, 3, 1, 0] rfl ?_
  exact zb_X3_clothKinds_4 Y zF v0 v1 0 0 h
/-! PaperDolls$Guess.howManyHold(IIII)I -/
def L_X3_howManyHold : List (Nat × Instr × Nat) := [(0, .iconst 0, 1), (1, .istore 4, 2), (3, .iconst 0, 1), (4, .istore 5, 2), (6, .iload 5, 2), (8, .bipush 6, 2), (10, .if_icmp .ge 33, 3), (13, .iload_n 0, 1), (14, .iload 5, 2), (16, .ishr, 1), (17, .iconst 1, 1), (18, .iand, 1), (19, .iconst 1, 1), (20, .if_icmp .ne 17, 3), (23, .iload 5, 2), (25, .iload_n 1, 1), (26, .iload_n 2, 1), (27, .invokestatic 57, 3), (30, .iload_n 3, 1), (31, .if_icmp .ne 6, 3), (34, .iinc 4 1, 3), (37, .iinc 5 1, 3), (40, .goto (-34), 3), (43, .iload 4, 2), (45, .ireturn, 1)]
theorem dd_X3_howManyHold : ∀ q ∈ L_X3_howManyHold, decode cX3_howManyHold q.1 = .ok q.2 := by decide +kernel
abbrev M_X3_howManyHold : zM := (cX3_howManyHold, RX3, "howManyHold", 6, some .int, 1, 0, 0)
theorem u_X3_howManyHold : zCal yX3_howManyHold (M_X3_howManyHold) 4 := ⟨(zmem 716 (by decide +kernel) rfl : Cond.code yX3_howManyHold cX3_howManyHold 6 (some .int) ∈ zTb), zmem 73 (by decide +kernel) rfl, by decide +kernel, Nat.le_of_ble_eq_true rfl⟩
theorem qi_X3_howManyHold : Cond.static yX3_howManyHold ∈ zTb := zmem 715 (by decide +kernel) rfl
def f_X3_howManyHold_37 (k6 : Int32 → Int32 → Int32 → Int32 → Int32 → Int32 → zH → zR) (v0 : Int32) (v1 : Int32) (v2 : Int32) (v3 : Int32) (v4 : Int32) (v5 : Int32) (h : zH) : zR :=
  k6 v0 v1 v2 v3 v4 (v5 + 1) h
set_option maxRecDepth 100000 in
set_option maxHeartbeats 4000000 in
theorem zb_X3_howManyHold_37 (Y : zY) (k6 : Int32 → Int32 → Int32 → Int32 → Int32 → Int32 → zH → zR) (hk6 : ∀ (v0 : Int32) (v1 : Int32) (v2 : Int32) (v3 : Int32) (v4 : Int32) (v5 : Int32) (h : zH), Z Y M_X3_howManyHold 0 0 6 [(0, .int v0), (1, .int v1), (2, .int v2), (3, .int v3), (4, .int v4), (5, .int v5)] [] h (k6 v0 v1 v2 v3 v4 v5 h)) (v0 : Int32) (v1 : Int32) (v2 : Int32) (v3 : Int32) (v4 : Int32) (v5 : Int32) (h : zH) : Z Y M_X3_howManyHold 0 0 37 [(0, .int v0), (1, .int v1), (2, .int v2), (3, .int v3), (4, .int v4), (5, .int v5)] [] h (f_X3_howManyHold_37 k6 v0 v1 v2 v3 v4 v5 h) := by
  rw [f_X3_howManyHold_37]
  refine z_iinc (y := v5 + 1) (lv' := [(5, .int (v5 + 1)), (0, .int v0), (1, .int v1), (2, .int v2), (3, .int v3), (4, .int v4)]) 5 (zat dd_X3_howManyHold 21 rfl) rfl rfl (Nat.le_of_ble_eq_true rfl) rfl ?_
  refine z_goto (tgt := 6) (zat dd_X3_howManyHold 22 rfl) (by decide) ?_
  refine z_sub [1, 2, 3, 4, 5, 0] rfl ?_
  exact hk6 v0 v1 v2 v3 v4 (v5 + 1) h
def f_X3_howManyHold_6 : Nat → Int32 → Int32 → Int32 → Int32 → Int32 → Int32 → zH → zR
  | 0, _, _, _, _, _, _, _ => none
  | n + 1, v0, v1, v2, v3, v4, v5, h =>
  if 6 ≤ v5 then
  zrI v4 h
  else
  if ((v0 >>> (v5 &&& 31)) &&& 1) = 1 then
  zcI (f_X0_holds v5 v1 v2 h) fun x1 h2 =>
  if x1 = v3 then
  f_X3_howManyHold_37 (f_X3_howManyHold_6 n) v0 v1 v2 v3 (v4 + 1) v5 h2
  else
  f_X3_howManyHold_37 (f_X3_howManyHold_6 n) v0 v1 v2 v3 v4 v5 h2
  else
  f_X3_howManyHold_37 (f_X3_howManyHold_6 n) v0 v1 v2 v3 v4 v5 h
set_option maxRecDepth 100000 in
set_option maxHeartbeats 4000000 in
theorem zb_X3_howManyHold_6 (Y : zY) : ∀ (n : Nat) (v0 : Int32) (v1 : Int32) (v2 : Int32) (v3 : Int32) (v4 : Int32) (v5 : Int32) (h : zH), Z Y M_X3_howManyHold 0 0 6 [(0, .int v0), (1, .int v1), (2, .int v2), (3, .int v3), (4, .int v4), (5, .int v5)] [] h (f_X3_howManyHold_6 n v0 v1 v2 v3 v4 v5 h) := by
  intro n
  induction n with
  | zero =>
    intro v0 v1 v2 v3 v4 v5 h
    rw [f_X3_howManyHold_6]
    exact z_none
  | succ n ih =>
    intro v0 v1 v2 v3 v4 v5 h
    rw [f_X3_howManyHold_6]
    refine z_iload 5 (zat dd_X3_howManyHold 4 rfl) rfl ?_
    refine z_bipush (x := 6) (zat dd_X3_howManyHold 5 rfl) (by decide) ?_
    refine z_icmp_ge (tgt := 43) (zat dd_X3_howManyHold 6 rfl) (by decide) ?_ ?_
    · refine z_iload 4 (zat dd_X3_howManyHold 23 rfl) rfl ?_
      exact z_iret rfl (zat dd_X3_howManyHold 24 rfl)
    · refine z_iload_n 0 (zat dd_X3_howManyHold 7 rfl) rfl rfl ?_
      refine z_iload 5 (zat dd_X3_howManyHold 8 rfl) rfl ?_
      refine z_ishr (zat dd_X3_howManyHold 9 rfl) ?_
      refine z_iconst (x := 1) (zat dd_X3_howManyHold 10 rfl) (by decide) ?_
      refine z_iand (zat dd_X3_howManyHold 11 rfl) ?_
      refine z_iconst (x := 1) (zat dd_X3_howManyHold 12 rfl) (by decide) ?_
      refine z_icmp_ne (tgt := 37) (zat dd_X3_howManyHold 13 rfl) (by decide) ?_ ?_
      · exact zb_X3_howManyHold_37 Y (f_X3_howManyHold_6 n) ih v0 v1 v2 v3 v4 v5 h
      · refine z_iload 5 (zat dd_X3_howManyHold 14 rfl) rfl ?_
        refine z_iload_n 1 (zat dd_X3_howManyHold 15 rfl) rfl rfl ?_
        refine z_iload_n 2 (zat dd_X3_howManyHold 16 rfl) rfl rfl ?_
        refine z_callS_I0 (M2 := M_X0_holds) [.int v5, .int v1, .int v2] (fun l D _ _ => m_X0_holds l D v5 v1 v2 h) u_X0_holds ql_X3_57 qi_X0_holds rfl rfl (Nat.le_of_ble_eq_true rfl) (by decide) rfl rfl (zat dd_X3_howManyHold 17 rfl) (fun x1 h2 => ?_)
        refine z_iload_n 3 (zat dd_X3_howManyHold 18 rfl) rfl rfl ?_
        refine z_icmp_ne (tgt := 37) (zat dd_X3_howManyHold 19 rfl) (by decide) ?_ ?_
        · exact zb_X3_howManyHold_37 Y (f_X3_howManyHold_6 n) ih v0 v1 v2 v3 v4 v5 h2
        · refine z_iinc (y := v4 + 1) (lv' := [(4, .int (v4 + 1)), (0, .int v0), (1, .int v1), (2, .int v2), (3, .int v3), (5, .int v5)]) 4 (zat dd_X3_howManyHold 20 rfl) rfl rfl (Nat.le_of_ble_eq_true rfl) rfl ?_
          refine z_sub [1, 2, 3, 4, 0, 5] rfl ?_
          exact zb_X3_howManyHold_37 Y (f_X3_howManyHold_6 n) ih v0 v1 v2 v3 (v4 + 1) v5 h2
def f_X3_howManyHold (v0 : Int32) (v1 : Int32) (v2 : Int32) (v3 : Int32) (h : zH) : zR :=
  f_X3_howManyHold_6 zF v0 v1 v2 v3 0 0 h
set_option maxRecDepth 100000 in
set_option maxHeartbeats 4000000 in
theorem m_X3_howManyHold (l : Launch) (D : zD) (v0 : Int32) (v1 : Int32) (v2 : Int32) (v3 : Int32) (h : zH) : zMet l D yX3_howManyHold M_X3_howManyHold [.int v0, .int v1, .int v2, .int v3] h (f_X3_howManyHold v0 v1 v2 v3 h) := by
  refine zMet.of (by decide +kernel) ⟨rfl, rfl⟩ (Nat.le_of_ble_eq_true rfl) (fun Y hl hD => ?_)
  show Z Y M_X3_howManyHold 0 0 0 [(0, .int v0), (1, .int v1), (2, .int v2), (3, .int v3)] [] h _
  rw [f_X3_howManyHold]
  refine z_iconst (x := 0) (zat dd_X3_howManyHold 0 rfl) (by decide) ?_
  refine z_istore (lv' := [(4, .int 0), (0, .int v0), (1, .int v1), (2, .int v2), (3, .int v3)]) (zat dd_X3_howManyHold 1 rfl) (Nat.le_of_ble_eq_true rfl) rfl ?_
  refine z_iconst (x := 0) (zat dd_X3_howManyHold 2 rfl) (by decide) ?_
  refine z_istore (lv' := [(5, .int 0), (4, .int 0), (0, .int v0), (1, .int v1), (2, .int v2), (3, .int v3)]) (zat dd_X3_howManyHold 3 rfl) (Nat.le_of_ble_eq_true rfl) rfl ?_
  refine z_sub [2, 3, 4, 5, 1, 0] rfl ?_
  exact zb_X3_howManyHold_6 Y zF v0 v1 v2 v3 0 0 h
/-! PaperDolls$Guess.mostAlike(III)I -/
def L_X3_mostAlike : List (Nat × Instr × Nat) := [(0, .iconst 0, 1), (1, .istore_n 3, 1), (2, .iconst 0, 1), (3, .istore 4, 2), (5, .iload 4, 2), (7, .bipush 6, 2), (9, .if_icmp .ge 37, 3), (12, .iload_n 0, 1), (13, .iload 4, 2), (15, .ishr, 1), (16, .iconst 1, 1), (17, .iand, 1), (18, .iconst 1, 1), (19, .if_icmp .ne 21, 3), (22, .iload_n 3, 1), (23, .iload_n 0, 1), (24, .iload_n 1, 1), (25, .iload_n 2, 1), (26, .iload 4, 2), (28, .iload_n 1, 1), (29, .iload_n 2, 1), (30, .invokestatic 57, 3), (33, .invokestatic 65, 3), (36, .invokestatic 41, 3), (39, .istore_n 3, 1), (40, .iinc 4 1, 3), (43, .goto (-38), 3), (46, .iload_n 3, 1), (47, .ireturn, 1)]
theorem dd_X3_mostAlike : ∀ q ∈ L_X3_mostAlike, decode cX3_mostAlike q.1 = .ok q.2 := by decide +kernel
abbrev M_X3_mostAlike : zM := (cX3_mostAlike, RX3, "mostAlike", 5, some .int, 2, 0, 0)
theorem u_X3_mostAlike : zCal yX3_mostAlike (M_X3_mostAlike) 3 := ⟨(zmem 713 (by decide +kernel) rfl : Cond.code yX3_mostAlike cX3_mostAlike 5 (some .int) ∈ zTb), zmem 73 (by decide +kernel) rfl, by decide +kernel, Nat.le_of_ble_eq_true rfl⟩
theorem qi_X3_mostAlike : Cond.static yX3_mostAlike ∈ zTb := zmem 712 (by decide +kernel) rfl
def f_X3_mostAlike_40 (k5 : Int32 → Int32 → Int32 → Int32 → Int32 → zH → zR) (v0 : Int32) (v1 : Int32) (v2 : Int32) (v3 : Int32) (v4 : Int32) (h : zH) : zR :=
  k5 v0 v1 v2 v3 (v4 + 1) h
set_option maxRecDepth 100000 in
set_option maxHeartbeats 4000000 in
theorem zb_X3_mostAlike_40 (Y : zY) (k5 : Int32 → Int32 → Int32 → Int32 → Int32 → zH → zR) (hk5 : ∀ (v0 : Int32) (v1 : Int32) (v2 : Int32) (v3 : Int32) (v4 : Int32) (h : zH), Z Y M_X3_mostAlike 0 0 5 [(0, .int v0), (1, .int v1), (2, .int v2), (3, .int v3), (4, .int v4)] [] h (k5 v0 v1 v2 v3 v4 h)) (v0 : Int32) (v1 : Int32) (v2 : Int32) (v3 : Int32) (v4 : Int32) (h : zH) : Z Y M_X3_mostAlike 0 0 40 [(0, .int v0), (1, .int v1), (2, .int v2), (3, .int v3), (4, .int v4)] [] h (f_X3_mostAlike_40 k5 v0 v1 v2 v3 v4 h) := by
  rw [f_X3_mostAlike_40]
  refine z_iinc (y := v4 + 1) (lv' := [(4, .int (v4 + 1)), (0, .int v0), (1, .int v1), (2, .int v2), (3, .int v3)]) 4 (zat dd_X3_mostAlike 25 rfl) rfl rfl (Nat.le_of_ble_eq_true rfl) rfl ?_
  refine z_goto (tgt := 5) (zat dd_X3_mostAlike 26 rfl) (by decide) ?_
  refine z_sub [1, 2, 3, 4, 0] rfl ?_
  exact hk5 v0 v1 v2 v3 (v4 + 1) h
def f_X3_mostAlike_5 : Nat → Int32 → Int32 → Int32 → Int32 → Int32 → zH → zR
  | 0, _, _, _, _, _, _ => none
  | n + 1, v0, v1, v2, v3, v4, h =>
  if 6 ≤ v4 then
  zrI v3 h
  else
  if ((v0 >>> (v4 &&& 31)) &&& 1) = 1 then
  zcI (f_X0_holds v4 v1 v2 h) fun x1 h2 =>
  zcI (f_X3_howManyHold v0 v1 v2 x1 h2) fun x3 h4 =>
  zlt (if v3 < x3 then x3 else v3) fun x5 =>
  f_X3_mostAlike_40 (f_X3_mostAlike_5 n) v0 v1 v2 x5 v4 h4
  else
  f_X3_mostAlike_40 (f_X3_mostAlike_5 n) v0 v1 v2 v3 v4 h
set_option maxRecDepth 100000 in
set_option maxHeartbeats 4000000 in
theorem zb_X3_mostAlike_5 (Y : zY) : ∀ (n : Nat) (v0 : Int32) (v1 : Int32) (v2 : Int32) (v3 : Int32) (v4 : Int32) (h : zH), Z Y M_X3_mostAlike 0 0 5 [(0, .int v0), (1, .int v1), (2, .int v2), (3, .int v3), (4, .int v4)] [] h (f_X3_mostAlike_5 n v0 v1 v2 v3 v4 h) := by
  intro n
  induction n with
  | zero =>
    intro v0 v1 v2 v3 v4 h
    rw [f_X3_mostAlike_5]
    exact z_none
  | succ n ih =>
    intro v0 v1 v2 v3 v4 h
    rw [f_X3_mostAlike_5]
    refine z_iload 4 (zat dd_X3_mostAlike 4 rfl) rfl ?_
    refine z_bipush (x := 6) (zat dd_X3_mostAlike 5 rfl) (by decide) ?_
    refine z_icmp_ge (tgt := 46) (zat dd_X3_mostAlike 6 rfl) (by decide) ?_ ?_
    · refine z_iload_n 3 (zat dd_X3_mostAlike 27 rfl) rfl rfl ?_
      exact z_iret rfl (zat dd_X3_mostAlike 28 rfl)
    · refine z_iload_n 0 (zat dd_X3_mostAlike 7 rfl) rfl rfl ?_
      refine z_iload 4 (zat dd_X3_mostAlike 8 rfl) rfl ?_
      refine z_ishr (zat dd_X3_mostAlike 9 rfl) ?_
      refine z_iconst (x := 1) (zat dd_X3_mostAlike 10 rfl) (by decide) ?_
      refine z_iand (zat dd_X3_mostAlike 11 rfl) ?_
      refine z_iconst (x := 1) (zat dd_X3_mostAlike 12 rfl) (by decide) ?_
      refine z_icmp_ne (tgt := 40) (zat dd_X3_mostAlike 13 rfl) (by decide) ?_ ?_
      · exact zb_X3_mostAlike_40 Y (f_X3_mostAlike_5 n) ih v0 v1 v2 v3 v4 h
      · refine z_iload_n 3 (zat dd_X3_mostAlike 14 rfl) rfl rfl ?_
        refine z_iload_n 0 (zat dd_X3_mostAlike 15 rfl) rfl rfl ?_
        refine z_iload_n 1 (zat dd_X3_mostAlike 16 rfl) rfl rfl ?_
        refine z_iload_n 2 (zat dd_X3_mostAlike 17 rfl) rfl rfl ?_
        refine z_iload 4 (zat dd_X3_mostAlike 18 rfl) rfl ?_
        refine z_iload_n 1 (zat dd_X3_mostAlike 19 rfl) rfl rfl ?_
        refine z_iload_n 2 (zat dd_X3_mostAlike 20 rfl) rfl rfl ?_
        refine z_callS_I0 (M2 := M_X0_holds) [.int v4, .int v1, .int v2] (fun l D _ _ => m_X0_holds l D v4 v1 v2 h) u_X0_holds ql_X3_57 qi_X0_holds rfl rfl (Nat.le_of_ble_eq_true rfl) (by decide) rfl rfl (zat dd_X3_mostAlike 21 rfl) (fun x1 h2 => ?_)
        refine z_callS_I0 (M2 := M_X3_howManyHold) [.int v0, .int v1, .int v2, .int x1] (fun l D _ _ => m_X3_howManyHold l D v0 v1 v2 x1 h2) u_X3_howManyHold ql_X3_65 qi_X3_howManyHold rfl rfl (Nat.le_of_ble_eq_true rfl) (by decide) rfl rfl (zat dd_X3_mostAlike 22 rfl) (fun x3 h4 => ?_)
        refine z_mmax ql_X3_41 qm_max1 qm_2 qm_max3 (Nat.le_of_ble_eq_true rfl) (zat dd_X3_mostAlike 23 rfl) ?_
        refine z_let (fun x5 => ?_)
        refine z_istore_n (lv' := [(3, .int x5), (0, .int v0), (1, .int v1), (2, .int v2), (4, .int v4)]) (zat dd_X3_mostAlike 24 rfl) rfl (Nat.le_of_ble_eq_true rfl) rfl ?_
        refine z_sub [1, 2, 3, 0, 4] rfl ?_
        exact zb_X3_mostAlike_40 Y (f_X3_mostAlike_5 n) ih v0 v1 v2 x5 v4 h4
def f_X3_mostAlike (v0 : Int32) (v1 : Int32) (v2 : Int32) (h : zH) : zR :=
  f_X3_mostAlike_5 zF v0 v1 v2 0 0 h
set_option maxRecDepth 100000 in
set_option maxHeartbeats 4000000 in
theorem m_X3_mostAlike (l : Launch) (D : zD) (v0 : Int32) (v1 : Int32) (v2 : Int32) (h : zH) : zMet l D yX3_mostAlike M_X3_mostAlike [.int v0, .int v1, .int v2] h (f_X3_mostAlike v0 v1 v2 h) := by
  refine zMet.of (by decide +kernel) ⟨rfl, rfl⟩ (Nat.le_of_ble_eq_true rfl) (fun Y hl hD => ?_)
  show Z Y M_X3_mostAlike 0 0 0 [(0, .int v0), (1, .int v1), (2, .int v2)] [] h _
  rw [f_X3_mostAlike]
  refine z_iconst (x := 0) (zat dd_X3_mostAlike 0 rfl) (by decide) ?_
  refine z_istore_n (lv' := [(3, .int 0), (0, .int v0), (1, .int v1), (2, .int v2)]) (zat dd_X3_mostAlike 1 rfl) rfl (Nat.le_of_ble_eq_true rfl) rfl ?_
  refine z_iconst (x := 0) (zat dd_X3_mostAlike 2 rfl) (by decide) ?_
  refine z_istore (lv' := [(4, .int 0), (3, .int 0), (0, .int v0), (1, .int v1), (2, .int v2)]) (zat dd_X3_mostAlike 3 rfl) (Nat.le_of_ble_eq_true rfl) rfl ?_
  refine z_sub [2, 3, 4, 1, 0] rfl ?_
  exact zb_X3_mostAlike_5 Y zF v0 v1 v2 0 0 h
/-! PaperDolls$Guess.bestWear(II)I -/
def L_X3_bestWear : List (Nat × Instr × Nat) := [(0, .bipush (-101), 2), (2, .istore_n 2, 1), (3, .bipush 7, 2), (5, .istore_n 3, 1), (6, .iload_n 0, 1), (7, .ifCond .ne 6, 3), (10, .bipush (-101), 2), (12, .ireturn, 1), (13, .iconst 0, 1), (14, .istore 4, 2), (16, .iload 4, 2), (18, .bipush 30, 2), (20, .if_icmp .gt 30, 3), (23, .iload_n 0, 1), (24, .iload_n 1, 1), (25, .iload 4, 2), (27, .invokestatic 62, 3), (30, .istore 5, 2), (32, .iload 5, 2), (34, .iload_n 3, 1), (35, .if_icmp .ge 9, 3), (38, .iload 5, 2), (40, .istore_n 3, 1), (41, .iload 4, 2), (43, .istore_n 2, 1), (44, .iinc 4 1, 3), (47, .goto (-31), 3), (50, .iload_n 2, 1), (51, .ireturn, 1)]
theorem dd_X3_bestWear : ∀ q ∈ L_X3_bestWear, decode cX3_bestWear q.1 = .ok q.2 := by decide +kernel
abbrev M_X3_bestWear : zM := (cX3_bestWear, RX3, "bestWear", 6, some .int, 3, 0, 0)
theorem u_X3_bestWear : zCal yX3_bestWear (M_X3_bestWear) 2 := ⟨(zmem 710 (by decide +kernel) rfl : Cond.code yX3_bestWear cX3_bestWear 6 (some .int) ∈ zTb), zmem 73 (by decide +kernel) rfl, by decide +kernel, Nat.le_of_ble_eq_true rfl⟩
theorem qi_X3_bestWear : Cond.static yX3_bestWear ∈ zTb := zmem 709 (by decide +kernel) rfl
def f_X3_bestWear_44 (k16 : Int32 → Int32 → Int32 → Int32 → Int32 → zH → zR) (v0 : Int32) (v1 : Int32) (v2 : Int32) (v3 : Int32) (v4 : Int32) (h : zH) : zR :=
  k16 v0 v1 v2 v3 (v4 + 1) h
set_option maxRecDepth 100000 in
set_option maxHeartbeats 4000000 in
theorem zb_X3_bestWear_44 (Y : zY) (k16 : Int32 → Int32 → Int32 → Int32 → Int32 → zH → zR) (hk16 : ∀ (v0 : Int32) (v1 : Int32) (v2 : Int32) (v3 : Int32) (v4 : Int32) (h : zH), Z Y M_X3_bestWear 0 0 16 [(0, .int v0), (1, .int v1), (2, .int v2), (3, .int v3), (4, .int v4)] [] h (k16 v0 v1 v2 v3 v4 h)) (v0 : Int32) (v1 : Int32) (v2 : Int32) (v3 : Int32) (v4 : Int32) (h : zH) : Z Y M_X3_bestWear 0 0 44 [(0, .int v0), (1, .int v1), (2, .int v2), (3, .int v3), (4, .int v4)] [] h (f_X3_bestWear_44 k16 v0 v1 v2 v3 v4 h) := by
  rw [f_X3_bestWear_44]
  refine z_iinc (y := v4 + 1) (lv' := [(4, .int (v4 + 1)), (0, .int v0), (1, .int v1), (2, .int v2), (3, .int v3)]) 4 (zat dd_X3_bestWear 25 rfl) rfl rfl (Nat.le_of_ble_eq_true rfl) rfl ?_
  refine z_goto (tgt := 16) (zat dd_X3_bestWear 26 rfl) (by decide) ?_
  refine z_sub [1, 2, 3, 4, 0] rfl ?_
  exact hk16 v0 v1 v2 v3 (v4 + 1) h
def f_X3_bestWear_16 : Nat → Int32 → Int32 → Int32 → Int32 → Int32 → zH → zR
  | 0, _, _, _, _, _, _ => none
  | n + 1, v0, v1, v2, v3, v4, h =>
  if 30 < v4 then
  zrI v2 h
  else
  zcI (f_X3_mostAlike v0 v1 v4 h) fun x1 h2 =>
  if v3 ≤ x1 then
  f_X3_bestWear_44 (f_X3_bestWear_16 n) v0 v1 v2 v3 v4 h2
  else
  f_X3_bestWear_44 (f_X3_bestWear_16 n) v0 v1 v4 x1 v4 h2
set_option maxRecDepth 100000 in
set_option maxHeartbeats 4000000 in
theorem zb_X3_bestWear_16 (Y : zY) : ∀ (n : Nat) (v0 : Int32) (v1 : Int32) (v2 : Int32) (v3 : Int32) (v4 : Int32) (h : zH), Z Y M_X3_bestWear 0 0 16 [(0, .int v0), (1, .int v1), (2, .int v2), (3, .int v3), (4, .int v4)] [] h (f_X3_bestWear_16 n v0 v1 v2 v3 v4 h) := by
  intro n
  induction n with
  | zero =>
    intro v0 v1 v2 v3 v4 h
    rw [f_X3_bestWear_16]
    exact z_none
  | succ n ih =>
    intro v0 v1 v2 v3 v4 h
    rw [f_X3_bestWear_16]
    refine z_iload 4 (zat dd_X3_bestWear 10 rfl) rfl ?_
    refine z_bipush (x := 30) (zat dd_X3_bestWear 11 rfl) (by decide) ?_
    refine z_icmp_gt (tgt := 50) (zat dd_X3_bestWear 12 rfl) (by decide) ?_ ?_
    · refine z_iload_n 2 (zat dd_X3_bestWear 27 rfl) rfl rfl ?_
      exact z_iret rfl (zat dd_X3_bestWear 28 rfl)
    · refine z_iload_n 0 (zat dd_X3_bestWear 13 rfl) rfl rfl ?_
      refine z_iload_n 1 (zat dd_X3_bestWear 14 rfl) rfl rfl ?_
      refine z_iload 4 (zat dd_X3_bestWear 15 rfl) rfl ?_
      refine z_callS_I0 (M2 := M_X3_mostAlike) [.int v0, .int v1, .int v4] (fun l D _ _ => m_X3_mostAlike l D v0 v1 v4 h) u_X3_mostAlike ql_X3_62 qi_X3_mostAlike rfl rfl (Nat.le_of_ble_eq_true rfl) (by decide) rfl rfl (zat dd_X3_bestWear 16 rfl) (fun x1 h2 => ?_)
      refine z_istore (lv' := [(5, .int x1), (0, .int v0), (1, .int v1), (2, .int v2), (3, .int v3), (4, .int v4)]) (zat dd_X3_bestWear 17 rfl) (Nat.le_of_ble_eq_true rfl) rfl ?_
      refine z_iload 0 (zat dd_X3_bestWear 18 rfl) rfl ?_
      refine z_iload_n 4 (zat dd_X3_bestWear 19 rfl) rfl rfl ?_
      refine z_icmp_ge (tgt := 44) (zat dd_X3_bestWear 20 rfl) (by decide) ?_ ?_
      · refine z_sub [1, 2, 3, 4, 5] rfl ?_
        exact zb_X3_bestWear_44 Y (f_X3_bestWear_16 n) ih v0 v1 v2 v3 v4 h2
      · refine z_iload 0 (zat dd_X3_bestWear 21 rfl) rfl ?_
        refine z_istore_n (lv' := [(3, .int x1), (5, .int x1), (0, .int v0), (1, .int v1), (2, .int v2), (4, .int v4)]) (zat dd_X3_bestWear 22 rfl) rfl (Nat.le_of_ble_eq_true rfl) rfl ?_
        refine z_iload 5 (zat dd_X3_bestWear 23 rfl) rfl ?_
        refine z_istore_n (lv' := [(2, .int v4), (3, .int x1), (5, .int x1), (0, .int v0), (1, .int v1), (4, .int v4)]) (zat dd_X3_bestWear 24 rfl) rfl (Nat.le_of_ble_eq_true rfl) rfl ?_
        refine z_sub [3, 4, 0, 1, 5] rfl ?_
        exact zb_X3_bestWear_44 Y (f_X3_bestWear_16 n) ih v0 v1 v4 x1 v4 h2
def f_X3_bestWear (v0 : Int32) (v1 : Int32) (h : zH) : zR :=
  if v0 = 0 then
  zrI (-101) h
  else
  f_X3_bestWear_16 zF v0 v1 (-101) 7 0 h
set_option maxRecDepth 100000 in
set_option maxHeartbeats 4000000 in
theorem m_X3_bestWear (l : Launch) (D : zD) (v0 : Int32) (v1 : Int32) (h : zH) : zMet l D yX3_bestWear M_X3_bestWear [.int v0, .int v1] h (f_X3_bestWear v0 v1 h) := by
  refine zMet.of (by decide +kernel) ⟨rfl, rfl⟩ (Nat.le_of_ble_eq_true rfl) (fun Y hl hD => ?_)
  show Z Y M_X3_bestWear 0 0 0 [(0, .int v0), (1, .int v1)] [] h _
  rw [f_X3_bestWear]
  refine z_bipush (x := (-101)) (zat dd_X3_bestWear 0 rfl) (by decide) ?_
  refine z_istore_n (lv' := [(2, .int (-101)), (0, .int v0), (1, .int v1)]) (zat dd_X3_bestWear 1 rfl) rfl (Nat.le_of_ble_eq_true rfl) rfl ?_
  refine z_bipush (x := 7) (zat dd_X3_bestWear 2 rfl) (by decide) ?_
  refine z_istore_n (lv' := [(3, .int 7), (2, .int (-101)), (0, .int v0), (1, .int v1)]) (zat dd_X3_bestWear 3 rfl) rfl (Nat.le_of_ble_eq_true rfl) rfl ?_
  refine z_iload_n 2 (zat dd_X3_bestWear 4 rfl) rfl rfl ?_
  refine z_if_ne (tgt := 13) (zat dd_X3_bestWear 5 rfl) (by decide) ?_ ?_
  · refine z_iconst (x := 0) (zat dd_X3_bestWear 8 rfl) (by decide) ?_
    refine z_istore (lv' := [(4, .int 0), (3, .int 7), (2, .int (-101)), (0, .int v0), (1, .int v1)]) (zat dd_X3_bestWear 9 rfl) (Nat.le_of_ble_eq_true rfl) rfl ?_
    refine z_sub [3, 4, 2, 1, 0] rfl ?_
    exact zb_X3_bestWear_16 Y zF v0 v1 (-101) 7 0 h
  · refine z_bipush (x := (-101)) (zat dd_X3_bestWear 6 rfl) (by decide) ?_
    exact z_iret rfl (zat dd_X3_bestWear 7 rfl)
/-! PaperDolls$MoveSearch.<init>()V -/
def L_X4_init : List (Nat × Instr × Nat) := [(0, .aload_n 0, 1), (1, .invokespecial 3, 3), (4, .aload_n 0, 1), (5, .iconst 3, 1), (6, .newarray .int, 2), (8, .putfield 11, 3), (11, .aload_n 0, 1), (12, .iconst 3, 1), (13, .anewarray 15, 3), (16, .putfield 17, 3), (19, .iconst 0, 1), (20, .istore_n 1, 1), (21, .iload_n 1, 1), (22, .iconst 3, 1), (23, .if_icmp .ge 22, 3), (26, .aload_n 0, 1), (27, .getfield 17, 3), (30, .iload_n 1, 1), (31, .new 15, 3), (34, .dup, 1), (35, .invokespecial 21, 3), (38, .aastore, 1), (39, .iinc 1 1, 3), (42, .goto (-21), 3), (45, .return_, 1)]
theorem dd_X4_init : ∀ q ∈ L_X4_init, decode cX4_init q.1 = .ok q.2 := by decide +kernel
abbrev M_X4_init : zM := (cX4_init, RX4, "<init>", 2, none, 1, 11, 66)
theorem u_X4_init : zCal yX4_init (M_X4_init) 0 := ⟨(zmem 225 (by decide +kernel) rfl : Cond.code yX4_init cX4_init 2 (none) ∈ zTb), zmem 62 (by decide +kernel) rfl, by decide +kernel, Nat.le_of_ble_eq_true rfl⟩
theorem qi_X4_init : Cond.instanceMethod yX4_init ∈ zTb := zmem 224 (by decide +kernel) rfl
def f_X4_init (v0 : Nat) (h : zH) : zR :=
  zN h (.inl (0, 3, .inl fun _ => 0)) fun a1 h2 =>
  zpV h2 v0 1 0 (.ref a1) fun h3 =>
  zN h3 (.inl (3, 3, .inr fun _ => none)) fun a4 h5 =>
  zpV h5 v0 1 1 (.ref a4) fun h6 =>
  zgR h6 v0 1 1 fun a7 =>
  zN h6 (.inr (4, [.null, .null, .int 0, .int 0])) fun a8 h9 =>
  zcV (f_X8_init a8 h9) fun h10 =>
  zsR h10 a7 3 0 a8 4 fun h11 =>
  zgR h11 v0 1 1 fun a12 =>
  zN h11 (.inr (4, [.null, .null, .int 0, .int 0])) fun a13 h14 =>
  zcV (f_X8_init a13 h14) fun h15 =>
  zsR h15 a12 3 1 a13 4 fun h16 =>
  zgR h16 v0 1 1 fun a17 =>
  zN h16 (.inr (4, [.null, .null, .int 0, .int 0])) fun a18 h19 =>
  zcV (f_X8_init a18 h19) fun h20 =>
  zsR h20 a17 3 2 a18 4 fun h21 =>
  zrV h21
set_option maxRecDepth 100000 in
set_option maxHeartbeats 4000000 in
theorem m_X4_init (l : Launch) (D : zD) (v0 : Nat) (h : zH) : zMet l D yX4_init M_X4_init [.ref v0] h (f_X4_init v0 h) := by
  refine zMet.of (by decide +kernel) ⟨rfl, rfl⟩ (Nat.le_of_ble_eq_true rfl) (fun Y hl hD => ?_)
  show Z Y M_X4_init 0 0 0 [(0, .ref v0)] [] h _
  rw [f_X4_init]
  refine z_aload_n 0 (zat dd_X4_init 0 rfl) rfl rfl ?_
  refine z_objInit ql_X4_3 qo_inst qo_code (Nat.le_of_ble_eq_true rfl) (zat dd_X4_init 1 rfl) ?_
  refine z_aload_n 0 (zat dd_X4_init 2 rfl) rfl rfl ?_
  refine z_iconst (x := 3) (zat dd_X4_init 3 rfl) (by decide) ?_
  refine z_newA0 (cells2 := 1) (slots2 := 3) qa_int (by decide) (by decide) (by decide) (by decide) (by decide) rfl rfl (zat dd_X4_init 4 rfl) (fun a1 h2 => ?_)
  refine z_putF fl_X4_11 rfl rfl rfl rfl (zat dd_X4_init 5 rfl) (fun h3 => ?_)
  refine z_aload_n 0 (zat dd_X4_init 6 rfl) rfl rfl ?_
  refine z_iconst (x := 3) (zat dd_X4_init 7 rfl) (by decide) ?_
  refine z_newA3 (cells2 := 2) (slots2 := 6) qc_X4_15 (by decide) (by decide) (by decide) (by decide) (by decide) rfl rfl (zat dd_X4_init 8 rfl) (fun a4 h5 => ?_)
  refine z_putF fl_X4_17 rfl rfl rfl rfl (zat dd_X4_init 9 rfl) (fun h6 => ?_)
  refine z_iconst (x := 0) (zat dd_X4_init 10 rfl) (by decide) ?_
  refine z_istore_n (lv' := [(1, .int 0), (0, .ref v0)]) (zat dd_X4_init 11 rfl) rfl (Nat.le_of_ble_eq_true rfl) rfl ?_
  refine z_iload_n 0 (zat dd_X4_init 12 rfl) rfl rfl ?_
  refine z_iconst (x := 3) (zat dd_X4_init 13 rfl) (by decide) ?_
  refine z_icmp_ge_f (tgt := 45) (zat dd_X4_init 14 rfl) (by decide) (by decide) ?_
  refine z_aload_n 1 (zat dd_X4_init 15 rfl) rfl rfl ?_
  refine z_getR fl_X4_17 (zat dd_X4_init 16 rfl) (fun a7 => ?_)
  refine z_iload_n 0 (zat dd_X4_init 17 rfl) rfl rfl ?_
  refine z_newN (cells2 := 3) (slots2 := 10) nw_X4_15 (by decide) (by decide) rfl rfl (zat dd_X4_init 18 rfl) (fun a8 h9 => ?_)
  refine z_dup (zat dd_X4_init 19 rfl) rfl ?_
  refine z_callIN_VA (cells2 := 5) (slots2 := 26) (M2 := M_X8_init) [] (fun l D _ _ => m_X8_init l D a8 h9) u_X8_init (by decide) qi_X8_init rfl rfl rfl rfl (Nat.le_of_ble_eq_true rfl) (by decide) (by decide) (by decide) rfl rfl (zat dd_X4_init 20 rfl) (fun h10 => ?_)
  refine z_aast (q := (RX8, TX8, 4)) (fun _ => rfl) rfl (zat dd_X4_init 21 rfl) (fun h11 => ?_)
  refine z_iinc (y := 1) (lv' := [(1, .int 1), (0, .ref v0)]) 0 (zat dd_X4_init 22 rfl) rfl (by decide) (Nat.le_of_ble_eq_true rfl) rfl ?_
  refine z_goto (tgt := 21) (zat dd_X4_init 23 rfl) (by decide) ?_
  refine z_iload_n 0 (zat dd_X4_init 12 rfl) rfl rfl ?_
  refine z_iconst (x := 3) (zat dd_X4_init 13 rfl) (by decide) ?_
  refine z_icmp_ge_f (tgt := 45) (zat dd_X4_init 14 rfl) (by decide) (by decide) ?_
  refine z_aload_n 1 (zat dd_X4_init 15 rfl) rfl rfl ?_
  refine z_getR fl_X4_17 (zat dd_X4_init 16 rfl) (fun a12 => ?_)
  refine z_iload_n 0 (zat dd_X4_init 17 rfl) rfl rfl ?_
  refine z_newN (cells2 := 6) (slots2 := 30) nw_X4_15 (by decide) (by decide) rfl rfl (zat dd_X4_init 18 rfl) (fun a13 h14 => ?_)
  refine z_dup (zat dd_X4_init 19 rfl) rfl ?_
  refine z_callIN_VA (cells2 := 8) (slots2 := 46) (M2 := M_X8_init) [] (fun l D _ _ => m_X8_init l D a13 h14) u_X8_init (by decide) qi_X8_init rfl rfl rfl rfl (Nat.le_of_ble_eq_true rfl) (by decide) (by decide) (by decide) rfl rfl (zat dd_X4_init 20 rfl) (fun h15 => ?_)
  refine z_aast (q := (RX8, TX8, 4)) (fun _ => rfl) rfl (zat dd_X4_init 21 rfl) (fun h16 => ?_)
  refine z_iinc (y := 2) (lv' := [(1, .int 2), (0, .ref v0)]) 0 (zat dd_X4_init 22 rfl) rfl (by decide) (Nat.le_of_ble_eq_true rfl) rfl ?_
  refine z_goto (tgt := 21) (zat dd_X4_init 23 rfl) (by decide) ?_
  refine z_iload_n 0 (zat dd_X4_init 12 rfl) rfl rfl ?_
  refine z_iconst (x := 3) (zat dd_X4_init 13 rfl) (by decide) ?_
  refine z_icmp_ge_f (tgt := 45) (zat dd_X4_init 14 rfl) (by decide) (by decide) ?_
  refine z_aload_n 1 (zat dd_X4_init 15 rfl) rfl rfl ?_
  refine z_getR fl_X4_17 (zat dd_X4_init 16 rfl) (fun a17 => ?_)
  refine z_iload_n 0 (zat dd_X4_init 17 rfl) rfl rfl ?_
  refine z_newN (cells2 := 9) (slots2 := 50) nw_X4_15 (by decide) (by decide) rfl rfl (zat dd_X4_init 18 rfl) (fun a18 h19 => ?_)
  refine z_dup (zat dd_X4_init 19 rfl) rfl ?_
  refine z_callIN_VA (cells2 := 11) (slots2 := 66) (M2 := M_X8_init) [] (fun l D _ _ => m_X8_init l D a18 h19) u_X8_init (by decide) qi_X8_init rfl rfl rfl rfl (Nat.le_of_ble_eq_true rfl) (by decide) (by decide) (by decide) rfl rfl (zat dd_X4_init 20 rfl) (fun h20 => ?_)
  refine z_aast (q := (RX8, TX8, 4)) (fun _ => rfl) rfl (zat dd_X4_init 21 rfl) (fun h21 => ?_)
  refine z_iinc (y := 3) (lv' := [(1, .int 3), (0, .ref v0)]) 0 (zat dd_X4_init 22 rfl) rfl (by decide) (Nat.le_of_ble_eq_true rfl) rfl ?_
  refine z_goto (tgt := 21) (zat dd_X4_init 23 rfl) (by decide) ?_
  refine z_iload_n 0 (zat dd_X4_init 12 rfl) rfl rfl ?_
  refine z_iconst (x := 3) (zat dd_X4_init 13 rfl) (by decide) ?_
  refine z_icmp_ge_t (tgt := 45) (zat dd_X4_init 14 rfl) (by decide) (by decide) ?_
  exact z_vret rfl (zat dd_X4_init 24 rfl)
/-! PaperDolls$MoveSearch.dressesAtLast(LPaperDolls$Doll;LPaperDolls$Wear;I)Z -/
def L_X4_dressesAtLast : List (Nat × Instr × Nat) := [(0, .aload_n 2, 1), (1, .invokevirtual 56, 3), (4, .istore 4, 2), (6, .iconst 0, 1), (7, .istore 5, 2), (9, .iload 5, 2), (11, .aload_n 1, 1), (12, .getfield 40, 3), (15, .if_icmp .ge 48, 3), (18, .aload_n 1, 1), (19, .iload 4, 2), (21, .iconst 1, 1), (22, .iload 5, 2), (24, .ishl, 1), (25, .ior, 1), (26, .invokevirtual 60, 3), (29, .bipush 15, 2), (31, .if_icmp .ne 26, 3), (34, .aload_n 1, 1), (35, .aload_n 2, 1), (36, .iconst 0, 1), (37, .iload 5, 2), (39, .invokevirtual 44, 3), (42, .ifCond .eq 15, 3), (45, .aload_n 0, 1), (46, .getfield 11, 3), (49, .iload_n 3, 1), (50, .iconst 0, 1), (51, .iload 5, 2), (53, .iadd, 1), (54, .iastore, 1), (55, .iconst 1, 1), (56, .ireturn, 1), (57, .iinc 5 1, 3), (60, .goto (-51), 3), (63, .iconst 0, 1), (64, .ireturn, 1)]
theorem dd_X4_dressesAtLast : ∀ q ∈ L_X4_dressesAtLast, decode cX4_dressesAtLast q.1 = .ok q.2 := by decide +kernel
abbrev M_X4_dressesAtLast : zM := (cX4_dressesAtLast, RX4, "dressesAtLast", 6, some .boolean, 4, 0, 0)
theorem u_X4_dressesAtLast : zCal yX4_dressesAtLast (M_X4_dressesAtLast) 3 := ⟨(zmem 644 (by decide +kernel) rfl : Cond.code yX4_dressesAtLast cX4_dressesAtLast 6 (some .boolean) ∈ zTb), zmem 62 (by decide +kernel) rfl, by decide +kernel, Nat.le_of_ble_eq_true rfl⟩
theorem qi_X4_dressesAtLast : Cond.instanceMethod yX4_dressesAtLast ∈ zTb := zmem 643 (by decide +kernel) rfl
theorem qs_X4_dressesAtLast : Cond.selects yX4_dressesAtLast.cls yX4_dressesAtLast yX4_dressesAtLast ∈ zTb := zmem 16 (by decide +kernel) rfl
def f_X4_dressesAtLast_57 (k9 : Nat → Nat → Nat → Int32 → Int32 → Int32 → zH → zR) (v0 : Nat) (v1 : Nat) (v2 : Nat) (v3 : Int32) (v4 : Int32) (v5 : Int32) (h : zH) : zR :=
  k9 v0 v1 v2 v3 v4 (v5 + 1) h
set_option maxRecDepth 100000 in
set_option maxHeartbeats 4000000 in
theorem zb_X4_dressesAtLast_57 (Y : zY) (k9 : Nat → Nat → Nat → Int32 → Int32 → Int32 → zH → zR) (hk9 : ∀ (v0 : Nat) (v1 : Nat) (v2 : Nat) (v3 : Int32) (v4 : Int32) (v5 : Int32) (h : zH), Z Y M_X4_dressesAtLast 0 0 9 [(0, .ref v0), (1, .ref v1), (2, .ref v2), (3, .int v3), (4, .int v4), (5, .int v5)] [] h (k9 v0 v1 v2 v3 v4 v5 h)) (v0 : Nat) (v1 : Nat) (v2 : Nat) (v3 : Int32) (v4 : Int32) (v5 : Int32) (h : zH) : Z Y M_X4_dressesAtLast 0 0 57 [(0, .ref v0), (1, .ref v1), (2, .ref v2), (3, .int v3), (4, .int v4), (5, .int v5)] [] h (f_X4_dressesAtLast_57 k9 v0 v1 v2 v3 v4 v5 h) := by
  rw [f_X4_dressesAtLast_57]
  refine z_iinc (y := v5 + 1) (lv' := [(5, .int (v5 + 1)), (0, .ref v0), (1, .ref v1), (2, .ref v2), (3, .int v3), (4, .int v4)]) 5 (zat dd_X4_dressesAtLast 33 rfl) rfl rfl (Nat.le_of_ble_eq_true rfl) rfl ?_
  refine z_goto (tgt := 9) (zat dd_X4_dressesAtLast 34 rfl) (by decide) ?_
  refine z_sub [1, 2, 3, 4, 5, 0] rfl ?_
  exact hk9 v0 v1 v2 v3 v4 (v5 + 1) h
def f_X4_dressesAtLast_9 : Nat → Nat → Nat → Nat → Int32 → Int32 → Int32 → zH → zR
  | 0, _, _, _, _, _, _, _ => none
  | n + 1, v0, v1, v2, v3, v4, v5, h =>
  zgI h v1 0 1 fun x1 =>
  if x1 ≤ v5 then
  zrZ 0 h
  else
  zoc h v1 0 <|
  zcI (f_X1_spotsOfSet v1 (v4 ||| (1 <<< (v5 &&& 31))) h) fun x2 h3 =>
  if x2 = 15 then
  zoc h3 v1 0 <|
  zcI (f_X1_mayMove v1 v2 0 v5 h3) fun x4 h5 =>
  if x4 = 0 then
  f_X4_dressesAtLast_57 (f_X4_dressesAtLast_9 n) v0 v1 v2 v3 v4 v5 h5
  else
  zgR h5 v0 1 0 fun a6 =>
  zsI h5 a6 0 v3 (0 + v5) fun h7 =>
  zrZ 1 h7
  else
  f_X4_dressesAtLast_57 (f_X4_dressesAtLast_9 n) v0 v1 v2 v3 v4 v5 h3
set_option maxRecDepth 100000 in
set_option maxHeartbeats 4000000 in
theorem zb_X4_dressesAtLast_9 (Y : zY) : ∀ (n : Nat) (v0 : Nat) (v1 : Nat) (v2 : Nat) (v3 : Int32) (v4 : Int32) (v5 : Int32) (h : zH), Z Y M_X4_dressesAtLast 0 0 9 [(0, .ref v0), (1, .ref v1), (2, .ref v2), (3, .int v3), (4, .int v4), (5, .int v5)] [] h (f_X4_dressesAtLast_9 n v0 v1 v2 v3 v4 v5 h) := by
  intro n
  induction n with
  | zero =>
    intro v0 v1 v2 v3 v4 v5 h
    rw [f_X4_dressesAtLast_9]
    exact z_none
  | succ n ih =>
    intro v0 v1 v2 v3 v4 v5 h
    rw [f_X4_dressesAtLast_9]
    refine z_iload 5 (zat dd_X4_dressesAtLast 5 rfl) rfl ?_
    refine z_aload_n 1 (zat dd_X4_dressesAtLast 6 rfl) rfl rfl ?_
    refine z_getI fl_X4_40 (zat dd_X4_dressesAtLast 7 rfl) (fun x1 => ?_)
    refine z_icmp_ge (tgt := 63) (zat dd_X4_dressesAtLast 8 rfl) (by decide) ?_ ?_
    · refine z_iconst (x := 0) (zat dd_X4_dressesAtLast 35 rfl) (by decide) ?_
      exact z_zret rfl (zat dd_X4_dressesAtLast 36 rfl)
    · refine z_aload_n 1 (zat dd_X4_dressesAtLast 9 rfl) rfl rfl ?_
      refine z_iload 4 (zat dd_X4_dressesAtLast 10 rfl) rfl ?_
      refine z_iconst (x := 1) (zat dd_X4_dressesAtLast 11 rfl) (by decide) ?_
      refine z_iload 5 (zat dd_X4_dressesAtLast 12 rfl) rfl ?_
      refine z_ishl (zat dd_X4_dressesAtLast 13 rfl) ?_
      refine z_ior (zat dd_X4_dressesAtLast 14 rfl) ?_
      refine z_callV_I0 (M2 := M_X1_spotsOfSet) [.int (v4 ||| (1 <<< (v5 &&& 31)))] (fun l D _ _ => m_X1_spotsOfSet l D v1 (v4 ||| (1 <<< (v5 &&& 31))) h) u_X1_spotsOfSet ql_X4_60 qi_X1_spotsOfSet qs_X1_spotsOfSet (ci := 0) rfl rfl rfl (Nat.le_of_ble_eq_true rfl) (by decide) rfl rfl (zat dd_X4_dressesAtLast 15 rfl) (fun x2 h3 => ?_)
      refine z_bipush (x := 15) (zat dd_X4_dressesAtLast 16 rfl) (by decide) ?_
      refine z_icmp_ne (tgt := 57) (zat dd_X4_dressesAtLast 17 rfl) (by decide) ?_ ?_
      · exact zb_X4_dressesAtLast_57 Y (f_X4_dressesAtLast_9 n) ih v0 v1 v2 v3 v4 v5 h3
      · refine z_aload_n 1 (zat dd_X4_dressesAtLast 18 rfl) rfl rfl ?_
        refine z_aload_n 2 (zat dd_X4_dressesAtLast 19 rfl) rfl rfl ?_
        refine z_iconst (x := 0) (zat dd_X4_dressesAtLast 20 rfl) (by decide) ?_
        refine z_iload 5 (zat dd_X4_dressesAtLast 21 rfl) rfl ?_
        refine z_callV_I0 (M2 := M_X1_mayMove) [.ref v2, .int 0, .int v5] (fun l D _ _ => m_X1_mayMove l D v1 v2 0 v5 h3) u_X1_mayMove ql_X4_44 qi_X1_mayMove qs_X1_mayMove (ci := 0) rfl rfl rfl (Nat.le_of_ble_eq_true rfl) (by decide) rfl rfl (zat dd_X4_dressesAtLast 22 rfl) (fun x4 h5 => ?_)
        refine z_if_eq (tgt := 57) (zat dd_X4_dressesAtLast 23 rfl) (by decide) ?_ ?_
        · exact zb_X4_dressesAtLast_57 Y (f_X4_dressesAtLast_9 n) ih v0 v1 v2 v3 v4 v5 h5
        · refine z_aload_n 0 (zat dd_X4_dressesAtLast 24 rfl) rfl rfl ?_
          refine z_getR fl_X4_11 (zat dd_X4_dressesAtLast 25 rfl) (fun a6 => ?_)
          refine z_iload_n 3 (zat dd_X4_dressesAtLast 26 rfl) rfl rfl ?_
          refine z_iconst (x := 0) (zat dd_X4_dressesAtLast 27 rfl) (by decide) ?_
          refine z_iload 5 (zat dd_X4_dressesAtLast 28 rfl) rfl ?_
          refine z_iadd (zat dd_X4_dressesAtLast 29 rfl) ?_
          refine z_iast (zat dd_X4_dressesAtLast 30 rfl) (fun h7 => ?_)
          refine z_iconst (x := 1) (zat dd_X4_dressesAtLast 31 rfl) (by decide) ?_
          exact z_zret rfl (zat dd_X4_dressesAtLast 32 rfl)
def f_X4_dressesAtLast (v0 : Nat) (v1 : Nat) (v2 : Nat) (v3 : Int32) (h : zH) : zR :=
  zoc h v2 4 <|
  zcI (f_X8_onSet v2 h) fun x1 h2 =>
  f_X4_dressesAtLast_9 zF v0 v1 v2 v3 x1 0 h2
set_option maxRecDepth 100000 in
set_option maxHeartbeats 4000000 in
theorem m_X4_dressesAtLast (l : Launch) (D : zD) (v0 : Nat) (v1 : Nat) (v2 : Nat) (v3 : Int32) (h : zH) : zMet l D yX4_dressesAtLast M_X4_dressesAtLast [.ref v0, .ref v1, .ref v2, .int v3] h (f_X4_dressesAtLast v0 v1 v2 v3 h) := by
  refine zMet.of (by decide +kernel) ⟨rfl, rfl⟩ (Nat.le_of_ble_eq_true rfl) (fun Y hl hD => ?_)
  show Z Y M_X4_dressesAtLast 0 0 0 [(0, .ref v0), (1, .ref v1), (2, .ref v2), (3, .int v3)] [] h _
  rw [f_X4_dressesAtLast]
  refine z_aload_n 2 (zat dd_X4_dressesAtLast 0 rfl) rfl rfl ?_
  refine z_callV_I0 (M2 := M_X8_onSet) [] (fun l D _ _ => m_X8_onSet l D v2 h) u_X8_onSet ql_X4_56 qi_X8_onSet qs_X8_onSet (ci := 4) rfl rfl rfl (Nat.le_of_ble_eq_true rfl) (by decide) rfl rfl (zat dd_X4_dressesAtLast 1 rfl) (fun x1 h2 => ?_)
  refine z_istore (lv' := [(4, .int x1), (0, .ref v0), (1, .ref v1), (2, .ref v2), (3, .int v3)]) (zat dd_X4_dressesAtLast 2 rfl) (Nat.le_of_ble_eq_true rfl) rfl ?_
  refine z_iconst (x := 0) (zat dd_X4_dressesAtLast 3 rfl) (by decide) ?_
  refine z_istore (lv' := [(5, .int 0), (4, .int x1), (0, .ref v0), (1, .ref v1), (2, .ref v2), (3, .int v3)]) (zat dd_X4_dressesAtLast 4 rfl) (Nat.le_of_ble_eq_true rfl) rfl ?_
  refine z_sub [2, 3, 4, 5, 1, 0] rfl ?_
  exact zb_X4_dressesAtLast_9 Y zF v0 v1 v2 v3 x1 0 h2
/-! PaperDolls$MoveSearch.dresses(LPaperDolls$Doll;LPaperDolls$Wear;II)Z -/
def L_X4_dresses : List (Nat × Instr × Nat) := [(0, .iload_n 3, 1), (1, .ifCond .lt 14, 3), (4, .iload_n 3, 1), (5, .iload 4, 2), (7, .if_icmp .ge 8, 3), (10, .iload_n 3, 1), (11, .iconst 3, 1), (12, .if_icmp .lt 5, 3), (15, .iconst 0, 1), (16, .ireturn, 1), (17, .iload_n 3, 1), (18, .iload 4, 2), (20, .iconst 1, 1), (21, .isub, 1), (22, .if_icmp .ne 11, 3), (25, .aload_n 0, 1), (26, .aload_n 1, 1), (27, .aload_n 2, 1), (28, .iload_n 3, 1), (29, .invokevirtual 36, 3), (32, .ireturn, 1), (33, .aload_n 0, 1), (34, .getfield 17, 3), (37, .iload_n 3, 1), (38, .aaload, 1), (39, .astore 5, 2), (41, .iconst 0, 1), (42, .istore 6, 2), (44, .iload 6, 2), (46, .iconst 2, 1), (47, .if_icmp .gt 86, 3), (50, .iconst 0, 1), (51, .istore 7, 2), (53, .iload 7, 2), (55, .aload_n 1, 1), (56, .getfield 40, 3), (59, .if_icmp .ge 68, 3), (62, .aload_n 1, 1), (63, .aload_n 2, 1), (64, .iload 6, 2), (66, .iload 7, 2), (68, .invokevirtual 44, 3), (71, .ifCond .eq 50, 3), (74, .aload 5, 2), (76, .aload_n 2, 1), (77, .invokevirtual 48, 3), (80, .aload_n 1, 1), (81, .aload 5, 2), (83, .iload 6, 2), (85, .iload 7, 2), (87, .invokevirtual 52, 3), (90, .aload_n 0, 1), (91, .getfield 11, 3), (94, .iload_n 3, 1), (95, .bipush 10, 2), (97, .iload 6, 2), (99, .imul, 1), (100, .iload 7, 2), (102, .iadd, 1), (103, .iastore, 1), (104, .aload_n 0, 1), (105, .aload_n 1, 1), (106, .aload 5, 2), (108, .iload_n 3, 1), (109, .iconst 1, 1), (110, .iadd, 1), (111, .iload 4, 2), (113, .invokevirtual 32, 3), (116, .ifCond .eq 5, 3), (119, .iconst 1, 1), (120, .ireturn, 1), (121, .iinc 7 1, 3), (124, .goto (-71), 3), (127, .iinc 6 1, 3), (130, .goto (-86), 3), (133, .iconst 0, 1), (134, .ireturn, 1)]
theorem dd_X4_dresses : ∀ q ∈ L_X4_dresses, decode cX4_dresses q.1 = .ok q.2 := by decide +kernel
abbrev M_X4_dresses (d : Nat) : zM := (cX4_dresses, RX4, "dresses", 8, some .boolean, 5 + d, 0, 0)
theorem u_X4_dresses (d : Nat) : zCal yX4_dresses (M_X4_dresses d) 4 := ⟨(zmem 640 (by decide +kernel) rfl : Cond.code yX4_dresses cX4_dresses 8 (some .boolean) ∈ zTb), zmem 62 (by decide +kernel) rfl, by decide +kernel, Nat.le_of_ble_eq_true rfl⟩
theorem qi_X4_dresses : Cond.instanceMethod yX4_dresses ∈ zTb := zmem 639 (by decide +kernel) rfl
theorem qs_X4_dresses : Cond.selects yX4_dresses.cls yX4_dresses yX4_dresses ∈ zTb := zmem 15 (by decide +kernel) rfl
def f_X4_dresses_121 (rc : Nat → Nat → Nat → Int32 → Int32 → zH → zR) (k53 : Nat → Nat → Nat → Int32 → Int32 → Nat → Int32 → Int32 → zH → zR) (v0 : Nat) (v1 : Nat) (v2 : Nat) (v3 : Int32) (v4 : Int32) (v5 : Nat) (v6 : Int32) (v7 : Int32) (h : zH) : zR :=
  k53 v0 v1 v2 v3 v4 v5 v6 (v7 + 1) h
set_option maxRecDepth 100000 in
set_option maxHeartbeats 4000000 in
theorem zb_X4_dresses_121 (Y : zY) (rc : Nat → Nat → Nat → Int32 → Int32 → zH → zR) (kr : Nat) (hrc : ∀ (l : Launch) (D : zD) (a0 : Nat) (p1 : Nat) (p2 : Nat) (p3 : Int32) (p4 : Int32) (h : zH), zMet l D yX4_dresses (M_X4_dresses kr) [.ref a0, .ref p1, .ref p2, .int p3, .int p4] h (rc a0 p1 p2 p3 p4 h)) (k53 : Nat → Nat → Nat → Int32 → Int32 → Nat → Int32 → Int32 → zH → zR) (hk53 : ∀ (v0 : Nat) (v1 : Nat) (v2 : Nat) (v3 : Int32) (v4 : Int32) (v5 : Nat) (v6 : Int32) (v7 : Int32) (h : zH), Z Y (M_X4_dresses (kr + 1)) 0 0 53 [(0, .ref v0), (1, .ref v1), (2, .ref v2), (3, .int v3), (4, .int v4), (5, .ref v5), (6, .int v6), (7, .int v7)] [] h (k53 v0 v1 v2 v3 v4 v5 v6 v7 h)) (v0 : Nat) (v1 : Nat) (v2 : Nat) (v3 : Int32) (v4 : Int32) (v5 : Nat) (v6 : Int32) (v7 : Int32) (h : zH) : Z Y (M_X4_dresses (kr + 1)) 0 0 121 [(0, .ref v0), (1, .ref v1), (2, .ref v2), (3, .int v3), (4, .int v4), (5, .ref v5), (6, .int v6), (7, .int v7)] [] h (f_X4_dresses_121 rc k53 v0 v1 v2 v3 v4 v5 v6 v7 h) := by
  rw [f_X4_dresses_121]
  refine z_iinc (y := v7 + 1) (lv' := [(7, .int (v7 + 1)), (0, .ref v0), (1, .ref v1), (2, .ref v2), (3, .int v3), (4, .int v4), (5, .ref v5), (6, .int v6)]) 7 (zat dd_X4_dresses 71 rfl) rfl rfl (Nat.le_of_ble_eq_true rfl) rfl ?_
  refine z_goto (tgt := 53) (zat dd_X4_dresses 72 rfl) (by decide) ?_
  refine z_sub [1, 2, 3, 4, 5, 6, 7, 0] rfl ?_
  exact hk53 v0 v1 v2 v3 v4 v5 v6 (v7 + 1) h
def f_X4_dresses_53 (rc : Nat → Nat → Nat → Int32 → Int32 → zH → zR) (k44 : Nat → Nat → Nat → Int32 → Int32 → Nat → Int32 → zH → zR) : Nat → Nat → Nat → Nat → Int32 → Int32 → Nat → Int32 → Int32 → zH → zR
  | 0, _, _, _, _, _, _, _, _, _ => none
  | n + 1, v0, v1, v2, v3, v4, v5, v6, v7, h =>
  zgI h v1 0 1 fun x1 =>
  if x1 ≤ v7 then
  k44 v0 v1 v2 v3 v4 v5 (v6 + 1) h
  else
  zoc h v1 0 <|
  zcI (f_X1_mayMove v1 v2 v6 v7 h) fun x2 h3 =>
  if x2 = 0 then
  f_X4_dresses_121 rc (f_X4_dresses_53 rc k44 n) v0 v1 v2 v3 v4 v5 v6 v7 h3
  else
  zoc h3 v5 4 <|
  zcV (f_X8_copyFrom v5 v2 h3) fun h4 =>
  zoc h4 v1 0 <|
  zcV (f_X1_move v1 v5 v6 v7 h4) fun h5 =>
  zgR h5 v0 1 0 fun a6 =>
  zsI h5 a6 0 v3 ((10 * v6) + v7) fun h7 =>
  zoc h7 v0 1 <|
  zcI (rc v0 v1 v5 (v3 + 1) v4 h7) fun x8 h9 =>
  if x8 = 0 then
  f_X4_dresses_121 rc (f_X4_dresses_53 rc k44 n) v0 v1 v2 v3 v4 v5 v6 v7 h9
  else
  zrZ 1 h9
set_option maxRecDepth 100000 in
set_option maxHeartbeats 4000000 in
theorem zb_X4_dresses_53 (Y : zY) (rc : Nat → Nat → Nat → Int32 → Int32 → zH → zR) (kr : Nat) (hrc : ∀ (l : Launch) (D : zD) (a0 : Nat) (p1 : Nat) (p2 : Nat) (p3 : Int32) (p4 : Int32) (h : zH), zMet l D yX4_dresses (M_X4_dresses kr) [.ref a0, .ref p1, .ref p2, .int p3, .int p4] h (rc a0 p1 p2 p3 p4 h)) (k44 : Nat → Nat → Nat → Int32 → Int32 → Nat → Int32 → zH → zR) (hk44 : ∀ (v0 : Nat) (v1 : Nat) (v2 : Nat) (v3 : Int32) (v4 : Int32) (v5 : Nat) (v6 : Int32) (h : zH), Z Y (M_X4_dresses (kr + 1)) 0 0 44 [(0, .ref v0), (1, .ref v1), (2, .ref v2), (3, .int v3), (4, .int v4), (5, .ref v5), (6, .int v6)] [] h (k44 v0 v1 v2 v3 v4 v5 v6 h)) : ∀ (n : Nat) (v0 : Nat) (v1 : Nat) (v2 : Nat) (v3 : Int32) (v4 : Int32) (v5 : Nat) (v6 : Int32) (v7 : Int32) (h : zH), Z Y (M_X4_dresses (kr + 1)) 0 0 53 [(0, .ref v0), (1, .ref v1), (2, .ref v2), (3, .int v3), (4, .int v4), (5, .ref v5), (6, .int v6), (7, .int v7)] [] h (f_X4_dresses_53 rc k44 n v0 v1 v2 v3 v4 v5 v6 v7 h) := by
  intro n
  induction n with
  | zero =>
    intro v0 v1 v2 v3 v4 v5 v6 v7 h
    rw [f_X4_dresses_53]
    exact z_none
  | succ n ih =>
    intro v0 v1 v2 v3 v4 v5 v6 v7 h
    rw [f_X4_dresses_53]
    refine z_iload 7 (zat dd_X4_dresses 33 rfl) rfl ?_
    refine z_aload_n 1 (zat dd_X4_dresses 34 rfl) rfl rfl ?_
    refine z_getI fl_X4_40 (zat dd_X4_dresses 35 rfl) (fun x1 => ?_)
    refine z_icmp_ge (tgt := 127) (zat dd_X4_dresses 36 rfl) (by decide) ?_ ?_
    · refine z_iinc (y := v6 + 1) (lv' := [(6, .int (v6 + 1)), (0, .ref v0), (1, .ref v1), (2, .ref v2), (3, .int v3), (4, .int v4), (5, .ref v5), (7, .int v7)]) 6 (zat dd_X4_dresses 73 rfl) rfl rfl (Nat.le_of_ble_eq_true rfl) rfl ?_
      refine z_goto (tgt := 44) (zat dd_X4_dresses 74 rfl) (by decide) ?_
      refine z_sub [1, 2, 3, 4, 5, 6, 0] rfl ?_
      exact hk44 v0 v1 v2 v3 v4 v5 (v6 + 1) h
    · refine z_aload_n 1 (zat dd_X4_dresses 37 rfl) rfl rfl ?_
      refine z_aload_n 2 (zat dd_X4_dresses 38 rfl) rfl rfl ?_
      refine z_iload 6 (zat dd_X4_dresses 39 rfl) rfl ?_
      refine z_iload 7 (zat dd_X4_dresses 40 rfl) rfl ?_
      refine z_callV_I0 (M2 := M_X1_mayMove) [.ref v2, .int v6, .int v7] (fun l D _ _ => m_X1_mayMove l D v1 v2 v6 v7 h) u_X1_mayMove ql_X4_44 qi_X1_mayMove qs_X1_mayMove (ci := 0) rfl rfl rfl (Nat.le_of_ble_eq_true rfl) (Nat.le_trans (m := 5) (by decide) (Nat.le_add_right _ _)) rfl rfl (zat dd_X4_dresses 41 rfl) (fun x2 h3 => ?_)
      refine z_if_eq (tgt := 121) (zat dd_X4_dresses 42 rfl) (by decide) ?_ ?_
      · exact zb_X4_dresses_121 Y rc kr hrc (f_X4_dresses_53 rc k44 n) ih v0 v1 v2 v3 v4 v5 v6 v7 h3
      · refine z_aload 5 (zat dd_X4_dresses 43 rfl) rfl ?_
        refine z_aload_n 2 (zat dd_X4_dresses 44 rfl) rfl rfl ?_
        refine z_callV_V0 (M2 := M_X8_copyFrom) [.ref v2] (fun l D _ _ => m_X8_copyFrom l D v5 v2 h3) u_X8_copyFrom ql_X4_48 qi_X8_copyFrom qs_X8_copyFrom (ci := 4) rfl rfl rfl (Nat.le_of_ble_eq_true rfl) (Nat.le_trans (m := 5) (by decide) (Nat.le_add_right _ _)) rfl rfl (zat dd_X4_dresses 45 rfl) (fun h4 => ?_)
        refine z_aload_n 1 (zat dd_X4_dresses 46 rfl) rfl rfl ?_
        refine z_aload 5 (zat dd_X4_dresses 47 rfl) rfl ?_
        refine z_iload 6 (zat dd_X4_dresses 48 rfl) rfl ?_
        refine z_iload 7 (zat dd_X4_dresses 49 rfl) rfl ?_
        refine z_callV_V0 (M2 := M_X1_move) [.ref v5, .int v6, .int v7] (fun l D _ _ => m_X1_move l D v1 v5 v6 v7 h4) u_X1_move ql_X4_52 qi_X1_move qs_X1_move (ci := 0) rfl rfl rfl (Nat.le_of_ble_eq_true rfl) (Nat.le_trans (m := 5) (by decide) (Nat.le_add_right _ _)) rfl rfl (zat dd_X4_dresses 50 rfl) (fun h5 => ?_)
        refine z_aload_n 0 (zat dd_X4_dresses 51 rfl) rfl rfl ?_
        refine z_getR fl_X4_11 (zat dd_X4_dresses 52 rfl) (fun a6 => ?_)
        refine z_iload_n 3 (zat dd_X4_dresses 53 rfl) rfl rfl ?_
        refine z_bipush (x := 10) (zat dd_X4_dresses 54 rfl) (by decide) ?_
        refine z_iload 6 (zat dd_X4_dresses 55 rfl) rfl ?_
        refine z_imul (zat dd_X4_dresses 56 rfl) ?_
        refine z_iload 7 (zat dd_X4_dresses 57 rfl) rfl ?_
        refine z_iadd (zat dd_X4_dresses 58 rfl) ?_
        refine z_iast (zat dd_X4_dresses 59 rfl) (fun h7 => ?_)
        refine z_aload_n 0 (zat dd_X4_dresses 60 rfl) rfl rfl ?_
        refine z_aload_n 1 (zat dd_X4_dresses 61 rfl) rfl rfl ?_
        refine z_aload 5 (zat dd_X4_dresses 62 rfl) rfl ?_
        refine z_iload_n 3 (zat dd_X4_dresses 63 rfl) rfl rfl ?_
        refine z_iconst (x := 1) (zat dd_X4_dresses 64 rfl) (by decide) ?_
        refine z_iadd (zat dd_X4_dresses 65 rfl) ?_
        refine z_iload 4 (zat dd_X4_dresses 66 rfl) rfl ?_
        refine z_callV_I0 (M2 := (M_X4_dresses kr)) [.ref v1, .ref v5, .int (v3 + 1), .int v4] (fun l D _ _ => hrc l D v0 v1 v5 (v3 + 1) v4 h7) (u_X4_dresses kr) ql_X4_32 qi_X4_dresses qs_X4_dresses (ci := 1) rfl rfl rfl (Nat.le_of_ble_eq_true rfl) (Nat.le_refl _) rfl rfl (zat dd_X4_dresses 67 rfl) (fun x8 h9 => ?_)
        refine z_if_eq (tgt := 121) (zat dd_X4_dresses 68 rfl) (by decide) ?_ ?_
        · exact zb_X4_dresses_121 Y rc kr hrc (f_X4_dresses_53 rc k44 n) ih v0 v1 v2 v3 v4 v5 v6 v7 h9
        · refine z_iconst (x := 1) (zat dd_X4_dresses 69 rfl) (by decide) ?_
          exact z_zret rfl (zat dd_X4_dresses 70 rfl)
def f_X4_dresses_44 (rc : Nat → Nat → Nat → Int32 → Int32 → zH → zR) : Nat → Nat → Nat → Nat → Int32 → Int32 → Nat → Int32 → zH → zR
  | 0, _, _, _, _, _, _, _, _ => none
  | n + 1, v0, v1, v2, v3, v4, v5, v6, h =>
  if 2 < v6 then
  zrZ 0 h
  else
  f_X4_dresses_53 rc (f_X4_dresses_44 rc n) zF v0 v1 v2 v3 v4 v5 v6 0 h
set_option maxRecDepth 100000 in
set_option maxHeartbeats 4000000 in
theorem zb_X4_dresses_44 (Y : zY) (rc : Nat → Nat → Nat → Int32 → Int32 → zH → zR) (kr : Nat) (hrc : ∀ (l : Launch) (D : zD) (a0 : Nat) (p1 : Nat) (p2 : Nat) (p3 : Int32) (p4 : Int32) (h : zH), zMet l D yX4_dresses (M_X4_dresses kr) [.ref a0, .ref p1, .ref p2, .int p3, .int p4] h (rc a0 p1 p2 p3 p4 h)) : ∀ (n : Nat) (v0 : Nat) (v1 : Nat) (v2 : Nat) (v3 : Int32) (v4 : Int32) (v5 : Nat) (v6 : Int32) (h : zH), Z Y (M_X4_dresses (kr + 1)) 0 0 44 [(0, .ref v0), (1, .ref v1), (2, .ref v2), (3, .int v3), (4, .int v4), (5, .ref v5), (6, .int v6)] [] h (f_X4_dresses_44 rc n v0 v1 v2 v3 v4 v5 v6 h) := by
  intro n
  induction n with
  | zero =>
    intro v0 v1 v2 v3 v4 v5 v6 h
    rw [f_X4_dresses_44]
    exact z_none
  | succ n ih =>
    intro v0 v1 v2 v3 v4 v5 v6 h
    rw [f_X4_dresses_44]
    refine z_iload 6 (zat dd_X4_dresses 28 rfl) rfl ?_
    refine z_iconst (x := 2) (zat dd_X4_dresses 29 rfl) (by decide) ?_
    refine z_icmp_gt (tgt := 133) (zat dd_X4_dresses 30 rfl) (by decide) ?_ ?_
    · refine z_iconst (x := 0) (zat dd_X4_dresses 75 rfl) (by decide) ?_
      exact z_zret rfl (zat dd_X4_dresses 76 rfl)
    · refine z_iconst (x := 0) (zat dd_X4_dresses 31 rfl) (by decide) ?_
      refine z_istore (lv' := [(7, .int 0), (0, .ref v0), (1, .ref v1), (2, .ref v2), (3, .int v3), (4, .int v4), (5, .ref v5), (6, .int v6)]) (zat dd_X4_dresses 32 rfl) (Nat.le_of_ble_eq_true rfl) rfl ?_
      refine z_sub [1, 2, 3, 4, 5, 6, 7, 0] rfl ?_
      exact zb_X4_dresses_53 Y rc kr hrc (f_X4_dresses_44 rc n) ih zF v0 v1 v2 v3 v4 v5 v6 0 h
def f_X4_dresses_15 (rc : Nat → Nat → Nat → Int32 → Int32 → zH → zR) (h : zH) : zR :=
  zrZ 0 h
set_option maxRecDepth 100000 in
set_option maxHeartbeats 4000000 in
theorem zb_X4_dresses_15 (Y : zY) (rc : Nat → Nat → Nat → Int32 → Int32 → zH → zR) (kr : Nat) (hrc : ∀ (l : Launch) (D : zD) (a0 : Nat) (p1 : Nat) (p2 : Nat) (p3 : Int32) (p4 : Int32) (h : zH), zMet l D yX4_dresses (M_X4_dresses kr) [.ref a0, .ref p1, .ref p2, .int p3, .int p4] h (rc a0 p1 p2 p3 p4 h)) (h : zH) : Z Y (M_X4_dresses (kr + 1)) 0 0 15 [] [] h (f_X4_dresses_15 rc  h) := by
  rw [f_X4_dresses_15]
  refine z_iconst (x := 0) (zat dd_X4_dresses 8 rfl) (by decide) ?_
  exact z_zret rfl (zat dd_X4_dresses 9 rfl)
def f_X4_dresses_body (rc : Nat → Nat → Nat → Int32 → Int32 → zH → zR) (v0 : Nat) (v1 : Nat) (v2 : Nat) (v3 : Int32) (v4 : Int32) (h : zH) : zR :=
  if v3 < 0 then
  f_X4_dresses_15 rc h
  else
  if v4 ≤ v3 then
  f_X4_dresses_15 rc h
  else
  if v3 < 3 then
  if v3 = (v4 - 1) then
  zoc h v0 1 <|
  zcI (f_X4_dressesAtLast v0 v1 v2 v3 h) fun x3 h4 =>
  zrZ x3 h4
  else
  zgR h v0 1 1 fun a1 =>
  zaR h a1 3 v3 fun a2 =>
  f_X4_dresses_44 rc zF v0 v1 v2 v3 v4 a2 0 h
  else
  f_X4_dresses_15 rc h
def f_X4_dresses : Nat → Nat → Nat → Nat → Int32 → Int32 → zH → zR
  | 0, _, _, _, _, _, _ => none
  | d + 1, v0, v1, v2, v3, v4, h => f_X4_dresses_body (f_X4_dresses d) v0 v1 v2 v3 v4 h
set_option maxRecDepth 100000 in
set_option maxHeartbeats 4000000 in
theorem mb_X4_dresses (l : Launch) (D : zD) (rc : Nat → Nat → Nat → Int32 → Int32 → zH → zR) (kr : Nat) (hrc : ∀ (l : Launch) (D : zD) (a0 : Nat) (p1 : Nat) (p2 : Nat) (p3 : Int32) (p4 : Int32) (h : zH), zMet l D yX4_dresses (M_X4_dresses kr) [.ref a0, .ref p1, .ref p2, .int p3, .int p4] h (rc a0 p1 p2 p3 p4 h)) (v0 : Nat) (v1 : Nat) (v2 : Nat) (v3 : Int32) (v4 : Int32) (h : zH) : zMet l D yX4_dresses (M_X4_dresses (kr + 1)) [.ref v0, .ref v1, .ref v2, .int v3, .int v4] h (f_X4_dresses_body rc v0 v1 v2 v3 v4 h) := by
  refine zMet.of (by decide +kernel) ⟨rfl, rfl⟩ (Nat.le_of_ble_eq_true rfl) (fun Y hl hD => ?_)
  show Z Y (M_X4_dresses (kr + 1)) 0 0 0 [(0, .ref v0), (1, .ref v1), (2, .ref v2), (3, .int v3), (4, .int v4)] [] h _
  rw [f_X4_dresses_body]
  refine z_iload_n 3 (zat dd_X4_dresses 0 rfl) rfl rfl ?_
  refine z_if_lt (tgt := 15) (zat dd_X4_dresses 1 rfl) (by decide) ?_ ?_
  · refine z_sub [] rfl ?_
    exact zb_X4_dresses_15 Y rc kr hrc h
  · refine z_iload_n 3 (zat dd_X4_dresses 2 rfl) rfl rfl ?_
    refine z_iload 4 (zat dd_X4_dresses 3 rfl) rfl ?_
    refine z_icmp_ge (tgt := 15) (zat dd_X4_dresses 4 rfl) (by decide) ?_ ?_
    · refine z_sub [] rfl ?_
      exact zb_X4_dresses_15 Y rc kr hrc h
    · refine z_iload_n 3 (zat dd_X4_dresses 5 rfl) rfl rfl ?_
      refine z_iconst (x := 3) (zat dd_X4_dresses 6 rfl) (by decide) ?_
      refine z_icmp_lt (tgt := 17) (zat dd_X4_dresses 7 rfl) (by decide) ?_ ?_
      · refine z_iload_n 3 (zat dd_X4_dresses 10 rfl) rfl rfl ?_
        refine z_iload 4 (zat dd_X4_dresses 11 rfl) rfl ?_
        refine z_iconst (x := 1) (zat dd_X4_dresses 12 rfl) (by decide) ?_
        refine z_isub (zat dd_X4_dresses 13 rfl) ?_
        refine z_icmp_ne (tgt := 33) (zat dd_X4_dresses 14 rfl) (by decide) ?_ ?_
        · refine z_aload_n 0 (zat dd_X4_dresses 21 rfl) rfl rfl ?_
          refine z_getR fl_X4_17 (zat dd_X4_dresses 22 rfl) (fun a1 => ?_)
          refine z_iload_n 3 (zat dd_X4_dresses 23 rfl) rfl rfl ?_
          refine z_aald (fun _ => rfl) (zat dd_X4_dresses 24 rfl) (fun a2 => ?_)
          refine z_astore (lv' := [(5, .ref a2), (0, .ref v0), (1, .ref v1), (2, .ref v2), (3, .int v3), (4, .int v4)]) (zat dd_X4_dresses 25 rfl) (Nat.le_of_ble_eq_true rfl) rfl ?_
          refine z_iconst (x := 0) (zat dd_X4_dresses 26 rfl) (by decide) ?_
          refine z_istore (lv' := [(6, .int 0), (5, .ref a2), (0, .ref v0), (1, .ref v1), (2, .ref v2), (3, .int v3), (4, .int v4)]) (zat dd_X4_dresses 27 rfl) (Nat.le_of_ble_eq_true rfl) rfl ?_
          refine z_sub [2, 3, 4, 5, 6, 1, 0] rfl ?_
          exact zb_X4_dresses_44 Y rc kr hrc zF v0 v1 v2 v3 v4 a2 0 h
        · refine z_aload_n 0 (zat dd_X4_dresses 15 rfl) rfl rfl ?_
          refine z_aload_n 1 (zat dd_X4_dresses 16 rfl) rfl rfl ?_
          refine z_aload_n 2 (zat dd_X4_dresses 17 rfl) rfl rfl ?_
          refine z_iload_n 3 (zat dd_X4_dresses 18 rfl) rfl rfl ?_
          refine z_callV_I0 (M2 := M_X4_dressesAtLast) [.ref v1, .ref v2, .int v3] (fun l D _ _ => m_X4_dressesAtLast l D v0 v1 v2 v3 h) u_X4_dressesAtLast ql_X4_36 qi_X4_dressesAtLast qs_X4_dressesAtLast (ci := 1) rfl rfl rfl (Nat.le_of_ble_eq_true rfl) (Nat.le_trans (m := 5) (by decide) (Nat.le_add_right _ _)) rfl rfl (zat dd_X4_dresses 19 rfl) (fun x3 h4 => ?_)
          exact z_zret rfl (zat dd_X4_dresses 20 rfl)
      · refine z_sub [] rfl ?_
        exact zb_X4_dresses_15 Y rc kr hrc h
theorem m_X4_dresses (l : Launch) (D : zD) (d : Nat) : ∀ (v0 : Nat) (v1 : Nat) (v2 : Nat) (v3 : Int32) (v4 : Int32) (h : zH), zMet l D yX4_dresses (M_X4_dresses d) [.ref v0, .ref v1, .ref v2, .int v3, .int v4] h (f_X4_dresses d v0 v1 v2 v3 v4 h) := by
  induction d generalizing l D with
  | zero =>
    intro v0 v1 v2 v3 v4 h v h' hr
    rw [f_X4_dresses] at hr
    cases hr
  | succ d ih =>
    intro v0 v1 v2 v3 v4 h
    rw [f_X4_dresses]
    exact mb_X4_dresses l D (f_X4_dresses d) d ih v0 v1 v2 v3 v4 h
/-! PaperDolls$MoveSearch.fewest(LPaperDolls$Doll;)I -/
def L_X4_fewest : List (Nat × Instr × Nat) := [(0, .aload_n 1, 1), (1, .aload_n 1, 1), (2, .getfield 22, 3), (5, .invokevirtual 28, 3), (8, .ifCond .eq 5, 3), (11, .iconst 0, 1), (12, .ireturn, 1), (13, .iconst 1, 1), (14, .istore_n 2, 1), (15, .iload_n 2, 1), (16, .iconst 3, 1), (17, .if_icmp .gt 25, 3), (20, .aload_n 0, 1), (21, .aload_n 1, 1), (22, .aload_n 1, 1), (23, .getfield 22, 3), (26, .iconst 0, 1), (27, .iload_n 2, 1), (28, .invokevirtual 32, 3), (31, .ifCond .eq 5, 3), (34, .iload_n 2, 1), (35, .ireturn, 1), (36, .iinc 2 1, 3), (39, .goto (-24), 3), (42, .bipush (-101), 2), (44, .ireturn, 1)]
theorem dd_X4_fewest : ∀ q ∈ L_X4_fewest, decode cX4_fewest q.1 = .ok q.2 := by decide +kernel
abbrev M_X4_fewest : zM := (cX4_fewest, RX4, "fewest", 3, some .int, 11, 0, 0)
theorem u_X4_fewest : zCal yX4_fewest (M_X4_fewest) 1 := ⟨(zmem 627 (by decide +kernel) rfl : Cond.code yX4_fewest cX4_fewest 3 (some .int) ∈ zTb), zmem 62 (by decide +kernel) rfl, by decide +kernel, Nat.le_of_ble_eq_true rfl⟩
theorem qi_X4_fewest : Cond.instanceMethod yX4_fewest ∈ zTb := zmem 625 (by decide +kernel) rfl
theorem qs_X4_fewest : Cond.selects yX4_fewest.cls yX4_fewest yX4_fewest ∈ zTb := zmem 626 (by decide +kernel) rfl
def f_X4_fewest_15 : Nat → Nat → Nat → Int32 → zH → zR
  | 0, _, _, _, _ => none
  | n + 1, v0, v1, v2, h =>
  if 3 < v2 then
  zrI (-101) h
  else
  zgR h v1 0 5 fun a1 =>
  zoc h v0 1 <|
  zcI (f_X4_dresses 5 v0 v1 a1 0 v2 h) fun x2 h3 =>
  if x2 = 0 then
  f_X4_fewest_15 n v0 v1 (v2 + 1) h3
  else
  zrI v2 h3
set_option maxRecDepth 100000 in
set_option maxHeartbeats 4000000 in
theorem zb_X4_fewest_15 (Y : zY) : ∀ (n : Nat) (v0 : Nat) (v1 : Nat) (v2 : Int32) (h : zH), Z Y M_X4_fewest 0 0 15 [(0, .ref v0), (1, .ref v1), (2, .int v2)] [] h (f_X4_fewest_15 n v0 v1 v2 h) := by
  intro n
  induction n with
  | zero =>
    intro v0 v1 v2 h
    rw [f_X4_fewest_15]
    exact z_none
  | succ n ih =>
    intro v0 v1 v2 h
    rw [f_X4_fewest_15]
    refine z_iload_n 2 (zat dd_X4_fewest 9 rfl) rfl rfl ?_
    refine z_iconst (x := 3) (zat dd_X4_fewest 10 rfl) (by decide) ?_
    refine z_icmp_gt (tgt := 42) (zat dd_X4_fewest 11 rfl) (by decide) ?_ ?_
    · refine z_bipush (x := (-101)) (zat dd_X4_fewest 24 rfl) (by decide) ?_
      exact z_iret rfl (zat dd_X4_fewest 25 rfl)
    · refine z_aload_n 0 (zat dd_X4_fewest 12 rfl) rfl rfl ?_
      refine z_aload_n 1 (zat dd_X4_fewest 13 rfl) rfl rfl ?_
      refine z_aload_n 1 (zat dd_X4_fewest 14 rfl) rfl rfl ?_
      refine z_getR fl_X4_22 (zat dd_X4_fewest 15 rfl) (fun a1 => ?_)
      refine z_iconst (x := 0) (zat dd_X4_fewest 16 rfl) (by decide) ?_
      refine z_iload_n 2 (zat dd_X4_fewest 17 rfl) rfl rfl ?_
      refine z_callV_I0 (M2 := (M_X4_dresses 5)) [.ref v1, .ref a1, .int 0, .int v2] (fun l D _ _ => m_X4_dresses l D 5 v0 v1 a1 0 v2 h) (u_X4_dresses 5) ql_X4_32 qi_X4_dresses qs_X4_dresses (ci := 1) rfl rfl rfl (Nat.le_of_ble_eq_true rfl) (by decide) rfl rfl (zat dd_X4_fewest 18 rfl) (fun x2 h3 => ?_)
      refine z_if_eq (tgt := 36) (zat dd_X4_fewest 19 rfl) (by decide) ?_ ?_
      · refine z_iinc (y := v2 + 1) (lv' := [(2, .int (v2 + 1)), (0, .ref v0), (1, .ref v1)]) 2 (zat dd_X4_fewest 22 rfl) rfl rfl (Nat.le_of_ble_eq_true rfl) rfl ?_
        refine z_goto (tgt := 15) (zat dd_X4_fewest 23 rfl) (by decide) ?_
        refine z_sub [1, 2, 0] rfl ?_
        exact ih v0 v1 (v2 + 1) h3
      · refine z_iload_n 2 (zat dd_X4_fewest 20 rfl) rfl rfl ?_
        exact z_iret rfl (zat dd_X4_fewest 21 rfl)
def f_X4_fewest (v0 : Nat) (v1 : Nat) (h : zH) : zR :=
  zgR h v1 0 5 fun a1 =>
  zoc h v1 0 <|
  zcI (f_X1_isDressed v1 a1 h) fun x2 h3 =>
  if x2 = 0 then
  f_X4_fewest_15 zF v0 v1 1 h3
  else
  zrI 0 h3
set_option maxRecDepth 100000 in
set_option maxHeartbeats 4000000 in
theorem m_X4_fewest (l : Launch) (D : zD) (v0 : Nat) (v1 : Nat) (h : zH) : zMet l D yX4_fewest M_X4_fewest [.ref v0, .ref v1] h (f_X4_fewest v0 v1 h) := by
  refine zMet.of (by decide +kernel) ⟨rfl, rfl⟩ (Nat.le_of_ble_eq_true rfl) (fun Y hl hD => ?_)
  show Z Y M_X4_fewest 0 0 0 [(0, .ref v0), (1, .ref v1)] [] h _
  rw [f_X4_fewest]
  refine z_aload_n 1 (zat dd_X4_fewest 0 rfl) rfl rfl ?_
  refine z_aload_n 1 (zat dd_X4_fewest 1 rfl) rfl rfl ?_
  refine z_getR fl_X4_22 (zat dd_X4_fewest 2 rfl) (fun a1 => ?_)
  refine z_callV_I0 (M2 := M_X1_isDressed) [.ref a1] (fun l D _ _ => m_X1_isDressed l D v1 a1 h) u_X1_isDressed ql_X4_28 qi_X1_isDressed qs_X1_isDressed (ci := 0) rfl rfl rfl (Nat.le_of_ble_eq_true rfl) (by decide) rfl rfl (zat dd_X4_fewest 3 rfl) (fun x2 h3 => ?_)
  refine z_if_eq (tgt := 13) (zat dd_X4_fewest 4 rfl) (by decide) ?_ ?_
  · refine z_iconst (x := 1) (zat dd_X4_fewest 7 rfl) (by decide) ?_
    refine z_istore_n (lv' := [(2, .int 1), (0, .ref v0), (1, .ref v1)]) (zat dd_X4_fewest 8 rfl) rfl (Nat.le_of_ble_eq_true rfl) rfl ?_
    refine z_sub [1, 2, 0] rfl ?_
    exact zb_X4_fewest_15 Y zF v0 v1 1 h3
  · refine z_iconst (x := 0) (zat dd_X4_fewest 5 rfl) (by decide) ?_
    exact z_iret rfl (zat dd_X4_fewest 6 rfl)
/-! PaperDolls.within(III)Z -/
def L_X9_within : List (Nat × Instr × Nat) := [(0, .iload_n 0, 1), (1, .iload_n 1, 1), (2, .if_icmp .lt 12, 3), (5, .iload_n 0, 1), (6, .iload_n 2, 1), (7, .if_icmp .gt 7, 3), (10, .iconst 1, 1), (11, .goto 4, 3), (14, .iconst 0, 1), (15, .ireturn, 1)]
theorem dd_X9_within : ∀ q ∈ L_X9_within, decode cX9_within q.1 = .ok q.2 := by decide +kernel
abbrev M_X9_within : zM := (cX9_within, RX9, "within", 3, some .boolean, 0, 0, 0)
theorem u_X9_within : zCal yX9_within (M_X9_within) 3 := ⟨(zmem 289 (by decide +kernel) rfl : Cond.code yX9_within cX9_within 3 (some .boolean) ∈ zTb), zmem 57 (by decide +kernel) rfl, by decide +kernel, Nat.le_of_ble_eq_true rfl⟩
theorem qi_X9_within : Cond.static yX9_within ∈ zTb := zmem 288 (by decide +kernel) rfl
def f_X9_within_15 (t0 : Int32) (h : zH) : zR :=
  zrZ t0 h
set_option maxRecDepth 100000 in
set_option maxHeartbeats 4000000 in
theorem zb_X9_within_15 (Y : zY) (t0 : Int32) (h : zH) : Z Y M_X9_within 0 0 15 [] [.int t0] h (f_X9_within_15 t0 h) := by
  rw [f_X9_within_15]
  exact z_zret rfl (zat dd_X9_within 9 rfl)
def f_X9_within_14 (h : zH) : zR :=
  f_X9_within_15 0 h
set_option maxRecDepth 100000 in
set_option maxHeartbeats 4000000 in
theorem zb_X9_within_14 (Y : zY) (h : zH) : Z Y M_X9_within 0 0 14 [] [] h (f_X9_within_14  h) := by
  rw [f_X9_within_14]
  refine z_iconst (x := 0) (zat dd_X9_within 8 rfl) (by decide) ?_
  exact zb_X9_within_15 Y 0 h
def f_X9_within (v0 : Int32) (v1 : Int32) (v2 : Int32) (h : zH) : zR :=
  if v0 < v1 then
  f_X9_within_14 h
  else
  if v2 < v0 then
  f_X9_within_14 h
  else
  f_X9_within_15 1 h
set_option maxRecDepth 100000 in
set_option maxHeartbeats 4000000 in
theorem m_X9_within (l : Launch) (D : zD) (v0 : Int32) (v1 : Int32) (v2 : Int32) (h : zH) : zMet l D yX9_within M_X9_within [.int v0, .int v1, .int v2] h (f_X9_within v0 v1 v2 h) := by
  refine zMet.of (by decide +kernel) ⟨rfl, rfl⟩ (Nat.le_of_ble_eq_true rfl) (fun Y hl hD => ?_)
  show Z Y M_X9_within 0 0 0 [(0, .int v0), (1, .int v1), (2, .int v2)] [] h _
  rw [f_X9_within]
  refine z_iload_n 0 (zat dd_X9_within 0 rfl) rfl rfl ?_
  refine z_iload_n 1 (zat dd_X9_within 1 rfl) rfl rfl ?_
  refine z_icmp_lt (tgt := 14) (zat dd_X9_within 2 rfl) (by decide) ?_ ?_
  · refine z_sub [] rfl ?_
    exact zb_X9_within_14 Y h
  · refine z_iload_n 0 (zat dd_X9_within 3 rfl) rfl rfl ?_
    refine z_iload_n 2 (zat dd_X9_within 4 rfl) rfl rfl ?_
    refine z_icmp_gt (tgt := 14) (zat dd_X9_within 5 rfl) (by decide) ?_ ?_
    · refine z_sub [] rfl ?_
      exact zb_X9_within_14 Y h
    · refine z_iconst (x := 1) (zat dd_X9_within 6 rfl) (by decide) ?_
      refine z_goto (tgt := 15) (zat dd_X9_within 7 rfl) (by decide) ?_
      refine z_sub [] rfl ?_
      exact zb_X9_within_15 Y 1 h
/-! PaperDolls$Wardrobe.<init>()V -/
def L_X7_init : List (Nat × Instr × Nat) := [(0, .aload_n 0, 1), (1, .invokespecial 3, 3), (4, .aload_n 0, 1), (5, .bipush 70, 2), (7, .newarray .int, 2), (9, .putfield 11, 3), (12, .return_, 1)]
theorem dd_X7_init : ∀ q ∈ L_X7_init, decode cX7_init q.1 = .ok q.2 := by decide +kernel
abbrev M_X7_init : zM := (cX7_init, RX7, "<init>", 1, none, 0, 1, 70)
theorem u_X7_init : zCal yX7_init (M_X7_init) 0 := ⟨(zmem 210 (by decide +kernel) rfl : Cond.code yX7_init cX7_init 1 (none) ∈ zTb), zmem 61 (by decide +kernel) rfl, by decide +kernel, Nat.le_of_ble_eq_true rfl⟩
theorem qi_X7_init : Cond.instanceMethod yX7_init ∈ zTb := zmem 209 (by decide +kernel) rfl
def f_X7_init (v0 : Nat) (h : zH) : zR :=
  zN h (.inl (0, 70, .inl fun _ => 0)) fun a1 h2 =>
  zpV h2 v0 3 0 (.ref a1) fun h3 =>
  zrV h3
set_option maxRecDepth 100000 in
set_option maxHeartbeats 4000000 in
theorem m_X7_init (l : Launch) (D : zD) (v0 : Nat) (h : zH) : zMet l D yX7_init M_X7_init [.ref v0] h (f_X7_init v0 h) := by
  refine zMet.of (by decide +kernel) ⟨rfl, rfl⟩ (Nat.le_of_ble_eq_true rfl) (fun Y hl hD => ?_)
  show Z Y M_X7_init 0 0 0 [(0, .ref v0)] [] h _
  rw [f_X7_init]
  refine z_aload_n 0 (zat dd_X7_init 0 rfl) rfl rfl ?_
  refine z_objInit ql_X7_3 qo_inst qo_code (Nat.le_of_ble_eq_true rfl) (zat dd_X7_init 1 rfl) ?_
  refine z_aload_n 0 (zat dd_X7_init 2 rfl) rfl rfl ?_
  refine z_bipush (x := 70) (zat dd_X7_init 3 rfl) (by decide) ?_
  refine z_newA0 (cells2 := 1) (slots2 := 70) qa_int (by decide) (by decide) (by decide) (by decide) (by decide) rfl rfl (zat dd_X7_init 4 rfl) (fun a1 h2 => ?_)
  refine z_putF fl_X7_11 rfl rfl rfl rfl (zat dd_X7_init 5 rfl) (fun h3 => ?_)
  exact z_vret rfl (zat dd_X7_init 6 rfl)
/-! PaperDolls$Wardrobe.isOutfit(LPaperDolls$Doll;I)Z -/
def L_X7_isOutfit : List (Nat × Instr × Nat) := [(0, .aload_n 0, 1), (1, .iload_n 1, 1), (2, .invokevirtual 36, 3), (5, .bipush 15, 2), (7, .if_icmp .eq 5, 3), (10, .iconst 0, 1), (11, .ireturn, 1), (12, .iconst 0, 1), (13, .istore_n 2, 1), (14, .iload_n 2, 1), (15, .aload_n 0, 1), (16, .getfield 19, 3), (19, .if_icmp .ge 36, 3), (22, .iload_n 1, 1), (23, .iload_n 2, 1), (24, .ishr, 1), (25, .iconst 1, 1), (26, .iand, 1), (27, .iconst 1, 1), (28, .if_icmp .ne 21, 3), (31, .aload_n 0, 1), (32, .iload_n 1, 1), (33, .iconst 1, 1), (34, .iload_n 2, 1), (35, .ishl, 1), (36, .iconst (-1), 1), (37, .ixor, 1), (38, .iand, 1), (39, .invokevirtual 36, 3), (42, .bipush 15, 2), (44, .if_icmp .ne 5, 3), (47, .iconst 0, 1), (48, .ireturn, 1), (49, .iinc 2 1, 3), (52, .goto (-38), 3), (55, .aload_n 0, 1), (56, .iload_n 1, 1), (57, .invokevirtual 40, 3), (60, .ireturn, 1)]
theorem dd_X7_isOutfit : ∀ q ∈ L_X7_isOutfit, decode cX7_isOutfit q.1 = .ok q.2 := by decide +kernel
abbrev M_X7_isOutfit : zM := (cX7_isOutfit, RX7, "isOutfit", 3, some .boolean, 4, 0, 0)
theorem u_X7_isOutfit : zCal yX7_isOutfit (M_X7_isOutfit) 2 := ⟨(zmem 568 (by decide +kernel) rfl : Cond.code yX7_isOutfit cX7_isOutfit 3 (some .boolean) ∈ zTb), zmem 61 (by decide +kernel) rfl, by decide +kernel, Nat.le_of_ble_eq_true rfl⟩
theorem qi_X7_isOutfit : Cond.static yX7_isOutfit ∈ zTb := zmem 567 (by decide +kernel) rfl
def f_X7_isOutfit_49 (k14 : Nat → Int32 → Int32 → zH → zR) (v0 : Nat) (v1 : Int32) (v2 : Int32) (h : zH) : zR :=
  k14 v0 v1 (v2 + 1) h
set_option maxRecDepth 100000 in
set_option maxHeartbeats 4000000 in
theorem zb_X7_isOutfit_49 (Y : zY) (k14 : Nat → Int32 → Int32 → zH → zR) (hk14 : ∀ (v0 : Nat) (v1 : Int32) (v2 : Int32) (h : zH), Z Y M_X7_isOutfit 0 0 14 [(0, .ref v0), (1, .int v1), (2, .int v2)] [] h (k14 v0 v1 v2 h)) (v0 : Nat) (v1 : Int32) (v2 : Int32) (h : zH) : Z Y M_X7_isOutfit 0 0 49 [(0, .ref v0), (1, .int v1), (2, .int v2)] [] h (f_X7_isOutfit_49 k14 v0 v1 v2 h) := by
  rw [f_X7_isOutfit_49]
  refine z_iinc (y := v2 + 1) (lv' := [(2, .int (v2 + 1)), (0, .ref v0), (1, .int v1)]) 2 (zat dd_X7_isOutfit 33 rfl) rfl rfl (Nat.le_of_ble_eq_true rfl) rfl ?_
  refine z_goto (tgt := 14) (zat dd_X7_isOutfit 34 rfl) (by decide) ?_
  refine z_sub [1, 2, 0] rfl ?_
  exact hk14 v0 v1 (v2 + 1) h
def f_X7_isOutfit_14 : Nat → Nat → Int32 → Int32 → zH → zR
  | 0, _, _, _, _ => none
  | n + 1, v0, v1, v2, h =>
  zgI h v0 0 1 fun x1 =>
  if x1 ≤ v2 then
  zoc h v0 0 <|
  zcI (f_X1_allMatch v0 v1 h) fun x2 h3 =>
  zrZ x2 h3
  else
  if ((v1 >>> (v2 &&& 31)) &&& 1) = 1 then
  zoc h v0 0 <|
  zcI (f_X1_spotsOfSet v0 (v1 &&& ((1 <<< (v2 &&& 31)) ^^^ (-1))) h) fun x4 h5 =>
  if x4 = 15 then
  zrZ 0 h5
  else
  f_X7_isOutfit_49 (f_X7_isOutfit_14 n) v0 v1 v2 h5
  else
  f_X7_isOutfit_49 (f_X7_isOutfit_14 n) v0 v1 v2 h
set_option maxRecDepth 100000 in
set_option maxHeartbeats 4000000 in
theorem zb_X7_isOutfit_14 (Y : zY) : ∀ (n : Nat) (v0 : Nat) (v1 : Int32) (v2 : Int32) (h : zH), Z Y M_X7_isOutfit 0 0 14 [(0, .ref v0), (1, .int v1), (2, .int v2)] [] h (f_X7_isOutfit_14 n v0 v1 v2 h) := by
  intro n
  induction n with
  | zero =>
    intro v0 v1 v2 h
    rw [f_X7_isOutfit_14]
    exact z_none
  | succ n ih =>
    intro v0 v1 v2 h
    rw [f_X7_isOutfit_14]
    refine z_iload_n 2 (zat dd_X7_isOutfit 9 rfl) rfl rfl ?_
    refine z_aload_n 0 (zat dd_X7_isOutfit 10 rfl) rfl rfl ?_
    refine z_getI fl_X7_19 (zat dd_X7_isOutfit 11 rfl) (fun x1 => ?_)
    refine z_icmp_ge (tgt := 55) (zat dd_X7_isOutfit 12 rfl) (by decide) ?_ ?_
    · refine z_aload_n 0 (zat dd_X7_isOutfit 35 rfl) rfl rfl ?_
      refine z_iload_n 1 (zat dd_X7_isOutfit 36 rfl) rfl rfl ?_
      refine z_callV_I0 (M2 := M_X1_allMatch) [.int v1] (fun l D _ _ => m_X1_allMatch l D v0 v1 h) u_X1_allMatch ql_X7_40 qi_X1_allMatch qs_X1_allMatch (ci := 0) rfl rfl rfl (Nat.le_of_ble_eq_true rfl) (by decide) rfl rfl (zat dd_X7_isOutfit 37 rfl) (fun x2 h3 => ?_)
      exact z_zret rfl (zat dd_X7_isOutfit 38 rfl)
    · refine z_iload_n 1 (zat dd_X7_isOutfit 13 rfl) rfl rfl ?_
      refine z_iload_n 2 (zat dd_X7_isOutfit 14 rfl) rfl rfl ?_
      refine z_ishr (zat dd_X7_isOutfit 15 rfl) ?_
      refine z_iconst (x := 1) (zat dd_X7_isOutfit 16 rfl) (by decide) ?_
      refine z_iand (zat dd_X7_isOutfit 17 rfl) ?_
      refine z_iconst (x := 1) (zat dd_X7_isOutfit 18 rfl) (by decide) ?_
      refine z_icmp_ne (tgt := 49) (zat dd_X7_isOutfit 19 rfl) (by decide) ?_ ?_
      · exact zb_X7_isOutfit_49 Y (f_X7_isOutfit_14 n) ih v0 v1 v2 h
      · refine z_aload_n 0 (zat dd_X7_isOutfit 20 rfl) rfl rfl ?_
        refine z_iload_n 1 (zat dd_X7_isOutfit 21 rfl) rfl rfl ?_
        refine z_iconst (x := 1) (zat dd_X7_isOutfit 22 rfl) (by decide) ?_
        refine z_iload_n 2 (zat dd_X7_isOutfit 23 rfl) rfl rfl ?_
        refine z_ishl (zat dd_X7_isOutfit 24 rfl) ?_
        refine z_iconst (x := (-1)) (zat dd_X7_isOutfit 25 rfl) (by decide) ?_
        refine z_ixor (zat dd_X7_isOutfit 26 rfl) ?_
        refine z_iand (zat dd_X7_isOutfit 27 rfl) ?_
        refine z_callV_I0 (M2 := M_X1_spotsOfSet) [.int (v1 &&& ((1 <<< (v2 &&& 31)) ^^^ (-1)))] (fun l D _ _ => m_X1_spotsOfSet l D v0 (v1 &&& ((1 <<< (v2 &&& 31)) ^^^ (-1))) h) u_X1_spotsOfSet ql_X7_36 qi_X1_spotsOfSet qs_X1_spotsOfSet (ci := 0) rfl rfl rfl (Nat.le_of_ble_eq_true rfl) (by decide) rfl rfl (zat dd_X7_isOutfit 28 rfl) (fun x4 h5 => ?_)
        refine z_bipush (x := 15) (zat dd_X7_isOutfit 29 rfl) (by decide) ?_
        refine z_icmp_ne (tgt := 49) (zat dd_X7_isOutfit 30 rfl) (by decide) ?_ ?_
        · exact zb_X7_isOutfit_49 Y (f_X7_isOutfit_14 n) ih v0 v1 v2 h5
        · refine z_iconst (x := 0) (zat dd_X7_isOutfit 31 rfl) (by decide) ?_
          exact z_zret rfl (zat dd_X7_isOutfit 32 rfl)
def f_X7_isOutfit (v0 : Nat) (v1 : Int32) (h : zH) : zR :=
  zoc h v0 0 <|
  zcI (f_X1_spotsOfSet v0 v1 h) fun x1 h2 =>
  if x1 = 15 then
  f_X7_isOutfit_14 zF v0 v1 0 h2
  else
  zrZ 0 h2
set_option maxRecDepth 100000 in
set_option maxHeartbeats 4000000 in
theorem m_X7_isOutfit (l : Launch) (D : zD) (v0 : Nat) (v1 : Int32) (h : zH) : zMet l D yX7_isOutfit M_X7_isOutfit [.ref v0, .int v1] h (f_X7_isOutfit v0 v1 h) := by
  refine zMet.of (by decide +kernel) ⟨rfl, rfl⟩ (Nat.le_of_ble_eq_true rfl) (fun Y hl hD => ?_)
  show Z Y M_X7_isOutfit 0 0 0 [(0, .ref v0), (1, .int v1)] [] h _
  rw [f_X7_isOutfit]
  refine z_aload_n 0 (zat dd_X7_isOutfit 0 rfl) rfl rfl ?_
  refine z_iload_n 1 (zat dd_X7_isOutfit 1 rfl) rfl rfl ?_
  refine z_callV_I0 (M2 := M_X1_spotsOfSet) [.int v1] (fun l D _ _ => m_X1_spotsOfSet l D v0 v1 h) u_X1_spotsOfSet ql_X7_36 qi_X1_spotsOfSet qs_X1_spotsOfSet (ci := 0) rfl rfl rfl (Nat.le_of_ble_eq_true rfl) (by decide) rfl rfl (zat dd_X7_isOutfit 2 rfl) (fun x1 h2 => ?_)
  refine z_bipush (x := 15) (zat dd_X7_isOutfit 3 rfl) (by decide) ?_
  refine z_icmp_eq (tgt := 12) (zat dd_X7_isOutfit 4 rfl) (by decide) ?_ ?_
  · refine z_iconst (x := 0) (zat dd_X7_isOutfit 7 rfl) (by decide) ?_
    refine z_istore_n (lv' := [(2, .int 0), (0, .ref v0), (1, .int v1)]) (zat dd_X7_isOutfit 8 rfl) rfl (Nat.le_of_ble_eq_true rfl) rfl ?_
    refine z_sub [1, 2, 0] rfl ?_
    exact zb_X7_isOutfit_14 Y zF v0 v1 0 h2
  · refine z_iconst (x := 0) (zat dd_X7_isOutfit 5 rfl) (by decide) ?_
    exact z_zret rfl (zat dd_X7_isOutfit 6 rfl)
/-! PaperDolls$Wardrobe.findOutfits(LPaperDolls$Doll;)V -/
def L_X7_findOutfits : List (Nat × Instr × Nat) := [(0, .aload_n 0, 1), (1, .iconst 0, 1), (2, .putfield 15, 3), (5, .iconst 0, 1), (6, .istore_n 2, 1), (7, .iconst 0, 1), (8, .istore_n 3, 1), (9, .iload_n 3, 1), (10, .aload_n 1, 1), (11, .getfield 19, 3), (14, .if_icmp .ge 28, 3), (17, .aload_n 1, 1), (18, .aload_n 1, 1), (19, .getfield 24, 3), (22, .iload_n 3, 1), (23, .invokevirtual 28, 3), (26, .iconst 1, 1), (27, .if_icmp .lt 9, 3), (30, .iload_n 2, 1), (31, .iconst 1, 1), (32, .iload_n 3, 1), (33, .ishl, 1), (34, .ior, 1), (35, .istore_n 2, 1), (36, .iinc 3 1, 3), (39, .goto (-30), 3), (42, .iconst 1, 1), (43, .istore_n 3, 1), (44, .iload_n 3, 1), (45, .sipush 256, 3), (48, .if_icmp .ge 54, 3), (51, .iload_n 3, 1), (52, .iload_n 2, 1), (53, .iconst (-1), 1), (54, .ixor, 1), (55, .iand, 1), (56, .ifCond .ne 40, 3), (59, .aload_n 0, 1), (60, .getfield 15, 3), (63, .bipush 70, 2), (65, .if_icmp .ge 31, 3), (68, .aload_n 1, 1), (69, .iload_n 3, 1), (70, .invokestatic 32, 3), (73, .ifCond .eq 23, 3), (76, .aload_n 0, 1), (77, .getfield 11, 3), (80, .aload_n 0, 1), (81, .getfield 15, 3), (84, .iload_n 3, 1), (85, .iastore, 1), (86, .aload_n 0, 1), (87, .dup, 1), (88, .getfield 15, 3), (91, .iconst 1, 1), (92, .iadd, 1), (93, .putfield 15, 3), (96, .iinc 3 1, 3), (99, .goto (-55), 3), (102, .return_, 1)]
theorem dd_X7_findOutfits : ∀ q ∈ L_X7_findOutfits, decode cX7_findOutfits q.1 = .ok q.2 := by decide +kernel
abbrev M_X7_findOutfits : zM := (cX7_findOutfits, RX7, "findOutfits", 4, none, 5, 0, 0)
theorem u_X7_findOutfits : zCal yX7_findOutfits (M_X7_findOutfits) 1 := ⟨(zmem 564 (by decide +kernel) rfl : Cond.code yX7_findOutfits cX7_findOutfits 4 (none) ∈ zTb), zmem 61 (by decide +kernel) rfl, by decide +kernel, Nat.le_of_ble_eq_true rfl⟩
theorem qi_X7_findOutfits : Cond.instanceMethod yX7_findOutfits ∈ zTb := zmem 562 (by decide +kernel) rfl
theorem qs_X7_findOutfits : Cond.selects yX7_findOutfits.cls yX7_findOutfits yX7_findOutfits ∈ zTb := zmem 563 (by decide +kernel) rfl
def f_X7_findOutfits_96 (k44 : Nat → Nat → Int32 → Int32 → zH → zR) (v0 : Nat) (v1 : Nat) (v2 : Int32) (v3 : Int32) (h : zH) : zR :=
  k44 v0 v1 v2 (v3 + 1) h
set_option maxRecDepth 100000 in
set_option maxHeartbeats 4000000 in
theorem zb_X7_findOutfits_96 (Y : zY) (k44 : Nat → Nat → Int32 → Int32 → zH → zR) (hk44 : ∀ (v0 : Nat) (v1 : Nat) (v2 : Int32) (v3 : Int32) (h : zH), Z Y M_X7_findOutfits 0 0 44 [(0, .ref v0), (1, .ref v1), (2, .int v2), (3, .int v3)] [] h (k44 v0 v1 v2 v3 h)) (v0 : Nat) (v1 : Nat) (v2 : Int32) (v3 : Int32) (h : zH) : Z Y M_X7_findOutfits 0 0 96 [(0, .ref v0), (1, .ref v1), (2, .int v2), (3, .int v3)] [] h (f_X7_findOutfits_96 k44 v0 v1 v2 v3 h) := by
  rw [f_X7_findOutfits_96]
  refine z_iinc (y := v3 + 1) (lv' := [(3, .int (v3 + 1)), (0, .ref v0), (1, .ref v1), (2, .int v2)]) 3 (zat dd_X7_findOutfits 57 rfl) rfl rfl (Nat.le_of_ble_eq_true rfl) rfl ?_
  refine z_goto (tgt := 44) (zat dd_X7_findOutfits 58 rfl) (by decide) ?_
  refine z_sub [1, 2, 3, 0] rfl ?_
  exact hk44 v0 v1 v2 (v3 + 1) h
def f_X7_findOutfits_44 : Nat → Nat → Nat → Int32 → Int32 → zH → zR
  | 0, _, _, _, _, _ => none
  | n + 1, v0, v1, v2, v3, h =>
  if 256 ≤ v3 then
  zrV h
  else
  if (v3 &&& (v2 ^^^ (-1))) = 0 then
  zgI h v0 3 1 fun x1 =>
  if 70 ≤ x1 then
  f_X7_findOutfits_96 (f_X7_findOutfits_44 n) v0 v1 v2 v3 h
  else
  zcI (f_X7_isOutfit v1 v3 h) fun x2 h3 =>
  if x2 = 0 then
  f_X7_findOutfits_96 (f_X7_findOutfits_44 n) v0 v1 v2 v3 h3
  else
  zgR h3 v0 3 0 fun a4 =>
  zgI h3 v0 3 1 fun x5 =>
  zsI h3 a4 0 x5 v3 fun h6 =>
  zgI h6 v0 3 1 fun x7 =>
  zpV h6 v0 3 1 (.int (x7 + 1)) fun h8 =>
  f_X7_findOutfits_96 (f_X7_findOutfits_44 n) v0 v1 v2 v3 h8
  else
  f_X7_findOutfits_96 (f_X7_findOutfits_44 n) v0 v1 v2 v3 h
set_option maxRecDepth 100000 in
set_option maxHeartbeats 4000000 in
theorem zb_X7_findOutfits_44 (Y : zY) : ∀ (n : Nat) (v0 : Nat) (v1 : Nat) (v2 : Int32) (v3 : Int32) (h : zH), Z Y M_X7_findOutfits 0 0 44 [(0, .ref v0), (1, .ref v1), (2, .int v2), (3, .int v3)] [] h (f_X7_findOutfits_44 n v0 v1 v2 v3 h) := by
  intro n
  induction n with
  | zero =>
    intro v0 v1 v2 v3 h
    rw [f_X7_findOutfits_44]
    exact z_none
  | succ n ih =>
    intro v0 v1 v2 v3 h
    rw [f_X7_findOutfits_44]
    refine z_iload_n 3 (zat dd_X7_findOutfits 28 rfl) rfl rfl ?_
    refine z_sipush (x := 256) (zat dd_X7_findOutfits 29 rfl) (by decide) ?_
    refine z_icmp_ge (tgt := 102) (zat dd_X7_findOutfits 30 rfl) (by decide) ?_ ?_
    · exact z_vret rfl (zat dd_X7_findOutfits 59 rfl)
    · refine z_iload_n 3 (zat dd_X7_findOutfits 31 rfl) rfl rfl ?_
      refine z_iload_n 2 (zat dd_X7_findOutfits 32 rfl) rfl rfl ?_
      refine z_iconst (x := (-1)) (zat dd_X7_findOutfits 33 rfl) (by decide) ?_
      refine z_ixor (zat dd_X7_findOutfits 34 rfl) ?_
      refine z_iand (zat dd_X7_findOutfits 35 rfl) ?_
      refine z_if_ne (tgt := 96) (zat dd_X7_findOutfits 36 rfl) (by decide) ?_ ?_
      · exact zb_X7_findOutfits_96 Y (f_X7_findOutfits_44 n) ih v0 v1 v2 v3 h
      · refine z_aload_n 0 (zat dd_X7_findOutfits 37 rfl) rfl rfl ?_
        refine z_getI fl_X7_15 (zat dd_X7_findOutfits 38 rfl) (fun x1 => ?_)
        refine z_bipush (x := 70) (zat dd_X7_findOutfits 39 rfl) (by decide) ?_
        refine z_icmp_ge (tgt := 96) (zat dd_X7_findOutfits 40 rfl) (by decide) ?_ ?_
        · exact zb_X7_findOutfits_96 Y (f_X7_findOutfits_44 n) ih v0 v1 v2 v3 h
        · refine z_aload_n 1 (zat dd_X7_findOutfits 41 rfl) rfl rfl ?_
          refine z_iload_n 3 (zat dd_X7_findOutfits 42 rfl) rfl rfl ?_
          refine z_callS_I0 (M2 := M_X7_isOutfit) [.ref v1, .int v3] (fun l D _ _ => m_X7_isOutfit l D v1 v3 h) u_X7_isOutfit ql_X7_32 qi_X7_isOutfit rfl rfl (Nat.le_of_ble_eq_true rfl) (by decide) rfl rfl (zat dd_X7_findOutfits 43 rfl) (fun x2 h3 => ?_)
          refine z_if_eq (tgt := 96) (zat dd_X7_findOutfits 44 rfl) (by decide) ?_ ?_
          · exact zb_X7_findOutfits_96 Y (f_X7_findOutfits_44 n) ih v0 v1 v2 v3 h3
          · refine z_aload_n 0 (zat dd_X7_findOutfits 45 rfl) rfl rfl ?_
            refine z_getR fl_X7_11 (zat dd_X7_findOutfits 46 rfl) (fun a4 => ?_)
            refine z_aload_n 0 (zat dd_X7_findOutfits 47 rfl) rfl rfl ?_
            refine z_getI fl_X7_15 (zat dd_X7_findOutfits 48 rfl) (fun x5 => ?_)
            refine z_iload_n 3 (zat dd_X7_findOutfits 49 rfl) rfl rfl ?_
            refine z_iast (zat dd_X7_findOutfits 50 rfl) (fun h6 => ?_)
            refine z_aload_n 0 (zat dd_X7_findOutfits 51 rfl) rfl rfl ?_
            refine z_dup (zat dd_X7_findOutfits 52 rfl) rfl ?_
            refine z_getI fl_X7_15 (zat dd_X7_findOutfits 53 rfl) (fun x7 => ?_)
            refine z_iconst (x := 1) (zat dd_X7_findOutfits 54 rfl) (by decide) ?_
            refine z_iadd (zat dd_X7_findOutfits 55 rfl) ?_
            refine z_put fl_X7_15 rfl rfl (zat dd_X7_findOutfits 56 rfl) (fun h8 => ?_)
            exact zb_X7_findOutfits_96 Y (f_X7_findOutfits_44 n) ih v0 v1 v2 v3 h8
def f_X7_findOutfits_36 (k9 : Nat → Nat → Int32 → Int32 → zH → zR) (v0 : Nat) (v1 : Nat) (v2 : Int32) (v3 : Int32) (h : zH) : zR :=
  k9 v0 v1 v2 (v3 + 1) h
set_option maxRecDepth 100000 in
set_option maxHeartbeats 4000000 in
theorem zb_X7_findOutfits_36 (Y : zY) (k9 : Nat → Nat → Int32 → Int32 → zH → zR) (hk9 : ∀ (v0 : Nat) (v1 : Nat) (v2 : Int32) (v3 : Int32) (h : zH), Z Y M_X7_findOutfits 0 0 9 [(0, .ref v0), (1, .ref v1), (2, .int v2), (3, .int v3)] [] h (k9 v0 v1 v2 v3 h)) (v0 : Nat) (v1 : Nat) (v2 : Int32) (v3 : Int32) (h : zH) : Z Y M_X7_findOutfits 0 0 36 [(0, .ref v0), (1, .ref v1), (2, .int v2), (3, .int v3)] [] h (f_X7_findOutfits_36 k9 v0 v1 v2 v3 h) := by
  rw [f_X7_findOutfits_36]
  refine z_iinc (y := v3 + 1) (lv' := [(3, .int (v3 + 1)), (0, .ref v0), (1, .ref v1), (2, .int v2)]) 3 (zat dd_X7_findOutfits 24 rfl) rfl rfl (Nat.le_of_ble_eq_true rfl) rfl ?_
  refine z_goto (tgt := 9) (zat dd_X7_findOutfits 25 rfl) (by decide) ?_
  refine z_sub [1, 2, 3, 0] rfl ?_
  exact hk9 v0 v1 v2 (v3 + 1) h
def f_X7_findOutfits_9 : Nat → Nat → Nat → Int32 → Int32 → zH → zR
  | 0, _, _, _, _, _ => none
  | n + 1, v0, v1, v2, v3, h =>
  zgI h v1 0 1 fun x1 =>
  if x1 ≤ v3 then
  f_X7_findOutfits_44 zF v0 v1 v2 1 h
  else
  zgR h v1 0 5 fun a2 =>
  zoc h v1 0 <|
  zcI (f_X1_holdOf v1 a2 v3 h) fun x3 h4 =>
  if x3 < 1 then
  f_X7_findOutfits_36 (f_X7_findOutfits_9 n) v0 v1 v2 v3 h4
  else
  zlt (v2 ||| (1 <<< (v3 &&& 31))) fun x5 =>
  f_X7_findOutfits_36 (f_X7_findOutfits_9 n) v0 v1 x5 v3 h4
set_option maxRecDepth 100000 in
set_option maxHeartbeats 4000000 in
theorem zb_X7_findOutfits_9 (Y : zY) : ∀ (n : Nat) (v0 : Nat) (v1 : Nat) (v2 : Int32) (v3 : Int32) (h : zH), Z Y M_X7_findOutfits 0 0 9 [(0, .ref v0), (1, .ref v1), (2, .int v2), (3, .int v3)] [] h (f_X7_findOutfits_9 n v0 v1 v2 v3 h) := by
  intro n
  induction n with
  | zero =>
    intro v0 v1 v2 v3 h
    rw [f_X7_findOutfits_9]
    exact z_none
  | succ n ih =>
    intro v0 v1 v2 v3 h
    rw [f_X7_findOutfits_9]
    refine z_iload_n 3 (zat dd_X7_findOutfits 7 rfl) rfl rfl ?_
    refine z_aload_n 1 (zat dd_X7_findOutfits 8 rfl) rfl rfl ?_
    refine z_getI fl_X7_19 (zat dd_X7_findOutfits 9 rfl) (fun x1 => ?_)
    refine z_icmp_ge (tgt := 42) (zat dd_X7_findOutfits 10 rfl) (by decide) ?_ ?_
    · refine z_iconst (x := 1) (zat dd_X7_findOutfits 26 rfl) (by decide) ?_
      refine z_istore_n (lv' := [(3, .int 1), (0, .ref v0), (1, .ref v1), (2, .int v2)]) (zat dd_X7_findOutfits 27 rfl) rfl (Nat.le_of_ble_eq_true rfl) rfl ?_
      refine z_sub [1, 2, 3, 0] rfl ?_
      exact zb_X7_findOutfits_44 Y zF v0 v1 v2 1 h
    · refine z_aload_n 1 (zat dd_X7_findOutfits 11 rfl) rfl rfl ?_
      refine z_aload_n 1 (zat dd_X7_findOutfits 12 rfl) rfl rfl ?_
      refine z_getR fl_X7_24 (zat dd_X7_findOutfits 13 rfl) (fun a2 => ?_)
      refine z_iload_n 3 (zat dd_X7_findOutfits 14 rfl) rfl rfl ?_
      refine z_callV_I0 (M2 := M_X1_holdOf) [.ref a2, .int v3] (fun l D _ _ => m_X1_holdOf l D v1 a2 v3 h) u_X1_holdOf ql_X7_28 qi_X1_holdOf qs_X1_holdOf (ci := 0) rfl rfl rfl (Nat.le_of_ble_eq_true rfl) (by decide) rfl rfl (zat dd_X7_findOutfits 15 rfl) (fun x3 h4 => ?_)
      refine z_iconst (x := 1) (zat dd_X7_findOutfits 16 rfl) (by decide) ?_
      refine z_icmp_lt (tgt := 36) (zat dd_X7_findOutfits 17 rfl) (by decide) ?_ ?_
      · exact zb_X7_findOutfits_36 Y (f_X7_findOutfits_9 n) ih v0 v1 v2 v3 h4
      · refine z_iload_n 2 (zat dd_X7_findOutfits 18 rfl) rfl rfl ?_
        refine z_iconst (x := 1) (zat dd_X7_findOutfits 19 rfl) (by decide) ?_
        refine z_iload_n 3 (zat dd_X7_findOutfits 20 rfl) rfl rfl ?_
        refine z_ishl (zat dd_X7_findOutfits 21 rfl) ?_
        refine z_ior (zat dd_X7_findOutfits 22 rfl) ?_
        refine z_let (fun x5 => ?_)
        refine z_istore_n (lv' := [(2, .int x5), (0, .ref v0), (1, .ref v1), (3, .int v3)]) (zat dd_X7_findOutfits 23 rfl) rfl (Nat.le_of_ble_eq_true rfl) rfl ?_
        refine z_sub [1, 2, 0, 3] rfl ?_
        exact zb_X7_findOutfits_36 Y (f_X7_findOutfits_9 n) ih v0 v1 x5 v3 h4
def f_X7_findOutfits (v0 : Nat) (v1 : Nat) (h : zH) : zR :=
  zpV h v0 3 1 (.int 0) fun h1 =>
  f_X7_findOutfits_9 zF v0 v1 0 0 h1
set_option maxRecDepth 100000 in
set_option maxHeartbeats 4000000 in
theorem m_X7_findOutfits (l : Launch) (D : zD) (v0 : Nat) (v1 : Nat) (h : zH) : zMet l D yX7_findOutfits M_X7_findOutfits [.ref v0, .ref v1] h (f_X7_findOutfits v0 v1 h) := by
  refine zMet.of (by decide +kernel) ⟨rfl, rfl⟩ (Nat.le_of_ble_eq_true rfl) (fun Y hl hD => ?_)
  show Z Y M_X7_findOutfits 0 0 0 [(0, .ref v0), (1, .ref v1)] [] h _
  rw [f_X7_findOutfits]
  refine z_aload_n 0 (zat dd_X7_findOutfits 0 rfl) rfl rfl ?_
  refine z_iconst (x := 0) (zat dd_X7_findOutfits 1 rfl) (by decide) ?_
  refine z_put fl_X7_15 rfl rfl (zat dd_X7_findOutfits 2 rfl) (fun h1 => ?_)
  refine z_iconst (x := 0) (zat dd_X7_findOutfits 3 rfl) (by decide) ?_
  refine z_istore_n (lv' := [(2, .int 0), (0, .ref v0), (1, .ref v1)]) (zat dd_X7_findOutfits 4 rfl) rfl (Nat.le_of_ble_eq_true rfl) rfl ?_
  refine z_iconst (x := 0) (zat dd_X7_findOutfits 5 rfl) (by decide) ?_
  refine z_istore_n (lv' := [(3, .int 0), (2, .int 0), (0, .ref v0), (1, .ref v1)]) (zat dd_X7_findOutfits 6 rfl) rfl (Nat.le_of_ble_eq_true rfl) rfl ?_
  refine z_sub [2, 3, 1, 0] rfl ?_
  exact zb_X7_findOutfits_9 Y zF v0 v1 0 0 h1
/-! PaperDolls$Wardrobe.smallest()I -/
def L_X7_smallest : List (Nat × Instr × Nat) := [(0, .bipush (-101), 2), (2, .istore_n 1, 1), (3, .iconst 0, 1), (4, .istore_n 2, 1), (5, .iload_n 2, 1), (6, .aload_n 0, 1), (7, .getfield 15, 3), (10, .if_icmp .ge 38, 3), (13, .iload_n 1, 1), (14, .bipush (-101), 2), (16, .if_icmp .eq 19, 3), (19, .aload_n 0, 1), (20, .getfield 11, 3), (23, .iload_n 2, 1), (24, .iaload, 1), (25, .invokestatic 44, 3), (28, .iload_n 1, 1), (29, .invokestatic 44, 3), (32, .if_icmp .ge 10, 3), (35, .aload_n 0, 1), (36, .getfield 11, 3), (39, .iload_n 2, 1), (40, .iaload, 1), (41, .istore_n 1, 1), (42, .iinc 2 1, 3), (45, .goto (-40), 3), (48, .iload_n 1, 1), (49, .ireturn, 1)]
theorem dd_X7_smallest : ∀ q ∈ L_X7_smallest, decode cX7_smallest q.1 = .ok q.2 := by decide +kernel
abbrev M_X7_smallest : zM := (cX7_smallest, RX7, "smallest", 3, some .int, 1, 0, 0)
theorem u_X7_smallest : zCal yX7_smallest (M_X7_smallest) 0 := ⟨(zmem 585 (by decide +kernel) rfl : Cond.code yX7_smallest cX7_smallest 3 (some .int) ∈ zTb), zmem 61 (by decide +kernel) rfl, by decide +kernel, Nat.le_of_ble_eq_true rfl⟩
theorem qi_X7_smallest : Cond.instanceMethod yX7_smallest ∈ zTb := zmem 583 (by decide +kernel) rfl
theorem qs_X7_smallest : Cond.selects yX7_smallest.cls yX7_smallest yX7_smallest ∈ zTb := zmem 584 (by decide +kernel) rfl
def f_X7_smallest_42 (k5 : Nat → Int32 → Int32 → zH → zR) (v0 : Nat) (v1 : Int32) (v2 : Int32) (h : zH) : zR :=
  k5 v0 v1 (v2 + 1) h
set_option maxRecDepth 100000 in
set_option maxHeartbeats 4000000 in
theorem zb_X7_smallest_42 (Y : zY) (k5 : Nat → Int32 → Int32 → zH → zR) (hk5 : ∀ (v0 : Nat) (v1 : Int32) (v2 : Int32) (h : zH), Z Y M_X7_smallest 0 0 5 [(0, .ref v0), (1, .int v1), (2, .int v2)] [] h (k5 v0 v1 v2 h)) (v0 : Nat) (v1 : Int32) (v2 : Int32) (h : zH) : Z Y M_X7_smallest 0 0 42 [(0, .ref v0), (1, .int v1), (2, .int v2)] [] h (f_X7_smallest_42 k5 v0 v1 v2 h) := by
  rw [f_X7_smallest_42]
  refine z_iinc (y := v2 + 1) (lv' := [(2, .int (v2 + 1)), (0, .ref v0), (1, .int v1)]) 2 (zat dd_X7_smallest 24 rfl) rfl rfl (Nat.le_of_ble_eq_true rfl) rfl ?_
  refine z_goto (tgt := 5) (zat dd_X7_smallest 25 rfl) (by decide) ?_
  refine z_sub [1, 2, 0] rfl ?_
  exact hk5 v0 v1 (v2 + 1) h
def f_X7_smallest_35 (k5 : Nat → Int32 → Int32 → zH → zR) (v0 : Nat) (v2 : Int32) (h : zH) : zR :=
  zgR h v0 3 0 fun a1 =>
  zaI h a1 0 v2 fun x2 =>
  f_X7_smallest_42 k5 v0 x2 v2 h
set_option maxRecDepth 100000 in
set_option maxHeartbeats 4000000 in
theorem zb_X7_smallest_35 (Y : zY) (k5 : Nat → Int32 → Int32 → zH → zR) (hk5 : ∀ (v0 : Nat) (v1 : Int32) (v2 : Int32) (h : zH), Z Y M_X7_smallest 0 0 5 [(0, .ref v0), (1, .int v1), (2, .int v2)] [] h (k5 v0 v1 v2 h)) (v0 : Nat) (v2 : Int32) (h : zH) : Z Y M_X7_smallest 0 0 35 [(0, .ref v0), (2, .int v2)] [] h (f_X7_smallest_35 k5 v0 v2 h) := by
  rw [f_X7_smallest_35]
  refine z_aload_n 0 (zat dd_X7_smallest 19 rfl) rfl rfl ?_
  refine z_getR fl_X7_11 (zat dd_X7_smallest 20 rfl) (fun a1 => ?_)
  refine z_iload_n 1 (zat dd_X7_smallest 21 rfl) rfl rfl ?_
  refine z_iald (zat dd_X7_smallest 22 rfl) (fun x2 => ?_)
  refine z_istore_n (lv' := [(1, .int x2), (0, .ref v0), (2, .int v2)]) (zat dd_X7_smallest 23 rfl) rfl (Nat.le_of_ble_eq_true rfl) rfl ?_
  refine z_sub [1, 0, 2] rfl ?_
  exact zb_X7_smallest_42 Y k5 hk5 v0 x2 v2 h
def f_X7_smallest_5 : Nat → Nat → Int32 → Int32 → zH → zR
  | 0, _, _, _, _ => none
  | n + 1, v0, v1, v2, h =>
  zgI h v0 3 1 fun x1 =>
  if x1 ≤ v2 then
  zrI v1 h
  else
  if v1 = (-101) then
  f_X7_smallest_35 (f_X7_smallest_5 n) v0 v2 h
  else
  zgR h v0 3 0 fun a2 =>
  zaI h a2 0 v2 fun x3 =>
  zcI (f_J6_bitCount_0f7a4 x3 h) fun x4 h5 =>
  zcI (f_J6_bitCount_0f7a4 v1 h5) fun x6 h7 =>
  if x6 ≤ x4 then
  f_X7_smallest_42 (f_X7_smallest_5 n) v0 v1 v2 h7
  else
  f_X7_smallest_35 (f_X7_smallest_5 n) v0 v2 h7
set_option maxRecDepth 100000 in
set_option maxHeartbeats 4000000 in
theorem zb_X7_smallest_5 (Y : zY) : ∀ (n : Nat) (v0 : Nat) (v1 : Int32) (v2 : Int32) (h : zH), Z Y M_X7_smallest 0 0 5 [(0, .ref v0), (1, .int v1), (2, .int v2)] [] h (f_X7_smallest_5 n v0 v1 v2 h) := by
  intro n
  induction n with
  | zero =>
    intro v0 v1 v2 h
    rw [f_X7_smallest_5]
    exact z_none
  | succ n ih =>
    intro v0 v1 v2 h
    rw [f_X7_smallest_5]
    refine z_iload_n 2 (zat dd_X7_smallest 4 rfl) rfl rfl ?_
    refine z_aload_n 0 (zat dd_X7_smallest 5 rfl) rfl rfl ?_
    refine z_getI fl_X7_15 (zat dd_X7_smallest 6 rfl) (fun x1 => ?_)
    refine z_icmp_ge (tgt := 48) (zat dd_X7_smallest 7 rfl) (by decide) ?_ ?_
    · refine z_iload_n 1 (zat dd_X7_smallest 26 rfl) rfl rfl ?_
      exact z_iret rfl (zat dd_X7_smallest 27 rfl)
    · refine z_iload_n 1 (zat dd_X7_smallest 8 rfl) rfl rfl ?_
      refine z_bipush (x := (-101)) (zat dd_X7_smallest 9 rfl) (by decide) ?_
      refine z_icmp_eq (tgt := 35) (zat dd_X7_smallest 10 rfl) (by decide) ?_ ?_
      · refine z_sub [0, 2] rfl ?_
        exact zb_X7_smallest_35 Y (f_X7_smallest_5 n) ih v0 v2 h
      · refine z_aload_n 0 (zat dd_X7_smallest 11 rfl) rfl rfl ?_
        refine z_getR fl_X7_11 (zat dd_X7_smallest 12 rfl) (fun a2 => ?_)
        refine z_iload_n 2 (zat dd_X7_smallest 13 rfl) rfl rfl ?_
        refine z_iald (zat dd_X7_smallest 14 rfl) (fun x3 => ?_)
        refine z_callS_I0 (M2 := M_J6_bitCount_0f7a4) [.int x3] (fun l D _ _ => m_J6_bitCount_0f7a4 l D x3 h) u_J6_bitCount_0f7a4 ql_X7_44 qi_J6_bitCount_0f7a4 rfl rfl (Nat.le_of_ble_eq_true rfl) (by decide) rfl rfl (zat dd_X7_smallest 15 rfl) (fun x4 h5 => ?_)
        refine z_iload_n 1 (zat dd_X7_smallest 16 rfl) rfl rfl ?_
        refine z_callS_I0 (M2 := M_J6_bitCount_0f7a4) [.int v1] (fun l D _ _ => m_J6_bitCount_0f7a4 l D v1 h5) u_J6_bitCount_0f7a4 ql_X7_44 qi_J6_bitCount_0f7a4 rfl rfl (Nat.le_of_ble_eq_true rfl) (by decide) rfl rfl (zat dd_X7_smallest 17 rfl) (fun x6 h7 => ?_)
        refine z_icmp_ge (tgt := 42) (zat dd_X7_smallest 18 rfl) (by decide) ?_ ?_
        · exact zb_X7_smallest_42 Y (f_X7_smallest_5 n) ih v0 v1 v2 h7
        · refine z_sub [0, 2] rfl ?_
          exact zb_X7_smallest_35 Y (f_X7_smallest_5 n) ih v0 v2 h7
def f_X7_smallest (v0 : Nat) (h : zH) : zR :=
  f_X7_smallest_5 zF v0 (-101) 0 h
set_option maxRecDepth 100000 in
set_option maxHeartbeats 4000000 in
theorem m_X7_smallest (l : Launch) (D : zD) (v0 : Nat) (h : zH) : zMet l D yX7_smallest M_X7_smallest [.ref v0] h (f_X7_smallest v0 h) := by
  refine zMet.of (by decide +kernel) ⟨rfl, rfl⟩ (Nat.le_of_ble_eq_true rfl) (fun Y hl hD => ?_)
  show Z Y M_X7_smallest 0 0 0 [(0, .ref v0)] [] h _
  rw [f_X7_smallest]
  refine z_bipush (x := (-101)) (zat dd_X7_smallest 0 rfl) (by decide) ?_
  refine z_istore_n (lv' := [(1, .int (-101)), (0, .ref v0)]) (zat dd_X7_smallest 1 rfl) rfl (Nat.le_of_ble_eq_true rfl) rfl ?_
  refine z_iconst (x := 0) (zat dd_X7_smallest 2 rfl) (by decide) ?_
  refine z_istore_n (lv' := [(2, .int 0), (1, .int (-101)), (0, .ref v0)]) (zat dd_X7_smallest 3 rfl) rfl (Nat.le_of_ble_eq_true rfl) rfl ?_
  refine z_sub [2, 1, 0] rfl ?_
  exact zb_X7_smallest_5 Y zF v0 (-101) 0 h
/-! PaperDolls$Wardrobe.used()I -/
def L_X7_used : List (Nat × Instr × Nat) := [(0, .iconst 0, 1), (1, .istore_n 1, 1), (2, .iconst 0, 1), (3, .istore_n 2, 1), (4, .iload_n 2, 1), (5, .aload_n 0, 1), (6, .getfield 15, 3), (9, .if_icmp .ge 18, 3), (12, .iload_n 1, 1), (13, .aload_n 0, 1), (14, .getfield 11, 3), (17, .iload_n 2, 1), (18, .iaload, 1), (19, .ior, 1), (20, .istore_n 1, 1), (21, .iinc 2 1, 3), (24, .goto (-20), 3), (27, .iload_n 1, 1), (28, .ireturn, 1)]
theorem dd_X7_used : ∀ q ∈ L_X7_used, decode cX7_used q.1 = .ok q.2 := by decide +kernel
abbrev M_X7_used : zM := (cX7_used, RX7, "used", 3, some .int, 0, 0, 0)
theorem u_X7_used : zCal yX7_used (M_X7_used) 0 := ⟨(zmem 619 (by decide +kernel) rfl : Cond.code yX7_used cX7_used 3 (some .int) ∈ zTb), zmem 61 (by decide +kernel) rfl, by decide +kernel, Nat.le_of_ble_eq_true rfl⟩
theorem qi_X7_used : Cond.instanceMethod yX7_used ∈ zTb := zmem 617 (by decide +kernel) rfl
theorem qs_X7_used : Cond.selects yX7_used.cls yX7_used yX7_used ∈ zTb := zmem 618 (by decide +kernel) rfl
def f_X7_used_4 : Nat → Nat → Int32 → Int32 → zH → zR
  | 0, _, _, _, _ => none
  | n + 1, v0, v1, v2, h =>
  zgI h v0 3 1 fun x1 =>
  if x1 ≤ v2 then
  zrI v1 h
  else
  zgR h v0 3 0 fun a2 =>
  zaI h a2 0 v2 fun x3 =>
  zlt (v1 ||| x3) fun x4 =>
  f_X7_used_4 n v0 x4 (v2 + 1) h
set_option maxRecDepth 100000 in
set_option maxHeartbeats 4000000 in
theorem zb_X7_used_4 (Y : zY) : ∀ (n : Nat) (v0 : Nat) (v1 : Int32) (v2 : Int32) (h : zH), Z Y M_X7_used 0 0 4 [(0, .ref v0), (1, .int v1), (2, .int v2)] [] h (f_X7_used_4 n v0 v1 v2 h) := by
  intro n
  induction n with
  | zero =>
    intro v0 v1 v2 h
    rw [f_X7_used_4]
    exact z_none
  | succ n ih =>
    intro v0 v1 v2 h
    rw [f_X7_used_4]
    refine z_iload_n 2 (zat dd_X7_used 4 rfl) rfl rfl ?_
    refine z_aload_n 0 (zat dd_X7_used 5 rfl) rfl rfl ?_
    refine z_getI fl_X7_15 (zat dd_X7_used 6 rfl) (fun x1 => ?_)
    refine z_icmp_ge (tgt := 27) (zat dd_X7_used 7 rfl) (by decide) ?_ ?_
    · refine z_iload_n 1 (zat dd_X7_used 17 rfl) rfl rfl ?_
      exact z_iret rfl (zat dd_X7_used 18 rfl)
    · refine z_iload_n 1 (zat dd_X7_used 8 rfl) rfl rfl ?_
      refine z_aload_n 0 (zat dd_X7_used 9 rfl) rfl rfl ?_
      refine z_getR fl_X7_11 (zat dd_X7_used 10 rfl) (fun a2 => ?_)
      refine z_iload_n 2 (zat dd_X7_used 11 rfl) rfl rfl ?_
      refine z_iald (zat dd_X7_used 12 rfl) (fun x3 => ?_)
      refine z_ior (zat dd_X7_used 13 rfl) ?_
      refine z_let (fun x4 => ?_)
      refine z_istore_n (lv' := [(1, .int x4), (0, .ref v0), (2, .int v2)]) (zat dd_X7_used 14 rfl) rfl (Nat.le_of_ble_eq_true rfl) rfl ?_
      refine z_iinc (y := v2 + 1) (lv' := [(2, .int (v2 + 1)), (1, .int x4), (0, .ref v0)]) 2 (zat dd_X7_used 15 rfl) rfl rfl (Nat.le_of_ble_eq_true rfl) rfl ?_
      refine z_goto (tgt := 4) (zat dd_X7_used 16 rfl) (by decide) ?_
      refine z_sub [2, 1, 0] rfl ?_
      exact ih v0 x4 (v2 + 1) h
def f_X7_used (v0 : Nat) (h : zH) : zR :=
  f_X7_used_4 zF v0 0 0 h
set_option maxRecDepth 100000 in
set_option maxHeartbeats 4000000 in
theorem m_X7_used (l : Launch) (D : zD) (v0 : Nat) (h : zH) : zMet l D yX7_used M_X7_used [.ref v0] h (f_X7_used v0 h) := by
  refine zMet.of (by decide +kernel) ⟨rfl, rfl⟩ (Nat.le_of_ble_eq_true rfl) (fun Y hl hD => ?_)
  show Z Y M_X7_used 0 0 0 [(0, .ref v0)] [] h _
  rw [f_X7_used]
  refine z_iconst (x := 0) (zat dd_X7_used 0 rfl) (by decide) ?_
  refine z_istore_n (lv' := [(1, .int 0), (0, .ref v0)]) (zat dd_X7_used 1 rfl) rfl (Nat.le_of_ble_eq_true rfl) rfl ?_
  refine z_iconst (x := 0) (zat dd_X7_used 2 rfl) (by decide) ?_
  refine z_istore_n (lv' := [(2, .int 0), (1, .int 0), (0, .ref v0)]) (zat dd_X7_used 3 rfl) rfl (Nat.le_of_ble_eq_true rfl) rfl ?_
  refine z_sub [2, 1, 0] rfl ?_
  exact zb_X7_used_4 Y zF v0 0 0 h
/-! PaperDolls$Wardrobe.mostApartFrom(III)I -/
def L_X7_mostApartFrom : List (Nat × Instr × Nat) := [(0, .iconst 0, 1), (1, .istore 4, 2), (3, .iload_n 3, 1), (4, .bipush 8, 2), (6, .if_icmp .ge 62, 3), (9, .iload_n 1, 1), (10, .istore 5, 2), (12, .iload 5, 2), (14, .aload_n 0, 1), (15, .getfield 15, 3), (18, .if_icmp .ge 50, 3), (21, .aload_n 0, 1), (22, .getfield 11, 3), (25, .iload 5, 2), (27, .iaload, 1), (28, .iload_n 2, 1), (29, .iand, 1), (30, .ifCond .ne 32, 3), (33, .iload 4, 2), (35, .iconst 1, 1), (36, .aload_n 0, 1), (37, .iload 5, 2), (39, .iconst 1, 1), (40, .iadd, 1), (41, .iload_n 2, 1), (42, .aload_n 0, 1), (43, .getfield 11, 3), (46, .iload 5, 2), (48, .iaload, 1), (49, .ior, 1), (50, .iload_n 3, 1), (51, .iconst 1, 1), (52, .iadd, 1), (53, .invokevirtual 49, 3), (56, .iadd, 1), (57, .invokestatic 53, 3), (60, .istore 4, 2), (62, .iinc 5 1, 3), (65, .goto (-53), 3), (68, .iload 4, 2), (70, .ireturn, 1)]
theorem dd_X7_mostApartFrom : ∀ q ∈ L_X7_mostApartFrom, decode cX7_mostApartFrom q.1 = .ok q.2 := by decide +kernel
abbrev M_X7_mostApartFrom (d : Nat) : zM := (cX7_mostApartFrom, RX7, "mostApartFrom", 6, some .int, 0 + d, 0, 0)
theorem u_X7_mostApartFrom (d : Nat) : zCal yX7_mostApartFrom (M_X7_mostApartFrom d) 3 := ⟨(zmem 604 (by decide +kernel) rfl : Cond.code yX7_mostApartFrom cX7_mostApartFrom 6 (some .int) ∈ zTb), zmem 61 (by decide +kernel) rfl, by decide +kernel, Nat.le_of_ble_eq_true rfl⟩
theorem qi_X7_mostApartFrom : Cond.instanceMethod yX7_mostApartFrom ∈ zTb := zmem 603 (by decide +kernel) rfl
theorem qs_X7_mostApartFrom : Cond.selects yX7_mostApartFrom.cls yX7_mostApartFrom yX7_mostApartFrom ∈ zTb := zmem 14 (by decide +kernel) rfl
def f_X7_mostApartFrom_68 (rc : Nat → Int32 → Int32 → Int32 → zH → zR) (v4 : Int32) (h : zH) : zR :=
  zrI v4 h
set_option maxRecDepth 100000 in
set_option maxHeartbeats 4000000 in
theorem zb_X7_mostApartFrom_68 (Y : zY) (rc : Nat → Int32 → Int32 → Int32 → zH → zR) (kr : Nat) (hrc : ∀ (l : Launch) (D : zD) (a0 : Nat) (p1 : Int32) (p2 : Int32) (p3 : Int32) (h : zH), zMet l D yX7_mostApartFrom (M_X7_mostApartFrom kr) [.ref a0, .int p1, .int p2, .int p3] h (rc a0 p1 p2 p3 h)) (v4 : Int32) (h : zH) : Z Y (M_X7_mostApartFrom (kr + 1)) 0 0 68 [(4, .int v4)] [] h (f_X7_mostApartFrom_68 rc v4 h) := by
  rw [f_X7_mostApartFrom_68]
  refine z_iload 0 (zat dd_X7_mostApartFrom 39 rfl) rfl ?_
  exact z_iret rfl (zat dd_X7_mostApartFrom 40 rfl)
def f_X7_mostApartFrom_62 (rc : Nat → Int32 → Int32 → Int32 → zH → zR) (k12 : Nat → Int32 → Int32 → Int32 → Int32 → zH → zR) (v0 : Nat) (v2 : Int32) (v3 : Int32) (v4 : Int32) (v5 : Int32) (h : zH) : zR :=
  k12 v0 v2 v3 v4 (v5 + 1) h
set_option maxRecDepth 100000 in
set_option maxHeartbeats 4000000 in
theorem zb_X7_mostApartFrom_62 (Y : zY) (rc : Nat → Int32 → Int32 → Int32 → zH → zR) (kr : Nat) (hrc : ∀ (l : Launch) (D : zD) (a0 : Nat) (p1 : Int32) (p2 : Int32) (p3 : Int32) (h : zH), zMet l D yX7_mostApartFrom (M_X7_mostApartFrom kr) [.ref a0, .int p1, .int p2, .int p3] h (rc a0 p1 p2 p3 h)) (k12 : Nat → Int32 → Int32 → Int32 → Int32 → zH → zR) (hk12 : ∀ (v0 : Nat) (v2 : Int32) (v3 : Int32) (v4 : Int32) (v5 : Int32) (h : zH), Z Y (M_X7_mostApartFrom (kr + 1)) 0 0 12 [(0, .ref v0), (2, .int v2), (3, .int v3), (4, .int v4), (5, .int v5)] [] h (k12 v0 v2 v3 v4 v5 h)) (v0 : Nat) (v2 : Int32) (v3 : Int32) (v4 : Int32) (v5 : Int32) (h : zH) : Z Y (M_X7_mostApartFrom (kr + 1)) 0 0 62 [(0, .ref v0), (2, .int v2), (3, .int v3), (4, .int v4), (5, .int v5)] [] h (f_X7_mostApartFrom_62 rc k12 v0 v2 v3 v4 v5 h) := by
  rw [f_X7_mostApartFrom_62]
  refine z_iinc (y := v5 + 1) (lv' := [(5, .int (v5 + 1)), (0, .ref v0), (2, .int v2), (3, .int v3), (4, .int v4)]) 4 (zat dd_X7_mostApartFrom 37 rfl) rfl rfl (Nat.le_of_ble_eq_true rfl) rfl ?_
  refine z_goto (tgt := 12) (zat dd_X7_mostApartFrom 38 rfl) (by decide) ?_
  refine z_sub [1, 2, 3, 4, 0] rfl ?_
  exact hk12 v0 v2 v3 v4 (v5 + 1) h
def f_X7_mostApartFrom_12 (rc : Nat → Int32 → Int32 → Int32 → zH → zR) : Nat → Nat → Int32 → Int32 → Int32 → Int32 → zH → zR
  | 0, _, _, _, _, _, _ => none
  | n + 1, v0, v2, v3, v4, v5, h =>
  zgI h v0 3 1 fun x1 =>
  if x1 ≤ v5 then
  f_X7_mostApartFrom_68 rc v4 h
  else
  zgR h v0 3 0 fun a2 =>
  zaI h a2 0 v5 fun x3 =>
  if (x3 &&& v2) = 0 then
  zgR h v0 3 0 fun a4 =>
  zaI h a4 0 v5 fun x5 =>
  zoc h v0 3 <|
  zcI (rc v0 (v5 + 1) (v2 ||| x5) (v3 + 1) h) fun x6 h7 =>
  zlt (if v4 < (1 + x6) then (1 + x6) else v4) fun x8 =>
  f_X7_mostApartFrom_62 rc (f_X7_mostApartFrom_12 rc n) v0 v2 v3 x8 v5 h7
  else
  f_X7_mostApartFrom_62 rc (f_X7_mostApartFrom_12 rc n) v0 v2 v3 v4 v5 h
set_option maxRecDepth 100000 in
set_option maxHeartbeats 4000000 in
theorem zb_X7_mostApartFrom_12 (Y : zY) (rc : Nat → Int32 → Int32 → Int32 → zH → zR) (kr : Nat) (hrc : ∀ (l : Launch) (D : zD) (a0 : Nat) (p1 : Int32) (p2 : Int32) (p3 : Int32) (h : zH), zMet l D yX7_mostApartFrom (M_X7_mostApartFrom kr) [.ref a0, .int p1, .int p2, .int p3] h (rc a0 p1 p2 p3 h)) : ∀ (n : Nat) (v0 : Nat) (v2 : Int32) (v3 : Int32) (v4 : Int32) (v5 : Int32) (h : zH), Z Y (M_X7_mostApartFrom (kr + 1)) 0 0 12 [(0, .ref v0), (2, .int v2), (3, .int v3), (4, .int v4), (5, .int v5)] [] h (f_X7_mostApartFrom_12 rc n v0 v2 v3 v4 v5 h) := by
  intro n
  induction n with
  | zero =>
    intro v0 v2 v3 v4 v5 h
    rw [f_X7_mostApartFrom_12]
    exact z_none
  | succ n ih =>
    intro v0 v2 v3 v4 v5 h
    rw [f_X7_mostApartFrom_12]
    refine z_iload 4 (zat dd_X7_mostApartFrom 7 rfl) rfl ?_
    refine z_aload_n 0 (zat dd_X7_mostApartFrom 8 rfl) rfl rfl ?_
    refine z_getI fl_X7_15 (zat dd_X7_mostApartFrom 9 rfl) (fun x1 => ?_)
    refine z_icmp_ge (tgt := 68) (zat dd_X7_mostApartFrom 10 rfl) (by decide) ?_ ?_
    · refine z_sub [3] rfl ?_
      exact zb_X7_mostApartFrom_68 Y rc kr hrc v4 h
    · refine z_aload_n 0 (zat dd_X7_mostApartFrom 11 rfl) rfl rfl ?_
      refine z_getR fl_X7_11 (zat dd_X7_mostApartFrom 12 rfl) (fun a2 => ?_)
      refine z_iload 4 (zat dd_X7_mostApartFrom 13 rfl) rfl ?_
      refine z_iald (zat dd_X7_mostApartFrom 14 rfl) (fun x3 => ?_)
      refine z_iload_n 1 (zat dd_X7_mostApartFrom 15 rfl) rfl rfl ?_
      refine z_iand (zat dd_X7_mostApartFrom 16 rfl) ?_
      refine z_if_ne (tgt := 62) (zat dd_X7_mostApartFrom 17 rfl) (by decide) ?_ ?_
      · exact zb_X7_mostApartFrom_62 Y rc kr hrc (f_X7_mostApartFrom_12 rc n) ih v0 v2 v3 v4 v5 h
      · refine z_iload 3 (zat dd_X7_mostApartFrom 18 rfl) rfl ?_
        refine z_iconst (x := 1) (zat dd_X7_mostApartFrom 19 rfl) (by decide) ?_
        refine z_aload_n 0 (zat dd_X7_mostApartFrom 20 rfl) rfl rfl ?_
        refine z_iload 4 (zat dd_X7_mostApartFrom 21 rfl) rfl ?_
        refine z_iconst (x := 1) (zat dd_X7_mostApartFrom 22 rfl) (by decide) ?_
        refine z_iadd (zat dd_X7_mostApartFrom 23 rfl) ?_
        refine z_iload_n 1 (zat dd_X7_mostApartFrom 24 rfl) rfl rfl ?_
        refine z_aload_n 0 (zat dd_X7_mostApartFrom 25 rfl) rfl rfl ?_
        refine z_getR fl_X7_11 (zat dd_X7_mostApartFrom 26 rfl) (fun a4 => ?_)
        refine z_iload 4 (zat dd_X7_mostApartFrom 27 rfl) rfl ?_
        refine z_iald (zat dd_X7_mostApartFrom 28 rfl) (fun x5 => ?_)
        refine z_ior (zat dd_X7_mostApartFrom 29 rfl) ?_
        refine z_iload_n 2 (zat dd_X7_mostApartFrom 30 rfl) rfl rfl ?_
        refine z_iconst (x := 1) (zat dd_X7_mostApartFrom 31 rfl) (by decide) ?_
        refine z_iadd (zat dd_X7_mostApartFrom 32 rfl) ?_
        refine z_callV_I0 (M2 := (M_X7_mostApartFrom kr)) [.int (v5 + 1), .int (v2 ||| x5), .int (v3 + 1)] (fun l D _ _ => hrc l D v0 (v5 + 1) (v2 ||| x5) (v3 + 1) h) (u_X7_mostApartFrom kr) ql_X7_49 qi_X7_mostApartFrom qs_X7_mostApartFrom (ci := 3) rfl rfl rfl (Nat.le_of_ble_eq_true rfl) (Nat.le_refl _) rfl rfl (zat dd_X7_mostApartFrom 33 rfl) (fun x6 h7 => ?_)
        refine z_iadd (zat dd_X7_mostApartFrom 34 rfl) ?_
        refine z_mmax ql_X7_53 qm_max1 qm_2 qm_max3 (Nat.le_of_ble_eq_true rfl) (zat dd_X7_mostApartFrom 35 rfl) ?_
        refine z_let (fun x8 => ?_)
        refine z_istore (lv' := [(4, .int x8), (0, .ref v0), (2, .int v2), (3, .int v3), (5, .int v5)]) (zat dd_X7_mostApartFrom 36 rfl) (Nat.le_of_ble_eq_true rfl) rfl ?_
        refine z_sub [1, 2, 3, 0, 4] rfl ?_
        exact zb_X7_mostApartFrom_62 Y rc kr hrc (f_X7_mostApartFrom_12 rc n) ih v0 v2 v3 x8 v5 h7
def f_X7_mostApartFrom_body (rc : Nat → Int32 → Int32 → Int32 → zH → zR) (v0 : Nat) (v1 : Int32) (v2 : Int32) (v3 : Int32) (h : zH) : zR :=
  if 8 ≤ v3 then
  f_X7_mostApartFrom_68 rc 0 h
  else
  f_X7_mostApartFrom_12 rc zF v0 v2 v3 0 v1 h
def f_X7_mostApartFrom : Nat → Nat → Int32 → Int32 → Int32 → zH → zR
  | 0, _, _, _, _, _ => none
  | d + 1, v0, v1, v2, v3, h => f_X7_mostApartFrom_body (f_X7_mostApartFrom d) v0 v1 v2 v3 h
set_option maxRecDepth 100000 in
set_option maxHeartbeats 4000000 in
theorem mb_X7_mostApartFrom (l : Launch) (D : zD) (rc : Nat → Int32 → Int32 → Int32 → zH → zR) (kr : Nat) (hrc : ∀ (l : Launch) (D : zD) (a0 : Nat) (p1 : Int32) (p2 : Int32) (p3 : Int32) (h : zH), zMet l D yX7_mostApartFrom (M_X7_mostApartFrom kr) [.ref a0, .int p1, .int p2, .int p3] h (rc a0 p1 p2 p3 h)) (v0 : Nat) (v1 : Int32) (v2 : Int32) (v3 : Int32) (h : zH) : zMet l D yX7_mostApartFrom (M_X7_mostApartFrom (kr + 1)) [.ref v0, .int v1, .int v2, .int v3] h (f_X7_mostApartFrom_body rc v0 v1 v2 v3 h) := by
  refine zMet.of (by decide +kernel) ⟨rfl, rfl⟩ (Nat.le_of_ble_eq_true rfl) (fun Y hl hD => ?_)
  show Z Y (M_X7_mostApartFrom (kr + 1)) 0 0 0 [(0, .ref v0), (1, .int v1), (2, .int v2), (3, .int v3)] [] h _
  rw [f_X7_mostApartFrom_body]
  refine z_iconst (x := 0) (zat dd_X7_mostApartFrom 0 rfl) (by decide) ?_
  refine z_istore (lv' := [(4, .int 0), (0, .ref v0), (1, .int v1), (2, .int v2), (3, .int v3)]) (zat dd_X7_mostApartFrom 1 rfl) (Nat.le_of_ble_eq_true rfl) rfl ?_
  refine z_iload_n 4 (zat dd_X7_mostApartFrom 2 rfl) rfl rfl ?_
  refine z_bipush (x := 8) (zat dd_X7_mostApartFrom 3 rfl) (by decide) ?_
  refine z_icmp_ge (tgt := 68) (zat dd_X7_mostApartFrom 4 rfl) (by decide) ?_ ?_
  · refine z_sub [0] rfl ?_
    exact zb_X7_mostApartFrom_68 Y rc kr hrc 0 h
  · refine z_iload_n 2 (zat dd_X7_mostApartFrom 5 rfl) rfl rfl ?_
    refine z_istore (lv' := [(5, .int v1), (4, .int 0), (0, .ref v0), (1, .int v1), (2, .int v2), (3, .int v3)]) (zat dd_X7_mostApartFrom 6 rfl) (Nat.le_of_ble_eq_true rfl) rfl ?_
    refine z_sub [2, 4, 5, 1, 0] rfl ?_
    exact zb_X7_mostApartFrom_12 Y rc kr hrc zF v0 v2 v3 0 v1 h
theorem m_X7_mostApartFrom (l : Launch) (D : zD) (d : Nat) : ∀ (v0 : Nat) (v1 : Int32) (v2 : Int32) (v3 : Int32) (h : zH), zMet l D yX7_mostApartFrom (M_X7_mostApartFrom d) [.ref v0, .int v1, .int v2, .int v3] h (f_X7_mostApartFrom d v0 v1 v2 v3 h) := by
  induction d generalizing l D with
  | zero =>
    intro v0 v1 v2 v3 h v h' hr
    rw [f_X7_mostApartFrom] at hr
    cases hr
  | succ d ih =>
    intro v0 v1 v2 v3 h
    rw [f_X7_mostApartFrom]
    exact mb_X7_mostApartFrom l D (f_X7_mostApartFrom d) d ih v0 v1 v2 v3 h
/-! PaperDolls$Wardrobe.mostApart()I -/
def L_X7_mostApart : List (Nat × Instr × Nat) := [(0, .aload_n 0, 1), (1, .iconst 0, 1), (2, .iconst 0, 1), (3, .iconst 0, 1), (4, .invokevirtual 49, 3), (7, .ireturn, 1)]
theorem dd_X7_mostApart : ∀ q ∈ L_X7_mostApart, decode cX7_mostApart q.1 = .ok q.2 := by decide +kernel
abbrev M_X7_mostApart : zM := (cX7_mostApart, RX7, "mostApart", 1, some .int, 11, 0, 0)
theorem u_X7_mostApart : zCal yX7_mostApart (M_X7_mostApart) 0 := ⟨(zmem 600 (by decide +kernel) rfl : Cond.code yX7_mostApart cX7_mostApart 1 (some .int) ∈ zTb), zmem 61 (by decide +kernel) rfl, by decide +kernel, Nat.le_of_ble_eq_true rfl⟩
theorem qi_X7_mostApart : Cond.instanceMethod yX7_mostApart ∈ zTb := zmem 598 (by decide +kernel) rfl
theorem qs_X7_mostApart : Cond.selects yX7_mostApart.cls yX7_mostApart yX7_mostApart ∈ zTb := zmem 599 (by decide +kernel) rfl
def f_X7_mostApart (v0 : Nat) (h : zH) : zR :=
  zoc h v0 3 <|
  zcI (f_X7_mostApartFrom 10 v0 0 0 0 h) fun x1 h2 =>
  zrI x1 h2
set_option maxRecDepth 100000 in
set_option maxHeartbeats 4000000 in
theorem m_X7_mostApart (l : Launch) (D : zD) (v0 : Nat) (h : zH) : zMet l D yX7_mostApart M_X7_mostApart [.ref v0] h (f_X7_mostApart v0 h) := by
  refine zMet.of (by decide +kernel) ⟨rfl, rfl⟩ (Nat.le_of_ble_eq_true rfl) (fun Y hl hD => ?_)
  show Z Y M_X7_mostApart 0 0 0 [(0, .ref v0)] [] h _
  rw [f_X7_mostApart]
  refine z_aload_n 0 (zat dd_X7_mostApart 0 rfl) rfl rfl ?_
  refine z_iconst (x := 0) (zat dd_X7_mostApart 1 rfl) (by decide) ?_
  refine z_iconst (x := 0) (zat dd_X7_mostApart 2 rfl) (by decide) ?_
  refine z_iconst (x := 0) (zat dd_X7_mostApart 3 rfl) (by decide) ?_
  refine z_callV_I0 (M2 := (M_X7_mostApartFrom 10)) [.int 0, .int 0, .int 0] (fun l D _ _ => m_X7_mostApartFrom l D 10 v0 0 0 0 h) (u_X7_mostApartFrom 10) ql_X7_49 qi_X7_mostApartFrom qs_X7_mostApartFrom (ci := 3) rfl rfl rfl (Nat.le_of_ble_eq_true rfl) (by decide) rfl rfl (zat dd_X7_mostApart 4 rfl) (fun x1 h2 => ?_)
  exact z_iret rfl (zat dd_X7_mostApart 5 rfl)
