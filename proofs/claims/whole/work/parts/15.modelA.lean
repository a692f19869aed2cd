/-! PaperDollsModel.<init>()V -/
def L_X10_init : List (Nat × Instr × Nat) := [(0, .aload_n 0, 1), (1, .invokespecial 1, 3), (4, .aload_n 0, 1), (5, .bipush 88, 2), (7, .newarray .int, 2), (9, .putfield 7, 3), (12, .aload_n 0, 1), (13, .bipush 88, 2), (15, .newarray .int, 2), (17, .putfield 13, 3), (20, .aload_n 0, 1), (21, .sipush 144, 3), (24, .newarray .int, 2), (26, .putfield 16, 3), (29, .aload_n 0, 1), (30, .sipush 176, 3), (33, .newarray .int, 2), (35, .putfield 19, 3), (38, .aload_n 0, 1), (39, .sipush 288, 3), (42, .newarray .int, 2), (44, .putfield 22, 3), (47, .aload_n 0, 1), (48, .iconst 2, 1), (49, .newarray .int, 2), (51, .putfield 25, 3), (54, .aload_n 0, 1), (55, .sipush 150, 3), (58, .newarray .int, 2), (60, .putfield 28, 3), (63, .aload_n 0, 1), (64, .lconst 1, 1), (65, .putfield 31, 3), (68, .aload_n 0, 1), (69, .iconst 3, 1), (70, .newarray .int, 2), (72, .putfield 35, 3), (75, .aload_n 0, 1), (76, .sipush 256, 3), (79, .newarray .int, 2), (81, .putfield 38, 3), (84, .aload_n 0, 1), (85, .bipush 8, 2), (87, .newarray .int, 2), (89, .putfield 41, 3), (92, .return_, 1)]
theorem dd_X10_init : ∀ q ∈ L_X10_init, decode cX10_init q.1 = .ok q.2 := by decide +kernel
abbrev M_X10_init : zM := (cX10_init, RX10, "<init>", 1, none, 0, 10, 1203)
theorem u_X10_init : zCal yX10_init (M_X10_init) 0 := ⟨(zmem 804 (by decide +kernel) rfl : Cond.code yX10_init cX10_init 1 (none) ∈ zTb), zmem 63 (by decide +kernel) rfl, by decide +kernel, Nat.le_of_ble_eq_true rfl⟩
theorem qi_X10_init : Cond.instanceMethod yX10_init ∈ zTb := zmem 803 (by decide +kernel) rfl
def f_X10_init (v0 : Nat) (h : zH) : zR :=
  zN h (.inl (0, 88, .inl fun _ => 0)) fun a1 h2 =>
  zpV h2 v0 6 0 (.ref a1) fun h3 =>
  zN h3 (.inl (0, 88, .inl fun _ => 0)) fun a4 h5 =>
  zpV h5 v0 6 1 (.ref a4) fun h6 =>
  zN h6 (.inl (0, 144, .inl fun _ => 0)) fun a7 h8 =>
  zpV h8 v0 6 2 (.ref a7) fun h9 =>
  zN h9 (.inl (0, 176, .inl fun _ => 0)) fun a10 h11 =>
  zpV h11 v0 6 4 (.ref a10) fun h12 =>
  zN h12 (.inl (0, 288, .inl fun _ => 0)) fun a13 h14 =>
  zpV h14 v0 6 5 (.ref a13) fun h15 =>
  zN h15 (.inl (0, 2, .inl fun _ => 0)) fun a16 h17 =>
  zpV h17 v0 6 6 (.ref a16) fun h18 =>
  zN h18 (.inl (0, 150, .inl fun _ => 0)) fun a19 h20 =>
  zpV h20 v0 6 9 (.ref a19) fun h21 =>
  zpV h21 v0 6 11 (.long 1) fun h22 =>
  zN h22 (.inl (0, 3, .inl fun _ => 0)) fun a23 h24 =>
  zpV h24 v0 6 12 (.ref a23) fun h25 =>
  zN h25 (.inl (0, 256, .inl fun _ => 0)) fun a26 h27 =>
  zpV h27 v0 6 17 (.ref a26) fun h28 =>
  zN h28 (.inl (0, 8, .inl fun _ => 0)) fun a29 h30 =>
  zpV h30 v0 6 18 (.ref a29) fun h31 =>
  zrV h31
set_option maxRecDepth 100000 in
set_option maxHeartbeats 4000000 in
theorem m_X10_init (l : Launch) (D : zD) (v0 : Nat) (h : zH) : zMet l D yX10_init M_X10_init [.ref v0] h (f_X10_init v0 h) := by
  refine zMet.of (by decide +kernel) ⟨rfl, rfl⟩ (Nat.le_of_ble_eq_true rfl) (fun Y hl hD => ?_)
  show Z Y M_X10_init 0 0 0 [(0, .ref v0)] [] h _
  rw [f_X10_init]
  refine z_aload_n 0 (zat dd_X10_init 0 rfl) rfl rfl ?_
  refine z_objInit ql_X10_1 qo_inst qo_code (Nat.le_of_ble_eq_true rfl) (zat dd_X10_init 1 rfl) ?_
  refine z_aload_n 0 (zat dd_X10_init 2 rfl) rfl rfl ?_
  refine z_bipush (x := 88) (zat dd_X10_init 3 rfl) (by decide) ?_
  refine z_newA0 (cells2 := 1) (slots2 := 88) qa_int (by decide) (by decide) (by decide) (by decide) (by decide) rfl rfl (zat dd_X10_init 4 rfl) (fun a1 h2 => ?_)
  refine z_putF fl_X10_7 rfl rfl rfl rfl (zat dd_X10_init 5 rfl) (fun h3 => ?_)
  refine z_aload_n 0 (zat dd_X10_init 6 rfl) rfl rfl ?_
  refine z_bipush (x := 88) (zat dd_X10_init 7 rfl) (by decide) ?_
  refine z_newA0 (cells2 := 2) (slots2 := 176) qa_int (by decide) (by decide) (by decide) (by decide) (by decide) rfl rfl (zat dd_X10_init 8 rfl) (fun a4 h5 => ?_)
  refine z_putF fl_X10_13 rfl rfl rfl rfl (zat dd_X10_init 9 rfl) (fun h6 => ?_)
  refine z_aload_n 0 (zat dd_X10_init 10 rfl) rfl rfl ?_
  refine z_sipush (x := 144) (zat dd_X10_init 11 rfl) (by decide) ?_
  refine z_newA0 (cells2 := 3) (slots2 := 320) qa_int (by decide) (by decide) (by decide) (by decide) (by decide) rfl rfl (zat dd_X10_init 12 rfl) (fun a7 h8 => ?_)
  refine z_putF fl_X10_16 rfl rfl rfl rfl (zat dd_X10_init 13 rfl) (fun h9 => ?_)
  refine z_aload_n 0 (zat dd_X10_init 14 rfl) rfl rfl ?_
  refine z_sipush (x := 176) (zat dd_X10_init 15 rfl) (by decide) ?_
  refine z_newA0 (cells2 := 4) (slots2 := 496) qa_int (by decide) (by decide) (by decide) (by decide) (by decide) rfl rfl (zat dd_X10_init 16 rfl) (fun a10 h11 => ?_)
  refine z_putF fl_X10_19 rfl rfl rfl rfl (zat dd_X10_init 17 rfl) (fun h12 => ?_)
  refine z_aload_n 0 (zat dd_X10_init 18 rfl) rfl rfl ?_
  refine z_sipush (x := 288) (zat dd_X10_init 19 rfl) (by decide) ?_
  refine z_newA0 (cells2 := 5) (slots2 := 784) qa_int (by decide) (by decide) (by decide) (by decide) (by decide) rfl rfl (zat dd_X10_init 20 rfl) (fun a13 h14 => ?_)
  refine z_putF fl_X10_22 rfl rfl rfl rfl (zat dd_X10_init 21 rfl) (fun h15 => ?_)
  refine z_aload_n 0 (zat dd_X10_init 22 rfl) rfl rfl ?_
  refine z_iconst (x := 2) (zat dd_X10_init 23 rfl) (by decide) ?_
  refine z_newA0 (cells2 := 6) (slots2 := 786) qa_int (by decide) (by decide) (by decide) (by decide) (by decide) rfl rfl (zat dd_X10_init 24 rfl) (fun a16 h17 => ?_)
  refine z_putF fl_X10_25 rfl rfl rfl rfl (zat dd_X10_init 25 rfl) (fun h18 => ?_)
  refine z_aload_n 0 (zat dd_X10_init 26 rfl) rfl rfl ?_
  refine z_sipush (x := 150) (zat dd_X10_init 27 rfl) (by decide) ?_
  refine z_newA0 (cells2 := 7) (slots2 := 936) qa_int (by decide) (by decide) (by decide) (by decide) (by decide) rfl rfl (zat dd_X10_init 28 rfl) (fun a19 h20 => ?_)
  refine z_putF fl_X10_28 rfl rfl rfl rfl (zat dd_X10_init 29 rfl) (fun h21 => ?_)
  refine z_aload_n 0 (zat dd_X10_init 30 rfl) rfl rfl ?_
  refine z_lconst (x := 1) (zat dd_X10_init 31 rfl) (by decide) ?_
  refine z_put fl_X10_31 rfl rfl (zat dd_X10_init 32 rfl) (fun h22 => ?_)
  refine z_aload_n 0 (zat dd_X10_init 33 rfl) rfl rfl ?_
  refine z_iconst (x := 3) (zat dd_X10_init 34 rfl) (by decide) ?_
  refine z_newA0 (cells2 := 8) (slots2 := 939) qa_int (by decide) (by decide) (by decide) (by decide) (by decide) rfl rfl (zat dd_X10_init 35 rfl) (fun a23 h24 => ?_)
  refine z_putF fl_X10_35 rfl rfl rfl rfl (zat dd_X10_init 36 rfl) (fun h25 => ?_)
  refine z_aload_n 0 (zat dd_X10_init 37 rfl) rfl rfl ?_
  refine z_sipush (x := 256) (zat dd_X10_init 38 rfl) (by decide) ?_
  refine z_newA0 (cells2 := 9) (slots2 := 1195) qa_int (by decide) (by decide) (by decide) (by decide) (by decide) rfl rfl (zat dd_X10_init 39 rfl) (fun a26 h27 => ?_)
  refine z_putF fl_X10_38 rfl rfl rfl rfl (zat dd_X10_init 40 rfl) (fun h28 => ?_)
  refine z_aload_n 0 (zat dd_X10_init 41 rfl) rfl rfl ?_
  refine z_bipush (x := 8) (zat dd_X10_init 42 rfl) (by decide) ?_
  refine z_newA0 (cells2 := 10) (slots2 := 1203) qa_int (by decide) (by decide) (by decide) (by decide) (by decide) rfl rfl (zat dd_X10_init 43 rfl) (fun a29 h30 => ?_)
  refine z_putF fl_X10_41 rfl rfl rfl rfl (zat dd_X10_init 44 rfl) (fun h31 => ?_)
  exact z_vret rfl (zat dd_X10_init 45 rfl)
/-! PaperDollsModel.in(JJJ)Z -/
def L_X10_in : List (Nat × Instr × Nat) := [(0, .lload_n 0, 1), (1, .lload_n 2, 1), (2, .lcmp, 1), (3, .ifCond .lt 14, 3), (6, .lload_n 0, 1), (7, .lload 4, 2), (9, .lcmp, 1), (10, .ifCond .gt 7, 3), (13, .iconst 1, 1), (14, .goto 4, 3), (17, .iconst 0, 1), (18, .ireturn, 1)]
theorem dd_X10_in : ∀ q ∈ L_X10_in, decode cX10_in q.1 = .ok q.2 := by decide +kernel
abbrev M_X10_in : zM := (cX10_in, RX10, "in", 6, some .boolean, 0, 0, 0)
theorem u_X10_in : zCal yX10_in (M_X10_in) 3 := ⟨(zmem 871 (by decide +kernel) rfl : Cond.code yX10_in cX10_in 6 (some .boolean) ∈ zTb), zmem 63 (by decide +kernel) rfl, by decide +kernel, Nat.le_of_ble_eq_true rfl⟩
theorem qi_X10_in : Cond.static yX10_in ∈ zTb := zmem 870 (by decide +kernel) rfl
def f_X10_in_18 (t0 : Int32) (h : zH) : zR :=
  zrZ t0 h
set_option maxRecDepth 100000 in
set_option maxHeartbeats 4000000 in
theorem zb_X10_in_18 (Y : zY) (t0 : Int32) (h : zH) : Z Y M_X10_in 0 0 18 [] [.int t0] h (f_X10_in_18 t0 h) := by
  rw [f_X10_in_18]
  exact z_zret rfl (zat dd_X10_in 11 rfl)
def f_X10_in_17 (h : zH) : zR :=
  f_X10_in_18 0 h
set_option maxRecDepth 100000 in
set_option maxHeartbeats 4000000 in
theorem zb_X10_in_17 (Y : zY) (h : zH) : Z Y M_X10_in 0 0 17 [] [] h (f_X10_in_17  h) := by
  rw [f_X10_in_17]
  refine z_iconst (x := 0) (zat dd_X10_in 10 rfl) (by decide) ?_
  exact zb_X10_in_18 Y 0 h
def f_X10_in (v0 : Int64) (v2 : Int64) (v4 : Int64) (h : zH) : zR :=
  if (lg_cmp v0 v2) < 0 then
  f_X10_in_17 h
  else
  if 0 < (lg_cmp v0 v4) then
  f_X10_in_17 h
  else
  f_X10_in_18 1 h
set_option maxRecDepth 100000 in
set_option maxHeartbeats 4000000 in
theorem m_X10_in (l : Launch) (D : zD) (v0 : Int64) (v2 : Int64) (v4 : Int64) (h : zH) : zMet l D yX10_in M_X10_in [.long v0, .long v2, .long v4] h (f_X10_in v0 v2 v4 h) := by
  refine zMet.of (by decide +kernel) ⟨rfl, rfl⟩ (Nat.le_of_ble_eq_true rfl) (fun Y hl hD => ?_)
  show Z Y M_X10_in 0 0 0 [(0, .long v0), (2, .long v2), (4, .long v4)] [] h _
  rw [f_X10_in]
  refine z_lload_n 0 (zat dd_X10_in 0 rfl) rfl rfl ?_
  refine z_lload_n 1 (zat dd_X10_in 1 rfl) rfl rfl ?_
  refine z_lcmp (zat dd_X10_in 2 rfl) ?_
  refine z_if_lt (tgt := 17) (zat dd_X10_in 3 rfl) (by decide) ?_ ?_
  · refine z_sub [] rfl ?_
    exact zb_X10_in_17 Y h
  · refine z_lload_n 0 (zat dd_X10_in 4 rfl) rfl rfl ?_
    refine z_lload 2 (zat dd_X10_in 5 rfl) rfl ?_
    refine z_lcmp (zat dd_X10_in 6 rfl) ?_
    refine z_if_gt (tgt := 17) (zat dd_X10_in 7 rfl) (by decide) ?_ ?_
    · refine z_sub [] rfl ?_
      exact zb_X10_in_17 Y h
    · refine z_iconst (x := 1) (zat dd_X10_in 8 rfl) (by decide) ?_
      refine z_goto (tgt := 18) (zat dd_X10_in 9 rfl) (by decide) ?_
      refine z_sub [] rfl ?_
      exact zb_X10_in_18 Y 1 h
/-! PaperDollsModel.has(II)Z -/
def L_X10_has : List (Nat × Instr × Nat) := [(0, .iload_n 0, 1), (1, .iload_n 1, 1), (2, .ishr, 1), (3, .iconst 1, 1), (4, .iand, 1), (5, .iconst 1, 1), (6, .if_icmp .ne 7, 3), (9, .iconst 1, 1), (10, .goto 4, 3), (13, .iconst 0, 1), (14, .ireturn, 1)]
theorem dd_X10_has : ∀ q ∈ L_X10_has, decode cX10_has q.1 = .ok q.2 := by decide +kernel
abbrev M_X10_has : zM := (cX10_has, RX10, "has", 2, some .boolean, 0, 0, 0)
theorem u_X10_has : zCal yX10_has (M_X10_has) 2 := ⟨(zmem 1032 (by decide +kernel) rfl : Cond.code yX10_has cX10_has 2 (some .boolean) ∈ zTb), zmem 63 (by decide +kernel) rfl, by decide +kernel, Nat.le_of_ble_eq_true rfl⟩
theorem qi_X10_has : Cond.static yX10_has ∈ zTb := zmem 1031 (by decide +kernel) rfl
def f_X10_has_14 (t0 : Int32) (h : zH) : zR :=
  zrZ t0 h
set_option maxRecDepth 100000 in
set_option maxHeartbeats 4000000 in
theorem zb_X10_has_14 (Y : zY) (t0 : Int32) (h : zH) : Z Y M_X10_has 0 0 14 [] [.int t0] h (f_X10_has_14 t0 h) := by
  rw [f_X10_has_14]
  exact z_zret rfl (zat dd_X10_has 10 rfl)
def f_X10_has (v0 : Int32) (v1 : Int32) (h : zH) : zR :=
  if ((v0 >>> (v1 &&& 31)) &&& 1) = 1 then
  f_X10_has_14 1 h
  else
  f_X10_has_14 0 h
set_option maxRecDepth 100000 in
set_option maxHeartbeats 4000000 in
theorem m_X10_has (l : Launch) (D : zD) (v0 : Int32) (v1 : Int32) (h : zH) : zMet l D yX10_has M_X10_has [.int v0, .int v1] h (f_X10_has v0 v1 h) := by
  refine zMet.of (by decide +kernel) ⟨rfl, rfl⟩ (Nat.le_of_ble_eq_true rfl) (fun Y hl hD => ?_)
  show Z Y M_X10_has 0 0 0 [(0, .int v0), (1, .int v1)] [] h _
  rw [f_X10_has]
  refine z_iload_n 0 (zat dd_X10_has 0 rfl) rfl rfl ?_
  refine z_iload_n 1 (zat dd_X10_has 1 rfl) rfl rfl ?_
  refine z_ishr (zat dd_X10_has 2 rfl) ?_
  refine z_iconst (x := 1) (zat dd_X10_has 3 rfl) (by decide) ?_
  refine z_iand (zat dd_X10_has 4 rfl) ?_
  refine z_iconst (x := 1) (zat dd_X10_has 5 rfl) (by decide) ?_
  refine z_icmp_ne (tgt := 13) (zat dd_X10_has 6 rfl) (by decide) ?_ ?_
  · refine z_iconst (x := 0) (zat dd_X10_has 9 rfl) (by decide) ?_
    refine z_sub [] rfl ?_
    exact zb_X10_has_14 Y 0 h
  · refine z_iconst (x := 1) (zat dd_X10_has 7 rfl) (by decide) ?_
    refine z_goto (tgt := 14) (zat dd_X10_has 8 rfl) (by decide) ?_
    refine z_sub [] rfl ?_
    exact zb_X10_has_14 Y 1 h
/-! PaperDollsModel.ones(I)I -/
def L_X10_ones : List (Nat × Instr × Nat) := [(0, .iconst 0, 1), (1, .istore_n 1, 1), (2, .iload_n 0, 1), (3, .istore_n 2, 1), (4, .iload_n 2, 1), (5, .ifCond .eq 15, 3), (8, .iinc 1 1, 3), (11, .iload_n 2, 1), (12, .iload_n 2, 1), (13, .iconst 1, 1), (14, .isub, 1), (15, .iand, 1), (16, .istore_n 2, 1), (17, .goto (-13), 3), (20, .iload_n 1, 1), (21, .ireturn, 1)]
theorem dd_X10_ones : ∀ q ∈ L_X10_ones, decode cX10_ones q.1 = .ok q.2 := by decide +kernel
abbrev M_X10_ones : zM := (cX10_ones, RX10, "ones", 3, some .int, 0, 0, 0)
theorem u_X10_ones : zCal yX10_ones (M_X10_ones) 1 := ⟨(zmem 1079 (by decide +kernel) rfl : Cond.code yX10_ones cX10_ones 3 (some .int) ∈ zTb), zmem 63 (by decide +kernel) rfl, by decide +kernel, Nat.le_of_ble_eq_true rfl⟩
theorem qi_X10_ones : Cond.static yX10_ones ∈ zTb := zmem 1078 (by decide +kernel) rfl
def f_X10_ones_4 : Nat → Int32 → Int32 → zH → zR
  | 0, _, _, _ => none
  | n + 1, v1, v2, h =>
  if v2 = 0 then
  zrI v1 h
  else
  zlt (v2 &&& (v2 - 1)) fun x1 =>
  f_X10_ones_4 n (v1 + 1) x1 h
set_option maxRecDepth 100000 in
set_option maxHeartbeats 4000000 in
theorem zb_X10_ones_4 (Y : zY) : ∀ (n : Nat) (v1 : Int32) (v2 : Int32) (h : zH), Z Y M_X10_ones 0 0 4 [(1, .int v1), (2, .int v2)] [] h (f_X10_ones_4 n v1 v2 h) := by
  intro n
  induction n with
  | zero =>
    intro v1 v2 h
    rw [f_X10_ones_4]
    exact z_none
  | succ n ih =>
    intro v1 v2 h
    rw [f_X10_ones_4]
    refine z_iload_n 1 (zat dd_X10_ones 4 rfl) rfl rfl ?_
    refine z_if_eq (tgt := 20) (zat dd_X10_ones 5 rfl) (by decide) ?_ ?_
    · refine z_iload_n 0 (zat dd_X10_ones 14 rfl) rfl rfl ?_
      exact z_iret rfl (zat dd_X10_ones 15 rfl)
    · refine z_iinc (y := v1 + 1) (lv' := [(1, .int (v1 + 1)), (2, .int v2)]) 0 (zat dd_X10_ones 6 rfl) rfl rfl (Nat.le_of_ble_eq_true rfl) rfl ?_
      refine z_iload_n 1 (zat dd_X10_ones 7 rfl) rfl rfl ?_
      refine z_iload_n 1 (zat dd_X10_ones 8 rfl) rfl rfl ?_
      refine z_iconst (x := 1) (zat dd_X10_ones 9 rfl) (by decide) ?_
      refine z_isub (zat dd_X10_ones 10 rfl) ?_
      refine z_iand (zat dd_X10_ones 11 rfl) ?_
      refine z_let (fun x1 => ?_)
      refine z_istore_n (lv' := [(2, .int x1), (1, .int (v1 + 1))]) (zat dd_X10_ones 12 rfl) rfl (Nat.le_of_ble_eq_true rfl) rfl ?_
      refine z_goto (tgt := 4) (zat dd_X10_ones 13 rfl) (by decide) ?_
      refine z_sub [1, 0] rfl ?_
      exact ih (v1 + 1) x1 h
def f_X10_ones (v0 : Int32) (h : zH) : zR :=
  f_X10_ones_4 zF 0 v0 h
set_option maxRecDepth 100000 in
set_option maxHeartbeats 4000000 in
theorem m_X10_ones (l : Launch) (D : zD) (v0 : Int32) (h : zH) : zMet l D yX10_ones M_X10_ones [.int v0] h (f_X10_ones v0 h) := by
  refine zMet.of (by decide +kernel) ⟨rfl, rfl⟩ (Nat.le_of_ble_eq_true rfl) (fun Y hl hD => ?_)
  show Z Y M_X10_ones 0 0 0 [(0, .int v0)] [] h _
  rw [f_X10_ones]
  refine z_iconst (x := 0) (zat dd_X10_ones 0 rfl) (by decide) ?_
  refine z_istore_n (lv' := [(1, .int 0), (0, .int v0)]) (zat dd_X10_ones 1 rfl) rfl (Nat.le_of_ble_eq_true rfl) rfl ?_
  refine z_iload_n 1 (zat dd_X10_ones 2 rfl) rfl rfl ?_
  refine z_istore_n (lv' := [(2, .int v0), (1, .int 0), (0, .int v0)]) (zat dd_X10_ones 3 rfl) rfl (Nat.le_of_ble_eq_true rfl) rfl ?_
  refine z_sub [1, 0] rfl ?_
  exact zb_X10_ones_4 Y zF 0 v0 h
/-! PaperDollsModel.bad()I -/
def L_X10_bad : List (Nat × Instr × Nat) := [(0, .aload_n 0, 1), (1, .getfield 35, 3), (4, .iconst 0, 1), (5, .dup2, 1), (6, .iaload, 1), (7, .iconst 1, 1), (8, .iadd, 1), (9, .iastore, 1), (10, .bipush (-102), 2), (12, .ireturn, 1)]
theorem dd_X10_bad : ∀ q ∈ L_X10_bad, decode cX10_bad q.1 = .ok q.2 := by decide +kernel
abbrev M_X10_bad : zM := (cX10_bad, RX10, "bad", 1, some .int, 0, 0, 0)
theorem u_X10_bad : zCal yX10_bad (M_X10_bad) 0 := ⟨(zmem 875 (by decide +kernel) rfl : Cond.code yX10_bad cX10_bad 1 (some .int) ∈ zTb), zmem 63 (by decide +kernel) rfl, by decide +kernel, Nat.le_of_ble_eq_true rfl⟩
theorem qi_X10_bad : Cond.instanceMethod yX10_bad ∈ zTb := zmem 874 (by decide +kernel) rfl
theorem qs_X10_bad : Cond.selects yX10_bad.cls yX10_bad yX10_bad ∈ zTb := zmem 19 (by decide +kernel) rfl
def f_X10_bad (v0 : Nat) (h : zH) : zR :=
  zgR h v0 6 12 fun a1 =>
  zaI h a1 0 0 fun x2 =>
  zsI h a1 0 0 (x2 + 1) fun h3 =>
  zrI (-102) h3
set_option maxRecDepth 100000 in
set_option maxHeartbeats 4000000 in
theorem m_X10_bad (l : Launch) (D : zD) (v0 : Nat) (h : zH) : zMet l D yX10_bad M_X10_bad [.ref v0] h (f_X10_bad v0 h) := by
  refine zMet.of (by decide +kernel) ⟨rfl, rfl⟩ (Nat.le_of_ble_eq_true rfl) (fun Y hl hD => ?_)
  show Z Y M_X10_bad 0 0 0 [(0, .ref v0)] [] h _
  rw [f_X10_bad]
  refine z_aload_n 0 (zat dd_X10_bad 0 rfl) rfl rfl ?_
  refine z_getR fl_X10_35 (zat dd_X10_bad 1 rfl) (fun a1 => ?_)
  refine z_iconst (x := 0) (zat dd_X10_bad 2 rfl) (by decide) ?_
  refine z_dup2 (zat dd_X10_bad 3 rfl) rfl rfl ?_
  refine z_iald (zat dd_X10_bad 4 rfl) (fun x2 => ?_)
  refine z_iconst (x := 1) (zat dd_X10_bad 5 rfl) (by decide) ?_
  refine z_iadd (zat dd_X10_bad 6 rfl) ?_
  refine z_iast (zat dd_X10_bad 7 rfl) (fun h3 => ?_)
  refine z_bipush (x := (-102)) (zat dd_X10_bad 8 rfl) (by decide) ?_
  exact z_iret rfl (zat dd_X10_bad 9 rfl)
/-! PaperDollsModel.no()I -/
def L_X10_no : List (Nat × Instr × Nat) := [(0, .aload_n 0, 1), (1, .getfield 35, 3), (4, .iconst 1, 1), (5, .dup2, 1), (6, .iaload, 1), (7, .iconst 1, 1), (8, .iadd, 1), (9, .iastore, 1), (10, .bipush (-103), 2), (12, .ireturn, 1)]
theorem dd_X10_no : ∀ q ∈ L_X10_no, decode cX10_no q.1 = .ok q.2 := by decide +kernel
abbrev M_X10_no : zM := (cX10_no, RX10, "no", 1, some .int, 0, 0, 0)
theorem u_X10_no : zCal yX10_no (M_X10_no) 0 := ⟨(zmem 1004 (by decide +kernel) rfl : Cond.code yX10_no cX10_no 1 (some .int) ∈ zTb), zmem 63 (by decide +kernel) rfl, by decide +kernel, Nat.le_of_ble_eq_true rfl⟩
theorem qi_X10_no : Cond.instanceMethod yX10_no ∈ zTb := zmem 1003 (by decide +kernel) rfl
theorem qs_X10_no : Cond.selects yX10_no.cls yX10_no yX10_no ∈ zTb := zmem 39 (by decide +kernel) rfl
def f_X10_no (v0 : Nat) (h : zH) : zR :=
  zgR h v0 6 12 fun a1 =>
  zaI h a1 0 1 fun x2 =>
  zsI h a1 0 1 (x2 + 1) fun h3 =>
  zrI (-103) h3
set_option maxRecDepth 100000 in
set_option maxHeartbeats 4000000 in
theorem m_X10_no (l : Launch) (D : zD) (v0 : Nat) (h : zH) : zMet l D yX10_no M_X10_no [.ref v0] h (f_X10_no v0 h) := by
  refine zMet.of (by decide +kernel) ⟨rfl, rfl⟩ (Nat.le_of_ble_eq_true rfl) (fun Y hl hD => ?_)
  show Z Y M_X10_no 0 0 0 [(0, .ref v0)] [] h _
  rw [f_X10_no]
  refine z_aload_n 0 (zat dd_X10_no 0 rfl) rfl rfl ?_
  refine z_getR fl_X10_35 (zat dd_X10_no 1 rfl) (fun a1 => ?_)
  refine z_iconst (x := 1) (zat dd_X10_no 2 rfl) (by decide) ?_
  refine z_dup2 (zat dd_X10_no 3 rfl) rfl rfl ?_
  refine z_iald (zat dd_X10_no 4 rfl) (fun x2 => ?_)
  refine z_iconst (x := 1) (zat dd_X10_no 5 rfl) (by decide) ?_
  refine z_iadd (zat dd_X10_no 6 rfl) ?_
  refine z_iast (zat dd_X10_no 7 rfl) (fun h3 => ?_)
  refine z_bipush (x := (-103)) (zat dd_X10_no 8 rfl) (by decide) ?_
  exact z_iret rfl (zat dd_X10_no 9 rfl)
/-! PaperDollsModel.full()I -/
def L_X10_full : List (Nat × Instr × Nat) := [(0, .aload_n 0, 1), (1, .getfield 35, 3), (4, .iconst 2, 1), (5, .dup2, 1), (6, .iaload, 1), (7, .iconst 1, 1), (8, .iadd, 1), (9, .iastore, 1), (10, .bipush (-104), 2), (12, .ireturn, 1)]
theorem dd_X10_full : ∀ q ∈ L_X10_full, decode cX10_full q.1 = .ok q.2 := by decide +kernel
abbrev M_X10_full : zM := (cX10_full, RX10, "full", 1, some .int, 0, 0, 0)
theorem u_X10_full : zCal yX10_full (M_X10_full) 0 := ⟨(zmem 897 (by decide +kernel) rfl : Cond.code yX10_full cX10_full 1 (some .int) ∈ zTb), zmem 63 (by decide +kernel) rfl, by decide +kernel, Nat.le_of_ble_eq_true rfl⟩
theorem qi_X10_full : Cond.instanceMethod yX10_full ∈ zTb := zmem 896 (by decide +kernel) rfl
theorem qs_X10_full : Cond.selects yX10_full.cls yX10_full yX10_full ∈ zTb := zmem 22 (by decide +kernel) rfl
def f_X10_full (v0 : Nat) (h : zH) : zR :=
  zgR h v0 6 12 fun a1 =>
  zaI h a1 0 2 fun x2 =>
  zsI h a1 0 2 (x2 + 1) fun h3 =>
  zrI (-104) h3
set_option maxRecDepth 100000 in
set_option maxHeartbeats 4000000 in
theorem m_X10_full (l : Launch) (D : zD) (v0 : Nat) (h : zH) : zMet l D yX10_full M_X10_full [.ref v0] h (f_X10_full v0 h) := by
  refine zMet.of (by decide +kernel) ⟨rfl, rfl⟩ (Nat.le_of_ble_eq_true rfl) (fun Y hl hD => ?_)
  show Z Y M_X10_full 0 0 0 [(0, .ref v0)] [] h _
  rw [f_X10_full]
  refine z_aload_n 0 (zat dd_X10_full 0 rfl) rfl rfl ?_
  refine z_getR fl_X10_35 (zat dd_X10_full 1 rfl) (fun a1 => ?_)
  refine z_iconst (x := 2) (zat dd_X10_full 2 rfl) (by decide) ?_
  refine z_dup2 (zat dd_X10_full 3 rfl) rfl rfl ?_
  refine z_iald (zat dd_X10_full 4 rfl) (fun x2 => ?_)
  refine z_iconst (x := 1) (zat dd_X10_full 5 rfl) (by decide) ?_
  refine z_iadd (zat dd_X10_full 6 rfl) ?_
  refine z_iast (zat dd_X10_full 7 rfl) (fun h3 => ?_)
  refine z_bipush (x := (-104)) (zat dd_X10_full 8 rfl) (by decide) ?_
  exact z_iret rfl (zat dd_X10_full 9 rfl)
/-! PaperDollsModel.covers(I)I -/
def L_X10_covers : List (Nat × Instr × Nat) := [(0, .iload_n 0, 1), (1, .ifCond .ne 7, 3), (4, .iconst 2, 1), (5, .goto 44, 3), (8, .iload_n 0, 1), (9, .iconst 1, 1), (10, .if_icmp .ne 8, 3), (13, .bipush 6, 2), (15, .goto 34, 3), (18, .iload_n 0, 1), (19, .iconst 2, 1), (20, .if_icmp .ne 8, 3), (23, .bipush 7, 2), (25, .goto 24, 3), (28, .iload_n 0, 1), (29, .iconst 3, 1), (30, .if_icmp .ne 7, 3), (33, .iconst 1, 1), (34, .goto 15, 3), (37, .iload_n 0, 1), (38, .iconst 4, 1), (39, .if_icmp .ne 8, 3), (42, .bipush 8, 2), (44, .goto 5, 3), (47, .bipush 14, 2), (49, .ireturn, 1)]
theorem dd_X10_covers : ∀ q ∈ L_X10_covers, decode cX10_covers q.1 = .ok q.2 := by decide +kernel
abbrev M_X10_covers : zM := (cX10_covers, RX10, "covers", 1, some .int, 0, 0, 0)
theorem u_X10_covers : zCal yX10_covers (M_X10_covers) 1 := ⟨(zmem 976 (by decide +kernel) rfl : Cond.code yX10_covers cX10_covers 1 (some .int) ∈ zTb), zmem 63 (by decide +kernel) rfl, by decide +kernel, Nat.le_of_ble_eq_true rfl⟩
theorem qi_X10_covers : Cond.static yX10_covers ∈ zTb := zmem 975 (by decide +kernel) rfl
def f_X10_covers_49 (t0 : Int32) (h : zH) : zR :=
  zrI t0 h
set_option maxRecDepth 100000 in
set_option maxHeartbeats 4000000 in
theorem zb_X10_covers_49 (Y : zY) (t0 : Int32) (h : zH) : Z Y M_X10_covers 0 0 49 [] [.int t0] h (f_X10_covers_49 t0 h) := by
  rw [f_X10_covers_49]
  exact z_iret rfl (zat dd_X10_covers 25 rfl)
def f_X10_covers (v0 : Int32) (h : zH) : zR :=
  if v0 = 0 then
  f_X10_covers_49 2 h
  else
  if v0 = 1 then
  f_X10_covers_49 6 h
  else
  if v0 = 2 then
  f_X10_covers_49 7 h
  else
  if v0 = 3 then
  f_X10_covers_49 1 h
  else
  if v0 = 4 then
  f_X10_covers_49 8 h
  else
  f_X10_covers_49 14 h
set_option maxRecDepth 100000 in
set_option maxHeartbeats 4000000 in
theorem m_X10_covers (l : Launch) (D : zD) (v0 : Int32) (h : zH) : zMet l D yX10_covers M_X10_covers [.int v0] h (f_X10_covers v0 h) := by
  refine zMet.of (by decide +kernel) ⟨rfl, rfl⟩ (Nat.le_of_ble_eq_true rfl) (fun Y hl hD => ?_)
  show Z Y M_X10_covers 0 0 0 [(0, .int v0)] [] h _
  rw [f_X10_covers]
  refine z_iload_n 0 (zat dd_X10_covers 0 rfl) rfl rfl ?_
  refine z_if_ne (tgt := 8) (zat dd_X10_covers 1 rfl) (by decide) ?_ ?_
  · refine z_iload_n 0 (zat dd_X10_covers 4 rfl) rfl rfl ?_
    refine z_iconst (x := 1) (zat dd_X10_covers 5 rfl) (by decide) ?_
    refine z_icmp_ne (tgt := 18) (zat dd_X10_covers 6 rfl) (by decide) ?_ ?_
    · refine z_iload_n 0 (zat dd_X10_covers 9 rfl) rfl rfl ?_
      refine z_iconst (x := 2) (zat dd_X10_covers 10 rfl) (by decide) ?_
      refine z_icmp_ne (tgt := 28) (zat dd_X10_covers 11 rfl) (by decide) ?_ ?_
      · refine z_iload_n 0 (zat dd_X10_covers 14 rfl) rfl rfl ?_
        refine z_iconst (x := 3) (zat dd_X10_covers 15 rfl) (by decide) ?_
        refine z_icmp_ne (tgt := 37) (zat dd_X10_covers 16 rfl) (by decide) ?_ ?_
        · refine z_iload_n 0 (zat dd_X10_covers 19 rfl) rfl rfl ?_
          refine z_iconst (x := 4) (zat dd_X10_covers 20 rfl) (by decide) ?_
          refine z_icmp_ne (tgt := 47) (zat dd_X10_covers 21 rfl) (by decide) ?_ ?_
          · refine z_bipush (x := 14) (zat dd_X10_covers 24 rfl) (by decide) ?_
            refine z_sub [] rfl ?_
            exact zb_X10_covers_49 Y 14 h
          · refine z_bipush (x := 8) (zat dd_X10_covers 22 rfl) (by decide) ?_
            refine z_goto (tgt := 49) (zat dd_X10_covers 23 rfl) (by decide) ?_
            refine z_sub [] rfl ?_
            exact zb_X10_covers_49 Y 8 h
        · refine z_iconst (x := 1) (zat dd_X10_covers 17 rfl) (by decide) ?_
          refine z_goto (tgt := 49) (zat dd_X10_covers 18 rfl) (by decide) ?_
          refine z_sub [] rfl ?_
          exact zb_X10_covers_49 Y 1 h
      · refine z_bipush (x := 7) (zat dd_X10_covers 12 rfl) (by decide) ?_
        refine z_goto (tgt := 49) (zat dd_X10_covers 13 rfl) (by decide) ?_
        refine z_sub [] rfl ?_
        exact zb_X10_covers_49 Y 7 h
    · refine z_bipush (x := 6) (zat dd_X10_covers 7 rfl) (by decide) ?_
      refine z_goto (tgt := 49) (zat dd_X10_covers 8 rfl) (by decide) ?_
      refine z_sub [] rfl ?_
      exact zb_X10_covers_49 Y 6 h
  · refine z_iconst (x := 2) (zat dd_X10_covers 2 rfl) (by decide) ?_
    refine z_goto (tgt := 49) (zat dd_X10_covers 3 rfl) (by decide) ?_
    refine z_sub [] rfl ?_
    exact zb_X10_covers_49 Y 2 h
/-! PaperDollsModel.holds(III)I -/
def L_X10_holds : List (Nat × Instr × Nat) := [(0, .iload_n 1, 1), (1, .iload_n 2, 1), (2, .iconst 3, 1), (3, .idiv, 1), (4, .isub, 1), (5, .istore_n 3, 1), (6, .iload_n 0, 1), (7, .ifCond .ne 7, 3), (10, .iload_n 3, 1), (11, .goto 43, 3), (14, .iload_n 0, 1), (15, .iconst 3, 1), (16, .if_icmp .ne 9, 3), (19, .iload_n 3, 1), (20, .iconst 2, 1), (21, .iadd, 1), (22, .goto 32, 3), (25, .iload_n 0, 1), (26, .iconst 4, 1), (27, .if_icmp .ne 11, 3), (30, .iload_n 3, 1), (31, .iconst 2, 1), (32, .iadd, 1), (33, .iload_n 2, 1), (34, .isub, 1), (35, .goto 19, 3), (38, .iload_n 0, 1), (39, .iconst 5, 1), (40, .if_icmp .ne 11, 3), (43, .iconst 2, 1), (44, .iload_n 3, 1), (45, .iconst 1, 1), (46, .isub, 1), (47, .imul, 1), (48, .goto 6, 3), (51, .iload_n 3, 1), (52, .iconst 1, 1), (53, .isub, 1), (54, .ireturn, 1)]
theorem dd_X10_holds : ∀ q ∈ L_X10_holds, decode cX10_holds q.1 = .ok q.2 := by decide +kernel
abbrev M_X10_holds : zM := (cX10_holds, RX10, "holds", 4, some .int, 0, 0, 0)
theorem u_X10_holds : zCal yX10_holds (M_X10_holds) 3 := ⟨(zmem 966 (by decide +kernel) rfl : Cond.code yX10_holds cX10_holds 4 (some .int) ∈ zTb), zmem 63 (by decide +kernel) rfl, by decide +kernel, Nat.le_of_ble_eq_true rfl⟩
theorem qi_X10_holds : Cond.static yX10_holds ∈ zTb := zmem 965 (by decide +kernel) rfl
def f_X10_holds_54 (t0 : Int32) (h : zH) : zR :=
  zrI t0 h
set_option maxRecDepth 100000 in
set_option maxHeartbeats 4000000 in
theorem zb_X10_holds_54 (Y : zY) (t0 : Int32) (h : zH) : Z Y M_X10_holds 0 0 54 [] [.int t0] h (f_X10_holds_54 t0 h) := by
  rw [f_X10_holds_54]
  exact z_iret rfl (zat dd_X10_holds 38 rfl)
def f_X10_holds (v0 : Int32) (v1 : Int32) (v2 : Int32) (h : zH) : zR :=
  zdv 3 <|
  zlt (v1 - (v2 / 3)) fun x1 =>
  if v0 = 0 then
  f_X10_holds_54 x1 h
  else
  if v0 = 3 then
  f_X10_holds_54 (x1 + 2) h
  else
  if v0 = 4 then
  f_X10_holds_54 ((x1 + 2) - v2) h
  else
  if v0 = 5 then
  f_X10_holds_54 (2 * (x1 - 1)) h
  else
  f_X10_holds_54 (x1 - 1) h
set_option maxRecDepth 100000 in
set_option maxHeartbeats 4000000 in
theorem m_X10_holds (l : Launch) (D : zD) (v0 : Int32) (v1 : Int32) (v2 : Int32) (h : zH) : zMet l D yX10_holds M_X10_holds [.int v0, .int v1, .int v2] h (f_X10_holds v0 v1 v2 h) := by
  refine zMet.of (by decide +kernel) ⟨rfl, rfl⟩ (Nat.le_of_ble_eq_true rfl) (fun Y hl hD => ?_)
  show Z Y M_X10_holds 0 0 0 [(0, .int v0), (1, .int v1), (2, .int v2)] [] h _
  rw [f_X10_holds]
  refine z_iload_n 1 (zat dd_X10_holds 0 rfl) rfl rfl ?_
  refine z_iload_n 2 (zat dd_X10_holds 1 rfl) rfl rfl ?_
  refine z_iconst (x := 3) (zat dd_X10_holds 2 rfl) (by decide) ?_
  refine z_idiv (zat dd_X10_holds 3 rfl) ?_
  refine z_isub (zat dd_X10_holds 4 rfl) ?_
  refine z_let (fun x1 => ?_)
  refine z_istore_n (lv' := [(3, .int x1), (0, .int v0), (1, .int v1), (2, .int v2)]) (zat dd_X10_holds 5 rfl) rfl (Nat.le_of_ble_eq_true rfl) rfl ?_
  refine z_iload_n 1 (zat dd_X10_holds 6 rfl) rfl rfl ?_
  refine z_if_ne (tgt := 14) (zat dd_X10_holds 7 rfl) (by decide) ?_ ?_
  · refine z_iload_n 1 (zat dd_X10_holds 10 rfl) rfl rfl ?_
    refine z_iconst (x := 3) (zat dd_X10_holds 11 rfl) (by decide) ?_
    refine z_icmp_ne (tgt := 25) (zat dd_X10_holds 12 rfl) (by decide) ?_ ?_
    · refine z_iload_n 1 (zat dd_X10_holds 17 rfl) rfl rfl ?_
      refine z_iconst (x := 4) (zat dd_X10_holds 18 rfl) (by decide) ?_
      refine z_icmp_ne (tgt := 38) (zat dd_X10_holds 19 rfl) (by decide) ?_ ?_
      · refine z_iload_n 1 (zat dd_X10_holds 26 rfl) rfl rfl ?_
        refine z_iconst (x := 5) (zat dd_X10_holds 27 rfl) (by decide) ?_
        refine z_icmp_ne (tgt := 51) (zat dd_X10_holds 28 rfl) (by decide) ?_ ?_
        · refine z_iload_n 0 (zat dd_X10_holds 35 rfl) rfl rfl ?_
          refine z_iconst (x := 1) (zat dd_X10_holds 36 rfl) (by decide) ?_
          refine z_isub (zat dd_X10_holds 37 rfl) ?_
          refine z_sub [] rfl ?_
          exact zb_X10_holds_54 Y (x1 - 1) h
        · refine z_iconst (x := 2) (zat dd_X10_holds 29 rfl) (by decide) ?_
          refine z_iload_n 0 (zat dd_X10_holds 30 rfl) rfl rfl ?_
          refine z_iconst (x := 1) (zat dd_X10_holds 31 rfl) (by decide) ?_
          refine z_isub (zat dd_X10_holds 32 rfl) ?_
          refine z_imul (zat dd_X10_holds 33 rfl) ?_
          refine z_goto (tgt := 54) (zat dd_X10_holds 34 rfl) (by decide) ?_
          refine z_sub [] rfl ?_
          exact zb_X10_holds_54 Y (2 * (x1 - 1)) h
      · refine z_iload_n 0 (zat dd_X10_holds 20 rfl) rfl rfl ?_
        refine z_iconst (x := 2) (zat dd_X10_holds 21 rfl) (by decide) ?_
        refine z_iadd (zat dd_X10_holds 22 rfl) ?_
        refine z_iload_n 3 (zat dd_X10_holds 23 rfl) rfl rfl ?_
        refine z_isub (zat dd_X10_holds 24 rfl) ?_
        refine z_goto (tgt := 54) (zat dd_X10_holds 25 rfl) (by decide) ?_
        refine z_sub [] rfl ?_
        exact zb_X10_holds_54 Y ((x1 + 2) - v2) h
    · refine z_iload_n 0 (zat dd_X10_holds 13 rfl) rfl rfl ?_
      refine z_iconst (x := 2) (zat dd_X10_holds 14 rfl) (by decide) ?_
      refine z_iadd (zat dd_X10_holds 15 rfl) ?_
      refine z_goto (tgt := 54) (zat dd_X10_holds 16 rfl) (by decide) ?_
      refine z_sub [] rfl ?_
      exact zb_X10_holds_54 Y (x1 + 2) h
  · refine z_iload_n 0 (zat dd_X10_holds 8 rfl) rfl rfl ?_
    refine z_goto (tgt := 54) (zat dd_X10_holds 9 rfl) (by decide) ?_
    refine z_sub [] rfl ?_
    exact zb_X10_holds_54 Y x1 h
/-! PaperDollsModel.goes(III)Z -/
def L_X10_goes : List (Nat × Instr × Nat) := [(0, .iload_n 1, 1), (1, .iload_n 2, 1), (2, .if_icmp .ge 7, 3), (5, .iload_n 1, 1), (6, .goto 4, 3), (9, .iload_n 2, 1), (10, .istore_n 3, 1), (11, .iload_n 1, 1), (12, .iload_n 2, 1), (13, .if_icmp .ge 7, 3), (16, .iload_n 2, 1), (17, .goto 4, 3), (20, .iload_n 1, 1), (21, .istore 4, 2), (23, .iload 4, 2), (25, .iload_n 3, 1), (26, .if_icmp .eq 11, 3), (29, .iload 4, 2), (31, .iload_n 3, 1), (32, .iconst 1, 1), (33, .iadd, 1), (34, .if_icmp .ne 7, 3), (37, .iconst 1, 1), (38, .goto 4, 3), (41, .iconst 0, 1), (42, .istore 5, 2), (44, .iload_n 0, 1), (45, .tableswitch 98 0 4 #[35, 38, 50, 61, 81], 35), (80, .iload 5, 2), (82, .ireturn, 1), (83, .iload_n 3, 1), (84, .iload 4, 2), (86, .if_icmp .ne 7, 3), (89, .iconst 1, 1), (90, .goto 4, 3), (93, .iconst 0, 1), (94, .ireturn, 1), (95, .iload 5, 2), (97, .ifCond .ne 7, 3), (100, .iconst 1, 1), (101, .goto 4, 3), (104, .iconst 0, 1), (105, .ireturn, 1), (106, .iload_n 3, 1), (107, .iload 4, 2), (109, .if_icmp .eq 11, 3), (112, .iload_n 3, 1), (113, .iload 4, 2), (115, .iadd, 1), (116, .iconst 3, 1), (117, .if_icmp .ne 7, 3), (120, .iconst 1, 1), (121, .goto 4, 3), (124, .iconst 0, 1), (125, .ireturn, 1), (126, .iload 5, 2), (128, .ifCond .eq 13, 3), (131, .iload 4, 2), (133, .iconst 3, 1), (134, .if_icmp .eq 7, 3), (137, .iconst 1, 1), (138, .goto 4, 3), (141, .iconst 0, 1), (142, .ireturn, 1), (143, .iload 5, 2), (145, .ifCond .eq 7, 3), (148, .iload_n 3, 1), (149, .ifCond .ne 7, 3), (152, .iconst 1, 1), (153, .goto 4, 3), (156, .iconst 0, 1), (157, .ireturn, 1)]
theorem dd_X10_goes : ∀ q ∈ L_X10_goes, decode cX10_goes q.1 = .ok q.2 := by decide +kernel
abbrev M_X10_goes : zM := (cX10_goes, RX10, "goes", 6, some .boolean, 0, 0, 0)
theorem u_X10_goes : zCal yX10_goes (M_X10_goes) 3 := ⟨(zmem 969 (by decide +kernel) rfl : Cond.code yX10_goes cX10_goes 6 (some .boolean) ∈ zTb), zmem 63 (by decide +kernel) rfl, by decide +kernel, Nat.le_of_ble_eq_true rfl⟩
theorem qi_X10_goes : Cond.static yX10_goes ∈ zTb := zmem 968 (by decide +kernel) rfl
def f_X10_goes_157 (t0 : Int32) (h : zH) : zR :=
  zrZ t0 h
set_option maxRecDepth 100000 in
set_option maxHeartbeats 4000000 in
theorem zb_X10_goes_157 (Y : zY) (t0 : Int32) (h : zH) : Z Y M_X10_goes 0 0 157 [] [.int t0] h (f_X10_goes_157 t0 h) := by
  rw [f_X10_goes_157]
  exact z_zret rfl (zat dd_X10_goes 71 rfl)
def f_X10_goes_152 (h : zH) : zR :=
  f_X10_goes_157 1 h
set_option maxRecDepth 100000 in
set_option maxHeartbeats 4000000 in
theorem zb_X10_goes_152 (Y : zY) (h : zH) : Z Y M_X10_goes 0 0 152 [] [] h (f_X10_goes_152  h) := by
  rw [f_X10_goes_152]
  refine z_iconst (x := 1) (zat dd_X10_goes 68 rfl) (by decide) ?_
  refine z_goto (tgt := 157) (zat dd_X10_goes 69 rfl) (by decide) ?_
  exact zb_X10_goes_157 Y 1 h
def f_X10_goes_142 (t0 : Int32) (h : zH) : zR :=
  zrZ t0 h
set_option maxRecDepth 100000 in
set_option maxHeartbeats 4000000 in
theorem zb_X10_goes_142 (Y : zY) (t0 : Int32) (h : zH) : Z Y M_X10_goes 0 0 142 [] [.int t0] h (f_X10_goes_142 t0 h) := by
  rw [f_X10_goes_142]
  exact z_zret rfl (zat dd_X10_goes 63 rfl)
def f_X10_goes_141 (h : zH) : zR :=
  f_X10_goes_142 0 h
set_option maxRecDepth 100000 in
set_option maxHeartbeats 4000000 in
theorem zb_X10_goes_141 (Y : zY) (h : zH) : Z Y M_X10_goes 0 0 141 [] [] h (f_X10_goes_141  h) := by
  rw [f_X10_goes_141]
  refine z_iconst (x := 0) (zat dd_X10_goes 62 rfl) (by decide) ?_
  exact zb_X10_goes_142 Y 0 h
def f_X10_goes_125 (t0 : Int32) (h : zH) : zR :=
  zrZ t0 h
set_option maxRecDepth 100000 in
set_option maxHeartbeats 4000000 in
theorem zb_X10_goes_125 (Y : zY) (t0 : Int32) (h : zH) : Z Y M_X10_goes 0 0 125 [] [.int t0] h (f_X10_goes_125 t0 h) := by
  rw [f_X10_goes_125]
  exact z_zret rfl (zat dd_X10_goes 54 rfl)
def f_X10_goes_120 (h : zH) : zR :=
  f_X10_goes_125 1 h
set_option maxRecDepth 100000 in
set_option maxHeartbeats 4000000 in
theorem zb_X10_goes_120 (Y : zY) (h : zH) : Z Y M_X10_goes 0 0 120 [] [] h (f_X10_goes_120  h) := by
  rw [f_X10_goes_120]
  refine z_iconst (x := 1) (zat dd_X10_goes 51 rfl) (by decide) ?_
  refine z_goto (tgt := 125) (zat dd_X10_goes 52 rfl) (by decide) ?_
  exact zb_X10_goes_125 Y 1 h
def f_X10_goes_105 (t0 : Int32) (h : zH) : zR :=
  zrZ t0 h
set_option maxRecDepth 100000 in
set_option maxHeartbeats 4000000 in
theorem zb_X10_goes_105 (Y : zY) (t0 : Int32) (h : zH) : Z Y M_X10_goes 0 0 105 [] [.int t0] h (f_X10_goes_105 t0 h) := by
  rw [f_X10_goes_105]
  exact z_zret rfl (zat dd_X10_goes 42 rfl)
def f_X10_goes_94 (t0 : Int32) (h : zH) : zR :=
  zrZ t0 h
set_option maxRecDepth 100000 in
set_option maxHeartbeats 4000000 in
theorem zb_X10_goes_94 (Y : zY) (t0 : Int32) (h : zH) : Z Y M_X10_goes 0 0 94 [] [.int t0] h (f_X10_goes_94 t0 h) := by
  rw [f_X10_goes_94]
  exact z_zret rfl (zat dd_X10_goes 36 rfl)
def f_X10_goes_42 (v0 : Int32) (v3 : Int32) (v4 : Int32) (t0 : Int32) (h : zH) : zR :=
  if v0 = 0 then
  zrZ t0 h
  else
  if v0 = 1 then
  if v3 = v4 then
  f_X10_goes_94 1 h
  else
  f_X10_goes_94 0 h
  else
  if v0 = 2 then
  if t0 = 0 then
  f_X10_goes_105 1 h
  else
  f_X10_goes_105 0 h
  else
  if v0 = 3 then
  if v3 = v4 then
  f_X10_goes_120 h
  else
  if (v3 + v4) = 3 then
  f_X10_goes_120 h
  else
  f_X10_goes_125 0 h
  else
  if v0 = 4 then
  if t0 = 0 then
  f_X10_goes_141 h
  else
  if v4 = 3 then
  f_X10_goes_141 h
  else
  f_X10_goes_142 1 h
  else
  if t0 = 0 then
  f_X10_goes_152 h
  else
  if v3 = 0 then
  f_X10_goes_152 h
  else
  f_X10_goes_157 0 h
set_option maxRecDepth 100000 in
set_option maxHeartbeats 4000000 in
theorem zb_X10_goes_42 (Y : zY) (v0 : Int32) (v3 : Int32) (v4 : Int32) (t0 : Int32) (h : zH) : Z Y M_X10_goes 0 0 42 [(0, .int v0), (3, .int v3), (4, .int v4)] [.int t0] h (f_X10_goes_42 v0 v3 v4 t0 h) := by
  rw [f_X10_goes_42]
  refine z_istore (lv' := [(5, .int t0), (0, .int v0), (3, .int v3), (4, .int v4)]) (zat dd_X10_goes 25 rfl) (Nat.le_of_ble_eq_true rfl) rfl ?_
  refine z_iload_n 1 (zat dd_X10_goes 26 rfl) rfl rfl ?_
  refine z_ite (fun c0 => ?_) (fun c0 => ?_)
  · refine z_tabIn (tgt := 80) 0 c0 (zat dd_X10_goes 27 rfl) (by decide) (by decide) rfl (by decide) ?_
    refine z_iload 0 (zat dd_X10_goes 28 rfl) rfl ?_
    exact z_zret rfl (zat dd_X10_goes 29 rfl)
  refine z_ite (fun c1 => ?_) (fun c1 => ?_)
  · refine z_tabIn (tgt := 83) 1 c1 (zat dd_X10_goes 27 rfl) (by decide) (by decide) rfl (by decide) ?_
    refine z_iload_n 2 (zat dd_X10_goes 30 rfl) rfl rfl ?_
    refine z_iload 3 (zat dd_X10_goes 31 rfl) rfl ?_
    refine z_icmp_ne (tgt := 93) (zat dd_X10_goes 32 rfl) (by decide) ?_ ?_
    · refine z_iconst (x := 0) (zat dd_X10_goes 35 rfl) (by decide) ?_
      refine z_sub [] rfl ?_
      exact zb_X10_goes_94 Y 0 h
    · refine z_iconst (x := 1) (zat dd_X10_goes 33 rfl) (by decide) ?_
      refine z_goto (tgt := 94) (zat dd_X10_goes 34 rfl) (by decide) ?_
      refine z_sub [] rfl ?_
      exact zb_X10_goes_94 Y 1 h
  refine z_ite (fun c2 => ?_) (fun c2 => ?_)
  · refine z_tabIn (tgt := 95) 2 c2 (zat dd_X10_goes 27 rfl) (by decide) (by decide) rfl (by decide) ?_
    refine z_iload 0 (zat dd_X10_goes 37 rfl) rfl ?_
    refine z_if_ne (tgt := 104) (zat dd_X10_goes 38 rfl) (by decide) ?_ ?_
    · refine z_iconst (x := 0) (zat dd_X10_goes 41 rfl) (by decide) ?_
      refine z_sub [] rfl ?_
      exact zb_X10_goes_105 Y 0 h
    · refine z_iconst (x := 1) (zat dd_X10_goes 39 rfl) (by decide) ?_
      refine z_goto (tgt := 105) (zat dd_X10_goes 40 rfl) (by decide) ?_
      refine z_sub [] rfl ?_
      exact zb_X10_goes_105 Y 1 h
  refine z_ite (fun c3 => ?_) (fun c3 => ?_)
  · refine z_tabIn (tgt := 106) 3 c3 (zat dd_X10_goes 27 rfl) (by decide) (by decide) rfl (by decide) ?_
    refine z_iload_n 2 (zat dd_X10_goes 43 rfl) rfl rfl ?_
    refine z_iload 3 (zat dd_X10_goes 44 rfl) rfl ?_
    refine z_icmp_eq (tgt := 120) (zat dd_X10_goes 45 rfl) (by decide) ?_ ?_
    · refine z_sub [] rfl ?_
      exact zb_X10_goes_120 Y h
    · refine z_iload_n 2 (zat dd_X10_goes 46 rfl) rfl rfl ?_
      refine z_iload 3 (zat dd_X10_goes 47 rfl) rfl ?_
      refine z_iadd (zat dd_X10_goes 48 rfl) ?_
      refine z_iconst (x := 3) (zat dd_X10_goes 49 rfl) (by decide) ?_
      refine z_icmp_ne (tgt := 124) (zat dd_X10_goes 50 rfl) (by decide) ?_ ?_
      · refine z_iconst (x := 0) (zat dd_X10_goes 53 rfl) (by decide) ?_
        refine z_sub [] rfl ?_
        exact zb_X10_goes_125 Y 0 h
      · refine z_sub [] rfl ?_
        exact zb_X10_goes_120 Y h
  refine z_ite (fun c4 => ?_) (fun c4 => ?_)
  · refine z_tabIn (tgt := 126) 4 c4 (zat dd_X10_goes 27 rfl) (by decide) (by decide) rfl (by decide) ?_
    refine z_iload 0 (zat dd_X10_goes 55 rfl) rfl ?_
    refine z_if_eq (tgt := 141) (zat dd_X10_goes 56 rfl) (by decide) ?_ ?_
    · refine z_sub [] rfl ?_
      exact zb_X10_goes_141 Y h
    · refine z_iload 3 (zat dd_X10_goes 57 rfl) rfl ?_
      refine z_iconst (x := 3) (zat dd_X10_goes 58 rfl) (by decide) ?_
      refine z_icmp_eq (tgt := 141) (zat dd_X10_goes 59 rfl) (by decide) ?_ ?_
      · refine z_sub [] rfl ?_
        exact zb_X10_goes_141 Y h
      · refine z_iconst (x := 1) (zat dd_X10_goes 60 rfl) (by decide) ?_
        refine z_goto (tgt := 142) (zat dd_X10_goes 61 rfl) (by decide) ?_
        refine z_sub [] rfl ?_
        exact zb_X10_goes_142 Y 1 h
  refine z_tabOut (tgt := 143) (zat dd_X10_goes 27 rfl) (by have g0 := lv_neT (a := 0) c0 rfl; have g1 := lv_neT (a := 1) c1 rfl; have g2 := lv_neT (a := 2) c2 rfl; have g3 := lv_neT (a := 3) c3 rfl; have g4 := lv_neT (a := 4) c4 rfl; omega) (by decide) ?_
  refine z_iload 0 (zat dd_X10_goes 64 rfl) rfl ?_
  refine z_if_eq (tgt := 152) (zat dd_X10_goes 65 rfl) (by decide) ?_ ?_
  · refine z_sub [] rfl ?_
    exact zb_X10_goes_152 Y h
  · refine z_iload_n 2 (zat dd_X10_goes 66 rfl) rfl rfl ?_
    refine z_if_ne (tgt := 156) (zat dd_X10_goes 67 rfl) (by decide) ?_ ?_
    · refine z_iconst (x := 0) (zat dd_X10_goes 70 rfl) (by decide) ?_
      refine z_sub [] rfl ?_
      exact zb_X10_goes_157 Y 0 h
    · refine z_sub [] rfl ?_
      exact zb_X10_goes_152 Y h
def f_X10_goes_37 (v0 : Int32) (v3 : Int32) (v4 : Int32) (h : zH) : zR :=
  f_X10_goes_42 v0 v3 v4 1 h
set_option maxRecDepth 100000 in
set_option maxHeartbeats 4000000 in
theorem zb_X10_goes_37 (Y : zY) (v0 : Int32) (v3 : Int32) (v4 : Int32) (h : zH) : Z Y M_X10_goes 0 0 37 [(0, .int v0), (3, .int v3), (4, .int v4)] [] h (f_X10_goes_37 v0 v3 v4 h) := by
  rw [f_X10_goes_37]
  refine z_iconst (x := 1) (zat dd_X10_goes 22 rfl) (by decide) ?_
  refine z_goto (tgt := 42) (zat dd_X10_goes 23 rfl) (by decide) ?_
  exact zb_X10_goes_42 Y v0 v3 v4 1 h
def f_X10_goes_21 (v0 : Int32) (v3 : Int32) (t0 : Int32) (h : zH) : zR :=
  if t0 = v3 then
  f_X10_goes_37 v0 v3 t0 h
  else
  if t0 = (v3 + 1) then
  f_X10_goes_37 v0 v3 t0 h
  else
  f_X10_goes_42 v0 v3 t0 0 h
set_option maxRecDepth 100000 in
set_option maxHeartbeats 4000000 in
theorem zb_X10_goes_21 (Y : zY) (v0 : Int32) (v3 : Int32) (t0 : Int32) (h : zH) : Z Y M_X10_goes 0 0 21 [(0, .int v0), (3, .int v3)] [.int t0] h (f_X10_goes_21 v0 v3 t0 h) := by
  rw [f_X10_goes_21]
  refine z_istore (lv' := [(4, .int t0), (0, .int v0), (3, .int v3)]) (zat dd_X10_goes 13 rfl) (Nat.le_of_ble_eq_true rfl) rfl ?_
  refine z_iload 0 (zat dd_X10_goes 14 rfl) rfl ?_
  refine z_iload_n 2 (zat dd_X10_goes 15 rfl) rfl rfl ?_
  refine z_icmp_eq (tgt := 37) (zat dd_X10_goes 16 rfl) (by decide) ?_ ?_
  · refine z_sub [1, 2, 0] rfl ?_
    exact zb_X10_goes_37 Y v0 v3 t0 h
  · refine z_iload 0 (zat dd_X10_goes 17 rfl) rfl ?_
    refine z_iload_n 2 (zat dd_X10_goes 18 rfl) rfl rfl ?_
    refine z_iconst (x := 1) (zat dd_X10_goes 19 rfl) (by decide) ?_
    refine z_iadd (zat dd_X10_goes 20 rfl) ?_
    refine z_icmp_ne (tgt := 41) (zat dd_X10_goes 21 rfl) (by decide) ?_ ?_
    · refine z_iconst (x := 0) (zat dd_X10_goes 24 rfl) (by decide) ?_
      refine z_sub [1, 2, 0] rfl ?_
      exact zb_X10_goes_42 Y v0 v3 t0 0 h
    · refine z_sub [1, 2, 0] rfl ?_
      exact zb_X10_goes_37 Y v0 v3 t0 h
def f_X10_goes_10 (v0 : Int32) (v1 : Int32) (v2 : Int32) (t0 : Int32) (h : zH) : zR :=
  if v2 ≤ v1 then
  f_X10_goes_21 v0 t0 v1 h
  else
  f_X10_goes_21 v0 t0 v2 h
set_option maxRecDepth 100000 in
set_option maxHeartbeats 4000000 in
theorem zb_X10_goes_10 (Y : zY) (v0 : Int32) (v1 : Int32) (v2 : Int32) (t0 : Int32) (h : zH) : Z Y M_X10_goes 0 0 10 [(0, .int v0), (1, .int v1), (2, .int v2)] [.int t0] h (f_X10_goes_10 v0 v1 v2 t0 h) := by
  rw [f_X10_goes_10]
  refine z_istore_n (lv' := [(3, .int t0), (0, .int v0), (1, .int v1), (2, .int v2)]) (zat dd_X10_goes 6 rfl) rfl (Nat.le_of_ble_eq_true rfl) rfl ?_
  refine z_iload_n 2 (zat dd_X10_goes 7 rfl) rfl rfl ?_
  refine z_iload_n 3 (zat dd_X10_goes 8 rfl) rfl rfl ?_
  refine z_icmp_ge (tgt := 20) (zat dd_X10_goes 9 rfl) (by decide) ?_ ?_
  · refine z_iload_n 2 (zat dd_X10_goes 12 rfl) rfl rfl ?_
    refine z_sub [1, 0] rfl ?_
    exact zb_X10_goes_21 Y v0 t0 v1 h
  · refine z_iload_n 3 (zat dd_X10_goes 10 rfl) rfl rfl ?_
    refine z_goto (tgt := 21) (zat dd_X10_goes 11 rfl) (by decide) ?_
    refine z_sub [1, 0] rfl ?_
    exact zb_X10_goes_21 Y v0 t0 v2 h
def f_X10_goes (v0 : Int32) (v1 : Int32) (v2 : Int32) (h : zH) : zR :=
  if v2 ≤ v1 then
  f_X10_goes_10 v0 v1 v2 v2 h
  else
  f_X10_goes_10 v0 v1 v2 v1 h
set_option maxRecDepth 100000 in
set_option maxHeartbeats 4000000 in
theorem m_X10_goes (l : Launch) (D : zD) (v0 : Int32) (v1 : Int32) (v2 : Int32) (h : zH) : zMet l D yX10_goes M_X10_goes [.int v0, .int v1, .int v2] h (f_X10_goes v0 v1 v2 h) := by
  refine zMet.of (by decide +kernel) ⟨rfl, rfl⟩ (Nat.le_of_ble_eq_true rfl) (fun Y hl hD => ?_)
  show Z Y M_X10_goes 0 0 0 [(0, .int v0), (1, .int v1), (2, .int v2)] [] h _
  rw [f_X10_goes]
  refine z_iload_n 1 (zat dd_X10_goes 0 rfl) rfl rfl ?_
  refine z_iload_n 2 (zat dd_X10_goes 1 rfl) rfl rfl ?_
  refine z_icmp_ge (tgt := 9) (zat dd_X10_goes 2 rfl) (by decide) ?_ ?_
  · refine z_iload_n 2 (zat dd_X10_goes 5 rfl) rfl rfl ?_
    exact zb_X10_goes_10 Y v0 v1 v2 v2 h
  · refine z_iload_n 1 (zat dd_X10_goes 3 rfl) rfl rfl ?_
    refine z_goto (tgt := 10) (zat dd_X10_goes 4 rfl) (by decide) ?_
    exact zb_X10_goes_10 Y v0 v1 v2 v1 h
/-! PaperDollsModel.areGoing(II)Z -/
def L_X10_areGoing : List (Nat × Instr × Nat) := [(0, .aload_n 0, 1), (1, .getfield 7, 3), (4, .iconst 1, 1), (5, .iaload, 1), (6, .aload_n 0, 1), (7, .getfield 7, 3), (10, .bipush 20, 2), (12, .iload_n 1, 1), (13, .iadd, 1), (14, .iaload, 1), (15, .aload_n 0, 1), (16, .getfield 7, 3), (19, .bipush 20, 2), (21, .iload_n 2, 1), (22, .iadd, 1), (23, .iaload, 1), (24, .invokestatic 44, 3), (27, .ireturn, 1)]
theorem dd_X10_areGoing : ∀ q ∈ L_X10_areGoing, decode cX10_areGoing q.1 = .ok q.2 := by decide +kernel
abbrev M_X10_areGoing : zM := (cX10_areGoing, RX10, "areGoing", 3, some .boolean, 1, 0, 0)
theorem u_X10_areGoing : zCal yX10_areGoing (M_X10_areGoing) 2 := ⟨(zmem 1052 (by decide +kernel) rfl : Cond.code yX10_areGoing cX10_areGoing 3 (some .boolean) ∈ zTb), zmem 63 (by decide +kernel) rfl, by decide +kernel, Nat.le_of_ble_eq_true rfl⟩
theorem qi_X10_areGoing : Cond.instanceMethod yX10_areGoing ∈ zTb := zmem 1051 (by decide +kernel) rfl
theorem qs_X10_areGoing : Cond.selects yX10_areGoing.cls yX10_areGoing yX10_areGoing ∈ zTb := zmem 42 (by decide +kernel) rfl
def f_X10_areGoing (v0 : Nat) (v1 : Int32) (v2 : Int32) (h : zH) : zR :=
  zgR h v0 6 0 fun a1 =>
  zaI h a1 0 1 fun x2 =>
  zgR h v0 6 0 fun a3 =>
  zaI h a3 0 (20 + v1) fun x4 =>
  zgR h v0 6 0 fun a5 =>
  zaI h a5 0 (20 + v2) fun x6 =>
  zcI (f_X10_goes x2 x4 x6 h) fun x7 h8 =>
  zrZ x7 h8
set_option maxRecDepth 100000 in
set_option maxHeartbeats 4000000 in
theorem m_X10_areGoing (l : Launch) (D : zD) (v0 : Nat) (v1 : Int32) (v2 : Int32) (h : zH) : zMet l D yX10_areGoing M_X10_areGoing [.ref v0, .int v1, .int v2] h (f_X10_areGoing v0 v1 v2 h) := by
  refine zMet.of (by decide +kernel) ⟨rfl, rfl⟩ (Nat.le_of_ble_eq_true rfl) (fun Y hl hD => ?_)
  show Z Y M_X10_areGoing 0 0 0 [(0, .ref v0), (1, .int v1), (2, .int v2)] [] h _
  rw [f_X10_areGoing]
  refine z_aload_n 0 (zat dd_X10_areGoing 0 rfl) rfl rfl ?_
  refine z_getR fl_X10_7 (zat dd_X10_areGoing 1 rfl) (fun a1 => ?_)
  refine z_iconst (x := 1) (zat dd_X10_areGoing 2 rfl) (by decide) ?_
  refine z_iald (zat dd_X10_areGoing 3 rfl) (fun x2 => ?_)
  refine z_aload_n 0 (zat dd_X10_areGoing 4 rfl) rfl rfl ?_
  refine z_getR fl_X10_7 (zat dd_X10_areGoing 5 rfl) (fun a3 => ?_)
  refine z_bipush (x := 20) (zat dd_X10_areGoing 6 rfl) (by decide) ?_
  refine z_iload_n 1 (zat dd_X10_areGoing 7 rfl) rfl rfl ?_
  refine z_iadd (zat dd_X10_areGoing 8 rfl) ?_
  refine z_iald (zat dd_X10_areGoing 9 rfl) (fun x4 => ?_)
  refine z_aload_n 0 (zat dd_X10_areGoing 10 rfl) rfl rfl ?_
  refine z_getR fl_X10_7 (zat dd_X10_areGoing 11 rfl) (fun a5 => ?_)
  refine z_bipush (x := 20) (zat dd_X10_areGoing 12 rfl) (by decide) ?_
  refine z_iload_n 2 (zat dd_X10_areGoing 13 rfl) rfl rfl ?_
  refine z_iadd (zat dd_X10_areGoing 14 rfl) ?_
  refine z_iald (zat dd_X10_areGoing 15 rfl) (fun x6 => ?_)
  refine z_callS_I0 (M2 := M_X10_goes) [.int x2, .int x4, .int x6] (fun l D _ _ => m_X10_goes l D x2 x4 x6 h) u_X10_goes ql_X10_44 qi_X10_goes rfl rfl (Nat.le_of_ble_eq_true rfl) (by decide) rfl rfl (zat dd_X10_areGoing 16 rfl) (fun x7 h8 => ?_)
  exact z_zret rfl (zat dd_X10_areGoing 17 rfl)
/-! PaperDollsModel.isPiece(I)Z -/
def L_X10_isPiece : List (Nat × Instr × Nat) := [(0, .iload_n 1, 1), (1, .i2l, 1), (2, .lconst 0, 1), (3, .aload_n 0, 1), (4, .getfield 7, 3), (7, .iconst 0, 1), (8, .iaload, 1), (9, .iconst 1, 1), (10, .isub, 1), (11, .i2l, 1), (12, .invokestatic 48, 3), (15, .ireturn, 1)]
theorem dd_X10_isPiece : ∀ q ∈ L_X10_isPiece, decode cX10_isPiece q.1 = .ok q.2 := by decide +kernel
abbrev M_X10_isPiece : zM := (cX10_isPiece, RX10, "isPiece", 2, some .boolean, 1, 0, 0)
theorem u_X10_isPiece : zCal yX10_isPiece (M_X10_isPiece) 1 := ⟨(zmem 1000 (by decide +kernel) rfl : Cond.code yX10_isPiece cX10_isPiece 2 (some .boolean) ∈ zTb), zmem 63 (by decide +kernel) rfl, by decide +kernel, Nat.le_of_ble_eq_true rfl⟩
theorem qi_X10_isPiece : Cond.instanceMethod yX10_isPiece ∈ zTb := zmem 999 (by decide +kernel) rfl
theorem qs_X10_isPiece : Cond.selects yX10_isPiece.cls yX10_isPiece yX10_isPiece ∈ zTb := zmem 38 (by decide +kernel) rfl
def f_X10_isPiece (v0 : Nat) (v1 : Int32) (h : zH) : zR :=
  zgR h v0 6 0 fun a1 =>
  zaI h a1 0 0 fun x2 =>
  zcI (f_X10_in ((v1 : Int32).toInt64) 0 ((x2 - 1 : Int32).toInt64) h) fun x3 h4 =>
  zrZ x3 h4
set_option maxRecDepth 100000 in
set_option maxHeartbeats 4000000 in
theorem m_X10_isPiece (l : Launch) (D : zD) (v0 : Nat) (v1 : Int32) (h : zH) : zMet l D yX10_isPiece M_X10_isPiece [.ref v0, .int v1] h (f_X10_isPiece v0 v1 h) := by
  refine zMet.of (by decide +kernel) ⟨rfl, rfl⟩ (Nat.le_of_ble_eq_true rfl) (fun Y hl hD => ?_)
  show Z Y M_X10_isPiece 0 0 0 [(0, .ref v0), (1, .int v1)] [] h _
  rw [f_X10_isPiece]
  refine z_iload_n 1 (zat dd_X10_isPiece 0 rfl) rfl rfl ?_
  refine z_i2l (zat dd_X10_isPiece 1 rfl) ?_
  refine z_lconst (x := 0) (zat dd_X10_isPiece 2 rfl) (by decide) ?_
  refine z_aload_n 0 (zat dd_X10_isPiece 3 rfl) rfl rfl ?_
  refine z_getR fl_X10_7 (zat dd_X10_isPiece 4 rfl) (fun a1 => ?_)
  refine z_iconst (x := 0) (zat dd_X10_isPiece 5 rfl) (by decide) ?_
  refine z_iald (zat dd_X10_isPiece 6 rfl) (fun x2 => ?_)
  refine z_iconst (x := 1) (zat dd_X10_isPiece 7 rfl) (by decide) ?_
  refine z_isub (zat dd_X10_isPiece 8 rfl) ?_
  refine z_i2l (zat dd_X10_isPiece 9 rfl) ?_
  refine z_callS_I0 (M2 := M_X10_in) [.long ((v1 : Int32).toInt64), .long 0, .long ((x2 - 1 : Int32).toInt64)] (fun l D _ _ => m_X10_in l D ((v1 : Int32).toInt64) 0 ((x2 - 1 : Int32).toInt64) h) u_X10_in ql_X10_48 qi_X10_in rfl rfl (Nat.le_of_ble_eq_true rfl) (by decide) rfl rfl (zat dd_X10_isPiece 10 rfl) (fun x3 h4 => ?_)
  exact z_zret rfl (zat dd_X10_isPiece 11 rfl)
/-! PaperDollsModel.aside()V -/
def L_X10_aside : List (Nat × Instr × Nat) := [(0, .iconst 0, 1), (1, .istore_n 1, 1), (2, .iload_n 1, 1), (3, .bipush 88, 2), (5, .if_icmp .ge 21, 3), (8, .aload_n 0, 1), (9, .getfield 13, 3), (12, .iload_n 1, 1), (13, .aload_n 0, 1), (14, .getfield 7, 3), (17, .iload_n 1, 1), (18, .iaload, 1), (19, .iastore, 1), (20, .iinc 1 1, 3), (23, .goto (-21), 3), (26, .return_, 1)]
theorem dd_X10_aside : ∀ q ∈ L_X10_aside, decode cX10_aside q.1 = .ok q.2 := by decide +kernel
abbrev M_X10_aside : zM := (cX10_aside, RX10, "aside", 2, none, 0, 0, 0)
theorem u_X10_aside : zCal yX10_aside (M_X10_aside) 0 := ⟨(zmem 901 (by decide +kernel) rfl : Cond.code yX10_aside cX10_aside 2 (none) ∈ zTb), zmem 63 (by decide +kernel) rfl, by decide +kernel, Nat.le_of_ble_eq_true rfl⟩
theorem qi_X10_aside : Cond.instanceMethod yX10_aside ∈ zTb := zmem 900 (by decide +kernel) rfl
theorem qs_X10_aside : Cond.selects yX10_aside.cls yX10_aside yX10_aside ∈ zTb := zmem 23 (by decide +kernel) rfl
def f_X10_aside_2 : Nat → Nat → Int32 → zH → zR
  | 0, _, _, _ => none
  | n + 1, v0, v1, h =>
  if 88 ≤ v1 then
  zrV h
  else
  zgR h v0 6 1 fun a1 =>
  zgR h v0 6 0 fun a2 =>
  zaI h a2 0 v1 fun x3 =>
  zsI h a1 0 v1 x3 fun h4 =>
  f_X10_aside_2 n v0 (v1 + 1) h4
set_option maxRecDepth 100000 in
set_option maxHeartbeats 4000000 in
theorem zb_X10_aside_2 (Y : zY) : ∀ (n : Nat) (v0 : Nat) (v1 : Int32) (h : zH), Z Y M_X10_aside 0 0 2 [(0, .ref v0), (1, .int v1)] [] h (f_X10_aside_2 n v0 v1 h) := by
  intro n
  induction n with
  | zero =>
    intro v0 v1 h
    rw [f_X10_aside_2]
    exact z_none
  | succ n ih =>
    intro v0 v1 h
    rw [f_X10_aside_2]
    refine z_iload_n 1 (zat dd_X10_aside 2 rfl) rfl rfl ?_
    refine z_bipush (x := 88) (zat dd_X10_aside 3 rfl) (by decide) ?_
    refine z_icmp_ge (tgt := 26) (zat dd_X10_aside 4 rfl) (by decide) ?_ ?_
    · exact z_vret rfl (zat dd_X10_aside 15 rfl)
    · refine z_aload_n 0 (zat dd_X10_aside 5 rfl) rfl rfl ?_
      refine z_getR fl_X10_13 (zat dd_X10_aside 6 rfl) (fun a1 => ?_)
      refine z_iload_n 1 (zat dd_X10_aside 7 rfl) rfl rfl ?_
      refine z_aload_n 0 (zat dd_X10_aside 8 rfl) rfl rfl ?_
      refine z_getR fl_X10_7 (zat dd_X10_aside 9 rfl) (fun a2 => ?_)
      refine z_iload_n 1 (zat dd_X10_aside 10 rfl) rfl rfl ?_
      refine z_iald (zat dd_X10_aside 11 rfl) (fun x3 => ?_)
      refine z_iast (zat dd_X10_aside 12 rfl) (fun h4 => ?_)
      refine z_iinc (y := v1 + 1) (lv' := [(1, .int (v1 + 1)), (0, .ref v0)]) 1 (zat dd_X10_aside 13 rfl) rfl rfl (Nat.le_of_ble_eq_true rfl) rfl ?_
      refine z_goto (tgt := 2) (zat dd_X10_aside 14 rfl) (by decide) ?_
      refine z_sub [1, 0] rfl ?_
      exact ih v0 (v1 + 1) h4
def f_X10_aside (v0 : Nat) (h : zH) : zR :=
  f_X10_aside_2 zF v0 0 h
set_option maxRecDepth 100000 in
set_option maxHeartbeats 4000000 in
theorem m_X10_aside (l : Launch) (D : zD) (v0 : Nat) (h : zH) : zMet l D yX10_aside M_X10_aside [.ref v0] h (f_X10_aside v0 h) := by
  refine zMet.of (by decide +kernel) ⟨rfl, rfl⟩ (Nat.le_of_ble_eq_true rfl) (fun Y hl hD => ?_)
  show Z Y M_X10_aside 0 0 0 [(0, .ref v0)] [] h _
  rw [f_X10_aside]
  refine z_iconst (x := 0) (zat dd_X10_aside 0 rfl) (by decide) ?_
  refine z_istore_n (lv' := [(1, .int 0), (0, .ref v0)]) (zat dd_X10_aside 1 rfl) rfl (Nat.le_of_ble_eq_true rfl) rfl ?_
  refine z_sub [1, 0] rfl ?_
  exact zb_X10_aside_2 Y zF v0 0 h
/-! PaperDollsModel.take()V -/
def L_X10_take : List (Nat × Instr × Nat) := [(0, .iconst 0, 1), (1, .istore_n 1, 1), (2, .iload_n 1, 1), (3, .bipush 88, 2), (5, .if_icmp .ge 21, 3), (8, .aload_n 0, 1), (9, .getfield 7, 3), (12, .iload_n 1, 1), (13, .aload_n 0, 1), (14, .getfield 13, 3), (17, .iload_n 1, 1), (18, .iaload, 1), (19, .iastore, 1), (20, .iinc 1 1, 3), (23, .goto (-21), 3), (26, .return_, 1)]
theorem dd_X10_take : ∀ q ∈ L_X10_take, decode cX10_take q.1 = .ok q.2 := by decide +kernel
abbrev M_X10_take : zM := (cX10_take, RX10, "take", 2, none, 0, 0, 0)
theorem u_X10_take : zCal yX10_take (M_X10_take) 0 := ⟨(zmem 883 (by decide +kernel) rfl : Cond.code yX10_take cX10_take 2 (none) ∈ zTb), zmem 63 (by decide +kernel) rfl, by decide +kernel, Nat.le_of_ble_eq_true rfl⟩
theorem qi_X10_take : Cond.instanceMethod yX10_take ∈ zTb := zmem 882 (by decide +kernel) rfl
theorem qs_X10_take : Cond.selects yX10_take.cls yX10_take yX10_take ∈ zTb := zmem 21 (by decide +kernel) rfl
def f_X10_take_2 : Nat → Nat → Int32 → zH → zR
  | 0, _, _, _ => none
  | n + 1, v0, v1, h =>
  if 88 ≤ v1 then
  zrV h
  else
  zgR h v0 6 0 fun a1 =>
  zgR h v0 6 1 fun a2 =>
  zaI h a2 0 v1 fun x3 =>
  zsI h a1 0 v1 x3 fun h4 =>
  f_X10_take_2 n v0 (v1 + 1) h4
set_option maxRecDepth 100000 in
set_option maxHeartbeats 4000000 in
theorem zb_X10_take_2 (Y : zY) : ∀ (n : Nat) (v0 : Nat) (v1 : Int32) (h : zH), Z Y M_X10_take 0 0 2 [(0, .ref v0), (1, .int v1)] [] h (f_X10_take_2 n v0 v1 h) := by
  intro n
  induction n with
  | zero =>
    intro v0 v1 h
    rw [f_X10_take_2]
    exact z_none
  | succ n ih =>
    intro v0 v1 h
    rw [f_X10_take_2]
    refine z_iload_n 1 (zat dd_X10_take 2 rfl) rfl rfl ?_
    refine z_bipush (x := 88) (zat dd_X10_take 3 rfl) (by decide) ?_
    refine z_icmp_ge (tgt := 26) (zat dd_X10_take 4 rfl) (by decide) ?_ ?_
    · exact z_vret rfl (zat dd_X10_take 15 rfl)
    · refine z_aload_n 0 (zat dd_X10_take 5 rfl) rfl rfl ?_
      refine z_getR fl_X10_7 (zat dd_X10_take 6 rfl) (fun a1 => ?_)
      refine z_iload_n 1 (zat dd_X10_take 7 rfl) rfl rfl ?_
      refine z_aload_n 0 (zat dd_X10_take 8 rfl) rfl rfl ?_
      refine z_getR fl_X10_13 (zat dd_X10_take 9 rfl) (fun a2 => ?_)
      refine z_iload_n 1 (zat dd_X10_take 10 rfl) rfl rfl ?_
      refine z_iald (zat dd_X10_take 11 rfl) (fun x3 => ?_)
      refine z_iast (zat dd_X10_take 12 rfl) (fun h4 => ?_)
      refine z_iinc (y := v1 + 1) (lv' := [(1, .int (v1 + 1)), (0, .ref v0)]) 1 (zat dd_X10_take 13 rfl) rfl rfl (Nat.le_of_ble_eq_true rfl) rfl ?_
      refine z_goto (tgt := 2) (zat dd_X10_take 14 rfl) (by decide) ?_
      refine z_sub [1, 0] rfl ?_
      exact ih v0 (v1 + 1) h4
def f_X10_take (v0 : Nat) (h : zH) : zR :=
  f_X10_take_2 zF v0 0 h
set_option maxRecDepth 100000 in
set_option maxHeartbeats 4000000 in
theorem m_X10_take (l : Launch) (D : zD) (v0 : Nat) (h : zH) : zMet l D yX10_take M_X10_take [.ref v0] h (f_X10_take v0 h) := by
  refine zMet.of (by decide +kernel) ⟨rfl, rfl⟩ (Nat.le_of_ble_eq_true rfl) (fun Y hl hD => ?_)
  show Z Y M_X10_take 0 0 0 [(0, .ref v0)] [] h _
  rw [f_X10_take]
  refine z_iconst (x := 0) (zat dd_X10_take 0 rfl) (by decide) ?_
  refine z_istore_n (lv' := [(1, .int 0), (0, .ref v0)]) (zat dd_X10_take 1 rfl) rfl (Nat.le_of_ble_eq_true rfl) rfl ?_
  refine z_sub [1, 0] rfl ?_
  exact zb_X10_take_2 Y zF v0 0 h
/-! PaperDollsModel.placeOf(I)I -/
def L_X10_placeOf : List (Nat × Instr × Nat) := [(0, .bipush (-101), 2), (2, .istore_n 2, 1), (3, .iconst 0, 1), (4, .istore_n 3, 1), (5, .iload_n 3, 1), (6, .aload_n 0, 1), (7, .getfield 13, 3), (10, .iconst 3, 1), (11, .iaload, 1), (12, .if_icmp .ge 27, 3), (15, .aload_n 0, 1), (16, .getfield 13, 3), (19, .iconst 4, 1), (20, .iload_n 3, 1), (21, .iadd, 1), (22, .iaload, 1), (23, .iload_n 1, 1), (24, .if_icmp .ne 7, 3), (27, .iload_n 3, 1), (28, .goto 4, 3), (31, .iload_n 2, 1), (32, .istore_n 2, 1), (33, .iinc 3 1, 3), (36, .goto (-31), 3), (39, .iload_n 2, 1), (40, .ireturn, 1)]
theorem dd_X10_placeOf : ∀ q ∈ L_X10_placeOf, decode cX10_placeOf q.1 = .ok q.2 := by decide +kernel
abbrev M_X10_placeOf : zM := (cX10_placeOf, RX10, "placeOf", 4, some .int, 0, 0, 0)
theorem u_X10_placeOf : zCal yX10_placeOf (M_X10_placeOf) 1 := ⟨(zmem 959 (by decide +kernel) rfl : Cond.code yX10_placeOf cX10_placeOf 4 (some .int) ∈ zTb), zmem 63 (by decide +kernel) rfl, by decide +kernel, Nat.le_of_ble_eq_true rfl⟩
theorem qi_X10_placeOf : Cond.instanceMethod yX10_placeOf ∈ zTb := zmem 958 (by decide +kernel) rfl
theorem qs_X10_placeOf : Cond.selects yX10_placeOf.cls yX10_placeOf yX10_placeOf ∈ zTb := zmem 31 (by decide +kernel) rfl
def f_X10_placeOf_32 (k5 : Nat → Int32 → Int32 → Int32 → zH → zR) (v0 : Nat) (v1 : Int32) (v3 : Int32) (t0 : Int32) (h : zH) : zR :=
  k5 v0 v1 t0 (v3 + 1) h
set_option maxRecDepth 100000 in
set_option maxHeartbeats 4000000 in
theorem zb_X10_placeOf_32 (Y : zY) (k5 : Nat → Int32 → Int32 → Int32 → zH → zR) (hk5 : ∀ (v0 : Nat) (v1 : Int32) (v2 : Int32) (v3 : Int32) (h : zH), Z Y M_X10_placeOf 0 0 5 [(0, .ref v0), (1, .int v1), (2, .int v2), (3, .int v3)] [] h (k5 v0 v1 v2 v3 h)) (v0 : Nat) (v1 : Int32) (v3 : Int32) (t0 : Int32) (h : zH) : Z Y M_X10_placeOf 0 0 32 [(0, .ref v0), (1, .int v1), (3, .int v3)] [.int t0] h (f_X10_placeOf_32 k5 v0 v1 v3 t0 h) := by
  rw [f_X10_placeOf_32]
  refine z_istore_n (lv' := [(2, .int t0), (0, .ref v0), (1, .int v1), (3, .int v3)]) (zat dd_X10_placeOf 21 rfl) rfl (Nat.le_of_ble_eq_true rfl) rfl ?_
  refine z_iinc (y := v3 + 1) (lv' := [(3, .int (v3 + 1)), (2, .int t0), (0, .ref v0), (1, .int v1)]) 3 (zat dd_X10_placeOf 22 rfl) rfl rfl (Nat.le_of_ble_eq_true rfl) rfl ?_
  refine z_goto (tgt := 5) (zat dd_X10_placeOf 23 rfl) (by decide) ?_
  refine z_sub [2, 3, 1, 0] rfl ?_
  exact hk5 v0 v1 t0 (v3 + 1) h
def f_X10_placeOf_5 : Nat → Nat → Int32 → Int32 → Int32 → zH → zR
  | 0, _, _, _, _, _ => none
  | n + 1, v0, v1, v2, v3, h =>
  zgR h v0 6 1 fun a1 =>
  zaI h a1 0 3 fun x2 =>
  if x2 ≤ v3 then
  zrI v2 h
  else
  zgR h v0 6 1 fun a3 =>
  zaI h a3 0 (4 + v3) fun x4 =>
  if x4 = v1 then
  f_X10_placeOf_32 (f_X10_placeOf_5 n) v0 v1 v3 v3 h
  else
  f_X10_placeOf_32 (f_X10_placeOf_5 n) v0 v1 v3 v2 h
set_option maxRecDepth 100000 in
set_option maxHeartbeats 4000000 in
theorem zb_X10_placeOf_5 (Y : zY) : ∀ (n : Nat) (v0 : Nat) (v1 : Int32) (v2 : Int32) (v3 : Int32) (h : zH), Z Y M_X10_placeOf 0 0 5 [(0, .ref v0), (1, .int v1), (2, .int v2), (3, .int v3)] [] h (f_X10_placeOf_5 n v0 v1 v2 v3 h) := by
  intro n
  induction n with
  | zero =>
    intro v0 v1 v2 v3 h
    rw [f_X10_placeOf_5]
    exact z_none
  | succ n ih =>
    intro v0 v1 v2 v3 h
    rw [f_X10_placeOf_5]
    refine z_iload_n 3 (zat dd_X10_placeOf 4 rfl) rfl rfl ?_
    refine z_aload_n 0 (zat dd_X10_placeOf 5 rfl) rfl rfl ?_
    refine z_getR fl_X10_13 (zat dd_X10_placeOf 6 rfl) (fun a1 => ?_)
    refine z_iconst (x := 3) (zat dd_X10_placeOf 7 rfl) (by decide) ?_
    refine z_iald (zat dd_X10_placeOf 8 rfl) (fun x2 => ?_)
    refine z_icmp_ge (tgt := 39) (zat dd_X10_placeOf 9 rfl) (by decide) ?_ ?_
    · refine z_iload_n 2 (zat dd_X10_placeOf 24 rfl) rfl rfl ?_
      exact z_iret rfl (zat dd_X10_placeOf 25 rfl)
    · refine z_aload_n 0 (zat dd_X10_placeOf 10 rfl) rfl rfl ?_
      refine z_getR fl_X10_13 (zat dd_X10_placeOf 11 rfl) (fun a3 => ?_)
      refine z_iconst (x := 4) (zat dd_X10_placeOf 12 rfl) (by decide) ?_
      refine z_iload_n 3 (zat dd_X10_placeOf 13 rfl) rfl rfl ?_
      refine z_iadd (zat dd_X10_placeOf 14 rfl) ?_
      refine z_iald (zat dd_X10_placeOf 15 rfl) (fun x4 => ?_)
      refine z_iload_n 1 (zat dd_X10_placeOf 16 rfl) rfl rfl ?_
      refine z_icmp_ne (tgt := 31) (zat dd_X10_placeOf 17 rfl) (by decide) ?_ ?_
      · refine z_iload_n 2 (zat dd_X10_placeOf 20 rfl) rfl rfl ?_
        refine z_sub [0, 1, 3] rfl ?_
        exact zb_X10_placeOf_32 Y (f_X10_placeOf_5 n) ih v0 v1 v3 v2 h
      · refine z_iload_n 3 (zat dd_X10_placeOf 18 rfl) rfl rfl ?_
        refine z_goto (tgt := 32) (zat dd_X10_placeOf 19 rfl) (by decide) ?_
        refine z_sub [0, 1, 3] rfl ?_
        exact zb_X10_placeOf_32 Y (f_X10_placeOf_5 n) ih v0 v1 v3 v3 h
def f_X10_placeOf (v0 : Nat) (v1 : Int32) (h : zH) : zR :=
  f_X10_placeOf_5 zF v0 v1 (-101) 0 h
set_option maxRecDepth 100000 in
set_option maxHeartbeats 4000000 in
theorem m_X10_placeOf (l : Launch) (D : zD) (v0 : Nat) (v1 : Int32) (h : zH) : zMet l D yX10_placeOf M_X10_placeOf [.ref v0, .int v1] h (f_X10_placeOf v0 v1 h) := by
  refine zMet.of (by decide +kernel) ⟨rfl, rfl⟩ (Nat.le_of_ble_eq_true rfl) (fun Y hl hD => ?_)
  show Z Y M_X10_placeOf 0 0 0 [(0, .ref v0), (1, .int v1)] [] h _
  rw [f_X10_placeOf]
  refine z_bipush (x := (-101)) (zat dd_X10_placeOf 0 rfl) (by decide) ?_
  refine z_istore_n (lv' := [(2, .int (-101)), (0, .ref v0), (1, .int v1)]) (zat dd_X10_placeOf 1 rfl) rfl (Nat.le_of_ble_eq_true rfl) rfl ?_
  refine z_iconst (x := 0) (zat dd_X10_placeOf 2 rfl) (by decide) ?_
  refine z_istore_n (lv' := [(3, .int 0), (2, .int (-101)), (0, .ref v0), (1, .int v1)]) (zat dd_X10_placeOf 3 rfl) rfl (Nat.le_of_ble_eq_true rfl) rfl ?_
  refine z_sub [2, 3, 1, 0] rfl ?_
  exact zb_X10_placeOf_5 Y zF v0 v1 (-101) 0 h
/-! PaperDollsModel.holdsOf(I)I -/
def L_X10_holdsOf : List (Nat × Instr × Nat) := [(0, .aload_n 0, 1), (1, .getfield 13, 3), (4, .bipush 12, 2), (6, .iload_n 1, 1), (7, .iadd, 1), (8, .iaload, 1), (9, .aload_n 0, 1), (10, .getfield 13, 3), (13, .bipush 28, 2), (15, .iload_n 1, 1), (16, .iadd, 1), (17, .iaload, 1), (18, .aload_n 0, 1), (19, .getfield 13, 3), (22, .bipush 36, 2), (24, .iload_n 1, 1), (25, .iadd, 1), (26, .iaload, 1), (27, .invokestatic 52, 3), (30, .ireturn, 1)]
theorem dd_X10_holdsOf : ∀ q ∈ L_X10_holdsOf, decode cX10_holdsOf q.1 = .ok q.2 := by decide +kernel
abbrev M_X10_holdsOf : zM := (cX10_holdsOf, RX10, "holdsOf", 2, some .int, 1, 0, 0)
theorem u_X10_holdsOf : zCal yX10_holdsOf (M_X10_holdsOf) 1 := ⟨(zmem 963 (by decide +kernel) rfl : Cond.code yX10_holdsOf cX10_holdsOf 2 (some .int) ∈ zTb), zmem 63 (by decide +kernel) rfl, by decide +kernel, Nat.le_of_ble_eq_true rfl⟩
theorem qi_X10_holdsOf : Cond.instanceMethod yX10_holdsOf ∈ zTb := zmem 962 (by decide +kernel) rfl
theorem qs_X10_holdsOf : Cond.selects yX10_holdsOf.cls yX10_holdsOf yX10_holdsOf ∈ zTb := zmem 32 (by decide +kernel) rfl
def f_X10_holdsOf (v0 : Nat) (v1 : Int32) (h : zH) : zR :=
  zgR h v0 6 1 fun a1 =>
  zaI h a1 0 (12 + v1) fun x2 =>
  zgR h v0 6 1 fun a3 =>
  zaI h a3 0 (28 + v1) fun x4 =>
  zgR h v0 6 1 fun a5 =>
  zaI h a5 0 (36 + v1) fun x6 =>
  zcI (f_X10_holds x2 x4 x6 h) fun x7 h8 =>
  zrI x7 h8
set_option maxRecDepth 100000 in
set_option maxHeartbeats 4000000 in
theorem m_X10_holdsOf (l : Launch) (D : zD) (v0 : Nat) (v1 : Int32) (h : zH) : zMet l D yX10_holdsOf M_X10_holdsOf [.ref v0, .int v1] h (f_X10_holdsOf v0 v1 h) := by
  refine zMet.of (by decide +kernel) ⟨rfl, rfl⟩ (Nat.le_of_ble_eq_true rfl) (fun Y hl hD => ?_)
  show Z Y M_X10_holdsOf 0 0 0 [(0, .ref v0), (1, .int v1)] [] h _
  rw [f_X10_holdsOf]
  refine z_aload_n 0 (zat dd_X10_holdsOf 0 rfl) rfl rfl ?_
  refine z_getR fl_X10_13 (zat dd_X10_holdsOf 1 rfl) (fun a1 => ?_)
  refine z_bipush (x := 12) (zat dd_X10_holdsOf 2 rfl) (by decide) ?_
  refine z_iload_n 1 (zat dd_X10_holdsOf 3 rfl) rfl rfl ?_
  refine z_iadd (zat dd_X10_holdsOf 4 rfl) ?_
  refine z_iald (zat dd_X10_holdsOf 5 rfl) (fun x2 => ?_)
  refine z_aload_n 0 (zat dd_X10_holdsOf 6 rfl) rfl rfl ?_
  refine z_getR fl_X10_13 (zat dd_X10_holdsOf 7 rfl) (fun a3 => ?_)
  refine z_bipush (x := 28) (zat dd_X10_holdsOf 8 rfl) (by decide) ?_
  refine z_iload_n 1 (zat dd_X10_holdsOf 9 rfl) rfl rfl ?_
  refine z_iadd (zat dd_X10_holdsOf 10 rfl) ?_
  refine z_iald (zat dd_X10_holdsOf 11 rfl) (fun x4 => ?_)
  refine z_aload_n 0 (zat dd_X10_holdsOf 12 rfl) rfl rfl ?_
  refine z_getR fl_X10_13 (zat dd_X10_holdsOf 13 rfl) (fun a5 => ?_)
  refine z_bipush (x := 36) (zat dd_X10_holdsOf 14 rfl) (by decide) ?_
  refine z_iload_n 1 (zat dd_X10_holdsOf 15 rfl) rfl rfl ?_
  refine z_iadd (zat dd_X10_holdsOf 16 rfl) ?_
  refine z_iald (zat dd_X10_holdsOf 17 rfl) (fun x6 => ?_)
  refine z_callS_I0 (M2 := M_X10_holds) [.int x2, .int x4, .int x6] (fun l D _ _ => m_X10_holds l D x2 x4 x6 h) u_X10_holds ql_X10_52 qi_X10_holds rfl rfl (Nat.le_of_ble_eq_true rfl) (by decide) rfl rfl (zat dd_X10_holdsOf 18 rfl) (fun x7 h8 => ?_)
  exact z_iret rfl (zat dd_X10_holdsOf 19 rfl)
/-! PaperDollsModel.canPut(I)Z -/
def L_X10_canPut : List (Nat × Instr × Nat) := [(0, .aload_n 0, 1), (1, .iload_n 1, 1), (2, .invokevirtual 56, 3), (5, .bipush (-101), 2), (7, .if_icmp .ne 16, 3), (10, .aload_n 0, 1), (11, .iload_n 1, 1), (12, .invokevirtual 60, 3), (15, .iconst 1, 1), (16, .if_icmp .lt 7, 3), (19, .iconst 1, 1), (20, .goto 4, 3), (23, .iconst 0, 1), (24, .istore_n 2, 1), (25, .iconst 0, 1), (26, .istore_n 3, 1), (27, .iload_n 3, 1), (28, .aload_n 0, 1), (29, .getfield 13, 3), (32, .iconst 3, 1), (33, .iaload, 1), (34, .if_icmp .ge 56, 3), (37, .iload_n 2, 1), (38, .ifCond .eq 44, 3), (41, .aload_n 0, 1), (42, .getfield 13, 3), (45, .iconst 1, 1), (46, .iaload, 1), (47, .aload_n 0, 1), (48, .getfield 13, 3), (51, .bipush 20, 2), (53, .iload_n 1, 1), (54, .iadd, 1), (55, .iaload, 1), (56, .aload_n 0, 1), (57, .getfield 13, 3), (60, .bipush 20, 2), (62, .aload_n 0, 1), (63, .getfield 13, 3), (66, .iconst 4, 1), (67, .iload_n 3, 1), (68, .iadd, 1), (69, .iaload, 1), (70, .iadd, 1), (71, .iaload, 1), (72, .invokestatic 44, 3), (75, .ifCond .eq 7, 3), (78, .iconst 1, 1), (79, .goto 4, 3), (82, .iconst 0, 1), (83, .istore_n 2, 1), (84, .iinc 3 1, 3), (87, .goto (-60), 3), (90, .iload_n 2, 1), (91, .ireturn, 1)]
theorem dd_X10_canPut : ∀ q ∈ L_X10_canPut, decode cX10_canPut q.1 = .ok q.2 := by decide +kernel
abbrev M_X10_canPut : zM := (cX10_canPut, RX10, "canPut", 4, some .boolean, 2, 0, 0)
theorem u_X10_canPut : zCal yX10_canPut (M_X10_canPut) 1 := ⟨(zmem 955 (by decide +kernel) rfl : Cond.code yX10_canPut cX10_canPut 4 (some .boolean) ∈ zTb), zmem 63 (by decide +kernel) rfl, by decide +kernel, Nat.le_of_ble_eq_true rfl⟩
theorem qi_X10_canPut : Cond.instanceMethod yX10_canPut ∈ zTb := zmem 954 (by decide +kernel) rfl
theorem qs_X10_canPut : Cond.selects yX10_canPut.cls yX10_canPut yX10_canPut ∈ zTb := zmem 30 (by decide +kernel) rfl
def f_X10_canPut_83 (k27 : Nat → Int32 → Int32 → Int32 → zH → zR) (v0 : Nat) (v1 : Int32) (v3 : Int32) (t0 : Int32) (h : zH) : zR :=
  k27 v0 v1 t0 (v3 + 1) h
set_option maxRecDepth 100000 in
set_option maxHeartbeats 4000000 in
theorem zb_X10_canPut_83 (Y : zY) (k27 : Nat → Int32 → Int32 → Int32 → zH → zR) (hk27 : ∀ (v0 : Nat) (v1 : Int32) (v2 : Int32) (v3 : Int32) (h : zH), Z Y M_X10_canPut 0 0 27 [(0, .ref v0), (1, .int v1), (2, .int v2), (3, .int v3)] [] h (k27 v0 v1 v2 v3 h)) (v0 : Nat) (v1 : Int32) (v3 : Int32) (t0 : Int32) (h : zH) : Z Y M_X10_canPut 0 0 83 [(0, .ref v0), (1, .int v1), (3, .int v3)] [.int t0] h (f_X10_canPut_83 k27 v0 v1 v3 t0 h) := by
  rw [f_X10_canPut_83]
  refine z_istore_n (lv' := [(2, .int t0), (0, .ref v0), (1, .int v1), (3, .int v3)]) (zat dd_X10_canPut 50 rfl) rfl (Nat.le_of_ble_eq_true rfl) rfl ?_
  refine z_iinc (y := v3 + 1) (lv' := [(3, .int (v3 + 1)), (2, .int t0), (0, .ref v0), (1, .int v1)]) 3 (zat dd_X10_canPut 51 rfl) rfl rfl (Nat.le_of_ble_eq_true rfl) rfl ?_
  refine z_goto (tgt := 27) (zat dd_X10_canPut 52 rfl) (by decide) ?_
  refine z_sub [2, 3, 1, 0] rfl ?_
  exact hk27 v0 v1 t0 (v3 + 1) h
def f_X10_canPut_82 (k27 : Nat → Int32 → Int32 → Int32 → zH → zR) (v0 : Nat) (v1 : Int32) (v3 : Int32) (h : zH) : zR :=
  f_X10_canPut_83 k27 v0 v1 v3 0 h
set_option maxRecDepth 100000 in
set_option maxHeartbeats 4000000 in
theorem zb_X10_canPut_82 (Y : zY) (k27 : Nat → Int32 → Int32 → Int32 → zH → zR) (hk27 : ∀ (v0 : Nat) (v1 : Int32) (v2 : Int32) (v3 : Int32) (h : zH), Z Y M_X10_canPut 0 0 27 [(0, .ref v0), (1, .int v1), (2, .int v2), (3, .int v3)] [] h (k27 v0 v1 v2 v3 h)) (v0 : Nat) (v1 : Int32) (v3 : Int32) (h : zH) : Z Y M_X10_canPut 0 0 82 [(0, .ref v0), (1, .int v1), (3, .int v3)] [] h (f_X10_canPut_82 k27 v0 v1 v3 h) := by
  rw [f_X10_canPut_82]
  refine z_iconst (x := 0) (zat dd_X10_canPut 49 rfl) (by decide) ?_
  exact zb_X10_canPut_83 Y k27 hk27 v0 v1 v3 0 h
def f_X10_canPut_27 : Nat → Nat → Int32 → Int32 → Int32 → zH → zR
  | 0, _, _, _, _, _ => none
  | n + 1, v0, v1, v2, v3, h =>
  zgR h v0 6 1 fun a1 =>
  zaI h a1 0 3 fun x2 =>
  if x2 ≤ v3 then
  zrZ v2 h
  else
  if v2 = 0 then
  f_X10_canPut_82 (f_X10_canPut_27 n) v0 v1 v3 h
  else
  zgR h v0 6 1 fun a3 =>
  zaI h a3 0 1 fun x4 =>
  zgR h v0 6 1 fun a5 =>
  zaI h a5 0 (20 + v1) fun x6 =>
  zgR h v0 6 1 fun a7 =>
  zgR h v0 6 1 fun a8 =>
  zaI h a8 0 (4 + v3) fun x9 =>
  zaI h a7 0 (20 + x9) fun x10 =>
  zcI (f_X10_goes x4 x6 x10 h) fun x11 h12 =>
  if x11 = 0 then
  f_X10_canPut_82 (f_X10_canPut_27 n) v0 v1 v3 h12
  else
  f_X10_canPut_83 (f_X10_canPut_27 n) v0 v1 v3 1 h12
set_option maxRecDepth 100000 in
set_option maxHeartbeats 4000000 in
theorem zb_X10_canPut_27 (Y : zY) : ∀ (n : Nat) (v0 : Nat) (v1 : Int32) (v2 : Int32) (v3 : Int32) (h : zH), Z Y M_X10_canPut 0 0 27 [(0, .ref v0), (1, .int v1), (2, .int v2), (3, .int v3)] [] h (f_X10_canPut_27 n v0 v1 v2 v3 h) := by
  intro n
  induction n with
  | zero =>
    intro v0 v1 v2 v3 h
    rw [f_X10_canPut_27]
    exact z_none
  | succ n ih =>
    intro v0 v1 v2 v3 h
    rw [f_X10_canPut_27]
    refine z_iload_n 3 (zat dd_X10_canPut 16 rfl) rfl rfl ?_
    refine z_aload_n 0 (zat dd_X10_canPut 17 rfl) rfl rfl ?_
    refine z_getR fl_X10_13 (zat dd_X10_canPut 18 rfl) (fun a1 => ?_)
    refine z_iconst (x := 3) (zat dd_X10_canPut 19 rfl) (by decide) ?_
    refine z_iald (zat dd_X10_canPut 20 rfl) (fun x2 => ?_)
    refine z_icmp_ge (tgt := 90) (zat dd_X10_canPut 21 rfl) (by decide) ?_ ?_
    · refine z_iload_n 2 (zat dd_X10_canPut 53 rfl) rfl rfl ?_
      exact z_zret rfl (zat dd_X10_canPut 54 rfl)
    · refine z_iload_n 2 (zat dd_X10_canPut 22 rfl) rfl rfl ?_
      refine z_if_eq (tgt := 82) (zat dd_X10_canPut 23 rfl) (by decide) ?_ ?_
      · refine z_sub [0, 1, 3] rfl ?_
        exact zb_X10_canPut_82 Y (f_X10_canPut_27 n) ih v0 v1 v3 h
      · refine z_aload_n 0 (zat dd_X10_canPut 24 rfl) rfl rfl ?_
        refine z_getR fl_X10_13 (zat dd_X10_canPut 25 rfl) (fun a3 => ?_)
        refine z_iconst (x := 1) (zat dd_X10_canPut 26 rfl) (by decide) ?_
        refine z_iald (zat dd_X10_canPut 27 rfl) (fun x4 => ?_)
        refine z_aload_n 0 (zat dd_X10_canPut 28 rfl) rfl rfl ?_
        refine z_getR fl_X10_13 (zat dd_X10_canPut 29 rfl) (fun a5 => ?_)
        refine z_bipush (x := 20) (zat dd_X10_canPut 30 rfl) (by decide) ?_
        refine z_iload_n 1 (zat dd_X10_canPut 31 rfl) rfl rfl ?_
        refine z_iadd (zat dd_X10_canPut 32 rfl) ?_
        refine z_iald (zat dd_X10_canPut 33 rfl) (fun x6 => ?_)
        refine z_aload_n 0 (zat dd_X10_canPut 34 rfl) rfl rfl ?_
        refine z_getR fl_X10_13 (zat dd_X10_canPut 35 rfl) (fun a7 => ?_)
        refine z_bipush (x := 20) (zat dd_X10_canPut 36 rfl) (by decide) ?_
        refine z_aload_n 0 (zat dd_X10_canPut 37 rfl) rfl rfl ?_
        refine z_getR fl_X10_13 (zat dd_X10_canPut 38 rfl) (fun a8 => ?_)
        refine z_iconst (x := 4) (zat dd_X10_canPut 39 rfl) (by decide) ?_
        refine z_iload_n 3 (zat dd_X10_canPut 40 rfl) rfl rfl ?_
        refine z_iadd (zat dd_X10_canPut 41 rfl) ?_
        refine z_iald (zat dd_X10_canPut 42 rfl) (fun x9 => ?_)
        refine z_iadd (zat dd_X10_canPut 43 rfl) ?_
        refine z_iald (zat dd_X10_canPut 44 rfl) (fun x10 => ?_)
        refine z_callS_I0 (M2 := M_X10_goes) [.int x4, .int x6, .int x10] (fun l D _ _ => m_X10_goes l D x4 x6 x10 h) u_X10_goes ql_X10_44 qi_X10_goes rfl rfl (Nat.le_of_ble_eq_true rfl) (by decide) rfl rfl (zat dd_X10_canPut 45 rfl) (fun x11 h12 => ?_)
        refine z_if_eq (tgt := 82) (zat dd_X10_canPut 46 rfl) (by decide) ?_ ?_
        · refine z_sub [0, 1, 3] rfl ?_
          exact zb_X10_canPut_82 Y (f_X10_canPut_27 n) ih v0 v1 v3 h12
        · refine z_iconst (x := 1) (zat dd_X10_canPut 47 rfl) (by decide) ?_
          refine z_goto (tgt := 83) (zat dd_X10_canPut 48 rfl) (by decide) ?_
          refine z_sub [0, 1, 3] rfl ?_
          exact zb_X10_canPut_83 Y (f_X10_canPut_27 n) ih v0 v1 v3 1 h12
def f_X10_canPut_24 (v0 : Nat) (v1 : Int32) (t0 : Int32) (h : zH) : zR :=
  f_X10_canPut_27 zF v0 v1 t0 0 h
set_option maxRecDepth 100000 in
set_option maxHeartbeats 4000000 in
theorem zb_X10_canPut_24 (Y : zY) (v0 : Nat) (v1 : Int32) (t0 : Int32) (h : zH) : Z Y M_X10_canPut 0 0 24 [(0, .ref v0), (1, .int v1)] [.int t0] h (f_X10_canPut_24 v0 v1 t0 h) := by
  rw [f_X10_canPut_24]
  refine z_istore_n (lv' := [(2, .int t0), (0, .ref v0), (1, .int v1)]) (zat dd_X10_canPut 13 rfl) rfl (Nat.le_of_ble_eq_true rfl) rfl ?_
  refine z_iconst (x := 0) (zat dd_X10_canPut 14 rfl) (by decide) ?_
  refine z_istore_n (lv' := [(3, .int 0), (2, .int t0), (0, .ref v0), (1, .int v1)]) (zat dd_X10_canPut 15 rfl) rfl (Nat.le_of_ble_eq_true rfl) rfl ?_
  refine z_sub [2, 3, 1, 0] rfl ?_
  exact zb_X10_canPut_27 Y zF v0 v1 t0 0 h
def f_X10_canPut_23 (v0 : Nat) (v1 : Int32) (h : zH) : zR :=
  f_X10_canPut_24 v0 v1 0 h
set_option maxRecDepth 100000 in
set_option maxHeartbeats 4000000 in
theorem zb_X10_canPut_23 (Y : zY) (v0 : Nat) (v1 : Int32) (h : zH) : Z Y M_X10_canPut 0 0 23 [(0, .ref v0), (1, .int v1)] [] h (f_X10_canPut_23 v0 v1 h) := by
  rw [f_X10_canPut_23]
  refine z_iconst (x := 0) (zat dd_X10_canPut 12 rfl) (by decide) ?_
  exact zb_X10_canPut_24 Y v0 v1 0 h
def f_X10_canPut (v0 : Nat) (v1 : Int32) (h : zH) : zR :=
  zoc h v0 6 <|
  zcI (f_X10_placeOf v0 v1 h) fun x1 h2 =>
  if x1 = (-101) then
  zoc h2 v0 6 <|
  zcI (f_X10_holdsOf v0 v1 h2) fun x3 h4 =>
  if x3 < 1 then
  f_X10_canPut_23 v0 v1 h4
  else
  f_X10_canPut_24 v0 v1 1 h4
  else
  f_X10_canPut_23 v0 v1 h2
set_option maxRecDepth 100000 in
set_option maxHeartbeats 4000000 in
theorem m_X10_canPut (l : Launch) (D : zD) (v0 : Nat) (v1 : Int32) (h : zH) : zMet l D yX10_canPut M_X10_canPut [.ref v0, .int v1] h (f_X10_canPut v0 v1 h) := by
  refine zMet.of (by decide +kernel) ⟨rfl, rfl⟩ (Nat.le_of_ble_eq_true rfl) (fun Y hl hD => ?_)
  show Z Y M_X10_canPut 0 0 0 [(0, .ref v0), (1, .int v1)] [] h _
  rw [f_X10_canPut]
  refine z_aload_n 0 (zat dd_X10_canPut 0 rfl) rfl rfl ?_
  refine z_iload_n 1 (zat dd_X10_canPut 1 rfl) rfl rfl ?_
  refine z_callV_I0 (M2 := M_X10_placeOf) [.int v1] (fun l D _ _ => m_X10_placeOf l D v0 v1 h) u_X10_placeOf ql_X10_56 qi_X10_placeOf qs_X10_placeOf (ci := 6) rfl rfl rfl (Nat.le_of_ble_eq_true rfl) (by decide) rfl rfl (zat dd_X10_canPut 2 rfl) (fun x1 h2 => ?_)
  refine z_bipush (x := (-101)) (zat dd_X10_canPut 3 rfl) (by decide) ?_
  refine z_icmp_ne (tgt := 23) (zat dd_X10_canPut 4 rfl) (by decide) ?_ ?_
  · exact zb_X10_canPut_23 Y v0 v1 h2
  · refine z_aload_n 0 (zat dd_X10_canPut 5 rfl) rfl rfl ?_
    refine z_iload_n 1 (zat dd_X10_canPut 6 rfl) rfl rfl ?_
    refine z_callV_I0 (M2 := M_X10_holdsOf) [.int v1] (fun l D _ _ => m_X10_holdsOf l D v0 v1 h2) u_X10_holdsOf ql_X10_60 qi_X10_holdsOf qs_X10_holdsOf (ci := 6) rfl rfl rfl (Nat.le_of_ble_eq_true rfl) (by decide) rfl rfl (zat dd_X10_canPut 7 rfl) (fun x3 h4 => ?_)
    refine z_iconst (x := 1) (zat dd_X10_canPut 8 rfl) (by decide) ?_
    refine z_icmp_lt (tgt := 23) (zat dd_X10_canPut 9 rfl) (by decide) ?_ ?_
    · exact zb_X10_canPut_23 Y v0 v1 h4
    · refine z_iconst (x := 1) (zat dd_X10_canPut 10 rfl) (by decide) ?_
      refine z_goto (tgt := 24) (zat dd_X10_canPut 11 rfl) (by decide) ?_
      exact zb_X10_canPut_24 Y v0 v1 1 h4
/-! PaperDollsModel.canTake(I)Z -/
def L_X10_canTake : List (Nat × Instr × Nat) := [(0, .aload_n 0, 1), (1, .iload_n 1, 1), (2, .invokevirtual 56, 3), (5, .istore_n 2, 1), (6, .iload_n 2, 1), (7, .bipush (-101), 2), (9, .if_icmp .eq 7, 3), (12, .iconst 1, 1), (13, .goto 4, 3), (16, .iconst 0, 1), (17, .istore_n 3, 1), (18, .iload_n 2, 1), (19, .iconst 1, 1), (20, .iadd, 1), (21, .istore 4, 2), (23, .iload 4, 2), (25, .aload_n 0, 1), (26, .getfield 13, 3), (29, .iconst 3, 1), (30, .iaload, 1), (31, .if_icmp .ge 55, 3), (34, .iload_n 3, 1), (35, .ifCond .eq 51, 3), (38, .aload_n 0, 1), (39, .getfield 13, 3), (42, .bipush 12, 2), (44, .aload_n 0, 1), (45, .getfield 13, 3), (48, .iconst 4, 1), (49, .iload 4, 2), (51, .iadd, 1), (52, .iaload, 1), (53, .iadd, 1), (54, .iaload, 1), (55, .invokestatic 63, 3), (58, .aload_n 0, 1), (59, .getfield 13, 3), (62, .bipush 12, 2), (64, .iload_n 1, 1), (65, .iadd, 1), (66, .iaload, 1), (67, .invokestatic 63, 3), (70, .iand, 1), (71, .ifCond .ne 7, 3), (74, .iconst 1, 1), (75, .goto 4, 3), (78, .iconst 0, 1), (79, .istore_n 3, 1), (80, .iinc 4 1, 3), (83, .goto (-60), 3), (86, .iload_n 3, 1), (87, .ireturn, 1)]
theorem dd_X10_canTake : ∀ q ∈ L_X10_canTake, decode cX10_canTake q.1 = .ok q.2 := by decide +kernel
abbrev M_X10_canTake : zM := (cX10_canTake, RX10, "canTake", 5, some .boolean, 1, 0, 0)
theorem u_X10_canTake : zCal yX10_canTake (M_X10_canTake) 1 := ⟨(zmem 973 (by decide +kernel) rfl : Cond.code yX10_canTake cX10_canTake 5 (some .boolean) ∈ zTb), zmem 63 (by decide +kernel) rfl, by decide +kernel, Nat.le_of_ble_eq_true rfl⟩
theorem qi_X10_canTake : Cond.instanceMethod yX10_canTake ∈ zTb := zmem 972 (by decide +kernel) rfl
theorem qs_X10_canTake : Cond.selects yX10_canTake.cls yX10_canTake yX10_canTake ∈ zTb := zmem 33 (by decide +kernel) rfl
def f_X10_canTake_86 (v3 : Int32) (h : zH) : zR :=
  zrZ v3 h
set_option maxRecDepth 100000 in
set_option maxHeartbeats 4000000 in
theorem zb_X10_canTake_86 (Y : zY) (v3 : Int32) (h : zH) : Z Y M_X10_canTake 0 0 86 [(3, .int v3)] [] h (f_X10_canTake_86 v3 h) := by
  rw [f_X10_canTake_86]
  refine z_iload_n 0 (zat dd_X10_canTake 50 rfl) rfl rfl ?_
  exact z_zret rfl (zat dd_X10_canTake 51 rfl)
def f_X10_canTake_79 (k23 : Nat → Int32 → Int32 → Int32 → zH → zR) (v0 : Nat) (v1 : Int32) (v4 : Int32) (t0 : Int32) (h : zH) : zR :=
  k23 v0 v1 t0 (v4 + 1) h
set_option maxRecDepth 100000 in
set_option maxHeartbeats 4000000 in
theorem zb_X10_canTake_79 (Y : zY) (k23 : Nat → Int32 → Int32 → Int32 → zH → zR) (hk23 : ∀ (v0 : Nat) (v1 : Int32) (v3 : Int32) (v4 : Int32) (h : zH), Z Y M_X10_canTake 0 0 23 [(0, .ref v0), (1, .int v1), (3, .int v3), (4, .int v4)] [] h (k23 v0 v1 v3 v4 h)) (v0 : Nat) (v1 : Int32) (v4 : Int32) (t0 : Int32) (h : zH) : Z Y M_X10_canTake 0 0 79 [(0, .ref v0), (1, .int v1), (4, .int v4)] [.int t0] h (f_X10_canTake_79 k23 v0 v1 v4 t0 h) := by
  rw [f_X10_canTake_79]
  refine z_istore_n (lv' := [(3, .int t0), (0, .ref v0), (1, .int v1), (4, .int v4)]) (zat dd_X10_canTake 47 rfl) rfl (Nat.le_of_ble_eq_true rfl) rfl ?_
  refine z_iinc (y := v4 + 1) (lv' := [(4, .int (v4 + 1)), (3, .int t0), (0, .ref v0), (1, .int v1)]) 3 (zat dd_X10_canTake 48 rfl) rfl rfl (Nat.le_of_ble_eq_true rfl) rfl ?_
  refine z_goto (tgt := 23) (zat dd_X10_canTake 49 rfl) (by decide) ?_
  refine z_sub [2, 3, 1, 0] rfl ?_
  exact hk23 v0 v1 t0 (v4 + 1) h
def f_X10_canTake_23 : Nat → Nat → Int32 → Int32 → Int32 → zH → zR
  | 0, _, _, _, _, _ => none
  | n + 1, v0, v1, v3, v4, h =>
  zgR h v0 6 1 fun a1 =>
  zaI h a1 0 3 fun x2 =>
  if x2 ≤ v4 then
  f_X10_canTake_86 v3 h
  else
  if v3 = 0 then
  f_X10_canTake_86 v3 h
  else
  zgR h v0 6 1 fun a3 =>
  zgR h v0 6 1 fun a4 =>
  zaI h a4 0 (4 + v4) fun x5 =>
  zaI h a3 0 (12 + x5) fun x6 =>
  zcI (f_X10_covers x6 h) fun x7 h8 =>
  zgR h8 v0 6 1 fun a9 =>
  zaI h8 a9 0 (12 + v1) fun x10 =>
  zcI (f_X10_covers x10 h8) fun x11 h12 =>
  if (x7 &&& x11) = 0 then
  f_X10_canTake_79 (f_X10_canTake_23 n) v0 v1 v4 1 h12
  else
  f_X10_canTake_79 (f_X10_canTake_23 n) v0 v1 v4 0 h12
set_option maxRecDepth 100000 in
set_option maxHeartbeats 4000000 in
theorem zb_X10_canTake_23 (Y : zY) : ∀ (n : Nat) (v0 : Nat) (v1 : Int32) (v3 : Int32) (v4 : Int32) (h : zH), Z Y M_X10_canTake 0 0 23 [(0, .ref v0), (1, .int v1), (3, .int v3), (4, .int v4)] [] h (f_X10_canTake_23 n v0 v1 v3 v4 h) := by
  intro n
  induction n with
  | zero =>
    intro v0 v1 v3 v4 h
    rw [f_X10_canTake_23]
    exact z_none
  | succ n ih =>
    intro v0 v1 v3 v4 h
    rw [f_X10_canTake_23]
    refine z_iload 3 (zat dd_X10_canTake 15 rfl) rfl ?_
    refine z_aload_n 0 (zat dd_X10_canTake 16 rfl) rfl rfl ?_
    refine z_getR fl_X10_13 (zat dd_X10_canTake 17 rfl) (fun a1 => ?_)
    refine z_iconst (x := 3) (zat dd_X10_canTake 18 rfl) (by decide) ?_
    refine z_iald (zat dd_X10_canTake 19 rfl) (fun x2 => ?_)
    refine z_icmp_ge (tgt := 86) (zat dd_X10_canTake 20 rfl) (by decide) ?_ ?_
    · refine z_sub [2] rfl ?_
      exact zb_X10_canTake_86 Y v3 h
    · refine z_iload_n 2 (zat dd_X10_canTake 21 rfl) rfl rfl ?_
      refine z_if_eq (tgt := 86) (zat dd_X10_canTake 22 rfl) (by decide) ?_ ?_
      · refine z_sub [2] rfl ?_
        exact zb_X10_canTake_86 Y v3 h
      · refine z_aload_n 0 (zat dd_X10_canTake 23 rfl) rfl rfl ?_
        refine z_getR fl_X10_13 (zat dd_X10_canTake 24 rfl) (fun a3 => ?_)
        refine z_bipush (x := 12) (zat dd_X10_canTake 25 rfl) (by decide) ?_
        refine z_aload_n 0 (zat dd_X10_canTake 26 rfl) rfl rfl ?_
        refine z_getR fl_X10_13 (zat dd_X10_canTake 27 rfl) (fun a4 => ?_)
        refine z_iconst (x := 4) (zat dd_X10_canTake 28 rfl) (by decide) ?_
        refine z_iload 3 (zat dd_X10_canTake 29 rfl) rfl ?_
        refine z_iadd (zat dd_X10_canTake 30 rfl) ?_
        refine z_iald (zat dd_X10_canTake 31 rfl) (fun x5 => ?_)
        refine z_iadd (zat dd_X10_canTake 32 rfl) ?_
        refine z_iald (zat dd_X10_canTake 33 rfl) (fun x6 => ?_)
        refine z_callS_I0 (M2 := M_X10_covers) [.int x6] (fun l D _ _ => m_X10_covers l D x6 h) u_X10_covers ql_X10_63 qi_X10_covers rfl rfl (Nat.le_of_ble_eq_true rfl) (by decide) rfl rfl (zat dd_X10_canTake 34 rfl) (fun x7 h8 => ?_)
        refine z_aload_n 0 (zat dd_X10_canTake 35 rfl) rfl rfl ?_
        refine z_getR fl_X10_13 (zat dd_X10_canTake 36 rfl) (fun a9 => ?_)
        refine z_bipush (x := 12) (zat dd_X10_canTake 37 rfl) (by decide) ?_
        refine z_iload_n 1 (zat dd_X10_canTake 38 rfl) rfl rfl ?_
        refine z_iadd (zat dd_X10_canTake 39 rfl) ?_
        refine z_iald (zat dd_X10_canTake 40 rfl) (fun x10 => ?_)
        refine z_callS_I0 (M2 := M_X10_covers) [.int x10] (fun l D _ _ => m_X10_covers l D x10 h8) u_X10_covers ql_X10_63 qi_X10_covers rfl rfl (Nat.le_of_ble_eq_true rfl) (by decide) rfl rfl (zat dd_X10_canTake 41 rfl) (fun x11 h12 => ?_)
        refine z_iand (zat dd_X10_canTake 42 rfl) ?_
        refine z_if_ne (tgt := 78) (zat dd_X10_canTake 43 rfl) (by decide) ?_ ?_
        · refine z_iconst (x := 0) (zat dd_X10_canTake 46 rfl) (by decide) ?_
          refine z_sub [0, 1, 3] rfl ?_
          exact zb_X10_canTake_79 Y (f_X10_canTake_23 n) ih v0 v1 v4 0 h12
        · refine z_iconst (x := 1) (zat dd_X10_canTake 44 rfl) (by decide) ?_
          refine z_goto (tgt := 79) (zat dd_X10_canTake 45 rfl) (by decide) ?_
          refine z_sub [0, 1, 3] rfl ?_
          exact zb_X10_canTake_79 Y (f_X10_canTake_23 n) ih v0 v1 v4 1 h12
def f_X10_canTake_17 (v0 : Nat) (v1 : Int32) (v2 : Int32) (t0 : Int32) (h : zH) : zR :=
  zlt (v2 + 1) fun x1 =>
  f_X10_canTake_23 zF v0 v1 t0 x1 h
set_option maxRecDepth 100000 in
set_option maxHeartbeats 4000000 in
theorem zb_X10_canTake_17 (Y : zY) (v0 : Nat) (v1 : Int32) (v2 : Int32) (t0 : Int32) (h : zH) : Z Y M_X10_canTake 0 0 17 [(0, .ref v0), (1, .int v1), (2, .int v2)] [.int t0] h (f_X10_canTake_17 v0 v1 v2 t0 h) := by
  rw [f_X10_canTake_17]
  refine z_istore_n (lv' := [(3, .int t0), (0, .ref v0), (1, .int v1), (2, .int v2)]) (zat dd_X10_canTake 10 rfl) rfl (Nat.le_of_ble_eq_true rfl) rfl ?_
  refine z_iload_n 3 (zat dd_X10_canTake 11 rfl) rfl rfl ?_
  refine z_iconst (x := 1) (zat dd_X10_canTake 12 rfl) (by decide) ?_
  refine z_iadd (zat dd_X10_canTake 13 rfl) ?_
  refine z_let (fun x1 => ?_)
  refine z_istore (lv' := [(4, .int x1), (3, .int t0), (0, .ref v0), (1, .int v1), (2, .int v2)]) (zat dd_X10_canTake 14 rfl) (Nat.le_of_ble_eq_true rfl) rfl ?_
  refine z_sub [2, 3, 1, 0] rfl ?_
  exact zb_X10_canTake_23 Y zF v0 v1 t0 x1 h
def f_X10_canTake (v0 : Nat) (v1 : Int32) (h : zH) : zR :=
  zoc h v0 6 <|
  zcI (f_X10_placeOf v0 v1 h) fun x1 h2 =>
  if x1 = (-101) then
  f_X10_canTake_17 v0 v1 x1 0 h2
  else
  f_X10_canTake_17 v0 v1 x1 1 h2
set_option maxRecDepth 100000 in
set_option maxHeartbeats 4000000 in
theorem m_X10_canTake (l : Launch) (D : zD) (v0 : Nat) (v1 : Int32) (h : zH) : zMet l D yX10_canTake M_X10_canTake [.ref v0, .int v1] h (f_X10_canTake v0 v1 h) := by
  refine zMet.of (by decide +kernel) ⟨rfl, rfl⟩ (Nat.le_of_ble_eq_true rfl) (fun Y hl hD => ?_)
  show Z Y M_X10_canTake 0 0 0 [(0, .ref v0), (1, .int v1)] [] h _
  rw [f_X10_canTake]
  refine z_aload_n 0 (zat dd_X10_canTake 0 rfl) rfl rfl ?_
  refine z_iload_n 1 (zat dd_X10_canTake 1 rfl) rfl rfl ?_
  refine z_callV_I0 (M2 := M_X10_placeOf) [.int v1] (fun l D _ _ => m_X10_placeOf l D v0 v1 h) u_X10_placeOf ql_X10_56 qi_X10_placeOf qs_X10_placeOf (ci := 6) rfl rfl rfl (Nat.le_of_ble_eq_true rfl) (by decide) rfl rfl (zat dd_X10_canTake 2 rfl) (fun x1 h2 => ?_)
  refine z_istore_n (lv' := [(2, .int x1), (0, .ref v0), (1, .int v1)]) (zat dd_X10_canTake 3 rfl) rfl (Nat.le_of_ble_eq_true rfl) rfl ?_
  refine z_iload_n 0 (zat dd_X10_canTake 4 rfl) rfl rfl ?_
  refine z_bipush (x := (-101)) (zat dd_X10_canTake 5 rfl) (by decide) ?_
  refine z_icmp_eq (tgt := 16) (zat dd_X10_canTake 6 rfl) (by decide) ?_ ?_
  · refine z_iconst (x := 0) (zat dd_X10_canTake 9 rfl) (by decide) ?_
    refine z_sub [1, 2, 0] rfl ?_
    exact zb_X10_canTake_17 Y v0 v1 x1 0 h2
  · refine z_iconst (x := 1) (zat dd_X10_canTake 7 rfl) (by decide) ?_
    refine z_goto (tgt := 17) (zat dd_X10_canTake 8 rfl) (by decide) ?_
    refine z_sub [1, 2, 0] rfl ?_
    exact zb_X10_canTake_17 Y v0 v1 x1 1 h2
/-! PaperDollsModel.goPut(I)V -/
def L_X10_goPut : List (Nat × Instr × Nat) := [(0, .aload_n 0, 1), (1, .getfield 13, 3), (4, .iconst 4, 1), (5, .aload_n 0, 1), (6, .getfield 13, 3), (9, .iconst 3, 1), (10, .iaload, 1), (11, .iadd, 1), (12, .iload_n 1, 1), (13, .iastore, 1), (14, .aload_n 0, 1), (15, .getfield 13, 3), (18, .iconst 3, 1), (19, .dup2, 1), (20, .iaload, 1), (21, .iconst 1, 1), (22, .iadd, 1), (23, .iastore, 1), (24, .aload_n 0, 1), (25, .getfield 13, 3), (28, .bipush 36, 2), (30, .iload_n 1, 1), (31, .iadd, 1), (32, .dup2, 1), (33, .iaload, 1), (34, .iconst 1, 1), (35, .iadd, 1), (36, .iastore, 1), (37, .aload_n 0, 1), (38, .getfield 13, 3), (41, .iconst 2, 1), (42, .dup2, 1), (43, .iaload, 1), (44, .iconst 1, 1), (45, .iadd, 1), (46, .iastore, 1), (47, .return_, 1)]
theorem dd_X10_goPut : ∀ q ∈ L_X10_goPut, decode cX10_goPut q.1 = .ok q.2 := by decide +kernel
abbrev M_X10_goPut : zM := (cX10_goPut, RX10, "goPut", 2, none, 0, 0, 0)
theorem u_X10_goPut : zCal yX10_goPut (M_X10_goPut) 1 := ⟨(zmem 980 (by decide +kernel) rfl : Cond.code yX10_goPut cX10_goPut 2 (none) ∈ zTb), zmem 63 (by decide +kernel) rfl, by decide +kernel, Nat.le_of_ble_eq_true rfl⟩
theorem qi_X10_goPut : Cond.instanceMethod yX10_goPut ∈ zTb := zmem 979 (by decide +kernel) rfl
theorem qs_X10_goPut : Cond.selects yX10_goPut.cls yX10_goPut yX10_goPut ∈ zTb := zmem 34 (by decide +kernel) rfl
def f_X10_goPut (v0 : Nat) (v1 : Int32) (h : zH) : zR :=
  zgR h v0 6 1 fun a1 =>
  zgR h v0 6 1 fun a2 =>
  zaI h a2 0 3 fun x3 =>
  zsI h a1 0 (4 + x3) v1 fun h4 =>
  zgR h4 v0 6 1 fun a5 =>
  zaI h4 a5 0 3 fun x6 =>
  zsI h4 a5 0 3 (x6 + 1) fun h7 =>
  zgR h7 v0 6 1 fun a8 =>
  zaI h7 a8 0 (36 + v1) fun x9 =>
  zsI h7 a8 0 (36 + v1) (x9 + 1) fun h10 =>
  zgR h10 v0 6 1 fun a11 =>
  zaI h10 a11 0 2 fun x12 =>
  zsI h10 a11 0 2 (x12 + 1) fun h13 =>
  zrV h13
set_option maxRecDepth 100000 in
set_option maxHeartbeats 4000000 in
theorem m_X10_goPut (l : Launch) (D : zD) (v0 : Nat) (v1 : Int32) (h : zH) : zMet l D yX10_goPut M_X10_goPut [.ref v0, .int v1] h (f_X10_goPut v0 v1 h) := by
  refine zMet.of (by decide +kernel) ⟨rfl, rfl⟩ (Nat.le_of_ble_eq_true rfl) (fun Y hl hD => ?_)
  show Z Y M_X10_goPut 0 0 0 [(0, .ref v0), (1, .int v1)] [] h _
  rw [f_X10_goPut]
  refine z_aload_n 0 (zat dd_X10_goPut 0 rfl) rfl rfl ?_
  refine z_getR fl_X10_13 (zat dd_X10_goPut 1 rfl) (fun a1 => ?_)
  refine z_iconst (x := 4) (zat dd_X10_goPut 2 rfl) (by decide) ?_
  refine z_aload_n 0 (zat dd_X10_goPut 3 rfl) rfl rfl ?_
  refine z_getR fl_X10_13 (zat dd_X10_goPut 4 rfl) (fun a2 => ?_)
  refine z_iconst (x := 3) (zat dd_X10_goPut 5 rfl) (by decide) ?_
  refine z_iald (zat dd_X10_goPut 6 rfl) (fun x3 => ?_)
  refine z_iadd (zat dd_X10_goPut 7 rfl) ?_
  refine z_iload_n 1 (zat dd_X10_goPut 8 rfl) rfl rfl ?_
  refine z_iast (zat dd_X10_goPut 9 rfl) (fun h4 => ?_)
  refine z_aload_n 0 (zat dd_X10_goPut 10 rfl) rfl rfl ?_
  refine z_getR fl_X10_13 (zat dd_X10_goPut 11 rfl) (fun a5 => ?_)
  refine z_iconst (x := 3) (zat dd_X10_goPut 12 rfl) (by decide) ?_
  refine z_dup2 (zat dd_X10_goPut 13 rfl) rfl rfl ?_
  refine z_iald (zat dd_X10_goPut 14 rfl) (fun x6 => ?_)
  refine z_iconst (x := 1) (zat dd_X10_goPut 15 rfl) (by decide) ?_
  refine z_iadd (zat dd_X10_goPut 16 rfl) ?_
  refine z_iast (zat dd_X10_goPut 17 rfl) (fun h7 => ?_)
  refine z_aload_n 0 (zat dd_X10_goPut 18 rfl) rfl rfl ?_
  refine z_getR fl_X10_13 (zat dd_X10_goPut 19 rfl) (fun a8 => ?_)
  refine z_bipush (x := 36) (zat dd_X10_goPut 20 rfl) (by decide) ?_
  refine z_iload_n 1 (zat dd_X10_goPut 21 rfl) rfl rfl ?_
  refine z_iadd (zat dd_X10_goPut 22 rfl) ?_
  refine z_dup2 (zat dd_X10_goPut 23 rfl) rfl rfl ?_
  refine z_iald (zat dd_X10_goPut 24 rfl) (fun x9 => ?_)
  refine z_iconst (x := 1) (zat dd_X10_goPut 25 rfl) (by decide) ?_
  refine z_iadd (zat dd_X10_goPut 26 rfl) ?_
  refine z_iast (zat dd_X10_goPut 27 rfl) (fun h10 => ?_)
  refine z_aload_n 0 (zat dd_X10_goPut 28 rfl) rfl rfl ?_
  refine z_getR fl_X10_13 (zat dd_X10_goPut 29 rfl) (fun a11 => ?_)
  refine z_iconst (x := 2) (zat dd_X10_goPut 30 rfl) (by decide) ?_
  refine z_dup2 (zat dd_X10_goPut 31 rfl) rfl rfl ?_
  refine z_iald (zat dd_X10_goPut 32 rfl) (fun x12 => ?_)
  refine z_iconst (x := 1) (zat dd_X10_goPut 33 rfl) (by decide) ?_
  refine z_iadd (zat dd_X10_goPut 34 rfl) ?_
  refine z_iast (zat dd_X10_goPut 35 rfl) (fun h13 => ?_)
  exact z_vret rfl (zat dd_X10_goPut 36 rfl)
/-! PaperDollsModel.goTake(I)V -/
def L_X10_goTake : List (Nat × Instr × Nat) := [(0, .aload_n 0, 1), (1, .iload_n 1, 1), (2, .invokevirtual 56, 3), (5, .iconst 1, 1), (6, .iadd, 1), (7, .istore_n 2, 1), (8, .iload_n 2, 1), (9, .aload_n 0, 1), (10, .getfield 13, 3), (13, .iconst 3, 1), (14, .iaload, 1), (15, .if_icmp .ge 27, 3), (18, .aload_n 0, 1), (19, .getfield 13, 3), (22, .iconst 4, 1), (23, .iload_n 2, 1), (24, .iadd, 1), (25, .iconst 1, 1), (26, .isub, 1), (27, .aload_n 0, 1), (28, .getfield 13, 3), (31, .iconst 4, 1), (32, .iload_n 2, 1), (33, .iadd, 1), (34, .iaload, 1), (35, .iastore, 1), (36, .iinc 2 1, 3), (39, .goto (-31), 3), (42, .aload_n 0, 1), (43, .getfield 13, 3), (46, .iconst 3, 1), (47, .dup2, 1), (48, .iaload, 1), (49, .iconst 1, 1), (50, .isub, 1), (51, .iastore, 1), (52, .aload_n 0, 1), (53, .getfield 13, 3), (56, .iconst 2, 1), (57, .dup2, 1), (58, .iaload, 1), (59, .iconst 1, 1), (60, .iadd, 1), (61, .iastore, 1), (62, .return_, 1)]
theorem dd_X10_goTake : ∀ q ∈ L_X10_goTake, decode cX10_goTake q.1 = .ok q.2 := by decide +kernel
abbrev M_X10_goTake : zM := (cX10_goTake, RX10, "goTake", 3, none, 1, 0, 0)
theorem u_X10_goTake : zCal yX10_goTake (M_X10_goTake) 1 := ⟨(zmem 984 (by decide +kernel) rfl : Cond.code yX10_goTake cX10_goTake 3 (none) ∈ zTb), zmem 63 (by decide +kernel) rfl, by decide +kernel, Nat.le_of_ble_eq_true rfl⟩
theorem qi_X10_goTake : Cond.instanceMethod yX10_goTake ∈ zTb := zmem 983 (by decide +kernel) rfl
theorem qs_X10_goTake : Cond.selects yX10_goTake.cls yX10_goTake yX10_goTake ∈ zTb := zmem 35 (by decide +kernel) rfl
def f_X10_goTake_8 : Nat → Nat → Int32 → zH → zR
  | 0, _, _, _ => none
  | n + 1, v0, v2, h =>
  zgR h v0 6 1 fun a1 =>
  zaI h a1 0 3 fun x2 =>
  if x2 ≤ v2 then
  zgR h v0 6 1 fun a3 =>
  zaI h a3 0 3 fun x4 =>
  zsI h a3 0 3 (x4 - 1) fun h5 =>
  zgR h5 v0 6 1 fun a6 =>
  zaI h5 a6 0 2 fun x7 =>
  zsI h5 a6 0 2 (x7 + 1) fun h8 =>
  zrV h8
  else
  zgR h v0 6 1 fun a9 =>
  zgR h v0 6 1 fun a10 =>
  zaI h a10 0 (4 + v2) fun x11 =>
  zsI h a9 0 ((4 + v2) - 1) x11 fun h12 =>
  f_X10_goTake_8 n v0 (v2 + 1) h12
set_option maxRecDepth 100000 in
set_option maxHeartbeats 4000000 in
theorem zb_X10_goTake_8 (Y : zY) : ∀ (n : Nat) (v0 : Nat) (v2 : Int32) (h : zH), Z Y M_X10_goTake 0 0 8 [(0, .ref v0), (2, .int v2)] [] h (f_X10_goTake_8 n v0 v2 h) := by
  intro n
  induction n with
  | zero =>
    intro v0 v2 h
    rw [f_X10_goTake_8]
    exact z_none
  | succ n ih =>
    intro v0 v2 h
    rw [f_X10_goTake_8]
    refine z_iload_n 1 (zat dd_X10_goTake 6 rfl) rfl rfl ?_
    refine z_aload_n 0 (zat dd_X10_goTake 7 rfl) rfl rfl ?_
    refine z_getR fl_X10_13 (zat dd_X10_goTake 8 rfl) (fun a1 => ?_)
    refine z_iconst (x := 3) (zat dd_X10_goTake 9 rfl) (by decide) ?_
    refine z_iald (zat dd_X10_goTake 10 rfl) (fun x2 => ?_)
    refine z_icmp_ge (tgt := 42) (zat dd_X10_goTake 11 rfl) (by decide) ?_ ?_
    · refine z_aload_n 0 (zat dd_X10_goTake 28 rfl) rfl rfl ?_
      refine z_getR fl_X10_13 (zat dd_X10_goTake 29 rfl) (fun a3 => ?_)
      refine z_iconst (x := 3) (zat dd_X10_goTake 30 rfl) (by decide) ?_
      refine z_dup2 (zat dd_X10_goTake 31 rfl) rfl rfl ?_
      refine z_iald (zat dd_X10_goTake 32 rfl) (fun x4 => ?_)
      refine z_iconst (x := 1) (zat dd_X10_goTake 33 rfl) (by decide) ?_
      refine z_isub (zat dd_X10_goTake 34 rfl) ?_
      refine z_iast (zat dd_X10_goTake 35 rfl) (fun h5 => ?_)
      refine z_aload_n 0 (zat dd_X10_goTake 36 rfl) rfl rfl ?_
      refine z_getR fl_X10_13 (zat dd_X10_goTake 37 rfl) (fun a6 => ?_)
      refine z_iconst (x := 2) (zat dd_X10_goTake 38 rfl) (by decide) ?_
      refine z_dup2 (zat dd_X10_goTake 39 rfl) rfl rfl ?_
      refine z_iald (zat dd_X10_goTake 40 rfl) (fun x7 => ?_)
      refine z_iconst (x := 1) (zat dd_X10_goTake 41 rfl) (by decide) ?_
      refine z_iadd (zat dd_X10_goTake 42 rfl) ?_
      refine z_iast (zat dd_X10_goTake 43 rfl) (fun h8 => ?_)
      exact z_vret rfl (zat dd_X10_goTake 44 rfl)
    · refine z_aload_n 0 (zat dd_X10_goTake 12 rfl) rfl rfl ?_
      refine z_getR fl_X10_13 (zat dd_X10_goTake 13 rfl) (fun a9 => ?_)
      refine z_iconst (x := 4) (zat dd_X10_goTake 14 rfl) (by decide) ?_
      refine z_iload_n 1 (zat dd_X10_goTake 15 rfl) rfl rfl ?_
      refine z_iadd (zat dd_X10_goTake 16 rfl) ?_
      refine z_iconst (x := 1) (zat dd_X10_goTake 17 rfl) (by decide) ?_
      refine z_isub (zat dd_X10_goTake 18 rfl) ?_
      refine z_aload_n 0 (zat dd_X10_goTake 19 rfl) rfl rfl ?_
      refine z_getR fl_X10_13 (zat dd_X10_goTake 20 rfl) (fun a10 => ?_)
      refine z_iconst (x := 4) (zat dd_X10_goTake 21 rfl) (by decide) ?_
      refine z_iload_n 1 (zat dd_X10_goTake 22 rfl) rfl rfl ?_
      refine z_iadd (zat dd_X10_goTake 23 rfl) ?_
      refine z_iald (zat dd_X10_goTake 24 rfl) (fun x11 => ?_)
      refine z_iast (zat dd_X10_goTake 25 rfl) (fun h12 => ?_)
      refine z_iinc (y := v2 + 1) (lv' := [(2, .int (v2 + 1)), (0, .ref v0)]) 1 (zat dd_X10_goTake 26 rfl) rfl rfl (Nat.le_of_ble_eq_true rfl) rfl ?_
      refine z_goto (tgt := 8) (zat dd_X10_goTake 27 rfl) (by decide) ?_
      refine z_sub [1, 0] rfl ?_
      exact ih v0 (v2 + 1) h12
def f_X10_goTake (v0 : Nat) (v1 : Int32) (h : zH) : zR :=
  zoc h v0 6 <|
  zcI (f_X10_placeOf v0 v1 h) fun x1 h2 =>
  zlt (x1 + 1) fun x3 =>
  f_X10_goTake_8 zF v0 x3 h2
set_option maxRecDepth 100000 in
set_option maxHeartbeats 4000000 in
theorem m_X10_goTake (l : Launch) (D : zD) (v0 : Nat) (v1 : Int32) (h : zH) : zMet l D yX10_goTake M_X10_goTake [.ref v0, .int v1] h (f_X10_goTake v0 v1 h) := by
  refine zMet.of (by decide +kernel) ⟨rfl, rfl⟩ (Nat.le_of_ble_eq_true rfl) (fun Y hl hD => ?_)
  show Z Y M_X10_goTake 0 0 0 [(0, .ref v0), (1, .int v1)] [] h _
  rw [f_X10_goTake]
  refine z_aload_n 0 (zat dd_X10_goTake 0 rfl) rfl rfl ?_
  refine z_iload_n 1 (zat dd_X10_goTake 1 rfl) rfl rfl ?_
  refine z_callV_I0 (M2 := M_X10_placeOf) [.int v1] (fun l D _ _ => m_X10_placeOf l D v0 v1 h) u_X10_placeOf ql_X10_56 qi_X10_placeOf qs_X10_placeOf (ci := 6) rfl rfl rfl (Nat.le_of_ble_eq_true rfl) (by decide) rfl rfl (zat dd_X10_goTake 2 rfl) (fun x1 h2 => ?_)
  refine z_iconst (x := 1) (zat dd_X10_goTake 3 rfl) (by decide) ?_
  refine z_iadd (zat dd_X10_goTake 4 rfl) ?_
  refine z_let (fun x3 => ?_)
  refine z_istore_n (lv' := [(2, .int x3), (0, .ref v0), (1, .int v1)]) (zat dd_X10_goTake 5 rfl) rfl (Nat.le_of_ble_eq_true rfl) rfl ?_
  refine z_sub [1, 0] rfl ?_
  exact zb_X10_goTake_8 Y zF v0 x3 h2
/-! PaperDollsModel.goMend(I)V -/
def L_X10_goMend : List (Nat × Instr × Nat) := [(0, .aload_n 0, 1), (1, .getfield 13, 3), (4, .bipush 36, 2), (6, .iload_n 1, 1), (7, .iadd, 1), (8, .iconst 0, 1), (9, .iastore, 1), (10, .aload_n 0, 1), (11, .getfield 13, 3), (14, .iconst 2, 1), (15, .dup2, 1), (16, .iaload, 1), (17, .iconst 1, 1), (18, .iadd, 1), (19, .iastore, 1), (20, .return_, 1)]
theorem dd_X10_goMend : ∀ q ∈ L_X10_goMend, decode cX10_goMend q.1 = .ok q.2 := by decide +kernel
abbrev M_X10_goMend : zM := (cX10_goMend, RX10, "goMend", 2, none, 0, 0, 0)
theorem u_X10_goMend : zCal yX10_goMend (M_X10_goMend) 1 := ⟨(zmem 988 (by decide +kernel) rfl : Cond.code yX10_goMend cX10_goMend 2 (none) ∈ zTb), zmem 63 (by decide +kernel) rfl, by decide +kernel, Nat.le_of_ble_eq_true rfl⟩
theorem qi_X10_goMend : Cond.instanceMethod yX10_goMend ∈ zTb := zmem 987 (by decide +kernel) rfl
theorem qs_X10_goMend : Cond.selects yX10_goMend.cls yX10_goMend yX10_goMend ∈ zTb := zmem 36 (by decide +kernel) rfl
def f_X10_goMend (v0 : Nat) (v1 : Int32) (h : zH) : zR :=
  zgR h v0 6 1 fun a1 =>
  zsI h a1 0 (36 + v1) 0 fun h2 =>
  zgR h2 v0 6 1 fun a3 =>
  zaI h2 a3 0 2 fun x4 =>
  zsI h2 a3 0 2 (x4 + 1) fun h5 =>
  zrV h5
set_option maxRecDepth 100000 in
set_option maxHeartbeats 4000000 in
theorem m_X10_goMend (l : Launch) (D : zD) (v0 : Nat) (v1 : Int32) (h : zH) : zMet l D yX10_goMend M_X10_goMend [.ref v0, .int v1] h (f_X10_goMend v0 v1 h) := by
  refine zMet.of (by decide +kernel) ⟨rfl, rfl⟩ (Nat.le_of_ble_eq_true rfl) (fun Y hl hD => ?_)
  show Z Y M_X10_goMend 0 0 0 [(0, .ref v0), (1, .int v1)] [] h _
  rw [f_X10_goMend]
  refine z_aload_n 0 (zat dd_X10_goMend 0 rfl) rfl rfl ?_
  refine z_getR fl_X10_13 (zat dd_X10_goMend 1 rfl) (fun a1 => ?_)
  refine z_bipush (x := 36) (zat dd_X10_goMend 2 rfl) (by decide) ?_
  refine z_iload_n 1 (zat dd_X10_goMend 3 rfl) rfl rfl ?_
  refine z_iadd (zat dd_X10_goMend 4 rfl) ?_
  refine z_iconst (x := 0) (zat dd_X10_goMend 5 rfl) (by decide) ?_
  refine z_iast (zat dd_X10_goMend 6 rfl) (fun h2 => ?_)
  refine z_aload_n 0 (zat dd_X10_goMend 7 rfl) rfl rfl ?_
  refine z_getR fl_X10_13 (zat dd_X10_goMend 8 rfl) (fun a3 => ?_)
  refine z_iconst (x := 2) (zat dd_X10_goMend 9 rfl) (by decide) ?_
  refine z_dup2 (zat dd_X10_goMend 10 rfl) rfl rfl ?_
  refine z_iald (zat dd_X10_goMend 11 rfl) (fun x4 => ?_)
  refine z_iconst (x := 1) (zat dd_X10_goMend 12 rfl) (by decide) ?_
  refine z_iadd (zat dd_X10_goMend 13 rfl) ?_
  refine z_iast (zat dd_X10_goMend 14 rfl) (fun h5 => ?_)
  exact z_vret rfl (zat dd_X10_goMend 15 rfl)
/-! PaperDollsModel.goMove(II)Z -/
def L_X10_goMove : List (Nat × Instr × Nat) := [(0, .iload_n 1, 1), (1, .ifCond .ne 11, 3), (4, .aload_n 0, 1), (5, .iload_n 2, 1), (6, .invokevirtual 66, 3), (9, .goto 33, 3), (12, .iload_n 1, 1), (13, .iconst 1, 1), (14, .if_icmp .ne 11, 3), (17, .aload_n 0, 1), (18, .iload_n 2, 1), (19, .invokevirtual 70, 3), (22, .goto 20, 3), (25, .aload_n 0, 1), (26, .getfield 13, 3), (29, .bipush 36, 2), (31, .iload_n 2, 1), (32, .iadd, 1), (33, .iaload, 1), (34, .ifCond .le 7, 3), (37, .iconst 1, 1), (38, .goto 4, 3), (41, .iconst 0, 1), (42, .istore_n 3, 1), (43, .iload_n 3, 1), (44, .ifCond .eq 33, 3), (47, .iload_n 1, 1), (48, .ifCond .ne 11, 3), (51, .aload_n 0, 1), (52, .iload_n 2, 1), (53, .invokevirtual 73, 3), (56, .goto 21, 3), (59, .iload_n 1, 1), (60, .iconst 1, 1), (61, .if_icmp .ne 11, 3), (64, .aload_n 0, 1), (65, .iload_n 2, 1), (66, .invokevirtual 77, 3), (69, .goto 8, 3), (72, .aload_n 0, 1), (73, .iload_n 2, 1), (74, .invokevirtual 80, 3), (77, .iload_n 3, 1), (78, .ireturn, 1)]
theorem dd_X10_goMove : ∀ q ∈ L_X10_goMove, decode cX10_goMove q.1 = .ok q.2 := by decide +kernel
abbrev M_X10_goMove : zM := (cX10_goMove, RX10, "goMove", 4, some .boolean, 3, 0, 0)
theorem u_X10_goMove : zCal yX10_goMove (M_X10_goMove) 2 := ⟨(zmem 951 (by decide +kernel) rfl : Cond.code yX10_goMove cX10_goMove 4 (some .boolean) ∈ zTb), zmem 63 (by decide +kernel) rfl, by decide +kernel, Nat.le_of_ble_eq_true rfl⟩
theorem qi_X10_goMove : Cond.instanceMethod yX10_goMove ∈ zTb := zmem 950 (by decide +kernel) rfl
theorem qs_X10_goMove : Cond.selects yX10_goMove.cls yX10_goMove yX10_goMove ∈ zTb := zmem 29 (by decide +kernel) rfl
def f_X10_goMove_77 (v3 : Int32) (h : zH) : zR :=
  zrZ v3 h
set_option maxRecDepth 100000 in
set_option maxHeartbeats 4000000 in
theorem zb_X10_goMove_77 (Y : zY) (v3 : Int32) (h : zH) : Z Y M_X10_goMove 0 0 77 [(3, .int v3)] [] h (f_X10_goMove_77 v3 h) := by
  rw [f_X10_goMove_77]
  refine z_iload_n 0 (zat dd_X10_goMove 42 rfl) rfl rfl ?_
  exact z_zret rfl (zat dd_X10_goMove 43 rfl)
def f_X10_goMove_42 (v0 : Nat) (v1 : Int32) (v2 : Int32) (t0 : Int32) (h : zH) : zR :=
  if t0 = 0 then
  f_X10_goMove_77 t0 h
  else
  if v1 = 0 then
  zoc h v0 6 <|
  zcV (f_X10_goPut v0 v2 h) fun h3 =>
  f_X10_goMove_77 t0 h3
  else
  if v1 = 1 then
  zoc h v0 6 <|
  zcV (f_X10_goTake v0 v2 h) fun h2 =>
  f_X10_goMove_77 t0 h2
  else
  zoc h v0 6 <|
  zcV (f_X10_goMend v0 v2 h) fun h1 =>
  f_X10_goMove_77 t0 h1
set_option maxRecDepth 100000 in
set_option maxHeartbeats 4000000 in
theorem zb_X10_goMove_42 (Y : zY) (v0 : Nat) (v1 : Int32) (v2 : Int32) (t0 : Int32) (h : zH) : Z Y M_X10_goMove 0 0 42 [(0, .ref v0), (1, .int v1), (2, .int v2)] [.int t0] h (f_X10_goMove_42 v0 v1 v2 t0 h) := by
  rw [f_X10_goMove_42]
  refine z_istore_n (lv' := [(3, .int t0), (0, .ref v0), (1, .int v1), (2, .int v2)]) (zat dd_X10_goMove 23 rfl) rfl (Nat.le_of_ble_eq_true rfl) rfl ?_
  refine z_iload_n 0 (zat dd_X10_goMove 24 rfl) rfl rfl ?_
  refine z_if_eq (tgt := 77) (zat dd_X10_goMove 25 rfl) (by decide) ?_ ?_
  · refine z_sub [0] rfl ?_
    exact zb_X10_goMove_77 Y t0 h
  · refine z_iload_n 2 (zat dd_X10_goMove 26 rfl) rfl rfl ?_
    refine z_if_ne (tgt := 59) (zat dd_X10_goMove 27 rfl) (by decide) ?_ ?_
    · refine z_iload_n 2 (zat dd_X10_goMove 32 rfl) rfl rfl ?_
      refine z_iconst (x := 1) (zat dd_X10_goMove 33 rfl) (by decide) ?_
      refine z_icmp_ne (tgt := 72) (zat dd_X10_goMove 34 rfl) (by decide) ?_ ?_
      · refine z_aload_n 1 (zat dd_X10_goMove 39 rfl) rfl rfl ?_
        refine z_iload_n 3 (zat dd_X10_goMove 40 rfl) rfl rfl ?_
        refine z_callV_V0 (M2 := M_X10_goMend) [.int v2] (fun l D _ _ => m_X10_goMend l D v0 v2 h) u_X10_goMend ql_X10_80 qi_X10_goMend qs_X10_goMend (ci := 6) rfl rfl rfl (Nat.le_of_ble_eq_true rfl) (by decide) rfl rfl (zat dd_X10_goMove 41 rfl) (fun h1 => ?_)
        refine z_sub [0] rfl ?_
        exact zb_X10_goMove_77 Y t0 h1
      · refine z_aload_n 1 (zat dd_X10_goMove 35 rfl) rfl rfl ?_
        refine z_iload_n 3 (zat dd_X10_goMove 36 rfl) rfl rfl ?_
        refine z_callV_V0 (M2 := M_X10_goTake) [.int v2] (fun l D _ _ => m_X10_goTake l D v0 v2 h) u_X10_goTake ql_X10_77 qi_X10_goTake qs_X10_goTake (ci := 6) rfl rfl rfl (Nat.le_of_ble_eq_true rfl) (by decide) rfl rfl (zat dd_X10_goMove 37 rfl) (fun h2 => ?_)
        refine z_goto (tgt := 77) (zat dd_X10_goMove 38 rfl) (by decide) ?_
        refine z_sub [0] rfl ?_
        exact zb_X10_goMove_77 Y t0 h2
    · refine z_aload_n 1 (zat dd_X10_goMove 28 rfl) rfl rfl ?_
      refine z_iload_n 3 (zat dd_X10_goMove 29 rfl) rfl rfl ?_
      refine z_callV_V0 (M2 := M_X10_goPut) [.int v2] (fun l D _ _ => m_X10_goPut l D v0 v2 h) u_X10_goPut ql_X10_73 qi_X10_goPut qs_X10_goPut (ci := 6) rfl rfl rfl (Nat.le_of_ble_eq_true rfl) (by decide) rfl rfl (zat dd_X10_goMove 30 rfl) (fun h3 => ?_)
      refine z_goto (tgt := 77) (zat dd_X10_goMove 31 rfl) (by decide) ?_
      refine z_sub [0] rfl ?_
      exact zb_X10_goMove_77 Y t0 h3
def f_X10_goMove (v0 : Nat) (v1 : Int32) (v2 : Int32) (h : zH) : zR :=
  if v1 = 0 then
  zoc h v0 6 <|
  zcI (f_X10_canPut v0 v2 h) fun x5 h6 =>
  f_X10_goMove_42 v0 v1 v2 x5 h6
  else
  if v1 = 1 then
  zoc h v0 6 <|
  zcI (f_X10_canTake v0 v2 h) fun x3 h4 =>
  f_X10_goMove_42 v0 v1 v2 x3 h4
  else
  zgR h v0 6 1 fun a1 =>
  zaI h a1 0 (36 + v2) fun x2 =>
  if x2 ≤ 0 then
  f_X10_goMove_42 v0 v1 v2 0 h
  else
  f_X10_goMove_42 v0 v1 v2 1 h
set_option maxRecDepth 100000 in
set_option maxHeartbeats 4000000 in
theorem m_X10_goMove (l : Launch) (D : zD) (v0 : Nat) (v1 : Int32) (v2 : Int32) (h : zH) : zMet l D yX10_goMove M_X10_goMove [.ref v0, .int v1, .int v2] h (f_X10_goMove v0 v1 v2 h) := by
  refine zMet.of (by decide +kernel) ⟨rfl, rfl⟩ (Nat.le_of_ble_eq_true rfl) (fun Y hl hD => ?_)
  show Z Y M_X10_goMove 0 0 0 [(0, .ref v0), (1, .int v1), (2, .int v2)] [] h _
  rw [f_X10_goMove]
  refine z_iload_n 1 (zat dd_X10_goMove 0 rfl) rfl rfl ?_
  refine z_if_ne (tgt := 12) (zat dd_X10_goMove 1 rfl) (by decide) ?_ ?_
  · refine z_iload_n 1 (zat dd_X10_goMove 6 rfl) rfl rfl ?_
    refine z_iconst (x := 1) (zat dd_X10_goMove 7 rfl) (by decide) ?_
    refine z_icmp_ne (tgt := 25) (zat dd_X10_goMove 8 rfl) (by decide) ?_ ?_
    · refine z_aload_n 0 (zat dd_X10_goMove 13 rfl) rfl rfl ?_
      refine z_getR fl_X10_13 (zat dd_X10_goMove 14 rfl) (fun a1 => ?_)
      refine z_bipush (x := 36) (zat dd_X10_goMove 15 rfl) (by decide) ?_
      refine z_iload_n 2 (zat dd_X10_goMove 16 rfl) rfl rfl ?_
      refine z_iadd (zat dd_X10_goMove 17 rfl) ?_
      refine z_iald (zat dd_X10_goMove 18 rfl) (fun x2 => ?_)
      refine z_if_le (tgt := 41) (zat dd_X10_goMove 19 rfl) (by decide) ?_ ?_
      · refine z_iconst (x := 0) (zat dd_X10_goMove 22 rfl) (by decide) ?_
        exact zb_X10_goMove_42 Y v0 v1 v2 0 h
      · refine z_iconst (x := 1) (zat dd_X10_goMove 20 rfl) (by decide) ?_
        refine z_goto (tgt := 42) (zat dd_X10_goMove 21 rfl) (by decide) ?_
        exact zb_X10_goMove_42 Y v0 v1 v2 1 h
    · refine z_aload_n 0 (zat dd_X10_goMove 9 rfl) rfl rfl ?_
      refine z_iload_n 2 (zat dd_X10_goMove 10 rfl) rfl rfl ?_
      refine z_callV_I0 (M2 := M_X10_canTake) [.int v2] (fun l D _ _ => m_X10_canTake l D v0 v2 h) u_X10_canTake ql_X10_70 qi_X10_canTake qs_X10_canTake (ci := 6) rfl rfl rfl (Nat.le_of_ble_eq_true rfl) (by decide) rfl rfl (zat dd_X10_goMove 11 rfl) (fun x3 h4 => ?_)
      refine z_goto (tgt := 42) (zat dd_X10_goMove 12 rfl) (by decide) ?_
      exact zb_X10_goMove_42 Y v0 v1 v2 x3 h4
  · refine z_aload_n 0 (zat dd_X10_goMove 2 rfl) rfl rfl ?_
    refine z_iload_n 2 (zat dd_X10_goMove 3 rfl) rfl rfl ?_
    refine z_callV_I0 (M2 := M_X10_canPut) [.int v2] (fun l D _ _ => m_X10_canPut l D v0 v2 h) u_X10_canPut ql_X10_66 qi_X10_canPut qs_X10_canPut (ci := 6) rfl rfl rfl (Nat.le_of_ble_eq_true rfl) (by decide) rfl rfl (zat dd_X10_goMove 4 rfl) (fun x5 h6 => ?_)
    refine z_goto (tgt := 42) (zat dd_X10_goMove 5 rfl) (by decide) ?_
    exact zb_X10_goMove_42 Y v0 v1 v2 x5 h6
/-! PaperDollsModel.covered()I -/
def L_X10_covered : List (Nat × Instr × Nat) := [(0, .iconst 0, 1), (1, .istore_n 1, 1), (2, .iconst 0, 1), (3, .istore_n 2, 1), (4, .iload_n 2, 1), (5, .aload_n 0, 1), (6, .getfield 13, 3), (9, .iconst 3, 1), (10, .iaload, 1), (11, .if_icmp .ge 31, 3), (14, .iload_n 1, 1), (15, .aload_n 0, 1), (16, .getfield 13, 3), (19, .bipush 12, 2), (21, .aload_n 0, 1), (22, .getfield 13, 3), (25, .iconst 4, 1), (26, .iload_n 2, 1), (27, .iadd, 1), (28, .iaload, 1), (29, .iadd, 1), (30, .iaload, 1), (31, .invokestatic 63, 3), (34, .ior, 1), (35, .istore_n 1, 1), (36, .iinc 2 1, 3), (39, .goto (-35), 3), (42, .iload_n 1, 1), (43, .ireturn, 1)]
theorem dd_X10_covered : ∀ q ∈ L_X10_covered, decode cX10_covered q.1 = .ok q.2 := by decide +kernel
abbrev M_X10_covered : zM := (cX10_covered, RX10, "covered", 3, some .int, 1, 0, 0)
theorem u_X10_covered : zCal yX10_covered (M_X10_covered) 0 := ⟨(zmem 1099 (by decide +kernel) rfl : Cond.code yX10_covered cX10_covered 3 (some .int) ∈ zTb), zmem 63 (by decide +kernel) rfl, by decide +kernel, Nat.le_of_ble_eq_true rfl⟩
theorem qi_X10_covered : Cond.instanceMethod yX10_covered ∈ zTb := zmem 1098 (by decide +kernel) rfl
theorem qs_X10_covered : Cond.selects yX10_covered.cls yX10_covered yX10_covered ∈ zTb := zmem 48 (by decide +kernel) rfl
def f_X10_covered_4 : Nat → Nat → Int32 → Int32 → zH → zR
  | 0, _, _, _, _ => none
  | n + 1, v0, v1, v2, h =>
  zgR h v0 6 1 fun a1 =>
  zaI h a1 0 3 fun x2 =>
  if x2 ≤ v2 then
  zrI v1 h
  else
  zgR h v0 6 1 fun a3 =>
  zgR h v0 6 1 fun a4 =>
  zaI h a4 0 (4 + v2) fun x5 =>
  zaI h a3 0 (12 + x5) fun x6 =>
  zcI (f_X10_covers x6 h) fun x7 h8 =>
  zlt (v1 ||| x7) fun x9 =>
  f_X10_covered_4 n v0 x9 (v2 + 1) h8
set_option maxRecDepth 100000 in
set_option maxHeartbeats 4000000 in
theorem zb_X10_covered_4 (Y : zY) : ∀ (n : Nat) (v0 : Nat) (v1 : Int32) (v2 : Int32) (h : zH), Z Y M_X10_covered 0 0 4 [(0, .ref v0), (1, .int v1), (2, .int v2)] [] h (f_X10_covered_4 n v0 v1 v2 h) := by
  intro n
  induction n with
  | zero =>
    intro v0 v1 v2 h
    rw [f_X10_covered_4]
    exact z_none
  | succ n ih =>
    intro v0 v1 v2 h
    rw [f_X10_covered_4]
    refine z_iload_n 2 (zat dd_X10_covered 4 rfl) rfl rfl ?_
    refine z_aload_n 0 (zat dd_X10_covered 5 rfl) rfl rfl ?_
    refine z_getR fl_X10_13 (zat dd_X10_covered 6 rfl) (fun a1 => ?_)
    refine z_iconst (x := 3) (zat dd_X10_covered 7 rfl) (by decide) ?_
    refine z_iald (zat dd_X10_covered 8 rfl) (fun x2 => ?_)
    refine z_icmp_ge (tgt := 42) (zat dd_X10_covered 9 rfl) (by decide) ?_ ?_
    · refine z_iload_n 1 (zat dd_X10_covered 27 rfl) rfl rfl ?_
      exact z_iret rfl (zat dd_X10_covered 28 rfl)
    · refine z_iload_n 1 (zat dd_X10_covered 10 rfl) rfl rfl ?_
      refine z_aload_n 0 (zat dd_X10_covered 11 rfl) rfl rfl ?_
      refine z_getR fl_X10_13 (zat dd_X10_covered 12 rfl) (fun a3 => ?_)
      refine z_bipush (x := 12) (zat dd_X10_covered 13 rfl) (by decide) ?_
      refine z_aload_n 0 (zat dd_X10_covered 14 rfl) rfl rfl ?_
      refine z_getR fl_X10_13 (zat dd_X10_covered 15 rfl) (fun a4 => ?_)
      refine z_iconst (x := 4) (zat dd_X10_covered 16 rfl) (by decide) ?_
      refine z_iload_n 2 (zat dd_X10_covered 17 rfl) rfl rfl ?_
      refine z_iadd (zat dd_X10_covered 18 rfl) ?_
      refine z_iald (zat dd_X10_covered 19 rfl) (fun x5 => ?_)
      refine z_iadd (zat dd_X10_covered 20 rfl) ?_
      refine z_iald (zat dd_X10_covered 21 rfl) (fun x6 => ?_)
      refine z_callS_I0 (M2 := M_X10_covers) [.int x6] (fun l D _ _ => m_X10_covers l D x6 h) u_X10_covers ql_X10_63 qi_X10_covers rfl rfl (Nat.le_of_ble_eq_true rfl) (by decide) rfl rfl (zat dd_X10_covered 22 rfl) (fun x7 h8 => ?_)
      refine z_ior (zat dd_X10_covered 23 rfl) ?_
      refine z_let (fun x9 => ?_)
      refine z_istore_n (lv' := [(1, .int x9), (0, .ref v0), (2, .int v2)]) (zat dd_X10_covered 24 rfl) rfl (Nat.le_of_ble_eq_true rfl) rfl ?_
      refine z_iinc (y := v2 + 1) (lv' := [(2, .int (v2 + 1)), (1, .int x9), (0, .ref v0)]) 2 (zat dd_X10_covered 25 rfl) rfl rfl (Nat.le_of_ble_eq_true rfl) rfl ?_
      refine z_goto (tgt := 4) (zat dd_X10_covered 26 rfl) (by decide) ?_
      refine z_sub [2, 1, 0] rfl ?_
      exact ih v0 x9 (v2 + 1) h8
def f_X10_covered (v0 : Nat) (h : zH) : zR :=
  f_X10_covered_4 zF v0 0 0 h
set_option maxRecDepth 100000 in
set_option maxHeartbeats 4000000 in
theorem m_X10_covered (l : Launch) (D : zD) (v0 : Nat) (h : zH) : zMet l D yX10_covered M_X10_covered [.ref v0] h (f_X10_covered v0 h) := by
  refine zMet.of (by decide +kernel) ⟨rfl, rfl⟩ (Nat.le_of_ble_eq_true rfl) (fun Y hl hD => ?_)
  show Z Y M_X10_covered 0 0 0 [(0, .ref v0)] [] h _
  rw [f_X10_covered]
  refine z_iconst (x := 0) (zat dd_X10_covered 0 rfl) (by decide) ?_
  refine z_istore_n (lv' := [(1, .int 0), (0, .ref v0)]) (zat dd_X10_covered 1 rfl) rfl (Nat.le_of_ble_eq_true rfl) rfl ?_
  refine z_iconst (x := 0) (zat dd_X10_covered 2 rfl) (by decide) ?_
  refine z_istore_n (lv' := [(2, .int 0), (1, .int 0), (0, .ref v0)]) (zat dd_X10_covered 3 rfl) rfl (Nat.le_of_ble_eq_true rfl) rfl ?_
  refine z_sub [2, 1, 0] rfl ?_
  exact zb_X10_covered_4 Y zF v0 0 0 h
/-! PaperDollsModel.begin(I)V -/
def L_X10_begin : List (Nat × Instr × Nat) := [(0, .iconst 0, 1), (1, .istore_n 2, 1), (2, .iload_n 2, 1), (3, .bipush 88, 2), (5, .if_icmp .ge 16, 3), (8, .aload_n 0, 1), (9, .getfield 13, 3), (12, .iload_n 2, 1), (13, .iconst 0, 1), (14, .iastore, 1), (15, .iinc 2 1, 3), (18, .goto (-16), 3), (21, .aload_n 0, 1), (22, .getfield 13, 3), (25, .iconst 1, 1), (26, .iload_n 1, 1), (27, .iastore, 1), (28, .return_, 1)]
theorem dd_X10_begin : ∀ q ∈ L_X10_begin, decode cX10_begin q.1 = .ok q.2 := by decide +kernel
abbrev M_X10_begin : zM := (cX10_begin, RX10, "begin", 3, none, 0, 0, 0)
theorem u_X10_begin : zCal yX10_begin (M_X10_begin) 1 := ⟨(zmem 879 (by decide +kernel) rfl : Cond.code yX10_begin cX10_begin 3 (none) ∈ zTb), zmem 63 (by decide +kernel) rfl, by decide +kernel, Nat.le_of_ble_eq_true rfl⟩
theorem qi_X10_begin : Cond.instanceMethod yX10_begin ∈ zTb := zmem 878 (by decide +kernel) rfl
theorem qs_X10_begin : Cond.selects yX10_begin.cls yX10_begin yX10_begin ∈ zTb := zmem 20 (by decide +kernel) rfl
def f_X10_begin_2 : Nat → Nat → Int32 → Int32 → zH → zR
  | 0, _, _, _, _ => none
  | n + 1, v0, v1, v2, h =>
  if 88 ≤ v2 then
  zgR h v0 6 1 fun a1 =>
  zsI h a1 0 1 v1 fun h2 =>
  zrV h2
  else
  zgR h v0 6 1 fun a3 =>
  zsI h a3 0 v2 0 fun h4 =>
  f_X10_begin_2 n v0 v1 (v2 + 1) h4
set_option maxRecDepth 100000 in
set_option maxHeartbeats 4000000 in
theorem zb_X10_begin_2 (Y : zY) : ∀ (n : Nat) (v0 : Nat) (v1 : Int32) (v2 : Int32) (h : zH), Z Y M_X10_begin 0 0 2 [(0, .ref v0), (1, .int v1), (2, .int v2)] [] h (f_X10_begin_2 n v0 v1 v2 h) := by
  intro n
  induction n with
  | zero =>
    intro v0 v1 v2 h
    rw [f_X10_begin_2]
    exact z_none
  | succ n ih =>
    intro v0 v1 v2 h
    rw [f_X10_begin_2]
    refine z_iload_n 2 (zat dd_X10_begin 2 rfl) rfl rfl ?_
    refine z_bipush (x := 88) (zat dd_X10_begin 3 rfl) (by decide) ?_
    refine z_icmp_ge (tgt := 21) (zat dd_X10_begin 4 rfl) (by decide) ?_ ?_
    · refine z_aload_n 0 (zat dd_X10_begin 12 rfl) rfl rfl ?_
      refine z_getR fl_X10_13 (zat dd_X10_begin 13 rfl) (fun a1 => ?_)
      refine z_iconst (x := 1) (zat dd_X10_begin 14 rfl) (by decide) ?_
      refine z_iload_n 1 (zat dd_X10_begin 15 rfl) rfl rfl ?_
      refine z_iast (zat dd_X10_begin 16 rfl) (fun h2 => ?_)
      exact z_vret rfl (zat dd_X10_begin 17 rfl)
    · refine z_aload_n 0 (zat dd_X10_begin 5 rfl) rfl rfl ?_
      refine z_getR fl_X10_13 (zat dd_X10_begin 6 rfl) (fun a3 => ?_)
      refine z_iload_n 2 (zat dd_X10_begin 7 rfl) rfl rfl ?_
      refine z_iconst (x := 0) (zat dd_X10_begin 8 rfl) (by decide) ?_
      refine z_iast (zat dd_X10_begin 9 rfl) (fun h4 => ?_)
      refine z_iinc (y := v2 + 1) (lv' := [(2, .int (v2 + 1)), (0, .ref v0), (1, .int v1)]) 2 (zat dd_X10_begin 10 rfl) rfl rfl (Nat.le_of_ble_eq_true rfl) rfl ?_
      refine z_goto (tgt := 2) (zat dd_X10_begin 11 rfl) (by decide) ?_
      refine z_sub [1, 2, 0] rfl ?_
      exact ih v0 v1 (v2 + 1) h4
def f_X10_begin (v0 : Nat) (v1 : Int32) (h : zH) : zR :=
  f_X10_begin_2 zF v0 v1 0 h
set_option maxRecDepth 100000 in
set_option maxHeartbeats 4000000 in
theorem m_X10_begin (l : Launch) (D : zD) (v0 : Nat) (v1 : Int32) (h : zH) : zMet l D yX10_begin M_X10_begin [.ref v0, .int v1] h (f_X10_begin v0 v1 h) := by
  refine zMet.of (by decide +kernel) ⟨rfl, rfl⟩ (Nat.le_of_ble_eq_true rfl) (fun Y hl hD => ?_)
  show Z Y M_X10_begin 0 0 0 [(0, .ref v0), (1, .int v1)] [] h _
  rw [f_X10_begin]
  refine z_iconst (x := 0) (zat dd_X10_begin 0 rfl) (by decide) ?_
  refine z_istore_n (lv' := [(2, .int 0), (0, .ref v0), (1, .int v1)]) (zat dd_X10_begin 1 rfl) rfl (Nat.le_of_ble_eq_true rfl) rfl ?_
  refine z_sub [1, 2, 0] rfl ?_
  exact zb_X10_begin_2 Y zF v0 v1 0 h
/-! PaperDollsModel.doll(I)I -/
def L_X10_doll : List (Nat × Instr × Nat) := [(0, .iload_n 1, 1), (1, .i2l, 1), (2, .lconst 0, 1), (3, .ldc2_w 83, 3), (6, .invokestatic 48, 3), (9, .ifCond .ne 8, 3), (12, .aload_n 0, 1), (13, .invokevirtual 85, 3), (16, .ireturn, 1), (17, .aload_n 0, 1), (18, .getfield 7, 3), (21, .iconst 0, 1), (22, .iaload, 1), (23, .istore_n 2, 1), (24, .aload_n 0, 1), (25, .iload_n 1, 1), (26, .invokevirtual 89, 3), (29, .aload_n 0, 1), (30, .invokevirtual 92, 3), (33, .aload_n 0, 1), (34, .iconst 0, 1), (35, .putfield 95, 3), (38, .iload_n 2, 1), (39, .ireturn, 1)]
theorem dd_X10_doll : ∀ q ∈ L_X10_doll, decode cX10_doll q.1 = .ok q.2 := by decide +kernel
abbrev M_X10_doll : zM := (cX10_doll, RX10, "doll", 3, some .int, 1, 0, 0)
theorem u_X10_doll : zCal yX10_doll (M_X10_doll) 1 := ⟨(zmem 867 (by decide +kernel) rfl : Cond.code yX10_doll cX10_doll 3 (some .int) ∈ zTb), zmem 63 (by decide +kernel) rfl, by decide +kernel, Nat.le_of_ble_eq_true rfl⟩
theorem qi_X10_doll : Cond.instanceMethod yX10_doll ∈ zTb := zmem 865 (by decide +kernel) rfl
theorem qs_X10_doll : Cond.selects yX10_doll.cls yX10_doll yX10_doll ∈ zTb := zmem 866 (by decide +kernel) rfl
def f_X10_doll (v0 : Nat) (v1 : Int32) (h : zH) : zR :=
  zcI (f_X10_in ((v1 : Int32).toInt64) 0 5 h) fun x1 h2 =>
  if x1 = 0 then
  zoc h2 v0 6 <|
  zcI (f_X10_bad v0 h2) fun x8 h9 =>
  zrI x8 h9
  else
  zgR h2 v0 6 0 fun a3 =>
  zaI h2 a3 0 0 fun x4 =>
  zoc h2 v0 6 <|
  zcV (f_X10_begin v0 v1 h2) fun h5 =>
  zoc h5 v0 6 <|
  zcV (f_X10_take v0 h5) fun h6 =>
  zpV h6 v0 6 3 (.int 0) fun h7 =>
  zrI x4 h7
set_option maxRecDepth 100000 in
set_option maxHeartbeats 4000000 in
theorem m_X10_doll (l : Launch) (D : zD) (v0 : Nat) (v1 : Int32) (h : zH) : zMet l D yX10_doll M_X10_doll [.ref v0, .int v1] h (f_X10_doll v0 v1 h) := by
  refine zMet.of (by decide +kernel) ⟨rfl, rfl⟩ (Nat.le_of_ble_eq_true rfl) (fun Y hl hD => ?_)
  show Z Y M_X10_doll 0 0 0 [(0, .ref v0), (1, .int v1)] [] h _
  rw [f_X10_doll]
  refine z_iload_n 1 (zat dd_X10_doll 0 rfl) rfl rfl ?_
  refine z_i2l (zat dd_X10_doll 1 rfl) ?_
  refine z_lconst (x := 0) (zat dd_X10_doll 2 rfl) (by decide) ?_
  refine z_ldc2 (x := 5) qk_X10_83 (zat dd_X10_doll 3 rfl) ?_
  refine z_callS_I0 (M2 := M_X10_in) [.long ((v1 : Int32).toInt64), .long 0, .long 5] (fun l D _ _ => m_X10_in l D ((v1 : Int32).toInt64) 0 5 h) u_X10_in ql_X10_48 qi_X10_in rfl rfl (Nat.le_of_ble_eq_true rfl) (by decide) rfl rfl (zat dd_X10_doll 4 rfl) (fun x1 h2 => ?_)
  refine z_if_ne (tgt := 17) (zat dd_X10_doll 5 rfl) (by decide) ?_ ?_
  · refine z_aload_n 0 (zat dd_X10_doll 9 rfl) rfl rfl ?_
    refine z_getR fl_X10_7 (zat dd_X10_doll 10 rfl) (fun a3 => ?_)
    refine z_iconst (x := 0) (zat dd_X10_doll 11 rfl) (by decide) ?_
    refine z_iald (zat dd_X10_doll 12 rfl) (fun x4 => ?_)
    refine z_istore_n (lv' := [(2, .int x4), (0, .ref v0), (1, .int v1)]) (zat dd_X10_doll 13 rfl) rfl (Nat.le_of_ble_eq_true rfl) rfl ?_
    refine z_aload_n 1 (zat dd_X10_doll 14 rfl) rfl rfl ?_
    refine z_iload_n 2 (zat dd_X10_doll 15 rfl) rfl rfl ?_
    refine z_callV_V0 (M2 := M_X10_begin) [.int v1] (fun l D _ _ => m_X10_begin l D v0 v1 h2) u_X10_begin ql_X10_89 qi_X10_begin qs_X10_begin (ci := 6) rfl rfl rfl (Nat.le_of_ble_eq_true rfl) (by decide) rfl rfl (zat dd_X10_doll 16 rfl) (fun h5 => ?_)
    refine z_aload_n 1 (zat dd_X10_doll 17 rfl) rfl rfl ?_
    refine z_callV_V0 (M2 := M_X10_take) [] (fun l D _ _ => m_X10_take l D v0 h5) u_X10_take ql_X10_92 qi_X10_take qs_X10_take (ci := 6) rfl rfl rfl (Nat.le_of_ble_eq_true rfl) (by decide) rfl rfl (zat dd_X10_doll 18 rfl) (fun h6 => ?_)
    refine z_aload_n 1 (zat dd_X10_doll 19 rfl) rfl rfl ?_
    refine z_iconst (x := 0) (zat dd_X10_doll 20 rfl) (by decide) ?_
    refine z_put fl_X10_95 rfl rfl (zat dd_X10_doll 21 rfl) (fun h7 => ?_)
    refine z_iload_n 0 (zat dd_X10_doll 22 rfl) rfl rfl ?_
    exact z_iret rfl (zat dd_X10_doll 23 rfl)
  · refine z_aload_n 0 (zat dd_X10_doll 6 rfl) rfl rfl ?_
    refine z_callV_I0 (M2 := M_X10_bad) [] (fun l D _ _ => m_X10_bad l D v0 h2) u_X10_bad ql_X10_85 qi_X10_bad qs_X10_bad (ci := 6) rfl rfl rfl (Nat.le_of_ble_eq_true rfl) (by decide) rfl rfl (zat dd_X10_doll 7 rfl) (fun x8 h9 => ?_)
    exact z_iret rfl (zat dd_X10_doll 8 rfl)
/-! PaperDollsModel.child(I)I -/
def L_X10_child : List (Nat × Instr × Nat) := [(0, .iload_n 1, 1), (1, .i2l, 1), (2, .lconst 0, 1), (3, .ldc2_w 83, 3), (6, .invokestatic 48, 3), (9, .ifCond .ne 8, 3), (12, .aload_n 0, 1), (13, .invokevirtual 85, 3), (16, .ireturn, 1), (17, .aload_n 0, 1), (18, .getfield 7, 3), (21, .iconst 1, 1), (22, .iaload, 1), (23, .istore_n 2, 1), (24, .aload_n 0, 1), (25, .getfield 7, 3), (28, .iconst 1, 1), (29, .iload_n 1, 1), (30, .iastore, 1), (31, .aload_n 0, 1), (32, .iconst 0, 1), (33, .putfield 95, 3), (36, .iload_n 2, 1), (37, .ireturn, 1)]
theorem dd_X10_child : ∀ q ∈ L_X10_child, decode cX10_child q.1 = .ok q.2 := by decide +kernel
abbrev M_X10_child : zM := (cX10_child, RX10, "child", 3, some .int, 1, 0, 0)
theorem u_X10_child : zCal yX10_child (M_X10_child) 1 := ⟨(zmem 887 (by decide +kernel) rfl : Cond.code yX10_child cX10_child 3 (some .int) ∈ zTb), zmem 63 (by decide +kernel) rfl, by decide +kernel, Nat.le_of_ble_eq_true rfl⟩
theorem qi_X10_child : Cond.instanceMethod yX10_child ∈ zTb := zmem 885 (by decide +kernel) rfl
theorem qs_X10_child : Cond.selects yX10_child.cls yX10_child yX10_child ∈ zTb := zmem 886 (by decide +kernel) rfl
def f_X10_child (v0 : Nat) (v1 : Int32) (h : zH) : zR :=
  zcI (f_X10_in ((v1 : Int32).toInt64) 0 5 h) fun x1 h2 =>
  if x1 = 0 then
  zoc h2 v0 6 <|
  zcI (f_X10_bad v0 h2) fun x8 h9 =>
  zrI x8 h9
  else
  zgR h2 v0 6 0 fun a3 =>
  zaI h2 a3 0 1 fun x4 =>
  zgR h2 v0 6 0 fun a5 =>
  zsI h2 a5 0 1 v1 fun h6 =>
  zpV h6 v0 6 3 (.int 0) fun h7 =>
  zrI x4 h7
set_option maxRecDepth 100000 in
set_option maxHeartbeats 4000000 in
theorem m_X10_child (l : Launch) (D : zD) (v0 : Nat) (v1 : Int32) (h : zH) : zMet l D yX10_child M_X10_child [.ref v0, .int v1] h (f_X10_child v0 v1 h) := by
  refine zMet.of (by decide +kernel) ⟨rfl, rfl⟩ (Nat.le_of_ble_eq_true rfl) (fun Y hl hD => ?_)
  show Z Y M_X10_child 0 0 0 [(0, .ref v0), (1, .int v1)] [] h _
  rw [f_X10_child]
  refine z_iload_n 1 (zat dd_X10_child 0 rfl) rfl rfl ?_
  refine z_i2l (zat dd_X10_child 1 rfl) ?_
  refine z_lconst (x := 0) (zat dd_X10_child 2 rfl) (by decide) ?_
  refine z_ldc2 (x := 5) qk_X10_83 (zat dd_X10_child 3 rfl) ?_
  refine z_callS_I0 (M2 := M_X10_in) [.long ((v1 : Int32).toInt64), .long 0, .long 5] (fun l D _ _ => m_X10_in l D ((v1 : Int32).toInt64) 0 5 h) u_X10_in ql_X10_48 qi_X10_in rfl rfl (Nat.le_of_ble_eq_true rfl) (by decide) rfl rfl (zat dd_X10_child 4 rfl) (fun x1 h2 => ?_)
  refine z_if_ne (tgt := 17) (zat dd_X10_child 5 rfl) (by decide) ?_ ?_
  · refine z_aload_n 0 (zat dd_X10_child 9 rfl) rfl rfl ?_
    refine z_getR fl_X10_7 (zat dd_X10_child 10 rfl) (fun a3 => ?_)
    refine z_iconst (x := 1) (zat dd_X10_child 11 rfl) (by decide) ?_
    refine z_iald (zat dd_X10_child 12 rfl) (fun x4 => ?_)
    refine z_istore_n (lv' := [(2, .int x4), (0, .ref v0), (1, .int v1)]) (zat dd_X10_child 13 rfl) rfl (Nat.le_of_ble_eq_true rfl) rfl ?_
    refine z_aload_n 1 (zat dd_X10_child 14 rfl) rfl rfl ?_
    refine z_getR fl_X10_7 (zat dd_X10_child 15 rfl) (fun a5 => ?_)
    refine z_iconst (x := 1) (zat dd_X10_child 16 rfl) (by decide) ?_
    refine z_iload_n 2 (zat dd_X10_child 17 rfl) rfl rfl ?_
    refine z_iast (zat dd_X10_child 18 rfl) (fun h6 => ?_)
    refine z_aload_n 1 (zat dd_X10_child 19 rfl) rfl rfl ?_
    refine z_iconst (x := 0) (zat dd_X10_child 20 rfl) (by decide) ?_
    refine z_put fl_X10_95 rfl rfl (zat dd_X10_child 21 rfl) (fun h7 => ?_)
    refine z_iload_n 0 (zat dd_X10_child 22 rfl) rfl rfl ?_
    exact z_iret rfl (zat dd_X10_child 23 rfl)
  · refine z_aload_n 0 (zat dd_X10_child 6 rfl) rfl rfl ?_
    refine z_callV_I0 (M2 := M_X10_bad) [] (fun l D _ _ => m_X10_bad l D v0 h2) u_X10_bad ql_X10_85 qi_X10_bad qs_X10_bad (ci := 6) rfl rfl rfl (Nat.le_of_ble_eq_true rfl) (by decide) rfl rfl (zat dd_X10_child 7 rfl) (fun x8 h9 => ?_)
    exact z_iret rfl (zat dd_X10_child 8 rfl)
/-! PaperDollsModel.addPiece(III)V -/
def L_X10_addPiece : List (Nat × Instr × Nat) := [(0, .aload_n 0, 1), (1, .getfield 13, 3), (4, .iconst 0, 1), (5, .iaload, 1), (6, .istore 4, 2), (8, .aload_n 0, 1), (9, .getfield 13, 3), (12, .bipush 12, 2), (14, .iload 4, 2), (16, .iadd, 1), (17, .iload_n 1, 1), (18, .iastore, 1), (19, .aload_n 0, 1), (20, .getfield 13, 3), (23, .bipush 20, 2), (25, .iload 4, 2), (27, .iadd, 1), (28, .iload_n 2, 1), (29, .iastore, 1), (30, .aload_n 0, 1), (31, .getfield 13, 3), (34, .bipush 28, 2), (36, .iload 4, 2), (38, .iadd, 1), (39, .iload_n 3, 1), (40, .iastore, 1), (41, .aload_n 0, 1), (42, .getfield 13, 3), (45, .bipush 36, 2), (47, .iload 4, 2), (49, .iadd, 1), (50, .iconst 0, 1), (51, .iastore, 1), (52, .aload_n 0, 1), (53, .getfield 13, 3), (56, .iconst 0, 1), (57, .dup2, 1), (58, .iaload, 1), (59, .iconst 1, 1), (60, .iadd, 1), (61, .iastore, 1), (62, .return_, 1)]
theorem dd_X10_addPiece : ∀ q ∈ L_X10_addPiece, decode cX10_addPiece q.1 = .ok q.2 := by decide +kernel
abbrev M_X10_addPiece : zM := (cX10_addPiece, RX10, "addPiece", 5, none, 0, 0, 0)
theorem u_X10_addPiece : zCal yX10_addPiece (M_X10_addPiece) 3 := ⟨(zmem 905 (by decide +kernel) rfl : Cond.code yX10_addPiece cX10_addPiece 5 (none) ∈ zTb), zmem 63 (by decide +kernel) rfl, by decide +kernel, Nat.le_of_ble_eq_true rfl⟩
theorem qi_X10_addPiece : Cond.instanceMethod yX10_addPiece ∈ zTb := zmem 904 (by decide +kernel) rfl
theorem qs_X10_addPiece : Cond.selects yX10_addPiece.cls yX10_addPiece yX10_addPiece ∈ zTb := zmem 24 (by decide +kernel) rfl
def f_X10_addPiece (v0 : Nat) (v1 : Int32) (v2 : Int32) (v3 : Int32) (h : zH) : zR :=
  zgR h v0 6 1 fun a1 =>
  zaI h a1 0 0 fun x2 =>
  zgR h v0 6 1 fun a3 =>
  zsI h a3 0 (12 + x2) v1 fun h4 =>
  zgR h4 v0 6 1 fun a5 =>
  zsI h4 a5 0 (20 + x2) v2 fun h6 =>
  zgR h6 v0 6 1 fun a7 =>
  zsI h6 a7 0 (28 + x2) v3 fun h8 =>
  zgR h8 v0 6 1 fun a9 =>
  zsI h8 a9 0 (36 + x2) 0 fun h10 =>
  zgR h10 v0 6 1 fun a11 =>
  zaI h10 a11 0 0 fun x12 =>
  zsI h10 a11 0 0 (x12 + 1) fun h13 =>
  zrV h13
set_option maxRecDepth 100000 in
set_option maxHeartbeats 4000000 in
theorem m_X10_addPiece (l : Launch) (D : zD) (v0 : Nat) (v1 : Int32) (v2 : Int32) (v3 : Int32) (h : zH) : zMet l D yX10_addPiece M_X10_addPiece [.ref v0, .int v1, .int v2, .int v3] h (f_X10_addPiece v0 v1 v2 v3 h) := by
  refine zMet.of (by decide +kernel) ⟨rfl, rfl⟩ (Nat.le_of_ble_eq_true rfl) (fun Y hl hD => ?_)
  show Z Y M_X10_addPiece 0 0 0 [(0, .ref v0), (1, .int v1), (2, .int v2), (3, .int v3)] [] h _
  rw [f_X10_addPiece]
  refine z_aload_n 0 (zat dd_X10_addPiece 0 rfl) rfl rfl ?_
  refine z_getR fl_X10_13 (zat dd_X10_addPiece 1 rfl) (fun a1 => ?_)
  refine z_iconst (x := 0) (zat dd_X10_addPiece 2 rfl) (by decide) ?_
  refine z_iald (zat dd_X10_addPiece 3 rfl) (fun x2 => ?_)
  refine z_istore (lv' := [(4, .int x2), (0, .ref v0), (1, .int v1), (2, .int v2), (3, .int v3)]) (zat dd_X10_addPiece 4 rfl) (Nat.le_of_ble_eq_true rfl) rfl ?_
  refine z_aload_n 1 (zat dd_X10_addPiece 5 rfl) rfl rfl ?_
  refine z_getR fl_X10_13 (zat dd_X10_addPiece 6 rfl) (fun a3 => ?_)
  refine z_bipush (x := 12) (zat dd_X10_addPiece 7 rfl) (by decide) ?_
  refine z_iload 0 (zat dd_X10_addPiece 8 rfl) rfl ?_
  refine z_iadd (zat dd_X10_addPiece 9 rfl) ?_
  refine z_iload_n 2 (zat dd_X10_addPiece 10 rfl) rfl rfl ?_
  refine z_iast (zat dd_X10_addPiece 11 rfl) (fun h4 => ?_)
  refine z_aload_n 1 (zat dd_X10_addPiece 12 rfl) rfl rfl ?_
  refine z_getR fl_X10_13 (zat dd_X10_addPiece 13 rfl) (fun a5 => ?_)
  refine z_bipush (x := 20) (zat dd_X10_addPiece 14 rfl) (by decide) ?_
  refine z_iload 0 (zat dd_X10_addPiece 15 rfl) rfl ?_
  refine z_iadd (zat dd_X10_addPiece 16 rfl) ?_
  refine z_iload_n 3 (zat dd_X10_addPiece 17 rfl) rfl rfl ?_
  refine z_iast (zat dd_X10_addPiece 18 rfl) (fun h6 => ?_)
  refine z_aload_n 1 (zat dd_X10_addPiece 19 rfl) rfl rfl ?_
  refine z_getR fl_X10_13 (zat dd_X10_addPiece 20 rfl) (fun a7 => ?_)
  refine z_bipush (x := 28) (zat dd_X10_addPiece 21 rfl) (by decide) ?_
  refine z_iload 0 (zat dd_X10_addPiece 22 rfl) rfl ?_
  refine z_iadd (zat dd_X10_addPiece 23 rfl) ?_
  refine z_iload_n 4 (zat dd_X10_addPiece 24 rfl) rfl rfl ?_
  refine z_iast (zat dd_X10_addPiece 25 rfl) (fun h8 => ?_)
  refine z_aload_n 1 (zat dd_X10_addPiece 26 rfl) rfl rfl ?_
  refine z_getR fl_X10_13 (zat dd_X10_addPiece 27 rfl) (fun a9 => ?_)
  refine z_bipush (x := 36) (zat dd_X10_addPiece 28 rfl) (by decide) ?_
  refine z_iload 0 (zat dd_X10_addPiece 29 rfl) rfl ?_
  refine z_iadd (zat dd_X10_addPiece 30 rfl) ?_
  refine z_iconst (x := 0) (zat dd_X10_addPiece 31 rfl) (by decide) ?_
  refine z_iast (zat dd_X10_addPiece 32 rfl) (fun h10 => ?_)
  refine z_aload_n 1 (zat dd_X10_addPiece 33 rfl) rfl rfl ?_
  refine z_getR fl_X10_13 (zat dd_X10_addPiece 34 rfl) (fun a11 => ?_)
  refine z_iconst (x := 0) (zat dd_X10_addPiece 35 rfl) (by decide) ?_
  refine z_dup2 (zat dd_X10_addPiece 36 rfl) rfl rfl ?_
  refine z_iald (zat dd_X10_addPiece 37 rfl) (fun x12 => ?_)
  refine z_iconst (x := 1) (zat dd_X10_addPiece 38 rfl) (by decide) ?_
  refine z_iadd (zat dd_X10_addPiece 39 rfl) ?_
  refine z_iast (zat dd_X10_addPiece 40 rfl) (fun h13 => ?_)
  exact z_vret rfl (zat dd_X10_addPiece 41 rfl)
/-! PaperDollsModel.piece(III)I -/
def L_X10_piece : List (Nat × Instr × Nat) := [(0, .iload_n 1, 1), (1, .i2l, 1), (2, .lconst 0, 1), (3, .ldc2_w 83, 3), (6, .invokestatic 48, 3), (9, .ifCond .eq 27, 3), (12, .iload_n 2, 1), (13, .i2l, 1), (14, .lconst 0, 1), (15, .ldc2_w 99, 3), (18, .invokestatic 48, 3), (21, .ifCond .eq 15, 3), (24, .iload_n 3, 1), (25, .i2l, 1), (26, .lconst 1, 1), (27, .ldc2_w 101, 3), (30, .invokestatic 48, 3), (33, .ifCond .ne 8, 3), (36, .aload_n 0, 1), (37, .invokevirtual 85, 3), (40, .ireturn, 1), (41, .aload_n 0, 1), (42, .getfield 7, 3), (45, .iconst 0, 1), (46, .iaload, 1), (47, .bipush 8, 2), (49, .if_icmp .ne 8, 3), (52, .aload_n 0, 1), (53, .invokevirtual 103, 3), (56, .ireturn, 1), (57, .aload_n 0, 1), (58, .invokevirtual 106, 3), (61, .aload_n 0, 1), (62, .iload_n 1, 1), (63, .iload_n 2, 1), (64, .iload_n 3, 1), (65, .invokevirtual 109, 3), (68, .aload_n 0, 1), (69, .invokevirtual 92, 3), (72, .aload_n 0, 1), (73, .iconst 0, 1), (74, .putfield 95, 3), (77, .aload_n 0, 1), (78, .getfield 7, 3), (81, .iconst 0, 1), (82, .iaload, 1), (83, .iconst 1, 1), (84, .isub, 1), (85, .ireturn, 1)]
theorem dd_X10_piece : ∀ q ∈ L_X10_piece, decode cX10_piece q.1 = .ok q.2 := by decide +kernel
abbrev M_X10_piece : zM := (cX10_piece, RX10, "piece", 4, some .int, 1, 0, 0)
theorem u_X10_piece : zCal yX10_piece (M_X10_piece) 3 := ⟨(zmem 891 (by decide +kernel) rfl : Cond.code yX10_piece cX10_piece 4 (some .int) ∈ zTb), zmem 63 (by decide +kernel) rfl, by decide +kernel, Nat.le_of_ble_eq_true rfl⟩
theorem qi_X10_piece : Cond.instanceMethod yX10_piece ∈ zTb := zmem 889 (by decide +kernel) rfl
theorem qs_X10_piece : Cond.selects yX10_piece.cls yX10_piece yX10_piece ∈ zTb := zmem 890 (by decide +kernel) rfl
def f_X10_piece_36 (v0 : Nat) (h : zH) : zR :=
  zoc h v0 6 <|
  zcI (f_X10_bad v0 h) fun x1 h2 =>
  zrI x1 h2
set_option maxRecDepth 100000 in
set_option maxHeartbeats 4000000 in
theorem zb_X10_piece_36 (Y : zY) (v0 : Nat) (h : zH) : Z Y M_X10_piece 0 0 36 [(0, .ref v0)] [] h (f_X10_piece_36 v0 h) := by
  rw [f_X10_piece_36]
  refine z_aload_n 0 (zat dd_X10_piece 18 rfl) rfl rfl ?_
  refine z_callV_I0 (M2 := M_X10_bad) [] (fun l D _ _ => m_X10_bad l D v0 h) u_X10_bad ql_X10_85 qi_X10_bad qs_X10_bad (ci := 6) rfl rfl rfl (Nat.le_of_ble_eq_true rfl) (by decide) rfl rfl (zat dd_X10_piece 19 rfl) (fun x1 h2 => ?_)
  exact z_iret rfl (zat dd_X10_piece 20 rfl)
def f_X10_piece (v0 : Nat) (v1 : Int32) (v2 : Int32) (v3 : Int32) (h : zH) : zR :=
  zcI (f_X10_in ((v1 : Int32).toInt64) 0 5 h) fun x1 h2 =>
  if x1 = 0 then
  f_X10_piece_36 v0 h2
  else
  zcI (f_X10_in ((v2 : Int32).toInt64) 0 3 h2) fun x3 h4 =>
  if x3 = 0 then
  f_X10_piece_36 v0 h4
  else
  zcI (f_X10_in ((v3 : Int32).toInt64) 1 9 h4) fun x5 h6 =>
  if x5 = 0 then
  f_X10_piece_36 v0 h6
  else
  zgR h6 v0 6 0 fun a7 =>
  zaI h6 a7 0 0 fun x8 =>
  if x8 = 8 then
  zoc h6 v0 6 <|
  zcI (f_X10_full v0 h6) fun x15 h16 =>
  zrI x15 h16
  else
  zoc h6 v0 6 <|
  zcV (f_X10_aside v0 h6) fun h9 =>
  zoc h9 v0 6 <|
  zcV (f_X10_addPiece v0 v1 v2 v3 h9) fun h10 =>
  zoc h10 v0 6 <|
  zcV (f_X10_take v0 h10) fun h11 =>
  zpV h11 v0 6 3 (.int 0) fun h12 =>
  zgR h12 v0 6 0 fun a13 =>
  zaI h12 a13 0 0 fun x14 =>
  zrI (x14 - 1) h12
set_option maxRecDepth 100000 in
set_option maxHeartbeats 4000000 in
theorem m_X10_piece (l : Launch) (D : zD) (v0 : Nat) (v1 : Int32) (v2 : Int32) (v3 : Int32) (h : zH) : zMet l D yX10_piece M_X10_piece [.ref v0, .int v1, .int v2, .int v3] h (f_X10_piece v0 v1 v2 v3 h) := by
  refine zMet.of (by decide +kernel) ⟨rfl, rfl⟩ (Nat.le_of_ble_eq_true rfl) (fun Y hl hD => ?_)
  show Z Y M_X10_piece 0 0 0 [(0, .ref v0), (1, .int v1), (2, .int v2), (3, .int v3)] [] h _
  rw [f_X10_piece]
  refine z_iload_n 1 (zat dd_X10_piece 0 rfl) rfl rfl ?_
  refine z_i2l (zat dd_X10_piece 1 rfl) ?_
  refine z_lconst (x := 0) (zat dd_X10_piece 2 rfl) (by decide) ?_
  refine z_ldc2 (x := 5) qk_X10_83 (zat dd_X10_piece 3 rfl) ?_
  refine z_callS_I0 (M2 := M_X10_in) [.long ((v1 : Int32).toInt64), .long 0, .long 5] (fun l D _ _ => m_X10_in l D ((v1 : Int32).toInt64) 0 5 h) u_X10_in ql_X10_48 qi_X10_in rfl rfl (Nat.le_of_ble_eq_true rfl) (by decide) rfl rfl (zat dd_X10_piece 4 rfl) (fun x1 h2 => ?_)
  refine z_if_eq (tgt := 36) (zat dd_X10_piece 5 rfl) (by decide) ?_ ?_
  · refine z_sub [0] rfl ?_
    exact zb_X10_piece_36 Y v0 h2
  · refine z_iload_n 2 (zat dd_X10_piece 6 rfl) rfl rfl ?_
    refine z_i2l (zat dd_X10_piece 7 rfl) ?_
    refine z_lconst (x := 0) (zat dd_X10_piece 8 rfl) (by decide) ?_
    refine z_ldc2 (x := 3) qk_X10_99 (zat dd_X10_piece 9 rfl) ?_
    refine z_callS_I0 (M2 := M_X10_in) [.long ((v2 : Int32).toInt64), .long 0, .long 3] (fun l D _ _ => m_X10_in l D ((v2 : Int32).toInt64) 0 3 h2) u_X10_in ql_X10_48 qi_X10_in rfl rfl (Nat.le_of_ble_eq_true rfl) (by decide) rfl rfl (zat dd_X10_piece 10 rfl) (fun x3 h4 => ?_)
    refine z_if_eq (tgt := 36) (zat dd_X10_piece 11 rfl) (by decide) ?_ ?_
    · refine z_sub [0] rfl ?_
      exact zb_X10_piece_36 Y v0 h4
    · refine z_iload_n 3 (zat dd_X10_piece 12 rfl) rfl rfl ?_
      refine z_i2l (zat dd_X10_piece 13 rfl) ?_
      refine z_lconst (x := 1) (zat dd_X10_piece 14 rfl) (by decide) ?_
      refine z_ldc2 (x := 9) qk_X10_101 (zat dd_X10_piece 15 rfl) ?_
      refine z_callS_I0 (M2 := M_X10_in) [.long ((v3 : Int32).toInt64), .long 1, .long 9] (fun l D _ _ => m_X10_in l D ((v3 : Int32).toInt64) 1 9 h4) u_X10_in ql_X10_48 qi_X10_in rfl rfl (Nat.le_of_ble_eq_true rfl) (by decide) rfl rfl (zat dd_X10_piece 16 rfl) (fun x5 h6 => ?_)
      refine z_if_ne (tgt := 41) (zat dd_X10_piece 17 rfl) (by decide) ?_ ?_
      · refine z_aload_n 0 (zat dd_X10_piece 21 rfl) rfl rfl ?_
        refine z_getR fl_X10_7 (zat dd_X10_piece 22 rfl) (fun a7 => ?_)
        refine z_iconst (x := 0) (zat dd_X10_piece 23 rfl) (by decide) ?_
        refine z_iald (zat dd_X10_piece 24 rfl) (fun x8 => ?_)
        refine z_bipush (x := 8) (zat dd_X10_piece 25 rfl) (by decide) ?_
        refine z_icmp_ne (tgt := 57) (zat dd_X10_piece 26 rfl) (by decide) ?_ ?_
        · refine z_aload_n 0 (zat dd_X10_piece 30 rfl) rfl rfl ?_
          refine z_callV_V0 (M2 := M_X10_aside) [] (fun l D _ _ => m_X10_aside l D v0 h6) u_X10_aside ql_X10_106 qi_X10_aside qs_X10_aside (ci := 6) rfl rfl rfl (Nat.le_of_ble_eq_true rfl) (by decide) rfl rfl (zat dd_X10_piece 31 rfl) (fun h9 => ?_)
          refine z_aload_n 0 (zat dd_X10_piece 32 rfl) rfl rfl ?_
          refine z_iload_n 1 (zat dd_X10_piece 33 rfl) rfl rfl ?_
          refine z_iload_n 2 (zat dd_X10_piece 34 rfl) rfl rfl ?_
          refine z_iload_n 3 (zat dd_X10_piece 35 rfl) rfl rfl ?_
          refine z_callV_V0 (M2 := M_X10_addPiece) [.int v1, .int v2, .int v3] (fun l D _ _ => m_X10_addPiece l D v0 v1 v2 v3 h9) u_X10_addPiece ql_X10_109 qi_X10_addPiece qs_X10_addPiece (ci := 6) rfl rfl rfl (Nat.le_of_ble_eq_true rfl) (by decide) rfl rfl (zat dd_X10_piece 36 rfl) (fun h10 => ?_)
          refine z_aload_n 0 (zat dd_X10_piece 37 rfl) rfl rfl ?_
          refine z_callV_V0 (M2 := M_X10_take) [] (fun l D _ _ => m_X10_take l D v0 h10) u_X10_take ql_X10_92 qi_X10_take qs_X10_take (ci := 6) rfl rfl rfl (Nat.le_of_ble_eq_true rfl) (by decide) rfl rfl (zat dd_X10_piece 38 rfl) (fun h11 => ?_)
          refine z_aload_n 0 (zat dd_X10_piece 39 rfl) rfl rfl ?_
          refine z_iconst (x := 0) (zat dd_X10_piece 40 rfl) (by decide) ?_
          refine z_put fl_X10_95 rfl rfl (zat dd_X10_piece 41 rfl) (fun h12 => ?_)
          refine z_aload_n 0 (zat dd_X10_piece 42 rfl) rfl rfl ?_
          refine z_getR fl_X10_7 (zat dd_X10_piece 43 rfl) (fun a13 => ?_)
          refine z_iconst (x := 0) (zat dd_X10_piece 44 rfl) (by decide) ?_
          refine z_iald (zat dd_X10_piece 45 rfl) (fun x14 => ?_)
          refine z_iconst (x := 1) (zat dd_X10_piece 46 rfl) (by decide) ?_
          refine z_isub (zat dd_X10_piece 47 rfl) ?_
          exact z_iret rfl (zat dd_X10_piece 48 rfl)
        · refine z_aload_n 0 (zat dd_X10_piece 27 rfl) rfl rfl ?_
          refine z_callV_I0 (M2 := M_X10_full) [] (fun l D _ _ => m_X10_full l D v0 h6) u_X10_full ql_X10_103 qi_X10_full qs_X10_full (ci := 6) rfl rfl rfl (Nat.le_of_ble_eq_true rfl) (by decide) rfl rfl (zat dd_X10_piece 28 rfl) (fun x15 h16 => ?_)
          exact z_iret rfl (zat dd_X10_piece 29 rfl)
      · refine z_sub [0] rfl ?_
        exact zb_X10_piece_36 Y v0 h6
/-! PaperDollsModel.type(I)I -/
def L_X10_type : List (Nat × Instr × Nat) := [(0, .iload_n 1, 1), (1, .i2l, 1), (2, .lconst 0, 1), (3, .ldc2_w 113, 3), (6, .invokestatic 48, 3), (9, .ifCond .ne 8, 3), (12, .aload_n 0, 1), (13, .invokevirtual 85, 3), (16, .ireturn, 1), (17, .aload_n 0, 1), (18, .getfield 115, 3), (21, .sipush 150, 3), (24, .if_icmp .ne 8, 3), (27, .aload_n 0, 1), (28, .invokevirtual 103, 3), (31, .ireturn, 1), (32, .aload_n 0, 1), (33, .getfield 28, 3), (36, .aload_n 0, 1), (37, .getfield 115, 3), (40, .iload_n 1, 1), (41, .iastore, 1), (42, .aload_n 0, 1), (43, .dup, 1), (44, .getfield 115, 3), (47, .iconst 1, 1), (48, .iadd, 1), (49, .putfield 115, 3), (52, .aload_n 0, 1), (53, .getfield 115, 3), (56, .ireturn, 1)]
theorem dd_X10_type : ∀ q ∈ L_X10_type, decode cX10_type q.1 = .ok q.2 := by decide +kernel
abbrev M_X10_type : zM := (cX10_type, RX10, "type", 2, some .int, 1, 0, 0)
theorem u_X10_type : zCal yX10_type (M_X10_type) 1 := ⟨(zmem 909 (by decide +kernel) rfl : Cond.code yX10_type cX10_type 2 (some .int) ∈ zTb), zmem 63 (by decide +kernel) rfl, by decide +kernel, Nat.le_of_ble_eq_true rfl⟩
theorem qi_X10_type : Cond.instanceMethod yX10_type ∈ zTb := zmem 907 (by decide +kernel) rfl
theorem qs_X10_type : Cond.selects yX10_type.cls yX10_type yX10_type ∈ zTb := zmem 908 (by decide +kernel) rfl
def f_X10_type (v0 : Nat) (v1 : Int32) (h : zH) : zR :=
  zcI (f_X10_in ((v1 : Int32).toInt64) 0 127 h) fun x1 h2 =>
  if x1 = 0 then
  zoc h2 v0 6 <|
  zcI (f_X10_bad v0 h2) fun x12 h13 =>
  zrI x12 h13
  else
  zgI h2 v0 6 8 fun x3 =>
  if x3 = 150 then
  zoc h2 v0 6 <|
  zcI (f_X10_full v0 h2) fun x10 h11 =>
  zrI x10 h11
  else
  zgR h2 v0 6 9 fun a4 =>
  zgI h2 v0 6 8 fun x5 =>
  zsI h2 a4 0 x5 v1 fun h6 =>
  zgI h6 v0 6 8 fun x7 =>
  zpV h6 v0 6 8 (.int (x7 + 1)) fun h8 =>
  zgI h8 v0 6 8 fun x9 =>
  zrI x9 h8
set_option maxRecDepth 100000 in
set_option maxHeartbeats 4000000 in
theorem m_X10_type (l : Launch) (D : zD) (v0 : Nat) (v1 : Int32) (h : zH) : zMet l D yX10_type M_X10_type [.ref v0, .int v1] h (f_X10_type v0 v1 h) := by
  refine zMet.of (by decide +kernel) ⟨rfl, rfl⟩ (Nat.le_of_ble_eq_true rfl) (fun Y hl hD => ?_)
  show Z Y M_X10_type 0 0 0 [(0, .ref v0), (1, .int v1)] [] h _
  rw [f_X10_type]
  refine z_iload_n 1 (zat dd_X10_type 0 rfl) rfl rfl ?_
  refine z_i2l (zat dd_X10_type 1 rfl) ?_
  refine z_lconst (x := 0) (zat dd_X10_type 2 rfl) (by decide) ?_
  refine z_ldc2 (x := 127) qk_X10_113 (zat dd_X10_type 3 rfl) ?_
  refine z_callS_I0 (M2 := M_X10_in) [.long ((v1 : Int32).toInt64), .long 0, .long 127] (fun l D _ _ => m_X10_in l D ((v1 : Int32).toInt64) 0 127 h) u_X10_in ql_X10_48 qi_X10_in rfl rfl (Nat.le_of_ble_eq_true rfl) (by decide) rfl rfl (zat dd_X10_type 4 rfl) (fun x1 h2 => ?_)
  refine z_if_ne (tgt := 17) (zat dd_X10_type 5 rfl) (by decide) ?_ ?_
  · refine z_aload_n 0 (zat dd_X10_type 9 rfl) rfl rfl ?_
    refine z_getI fl_X10_115 (zat dd_X10_type 10 rfl) (fun x3 => ?_)
    refine z_sipush (x := 150) (zat dd_X10_type 11 rfl) (by decide) ?_
    refine z_icmp_ne (tgt := 32) (zat dd_X10_type 12 rfl) (by decide) ?_ ?_
    · refine z_aload_n 0 (zat dd_X10_type 16 rfl) rfl rfl ?_
      refine z_getR fl_X10_28 (zat dd_X10_type 17 rfl) (fun a4 => ?_)
      refine z_aload_n 0 (zat dd_X10_type 18 rfl) rfl rfl ?_
      refine z_getI fl_X10_115 (zat dd_X10_type 19 rfl) (fun x5 => ?_)
      refine z_iload_n 1 (zat dd_X10_type 20 rfl) rfl rfl ?_
      refine z_iast (zat dd_X10_type 21 rfl) (fun h6 => ?_)
      refine z_aload_n 0 (zat dd_X10_type 22 rfl) rfl rfl ?_
      refine z_dup (zat dd_X10_type 23 rfl) rfl ?_
      refine z_getI fl_X10_115 (zat dd_X10_type 24 rfl) (fun x7 => ?_)
      refine z_iconst (x := 1) (zat dd_X10_type 25 rfl) (by decide) ?_
      refine z_iadd (zat dd_X10_type 26 rfl) ?_
      refine z_put fl_X10_115 rfl rfl (zat dd_X10_type 27 rfl) (fun h8 => ?_)
      refine z_aload_n 0 (zat dd_X10_type 28 rfl) rfl rfl ?_
      refine z_getI fl_X10_115 (zat dd_X10_type 29 rfl) (fun x9 => ?_)
      exact z_iret rfl (zat dd_X10_type 30 rfl)
    · refine z_aload_n 0 (zat dd_X10_type 13 rfl) rfl rfl ?_
      refine z_callV_I0 (M2 := M_X10_full) [] (fun l D _ _ => m_X10_full l D v0 h2) u_X10_full ql_X10_103 qi_X10_full qs_X10_full (ci := 6) rfl rfl rfl (Nat.le_of_ble_eq_true rfl) (by decide) rfl rfl (zat dd_X10_type 14 rfl) (fun x10 h11 => ?_)
      exact z_iret rfl (zat dd_X10_type 15 rfl)
  · refine z_aload_n 0 (zat dd_X10_type 6 rfl) rfl rfl ?_
    refine z_callV_I0 (M2 := M_X10_bad) [] (fun l D _ _ => m_X10_bad l D v0 h2) u_X10_bad ql_X10_85 qi_X10_bad qs_X10_bad (ci := 6) rfl rfl rfl (Nat.le_of_ble_eq_true rfl) (by decide) rfl rfl (zat dd_X10_type 7 rfl) (fun x12 h13 => ?_)
    exact z_iret rfl (zat dd_X10_type 8 rfl)
/-! PaperDollsModel.clear()I -/
def L_X10_clear : List (Nat × Instr × Nat) := [(0, .aload_n 0, 1), (1, .getfield 115, 3), (4, .istore_n 1, 1), (5, .aload_n 0, 1), (6, .iconst 0, 1), (7, .putfield 115, 3), (10, .iload_n 1, 1), (11, .ireturn, 1)]
theorem dd_X10_clear : ∀ q ∈ L_X10_clear, decode cX10_clear q.1 = .ok q.2 := by decide +kernel
abbrev M_X10_clear : zM := (cX10_clear, RX10, "clear", 2, some .int, 0, 0, 0)
theorem u_X10_clear : zCal yX10_clear (M_X10_clear) 0 := ⟨(zmem 914 (by decide +kernel) rfl : Cond.code yX10_clear cX10_clear 2 (some .int) ∈ zTb), zmem 63 (by decide +kernel) rfl, by decide +kernel, Nat.le_of_ble_eq_true rfl⟩
theorem qi_X10_clear : Cond.instanceMethod yX10_clear ∈ zTb := zmem 912 (by decide +kernel) rfl
theorem qs_X10_clear : Cond.selects yX10_clear.cls yX10_clear yX10_clear ∈ zTb := zmem 913 (by decide +kernel) rfl
def f_X10_clear (v0 : Nat) (h : zH) : zR :=
  zgI h v0 6 8 fun x1 =>
  zpV h v0 6 8 (.int 0) fun h2 =>
  zrI x1 h2
set_option maxRecDepth 100000 in
set_option maxHeartbeats 4000000 in
theorem m_X10_clear (l : Launch) (D : zD) (v0 : Nat) (h : zH) : zMet l D yX10_clear M_X10_clear [.ref v0] h (f_X10_clear v0 h) := by
  refine zMet.of (by decide +kernel) ⟨rfl, rfl⟩ (Nat.le_of_ble_eq_true rfl) (fun Y hl hD => ?_)
  show Z Y M_X10_clear 0 0 0 [(0, .ref v0)] [] h _
  rw [f_X10_clear]
  refine z_aload_n 0 (zat dd_X10_clear 0 rfl) rfl rfl ?_
  refine z_getI fl_X10_115 (zat dd_X10_clear 1 rfl) (fun x1 => ?_)
  refine z_istore_n (lv' := [(1, .int x1), (0, .ref v0)]) (zat dd_X10_clear 2 rfl) rfl (Nat.le_of_ble_eq_true rfl) rfl ?_
  refine z_aload_n 1 (zat dd_X10_clear 3 rfl) rfl rfl ?_
  refine z_iconst (x := 0) (zat dd_X10_clear 4 rfl) (by decide) ?_
  refine z_put fl_X10_115 rfl rfl (zat dd_X10_clear 5 rfl) (fun h2 => ?_)
  refine z_iload_n 0 (zat dd_X10_clear 6 rfl) rfl rfl ?_
  exact z_iret rfl (zat dd_X10_clear 7 rfl)
/-! PaperDollsModel.isLetter(I)Z -/
def L_X10_isLetter : List (Nat × Instr × Nat) := [(0, .iload_n 0, 1), (1, .i2l, 1), (2, .ldc2_w 118, 3), (5, .ldc2_w 120, 3), (8, .invokestatic 48, 3), (11, .ireturn, 1)]
theorem dd_X10_isLetter : ∀ q ∈ L_X10_isLetter, decode cX10_isLetter q.1 = .ok q.2 := by decide +kernel
abbrev M_X10_isLetter : zM := (cX10_isLetter, RX10, "isLetter", 1, some .boolean, 1, 0, 0)
theorem u_X10_isLetter : zCal yX10_isLetter (M_X10_isLetter) 1 := ⟨(zmem 925 (by decide +kernel) rfl : Cond.code yX10_isLetter cX10_isLetter 1 (some .boolean) ∈ zTb), zmem 63 (by decide +kernel) rfl, by decide +kernel, Nat.le_of_ble_eq_true rfl⟩
theorem qi_X10_isLetter : Cond.static yX10_isLetter ∈ zTb := zmem 924 (by decide +kernel) rfl
def f_X10_isLetter (v0 : Int32) (h : zH) : zR :=
  zcI (f_X10_in ((v0 : Int32).toInt64) 97 122 h) fun x1 h2 =>
  zrZ x1 h2
set_option maxRecDepth 100000 in
set_option maxHeartbeats 4000000 in
theorem m_X10_isLetter (l : Launch) (D : zD) (v0 : Int32) (h : zH) : zMet l D yX10_isLetter M_X10_isLetter [.int v0] h (f_X10_isLetter v0 h) := by
  refine zMet.of (by decide +kernel) ⟨rfl, rfl⟩ (Nat.le_of_ble_eq_true rfl) (fun Y hl hD => ?_)
  show Z Y M_X10_isLetter 0 0 0 [(0, .int v0)] [] h _
  rw [f_X10_isLetter]
  refine z_iload_n 0 (zat dd_X10_isLetter 0 rfl) rfl rfl ?_
  refine z_i2l (zat dd_X10_isLetter 1 rfl) ?_
  refine z_ldc2 (x := 97) qk_X10_118 (zat dd_X10_isLetter 2 rfl) ?_
  refine z_ldc2 (x := 122) qk_X10_120 (zat dd_X10_isLetter 3 rfl) ?_
  refine z_callS_I0 (M2 := M_X10_in) [.long ((v0 : Int32).toInt64), .long 97, .long 122] (fun l D _ _ => m_X10_in l D ((v0 : Int32).toInt64) 97 122 h) u_X10_in ql_X10_48 qi_X10_in rfl rfl (Nat.le_of_ble_eq_true rfl) (by decide) rfl rfl (zat dd_X10_isLetter 4 rfl) (fun x1 h2 => ?_)
  exact z_zret rfl (zat dd_X10_isLetter 5 rfl)
/-! PaperDollsModel.isFigure(I)Z -/
def L_X10_isFigure : List (Nat × Instr × Nat) := [(0, .iload_n 0, 1), (1, .i2l, 1), (2, .ldc2_w 122, 3), (5, .ldc2_w 124, 3), (8, .invokestatic 48, 3), (11, .ireturn, 1)]
theorem dd_X10_isFigure : ∀ q ∈ L_X10_isFigure, decode cX10_isFigure q.1 = .ok q.2 := by decide +kernel
abbrev M_X10_isFigure : zM := (cX10_isFigure, RX10, "isFigure", 1, some .boolean, 1, 0, 0)
theorem u_X10_isFigure : zCal yX10_isFigure (M_X10_isFigure) 1 := ⟨(zmem 930 (by decide +kernel) rfl : Cond.code yX10_isFigure cX10_isFigure 1 (some .boolean) ∈ zTb), zmem 63 (by decide +kernel) rfl, by decide +kernel, Nat.le_of_ble_eq_true rfl⟩
theorem qi_X10_isFigure : Cond.static yX10_isFigure ∈ zTb := zmem 929 (by decide +kernel) rfl
def f_X10_isFigure (v0 : Int32) (h : zH) : zR :=
  zcI (f_X10_in ((v0 : Int32).toInt64) 48 57 h) fun x1 h2 =>
  zrZ x1 h2
set_option maxRecDepth 100000 in
set_option maxHeartbeats 4000000 in
theorem m_X10_isFigure (l : Launch) (D : zD) (v0 : Int32) (h : zH) : zMet l D yX10_isFigure M_X10_isFigure [.int v0] h (f_X10_isFigure v0 h) := by
  refine zMet.of (by decide +kernel) ⟨rfl, rfl⟩ (Nat.le_of_ble_eq_true rfl) (fun Y hl hD => ?_)
  show Z Y M_X10_isFigure 0 0 0 [(0, .int v0)] [] h _
  rw [f_X10_isFigure]
  refine z_iload_n 0 (zat dd_X10_isFigure 0 rfl) rfl rfl ?_
  refine z_i2l (zat dd_X10_isFigure 1 rfl) ?_
  refine z_ldc2 (x := 48) qk_X10_122 (zat dd_X10_isFigure 2 rfl) ?_
  refine z_ldc2 (x := 57) qk_X10_124 (zat dd_X10_isFigure 3 rfl) ?_
  refine z_callS_I0 (M2 := M_X10_in) [.long ((v0 : Int32).toInt64), .long 48, .long 57] (fun l D _ _ => m_X10_in l D ((v0 : Int32).toInt64) 48 57 h) u_X10_in ql_X10_48 qi_X10_in rfl rfl (Nat.le_of_ble_eq_true rfl) (by decide) rfl rfl (zat dd_X10_isFigure 4 rfl) (fun x1 h2 => ?_)
  exact z_zret rfl (zat dd_X10_isFigure 5 rfl)
/-! PaperDollsModel.next()V -/
def L_X10_next : List (Nat × Instr × Nat) := [(0, .aload_n 0, 1), (1, .getfield 126, 3), (4, .aload_n 0, 1), (5, .getfield 115, 3), (8, .if_icmp .ge 30, 3), (11, .aload_n 0, 1), (12, .getfield 28, 3), (15, .aload_n 0, 1), (16, .getfield 126, 3), (19, .iaload, 1), (20, .bipush 32, 2), (22, .if_icmp .ne 16, 3), (25, .aload_n 0, 1), (26, .dup, 1), (27, .getfield 126, 3), (30, .iconst 1, 1), (31, .iadd, 1), (32, .putfield 126, 3), (35, .goto (-35), 3), (38, .aload_n 0, 1), (39, .aload_n 0, 1), (40, .getfield 126, 3), (43, .putfield 129, 3), (46, .aload_n 0, 1), (47, .iconst 0, 1), (48, .putfield 132, 3), (51, .aload_n 0, 1), (52, .iconst 0, 1), (53, .putfield 135, 3), (56, .aload_n 0, 1), (57, .getfield 126, 3), (60, .aload_n 0, 1), (61, .getfield 115, 3), (64, .if_icmp .ne 4, 3), (67, .return_, 1), (68, .aload_n 0, 1), (69, .getfield 28, 3), (72, .aload_n 0, 1), (73, .getfield 126, 3), (76, .iaload, 1), (77, .istore_n 1, 1), (78, .iload_n 1, 1), (79, .invokestatic 138, 3), (82, .ifCond .eq 92, 3), (85, .aload_n 0, 1), (86, .getfield 126, 3), (89, .aload_n 0, 1), (90, .getfield 115, 3), (93, .if_icmp .ge 73, 3), (96, .aload_n 0, 1), (97, .getfield 28, 3), (100, .aload_n 0, 1), (101, .getfield 126, 3), (104, .iaload, 1), (105, .invokestatic 138, 3), (108, .ifCond .eq 58, 3), (111, .aload_n 0, 1), (112, .aload_n 0, 1), (113, .getfield 126, 3), (116, .aload_n 0, 1), (117, .getfield 129, 3), (120, .isub, 1), (121, .bipush 6, 2), (123, .if_icmp .ge 26, 3), (126, .bipush 32, 2), (128, .aload_n 0, 1), (129, .getfield 135, 3), (132, .imul, 1), (133, .aload_n 0, 1), (134, .getfield 28, 3), (137, .aload_n 0, 1), (138, .getfield 126, 3), (141, .iaload, 1), (142, .iadd, 1), (143, .bipush 96, 2), (145, .isub, 1), (146, .goto 4, 3), (149, .iconst (-1), 1), (150, .putfield 135, 3), (153, .aload_n 0, 1), (154, .dup, 1), (155, .getfield 126, 3), (158, .iconst 1, 1), (159, .iadd, 1), (160, .putfield 126, 3), (163, .goto (-78), 3), (166, .aload_n 0, 1), (167, .iconst 1, 1), (168, .putfield 132, 3), (171, .goto 143, 3), (174, .iload_n 1, 1), (175, .invokestatic 141, 3), (178, .ifCond .eq 111, 3), (181, .aload_n 0, 1), (182, .getfield 126, 3), (185, .aload_n 0, 1), (186, .getfield 115, 3), (189, .if_icmp .ge 75, 3), (192, .aload_n 0, 1), (193, .getfield 28, 3), (196, .aload_n 0, 1), (197, .getfield 126, 3), (200, .iaload, 1), (201, .invokestatic 141, 3), (204, .ifCond .eq 60, 3), (207, .aload_n 0, 1), (208, .aload_n 0, 1), (209, .getfield 126, 3), (212, .aload_n 0, 1), (213, .getfield 129, 3), (216, .isub, 1), (217, .iconst 2, 1), (218, .if_icmp .ge 26, 3), (221, .bipush 10, 2), (223, .aload_n 0, 1), (224, .getfield 135, 3), (227, .imul, 1), (228, .aload_n 0, 1), (229, .getfield 28, 3), (232, .aload_n 0, 1), (233, .getfield 126, 3), (236, .iaload, 1), (237, .iadd, 1), (238, .bipush 48, 2), (240, .isub, 1), (241, .goto 7, 3), (244, .aload_n 0, 1), (245, .getfield 135, 3), (248, .putfield 135, 3), (251, .aload_n 0, 1), (252, .dup, 1), (253, .getfield 126, 3), (256, .iconst 1, 1), (257, .iadd, 1), (258, .putfield 126, 3), (261, .goto (-80), 3), (264, .aload_n 0, 1), (265, .aload_n 0, 1), (266, .getfield 126, 3), (269, .aload_n 0, 1), (270, .getfield 129, 3), (273, .isub, 1), (274, .iconst 3, 1), (275, .if_icmp .ge 7, 3), (278, .iconst 2, 1), (279, .goto 4, 3), (282, .iconst (-1), 1), (283, .putfield 132, 3), (286, .goto 28, 3), (289, .aload_n 0, 1), (290, .dup, 1), (291, .getfield 126, 3), (294, .iconst 1, 1), (295, .iadd, 1), (296, .putfield 126, 3), (299, .aload_n 0, 1), (300, .iload_n 1, 1), (301, .bipush 59, 2), (303, .if_icmp .ne 7, 3), (306, .iconst 3, 1), (307, .goto 4, 3), (310, .iconst (-1), 1), (311, .putfield 132, 3), (314, .return_, 1)]
theorem dd_X10_next : ∀ q ∈ L_X10_next, decode cX10_next q.1 = .ok q.2 := by decide +kernel
abbrev M_X10_next : zM := (cX10_next, RX10, "next", 2, none, 2, 0, 0)
theorem u_X10_next : zCal yX10_next (M_X10_next) 0 := ⟨(zmem 922 (by decide +kernel) rfl : Cond.code yX10_next cX10_next 2 (none) ∈ zTb), zmem 63 (by decide +kernel) rfl, by decide +kernel, Nat.le_of_ble_eq_true rfl⟩
theorem qi_X10_next : Cond.instanceMethod yX10_next ∈ zTb := zmem 921 (by decide +kernel) rfl
theorem qs_X10_next : Cond.selects yX10_next.cls yX10_next yX10_next ∈ zTb := zmem 25 (by decide +kernel) rfl
def f_X10_next_314 (h : zH) : zR :=
  zrV h
set_option maxRecDepth 100000 in
set_option maxHeartbeats 4000000 in
theorem zb_X10_next_314 (Y : zY) (h : zH) : Z Y M_X10_next 0 0 314 [] [] h (f_X10_next_314  h) := by
  rw [f_X10_next_314]
  exact z_vret rfl (zat dd_X10_next 163 rfl)
def f_X10_next_311 (t0 : Int32) (t1 : Nat) (h : zH) : zR :=
  zpV h t1 6 15 (.int t0) fun h1 =>
  f_X10_next_314 h1
set_option maxRecDepth 100000 in
set_option maxHeartbeats 4000000 in
theorem zb_X10_next_311 (Y : zY) (t0 : Int32) (t1 : Nat) (h : zH) : Z Y M_X10_next 0 0 311 [] [.int t0, .ref t1] h (f_X10_next_311 t0 t1 h) := by
  rw [f_X10_next_311]
  refine z_put fl_X10_132 rfl rfl (zat dd_X10_next 162 rfl) (fun h1 => ?_)
  exact zb_X10_next_314 Y h1
def f_X10_next_283 (t0 : Int32) (t1 : Nat) (h : zH) : zR :=
  zpV h t1 6 15 (.int t0) fun h1 =>
  f_X10_next_314 h1
set_option maxRecDepth 100000 in
set_option maxHeartbeats 4000000 in
theorem zb_X10_next_283 (Y : zY) (t0 : Int32) (t1 : Nat) (h : zH) : Z Y M_X10_next 0 0 283 [] [.int t0, .ref t1] h (f_X10_next_283 t0 t1 h) := by
  rw [f_X10_next_283]
  refine z_put fl_X10_132 rfl rfl (zat dd_X10_next 147 rfl) (fun h1 => ?_)
  refine z_goto (tgt := 314) (zat dd_X10_next 148 rfl) (by decide) ?_
  exact zb_X10_next_314 Y h1
def f_X10_next_264 (v0 : Nat) (h : zH) : zR :=
  zgI h v0 6 13 fun x1 =>
  zgI h v0 6 14 fun x2 =>
  if 3 ≤ (x1 - x2) then
  f_X10_next_283 (-1) v0 h
  else
  f_X10_next_283 2 v0 h
set_option maxRecDepth 100000 in
set_option maxHeartbeats 4000000 in
theorem zb_X10_next_264 (Y : zY) (v0 : Nat) (h : zH) : Z Y M_X10_next 0 0 264 [(0, .ref v0)] [] h (f_X10_next_264 v0 h) := by
  rw [f_X10_next_264]
  refine z_aload_n 0 (zat dd_X10_next 136 rfl) rfl rfl ?_
  refine z_aload_n 0 (zat dd_X10_next 137 rfl) rfl rfl ?_
  refine z_getI fl_X10_126 (zat dd_X10_next 138 rfl) (fun x1 => ?_)
  refine z_aload_n 0 (zat dd_X10_next 139 rfl) rfl rfl ?_
  refine z_getI fl_X10_129 (zat dd_X10_next 140 rfl) (fun x2 => ?_)
  refine z_isub (zat dd_X10_next 141 rfl) ?_
  refine z_iconst (x := 3) (zat dd_X10_next 142 rfl) (by decide) ?_
  refine z_icmp_ge (tgt := 282) (zat dd_X10_next 143 rfl) (by decide) ?_ ?_
  · refine z_iconst (x := (-1)) (zat dd_X10_next 146 rfl) (by decide) ?_
    refine z_sub [] rfl ?_
    exact zb_X10_next_283 Y (-1) v0 h
  · refine z_iconst (x := 2) (zat dd_X10_next 144 rfl) (by decide) ?_
    refine z_goto (tgt := 283) (zat dd_X10_next 145 rfl) (by decide) ?_
    refine z_sub [] rfl ?_
    exact zb_X10_next_283 Y 2 v0 h
def f_X10_next_248 (k181 : Nat → zH → zR) (v0 : Nat) (t0 : Int32) (t1 : Nat) (h : zH) : zR :=
  zpV h t1 6 16 (.int t0) fun h1 =>
  zgI h1 v0 6 13 fun x2 =>
  zpV h1 v0 6 13 (.int (x2 + 1)) fun h3 =>
  k181 v0 h3
set_option maxRecDepth 100000 in
set_option maxHeartbeats 4000000 in
theorem zb_X10_next_248 (Y : zY) (k181 : Nat → zH → zR) (hk181 : ∀ (v0 : Nat) (h : zH), Z Y M_X10_next 0 0 181 [(0, .ref v0)] [] h (k181 v0 h)) (v0 : Nat) (t0 : Int32) (t1 : Nat) (h : zH) : Z Y M_X10_next 0 0 248 [(0, .ref v0)] [.int t0, .ref t1] h (f_X10_next_248 k181 v0 t0 t1 h) := by
  rw [f_X10_next_248]
  refine z_put fl_X10_135 rfl rfl (zat dd_X10_next 128 rfl) (fun h1 => ?_)
  refine z_aload_n 0 (zat dd_X10_next 129 rfl) rfl rfl ?_
  refine z_dup (zat dd_X10_next 130 rfl) rfl ?_
  refine z_getI fl_X10_126 (zat dd_X10_next 131 rfl) (fun x2 => ?_)
  refine z_iconst (x := 1) (zat dd_X10_next 132 rfl) (by decide) ?_
  refine z_iadd (zat dd_X10_next 133 rfl) ?_
  refine z_put fl_X10_126 rfl rfl (zat dd_X10_next 134 rfl) (fun h3 => ?_)
  refine z_goto (tgt := 181) (zat dd_X10_next 135 rfl) (by decide) ?_
  exact hk181 v0 h3
def f_X10_next_181 : Nat → Nat → zH → zR
  | 0, _, _ => none
  | n + 1, v0, h =>
  zgI h v0 6 13 fun x1 =>
  zgI h v0 6 8 fun x2 =>
  if x2 ≤ x1 then
  f_X10_next_264 v0 h
  else
  zgR h v0 6 9 fun a3 =>
  zgI h v0 6 13 fun x4 =>
  zaI h a3 0 x4 fun x5 =>
  zcI (f_X10_isFigure x5 h) fun x6 h7 =>
  if x6 = 0 then
  f_X10_next_264 v0 h7
  else
  zgI h7 v0 6 13 fun x8 =>
  zgI h7 v0 6 14 fun x9 =>
  if 2 ≤ (x8 - x9) then
  zgI h7 v0 6 16 fun x10 =>
  f_X10_next_248 (f_X10_next_181 n) v0 x10 v0 h7
  else
  zgI h7 v0 6 16 fun x11 =>
  zgR h7 v0 6 9 fun a12 =>
  zgI h7 v0 6 13 fun x13 =>
  zaI h7 a12 0 x13 fun x14 =>
  f_X10_next_248 (f_X10_next_181 n) v0 (((10 * x11) + x14) - 48) v0 h7
set_option maxRecDepth 100000 in
set_option maxHeartbeats 4000000 in
theorem zb_X10_next_181 (Y : zY) : ∀ (n : Nat) (v0 : Nat) (h : zH), Z Y M_X10_next 0 0 181 [(0, .ref v0)] [] h (f_X10_next_181 n v0 h) := by
  intro n
  induction n with
  | zero =>
    intro v0 h
    rw [f_X10_next_181]
    exact z_none
  | succ n ih =>
    intro v0 h
    rw [f_X10_next_181]
    refine z_aload_n 0 (zat dd_X10_next 93 rfl) rfl rfl ?_
    refine z_getI fl_X10_126 (zat dd_X10_next 94 rfl) (fun x1 => ?_)
    refine z_aload_n 0 (zat dd_X10_next 95 rfl) rfl rfl ?_
    refine z_getI fl_X10_115 (zat dd_X10_next 96 rfl) (fun x2 => ?_)
    refine z_icmp_ge (tgt := 264) (zat dd_X10_next 97 rfl) (by decide) ?_ ?_
    · exact zb_X10_next_264 Y v0 h
    · refine z_aload_n 0 (zat dd_X10_next 98 rfl) rfl rfl ?_
      refine z_getR fl_X10_28 (zat dd_X10_next 99 rfl) (fun a3 => ?_)
      refine z_aload_n 0 (zat dd_X10_next 100 rfl) rfl rfl ?_
      refine z_getI fl_X10_126 (zat dd_X10_next 101 rfl) (fun x4 => ?_)
      refine z_iald (zat dd_X10_next 102 rfl) (fun x5 => ?_)
      refine z_callS_I0 (M2 := M_X10_isFigure) [.int x5] (fun l D _ _ => m_X10_isFigure l D x5 h) u_X10_isFigure ql_X10_141 qi_X10_isFigure rfl rfl (Nat.le_of_ble_eq_true rfl) (by decide) rfl rfl (zat dd_X10_next 103 rfl) (fun x6 h7 => ?_)
      refine z_if_eq (tgt := 264) (zat dd_X10_next 104 rfl) (by decide) ?_ ?_
      · exact zb_X10_next_264 Y v0 h7
      · refine z_aload_n 0 (zat dd_X10_next 105 rfl) rfl rfl ?_
        refine z_aload_n 0 (zat dd_X10_next 106 rfl) rfl rfl ?_
        refine z_getI fl_X10_126 (zat dd_X10_next 107 rfl) (fun x8 => ?_)
        refine z_aload_n 0 (zat dd_X10_next 108 rfl) rfl rfl ?_
        refine z_getI fl_X10_129 (zat dd_X10_next 109 rfl) (fun x9 => ?_)
        refine z_isub (zat dd_X10_next 110 rfl) ?_
        refine z_iconst (x := 2) (zat dd_X10_next 111 rfl) (by decide) ?_
        refine z_icmp_ge (tgt := 244) (zat dd_X10_next 112 rfl) (by decide) ?_ ?_
        · refine z_aload_n 0 (zat dd_X10_next 126 rfl) rfl rfl ?_
          refine z_getI fl_X10_135 (zat dd_X10_next 127 rfl) (fun x10 => ?_)
          exact zb_X10_next_248 Y (f_X10_next_181 n) ih v0 x10 v0 h7
        · refine z_bipush (x := 10) (zat dd_X10_next 113 rfl) (by decide) ?_
          refine z_aload_n 0 (zat dd_X10_next 114 rfl) rfl rfl ?_
          refine z_getI fl_X10_135 (zat dd_X10_next 115 rfl) (fun x11 => ?_)
          refine z_imul (zat dd_X10_next 116 rfl) ?_
          refine z_aload_n 0 (zat dd_X10_next 117 rfl) rfl rfl ?_
          refine z_getR fl_X10_28 (zat dd_X10_next 118 rfl) (fun a12 => ?_)
          refine z_aload_n 0 (zat dd_X10_next 119 rfl) rfl rfl ?_
          refine z_getI fl_X10_126 (zat dd_X10_next 120 rfl) (fun x13 => ?_)
          refine z_iald (zat dd_X10_next 121 rfl) (fun x14 => ?_)
          refine z_iadd (zat dd_X10_next 122 rfl) ?_
          refine z_bipush (x := 48) (zat dd_X10_next 123 rfl) (by decide) ?_
          refine z_isub (zat dd_X10_next 124 rfl) ?_
          refine z_goto (tgt := 248) (zat dd_X10_next 125 rfl) (by decide) ?_
          exact zb_X10_next_248 Y (f_X10_next_181 n) ih v0 (((10 * x11) + x14) - 48) v0 h7
def f_X10_next_166 (v0 : Nat) (h : zH) : zR :=
  zpV h v0 6 15 (.int 1) fun h1 =>
  f_X10_next_314 h1
set_option maxRecDepth 100000 in
set_option maxHeartbeats 4000000 in
theorem zb_X10_next_166 (Y : zY) (v0 : Nat) (h : zH) : Z Y M_X10_next 0 0 166 [(0, .ref v0)] [] h (f_X10_next_166 v0 h) := by
  rw [f_X10_next_166]
  refine z_aload_n 0 (zat dd_X10_next 86 rfl) rfl rfl ?_
  refine z_iconst (x := 1) (zat dd_X10_next 87 rfl) (by decide) ?_
  refine z_put fl_X10_132 rfl rfl (zat dd_X10_next 88 rfl) (fun h1 => ?_)
  refine z_goto (tgt := 314) (zat dd_X10_next 89 rfl) (by decide) ?_
  refine z_sub [] rfl ?_
  exact zb_X10_next_314 Y h1
def f_X10_next_150 (k85 : Nat → zH → zR) (v0 : Nat) (t0 : Int32) (t1 : Nat) (h : zH) : zR :=
  zpV h t1 6 16 (.int t0) fun h1 =>
  zgI h1 v0 6 13 fun x2 =>
  zpV h1 v0 6 13 (.int (x2 + 1)) fun h3 =>
  k85 v0 h3
set_option maxRecDepth 100000 in
set_option maxHeartbeats 4000000 in
theorem zb_X10_next_150 (Y : zY) (k85 : Nat → zH → zR) (hk85 : ∀ (v0 : Nat) (h : zH), Z Y M_X10_next 0 0 85 [(0, .ref v0)] [] h (k85 v0 h)) (v0 : Nat) (t0 : Int32) (t1 : Nat) (h : zH) : Z Y M_X10_next 0 0 150 [(0, .ref v0)] [.int t0, .ref t1] h (f_X10_next_150 k85 v0 t0 t1 h) := by
  rw [f_X10_next_150]
  refine z_put fl_X10_135 rfl rfl (zat dd_X10_next 78 rfl) (fun h1 => ?_)
  refine z_aload_n 0 (zat dd_X10_next 79 rfl) rfl rfl ?_
  refine z_dup (zat dd_X10_next 80 rfl) rfl ?_
  refine z_getI fl_X10_126 (zat dd_X10_next 81 rfl) (fun x2 => ?_)
  refine z_iconst (x := 1) (zat dd_X10_next 82 rfl) (by decide) ?_
  refine z_iadd (zat dd_X10_next 83 rfl) ?_
  refine z_put fl_X10_126 rfl rfl (zat dd_X10_next 84 rfl) (fun h3 => ?_)
  refine z_goto (tgt := 85) (zat dd_X10_next 85 rfl) (by decide) ?_
  exact hk85 v0 h3
def f_X10_next_85 : Nat → Nat → zH → zR
  | 0, _, _ => none
  | n + 1, v0, h =>
  zgI h v0 6 13 fun x1 =>
  zgI h v0 6 8 fun x2 =>
  if x2 ≤ x1 then
  f_X10_next_166 v0 h
  else
  zgR h v0 6 9 fun a3 =>
  zgI h v0 6 13 fun x4 =>
  zaI h a3 0 x4 fun x5 =>
  zcI (f_X10_isLetter x5 h) fun x6 h7 =>
  if x6 = 0 then
  f_X10_next_166 v0 h7
  else
  zgI h7 v0 6 13 fun x8 =>
  zgI h7 v0 6 14 fun x9 =>
  if 6 ≤ (x8 - x9) then
  f_X10_next_150 (f_X10_next_85 n) v0 (-1) v0 h7
  else
  zgI h7 v0 6 16 fun x10 =>
  zgR h7 v0 6 9 fun a11 =>
  zgI h7 v0 6 13 fun x12 =>
  zaI h7 a11 0 x12 fun x13 =>
  f_X10_next_150 (f_X10_next_85 n) v0 (((32 * x10) + x13) - 96) v0 h7
set_option maxRecDepth 100000 in
set_option maxHeartbeats 4000000 in
theorem zb_X10_next_85 (Y : zY) : ∀ (n : Nat) (v0 : Nat) (h : zH), Z Y M_X10_next 0 0 85 [(0, .ref v0)] [] h (f_X10_next_85 n v0 h) := by
  intro n
  induction n with
  | zero =>
    intro v0 h
    rw [f_X10_next_85]
    exact z_none
  | succ n ih =>
    intro v0 h
    rw [f_X10_next_85]
    refine z_aload_n 0 (zat dd_X10_next 44 rfl) rfl rfl ?_
    refine z_getI fl_X10_126 (zat dd_X10_next 45 rfl) (fun x1 => ?_)
    refine z_aload_n 0 (zat dd_X10_next 46 rfl) rfl rfl ?_
    refine z_getI fl_X10_115 (zat dd_X10_next 47 rfl) (fun x2 => ?_)
    refine z_icmp_ge (tgt := 166) (zat dd_X10_next 48 rfl) (by decide) ?_ ?_
    · exact zb_X10_next_166 Y v0 h
    · refine z_aload_n 0 (zat dd_X10_next 49 rfl) rfl rfl ?_
      refine z_getR fl_X10_28 (zat dd_X10_next 50 rfl) (fun a3 => ?_)
      refine z_aload_n 0 (zat dd_X10_next 51 rfl) rfl rfl ?_
      refine z_getI fl_X10_126 (zat dd_X10_next 52 rfl) (fun x4 => ?_)
      refine z_iald (zat dd_X10_next 53 rfl) (fun x5 => ?_)
      refine z_callS_I0 (M2 := M_X10_isLetter) [.int x5] (fun l D _ _ => m_X10_isLetter l D x5 h) u_X10_isLetter ql_X10_138 qi_X10_isLetter rfl rfl (Nat.le_of_ble_eq_true rfl) (by decide) rfl rfl (zat dd_X10_next 54 rfl) (fun x6 h7 => ?_)
      refine z_if_eq (tgt := 166) (zat dd_X10_next 55 rfl) (by decide) ?_ ?_
      · exact zb_X10_next_166 Y v0 h7
      · refine z_aload_n 0 (zat dd_X10_next 56 rfl) rfl rfl ?_
        refine z_aload_n 0 (zat dd_X10_next 57 rfl) rfl rfl ?_
        refine z_getI fl_X10_126 (zat dd_X10_next 58 rfl) (fun x8 => ?_)
        refine z_aload_n 0 (zat dd_X10_next 59 rfl) rfl rfl ?_
        refine z_getI fl_X10_129 (zat dd_X10_next 60 rfl) (fun x9 => ?_)
        refine z_isub (zat dd_X10_next 61 rfl) ?_
        refine z_bipush (x := 6) (zat dd_X10_next 62 rfl) (by decide) ?_
        refine z_icmp_ge (tgt := 149) (zat dd_X10_next 63 rfl) (by decide) ?_ ?_
        · refine z_iconst (x := (-1)) (zat dd_X10_next 77 rfl) (by decide) ?_
          exact zb_X10_next_150 Y (f_X10_next_85 n) ih v0 (-1) v0 h7
        · refine z_bipush (x := 32) (zat dd_X10_next 64 rfl) (by decide) ?_
          refine z_aload_n 0 (zat dd_X10_next 65 rfl) rfl rfl ?_
          refine z_getI fl_X10_135 (zat dd_X10_next 66 rfl) (fun x10 => ?_)
          refine z_imul (zat dd_X10_next 67 rfl) ?_
          refine z_aload_n 0 (zat dd_X10_next 68 rfl) rfl rfl ?_
          refine z_getR fl_X10_28 (zat dd_X10_next 69 rfl) (fun a11 => ?_)
          refine z_aload_n 0 (zat dd_X10_next 70 rfl) rfl rfl ?_
          refine z_getI fl_X10_126 (zat dd_X10_next 71 rfl) (fun x12 => ?_)
          refine z_iald (zat dd_X10_next 72 rfl) (fun x13 => ?_)
          refine z_iadd (zat dd_X10_next 73 rfl) ?_
          refine z_bipush (x := 96) (zat dd_X10_next 74 rfl) (by decide) ?_
          refine z_isub (zat dd_X10_next 75 rfl) ?_
          refine z_goto (tgt := 150) (zat dd_X10_next 76 rfl) (by decide) ?_
          exact zb_X10_next_150 Y (f_X10_next_85 n) ih v0 (((32 * x10) + x13) - 96) v0 h7
def f_X10_next_38 (v0 : Nat) (h : zH) : zR :=
  zgI h v0 6 13 fun x1 =>
  zpV h v0 6 14 (.int x1) fun h2 =>
  zpV h2 v0 6 15 (.int 0) fun h3 =>
  zpV h3 v0 6 16 (.int 0) fun h4 =>
  zgI h4 v0 6 13 fun x5 =>
  zgI h4 v0 6 8 fun x6 =>
  if x5 = x6 then
  zrV h4
  else
  zgR h4 v0 6 9 fun a7 =>
  zgI h4 v0 6 13 fun x8 =>
  zaI h4 a7 0 x8 fun x9 =>
  zcI (f_X10_isLetter x9 h4) fun x10 h11 =>
  if x10 = 0 then
  zcI (f_X10_isFigure x9 h11) fun x12 h13 =>
  if x12 = 0 then
  zgI h13 v0 6 13 fun x14 =>
  zpV h13 v0 6 13 (.int (x14 + 1)) fun h15 =>
  if x9 = 59 then
  f_X10_next_311 3 v0 h15
  else
  f_X10_next_311 (-1) v0 h15
  else
  f_X10_next_181 zF v0 h13
  else
  f_X10_next_85 zF v0 h11
set_option maxRecDepth 100000 in
set_option maxHeartbeats 4000000 in
theorem zb_X10_next_38 (Y : zY) (v0 : Nat) (h : zH) : Z Y M_X10_next 0 0 38 [(0, .ref v0)] [] h (f_X10_next_38 v0 h) := by
  rw [f_X10_next_38]
  refine z_aload_n 0 (zat dd_X10_next 19 rfl) rfl rfl ?_
  refine z_aload_n 0 (zat dd_X10_next 20 rfl) rfl rfl ?_
  refine z_getI fl_X10_126 (zat dd_X10_next 21 rfl) (fun x1 => ?_)
  refine z_put fl_X10_129 rfl rfl (zat dd_X10_next 22 rfl) (fun h2 => ?_)
  refine z_aload_n 0 (zat dd_X10_next 23 rfl) rfl rfl ?_
  refine z_iconst (x := 0) (zat dd_X10_next 24 rfl) (by decide) ?_
  refine z_put fl_X10_132 rfl rfl (zat dd_X10_next 25 rfl) (fun h3 => ?_)
  refine z_aload_n 0 (zat dd_X10_next 26 rfl) rfl rfl ?_
  refine z_iconst (x := 0) (zat dd_X10_next 27 rfl) (by decide) ?_
  refine z_put fl_X10_135 rfl rfl (zat dd_X10_next 28 rfl) (fun h4 => ?_)
  refine z_aload_n 0 (zat dd_X10_next 29 rfl) rfl rfl ?_
  refine z_getI fl_X10_126 (zat dd_X10_next 30 rfl) (fun x5 => ?_)
  refine z_aload_n 0 (zat dd_X10_next 31 rfl) rfl rfl ?_
  refine z_getI fl_X10_115 (zat dd_X10_next 32 rfl) (fun x6 => ?_)
  refine z_icmp_ne (tgt := 68) (zat dd_X10_next 33 rfl) (by decide) ?_ ?_
  · refine z_aload_n 0 (zat dd_X10_next 35 rfl) rfl rfl ?_
    refine z_getR fl_X10_28 (zat dd_X10_next 36 rfl) (fun a7 => ?_)
    refine z_aload_n 0 (zat dd_X10_next 37 rfl) rfl rfl ?_
    refine z_getI fl_X10_126 (zat dd_X10_next 38 rfl) (fun x8 => ?_)
    refine z_iald (zat dd_X10_next 39 rfl) (fun x9 => ?_)
    refine z_istore_n (lv' := [(1, .int x9), (0, .ref v0)]) (zat dd_X10_next 40 rfl) rfl (Nat.le_of_ble_eq_true rfl) rfl ?_
    refine z_iload_n 0 (zat dd_X10_next 41 rfl) rfl rfl ?_
    refine z_callS_I0 (M2 := M_X10_isLetter) [.int x9] (fun l D _ _ => m_X10_isLetter l D x9 h4) u_X10_isLetter ql_X10_138 qi_X10_isLetter rfl rfl (Nat.le_of_ble_eq_true rfl) (by decide) rfl rfl (zat dd_X10_next 42 rfl) (fun x10 h11 => ?_)
    refine z_if_eq (tgt := 174) (zat dd_X10_next 43 rfl) (by decide) ?_ ?_
    · refine z_iload_n 0 (zat dd_X10_next 90 rfl) rfl rfl ?_
      refine z_callS_I0 (M2 := M_X10_isFigure) [.int x9] (fun l D _ _ => m_X10_isFigure l D x9 h11) u_X10_isFigure ql_X10_141 qi_X10_isFigure rfl rfl (Nat.le_of_ble_eq_true rfl) (by decide) rfl rfl (zat dd_X10_next 91 rfl) (fun x12 h13 => ?_)
      refine z_if_eq (tgt := 289) (zat dd_X10_next 92 rfl) (by decide) ?_ ?_
      · refine z_aload_n 1 (zat dd_X10_next 149 rfl) rfl rfl ?_
        refine z_dup (zat dd_X10_next 150 rfl) rfl ?_
        refine z_getI fl_X10_126 (zat dd_X10_next 151 rfl) (fun x14 => ?_)
        refine z_iconst (x := 1) (zat dd_X10_next 152 rfl) (by decide) ?_
        refine z_iadd (zat dd_X10_next 153 rfl) ?_
        refine z_put fl_X10_126 rfl rfl (zat dd_X10_next 154 rfl) (fun h15 => ?_)
        refine z_aload_n 1 (zat dd_X10_next 155 rfl) rfl rfl ?_
        refine z_iload_n 0 (zat dd_X10_next 156 rfl) rfl rfl ?_
        refine z_bipush (x := 59) (zat dd_X10_next 157 rfl) (by decide) ?_
        refine z_icmp_ne (tgt := 310) (zat dd_X10_next 158 rfl) (by decide) ?_ ?_
        · refine z_iconst (x := (-1)) (zat dd_X10_next 161 rfl) (by decide) ?_
          refine z_sub [] rfl ?_
          exact zb_X10_next_311 Y (-1) v0 h15
        · refine z_iconst (x := 3) (zat dd_X10_next 159 rfl) (by decide) ?_
          refine z_goto (tgt := 311) (zat dd_X10_next 160 rfl) (by decide) ?_
          refine z_sub [] rfl ?_
          exact zb_X10_next_311 Y 3 v0 h15
      · refine z_sub [1] rfl ?_
        exact zb_X10_next_181 Y zF v0 h13
    · refine z_sub [1] rfl ?_
      exact zb_X10_next_85 Y zF v0 h11
  · exact z_vret rfl (zat dd_X10_next 34 rfl)
def f_X10_next_0 : Nat → Nat → zH → zR
  | 0, _, _ => none
  | n + 1, v0, h =>
  zgI h v0 6 13 fun x1 =>
  zgI h v0 6 8 fun x2 =>
  if x2 ≤ x1 then
  f_X10_next_38 v0 h
  else
  zgR h v0 6 9 fun a3 =>
  zgI h v0 6 13 fun x4 =>
  zaI h a3 0 x4 fun x5 =>
  if x5 = 32 then
  zgI h v0 6 13 fun x6 =>
  zpV h v0 6 13 (.int (x6 + 1)) fun h7 =>
  f_X10_next_0 n v0 h7
  else
  f_X10_next_38 v0 h
set_option maxRecDepth 100000 in
set_option maxHeartbeats 4000000 in
theorem zb_X10_next_0 (Y : zY) : ∀ (n : Nat) (v0 : Nat) (h : zH), Z Y M_X10_next 0 0 0 [(0, .ref v0)] [] h (f_X10_next_0 n v0 h) := by
  intro n
  induction n with
  | zero =>
    intro v0 h
    rw [f_X10_next_0]
    exact z_none
  | succ n ih =>
    intro v0 h
    rw [f_X10_next_0]
    refine z_aload_n 0 (zat dd_X10_next 0 rfl) rfl rfl ?_
    refine z_getI fl_X10_126 (zat dd_X10_next 1 rfl) (fun x1 => ?_)
    refine z_aload_n 0 (zat dd_X10_next 2 rfl) rfl rfl ?_
    refine z_getI fl_X10_115 (zat dd_X10_next 3 rfl) (fun x2 => ?_)
    refine z_icmp_ge (tgt := 38) (zat dd_X10_next 4 rfl) (by decide) ?_ ?_
    · exact zb_X10_next_38 Y v0 h
    · refine z_aload_n 0 (zat dd_X10_next 5 rfl) rfl rfl ?_
      refine z_getR fl_X10_28 (zat dd_X10_next 6 rfl) (fun a3 => ?_)
      refine z_aload_n 0 (zat dd_X10_next 7 rfl) rfl rfl ?_
      refine z_getI fl_X10_126 (zat dd_X10_next 8 rfl) (fun x4 => ?_)
      refine z_iald (zat dd_X10_next 9 rfl) (fun x5 => ?_)
      refine z_bipush (x := 32) (zat dd_X10_next 10 rfl) (by decide) ?_
      refine z_icmp_ne (tgt := 38) (zat dd_X10_next 11 rfl) (by decide) ?_ ?_
      · exact zb_X10_next_38 Y v0 h
      · refine z_aload_n 0 (zat dd_X10_next 12 rfl) rfl rfl ?_
        refine z_dup (zat dd_X10_next 13 rfl) rfl ?_
        refine z_getI fl_X10_126 (zat dd_X10_next 14 rfl) (fun x6 => ?_)
        refine z_iconst (x := 1) (zat dd_X10_next 15 rfl) (by decide) ?_
        refine z_iadd (zat dd_X10_next 16 rfl) ?_
        refine z_put fl_X10_126 rfl rfl (zat dd_X10_next 17 rfl) (fun h7 => ?_)
        refine z_goto (tgt := 0) (zat dd_X10_next 18 rfl) (by decide) ?_
        exact ih v0 h7
def f_X10_next (v0 : Nat) (h : zH) : zR :=
  f_X10_next_0 zF v0 h
set_option maxRecDepth 100000 in
set_option maxHeartbeats 4000000 in
theorem m_X10_next (l : Launch) (D : zD) (v0 : Nat) (h : zH) : zMet l D yX10_next M_X10_next [.ref v0] h (f_X10_next v0 h) := by
  refine zMet.of (by decide +kernel) ⟨rfl, rfl⟩ (Nat.le_of_ble_eq_true rfl) (fun Y hl hD => ?_)
  show Z Y M_X10_next 0 0 0 [(0, .ref v0)] [] h _
  rw [f_X10_next]
  exact zb_X10_next_0 Y zF v0 h
/-! PaperDollsModel.isNumber(II)Z -/
def L_X10_isNumber : List (Nat × Instr × Nat) := [(0, .aload_n 0, 1), (1, .invokevirtual 144, 3), (4, .aload_n 0, 1), (5, .getfield 132, 3), (8, .iconst 2, 1), (9, .if_icmp .ne 22, 3), (12, .aload_n 0, 1), (13, .getfield 135, 3), (16, .i2l, 1), (17, .iload_n 1, 1), (18, .i2l, 1), (19, .iload_n 2, 1), (20, .i2l, 1), (21, .invokestatic 48, 3), (24, .ifCond .eq 7, 3), (27, .iconst 1, 1), (28, .goto 4, 3), (31, .iconst 0, 1), (32, .ireturn, 1)]
theorem dd_X10_isNumber : ∀ q ∈ L_X10_isNumber, decode cX10_isNumber q.1 = .ok q.2 := by decide +kernel
abbrev M_X10_isNumber : zM := (cX10_isNumber, RX10, "isNumber", 3, some .boolean, 3, 0, 0)
theorem u_X10_isNumber : zCal yX10_isNumber (M_X10_isNumber) 2 := ⟨(zmem 941 (by decide +kernel) rfl : Cond.code yX10_isNumber cX10_isNumber 3 (some .boolean) ∈ zTb), zmem 63 (by decide +kernel) rfl, by decide +kernel, Nat.le_of_ble_eq_true rfl⟩
theorem qi_X10_isNumber : Cond.instanceMethod yX10_isNumber ∈ zTb := zmem 940 (by decide +kernel) rfl
theorem qs_X10_isNumber : Cond.selects yX10_isNumber.cls yX10_isNumber yX10_isNumber ∈ zTb := zmem 27 (by decide +kernel) rfl
def f_X10_isNumber_32 (t0 : Int32) (h : zH) : zR :=
  zrZ t0 h
set_option maxRecDepth 100000 in
set_option maxHeartbeats 4000000 in
theorem zb_X10_isNumber_32 (Y : zY) (t0 : Int32) (h : zH) : Z Y M_X10_isNumber 0 0 32 [] [.int t0] h (f_X10_isNumber_32 t0 h) := by
  rw [f_X10_isNumber_32]
  exact z_zret rfl (zat dd_X10_isNumber 18 rfl)
def f_X10_isNumber_31 (h : zH) : zR :=
  f_X10_isNumber_32 0 h
set_option maxRecDepth 100000 in
set_option maxHeartbeats 4000000 in
theorem zb_X10_isNumber_31 (Y : zY) (h : zH) : Z Y M_X10_isNumber 0 0 31 [] [] h (f_X10_isNumber_31  h) := by
  rw [f_X10_isNumber_31]
  refine z_iconst (x := 0) (zat dd_X10_isNumber 17 rfl) (by decide) ?_
  exact zb_X10_isNumber_32 Y 0 h
def f_X10_isNumber (v0 : Nat) (v1 : Int32) (v2 : Int32) (h : zH) : zR :=
  zoc h v0 6 <|
  zcV (f_X10_next v0 h) fun h1 =>
  zgI h1 v0 6 15 fun x2 =>
  if x2 = 2 then
  zgI h1 v0 6 16 fun x3 =>
  zcI (f_X10_in ((x3 : Int32).toInt64) ((v1 : Int32).toInt64) ((v2 : Int32).toInt64) h1) fun x4 h5 =>
  if x4 = 0 then
  f_X10_isNumber_31 h5
  else
  f_X10_isNumber_32 1 h5
  else
  f_X10_isNumber_31 h1
set_option maxRecDepth 100000 in
set_option maxHeartbeats 4000000 in
theorem m_X10_isNumber (l : Launch) (D : zD) (v0 : Nat) (v1 : Int32) (v2 : Int32) (h : zH) : zMet l D yX10_isNumber M_X10_isNumber [.ref v0, .int v1, .int v2] h (f_X10_isNumber v0 v1 v2 h) := by
  refine zMet.of (by decide +kernel) ⟨rfl, rfl⟩ (Nat.le_of_ble_eq_true rfl) (fun Y hl hD => ?_)
  show Z Y M_X10_isNumber 0 0 0 [(0, .ref v0), (1, .int v1), (2, .int v2)] [] h _
  rw [f_X10_isNumber]
  refine z_aload_n 0 (zat dd_X10_isNumber 0 rfl) rfl rfl ?_
  refine z_callV_V0 (M2 := M_X10_next) [] (fun l D _ _ => m_X10_next l D v0 h) u_X10_next ql_X10_144 qi_X10_next qs_X10_next (ci := 6) rfl rfl rfl (Nat.le_of_ble_eq_true rfl) (by decide) rfl rfl (zat dd_X10_isNumber 1 rfl) (fun h1 => ?_)
  refine z_aload_n 0 (zat dd_X10_isNumber 2 rfl) rfl rfl ?_
  refine z_getI fl_X10_132 (zat dd_X10_isNumber 3 rfl) (fun x2 => ?_)
  refine z_iconst (x := 2) (zat dd_X10_isNumber 4 rfl) (by decide) ?_
  refine z_icmp_ne (tgt := 31) (zat dd_X10_isNumber 5 rfl) (by decide) ?_ ?_
  · refine z_sub [] rfl ?_
    exact zb_X10_isNumber_31 Y h1
  · refine z_aload_n 0 (zat dd_X10_isNumber 6 rfl) rfl rfl ?_
    refine z_getI fl_X10_135 (zat dd_X10_isNumber 7 rfl) (fun x3 => ?_)
    refine z_i2l (zat dd_X10_isNumber 8 rfl) ?_
    refine z_iload_n 1 (zat dd_X10_isNumber 9 rfl) rfl rfl ?_
    refine z_i2l (zat dd_X10_isNumber 10 rfl) ?_
    refine z_iload_n 2 (zat dd_X10_isNumber 11 rfl) rfl rfl ?_
    refine z_i2l (zat dd_X10_isNumber 12 rfl) ?_
    refine z_callS_I0 (M2 := M_X10_in) [.long ((x3 : Int32).toInt64), .long ((v1 : Int32).toInt64), .long ((v2 : Int32).toInt64)] (fun l D _ _ => m_X10_in l D ((x3 : Int32).toInt64) ((v1 : Int32).toInt64) ((v2 : Int32).toInt64) h1) u_X10_in ql_X10_48 qi_X10_in rfl rfl (Nat.le_of_ble_eq_true rfl) (by decide) rfl rfl (zat dd_X10_isNumber 13 rfl) (fun x4 h5 => ?_)
    refine z_if_eq (tgt := 31) (zat dd_X10_isNumber 14 rfl) (by decide) ?_ ?_
    · refine z_sub [] rfl ?_
      exact zb_X10_isNumber_31 Y h5
    · refine z_iconst (x := 1) (zat dd_X10_isNumber 15 rfl) (by decide) ?_
      refine z_goto (tgt := 32) (zat dd_X10_isNumber 16 rfl) (by decide) ?_
      refine z_sub [] rfl ?_
      exact zb_X10_isNumber_32 Y 1 h5
/-! PaperDollsModel.isEnd()Z -/
def L_X10_isEnd : List (Nat × Instr × Nat) := [(0, .aload_n 0, 1), (1, .invokevirtual 144, 3), (4, .aload_n 0, 1), (5, .getfield 132, 3), (8, .iconst 3, 1), (9, .if_icmp .ne 7, 3), (12, .iconst 1, 1), (13, .goto 4, 3), (16, .iconst 0, 1), (17, .ireturn, 1)]
theorem dd_X10_isEnd : ∀ q ∈ L_X10_isEnd, decode cX10_isEnd q.1 = .ok q.2 := by decide +kernel
abbrev M_X10_isEnd : zM := (cX10_isEnd, RX10, "isEnd", 1, some .boolean, 3, 0, 0)
theorem u_X10_isEnd : zCal yX10_isEnd (M_X10_isEnd) 0 := ⟨(zmem 945 (by decide +kernel) rfl : Cond.code yX10_isEnd cX10_isEnd 1 (some .boolean) ∈ zTb), zmem 63 (by decide +kernel) rfl, by decide +kernel, Nat.le_of_ble_eq_true rfl⟩
theorem qi_X10_isEnd : Cond.instanceMethod yX10_isEnd ∈ zTb := zmem 944 (by decide +kernel) rfl
theorem qs_X10_isEnd : Cond.selects yX10_isEnd.cls yX10_isEnd yX10_isEnd ∈ zTb := zmem 28 (by decide +kernel) rfl
def f_X10_isEnd_17 (t0 : Int32) (h : zH) : zR :=
  zrZ t0 h
set_option maxRecDepth 100000 in
set_option maxHeartbeats 4000000 in
theorem zb_X10_isEnd_17 (Y : zY) (t0 : Int32) (h : zH) : Z Y M_X10_isEnd 0 0 17 [] [.int t0] h (f_X10_isEnd_17 t0 h) := by
  rw [f_X10_isEnd_17]
  exact z_zret rfl (zat dd_X10_isEnd 9 rfl)
def f_X10_isEnd (v0 : Nat) (h : zH) : zR :=
  zoc h v0 6 <|
  zcV (f_X10_next v0 h) fun h1 =>
  zgI h1 v0 6 15 fun x2 =>
  if x2 = 3 then
  f_X10_isEnd_17 1 h1
  else
  f_X10_isEnd_17 0 h1
set_option maxRecDepth 100000 in
set_option maxHeartbeats 4000000 in
theorem m_X10_isEnd (l : Launch) (D : zD) (v0 : Nat) (h : zH) : zMet l D yX10_isEnd M_X10_isEnd [.ref v0] h (f_X10_isEnd v0 h) := by
  refine zMet.of (by decide +kernel) ⟨rfl, rfl⟩ (Nat.le_of_ble_eq_true rfl) (fun Y hl hD => ?_)
  show Z Y M_X10_isEnd 0 0 0 [(0, .ref v0)] [] h _
  rw [f_X10_isEnd]
  refine z_aload_n 0 (zat dd_X10_isEnd 0 rfl) rfl rfl ?_
  refine z_callV_V0 (M2 := M_X10_next) [] (fun l D _ _ => m_X10_next l D v0 h) u_X10_next ql_X10_144 qi_X10_next qs_X10_next (ci := 6) rfl rfl rfl (Nat.le_of_ble_eq_true rfl) (by decide) rfl rfl (zat dd_X10_isEnd 1 rfl) (fun h1 => ?_)
  refine z_aload_n 0 (zat dd_X10_isEnd 2 rfl) rfl rfl ?_
  refine z_getI fl_X10_132 (zat dd_X10_isEnd 3 rfl) (fun x2 => ?_)
  refine z_iconst (x := 3) (zat dd_X10_isEnd 4 rfl) (by decide) ?_
  refine z_icmp_ne (tgt := 16) (zat dd_X10_isEnd 5 rfl) (by decide) ?_ ?_
  · refine z_iconst (x := 0) (zat dd_X10_isEnd 8 rfl) (by decide) ?_
    refine z_sub [] rfl ?_
    exact zb_X10_isEnd_17 Y 0 h1
  · refine z_iconst (x := 1) (zat dd_X10_isEnd 6 rfl) (by decide) ?_
    refine z_goto (tgt := 17) (zat dd_X10_isEnd 7 rfl) (by decide) ?_
    refine z_sub [] rfl ?_
    exact zb_X10_isEnd_17 Y 1 h1
/-! PaperDollsModel.item(Z)Z -/
def L_X10_item : List (Nat × Instr × Nat) := [(0, .aload_n 0, 1), (1, .getfield 132, 3), (4, .iconst 1, 1), (5, .if_icmp .ne 10, 3), (8, .aload_n 0, 1), (9, .getfield 135, 3), (12, .goto 4, 3), (15, .iconst 0, 1), (16, .istore_n 2, 1), (17, .iload_n 1, 1), (18, .ifCond .eq 51, 3), (21, .iload_n 2, 1), (22, .ldc 147, 2), (24, .if_icmp .ne 16, 3), (27, .aload_n 0, 1), (28, .iconst 0, 1), (29, .iconst 5, 1), (30, .invokevirtual 148, 3), (33, .ifCond .eq 7, 3), (36, .iconst 1, 1), (37, .goto 4, 3), (40, .iconst 0, 1), (41, .istore_n 3, 1), (42, .aload_n 0, 1), (43, .getfield 13, 3), (46, .iconst 1, 1), (47, .aload_n 0, 1), (48, .getfield 135, 3), (51, .iastore, 1), (52, .iload_n 3, 1), (53, .ifCond .eq 14, 3), (56, .aload_n 0, 1), (57, .invokevirtual 152, 3), (60, .ifCond .eq 7, 3), (63, .iconst 1, 1), (64, .goto 4, 3), (67, .iconst 0, 1), (68, .ireturn, 1), (69, .iload_n 2, 1), (70, .ldc 156, 2), (72, .if_icmp .ne 75, 3), (75, .aload_n 0, 1), (76, .getfield 13, 3), (79, .iconst 0, 1), (80, .iaload, 1), (81, .bipush 8, 2), (83, .if_icmp .ge 64, 3), (86, .aload_n 0, 1), (87, .iconst 0, 1), (88, .iconst 5, 1), (89, .invokevirtual 148, 3), (92, .ifCond .ne 5, 3), (95, .iconst 0, 1), (96, .ireturn, 1), (97, .aload_n 0, 1), (98, .getfield 135, 3), (101, .istore_n 3, 1), (102, .aload_n 0, 1), (103, .iconst 0, 1), (104, .iconst 3, 1), (105, .invokevirtual 148, 3), (108, .ifCond .ne 5, 3), (111, .iconst 0, 1), (112, .ireturn, 1), (113, .aload_n 0, 1), (114, .getfield 135, 3), (117, .istore 4, 2), (119, .aload_n 0, 1), (120, .iconst 1, 1), (121, .bipush 9, 2), (123, .invokevirtual 148, 3), (126, .ifCond .ne 5, 3), (129, .iconst 0, 1), (130, .ireturn, 1), (131, .aload_n 0, 1), (132, .iload_n 3, 1), (133, .iload 4, 2), (135, .aload_n 0, 1), (136, .getfield 135, 3), (139, .invokevirtual 109, 3), (142, .aload_n 0, 1), (143, .invokevirtual 152, 3), (146, .ireturn, 1), (147, .iload_n 2, 1), (148, .sipush 494, 3), (151, .if_icmp .ne 7, 3), (154, .iconst 0, 1), (155, .goto 26, 3), (158, .iload_n 2, 1), (159, .sipush 15558, 3), (162, .if_icmp .ne 7, 3), (165, .iconst 1, 1), (166, .goto 15, 3), (169, .iload_n 2, 1), (170, .ldc 157, 2), (172, .if_icmp .ne 7, 3), (175, .iconst 2, 1), (176, .goto 5, 3), (179, .bipush (-101), 2), (181, .istore_n 3, 1), (182, .iload_n 3, 1), (183, .bipush (-101), 2), (185, .if_icmp .eq 42, 3), (188, .aload_n 0, 1), (189, .iconst 0, 1), (190, .aload_n 0, 1), (191, .getfield 13, 3), (194, .iconst 0, 1), (195, .iaload, 1), (196, .iconst 1, 1), (197, .isub, 1), (198, .invokevirtual 148, 3), (201, .ifCond .eq 26, 3), (204, .aload_n 0, 1), (205, .iload_n 3, 1), (206, .aload_n 0, 1), (207, .getfield 135, 3), (210, .invokevirtual 158, 3), (213, .ifCond .eq 14, 3), (216, .aload_n 0, 1), (217, .invokevirtual 152, 3), (220, .ifCond .eq 7, 3), (223, .iconst 1, 1), (224, .goto 4, 3), (227, .iconst 0, 1), (228, .ireturn, 1)]
theorem dd_X10_item : ∀ q ∈ L_X10_item, decode cX10_item q.1 = .ok q.2 := by decide +kernel
abbrev M_X10_item : zM := (cX10_item, RX10, "item", 5, some .boolean, 4, 0, 0)
theorem u_X10_item : zCal yX10_item (M_X10_item) 1 := ⟨(zmem 936 (by decide +kernel) rfl : Cond.code yX10_item cX10_item 5 (some .boolean) ∈ zTb), zmem 63 (by decide +kernel) rfl, by decide +kernel, Nat.le_of_ble_eq_true rfl⟩
theorem qi_X10_item : Cond.instanceMethod yX10_item ∈ zTb := zmem 935 (by decide +kernel) rfl
theorem qs_X10_item : Cond.selects yX10_item.cls yX10_item yX10_item ∈ zTb := zmem 26 (by decide +kernel) rfl
def f_X10_item_228 (t0 : Int32) (h : zH) : zR :=
  zrZ t0 h
set_option maxRecDepth 100000 in
set_option maxHeartbeats 4000000 in
theorem zb_X10_item_228 (Y : zY) (t0 : Int32) (h : zH) : Z Y M_X10_item 0 0 228 [] [.int t0] h (f_X10_item_228 t0 h) := by
  rw [f_X10_item_228]
  exact z_zret rfl (zat dd_X10_item 125 rfl)
def f_X10_item_227 (h : zH) : zR :=
  f_X10_item_228 0 h
set_option maxRecDepth 100000 in
set_option maxHeartbeats 4000000 in
theorem zb_X10_item_227 (Y : zY) (h : zH) : Z Y M_X10_item 0 0 227 [] [] h (f_X10_item_227  h) := by
  rw [f_X10_item_227]
  refine z_iconst (x := 0) (zat dd_X10_item 124 rfl) (by decide) ?_
  exact zb_X10_item_228 Y 0 h
def f_X10_item_181 (v0 : Nat) (t0 : Int32) (h : zH) : zR :=
  if t0 = (-101) then
  f_X10_item_227 h
  else
  zgR h v0 6 1 fun a1 =>
  zaI h a1 0 0 fun x2 =>
  zoc h v0 6 <|
  zcI (f_X10_isNumber v0 0 (x2 - 1) h) fun x3 h4 =>
  if x3 = 0 then
  f_X10_item_227 h4
  else
  zgI h4 v0 6 16 fun x5 =>
  zoc h4 v0 6 <|
  zcI (f_X10_goMove v0 t0 x5 h4) fun x6 h7 =>
  if x6 = 0 then
  f_X10_item_227 h7
  else
  zoc h7 v0 6 <|
  zcI (f_X10_isEnd v0 h7) fun x8 h9 =>
  if x8 = 0 then
  f_X10_item_227 h9
  else
  f_X10_item_228 1 h9
set_option maxRecDepth 100000 in
set_option maxHeartbeats 4000000 in
theorem zb_X10_item_181 (Y : zY) (v0 : Nat) (t0 : Int32) (h : zH) : Z Y M_X10_item 0 0 181 [(0, .ref v0)] [.int t0] h (f_X10_item_181 v0 t0 h) := by
  rw [f_X10_item_181]
  refine z_istore_n (lv' := [(3, .int t0), (0, .ref v0)]) (zat dd_X10_item 99 rfl) rfl (Nat.le_of_ble_eq_true rfl) rfl ?_
  refine z_iload_n 0 (zat dd_X10_item 100 rfl) rfl rfl ?_
  refine z_bipush (x := (-101)) (zat dd_X10_item 101 rfl) (by decide) ?_
  refine z_icmp_eq (tgt := 227) (zat dd_X10_item 102 rfl) (by decide) ?_ ?_
  · refine z_sub [] rfl ?_
    exact zb_X10_item_227 Y h
  · refine z_aload_n 1 (zat dd_X10_item 103 rfl) rfl rfl ?_
    refine z_iconst (x := 0) (zat dd_X10_item 104 rfl) (by decide) ?_
    refine z_aload_n 1 (zat dd_X10_item 105 rfl) rfl rfl ?_
    refine z_getR fl_X10_13 (zat dd_X10_item 106 rfl) (fun a1 => ?_)
    refine z_iconst (x := 0) (zat dd_X10_item 107 rfl) (by decide) ?_
    refine z_iald (zat dd_X10_item 108 rfl) (fun x2 => ?_)
    refine z_iconst (x := 1) (zat dd_X10_item 109 rfl) (by decide) ?_
    refine z_isub (zat dd_X10_item 110 rfl) ?_
    refine z_callV_I0 (M2 := M_X10_isNumber) [.int 0, .int (x2 - 1)] (fun l D _ _ => m_X10_isNumber l D v0 0 (x2 - 1) h) u_X10_isNumber ql_X10_148 qi_X10_isNumber qs_X10_isNumber (ci := 6) rfl rfl rfl (Nat.le_of_ble_eq_true rfl) (by decide) rfl rfl (zat dd_X10_item 111 rfl) (fun x3 h4 => ?_)
    refine z_if_eq (tgt := 227) (zat dd_X10_item 112 rfl) (by decide) ?_ ?_
    · refine z_sub [] rfl ?_
      exact zb_X10_item_227 Y h4
    · refine z_aload_n 1 (zat dd_X10_item 113 rfl) rfl rfl ?_
      refine z_iload_n 0 (zat dd_X10_item 114 rfl) rfl rfl ?_
      refine z_aload_n 1 (zat dd_X10_item 115 rfl) rfl rfl ?_
      refine z_getI fl_X10_135 (zat dd_X10_item 116 rfl) (fun x5 => ?_)
      refine z_callV_I0 (M2 := M_X10_goMove) [.int t0, .int x5] (fun l D _ _ => m_X10_goMove l D v0 t0 x5 h4) u_X10_goMove ql_X10_158 qi_X10_goMove qs_X10_goMove (ci := 6) rfl rfl rfl (Nat.le_of_ble_eq_true rfl) (by decide) rfl rfl (zat dd_X10_item 117 rfl) (fun x6 h7 => ?_)
      refine z_if_eq (tgt := 227) (zat dd_X10_item 118 rfl) (by decide) ?_ ?_
      · refine z_sub [] rfl ?_
        exact zb_X10_item_227 Y h7
      · refine z_aload_n 1 (zat dd_X10_item 119 rfl) rfl rfl ?_
        refine z_callV_I0 (M2 := M_X10_isEnd) [] (fun l D _ _ => m_X10_isEnd l D v0 h7) u_X10_isEnd ql_X10_152 qi_X10_isEnd qs_X10_isEnd (ci := 6) rfl rfl rfl (Nat.le_of_ble_eq_true rfl) (by decide) rfl rfl (zat dd_X10_item 120 rfl) (fun x8 h9 => ?_)
        refine z_if_eq (tgt := 227) (zat dd_X10_item 121 rfl) (by decide) ?_ ?_
        · refine z_sub [] rfl ?_
          exact zb_X10_item_227 Y h9
        · refine z_iconst (x := 1) (zat dd_X10_item 122 rfl) (by decide) ?_
          refine z_goto (tgt := 228) (zat dd_X10_item 123 rfl) (by decide) ?_
          refine z_sub [] rfl ?_
          exact zb_X10_item_228 Y 1 h9
def f_X10_item_147 (v0 : Nat) (v2 : Int32) (h : zH) : zR :=
  if v2 = 494 then
  f_X10_item_181 v0 0 h
  else
  if v2 = 15558 then
  f_X10_item_181 v0 1 h
  else
  if v2 = 431556 then
  f_X10_item_181 v0 2 h
  else
  f_X10_item_181 v0 (-101) h
set_option maxRecDepth 100000 in
set_option maxHeartbeats 4000000 in
theorem zb_X10_item_147 (Y : zY) (v0 : Nat) (v2 : Int32) (h : zH) : Z Y M_X10_item 0 0 147 [(0, .ref v0), (2, .int v2)] [] h (f_X10_item_147 v0 v2 h) := by
  rw [f_X10_item_147]
  refine z_iload_n 1 (zat dd_X10_item 83 rfl) rfl rfl ?_
  refine z_sipush (x := 494) (zat dd_X10_item 84 rfl) (by decide) ?_
  refine z_icmp_ne (tgt := 158) (zat dd_X10_item 85 rfl) (by decide) ?_ ?_
  · refine z_iload_n 1 (zat dd_X10_item 88 rfl) rfl rfl ?_
    refine z_sipush (x := 15558) (zat dd_X10_item 89 rfl) (by decide) ?_
    refine z_icmp_ne (tgt := 169) (zat dd_X10_item 90 rfl) (by decide) ?_ ?_
    · refine z_iload_n 1 (zat dd_X10_item 93 rfl) rfl rfl ?_
      refine z_ldc (x := 431556) qk_X10_157 (zat dd_X10_item 94 rfl) ?_
      refine z_icmp_ne (tgt := 179) (zat dd_X10_item 95 rfl) (by decide) ?_ ?_
      · refine z_bipush (x := (-101)) (zat dd_X10_item 98 rfl) (by decide) ?_
        refine z_sub [0] rfl ?_
        exact zb_X10_item_181 Y v0 (-101) h
      · refine z_iconst (x := 2) (zat dd_X10_item 96 rfl) (by decide) ?_
        refine z_goto (tgt := 181) (zat dd_X10_item 97 rfl) (by decide) ?_
        refine z_sub [0] rfl ?_
        exact zb_X10_item_181 Y v0 2 h
    · refine z_iconst (x := 1) (zat dd_X10_item 91 rfl) (by decide) ?_
      refine z_goto (tgt := 181) (zat dd_X10_item 92 rfl) (by decide) ?_
      refine z_sub [0] rfl ?_
      exact zb_X10_item_181 Y v0 1 h
  · refine z_iconst (x := 0) (zat dd_X10_item 86 rfl) (by decide) ?_
    refine z_goto (tgt := 181) (zat dd_X10_item 87 rfl) (by decide) ?_
    refine z_sub [0] rfl ?_
    exact zb_X10_item_181 Y v0 0 h
def f_X10_item_68 (t0 : Int32) (h : zH) : zR :=
  zrZ t0 h
set_option maxRecDepth 100000 in
set_option maxHeartbeats 4000000 in
theorem zb_X10_item_68 (Y : zY) (t0 : Int32) (h : zH) : Z Y M_X10_item 0 0 68 [] [.int t0] h (f_X10_item_68 t0 h) := by
  rw [f_X10_item_68]
  exact z_zret rfl (zat dd_X10_item 37 rfl)
def f_X10_item_67 (h : zH) : zR :=
  f_X10_item_68 0 h
set_option maxRecDepth 100000 in
set_option maxHeartbeats 4000000 in
theorem zb_X10_item_67 (Y : zY) (h : zH) : Z Y M_X10_item 0 0 67 [] [] h (f_X10_item_67  h) := by
  rw [f_X10_item_67]
  refine z_iconst (x := 0) (zat dd_X10_item 36 rfl) (by decide) ?_
  exact zb_X10_item_68 Y 0 h
def f_X10_item_41 (v0 : Nat) (t0 : Int32) (h : zH) : zR :=
  zgR h v0 6 1 fun a1 =>
  zgI h v0 6 16 fun x2 =>
  zsI h a1 0 1 x2 fun h3 =>
  if t0 = 0 then
  f_X10_item_67 h3
  else
  zoc h3 v0 6 <|
  zcI (f_X10_isEnd v0 h3) fun x4 h5 =>
  if x4 = 0 then
  f_X10_item_67 h5
  else
  f_X10_item_68 1 h5
set_option maxRecDepth 100000 in
set_option maxHeartbeats 4000000 in
theorem zb_X10_item_41 (Y : zY) (v0 : Nat) (t0 : Int32) (h : zH) : Z Y M_X10_item 0 0 41 [(0, .ref v0)] [.int t0] h (f_X10_item_41 v0 t0 h) := by
  rw [f_X10_item_41]
  refine z_istore_n (lv' := [(3, .int t0), (0, .ref v0)]) (zat dd_X10_item 22 rfl) rfl (Nat.le_of_ble_eq_true rfl) rfl ?_
  refine z_aload_n 1 (zat dd_X10_item 23 rfl) rfl rfl ?_
  refine z_getR fl_X10_13 (zat dd_X10_item 24 rfl) (fun a1 => ?_)
  refine z_iconst (x := 1) (zat dd_X10_item 25 rfl) (by decide) ?_
  refine z_aload_n 1 (zat dd_X10_item 26 rfl) rfl rfl ?_
  refine z_getI fl_X10_135 (zat dd_X10_item 27 rfl) (fun x2 => ?_)
  refine z_iast (zat dd_X10_item 28 rfl) (fun h3 => ?_)
  refine z_iload_n 0 (zat dd_X10_item 29 rfl) rfl rfl ?_
  refine z_if_eq (tgt := 67) (zat dd_X10_item 30 rfl) (by decide) ?_ ?_
  · refine z_sub [] rfl ?_
    exact zb_X10_item_67 Y h3
  · refine z_aload_n 1 (zat dd_X10_item 31 rfl) rfl rfl ?_
    refine z_callV_I0 (M2 := M_X10_isEnd) [] (fun l D _ _ => m_X10_isEnd l D v0 h3) u_X10_isEnd ql_X10_152 qi_X10_isEnd qs_X10_isEnd (ci := 6) rfl rfl rfl (Nat.le_of_ble_eq_true rfl) (by decide) rfl rfl (zat dd_X10_item 32 rfl) (fun x4 h5 => ?_)
    refine z_if_eq (tgt := 67) (zat dd_X10_item 33 rfl) (by decide) ?_ ?_
    · refine z_sub [] rfl ?_
      exact zb_X10_item_67 Y h5
    · refine z_iconst (x := 1) (zat dd_X10_item 34 rfl) (by decide) ?_
      refine z_goto (tgt := 68) (zat dd_X10_item 35 rfl) (by decide) ?_
      refine z_sub [] rfl ?_
      exact zb_X10_item_68 Y 1 h5
def f_X10_item_40 (v0 : Nat) (h : zH) : zR :=
  f_X10_item_41 v0 0 h
set_option maxRecDepth 100000 in
set_option maxHeartbeats 4000000 in
theorem zb_X10_item_40 (Y : zY) (v0 : Nat) (h : zH) : Z Y M_X10_item 0 0 40 [(0, .ref v0)] [] h (f_X10_item_40 v0 h) := by
  rw [f_X10_item_40]
  refine z_iconst (x := 0) (zat dd_X10_item 21 rfl) (by decide) ?_
  exact zb_X10_item_41 Y v0 0 h
def f_X10_item_16 (v0 : Nat) (v1 : Int32) (t0 : Int32) (h : zH) : zR :=
  if v1 = 0 then
  if t0 = 17077349 then
  zgR h v0 6 1 fun a1 =>
  zaI h a1 0 0 fun x2 =>
  if 8 ≤ x2 then
  f_X10_item_147 v0 t0 h
  else
  zoc h v0 6 <|
  zcI (f_X10_isNumber v0 0 5 h) fun x3 h4 =>
  if x3 = 0 then
  zrZ 0 h4
  else
  zgI h4 v0 6 16 fun x5 =>
  zoc h4 v0 6 <|
  zcI (f_X10_isNumber v0 0 3 h4) fun x6 h7 =>
  if x6 = 0 then
  zrZ 0 h7
  else
  zgI h7 v0 6 16 fun x8 =>
  zoc h7 v0 6 <|
  zcI (f_X10_isNumber v0 1 9 h7) fun x9 h10 =>
  if x9 = 0 then
  zrZ 0 h10
  else
  zgI h10 v0 6 16 fun x11 =>
  zoc h10 v0 6 <|
  zcV (f_X10_addPiece v0 x5 x8 x11 h10) fun h12 =>
  zoc h12 v0 6 <|
  zcI (f_X10_isEnd v0 h12) fun x13 h14 =>
  zrZ x13 h14
  else
  f_X10_item_147 v0 t0 h
  else
  if t0 = 146828 then
  zoc h v0 6 <|
  zcI (f_X10_isNumber v0 0 5 h) fun x15 h16 =>
  if x15 = 0 then
  f_X10_item_40 v0 h16
  else
  f_X10_item_41 v0 1 h16
  else
  f_X10_item_40 v0 h
set_option maxRecDepth 100000 in
set_option maxHeartbeats 4000000 in
theorem zb_X10_item_16 (Y : zY) (v0 : Nat) (v1 : Int32) (t0 : Int32) (h : zH) : Z Y M_X10_item 0 0 16 [(0, .ref v0), (1, .int v1)] [.int t0] h (f_X10_item_16 v0 v1 t0 h) := by
  rw [f_X10_item_16]
  refine z_istore_n (lv' := [(2, .int t0), (0, .ref v0), (1, .int v1)]) (zat dd_X10_item 8 rfl) rfl (Nat.le_of_ble_eq_true rfl) rfl ?_
  refine z_iload_n 2 (zat dd_X10_item 9 rfl) rfl rfl ?_
  refine z_if_eq (tgt := 69) (zat dd_X10_item 10 rfl) (by decide) ?_ ?_
  · refine z_iload_n 0 (zat dd_X10_item 38 rfl) rfl rfl ?_
    refine z_ldc (x := 17077349) qk_X10_156 (zat dd_X10_item 39 rfl) ?_
    refine z_icmp_ne (tgt := 147) (zat dd_X10_item 40 rfl) (by decide) ?_ ?_
    · refine z_sub [1, 0] rfl ?_
      exact zb_X10_item_147 Y v0 t0 h
    · refine z_aload_n 1 (zat dd_X10_item 41 rfl) rfl rfl ?_
      refine z_getR fl_X10_13 (zat dd_X10_item 42 rfl) (fun a1 => ?_)
      refine z_iconst (x := 0) (zat dd_X10_item 43 rfl) (by decide) ?_
      refine z_iald (zat dd_X10_item 44 rfl) (fun x2 => ?_)
      refine z_bipush (x := 8) (zat dd_X10_item 45 rfl) (by decide) ?_
      refine z_icmp_ge (tgt := 147) (zat dd_X10_item 46 rfl) (by decide) ?_ ?_
      · refine z_sub [1, 0] rfl ?_
        exact zb_X10_item_147 Y v0 t0 h
      · refine z_aload_n 1 (zat dd_X10_item 47 rfl) rfl rfl ?_
        refine z_iconst (x := 0) (zat dd_X10_item 48 rfl) (by decide) ?_
        refine z_iconst (x := 5) (zat dd_X10_item 49 rfl) (by decide) ?_
        refine z_callV_I0 (M2 := M_X10_isNumber) [.int 0, .int 5] (fun l D _ _ => m_X10_isNumber l D v0 0 5 h) u_X10_isNumber ql_X10_148 qi_X10_isNumber qs_X10_isNumber (ci := 6) rfl rfl rfl (Nat.le_of_ble_eq_true rfl) (by decide) rfl rfl (zat dd_X10_item 50 rfl) (fun x3 h4 => ?_)
        refine z_if_ne (tgt := 97) (zat dd_X10_item 51 rfl) (by decide) ?_ ?_
        · refine z_aload_n 1 (zat dd_X10_item 54 rfl) rfl rfl ?_
          refine z_getI fl_X10_135 (zat dd_X10_item 55 rfl) (fun x5 => ?_)
          refine z_istore_n (lv' := [(3, .int x5), (2, .int t0), (0, .ref v0), (1, .int v1)]) (zat dd_X10_item 56 rfl) rfl (Nat.le_of_ble_eq_true rfl) rfl ?_
          refine z_aload_n 2 (zat dd_X10_item 57 rfl) rfl rfl ?_
          refine z_iconst (x := 0) (zat dd_X10_item 58 rfl) (by decide) ?_
          refine z_iconst (x := 3) (zat dd_X10_item 59 rfl) (by decide) ?_
          refine z_callV_I0 (M2 := M_X10_isNumber) [.int 0, .int 3] (fun l D _ _ => m_X10_isNumber l D v0 0 3 h4) u_X10_isNumber ql_X10_148 qi_X10_isNumber qs_X10_isNumber (ci := 6) rfl rfl rfl (Nat.le_of_ble_eq_true rfl) (by decide) rfl rfl (zat dd_X10_item 60 rfl) (fun x6 h7 => ?_)
          refine z_if_ne (tgt := 113) (zat dd_X10_item 61 rfl) (by decide) ?_ ?_
          · refine z_aload_n 2 (zat dd_X10_item 64 rfl) rfl rfl ?_
            refine z_getI fl_X10_135 (zat dd_X10_item 65 rfl) (fun x8 => ?_)
            refine z_istore (lv' := [(4, .int x8), (3, .int x5), (2, .int t0), (0, .ref v0), (1, .int v1)]) (zat dd_X10_item 66 rfl) (Nat.le_of_ble_eq_true rfl) rfl ?_
            refine z_aload_n 3 (zat dd_X10_item 67 rfl) rfl rfl ?_
            refine z_iconst (x := 1) (zat dd_X10_item 68 rfl) (by decide) ?_
            refine z_bipush (x := 9) (zat dd_X10_item 69 rfl) (by decide) ?_
            refine z_callV_I0 (M2 := M_X10_isNumber) [.int 1, .int 9] (fun l D _ _ => m_X10_isNumber l D v0 1 9 h7) u_X10_isNumber ql_X10_148 qi_X10_isNumber qs_X10_isNumber (ci := 6) rfl rfl rfl (Nat.le_of_ble_eq_true rfl) (by decide) rfl rfl (zat dd_X10_item 70 rfl) (fun x9 h10 => ?_)
            refine z_if_ne (tgt := 131) (zat dd_X10_item 71 rfl) (by decide) ?_ ?_
            · refine z_aload_n 3 (zat dd_X10_item 74 rfl) rfl rfl ?_
              refine z_iload_n 1 (zat dd_X10_item 75 rfl) rfl rfl ?_
              refine z_iload 0 (zat dd_X10_item 76 rfl) rfl ?_
              refine z_aload_n 3 (zat dd_X10_item 77 rfl) rfl rfl ?_
              refine z_getI fl_X10_135 (zat dd_X10_item 78 rfl) (fun x11 => ?_)
              refine z_callV_V0 (M2 := M_X10_addPiece) [.int x5, .int x8, .int x11] (fun l D _ _ => m_X10_addPiece l D v0 x5 x8 x11 h10) u_X10_addPiece ql_X10_109 qi_X10_addPiece qs_X10_addPiece (ci := 6) rfl rfl rfl (Nat.le_of_ble_eq_true rfl) (by decide) rfl rfl (zat dd_X10_item 79 rfl) (fun h12 => ?_)
              refine z_aload_n 3 (zat dd_X10_item 80 rfl) rfl rfl ?_
              refine z_callV_I0 (M2 := M_X10_isEnd) [] (fun l D _ _ => m_X10_isEnd l D v0 h12) u_X10_isEnd ql_X10_152 qi_X10_isEnd qs_X10_isEnd (ci := 6) rfl rfl rfl (Nat.le_of_ble_eq_true rfl) (by decide) rfl rfl (zat dd_X10_item 81 rfl) (fun x13 h14 => ?_)
              exact z_zret rfl (zat dd_X10_item 82 rfl)
            · refine z_iconst (x := 0) (zat dd_X10_item 72 rfl) (by decide) ?_
              exact z_zret rfl (zat dd_X10_item 73 rfl)
          · refine z_iconst (x := 0) (zat dd_X10_item 62 rfl) (by decide) ?_
            exact z_zret rfl (zat dd_X10_item 63 rfl)
        · refine z_iconst (x := 0) (zat dd_X10_item 52 rfl) (by decide) ?_
          exact z_zret rfl (zat dd_X10_item 53 rfl)
  · refine z_iload_n 0 (zat dd_X10_item 11 rfl) rfl rfl ?_
    refine z_ldc (x := 146828) qk_X10_147 (zat dd_X10_item 12 rfl) ?_
    refine z_icmp_ne (tgt := 40) (zat dd_X10_item 13 rfl) (by decide) ?_ ?_
    · refine z_sub [1] rfl ?_
      exact zb_X10_item_40 Y v0 h
    · refine z_aload_n 1 (zat dd_X10_item 14 rfl) rfl rfl ?_
      refine z_iconst (x := 0) (zat dd_X10_item 15 rfl) (by decide) ?_
      refine z_iconst (x := 5) (zat dd_X10_item 16 rfl) (by decide) ?_
      refine z_callV_I0 (M2 := M_X10_isNumber) [.int 0, .int 5] (fun l D _ _ => m_X10_isNumber l D v0 0 5 h) u_X10_isNumber ql_X10_148 qi_X10_isNumber qs_X10_isNumber (ci := 6) rfl rfl rfl (Nat.le_of_ble_eq_true rfl) (by decide) rfl rfl (zat dd_X10_item 17 rfl) (fun x15 h16 => ?_)
      refine z_if_eq (tgt := 40) (zat dd_X10_item 18 rfl) (by decide) ?_ ?_
      · refine z_sub [1] rfl ?_
        exact zb_X10_item_40 Y v0 h16
      · refine z_iconst (x := 1) (zat dd_X10_item 19 rfl) (by decide) ?_
        refine z_goto (tgt := 41) (zat dd_X10_item 20 rfl) (by decide) ?_
        refine z_sub [1] rfl ?_
        exact zb_X10_item_41 Y v0 1 h16
def f_X10_item (v0 : Nat) (v1 : Int32) (h : zH) : zR :=
  zgI h v0 6 15 fun x1 =>
  if x1 = 1 then
  zgI h v0 6 16 fun x2 =>
  f_X10_item_16 v0 v1 x2 h
  else
  f_X10_item_16 v0 v1 0 h
set_option maxRecDepth 100000 in
set_option maxHeartbeats 4000000 in
theorem m_X10_item (l : Launch) (D : zD) (v0 : Nat) (v1 : Int32) (h : zH) : zMet l D yX10_item M_X10_item [.ref v0, .int v1] h (f_X10_item v0 v1 h) := by
  refine zMet.of (by decide +kernel) ⟨rfl, rfl⟩ (Nat.le_of_ble_eq_true rfl) (fun Y hl hD => ?_)
  show Z Y M_X10_item 0 0 0 [(0, .ref v0), (1, .int v1)] [] h _
  rw [f_X10_item]
  refine z_aload_n 0 (zat dd_X10_item 0 rfl) rfl rfl ?_
  refine z_getI fl_X10_132 (zat dd_X10_item 1 rfl) (fun x1 => ?_)
  refine z_iconst (x := 1) (zat dd_X10_item 2 rfl) (by decide) ?_
  refine z_icmp_ne (tgt := 15) (zat dd_X10_item 3 rfl) (by decide) ?_ ?_
  · refine z_iconst (x := 0) (zat dd_X10_item 7 rfl) (by decide) ?_
    exact zb_X10_item_16 Y v0 v1 0 h
  · refine z_aload_n 0 (zat dd_X10_item 4 rfl) rfl rfl ?_
    refine z_getI fl_X10_135 (zat dd_X10_item 5 rfl) (fun x2 => ?_)
    refine z_goto (tgt := 16) (zat dd_X10_item 6 rfl) (by decide) ?_
    exact zb_X10_item_16 Y v0 v1 x2 h
/-! PaperDollsModel.read()I -/
def L_X10_read : List (Nat × Instr × Nat) := [(0, .aload_n 0, 1), (1, .iconst 0, 1), (2, .invokevirtual 89, 3), (5, .aload_n 0, 1), (6, .iconst 0, 1), (7, .putfield 126, 3), (10, .iconst 0, 1), (11, .istore_n 1, 1), (12, .aload_n 0, 1), (13, .invokevirtual 144, 3), (16, .aload_n 0, 1), (17, .getfield 132, 3), (20, .ifCond .ne 12, 3), (23, .sipush (-200), 3), (26, .aload_n 0, 1), (27, .getfield 115, 3), (30, .isub, 1), (31, .ireturn, 1), (32, .aload_n 0, 1), (33, .getfield 132, 3), (36, .ifCond .eq 38, 3), (39, .aload_n 0, 1), (40, .iload_n 1, 1), (41, .ifCond .ne 7, 3), (44, .iconst 1, 1), (45, .goto 4, 3), (48, .iconst 0, 1), (49, .invokevirtual 161, 3), (52, .ifCond .ne 12, 3), (55, .sipush (-200), 3), (58, .aload_n 0, 1), (59, .getfield 129, 3), (62, .isub, 1), (63, .ireturn, 1), (64, .iinc 1 1, 3), (67, .aload_n 0, 1), (68, .invokevirtual 144, 3), (71, .goto (-39), 3), (74, .aload_n 0, 1), (75, .invokevirtual 92, 3), (78, .aload_n 0, 1), (79, .iconst 0, 1), (80, .putfield 95, 3), (83, .iload_n 1, 1), (84, .ireturn, 1)]
theorem dd_X10_read : ∀ q ∈ L_X10_read, decode cX10_read q.1 = .ok q.2 := by decide +kernel
abbrev M_X10_read : zM := (cX10_read, RX10, "read", 2, some .int, 5, 0, 0)
theorem u_X10_read : zCal yX10_read (M_X10_read) 0 := ⟨(zmem 918 (by decide +kernel) rfl : Cond.code yX10_read cX10_read 2 (some .int) ∈ zTb), zmem 63 (by decide +kernel) rfl, by decide +kernel, Nat.le_of_ble_eq_true rfl⟩
theorem qi_X10_read : Cond.instanceMethod yX10_read ∈ zTb := zmem 916 (by decide +kernel) rfl
theorem qs_X10_read : Cond.selects yX10_read.cls yX10_read yX10_read ∈ zTb := zmem 917 (by decide +kernel) rfl
def f_X10_read_49 (k32 : Nat → Int32 → zH → zR) (v0 : Nat) (v1 : Int32) (t0 : Int32) (t1 : Nat) (h : zH) : zR :=
  zoc h t1 6 <|
  zcI (f_X10_item t1 t0 h) fun x1 h2 =>
  if x1 = 0 then
  zgI h2 v0 6 14 fun x4 =>
  zrI ((-200) - x4) h2
  else
  zoc h2 v0 6 <|
  zcV (f_X10_next v0 h2) fun h3 =>
  k32 v0 (v1 + 1) h3
set_option maxRecDepth 100000 in
set_option maxHeartbeats 4000000 in
theorem zb_X10_read_49 (Y : zY) (k32 : Nat → Int32 → zH → zR) (hk32 : ∀ (v0 : Nat) (v1 : Int32) (h : zH), Z Y M_X10_read 0 0 32 [(0, .ref v0), (1, .int v1)] [] h (k32 v0 v1 h)) (v0 : Nat) (v1 : Int32) (t0 : Int32) (t1 : Nat) (h : zH) : Z Y M_X10_read 0 0 49 [(0, .ref v0), (1, .int v1)] [.int t0, .ref t1] h (f_X10_read_49 k32 v0 v1 t0 t1 h) := by
  rw [f_X10_read_49]
  refine z_callV_I0 (M2 := M_X10_item) [.int t0] (fun l D _ _ => m_X10_item l D t1 t0 h) u_X10_item ql_X10_161 qi_X10_item qs_X10_item (ci := 6) rfl rfl rfl (Nat.le_of_ble_eq_true rfl) (by decide) rfl rfl (zat dd_X10_read 27 rfl) (fun x1 h2 => ?_)
  refine z_if_ne (tgt := 64) (zat dd_X10_read 28 rfl) (by decide) ?_ ?_
  · refine z_iinc (y := v1 + 1) (lv' := [(1, .int (v1 + 1)), (0, .ref v0)]) 1 (zat dd_X10_read 34 rfl) rfl rfl (Nat.le_of_ble_eq_true rfl) rfl ?_
    refine z_aload_n 1 (zat dd_X10_read 35 rfl) rfl rfl ?_
    refine z_callV_V0 (M2 := M_X10_next) [] (fun l D _ _ => m_X10_next l D v0 h2) u_X10_next ql_X10_144 qi_X10_next qs_X10_next (ci := 6) rfl rfl rfl (Nat.le_of_ble_eq_true rfl) (by decide) rfl rfl (zat dd_X10_read 36 rfl) (fun h3 => ?_)
    refine z_goto (tgt := 32) (zat dd_X10_read 37 rfl) (by decide) ?_
    refine z_sub [1, 0] rfl ?_
    exact hk32 v0 (v1 + 1) h3
  · refine z_sipush (x := (-200)) (zat dd_X10_read 29 rfl) (by decide) ?_
    refine z_aload_n 0 (zat dd_X10_read 30 rfl) rfl rfl ?_
    refine z_getI fl_X10_129 (zat dd_X10_read 31 rfl) (fun x4 => ?_)
    refine z_isub (zat dd_X10_read 32 rfl) ?_
    exact z_iret rfl (zat dd_X10_read 33 rfl)
def f_X10_read_32 : Nat → Nat → Int32 → zH → zR
  | 0, _, _, _ => none
  | n + 1, v0, v1, h =>
  zgI h v0 6 15 fun x1 =>
  if x1 = 0 then
  zoc h v0 6 <|
  zcV (f_X10_take v0 h) fun h2 =>
  zpV h2 v0 6 3 (.int 0) fun h3 =>
  zrI v1 h3
  else
  if v1 = 0 then
  f_X10_read_49 (f_X10_read_32 n) v0 v1 1 v0 h
  else
  f_X10_read_49 (f_X10_read_32 n) v0 v1 0 v0 h
set_option maxRecDepth 100000 in
set_option maxHeartbeats 4000000 in
theorem zb_X10_read_32 (Y : zY) : ∀ (n : Nat) (v0 : Nat) (v1 : Int32) (h : zH), Z Y M_X10_read 0 0 32 [(0, .ref v0), (1, .int v1)] [] h (f_X10_read_32 n v0 v1 h) := by
  intro n
  induction n with
  | zero =>
    intro v0 v1 h
    rw [f_X10_read_32]
    exact z_none
  | succ n ih =>
    intro v0 v1 h
    rw [f_X10_read_32]
    refine z_aload_n 0 (zat dd_X10_read 18 rfl) rfl rfl ?_
    refine z_getI fl_X10_132 (zat dd_X10_read 19 rfl) (fun x1 => ?_)
    refine z_if_eq (tgt := 74) (zat dd_X10_read 20 rfl) (by decide) ?_ ?_
    · refine z_aload_n 0 (zat dd_X10_read 38 rfl) rfl rfl ?_
      refine z_callV_V0 (M2 := M_X10_take) [] (fun l D _ _ => m_X10_take l D v0 h) u_X10_take ql_X10_92 qi_X10_take qs_X10_take (ci := 6) rfl rfl rfl (Nat.le_of_ble_eq_true rfl) (by decide) rfl rfl (zat dd_X10_read 39 rfl) (fun h2 => ?_)
      refine z_aload_n 0 (zat dd_X10_read 40 rfl) rfl rfl ?_
      refine z_iconst (x := 0) (zat dd_X10_read 41 rfl) (by decide) ?_
      refine z_put fl_X10_95 rfl rfl (zat dd_X10_read 42 rfl) (fun h3 => ?_)
      refine z_iload_n 1 (zat dd_X10_read 43 rfl) rfl rfl ?_
      exact z_iret rfl (zat dd_X10_read 44 rfl)
    · refine z_aload_n 0 (zat dd_X10_read 21 rfl) rfl rfl ?_
      refine z_iload_n 1 (zat dd_X10_read 22 rfl) rfl rfl ?_
      refine z_if_ne (tgt := 48) (zat dd_X10_read 23 rfl) (by decide) ?_ ?_
      · refine z_iconst (x := 0) (zat dd_X10_read 26 rfl) (by decide) ?_
        exact zb_X10_read_49 Y (f_X10_read_32 n) ih v0 v1 0 v0 h
      · refine z_iconst (x := 1) (zat dd_X10_read 24 rfl) (by decide) ?_
        refine z_goto (tgt := 49) (zat dd_X10_read 25 rfl) (by decide) ?_
        exact zb_X10_read_49 Y (f_X10_read_32 n) ih v0 v1 1 v0 h
def f_X10_read (v0 : Nat) (h : zH) : zR :=
  zoc h v0 6 <|
  zcV (f_X10_begin v0 0 h) fun h1 =>
  zpV h1 v0 6 13 (.int 0) fun h2 =>
  zoc h2 v0 6 <|
  zcV (f_X10_next v0 h2) fun h3 =>
  zgI h3 v0 6 15 fun x4 =>
  if x4 = 0 then
  zgI h3 v0 6 8 fun x5 =>
  zrI ((-200) - x5) h3
  else
  f_X10_read_32 zF v0 0 h3
set_option maxRecDepth 100000 in
set_option maxHeartbeats 4000000 in
theorem m_X10_read (l : Launch) (D : zD) (v0 : Nat) (h : zH) : zMet l D yX10_read M_X10_read [.ref v0] h (f_X10_read v0 h) := by
  refine zMet.of (by decide +kernel) ⟨rfl, rfl⟩ (Nat.le_of_ble_eq_true rfl) (fun Y hl hD => ?_)
  show Z Y M_X10_read 0 0 0 [(0, .ref v0)] [] h _
  rw [f_X10_read]
  refine z_aload_n 0 (zat dd_X10_read 0 rfl) rfl rfl ?_
  refine z_iconst (x := 0) (zat dd_X10_read 1 rfl) (by decide) ?_
  refine z_callV_V0 (M2 := M_X10_begin) [.int 0] (fun l D _ _ => m_X10_begin l D v0 0 h) u_X10_begin ql_X10_89 qi_X10_begin qs_X10_begin (ci := 6) rfl rfl rfl (Nat.le_of_ble_eq_true rfl) (by decide) rfl rfl (zat dd_X10_read 2 rfl) (fun h1 => ?_)
  refine z_aload_n 0 (zat dd_X10_read 3 rfl) rfl rfl ?_
  refine z_iconst (x := 0) (zat dd_X10_read 4 rfl) (by decide) ?_
  refine z_put fl_X10_126 rfl rfl (zat dd_X10_read 5 rfl) (fun h2 => ?_)
  refine z_iconst (x := 0) (zat dd_X10_read 6 rfl) (by decide) ?_
  refine z_istore_n (lv' := [(1, .int 0), (0, .ref v0)]) (zat dd_X10_read 7 rfl) rfl (Nat.le_of_ble_eq_true rfl) rfl ?_
  refine z_aload_n 1 (zat dd_X10_read 8 rfl) rfl rfl ?_
  refine z_callV_V0 (M2 := M_X10_next) [] (fun l D _ _ => m_X10_next l D v0 h2) u_X10_next ql_X10_144 qi_X10_next qs_X10_next (ci := 6) rfl rfl rfl (Nat.le_of_ble_eq_true rfl) (by decide) rfl rfl (zat dd_X10_read 9 rfl) (fun h3 => ?_)
  refine z_aload_n 1 (zat dd_X10_read 10 rfl) rfl rfl ?_
  refine z_getI fl_X10_132 (zat dd_X10_read 11 rfl) (fun x4 => ?_)
  refine z_if_ne (tgt := 32) (zat dd_X10_read 12 rfl) (by decide) ?_ ?_
  · refine z_sub [1, 0] rfl ?_
    exact zb_X10_read_32 Y zF v0 0 h3
  · refine z_sipush (x := (-200)) (zat dd_X10_read 13 rfl) (by decide) ?_
    refine z_aload_n 1 (zat dd_X10_read 14 rfl) rfl rfl ?_
    refine z_getI fl_X10_115 (zat dd_X10_read 15 rfl) (fun x5 => ?_)
    refine z_isub (zat dd_X10_read 16 rfl) ?_
    exact z_iret rfl (zat dd_X10_read 17 rfl)
/-! PaperDollsModel.remember()V -/
def L_X10_remember : List (Nat × Instr × Nat) := [(0, .aload_n 0, 1), (1, .getfield 95, 3), (4, .bipush 8, 2), (6, .if_icmp .ne 42, 3), (9, .iconst 0, 1), (10, .istore_n 1, 1), (11, .iload_n 1, 1), (12, .bipush 126, 2), (14, .if_icmp .ge 24, 3), (17, .aload_n 0, 1), (18, .getfield 16, 3), (21, .iload_n 1, 1), (22, .aload_n 0, 1), (23, .getfield 16, 3), (26, .bipush 18, 2), (28, .iload_n 1, 1), (29, .iadd, 1), (30, .iaload, 1), (31, .iastore, 1), (32, .iinc 1 1, 3), (35, .goto (-24), 3), (38, .aload_n 0, 1), (39, .dup, 1), (40, .getfield 95, 3), (43, .iconst 1, 1), (44, .isub, 1), (45, .putfield 95, 3), (48, .bipush 18, 2), (50, .aload_n 0, 1), (51, .getfield 95, 3), (54, .imul, 1), (55, .istore_n 1, 1), (56, .aload_n 0, 1), (57, .getfield 16, 3), (60, .iload_n 1, 1), (61, .aload_n 0, 1), (62, .getfield 7, 3), (65, .iconst 2, 1), (66, .iaload, 1), (67, .iastore, 1), (68, .aload_n 0, 1), (69, .getfield 16, 3), (72, .iload_n 1, 1), (73, .iconst 1, 1), (74, .iadd, 1), (75, .aload_n 0, 1), (76, .getfield 7, 3), (79, .iconst 3, 1), (80, .iaload, 1), (81, .iastore, 1), (82, .iconst 0, 1), (83, .istore_n 2, 1), (84, .iload_n 2, 1), (85, .bipush 8, 2), (87, .if_icmp .ge 47, 3), (90, .aload_n 0, 1), (91, .getfield 16, 3), (94, .iload_n 1, 1), (95, .iconst 2, 1), (96, .iadd, 1), (97, .iload_n 2, 1), (98, .iadd, 1), (99, .aload_n 0, 1), (100, .getfield 7, 3), (103, .iconst 4, 1), (104, .iload_n 2, 1), (105, .iadd, 1), (106, .iaload, 1), (107, .iastore, 1), (108, .aload_n 0, 1), (109, .getfield 16, 3), (112, .iload_n 1, 1), (113, .bipush 10, 2), (115, .iadd, 1), (116, .iload_n 2, 1), (117, .iadd, 1), (118, .aload_n 0, 1), (119, .getfield 7, 3), (122, .bipush 36, 2), (124, .iload_n 2, 1), (125, .iadd, 1), (126, .iaload, 1), (127, .iastore, 1), (128, .iinc 2 1, 3), (131, .goto (-47), 3), (134, .aload_n 0, 1), (135, .dup, 1), (136, .getfield 95, 3), (139, .iconst 1, 1), (140, .iadd, 1), (141, .putfield 95, 3), (144, .return_, 1)]
theorem dd_X10_remember : ∀ q ∈ L_X10_remember, decode cX10_remember q.1 = .ok q.2 := by decide +kernel
abbrev M_X10_remember : zM := (cX10_remember, RX10, "remember", 3, none, 0, 0, 0)
theorem u_X10_remember : zCal yX10_remember (M_X10_remember) 0 := ⟨(zmem 1008 (by decide +kernel) rfl : Cond.code yX10_remember cX10_remember 3 (none) ∈ zTb), zmem 63 (by decide +kernel) rfl, by decide +kernel, Nat.le_of_ble_eq_true rfl⟩
theorem qi_X10_remember : Cond.instanceMethod yX10_remember ∈ zTb := zmem 1007 (by decide +kernel) rfl
theorem qs_X10_remember : Cond.selects yX10_remember.cls yX10_remember yX10_remember ∈ zTb := zmem 40 (by decide +kernel) rfl
def f_X10_remember_84 : Nat → Nat → Int32 → Int32 → zH → zR
  | 0, _, _, _, _ => none
  | n + 1, v0, v1, v2, h =>
  if 8 ≤ v2 then
  zgI h v0 6 3 fun x1 =>
  zpV h v0 6 3 (.int (x1 + 1)) fun h2 =>
  zrV h2
  else
  zgR h v0 6 2 fun a3 =>
  zgR h v0 6 0 fun a4 =>
  zaI h a4 0 (4 + v2) fun x5 =>
  zsI h a3 0 ((v1 + 2) + v2) x5 fun h6 =>
  zgR h6 v0 6 2 fun a7 =>
  zgR h6 v0 6 0 fun a8 =>
  zaI h6 a8 0 (36 + v2) fun x9 =>
  zsI h6 a7 0 ((v1 + 10) + v2) x9 fun h10 =>
  f_X10_remember_84 n v0 v1 (v2 + 1) h10
set_option maxRecDepth 100000 in
set_option maxHeartbeats 4000000 in
theorem zb_X10_remember_84 (Y : zY) : ∀ (n : Nat) (v0 : Nat) (v1 : Int32) (v2 : Int32) (h : zH), Z Y M_X10_remember 0 0 84 [(0, .ref v0), (1, .int v1), (2, .int v2)] [] h (f_X10_remember_84 n v0 v1 v2 h) := by
  intro n
  induction n with
  | zero =>
    intro v0 v1 v2 h
    rw [f_X10_remember_84]
    exact z_none
  | succ n ih =>
    intro v0 v1 v2 h
    rw [f_X10_remember_84]
    refine z_iload_n 2 (zat dd_X10_remember 52 rfl) rfl rfl ?_
    refine z_bipush (x := 8) (zat dd_X10_remember 53 rfl) (by decide) ?_
    refine z_icmp_ge (tgt := 134) (zat dd_X10_remember 54 rfl) (by decide) ?_ ?_
    · refine z_aload_n 0 (zat dd_X10_remember 85 rfl) rfl rfl ?_
      refine z_dup (zat dd_X10_remember 86 rfl) rfl ?_
      refine z_getI fl_X10_95 (zat dd_X10_remember 87 rfl) (fun x1 => ?_)
      refine z_iconst (x := 1) (zat dd_X10_remember 88 rfl) (by decide) ?_
      refine z_iadd (zat dd_X10_remember 89 rfl) ?_
      refine z_put fl_X10_95 rfl rfl (zat dd_X10_remember 90 rfl) (fun h2 => ?_)
      exact z_vret rfl (zat dd_X10_remember 91 rfl)
    · refine z_aload_n 0 (zat dd_X10_remember 55 rfl) rfl rfl ?_
      refine z_getR fl_X10_16 (zat dd_X10_remember 56 rfl) (fun a3 => ?_)
      refine z_iload_n 1 (zat dd_X10_remember 57 rfl) rfl rfl ?_
      refine z_iconst (x := 2) (zat dd_X10_remember 58 rfl) (by decide) ?_
      refine z_iadd (zat dd_X10_remember 59 rfl) ?_
      refine z_iload_n 2 (zat dd_X10_remember 60 rfl) rfl rfl ?_
      refine z_iadd (zat dd_X10_remember 61 rfl) ?_
      refine z_aload_n 0 (zat dd_X10_remember 62 rfl) rfl rfl ?_
      refine z_getR fl_X10_7 (zat dd_X10_remember 63 rfl) (fun a4 => ?_)
      refine z_iconst (x := 4) (zat dd_X10_remember 64 rfl) (by decide) ?_
      refine z_iload_n 2 (zat dd_X10_remember 65 rfl) rfl rfl ?_
      refine z_iadd (zat dd_X10_remember 66 rfl) ?_
      refine z_iald (zat dd_X10_remember 67 rfl) (fun x5 => ?_)
      refine z_iast (zat dd_X10_remember 68 rfl) (fun h6 => ?_)
      refine z_aload_n 0 (zat dd_X10_remember 69 rfl) rfl rfl ?_
      refine z_getR fl_X10_16 (zat dd_X10_remember 70 rfl) (fun a7 => ?_)
      refine z_iload_n 1 (zat dd_X10_remember 71 rfl) rfl rfl ?_
      refine z_bipush (x := 10) (zat dd_X10_remember 72 rfl) (by decide) ?_
      refine z_iadd (zat dd_X10_remember 73 rfl) ?_
      refine z_iload_n 2 (zat dd_X10_remember 74 rfl) rfl rfl ?_
      refine z_iadd (zat dd_X10_remember 75 rfl) ?_
      refine z_aload_n 0 (zat dd_X10_remember 76 rfl) rfl rfl ?_
      refine z_getR fl_X10_7 (zat dd_X10_remember 77 rfl) (fun a8 => ?_)
      refine z_bipush (x := 36) (zat dd_X10_remember 78 rfl) (by decide) ?_
      refine z_iload_n 2 (zat dd_X10_remember 79 rfl) rfl rfl ?_
      refine z_iadd (zat dd_X10_remember 80 rfl) ?_
      refine z_iald (zat dd_X10_remember 81 rfl) (fun x9 => ?_)
      refine z_iast (zat dd_X10_remember 82 rfl) (fun h10 => ?_)
      refine z_iinc (y := v2 + 1) (lv' := [(2, .int (v2 + 1)), (0, .ref v0), (1, .int v1)]) 2 (zat dd_X10_remember 83 rfl) rfl rfl (Nat.le_of_ble_eq_true rfl) rfl ?_
      refine z_goto (tgt := 84) (zat dd_X10_remember 84 rfl) (by decide) ?_
      refine z_sub [1, 2, 0] rfl ?_
      exact ih v0 v1 (v2 + 1) h10
def f_X10_remember_48 (v0 : Nat) (h : zH) : zR :=
  zgI h v0 6 3 fun x1 =>
  zlt (18 * x1) fun x2 =>
  zgR h v0 6 2 fun a3 =>
  zgR h v0 6 0 fun a4 =>
  zaI h a4 0 2 fun x5 =>
  zsI h a3 0 x2 x5 fun h6 =>
  zgR h6 v0 6 2 fun a7 =>
  zgR h6 v0 6 0 fun a8 =>
  zaI h6 a8 0 3 fun x9 =>
  zsI h6 a7 0 (x2 + 1) x9 fun h10 =>
  f_X10_remember_84 zF v0 x2 0 h10
set_option maxRecDepth 100000 in
set_option maxHeartbeats 4000000 in
theorem zb_X10_remember_48 (Y : zY) (v0 : Nat) (h : zH) : Z Y M_X10_remember 0 0 48 [(0, .ref v0)] [] h (f_X10_remember_48 v0 h) := by
  rw [f_X10_remember_48]
  refine z_bipush (x := 18) (zat dd_X10_remember 27 rfl) (by decide) ?_
  refine z_aload_n 0 (zat dd_X10_remember 28 rfl) rfl rfl ?_
  refine z_getI fl_X10_95 (zat dd_X10_remember 29 rfl) (fun x1 => ?_)
  refine z_imul (zat dd_X10_remember 30 rfl) ?_
  refine z_let (fun x2 => ?_)
  refine z_istore_n (lv' := [(1, .int x2), (0, .ref v0)]) (zat dd_X10_remember 31 rfl) rfl (Nat.le_of_ble_eq_true rfl) rfl ?_
  refine z_aload_n 1 (zat dd_X10_remember 32 rfl) rfl rfl ?_
  refine z_getR fl_X10_16 (zat dd_X10_remember 33 rfl) (fun a3 => ?_)
  refine z_iload_n 0 (zat dd_X10_remember 34 rfl) rfl rfl ?_
  refine z_aload_n 1 (zat dd_X10_remember 35 rfl) rfl rfl ?_
  refine z_getR fl_X10_7 (zat dd_X10_remember 36 rfl) (fun a4 => ?_)
  refine z_iconst (x := 2) (zat dd_X10_remember 37 rfl) (by decide) ?_
  refine z_iald (zat dd_X10_remember 38 rfl) (fun x5 => ?_)
  refine z_iast (zat dd_X10_remember 39 rfl) (fun h6 => ?_)
  refine z_aload_n 1 (zat dd_X10_remember 40 rfl) rfl rfl ?_
  refine z_getR fl_X10_16 (zat dd_X10_remember 41 rfl) (fun a7 => ?_)
  refine z_iload_n 0 (zat dd_X10_remember 42 rfl) rfl rfl ?_
  refine z_iconst (x := 1) (zat dd_X10_remember 43 rfl) (by decide) ?_
  refine z_iadd (zat dd_X10_remember 44 rfl) ?_
  refine z_aload_n 1 (zat dd_X10_remember 45 rfl) rfl rfl ?_
  refine z_getR fl_X10_7 (zat dd_X10_remember 46 rfl) (fun a8 => ?_)
  refine z_iconst (x := 3) (zat dd_X10_remember 47 rfl) (by decide) ?_
  refine z_iald (zat dd_X10_remember 48 rfl) (fun x9 => ?_)
  refine z_iast (zat dd_X10_remember 49 rfl) (fun h10 => ?_)
  refine z_iconst (x := 0) (zat dd_X10_remember 50 rfl) (by decide) ?_
  refine z_istore_n (lv' := [(2, .int 0), (1, .int x2), (0, .ref v0)]) (zat dd_X10_remember 51 rfl) rfl (Nat.le_of_ble_eq_true rfl) rfl ?_
  refine z_sub [2, 1, 0] rfl ?_
  exact zb_X10_remember_84 Y zF v0 x2 0 h10
def f_X10_remember_11 : Nat → Nat → Int32 → zH → zR
  | 0, _, _, _ => none
  | n + 1, v0, v1, h =>
  if 126 ≤ v1 then
  zgI h v0 6 3 fun x1 =>
  zpV h v0 6 3 (.int (x1 - 1)) fun h2 =>
  f_X10_remember_48 v0 h2
  else
  zgR h v0 6 2 fun a3 =>
  zgR h v0 6 2 fun a4 =>
  zaI h a4 0 (18 + v1) fun x5 =>
  zsI h a3 0 v1 x5 fun h6 =>
  f_X10_remember_11 n v0 (v1 + 1) h6
set_option maxRecDepth 100000 in
set_option maxHeartbeats 4000000 in
theorem zb_X10_remember_11 (Y : zY) : ∀ (n : Nat) (v0 : Nat) (v1 : Int32) (h : zH), Z Y M_X10_remember 0 0 11 [(0, .ref v0), (1, .int v1)] [] h (f_X10_remember_11 n v0 v1 h) := by
  intro n
  induction n with
  | zero =>
    intro v0 v1 h
    rw [f_X10_remember_11]
    exact z_none
  | succ n ih =>
    intro v0 v1 h
    rw [f_X10_remember_11]
    refine z_iload_n 1 (zat dd_X10_remember 6 rfl) rfl rfl ?_
    refine z_bipush (x := 126) (zat dd_X10_remember 7 rfl) (by decide) ?_
    refine z_icmp_ge (tgt := 38) (zat dd_X10_remember 8 rfl) (by decide) ?_ ?_
    · refine z_aload_n 0 (zat dd_X10_remember 21 rfl) rfl rfl ?_
      refine z_dup (zat dd_X10_remember 22 rfl) rfl ?_
      refine z_getI fl_X10_95 (zat dd_X10_remember 23 rfl) (fun x1 => ?_)
      refine z_iconst (x := 1) (zat dd_X10_remember 24 rfl) (by decide) ?_
      refine z_isub (zat dd_X10_remember 25 rfl) ?_
      refine z_put fl_X10_95 rfl rfl (zat dd_X10_remember 26 rfl) (fun h2 => ?_)
      refine z_sub [0] rfl ?_
      exact zb_X10_remember_48 Y v0 h2
    · refine z_aload_n 0 (zat dd_X10_remember 9 rfl) rfl rfl ?_
      refine z_getR fl_X10_16 (zat dd_X10_remember 10 rfl) (fun a3 => ?_)
      refine z_iload_n 1 (zat dd_X10_remember 11 rfl) rfl rfl ?_
      refine z_aload_n 0 (zat dd_X10_remember 12 rfl) rfl rfl ?_
      refine z_getR fl_X10_16 (zat dd_X10_remember 13 rfl) (fun a4 => ?_)
      refine z_bipush (x := 18) (zat dd_X10_remember 14 rfl) (by decide) ?_
      refine z_iload_n 1 (zat dd_X10_remember 15 rfl) rfl rfl ?_
      refine z_iadd (zat dd_X10_remember 16 rfl) ?_
      refine z_iald (zat dd_X10_remember 17 rfl) (fun x5 => ?_)
      refine z_iast (zat dd_X10_remember 18 rfl) (fun h6 => ?_)
      refine z_iinc (y := v1 + 1) (lv' := [(1, .int (v1 + 1)), (0, .ref v0)]) 1 (zat dd_X10_remember 19 rfl) rfl rfl (Nat.le_of_ble_eq_true rfl) rfl ?_
      refine z_goto (tgt := 11) (zat dd_X10_remember 20 rfl) (by decide) ?_
      refine z_sub [1, 0] rfl ?_
      exact ih v0 (v1 + 1) h6
def f_X10_remember (v0 : Nat) (h : zH) : zR :=
  zgI h v0 6 3 fun x1 =>
  if x1 = 8 then
  f_X10_remember_11 zF v0 0 h
  else
  f_X10_remember_48 v0 h
set_option maxRecDepth 100000 in
set_option maxHeartbeats 4000000 in
theorem m_X10_remember (l : Launch) (D : zD) (v0 : Nat) (h : zH) : zMet l D yX10_remember M_X10_remember [.ref v0] h (f_X10_remember v0 h) := by
  refine zMet.of (by decide +kernel) ⟨rfl, rfl⟩ (Nat.le_of_ble_eq_true rfl) (fun Y hl hD => ?_)
  show Z Y M_X10_remember 0 0 0 [(0, .ref v0)] [] h _
  rw [f_X10_remember]
  refine z_aload_n 0 (zat dd_X10_remember 0 rfl) rfl rfl ?_
  refine z_getI fl_X10_95 (zat dd_X10_remember 1 rfl) (fun x1 => ?_)
  refine z_bipush (x := 8) (zat dd_X10_remember 2 rfl) (by decide) ?_
  refine z_icmp_ne (tgt := 48) (zat dd_X10_remember 3 rfl) (by decide) ?_ ?_
  · exact zb_X10_remember_48 Y v0 h
  · refine z_iconst (x := 0) (zat dd_X10_remember 4 rfl) (by decide) ?_
    refine z_istore_n (lv' := [(1, .int 0), (0, .ref v0)]) (zat dd_X10_remember 5 rfl) rfl (Nat.le_of_ble_eq_true rfl) rfl ?_
    refine z_sub [1, 0] rfl ?_
    exact zb_X10_remember_11 Y zF v0 0 h
/-! PaperDollsModel.move(II)I -/
def L_X10_move : List (Nat × Instr × Nat) := [(0, .aload_n 0, 1), (1, .iload_n 2, 1), (2, .invokevirtual 165, 3), (5, .ifCond .ne 8, 3), (8, .aload_n 0, 1), (9, .invokevirtual 85, 3), (12, .ireturn, 1), (13, .aload_n 0, 1), (14, .invokevirtual 106, 3), (17, .aload_n 0, 1), (18, .getfield 7, 3), (21, .iconst 2, 1), (22, .iaload, 1), (23, .sipush 9999, 3), (26, .if_icmp .eq 12, 3), (29, .aload_n 0, 1), (30, .iload_n 1, 1), (31, .iload_n 2, 1), (32, .invokevirtual 158, 3), (35, .ifCond .ne 8, 3), (38, .aload_n 0, 1), (39, .invokevirtual 168, 3), (42, .ireturn, 1), (43, .aload_n 0, 1), (44, .invokevirtual 171, 3), (47, .aload_n 0, 1), (48, .getfield 7, 3), (51, .bipush 36, 2), (53, .iload_n 2, 1), (54, .iadd, 1), (55, .iaload, 1), (56, .istore_n 3, 1), (57, .aload_n 0, 1), (58, .invokevirtual 92, 3), (61, .iload_n 1, 1), (62, .iconst 2, 1), (63, .if_icmp .ne 7, 3), (66, .iload_n 3, 1), (67, .goto 9, 3), (70, .aload_n 0, 1), (71, .getfield 7, 3), (74, .iconst 3, 1), (75, .iaload, 1), (76, .ireturn, 1)]
theorem dd_X10_move : ∀ q ∈ L_X10_move, decode cX10_move q.1 = .ok q.2 := by decide +kernel
abbrev M_X10_move : zM := (cX10_move, RX10, "move", 4, some .int, 4, 0, 0)
theorem u_X10_move : zCal yX10_move (M_X10_move) 2 := ⟨(zmem 996 (by decide +kernel) rfl : Cond.code yX10_move cX10_move 4 (some .int) ∈ zTb), zmem 63 (by decide +kernel) rfl, by decide +kernel, Nat.le_of_ble_eq_true rfl⟩
theorem qi_X10_move : Cond.instanceMethod yX10_move ∈ zTb := zmem 995 (by decide +kernel) rfl
theorem qs_X10_move : Cond.selects yX10_move.cls yX10_move yX10_move ∈ zTb := zmem 37 (by decide +kernel) rfl
def f_X10_move_76 (t0 : Int32) (h : zH) : zR :=
  zrI t0 h
set_option maxRecDepth 100000 in
set_option maxHeartbeats 4000000 in
theorem zb_X10_move_76 (Y : zY) (t0 : Int32) (h : zH) : Z Y M_X10_move 0 0 76 [] [.int t0] h (f_X10_move_76 t0 h) := by
  rw [f_X10_move_76]
  exact z_iret rfl (zat dd_X10_move 43 rfl)
def f_X10_move_38 (v0 : Nat) (h : zH) : zR :=
  zoc h v0 6 <|
  zcI (f_X10_no v0 h) fun x1 h2 =>
  zrI x1 h2
set_option maxRecDepth 100000 in
set_option maxHeartbeats 4000000 in
theorem zb_X10_move_38 (Y : zY) (v0 : Nat) (h : zH) : Z Y M_X10_move 0 0 38 [(0, .ref v0)] [] h (f_X10_move_38 v0 h) := by
  rw [f_X10_move_38]
  refine z_aload_n 0 (zat dd_X10_move 20 rfl) rfl rfl ?_
  refine z_callV_I0 (M2 := M_X10_no) [] (fun l D _ _ => m_X10_no l D v0 h) u_X10_no ql_X10_168 qi_X10_no qs_X10_no (ci := 6) rfl rfl rfl (Nat.le_of_ble_eq_true rfl) (by decide) rfl rfl (zat dd_X10_move 21 rfl) (fun x1 h2 => ?_)
  exact z_iret rfl (zat dd_X10_move 22 rfl)
def f_X10_move (v0 : Nat) (v1 : Int32) (v2 : Int32) (h : zH) : zR :=
  zoc h v0 6 <|
  zcI (f_X10_isPiece v0 v2 h) fun x1 h2 =>
  if x1 = 0 then
  zoc h2 v0 6 <|
  zcI (f_X10_bad v0 h2) fun x14 h15 =>
  zrI x14 h15
  else
  zoc h2 v0 6 <|
  zcV (f_X10_aside v0 h2) fun h3 =>
  zgR h3 v0 6 0 fun a4 =>
  zaI h3 a4 0 2 fun x5 =>
  if x5 = 9999 then
  f_X10_move_38 v0 h3
  else
  zoc h3 v0 6 <|
  zcI (f_X10_goMove v0 v1 v2 h3) fun x6 h7 =>
  if x6 = 0 then
  f_X10_move_38 v0 h7
  else
  zoc h7 v0 6 <|
  zcV (f_X10_remember v0 h7) fun h8 =>
  zgR h8 v0 6 0 fun a9 =>
  zaI h8 a9 0 (36 + v2) fun x10 =>
  zoc h8 v0 6 <|
  zcV (f_X10_take v0 h8) fun h11 =>
  if v1 = 2 then
  f_X10_move_76 x10 h11
  else
  zgR h11 v0 6 0 fun a12 =>
  zaI h11 a12 0 3 fun x13 =>
  f_X10_move_76 x13 h11
set_option maxRecDepth 100000 in
set_option maxHeartbeats 4000000 in
theorem m_X10_move (l : Launch) (D : zD) (v0 : Nat) (v1 : Int32) (v2 : Int32) (h : zH) : zMet l D yX10_move M_X10_move [.ref v0, .int v1, .int v2] h (f_X10_move v0 v1 v2 h) := by
  refine zMet.of (by decide +kernel) ⟨rfl, rfl⟩ (Nat.le_of_ble_eq_true rfl) (fun Y hl hD => ?_)
  show Z Y M_X10_move 0 0 0 [(0, .ref v0), (1, .int v1), (2, .int v2)] [] h _
  rw [f_X10_move]
  refine z_aload_n 0 (zat dd_X10_move 0 rfl) rfl rfl ?_
  refine z_iload_n 2 (zat dd_X10_move 1 rfl) rfl rfl ?_
  refine z_callV_I0 (M2 := M_X10_isPiece) [.int v2] (fun l D _ _ => m_X10_isPiece l D v0 v2 h) u_X10_isPiece ql_X10_165 qi_X10_isPiece qs_X10_isPiece (ci := 6) rfl rfl rfl (Nat.le_of_ble_eq_true rfl) (by decide) rfl rfl (zat dd_X10_move 2 rfl) (fun x1 h2 => ?_)
  refine z_if_ne (tgt := 13) (zat dd_X10_move 3 rfl) (by decide) ?_ ?_
  · refine z_aload_n 0 (zat dd_X10_move 7 rfl) rfl rfl ?_
    refine z_callV_V0 (M2 := M_X10_aside) [] (fun l D _ _ => m_X10_aside l D v0 h2) u_X10_aside ql_X10_106 qi_X10_aside qs_X10_aside (ci := 6) rfl rfl rfl (Nat.le_of_ble_eq_true rfl) (by decide) rfl rfl (zat dd_X10_move 8 rfl) (fun h3 => ?_)
    refine z_aload_n 0 (zat dd_X10_move 9 rfl) rfl rfl ?_
    refine z_getR fl_X10_7 (zat dd_X10_move 10 rfl) (fun a4 => ?_)
    refine z_iconst (x := 2) (zat dd_X10_move 11 rfl) (by decide) ?_
    refine z_iald (zat dd_X10_move 12 rfl) (fun x5 => ?_)
    refine z_sipush (x := 9999) (zat dd_X10_move 13 rfl) (by decide) ?_
    refine z_icmp_eq (tgt := 38) (zat dd_X10_move 14 rfl) (by decide) ?_ ?_
    · refine z_sub [0] rfl ?_
      exact zb_X10_move_38 Y v0 h3
    · refine z_aload_n 0 (zat dd_X10_move 15 rfl) rfl rfl ?_
      refine z_iload_n 1 (zat dd_X10_move 16 rfl) rfl rfl ?_
      refine z_iload_n 2 (zat dd_X10_move 17 rfl) rfl rfl ?_
      refine z_callV_I0 (M2 := M_X10_goMove) [.int v1, .int v2] (fun l D _ _ => m_X10_goMove l D v0 v1 v2 h3) u_X10_goMove ql_X10_158 qi_X10_goMove qs_X10_goMove (ci := 6) rfl rfl rfl (Nat.le_of_ble_eq_true rfl) (by decide) rfl rfl (zat dd_X10_move 18 rfl) (fun x6 h7 => ?_)
      refine z_if_ne (tgt := 43) (zat dd_X10_move 19 rfl) (by decide) ?_ ?_
      · refine z_aload_n 0 (zat dd_X10_move 23 rfl) rfl rfl ?_
        refine z_callV_V0 (M2 := M_X10_remember) [] (fun l D _ _ => m_X10_remember l D v0 h7) u_X10_remember ql_X10_171 qi_X10_remember qs_X10_remember (ci := 6) rfl rfl rfl (Nat.le_of_ble_eq_true rfl) (by decide) rfl rfl (zat dd_X10_move 24 rfl) (fun h8 => ?_)
        refine z_aload_n 0 (zat dd_X10_move 25 rfl) rfl rfl ?_
        refine z_getR fl_X10_7 (zat dd_X10_move 26 rfl) (fun a9 => ?_)
        refine z_bipush (x := 36) (zat dd_X10_move 27 rfl) (by decide) ?_
        refine z_iload_n 2 (zat dd_X10_move 28 rfl) rfl rfl ?_
        refine z_iadd (zat dd_X10_move 29 rfl) ?_
        refine z_iald (zat dd_X10_move 30 rfl) (fun x10 => ?_)
        refine z_istore_n (lv' := [(3, .int x10), (0, .ref v0), (1, .int v1), (2, .int v2)]) (zat dd_X10_move 31 rfl) rfl (Nat.le_of_ble_eq_true rfl) rfl ?_
        refine z_aload_n 1 (zat dd_X10_move 32 rfl) rfl rfl ?_
        refine z_callV_V0 (M2 := M_X10_take) [] (fun l D _ _ => m_X10_take l D v0 h8) u_X10_take ql_X10_92 qi_X10_take qs_X10_take (ci := 6) rfl rfl rfl (Nat.le_of_ble_eq_true rfl) (by decide) rfl rfl (zat dd_X10_move 33 rfl) (fun h11 => ?_)
        refine z_iload_n 2 (zat dd_X10_move 34 rfl) rfl rfl ?_
        refine z_iconst (x := 2) (zat dd_X10_move 35 rfl) (by decide) ?_
        refine z_icmp_ne (tgt := 70) (zat dd_X10_move 36 rfl) (by decide) ?_ ?_
        · refine z_aload_n 1 (zat dd_X10_move 39 rfl) rfl rfl ?_
          refine z_getR fl_X10_7 (zat dd_X10_move 40 rfl) (fun a12 => ?_)
          refine z_iconst (x := 3) (zat dd_X10_move 41 rfl) (by decide) ?_
          refine z_iald (zat dd_X10_move 42 rfl) (fun x13 => ?_)
          refine z_sub [] rfl ?_
          exact zb_X10_move_76 Y x13 h11
        · refine z_iload_n 0 (zat dd_X10_move 37 rfl) rfl rfl ?_
          refine z_goto (tgt := 76) (zat dd_X10_move 38 rfl) (by decide) ?_
          refine z_sub [] rfl ?_
          exact zb_X10_move_76 Y x10 h11
      · refine z_sub [0] rfl ?_
        exact zb_X10_move_38 Y v0 h7
  · refine z_aload_n 0 (zat dd_X10_move 4 rfl) rfl rfl ?_
    refine z_callV_I0 (M2 := M_X10_bad) [] (fun l D _ _ => m_X10_bad l D v0 h2) u_X10_bad ql_X10_85 qi_X10_bad qs_X10_bad (ci := 6) rfl rfl rfl (Nat.le_of_ble_eq_true rfl) (by decide) rfl rfl (zat dd_X10_move 5 rfl) (fun x14 h15 => ?_)
    exact z_iret rfl (zat dd_X10_move 6 rfl)
/-! PaperDollsModel.puts(I)I -/
def L_X10_puts : List (Nat × Instr × Nat) := [(0, .aload_n 0, 1), (1, .iconst 0, 1), (2, .iload_n 1, 1), (3, .invokevirtual 174, 3), (6, .ireturn, 1)]
theorem dd_X10_puts : ∀ q ∈ L_X10_puts, decode cX10_puts q.1 = .ok q.2 := by decide +kernel
abbrev M_X10_puts : zM := (cX10_puts, RX10, "puts", 2, some .int, 5, 0, 0)
theorem u_X10_puts : zCal yX10_puts (M_X10_puts) 1 := ⟨(zmem 992 (by decide +kernel) rfl : Cond.code yX10_puts cX10_puts 2 (some .int) ∈ zTb), zmem 63 (by decide +kernel) rfl, by decide +kernel, Nat.le_of_ble_eq_true rfl⟩
theorem qi_X10_puts : Cond.instanceMethod yX10_puts ∈ zTb := zmem 990 (by decide +kernel) rfl
theorem qs_X10_puts : Cond.selects yX10_puts.cls yX10_puts yX10_puts ∈ zTb := zmem 991 (by decide +kernel) rfl
def f_X10_puts (v0 : Nat) (v1 : Int32) (h : zH) : zR :=
  zoc h v0 6 <|
  zcI (f_X10_move v0 0 v1 h) fun x1 h2 =>
  zrI x1 h2
set_option maxRecDepth 100000 in
set_option maxHeartbeats 4000000 in
theorem m_X10_puts (l : Launch) (D : zD) (v0 : Nat) (v1 : Int32) (h : zH) : zMet l D yX10_puts M_X10_puts [.ref v0, .int v1] h (f_X10_puts v0 v1 h) := by
  refine zMet.of (by decide +kernel) ⟨rfl, rfl⟩ (Nat.le_of_ble_eq_true rfl) (fun Y hl hD => ?_)
  show Z Y M_X10_puts 0 0 0 [(0, .ref v0), (1, .int v1)] [] h _
  rw [f_X10_puts]
  refine z_aload_n 0 (zat dd_X10_puts 0 rfl) rfl rfl ?_
  refine z_iconst (x := 0) (zat dd_X10_puts 1 rfl) (by decide) ?_
  refine z_iload_n 1 (zat dd_X10_puts 2 rfl) rfl rfl ?_
  refine z_callV_I0 (M2 := M_X10_move) [.int 0, .int v1] (fun l D _ _ => m_X10_move l D v0 0 v1 h) u_X10_move ql_X10_174 qi_X10_move qs_X10_move (ci := 6) rfl rfl rfl (Nat.le_of_ble_eq_true rfl) (by decide) rfl rfl (zat dd_X10_puts 3 rfl) (fun x1 h2 => ?_)
  exact z_iret rfl (zat dd_X10_puts 4 rfl)
/-! PaperDollsModel.takes(I)I -/
def L_X10_takes : List (Nat × Instr × Nat) := [(0, .aload_n 0, 1), (1, .iconst 1, 1), (2, .iload_n 1, 1), (3, .invokevirtual 174, 3), (6, .ireturn, 1)]
theorem dd_X10_takes : ∀ q ∈ L_X10_takes, decode cX10_takes q.1 = .ok q.2 := by decide +kernel
abbrev M_X10_takes : zM := (cX10_takes, RX10, "takes", 2, some .int, 5, 0, 0)
theorem u_X10_takes : zCal yX10_takes (M_X10_takes) 1 := ⟨(zmem 1012 (by decide +kernel) rfl : Cond.code yX10_takes cX10_takes 2 (some .int) ∈ zTb), zmem 63 (by decide +kernel) rfl, by decide +kernel, Nat.le_of_ble_eq_true rfl⟩
theorem qi_X10_takes : Cond.instanceMethod yX10_takes ∈ zTb := zmem 1010 (by decide +kernel) rfl
theorem qs_X10_takes : Cond.selects yX10_takes.cls yX10_takes yX10_takes ∈ zTb := zmem 1011 (by decide +kernel) rfl
def f_X10_takes (v0 : Nat) (v1 : Int32) (h : zH) : zR :=
  zoc h v0 6 <|
  zcI (f_X10_move v0 1 v1 h) fun x1 h2 =>
  zrI x1 h2
set_option maxRecDepth 100000 in
set_option maxHeartbeats 4000000 in
theorem m_X10_takes (l : Launch) (D : zD) (v0 : Nat) (v1 : Int32) (h : zH) : zMet l D yX10_takes M_X10_takes [.ref v0, .int v1] h (f_X10_takes v0 v1 h) := by
  refine zMet.of (by decide +kernel) ⟨rfl, rfl⟩ (Nat.le_of_ble_eq_true rfl) (fun Y hl hD => ?_)
  show Z Y M_X10_takes 0 0 0 [(0, .ref v0), (1, .int v1)] [] h _
  rw [f_X10_takes]
  refine z_aload_n 0 (zat dd_X10_takes 0 rfl) rfl rfl ?_
  refine z_iconst (x := 1) (zat dd_X10_takes 1 rfl) (by decide) ?_
  refine z_iload_n 1 (zat dd_X10_takes 2 rfl) rfl rfl ?_
  refine z_callV_I0 (M2 := M_X10_move) [.int 1, .int v1] (fun l D _ _ => m_X10_move l D v0 1 v1 h) u_X10_move ql_X10_174 qi_X10_move qs_X10_move (ci := 6) rfl rfl rfl (Nat.le_of_ble_eq_true rfl) (by decide) rfl rfl (zat dd_X10_takes 3 rfl) (fun x1 h2 => ?_)
  exact z_iret rfl (zat dd_X10_takes 4 rfl)
/-! PaperDollsModel.mends(I)I -/
def L_X10_mends : List (Nat × Instr × Nat) := [(0, .aload_n 0, 1), (1, .iconst 2, 1), (2, .iload_n 1, 1), (3, .invokevirtual 174, 3), (6, .ireturn, 1)]
theorem dd_X10_mends : ∀ q ∈ L_X10_mends, decode cX10_mends q.1 = .ok q.2 := by decide +kernel
abbrev M_X10_mends : zM := (cX10_mends, RX10, "mends", 2, some .int, 5, 0, 0)
theorem u_X10_mends : zCal yX10_mends (M_X10_mends) 1 := ⟨(zmem 1016 (by decide +kernel) rfl : Cond.code yX10_mends cX10_mends 2 (some .int) ∈ zTb), zmem 63 (by decide +kernel) rfl, by decide +kernel, Nat.le_of_ble_eq_true rfl⟩
theorem qi_X10_mends : Cond.instanceMethod yX10_mends ∈ zTb := zmem 1014 (by decide +kernel) rfl
theorem qs_X10_mends : Cond.selects yX10_mends.cls yX10_mends yX10_mends ∈ zTb := zmem 1015 (by decide +kernel) rfl
def f_X10_mends (v0 : Nat) (v1 : Int32) (h : zH) : zR :=
  zoc h v0 6 <|
  zcI (f_X10_move v0 2 v1 h) fun x1 h2 =>
  zrI x1 h2
set_option maxRecDepth 100000 in
set_option maxHeartbeats 4000000 in
theorem m_X10_mends (l : Launch) (D : zD) (v0 : Nat) (v1 : Int32) (h : zH) : zMet l D yX10_mends M_X10_mends [.ref v0, .int v1] h (f_X10_mends v0 v1 h) := by
  refine zMet.of (by decide +kernel) ⟨rfl, rfl⟩ (Nat.le_of_ble_eq_true rfl) (fun Y hl hD => ?_)
  show Z Y M_X10_mends 0 0 0 [(0, .ref v0), (1, .int v1)] [] h _
  rw [f_X10_mends]
  refine z_aload_n 0 (zat dd_X10_mends 0 rfl) rfl rfl ?_
  refine z_iconst (x := 2) (zat dd_X10_mends 1 rfl) (by decide) ?_
  refine z_iload_n 1 (zat dd_X10_mends 2 rfl) rfl rfl ?_
  refine z_callV_I0 (M2 := M_X10_move) [.int 2, .int v1] (fun l D _ _ => m_X10_move l D v0 2 v1 h) u_X10_move ql_X10_174 qi_X10_move qs_X10_move (ci := 6) rfl rfl rfl (Nat.le_of_ble_eq_true rfl) (by decide) rfl rfl (zat dd_X10_mends 3 rfl) (fun x1 h2 => ?_)
  exact z_iret rfl (zat dd_X10_mends 4 rfl)
/-! PaperDollsModel.undo()I -/
def L_X10_undo : List (Nat × Instr × Nat) := [(0, .aload_n 0, 1), (1, .getfield 95, 3), (4, .ifCond .ne 8, 3), (7, .aload_n 0, 1), (8, .invokevirtual 168, 3), (11, .ireturn, 1), (12, .aload_n 0, 1), (13, .dup, 1), (14, .getfield 95, 3), (17, .iconst 1, 1), (18, .isub, 1), (19, .putfield 95, 3), (22, .bipush 18, 2), (24, .aload_n 0, 1), (25, .getfield 95, 3), (28, .imul, 1), (29, .istore_n 1, 1), (30, .aload_n 0, 1), (31, .getfield 7, 3), (34, .iconst 2, 1), (35, .aload_n 0, 1), (36, .getfield 16, 3), (39, .iload_n 1, 1), (40, .iaload, 1), (41, .iastore, 1), (42, .aload_n 0, 1), (43, .getfield 7, 3), (46, .iconst 3, 1), (47, .aload_n 0, 1), (48, .getfield 16, 3), (51, .iload_n 1, 1), (52, .iconst 1, 1), (53, .iadd, 1), (54, .iaload, 1), (55, .iastore, 1), (56, .iconst 0, 1), (57, .istore_n 2, 1), (58, .iload_n 2, 1), (59, .bipush 8, 2), (61, .if_icmp .ge 47, 3), (64, .aload_n 0, 1), (65, .getfield 7, 3), (68, .iconst 4, 1), (69, .iload_n 2, 1), (70, .iadd, 1), (71, .aload_n 0, 1), (72, .getfield 16, 3), (75, .iload_n 1, 1), (76, .iconst 2, 1), (77, .iadd, 1), (78, .iload_n 2, 1), (79, .iadd, 1), (80, .iaload, 1), (81, .iastore, 1), (82, .aload_n 0, 1), (83, .getfield 7, 3), (86, .bipush 36, 2), (88, .iload_n 2, 1), (89, .iadd, 1), (90, .aload_n 0, 1), (91, .getfield 16, 3), (94, .iload_n 1, 1), (95, .bipush 10, 2), (97, .iadd, 1), (98, .iload_n 2, 1), (99, .iadd, 1), (100, .iaload, 1), (101, .iastore, 1), (102, .iinc 2 1, 3), (105, .goto (-47), 3), (108, .aload_n 0, 1), (109, .getfield 7, 3), (112, .iconst 2, 1), (113, .iaload, 1), (114, .ireturn, 1)]
theorem dd_X10_undo : ∀ q ∈ L_X10_undo, decode cX10_undo q.1 = .ok q.2 := by decide +kernel
abbrev M_X10_undo : zM := (cX10_undo, RX10, "undo", 3, some .int, 1, 0, 0)
theorem u_X10_undo : zCal yX10_undo (M_X10_undo) 0 := ⟨(zmem 1020 (by decide +kernel) rfl : Cond.code yX10_undo cX10_undo 3 (some .int) ∈ zTb), zmem 63 (by decide +kernel) rfl, by decide +kernel, Nat.le_of_ble_eq_true rfl⟩
theorem qi_X10_undo : Cond.instanceMethod yX10_undo ∈ zTb := zmem 1018 (by decide +kernel) rfl
theorem qs_X10_undo : Cond.selects yX10_undo.cls yX10_undo yX10_undo ∈ zTb := zmem 1019 (by decide +kernel) rfl
def f_X10_undo_58 : Nat → Nat → Int32 → Int32 → zH → zR
  | 0, _, _, _, _ => none
  | n + 1, v0, v1, v2, h =>
  if 8 ≤ v2 then
  zgR h v0 6 0 fun a1 =>
  zaI h a1 0 2 fun x2 =>
  zrI x2 h
  else
  zgR h v0 6 0 fun a3 =>
  zgR h v0 6 2 fun a4 =>
  zaI h a4 0 ((v1 + 2) + v2) fun x5 =>
  zsI h a3 0 (4 + v2) x5 fun h6 =>
  zgR h6 v0 6 0 fun a7 =>
  zgR h6 v0 6 2 fun a8 =>
  zaI h6 a8 0 ((v1 + 10) + v2) fun x9 =>
  zsI h6 a7 0 (36 + v2) x9 fun h10 =>
  f_X10_undo_58 n v0 v1 (v2 + 1) h10
set_option maxRecDepth 100000 in
set_option maxHeartbeats 4000000 in
theorem zb_X10_undo_58 (Y : zY) : ∀ (n : Nat) (v0 : Nat) (v1 : Int32) (v2 : Int32) (h : zH), Z Y M_X10_undo 0 0 58 [(0, .ref v0), (1, .int v1), (2, .int v2)] [] h (f_X10_undo_58 n v0 v1 v2 h) := by
  intro n
  induction n with
  | zero =>
    intro v0 v1 v2 h
    rw [f_X10_undo_58]
    exact z_none
  | succ n ih =>
    intro v0 v1 v2 h
    rw [f_X10_undo_58]
    refine z_iload_n 2 (zat dd_X10_undo 37 rfl) rfl rfl ?_
    refine z_bipush (x := 8) (zat dd_X10_undo 38 rfl) (by decide) ?_
    refine z_icmp_ge (tgt := 108) (zat dd_X10_undo 39 rfl) (by decide) ?_ ?_
    · refine z_aload_n 0 (zat dd_X10_undo 70 rfl) rfl rfl ?_
      refine z_getR fl_X10_7 (zat dd_X10_undo 71 rfl) (fun a1 => ?_)
      refine z_iconst (x := 2) (zat dd_X10_undo 72 rfl) (by decide) ?_
      refine z_iald (zat dd_X10_undo 73 rfl) (fun x2 => ?_)
      exact z_iret rfl (zat dd_X10_undo 74 rfl)
    · refine z_aload_n 0 (zat dd_X10_undo 40 rfl) rfl rfl ?_
      refine z_getR fl_X10_7 (zat dd_X10_undo 41 rfl) (fun a3 => ?_)
      refine z_iconst (x := 4) (zat dd_X10_undo 42 rfl) (by decide) ?_
      refine z_iload_n 2 (zat dd_X10_undo 43 rfl) rfl rfl ?_
      refine z_iadd (zat dd_X10_undo 44 rfl) ?_
      refine z_aload_n 0 (zat dd_X10_undo 45 rfl) rfl rfl ?_
      refine z_getR fl_X10_16 (zat dd_X10_undo 46 rfl) (fun a4 => ?_)
      refine z_iload_n 1 (zat dd_X10_undo 47 rfl) rfl rfl ?_
      refine z_iconst (x := 2) (zat dd_X10_undo 48 rfl) (by decide) ?_
      refine z_iadd (zat dd_X10_undo 49 rfl) ?_
      refine z_iload_n 2 (zat dd_X10_undo 50 rfl) rfl rfl ?_
      refine z_iadd (zat dd_X10_undo 51 rfl) ?_
      refine z_iald (zat dd_X10_undo 52 rfl) (fun x5 => ?_)
      refine z_iast (zat dd_X10_undo 53 rfl) (fun h6 => ?_)
      refine z_aload_n 0 (zat dd_X10_undo 54 rfl) rfl rfl ?_
      refine z_getR fl_X10_7 (zat dd_X10_undo 55 rfl) (fun a7 => ?_)
      refine z_bipush (x := 36) (zat dd_X10_undo 56 rfl) (by decide) ?_
      refine z_iload_n 2 (zat dd_X10_undo 57 rfl) rfl rfl ?_
      refine z_iadd (zat dd_X10_undo 58 rfl) ?_
      refine z_aload_n 0 (zat dd_X10_undo 59 rfl) rfl rfl ?_
      refine z_getR fl_X10_16 (zat dd_X10_undo 60 rfl) (fun a8 => ?_)
      refine z_iload_n 1 (zat dd_X10_undo 61 rfl) rfl rfl ?_
      refine z_bipush (x := 10) (zat dd_X10_undo 62 rfl) (by decide) ?_
      refine z_iadd (zat dd_X10_undo 63 rfl) ?_
      refine z_iload_n 2 (zat dd_X10_undo 64 rfl) rfl rfl ?_
      refine z_iadd (zat dd_X10_undo 65 rfl) ?_
      refine z_iald (zat dd_X10_undo 66 rfl) (fun x9 => ?_)
      refine z_iast (zat dd_X10_undo 67 rfl) (fun h10 => ?_)
      refine z_iinc (y := v2 + 1) (lv' := [(2, .int (v2 + 1)), (0, .ref v0), (1, .int v1)]) 2 (zat dd_X10_undo 68 rfl) rfl rfl (Nat.le_of_ble_eq_true rfl) rfl ?_
      refine z_goto (tgt := 58) (zat dd_X10_undo 69 rfl) (by decide) ?_
      refine z_sub [1, 2, 0] rfl ?_
      exact ih v0 v1 (v2 + 1) h10
def f_X10_undo (v0 : Nat) (h : zH) : zR :=
  zgI h v0 6 3 fun x1 =>
  if x1 = 0 then
  zoc h v0 6 <|
  zcI (f_X10_no v0 h) fun x14 h15 =>
  zrI x14 h15
  else
  zgI h v0 6 3 fun x2 =>
  zpV h v0 6 3 (.int (x2 - 1)) fun h3 =>
  zgI h3 v0 6 3 fun x4 =>
  zlt (18 * x4) fun x5 =>
  zgR h3 v0 6 0 fun a6 =>
  zgR h3 v0 6 2 fun a7 =>
  zaI h3 a7 0 x5 fun x8 =>
  zsI h3 a6 0 2 x8 fun h9 =>
  zgR h9 v0 6 0 fun a10 =>
  zgR h9 v0 6 2 fun a11 =>
  zaI h9 a11 0 (x5 + 1) fun x12 =>
  zsI h9 a10 0 3 x12 fun h13 =>
  f_X10_undo_58 zF v0 x5 0 h13
set_option maxRecDepth 100000 in
set_option maxHeartbeats 4000000 in
theorem m_X10_undo (l : Launch) (D : zD) (v0 : Nat) (h : zH) : zMet l D yX10_undo M_X10_undo [.ref v0] h (f_X10_undo v0 h) := by
  refine zMet.of (by decide +kernel) ⟨rfl, rfl⟩ (Nat.le_of_ble_eq_true rfl) (fun Y hl hD => ?_)
  show Z Y M_X10_undo 0 0 0 [(0, .ref v0)] [] h _
  rw [f_X10_undo]
  refine z_aload_n 0 (zat dd_X10_undo 0 rfl) rfl rfl ?_
  refine z_getI fl_X10_95 (zat dd_X10_undo 1 rfl) (fun x1 => ?_)
  refine z_if_ne (tgt := 12) (zat dd_X10_undo 2 rfl) (by decide) ?_ ?_
  · refine z_aload_n 0 (zat dd_X10_undo 6 rfl) rfl rfl ?_
    refine z_dup (zat dd_X10_undo 7 rfl) rfl ?_
    refine z_getI fl_X10_95 (zat dd_X10_undo 8 rfl) (fun x2 => ?_)
    refine z_iconst (x := 1) (zat dd_X10_undo 9 rfl) (by decide) ?_
    refine z_isub (zat dd_X10_undo 10 rfl) ?_
    refine z_put fl_X10_95 rfl rfl (zat dd_X10_undo 11 rfl) (fun h3 => ?_)
    refine z_bipush (x := 18) (zat dd_X10_undo 12 rfl) (by decide) ?_
    refine z_aload_n 0 (zat dd_X10_undo 13 rfl) rfl rfl ?_
    refine z_getI fl_X10_95 (zat dd_X10_undo 14 rfl) (fun x4 => ?_)
    refine z_imul (zat dd_X10_undo 15 rfl) ?_
    refine z_let (fun x5 => ?_)
    refine z_istore_n (lv' := [(1, .int x5), (0, .ref v0)]) (zat dd_X10_undo 16 rfl) rfl (Nat.le_of_ble_eq_true rfl) rfl ?_
    refine z_aload_n 1 (zat dd_X10_undo 17 rfl) rfl rfl ?_
    refine z_getR fl_X10_7 (zat dd_X10_undo 18 rfl) (fun a6 => ?_)
    refine z_iconst (x := 2) (zat dd_X10_undo 19 rfl) (by decide) ?_
    refine z_aload_n 1 (zat dd_X10_undo 20 rfl) rfl rfl ?_
    refine z_getR fl_X10_16 (zat dd_X10_undo 21 rfl) (fun a7 => ?_)
    refine z_iload_n 0 (zat dd_X10_undo 22 rfl) rfl rfl ?_
    refine z_iald (zat dd_X10_undo 23 rfl) (fun x8 => ?_)
    refine z_iast (zat dd_X10_undo 24 rfl) (fun h9 => ?_)
    refine z_aload_n 1 (zat dd_X10_undo 25 rfl) rfl rfl ?_
    refine z_getR fl_X10_7 (zat dd_X10_undo 26 rfl) (fun a10 => ?_)
    refine z_iconst (x := 3) (zat dd_X10_undo 27 rfl) (by decide) ?_
    refine z_aload_n 1 (zat dd_X10_undo 28 rfl) rfl rfl ?_
    refine z_getR fl_X10_16 (zat dd_X10_undo 29 rfl) (fun a11 => ?_)
    refine z_iload_n 0 (zat dd_X10_undo 30 rfl) rfl rfl ?_
    refine z_iconst (x := 1) (zat dd_X10_undo 31 rfl) (by decide) ?_
    refine z_iadd (zat dd_X10_undo 32 rfl) ?_
    refine z_iald (zat dd_X10_undo 33 rfl) (fun x12 => ?_)
    refine z_iast (zat dd_X10_undo 34 rfl) (fun h13 => ?_)
    refine z_iconst (x := 0) (zat dd_X10_undo 35 rfl) (by decide) ?_
    refine z_istore_n (lv' := [(2, .int 0), (1, .int x5), (0, .ref v0)]) (zat dd_X10_undo 36 rfl) rfl (Nat.le_of_ble_eq_true rfl) rfl ?_
    refine z_sub [2, 1, 0] rfl ?_
    exact zb_X10_undo_58 Y zF v0 x5 0 h13
  · refine z_aload_n 0 (zat dd_X10_undo 3 rfl) rfl rfl ?_
    refine z_callV_I0 (M2 := M_X10_no) [] (fun l D _ _ => m_X10_no l D v0 h) u_X10_no ql_X10_168 qi_X10_no qs_X10_no (ci := 6) rfl rfl rfl (Nat.le_of_ble_eq_true rfl) (by decide) rfl rfl (zat dd_X10_undo 4 rfl) (fun x14 h15 => ?_)
    exact z_iret rfl (zat dd_X10_undo 5 rfl)
/-! PaperDollsModel.of(II)I -/
def L_X10_of : List (Nat × Instr × Nat) := [(0, .aload_n 0, 1), (1, .iload_n 1, 1), (2, .invokevirtual 165, 3), (5, .ifCond .eq 15, 3), (8, .iload_n 2, 1), (9, .i2l, 1), (10, .lconst 0, 1), (11, .ldc2_w 178, 3), (14, .invokestatic 48, 3), (17, .ifCond .ne 8, 3), (20, .aload_n 0, 1), (21, .invokevirtual 85, 3), (24, .ireturn, 1), (25, .aload_n 0, 1), (26, .invokevirtual 106, 3), (29, .iload_n 2, 1), (30, .tableswitch 97 0 5 #[38, 48, 58, 68, 78, 84], 38), (68, .aload_n 0, 1), (69, .getfield 7, 3), (72, .bipush 12, 2), (74, .iload_n 1, 1), (75, .iadd, 1), (76, .iaload, 1), (77, .ireturn, 1), (78, .aload_n 0, 1), (79, .getfield 7, 3), (82, .bipush 20, 2), (84, .iload_n 1, 1), (85, .iadd, 1), (86, .iaload, 1), (87, .ireturn, 1), (88, .aload_n 0, 1), (89, .getfield 7, 3), (92, .bipush 28, 2), (94, .iload_n 1, 1), (95, .iadd, 1), (96, .iaload, 1), (97, .ireturn, 1), (98, .aload_n 0, 1), (99, .getfield 7, 3), (102, .bipush 36, 2), (104, .iload_n 1, 1), (105, .iadd, 1), (106, .iaload, 1), (107, .ireturn, 1), (108, .aload_n 0, 1), (109, .iload_n 1, 1), (110, .invokevirtual 56, 3), (113, .ireturn, 1), (114, .aload_n 0, 1), (115, .getfield 7, 3), (118, .bipush 12, 2), (120, .iload_n 1, 1), (121, .iadd, 1), (122, .iaload, 1), (123, .invokestatic 63, 3), (126, .ireturn, 1), (127, .aload_n 0, 1), (128, .iload_n 1, 1), (129, .invokevirtual 60, 3), (132, .ireturn, 1)]
theorem dd_X10_of : ∀ q ∈ L_X10_of, decode cX10_of q.1 = .ok q.2 := by decide +kernel
abbrev M_X10_of : zM := (cX10_of, RX10, "of", 3, some .int, 2, 0, 0)
theorem u_X10_of : zCal yX10_of (M_X10_of) 2 := ⟨(zmem 1024 (by decide +kernel) rfl : Cond.code yX10_of cX10_of 3 (some .int) ∈ zTb), zmem 63 (by decide +kernel) rfl, by decide +kernel, Nat.le_of_ble_eq_true rfl⟩
theorem qi_X10_of : Cond.instanceMethod yX10_of ∈ zTb := zmem 1022 (by decide +kernel) rfl
theorem qs_X10_of : Cond.selects yX10_of.cls yX10_of yX10_of ∈ zTb := zmem 1023 (by decide +kernel) rfl
def f_X10_of_20 (v0 : Nat) (h : zH) : zR :=
  zoc h v0 6 <|
  zcI (f_X10_bad v0 h) fun x1 h2 =>
  zrI x1 h2
set_option maxRecDepth 100000 in
set_option maxHeartbeats 4000000 in
theorem zb_X10_of_20 (Y : zY) (v0 : Nat) (h : zH) : Z Y M_X10_of 0 0 20 [(0, .ref v0)] [] h (f_X10_of_20 v0 h) := by
  rw [f_X10_of_20]
  refine z_aload_n 0 (zat dd_X10_of 10 rfl) rfl rfl ?_
  refine z_callV_I0 (M2 := M_X10_bad) [] (fun l D _ _ => m_X10_bad l D v0 h) u_X10_bad ql_X10_85 qi_X10_bad qs_X10_bad (ci := 6) rfl rfl rfl (Nat.le_of_ble_eq_true rfl) (by decide) rfl rfl (zat dd_X10_of 11 rfl) (fun x1 h2 => ?_)
  exact z_iret rfl (zat dd_X10_of 12 rfl)
def f_X10_of (v0 : Nat) (v1 : Int32) (v2 : Int32) (h : zH) : zR :=
  zoc h v0 6 <|
  zcI (f_X10_isPiece v0 v1 h) fun x1 h2 =>
  if x1 = 0 then
  f_X10_of_20 v0 h2
  else
  zcI (f_X10_in ((v2 : Int32).toInt64) 0 6 h2) fun x3 h4 =>
  if x3 = 0 then
  f_X10_of_20 v0 h4
  else
  zoc h4 v0 6 <|
  zcV (f_X10_aside v0 h4) fun h5 =>
  if v2 = 0 then
  zgR h5 v0 6 0 fun a6 =>
  zaI h5 a6 0 (12 + v1) fun x7 =>
  zrI x7 h5
  else
  if v2 = 1 then
  zgR h5 v0 6 0 fun a8 =>
  zaI h5 a8 0 (20 + v1) fun x9 =>
  zrI x9 h5
  else
  if v2 = 2 then
  zgR h5 v0 6 0 fun a10 =>
  zaI h5 a10 0 (28 + v1) fun x11 =>
  zrI x11 h5
  else
  if v2 = 3 then
  zgR h5 v0 6 0 fun a12 =>
  zaI h5 a12 0 (36 + v1) fun x13 =>
  zrI x13 h5
  else
  if v2 = 4 then
  zoc h5 v0 6 <|
  zcI (f_X10_placeOf v0 v1 h5) fun x14 h15 =>
  zrI x14 h15
  else
  if v2 = 5 then
  zgR h5 v0 6 0 fun a16 =>
  zaI h5 a16 0 (12 + v1) fun x17 =>
  zcI (f_X10_covers x17 h5) fun x18 h19 =>
  zrI x18 h19
  else
  zoc h5 v0 6 <|
  zcI (f_X10_holdsOf v0 v1 h5) fun x20 h21 =>
  zrI x20 h21
set_option maxRecDepth 100000 in
set_option maxHeartbeats 4000000 in
theorem m_X10_of (l : Launch) (D : zD) (v0 : Nat) (v1 : Int32) (v2 : Int32) (h : zH) : zMet l D yX10_of M_X10_of [.ref v0, .int v1, .int v2] h (f_X10_of v0 v1 v2 h) := by
  refine zMet.of (by decide +kernel) ⟨rfl, rfl⟩ (Nat.le_of_ble_eq_true rfl) (fun Y hl hD => ?_)
  show Z Y M_X10_of 0 0 0 [(0, .ref v0), (1, .int v1), (2, .int v2)] [] h _
  rw [f_X10_of]
  refine z_aload_n 0 (zat dd_X10_of 0 rfl) rfl rfl ?_
  refine z_iload_n 1 (zat dd_X10_of 1 rfl) rfl rfl ?_
  refine z_callV_I0 (M2 := M_X10_isPiece) [.int v1] (fun l D _ _ => m_X10_isPiece l D v0 v1 h) u_X10_isPiece ql_X10_165 qi_X10_isPiece qs_X10_isPiece (ci := 6) rfl rfl rfl (Nat.le_of_ble_eq_true rfl) (by decide) rfl rfl (zat dd_X10_of 2 rfl) (fun x1 h2 => ?_)
  refine z_if_eq (tgt := 20) (zat dd_X10_of 3 rfl) (by decide) ?_ ?_
  · refine z_sub [0] rfl ?_
    exact zb_X10_of_20 Y v0 h2
  · refine z_iload_n 2 (zat dd_X10_of 4 rfl) rfl rfl ?_
    refine z_i2l (zat dd_X10_of 5 rfl) ?_
    refine z_lconst (x := 0) (zat dd_X10_of 6 rfl) (by decide) ?_
    refine z_ldc2 (x := 6) qk_X10_178 (zat dd_X10_of 7 rfl) ?_
    refine z_callS_I0 (M2 := M_X10_in) [.long ((v2 : Int32).toInt64), .long 0, .long 6] (fun l D _ _ => m_X10_in l D ((v2 : Int32).toInt64) 0 6 h2) u_X10_in ql_X10_48 qi_X10_in rfl rfl (Nat.le_of_ble_eq_true rfl) (by decide) rfl rfl (zat dd_X10_of 8 rfl) (fun x3 h4 => ?_)
    refine z_if_ne (tgt := 25) (zat dd_X10_of 9 rfl) (by decide) ?_ ?_
    · refine z_aload_n 0 (zat dd_X10_of 13 rfl) rfl rfl ?_
      refine z_callV_V0 (M2 := M_X10_aside) [] (fun l D _ _ => m_X10_aside l D v0 h4) u_X10_aside ql_X10_106 qi_X10_aside qs_X10_aside (ci := 6) rfl rfl rfl (Nat.le_of_ble_eq_true rfl) (by decide) rfl rfl (zat dd_X10_of 14 rfl) (fun h5 => ?_)
      refine z_iload_n 2 (zat dd_X10_of 15 rfl) rfl rfl ?_
      refine z_ite (fun c0 => ?_) (fun c0 => ?_)
      · refine z_tabIn (tgt := 68) 0 c0 (zat dd_X10_of 16 rfl) (by decide) (by decide) rfl (by decide) ?_
        refine z_aload_n 0 (zat dd_X10_of 17 rfl) rfl rfl ?_
        refine z_getR fl_X10_7 (zat dd_X10_of 18 rfl) (fun a6 => ?_)
        refine z_bipush (x := 12) (zat dd_X10_of 19 rfl) (by decide) ?_
        refine z_iload_n 1 (zat dd_X10_of 20 rfl) rfl rfl ?_
        refine z_iadd (zat dd_X10_of 21 rfl) ?_
        refine z_iald (zat dd_X10_of 22 rfl) (fun x7 => ?_)
        exact z_iret rfl (zat dd_X10_of 23 rfl)
      refine z_ite (fun c1 => ?_) (fun c1 => ?_)
      · refine z_tabIn (tgt := 78) 1 c1 (zat dd_X10_of 16 rfl) (by decide) (by decide) rfl (by decide) ?_
        refine z_aload_n 0 (zat dd_X10_of 24 rfl) rfl rfl ?_
        refine z_getR fl_X10_7 (zat dd_X10_of 25 rfl) (fun a8 => ?_)
        refine z_bipush (x := 20) (zat dd_X10_of 26 rfl) (by decide) ?_
        refine z_iload_n 1 (zat dd_X10_of 27 rfl) rfl rfl ?_
        refine z_iadd (zat dd_X10_of 28 rfl) ?_
        refine z_iald (zat dd_X10_of 29 rfl) (fun x9 => ?_)
        exact z_iret rfl (zat dd_X10_of 30 rfl)
      refine z_ite (fun c2 => ?_) (fun c2 => ?_)
      · refine z_tabIn (tgt := 88) 2 c2 (zat dd_X10_of 16 rfl) (by decide) (by decide) rfl (by decide) ?_
        refine z_aload_n 0 (zat dd_X10_of 31 rfl) rfl rfl ?_
        refine z_getR fl_X10_7 (zat dd_X10_of 32 rfl) (fun a10 => ?_)
        refine z_bipush (x := 28) (zat dd_X10_of 33 rfl) (by decide) ?_
        refine z_iload_n 1 (zat dd_X10_of 34 rfl) rfl rfl ?_
        refine z_iadd (zat dd_X10_of 35 rfl) ?_
        refine z_iald (zat dd_X10_of 36 rfl) (fun x11 => ?_)
        exact z_iret rfl (zat dd_X10_of 37 rfl)
      refine z_ite (fun c3 => ?_) (fun c3 => ?_)
      · refine z_tabIn (tgt := 98) 3 c3 (zat dd_X10_of 16 rfl) (by decide) (by decide) rfl (by decide) ?_
        refine z_aload_n 0 (zat dd_X10_of 38 rfl) rfl rfl ?_
        refine z_getR fl_X10_7 (zat dd_X10_of 39 rfl) (fun a12 => ?_)
        refine z_bipush (x := 36) (zat dd_X10_of 40 rfl) (by decide) ?_
        refine z_iload_n 1 (zat dd_X10_of 41 rfl) rfl rfl ?_
        refine z_iadd (zat dd_X10_of 42 rfl) ?_
        refine z_iald (zat dd_X10_of 43 rfl) (fun x13 => ?_)
        exact z_iret rfl (zat dd_X10_of 44 rfl)
      refine z_ite (fun c4 => ?_) (fun c4 => ?_)
      · refine z_tabIn (tgt := 108) 4 c4 (zat dd_X10_of 16 rfl) (by decide) (by decide) rfl (by decide) ?_
        refine z_aload_n 0 (zat dd_X10_of 45 rfl) rfl rfl ?_
        refine z_iload_n 1 (zat dd_X10_of 46 rfl) rfl rfl ?_
        refine z_callV_I0 (M2 := M_X10_placeOf) [.int v1] (fun l D _ _ => m_X10_placeOf l D v0 v1 h5) u_X10_placeOf ql_X10_56 qi_X10_placeOf qs_X10_placeOf (ci := 6) rfl rfl rfl (Nat.le_of_ble_eq_true rfl) (by decide) rfl rfl (zat dd_X10_of 47 rfl) (fun x14 h15 => ?_)
        exact z_iret rfl (zat dd_X10_of 48 rfl)
      refine z_ite (fun c5 => ?_) (fun c5 => ?_)
      · refine z_tabIn (tgt := 114) 5 c5 (zat dd_X10_of 16 rfl) (by decide) (by decide) rfl (by decide) ?_
        refine z_aload_n 0 (zat dd_X10_of 49 rfl) rfl rfl ?_
        refine z_getR fl_X10_7 (zat dd_X10_of 50 rfl) (fun a16 => ?_)
        refine z_bipush (x := 12) (zat dd_X10_of 51 rfl) (by decide) ?_
        refine z_iload_n 1 (zat dd_X10_of 52 rfl) rfl rfl ?_
        refine z_iadd (zat dd_X10_of 53 rfl) ?_
        refine z_iald (zat dd_X10_of 54 rfl) (fun x17 => ?_)
        refine z_callS_I0 (M2 := M_X10_covers) [.int x17] (fun l D _ _ => m_X10_covers l D x17 h5) u_X10_covers ql_X10_63 qi_X10_covers rfl rfl (Nat.le_of_ble_eq_true rfl) (by decide) rfl rfl (zat dd_X10_of 55 rfl) (fun x18 h19 => ?_)
        exact z_iret rfl (zat dd_X10_of 56 rfl)
      refine z_tabOut (tgt := 127) (zat dd_X10_of 16 rfl) (by have g0 := lv_neT (a := 0) c0 rfl; have g1 := lv_neT (a := 1) c1 rfl; have g2 := lv_neT (a := 2) c2 rfl; have g3 := lv_neT (a := 3) c3 rfl; have g4 := lv_neT (a := 4) c4 rfl; have g5 := lv_neT (a := 5) c5 rfl; omega) (by decide) ?_
      refine z_aload_n 0 (zat dd_X10_of 57 rfl) rfl rfl ?_
      refine z_iload_n 1 (zat dd_X10_of 58 rfl) rfl rfl ?_
      refine z_callV_I0 (M2 := M_X10_holdsOf) [.int v1] (fun l D _ _ => m_X10_holdsOf l D v0 v1 h5) u_X10_holdsOf ql_X10_60 qi_X10_holdsOf qs_X10_holdsOf (ci := 6) rfl rfl rfl (Nat.le_of_ble_eq_true rfl) (by decide) rfl rfl (zat dd_X10_of 59 rfl) (fun x20 h21 => ?_)
      exact z_iret rfl (zat dd_X10_of 60 rfl)
    · refine z_sub [0] rfl ?_
      exact zb_X10_of_20 Y v0 h4
/-! PaperDollsModel.seen(I)I -/
def L_X10_seen : List (Nat × Instr × Nat) := [(0, .iload_n 1, 1), (1, .i2l, 1), (2, .lconst 0, 1), (3, .ldc2_w 99, 3), (6, .invokestatic 48, 3), (9, .ifCond .ne 8, 3), (12, .aload_n 0, 1), (13, .invokevirtual 85, 3), (16, .ireturn, 1), (17, .bipush (-101), 2), (19, .istore_n 2, 1), (20, .iconst 0, 1), (21, .istore_n 3, 1), (22, .iload_n 3, 1), (23, .aload_n 0, 1), (24, .getfield 7, 3), (27, .iconst 3, 1), (28, .iaload, 1), (29, .if_icmp .ge 46, 3), (32, .aload_n 0, 1), (33, .getfield 7, 3), (36, .iconst 4, 1), (37, .iload_n 3, 1), (38, .iadd, 1), (39, .iaload, 1), (40, .istore 4, 2), (42, .aload_n 0, 1), (43, .getfield 7, 3), (46, .bipush 12, 2), (48, .iload 4, 2), (50, .iadd, 1), (51, .iaload, 1), (52, .invokestatic 63, 3), (55, .iload_n 1, 1), (56, .invokestatic 180, 3), (59, .ifCond .eq 8, 3), (62, .iload 4, 2), (64, .goto 4, 3), (67, .iload_n 2, 1), (68, .istore_n 2, 1), (69, .iinc 3 1, 3), (72, .goto (-50), 3), (75, .iload_n 2, 1), (76, .ireturn, 1)]
theorem dd_X10_seen : ∀ q ∈ L_X10_seen, decode cX10_seen q.1 = .ok q.2 := by decide +kernel
abbrev M_X10_seen : zM := (cX10_seen, RX10, "seen", 5, some .int, 1, 0, 0)
theorem u_X10_seen : zCal yX10_seen (M_X10_seen) 1 := ⟨(zmem 1029 (by decide +kernel) rfl : Cond.code yX10_seen cX10_seen 5 (some .int) ∈ zTb), zmem 63 (by decide +kernel) rfl, by decide +kernel, Nat.le_of_ble_eq_true rfl⟩
theorem qi_X10_seen : Cond.instanceMethod yX10_seen ∈ zTb := zmem 1027 (by decide +kernel) rfl
theorem qs_X10_seen : Cond.selects yX10_seen.cls yX10_seen yX10_seen ∈ zTb := zmem 1028 (by decide +kernel) rfl
def f_X10_seen_68 (k22 : Nat → Int32 → Int32 → Int32 → zH → zR) (v0 : Nat) (v1 : Int32) (v3 : Int32) (t0 : Int32) (h : zH) : zR :=
  k22 v0 v1 t0 (v3 + 1) h
set_option maxRecDepth 100000 in
set_option maxHeartbeats 4000000 in
theorem zb_X10_seen_68 (Y : zY) (k22 : Nat → Int32 → Int32 → Int32 → zH → zR) (hk22 : ∀ (v0 : Nat) (v1 : Int32) (v2 : Int32) (v3 : Int32) (h : zH), Z Y M_X10_seen 0 0 22 [(0, .ref v0), (1, .int v1), (2, .int v2), (3, .int v3)] [] h (k22 v0 v1 v2 v3 h)) (v0 : Nat) (v1 : Int32) (v3 : Int32) (t0 : Int32) (h : zH) : Z Y M_X10_seen 0 0 68 [(0, .ref v0), (1, .int v1), (3, .int v3)] [.int t0] h (f_X10_seen_68 k22 v0 v1 v3 t0 h) := by
  rw [f_X10_seen_68]
  refine z_istore_n (lv' := [(2, .int t0), (0, .ref v0), (1, .int v1), (3, .int v3)]) (zat dd_X10_seen 39 rfl) rfl (Nat.le_of_ble_eq_true rfl) rfl ?_
  refine z_iinc (y := v3 + 1) (lv' := [(3, .int (v3 + 1)), (2, .int t0), (0, .ref v0), (1, .int v1)]) 3 (zat dd_X10_seen 40 rfl) rfl rfl (Nat.le_of_ble_eq_true rfl) rfl ?_
  refine z_goto (tgt := 22) (zat dd_X10_seen 41 rfl) (by decide) ?_
  refine z_sub [2, 3, 1, 0] rfl ?_
  exact hk22 v0 v1 t0 (v3 + 1) h
def f_X10_seen_22 : Nat → Nat → Int32 → Int32 → Int32 → zH → zR
  | 0, _, _, _, _, _ => none
  | n + 1, v0, v1, v2, v3, h =>
  zgR h v0 6 0 fun a1 =>
  zaI h a1 0 3 fun x2 =>
  if x2 ≤ v3 then
  zrI v2 h
  else
  zgR h v0 6 0 fun a3 =>
  zaI h a3 0 (4 + v3) fun x4 =>
  zgR h v0 6 0 fun a5 =>
  zaI h a5 0 (12 + x4) fun x6 =>
  zcI (f_X10_covers x6 h) fun x7 h8 =>
  zcI (f_X10_has x7 v1 h8) fun x9 h10 =>
  if x9 = 0 then
  f_X10_seen_68 (f_X10_seen_22 n) v0 v1 v3 v2 h10
  else
  f_X10_seen_68 (f_X10_seen_22 n) v0 v1 v3 x4 h10
set_option maxRecDepth 100000 in
set_option maxHeartbeats 4000000 in
theorem zb_X10_seen_22 (Y : zY) : ∀ (n : Nat) (v0 : Nat) (v1 : Int32) (v2 : Int32) (v3 : Int32) (h : zH), Z Y M_X10_seen 0 0 22 [(0, .ref v0), (1, .int v1), (2, .int v2), (3, .int v3)] [] h (f_X10_seen_22 n v0 v1 v2 v3 h) := by
  intro n
  induction n with
  | zero =>
    intro v0 v1 v2 v3 h
    rw [f_X10_seen_22]
    exact z_none
  | succ n ih =>
    intro v0 v1 v2 v3 h
    rw [f_X10_seen_22]
    refine z_iload_n 3 (zat dd_X10_seen 13 rfl) rfl rfl ?_
    refine z_aload_n 0 (zat dd_X10_seen 14 rfl) rfl rfl ?_
    refine z_getR fl_X10_7 (zat dd_X10_seen 15 rfl) (fun a1 => ?_)
    refine z_iconst (x := 3) (zat dd_X10_seen 16 rfl) (by decide) ?_
    refine z_iald (zat dd_X10_seen 17 rfl) (fun x2 => ?_)
    refine z_icmp_ge (tgt := 75) (zat dd_X10_seen 18 rfl) (by decide) ?_ ?_
    · refine z_iload_n 2 (zat dd_X10_seen 42 rfl) rfl rfl ?_
      exact z_iret rfl (zat dd_X10_seen 43 rfl)
    · refine z_aload_n 0 (zat dd_X10_seen 19 rfl) rfl rfl ?_
      refine z_getR fl_X10_7 (zat dd_X10_seen 20 rfl) (fun a3 => ?_)
      refine z_iconst (x := 4) (zat dd_X10_seen 21 rfl) (by decide) ?_
      refine z_iload_n 3 (zat dd_X10_seen 22 rfl) rfl rfl ?_
      refine z_iadd (zat dd_X10_seen 23 rfl) ?_
      refine z_iald (zat dd_X10_seen 24 rfl) (fun x4 => ?_)
      refine z_istore (lv' := [(4, .int x4), (0, .ref v0), (1, .int v1), (2, .int v2), (3, .int v3)]) (zat dd_X10_seen 25 rfl) (Nat.le_of_ble_eq_true rfl) rfl ?_
      refine z_aload_n 1 (zat dd_X10_seen 26 rfl) rfl rfl ?_
      refine z_getR fl_X10_7 (zat dd_X10_seen 27 rfl) (fun a5 => ?_)
      refine z_bipush (x := 12) (zat dd_X10_seen 28 rfl) (by decide) ?_
      refine z_iload 0 (zat dd_X10_seen 29 rfl) rfl ?_
      refine z_iadd (zat dd_X10_seen 30 rfl) ?_
      refine z_iald (zat dd_X10_seen 31 rfl) (fun x6 => ?_)
      refine z_callS_I0 (M2 := M_X10_covers) [.int x6] (fun l D _ _ => m_X10_covers l D x6 h) u_X10_covers ql_X10_63 qi_X10_covers rfl rfl (Nat.le_of_ble_eq_true rfl) (by decide) rfl rfl (zat dd_X10_seen 32 rfl) (fun x7 h8 => ?_)
      refine z_iload_n 2 (zat dd_X10_seen 33 rfl) rfl rfl ?_
      refine z_callS_I0 (M2 := M_X10_has) [.int x7, .int v1] (fun l D _ _ => m_X10_has l D x7 v1 h8) u_X10_has ql_X10_180 qi_X10_has rfl rfl (Nat.le_of_ble_eq_true rfl) (by decide) rfl rfl (zat dd_X10_seen 34 rfl) (fun x9 h10 => ?_)
      refine z_if_eq (tgt := 67) (zat dd_X10_seen 35 rfl) (by decide) ?_ ?_
      · refine z_iload_n 3 (zat dd_X10_seen 38 rfl) rfl rfl ?_
        refine z_sub [1, 2, 4] rfl ?_
        exact zb_X10_seen_68 Y (f_X10_seen_22 n) ih v0 v1 v3 v2 h10
      · refine z_iload 0 (zat dd_X10_seen 36 rfl) rfl ?_
        refine z_goto (tgt := 68) (zat dd_X10_seen 37 rfl) (by decide) ?_
        refine z_sub [1, 2, 4] rfl ?_
        exact zb_X10_seen_68 Y (f_X10_seen_22 n) ih v0 v1 v3 x4 h10
def f_X10_seen (v0 : Nat) (v1 : Int32) (h : zH) : zR :=
  zcI (f_X10_in ((v1 : Int32).toInt64) 0 3 h) fun x1 h2 =>
  if x1 = 0 then
  zoc h2 v0 6 <|
  zcI (f_X10_bad v0 h2) fun x3 h4 =>
  zrI x3 h4
  else
  f_X10_seen_22 zF v0 v1 (-101) 0 h2
set_option maxRecDepth 100000 in
set_option maxHeartbeats 4000000 in
theorem m_X10_seen (l : Launch) (D : zD) (v0 : Nat) (v1 : Int32) (h : zH) : zMet l D yX10_seen M_X10_seen [.ref v0, .int v1] h (f_X10_seen v0 v1 h) := by
  refine zMet.of (by decide +kernel) ⟨rfl, rfl⟩ (Nat.le_of_ble_eq_true rfl) (fun Y hl hD => ?_)
  show Z Y M_X10_seen 0 0 0 [(0, .ref v0), (1, .int v1)] [] h _
  rw [f_X10_seen]
  refine z_iload_n 1 (zat dd_X10_seen 0 rfl) rfl rfl ?_
  refine z_i2l (zat dd_X10_seen 1 rfl) ?_
  refine z_lconst (x := 0) (zat dd_X10_seen 2 rfl) (by decide) ?_
  refine z_ldc2 (x := 3) qk_X10_99 (zat dd_X10_seen 3 rfl) ?_
  refine z_callS_I0 (M2 := M_X10_in) [.long ((v1 : Int32).toInt64), .long 0, .long 3] (fun l D _ _ => m_X10_in l D ((v1 : Int32).toInt64) 0 3 h) u_X10_in ql_X10_48 qi_X10_in rfl rfl (Nat.le_of_ble_eq_true rfl) (by decide) rfl rfl (zat dd_X10_seen 4 rfl) (fun x1 h2 => ?_)
  refine z_if_ne (tgt := 17) (zat dd_X10_seen 5 rfl) (by decide) ?_ ?_
  · refine z_bipush (x := (-101)) (zat dd_X10_seen 9 rfl) (by decide) ?_
    refine z_istore_n (lv' := [(2, .int (-101)), (0, .ref v0), (1, .int v1)]) (zat dd_X10_seen 10 rfl) rfl (Nat.le_of_ble_eq_true rfl) rfl ?_
    refine z_iconst (x := 0) (zat dd_X10_seen 11 rfl) (by decide) ?_
    refine z_istore_n (lv' := [(3, .int 0), (2, .int (-101)), (0, .ref v0), (1, .int v1)]) (zat dd_X10_seen 12 rfl) rfl (Nat.le_of_ble_eq_true rfl) rfl ?_
    refine z_sub [2, 3, 1, 0] rfl ?_
    exact zb_X10_seen_22 Y zF v0 v1 (-101) 0 h2
  · refine z_aload_n 0 (zat dd_X10_seen 6 rfl) rfl rfl ?_
    refine z_callV_I0 (M2 := M_X10_bad) [] (fun l D _ _ => m_X10_bad l D v0 h2) u_X10_bad ql_X10_85 qi_X10_bad qs_X10_bad (ci := 6) rfl rfl rfl (Nat.le_of_ble_eq_true rfl) (by decide) rfl rfl (zat dd_X10_seen 7 rfl) (fun x3 h4 => ?_)
    exact z_iret rfl (zat dd_X10_seen 8 rfl)
