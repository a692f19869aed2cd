/-! PaperDolls.<init>()V -/
def L_X9_init : List (Nat × Instr × Nat) := [(0, .aload_n 0, 1), (1, .invokespecial 3, 3), (4, .aload_n 0, 1), (5, .new 9, 3), (8, .dup, 1), (9, .invokespecial 11, 3), (12, .putfield 12, 3), (15, .aload_n 0, 1), (16, .new 9, 3), (19, .dup, 1), (20, .invokespecial 11, 3), (23, .putfield 16, 3), (26, .aload_n 0, 1), (27, .iconst 2, 1), (28, .anewarray 9, 3), (31, .putfield 19, 3), (34, .aload_n 0, 1), (35, .iconst 2, 1), (36, .newarray .boolean, 2), (38, .putfield 23, 3), (41, .aload_n 0, 1), (42, .new 27, 3), (45, .dup, 1), (46, .invokespecial 29, 3), (49, .putfield 30, 3), (52, .aload_n 0, 1), (53, .new 34, 3), (56, .dup, 1), (57, .invokespecial 36, 3), (60, .putfield 37, 3), (63, .aload_n 0, 1), (64, .new 41, 3), (67, .dup, 1), (68, .invokespecial 43, 3), (71, .putfield 44, 3), (74, .aload_n 0, 1), (75, .new 48, 3), (78, .dup, 1), (79, .invokespecial 50, 3), (82, .putfield 51, 3), (85, .aload_n 0, 1), (86, .sipush 150, 3), (89, .newarray .byte, 2), (91, .putfield 55, 3), (94, .iconst 0, 1), (95, .istore_n 1, 1), (96, .iload_n 1, 1), (97, .iconst 2, 1), (98, .if_icmp .ge 22, 3), (101, .aload_n 0, 1), (102, .getfield 19, 3), (105, .iload_n 1, 1), (106, .new 9, 3), (109, .dup, 1), (110, .invokespecial 11, 3), (113, .aastore, 1), (114, .iinc 1 1, 3), (117, .goto (-21), 3), (120, .aload_n 0, 1), (121, .lconst 1, 1), (122, .putfield 59, 3), (125, .return_, 1)]
theorem dd_X9_init : ∀ q ∈ L_X9_init, decode cX9_init q.1 = .ok q.2 := by decide +kernel
abbrev M_X9_init : zM := (cX9_init, RX9, "<init>", 2, none, 2, 158, 1384)
theorem u_X9_init : zCal yX9_init (M_X9_init) 0 := ⟨(zmem 79 (by decide +kernel) rfl : Cond.code yX9_init cX9_init 2 (none) ∈ zTb), zmem 57 (by decide +kernel) rfl, by decide +kernel, Nat.le_of_ble_eq_true rfl⟩
theorem qi_X9_init : Cond.instanceMethod yX9_init ∈ zTb := zmem 78 (by decide +kernel) rfl
def f_X9_init (v0 : Nat) (h : zH) : zR :=
  zN h (.inr (0, [.int 0, .int 0, .null, .null, .null, .null, .null, .int 0, .null, .int 0, .null, .int 0])) fun a1 h2 =>
  zcV (f_X1_init a1 h2) fun h3 =>
  zpV h3 v0 5 0 (.ref a1) fun h4 =>
  zN h4 (.inr (0, [.int 0, .int 0, .null, .null, .null, .null, .null, .int 0, .null, .int 0, .null, .int 0])) fun a5 h6 =>
  zcV (f_X1_init a5 h6) fun h7 =>
  zpV h7 v0 5 1 (.ref a5) fun h8 =>
  zN h8 (.inl (4, 2, .inr fun _ => none)) fun a9 h10 =>
  zpV h10 v0 5 2 (.ref a9) fun h11 =>
  zN h11 (.inl (2, 2, .inl fun _ => 0)) fun a12 h13 =>
  zpV h13 v0 5 3 (.ref a12) fun h14 =>
  zN h14 (.inr (4, [.null, .null, .int 0, .int 0])) fun a15 h16 =>
  zcV (f_X8_init a15 h16) fun h17 =>
  zpV h17 v0 5 4 (.ref a15) fun h18 =>
  zN h18 (.inr (2, [.null, .int 0, .int 0, .int 0, .int 0, .int 0])) fun a19 h20 =>
  zcV (f_X5_init a19 h20) fun h21 =>
  zpV h21 v0 5 5 (.ref a19) fun h22 =>
  zN h22 (.inr (3, [.null, .int 0])) fun a23 h24 =>
  zcV (f_X7_init a23 h24) fun h25 =>
  zpV h25 v0 5 6 (.ref a23) fun h26 =>
  zN h26 (.inr (1, [.null, .null])) fun a27 h28 =>
  zcV (f_X4_init a27 h28) fun h29 =>
  zpV h29 v0 5 7 (.ref a27) fun h30 =>
  zN h30 (.inl (1, 150, .inl fun _ => 0)) fun a31 h32 =>
  zpV h32 v0 5 8 (.ref a31) fun h33 =>
  zgR h33 v0 5 2 fun a34 =>
  zN h33 (.inr (0, [.int 0, .int 0, .null, .null, .null, .null, .null, .int 0, .null, .int 0, .null, .int 0])) fun a35 h36 =>
  zcV (f_X1_init a35 h36) fun h37 =>
  zsR h37 a34 4 0 a35 0 fun h38 =>
  zgR h38 v0 5 2 fun a39 =>
  zN h38 (.inr (0, [.int 0, .int 0, .null, .null, .null, .null, .null, .int 0, .null, .int 0, .null, .int 0])) fun a40 h41 =>
  zcV (f_X1_init a40 h41) fun h42 =>
  zsR h42 a39 4 1 a40 0 fun h43 =>
  zpV h43 v0 5 11 (.long 1) fun h44 =>
  zrV h44
set_option maxRecDepth 100000 in
set_option maxHeartbeats 4000000 in
theorem m_X9_init (l : Launch) (D : zD) (v0 : Nat) (h : zH) : zMet l D yX9_init M_X9_init [.ref v0] h (f_X9_init v0 h) := by
  refine zMet.of (by decide +kernel) ⟨rfl, rfl⟩ (Nat.le_of_ble_eq_true rfl) (fun Y hl hD => ?_)
  show Z Y M_X9_init 0 0 0 [(0, .ref v0)] [] h _
  rw [f_X9_init]
  refine z_aload_n 0 (zat dd_X9_init 0 rfl) rfl rfl ?_
  refine z_objInit ql_X9_3 qo_inst qo_code (Nat.le_of_ble_eq_true rfl) (zat dd_X9_init 1 rfl) ?_
  refine z_aload_n 0 (zat dd_X9_init 2 rfl) rfl rfl ?_
  refine z_newN (cells2 := 1) (slots2 := 12) nw_X9_9 (by decide) (by decide) rfl rfl (zat dd_X9_init 3 rfl) (fun a1 h2 => ?_)
  refine z_dup (zat dd_X9_init 4 rfl) rfl ?_
  refine z_callI_VA (cells2 := 34) (slots2 := 266) (M2 := M_X1_init) [] (fun l D _ _ => m_X1_init l D a1 h2) u_X1_init ql_X9_11 qi_X1_init rfl rfl rfl rfl (Nat.le_of_ble_eq_true rfl) (by decide) (by decide) (by decide) rfl rfl (zat dd_X9_init 5 rfl) (fun h3 => ?_)
  refine z_putF fl_X9_12 rfl rfl rfl rfl (zat dd_X9_init 6 rfl) (fun h4 => ?_)
  refine z_aload_n 0 (zat dd_X9_init 7 rfl) rfl rfl ?_
  refine z_newN (cells2 := 35) (slots2 := 278) nw_X9_9 (by decide) (by decide) rfl rfl (zat dd_X9_init 8 rfl) (fun a5 h6 => ?_)
  refine z_dup (zat dd_X9_init 9 rfl) rfl ?_
  refine z_callI_VA (cells2 := 68) (slots2 := 532) (M2 := M_X1_init) [] (fun l D _ _ => m_X1_init l D a5 h6) u_X1_init ql_X9_11 qi_X1_init rfl rfl rfl rfl (Nat.le_of_ble_eq_true rfl) (by decide) (by decide) (by decide) rfl rfl (zat dd_X9_init 10 rfl) (fun h7 => ?_)
  refine z_putF fl_X9_16 rfl rfl rfl rfl (zat dd_X9_init 11 rfl) (fun h8 => ?_)
  refine z_aload_n 0 (zat dd_X9_init 12 rfl) rfl rfl ?_
  refine z_iconst (x := 2) (zat dd_X9_init 13 rfl) (by decide) ?_
  refine z_newA4 (cells2 := 69) (slots2 := 534) qc_X9_9 (by decide) (by decide) (by decide) (by decide) (by decide) rfl rfl (zat dd_X9_init 14 rfl) (fun a9 h10 => ?_)
  refine z_putF fl_X9_19 rfl rfl rfl rfl (zat dd_X9_init 15 rfl) (fun h11 => ?_)
  refine z_aload_n 0 (zat dd_X9_init 16 rfl) rfl rfl ?_
  refine z_iconst (x := 2) (zat dd_X9_init 17 rfl) (by decide) ?_
  refine z_newA2 (cells2 := 70) (slots2 := 536) qa_boolean (by decide) (by decide) (by decide) (by decide) (by decide) rfl rfl (zat dd_X9_init 18 rfl) (fun a12 h13 => ?_)
  refine z_putF fl_X9_23 rfl rfl rfl rfl (zat dd_X9_init 19 rfl) (fun h14 => ?_)
  refine z_aload_n 0 (zat dd_X9_init 20 rfl) rfl rfl ?_
  refine z_newN (cells2 := 71) (slots2 := 540) nw_X9_27 (by decide) (by decide) rfl rfl (zat dd_X9_init 21 rfl) (fun a15 h16 => ?_)
  refine z_dup (zat dd_X9_init 22 rfl) rfl ?_
  refine z_callIN_VA (cells2 := 73) (slots2 := 556) (M2 := M_X8_init) [] (fun l D _ _ => m_X8_init l D a15 h16) u_X8_init (by decide) qi_X8_init rfl rfl rfl rfl (Nat.le_of_ble_eq_true rfl) (by decide) (by decide) (by decide) rfl rfl (zat dd_X9_init 23 rfl) (fun h17 => ?_)
  refine z_putF fl_X9_30 rfl rfl rfl rfl (zat dd_X9_init 24 rfl) (fun h18 => ?_)
  refine z_aload_n 0 (zat dd_X9_init 25 rfl) rfl rfl ?_
  refine z_newN (cells2 := 74) (slots2 := 562) nw_X9_34 (by decide) (by decide) rfl rfl (zat dd_X9_init 26 rfl) (fun a19 h20 => ?_)
  refine z_dup (zat dd_X9_init 27 rfl) rfl ?_
  refine z_callIN_VA (cells2 := 75) (slots2 := 562) (M2 := M_X5_init) [] (fun l D _ _ => m_X5_init l D a19 h20) u_X5_init (by decide) qi_X5_init rfl rfl rfl rfl (Nat.le_of_ble_eq_true rfl) (by decide) (by decide) (by decide) rfl rfl (zat dd_X9_init 28 rfl) (fun h21 => ?_)
  refine z_putF fl_X9_37 rfl rfl rfl rfl (zat dd_X9_init 29 rfl) (fun h22 => ?_)
  refine z_aload_n 0 (zat dd_X9_init 30 rfl) rfl rfl ?_
  refine z_newN (cells2 := 76) (slots2 := 564) nw_X9_41 (by decide) (by decide) rfl rfl (zat dd_X9_init 31 rfl) (fun a23 h24 => ?_)
  refine z_dup (zat dd_X9_init 32 rfl) rfl ?_
  refine z_callIN_VA (cells2 := 77) (slots2 := 634) (M2 := M_X7_init) [] (fun l D _ _ => m_X7_init l D a23 h24) u_X7_init (by decide) qi_X7_init rfl rfl rfl rfl (Nat.le_of_ble_eq_true rfl) (by decide) (by decide) (by decide) rfl rfl (zat dd_X9_init 33 rfl) (fun h25 => ?_)
  refine z_putF fl_X9_44 rfl rfl rfl rfl (zat dd_X9_init 34 rfl) (fun h26 => ?_)
  refine z_aload_n 0 (zat dd_X9_init 35 rfl) rfl rfl ?_
  refine z_newN (cells2 := 78) (slots2 := 636) nw_X9_48 (by decide) (by decide) rfl rfl (zat dd_X9_init 36 rfl) (fun a27 h28 => ?_)
  refine z_dup (zat dd_X9_init 37 rfl) rfl ?_
  refine z_callI_VA (cells2 := 89) (slots2 := 702) (M2 := M_X4_init) [] (fun l D _ _ => m_X4_init l D a27 h28) u_X4_init ql_X9_50 qi_X4_init rfl rfl rfl rfl (Nat.le_of_ble_eq_true rfl) (by decide) (by decide) (by decide) rfl rfl (zat dd_X9_init 38 rfl) (fun h29 => ?_)
  refine z_putF fl_X9_51 rfl rfl rfl rfl (zat dd_X9_init 39 rfl) (fun h30 => ?_)
  refine z_aload_n 0 (zat dd_X9_init 40 rfl) rfl rfl ?_
  refine z_sipush (x := 150) (zat dd_X9_init 41 rfl) (by decide) ?_
  refine z_newA1 (cells2 := 90) (slots2 := 852) qa_byte (by decide) (by decide) (by decide) (by decide) (by decide) rfl rfl (zat dd_X9_init 42 rfl) (fun a31 h32 => ?_)
  refine z_putF fl_X9_55 rfl rfl rfl rfl (zat dd_X9_init 43 rfl) (fun h33 => ?_)
  refine z_iconst (x := 0) (zat dd_X9_init 44 rfl) (by decide) ?_
  refine z_istore_n (lv' := [(1, .int 0), (0, .ref v0)]) (zat dd_X9_init 45 rfl) rfl (Nat.le_of_ble_eq_true rfl) rfl ?_
  refine z_iload_n 0 (zat dd_X9_init 46 rfl) rfl rfl ?_
  refine z_iconst (x := 2) (zat dd_X9_init 47 rfl) (by decide) ?_
  refine z_icmp_ge_f (tgt := 120) (zat dd_X9_init 48 rfl) (by decide) (by decide) ?_
  refine z_aload_n 1 (zat dd_X9_init 49 rfl) rfl rfl ?_
  refine z_getR fl_X9_19 (zat dd_X9_init 50 rfl) (fun a34 => ?_)
  refine z_iload_n 0 (zat dd_X9_init 51 rfl) rfl rfl ?_
  refine z_newN (cells2 := 91) (slots2 := 864) nw_X9_9 (by decide) (by decide) rfl rfl (zat dd_X9_init 52 rfl) (fun a35 h36 => ?_)
  refine z_dup (zat dd_X9_init 53 rfl) rfl ?_
  refine z_callI_VA (cells2 := 124) (slots2 := 1118) (M2 := M_X1_init) [] (fun l D _ _ => m_X1_init l D a35 h36) u_X1_init ql_X9_11 qi_X1_init rfl rfl rfl rfl (Nat.le_of_ble_eq_true rfl) (by decide) (by decide) (by decide) rfl rfl (zat dd_X9_init 54 rfl) (fun h37 => ?_)
  refine z_aast (q := (RX1, TX1, 12)) (fun _ => rfl) rfl (zat dd_X9_init 55 rfl) (fun h38 => ?_)
  refine z_iinc (y := 1) (lv' := [(1, .int 1), (0, .ref v0)]) 0 (zat dd_X9_init 56 rfl) rfl (by decide) (Nat.le_of_ble_eq_true rfl) rfl ?_
  refine z_goto (tgt := 96) (zat dd_X9_init 57 rfl) (by decide) ?_
  refine z_iload_n 0 (zat dd_X9_init 46 rfl) rfl rfl ?_
  refine z_iconst (x := 2) (zat dd_X9_init 47 rfl) (by decide) ?_
  refine z_icmp_ge_f (tgt := 120) (zat dd_X9_init 48 rfl) (by decide) (by decide) ?_
  refine z_aload_n 1 (zat dd_X9_init 49 rfl) rfl rfl ?_
  refine z_getR fl_X9_19 (zat dd_X9_init 50 rfl) (fun a39 => ?_)
  refine z_iload_n 0 (zat dd_X9_init 51 rfl) rfl rfl ?_
  refine z_newN (cells2 := 125) (slots2 := 1130) nw_X9_9 (by decide) (by decide) rfl rfl (zat dd_X9_init 52 rfl) (fun a40 h41 => ?_)
  refine z_dup (zat dd_X9_init 53 rfl) rfl ?_
  refine z_callI_VA (cells2 := 158) (slots2 := 1384) (M2 := M_X1_init) [] (fun l D _ _ => m_X1_init l D a40 h41) u_X1_init ql_X9_11 qi_X1_init rfl rfl rfl rfl (Nat.le_of_ble_eq_true rfl) (by decide) (by decide) (by decide) rfl rfl (zat dd_X9_init 54 rfl) (fun h42 => ?_)
  refine z_aast (q := (RX1, TX1, 12)) (fun _ => rfl) rfl (zat dd_X9_init 55 rfl) (fun h43 => ?_)
  refine z_iinc (y := 2) (lv' := [(1, .int 2), (0, .ref v0)]) 0 (zat dd_X9_init 56 rfl) rfl (by decide) (Nat.le_of_ble_eq_true rfl) rfl ?_
  refine z_goto (tgt := 96) (zat dd_X9_init 57 rfl) (by decide) ?_
  refine z_iload_n 0 (zat dd_X9_init 46 rfl) rfl rfl ?_
  refine z_iconst (x := 2) (zat dd_X9_init 47 rfl) (by decide) ?_
  refine z_icmp_ge_t (tgt := 120) (zat dd_X9_init 48 rfl) (by decide) (by decide) ?_
  refine z_aload_n 1 (zat dd_X9_init 58 rfl) rfl rfl ?_
  refine z_lconst (x := 1) (zat dd_X9_init 59 rfl) (by decide) ?_
  refine z_put fl_X9_59 rfl rfl (zat dd_X9_init 60 rfl) (fun h44 => ?_)
  exact z_vret rfl (zat dd_X9_init 61 rfl)
/-! PaperDolls.refuse(I)I -/
def L_X9_refuse : List (Nat × Instr × Nat) := [(0, .iload_n 1, 1), (1, .bipush (-102), 2), (3, .if_icmp .ne 16, 3), (6, .aload_n 0, 1), (7, .dup, 1), (8, .getfield 266, 3), (11, .iconst 1, 1), (12, .iadd, 1), (13, .putfield 266, 3), (16, .goto 32, 3), (19, .iload_n 1, 1), (20, .bipush (-103), 2), (22, .if_icmp .ne 16, 3), (25, .aload_n 0, 1), (26, .dup, 1), (27, .getfield 269, 3), (30, .iconst 1, 1), (31, .iadd, 1), (32, .putfield 269, 3), (35, .goto 13, 3), (38, .aload_n 0, 1), (39, .dup, 1), (40, .getfield 272, 3), (43, .iconst 1, 1), (44, .iadd, 1), (45, .putfield 272, 3), (48, .iload_n 1, 1), (49, .ireturn, 1)]
theorem dd_X9_refuse : ∀ q ∈ L_X9_refuse, decode cX9_refuse q.1 = .ok q.2 := by decide +kernel
abbrev M_X9_refuse : zM := (cX9_refuse, RX9, "refuse", 2, some .int, 0, 0, 0)
theorem u_X9_refuse : zCal yX9_refuse (M_X9_refuse) 1 := ⟨(zmem 293 (by decide +kernel) rfl : Cond.code yX9_refuse cX9_refuse 2 (some .int) ∈ zTb), zmem 57 (by decide +kernel) rfl, by decide +kernel, Nat.le_of_ble_eq_true rfl⟩
theorem qi_X9_refuse : Cond.instanceMethod yX9_refuse ∈ zTb := zmem 292 (by decide +kernel) rfl
theorem qs_X9_refuse : Cond.selects yX9_refuse.cls yX9_refuse yX9_refuse ∈ zTb := zmem 0 (by decide +kernel) rfl
def f_X9_refuse_48 (v1 : Int32) (h : zH) : zR :=
  zrI v1 h
set_option maxRecDepth 100000 in
set_option maxHeartbeats 4000000 in
theorem zb_X9_refuse_48 (Y : zY) (v1 : Int32) (h : zH) : Z Y M_X9_refuse 0 0 48 [(1, .int v1)] [] h (f_X9_refuse_48 v1 h) := by
  rw [f_X9_refuse_48]
  refine z_iload_n 0 (zat dd_X9_refuse 26 rfl) rfl rfl ?_
  exact z_iret rfl (zat dd_X9_refuse 27 rfl)
def f_X9_refuse (v0 : Nat) (v1 : Int32) (h : zH) : zR :=
  if v1 = (-102) then
  zgI h v0 5 12 fun x5 =>
  zpV h v0 5 12 (.int (x5 + 1)) fun h6 =>
  f_X9_refuse_48 v1 h6
  else
  if v1 = (-103) then
  zgI h v0 5 13 fun x3 =>
  zpV h v0 5 13 (.int (x3 + 1)) fun h4 =>
  f_X9_refuse_48 v1 h4
  else
  zgI h v0 5 14 fun x1 =>
  zpV h v0 5 14 (.int (x1 + 1)) fun h2 =>
  f_X9_refuse_48 v1 h2
set_option maxRecDepth 100000 in
set_option maxHeartbeats 4000000 in
theorem m_X9_refuse (l : Launch) (D : zD) (v0 : Nat) (v1 : Int32) (h : zH) : zMet l D yX9_refuse M_X9_refuse [.ref v0, .int v1] h (f_X9_refuse v0 v1 h) := by
  refine zMet.of (by decide +kernel) ⟨rfl, rfl⟩ (Nat.le_of_ble_eq_true rfl) (fun Y hl hD => ?_)
  show Z Y M_X9_refuse 0 0 0 [(0, .ref v0), (1, .int v1)] [] h _
  rw [f_X9_refuse]
  refine z_iload_n 1 (zat dd_X9_refuse 0 rfl) rfl rfl ?_
  refine z_bipush (x := (-102)) (zat dd_X9_refuse 1 rfl) (by decide) ?_
  refine z_icmp_ne (tgt := 19) (zat dd_X9_refuse 2 rfl) (by decide) ?_ ?_
  · refine z_iload_n 1 (zat dd_X9_refuse 10 rfl) rfl rfl ?_
    refine z_bipush (x := (-103)) (zat dd_X9_refuse 11 rfl) (by decide) ?_
    refine z_icmp_ne (tgt := 38) (zat dd_X9_refuse 12 rfl) (by decide) ?_ ?_
    · refine z_aload_n 0 (zat dd_X9_refuse 20 rfl) rfl rfl ?_
      refine z_dup (zat dd_X9_refuse 21 rfl) rfl ?_
      refine z_getI fl_X9_272 (zat dd_X9_refuse 22 rfl) (fun x1 => ?_)
      refine z_iconst (x := 1) (zat dd_X9_refuse 23 rfl) (by decide) ?_
      refine z_iadd (zat dd_X9_refuse 24 rfl) ?_
      refine z_put fl_X9_272 rfl rfl (zat dd_X9_refuse 25 rfl) (fun h2 => ?_)
      refine z_sub [1] rfl ?_
      exact zb_X9_refuse_48 Y v1 h2
    · refine z_aload_n 0 (zat dd_X9_refuse 13 rfl) rfl rfl ?_
      refine z_dup (zat dd_X9_refuse 14 rfl) rfl ?_
      refine z_getI fl_X9_269 (zat dd_X9_refuse 15 rfl) (fun x3 => ?_)
      refine z_iconst (x := 1) (zat dd_X9_refuse 16 rfl) (by decide) ?_
      refine z_iadd (zat dd_X9_refuse 17 rfl) ?_
      refine z_put fl_X9_269 rfl rfl (zat dd_X9_refuse 18 rfl) (fun h4 => ?_)
      refine z_goto (tgt := 48) (zat dd_X9_refuse 19 rfl) (by decide) ?_
      refine z_sub [1] rfl ?_
      exact zb_X9_refuse_48 Y v1 h4
  · refine z_aload_n 0 (zat dd_X9_refuse 3 rfl) rfl rfl ?_
    refine z_dup (zat dd_X9_refuse 4 rfl) rfl ?_
    refine z_getI fl_X9_266 (zat dd_X9_refuse 5 rfl) (fun x5 => ?_)
    refine z_iconst (x := 1) (zat dd_X9_refuse 6 rfl) (by decide) ?_
    refine z_iadd (zat dd_X9_refuse 7 rfl) ?_
    refine z_put fl_X9_266 rfl rfl (zat dd_X9_refuse 8 rfl) (fun h6 => ?_)
    refine z_goto (tgt := 48) (zat dd_X9_refuse 9 rfl) (by decide) ?_
    refine z_sub [1] rfl ?_
    exact zb_X9_refuse_48 Y v1 h6
/-! PaperDolls.doll(I)I -/
def L_X9_doll : List (Nat × Instr × Nat) := [(0, .iload_n 1, 1), (1, .iconst 0, 1), (2, .iconst 5, 1), (3, .invokestatic 63, 3), (6, .ifCond .ne 10, 3), (9, .aload_n 0, 1), (10, .bipush (-102), 2), (12, .invokevirtual 67, 3), (15, .ireturn, 1), (16, .aload_n 0, 1), (17, .getfield 12, 3), (20, .getfield 71, 3), (23, .istore_n 2, 1), (24, .aload_n 0, 1), (25, .getfield 12, 3), (28, .iload_n 1, 1), (29, .invokevirtual 75, 3), (32, .iload_n 2, 1), (33, .ireturn, 1)]
theorem dd_X9_doll : ∀ q ∈ L_X9_doll, decode cX9_doll q.1 = .ok q.2 := by decide +kernel
abbrev M_X9_doll : zM := (cX9_doll, RX9, "doll", 3, some .int, 2, 0, 0)
theorem u_X9_doll : zCal yX9_doll (M_X9_doll) 1 := ⟨(zmem 286 (by decide +kernel) rfl : Cond.code yX9_doll cX9_doll 3 (some .int) ∈ zTb), zmem 57 (by decide +kernel) rfl, by decide +kernel, Nat.le_of_ble_eq_true rfl⟩
theorem qi_X9_doll : Cond.instanceMethod yX9_doll ∈ zTb := zmem 284 (by decide +kernel) rfl
theorem qs_X9_doll : Cond.selects yX9_doll.cls yX9_doll yX9_doll ∈ zTb := zmem 285 (by decide +kernel) rfl
def f_X9_doll (v0 : Nat) (v1 : Int32) (h : zH) : zR :=
  zcI (f_X9_within v1 0 5 h) fun x1 h2 =>
  if x1 = 0 then
  zoc h2 v0 5 <|
  zcI (f_X9_refuse v0 (-102) h2) fun x7 h8 =>
  zrI x7 h8
  else
  zgR h2 v0 5 0 fun a3 =>
  zgI h2 a3 0 1 fun x4 =>
  zgR h2 v0 5 0 fun a5 =>
  zoc h2 a5 0 <|
  zcV (f_X1_begin a5 v1 h2) fun h6 =>
  zrI x4 h6
set_option maxRecDepth 100000 in
set_option maxHeartbeats 4000000 in
theorem m_X9_doll (l : Launch) (D : zD) (v0 : Nat) (v1 : Int32) (h : zH) : zMet l D yX9_doll M_X9_doll [.ref v0, .int v1] h (f_X9_doll v0 v1 h) := by
  refine zMet.of (by decide +kernel) ⟨rfl, rfl⟩ (Nat.le_of_ble_eq_true rfl) (fun Y hl hD => ?_)
  show Z Y M_X9_doll 0 0 0 [(0, .ref v0), (1, .int v1)] [] h _
  rw [f_X9_doll]
  refine z_iload_n 1 (zat dd_X9_doll 0 rfl) rfl rfl ?_
  refine z_iconst (x := 0) (zat dd_X9_doll 1 rfl) (by decide) ?_
  refine z_iconst (x := 5) (zat dd_X9_doll 2 rfl) (by decide) ?_
  refine z_callS_I0 (M2 := M_X9_within) [.int v1, .int 0, .int 5] (fun l D _ _ => m_X9_within l D v1 0 5 h) u_X9_within ql_X9_63 qi_X9_within rfl rfl (Nat.le_of_ble_eq_true rfl) (by decide) rfl rfl (zat dd_X9_doll 3 rfl) (fun x1 h2 => ?_)
  refine z_if_ne (tgt := 16) (zat dd_X9_doll 4 rfl) (by decide) ?_ ?_
  · refine z_aload_n 0 (zat dd_X9_doll 9 rfl) rfl rfl ?_
    refine z_getR fl_X9_12 (zat dd_X9_doll 10 rfl) (fun a3 => ?_)
    refine z_getI fl_X9_71 (zat dd_X9_doll 11 rfl) (fun x4 => ?_)
    refine z_istore_n (lv' := [(2, .int x4), (0, .ref v0), (1, .int v1)]) (zat dd_X9_doll 12 rfl) rfl (Nat.le_of_ble_eq_true rfl) rfl ?_
    refine z_aload_n 1 (zat dd_X9_doll 13 rfl) rfl rfl ?_
    refine z_getR fl_X9_12 (zat dd_X9_doll 14 rfl) (fun a5 => ?_)
    refine z_iload_n 2 (zat dd_X9_doll 15 rfl) rfl rfl ?_
    refine z_callV_V0 (M2 := M_X1_begin) [.int v1] (fun l D _ _ => m_X1_begin l D a5 v1 h2) u_X1_begin ql_X9_75 qi_X1_begin qs_X1_begin (ci := 0) rfl rfl rfl (Nat.le_of_ble_eq_true rfl) (by decide) rfl rfl (zat dd_X9_doll 16 rfl) (fun h6 => ?_)
    refine z_iload_n 0 (zat dd_X9_doll 17 rfl) rfl rfl ?_
    exact z_iret rfl (zat dd_X9_doll 18 rfl)
  · refine z_aload_n 0 (zat dd_X9_doll 5 rfl) rfl rfl ?_
    refine z_bipush (x := (-102)) (zat dd_X9_doll 6 rfl) (by decide) ?_
    refine z_callV_I0 (M2 := M_X9_refuse) [.int (-102)] (fun l D _ _ => m_X9_refuse l D v0 (-102) h2) u_X9_refuse ql_X9_67 qi_X9_refuse qs_X9_refuse (ci := 5) rfl rfl rfl (Nat.le_of_ble_eq_true rfl) (by decide) rfl rfl (zat dd_X9_doll 7 rfl) (fun x7 h8 => ?_)
    exact z_iret rfl (zat dd_X9_doll 8 rfl)
/-! PaperDolls.child(I)I -/
def L_X9_child : List (Nat × Instr × Nat) := [(0, .iload_n 1, 1), (1, .iconst 0, 1), (2, .iconst 5, 1), (3, .invokestatic 63, 3), (6, .ifCond .ne 10, 3), (9, .aload_n 0, 1), (10, .bipush (-102), 2), (12, .invokevirtual 67, 3), (15, .ireturn, 1), (16, .aload_n 0, 1), (17, .getfield 12, 3), (20, .getfield 79, 3), (23, .istore_n 2, 1), (24, .aload_n 0, 1), (25, .getfield 12, 3), (28, .iload_n 1, 1), (29, .putfield 79, 3), (32, .aload_n 0, 1), (33, .getfield 12, 3), (36, .iconst 0, 1), (37, .putfield 82, 3), (40, .iload_n 2, 1), (41, .ireturn, 1)]
theorem dd_X9_child : ∀ q ∈ L_X9_child, decode cX9_child q.1 = .ok q.2 := by decide +kernel
abbrev M_X9_child : zM := (cX9_child, RX9, "child", 3, some .int, 1, 0, 0)
theorem u_X9_child : zCal yX9_child (M_X9_child) 1 := ⟨(zmem 305 (by decide +kernel) rfl : Cond.code yX9_child cX9_child 3 (some .int) ∈ zTb), zmem 57 (by decide +kernel) rfl, by decide +kernel, Nat.le_of_ble_eq_true rfl⟩
theorem qi_X9_child : Cond.instanceMethod yX9_child ∈ zTb := zmem 303 (by decide +kernel) rfl
theorem qs_X9_child : Cond.selects yX9_child.cls yX9_child yX9_child ∈ zTb := zmem 304 (by decide +kernel) rfl
def f_X9_child (v0 : Nat) (v1 : Int32) (h : zH) : zR :=
  zcI (f_X9_within v1 0 5 h) fun x1 h2 =>
  if x1 = 0 then
  zoc h2 v0 5 <|
  zcI (f_X9_refuse v0 (-102) h2) fun x9 h10 =>
  zrI x9 h10
  else
  zgR h2 v0 5 0 fun a3 =>
  zgI h2 a3 0 0 fun x4 =>
  zgR h2 v0 5 0 fun a5 =>
  zpV h2 a5 0 0 (.int v1) fun h6 =>
  zgR h6 v0 5 0 fun a7 =>
  zpV h6 a7 0 7 (.int 0) fun h8 =>
  zrI x4 h8
set_option maxRecDepth 100000 in
set_option maxHeartbeats 4000000 in
theorem m_X9_child (l : Launch) (D : zD) (v0 : Nat) (v1 : Int32) (h : zH) : zMet l D yX9_child M_X9_child [.ref v0, .int v1] h (f_X9_child v0 v1 h) := by
  refine zMet.of (by decide +kernel) ⟨rfl, rfl⟩ (Nat.le_of_ble_eq_true rfl) (fun Y hl hD => ?_)
  show Z Y M_X9_child 0 0 0 [(0, .ref v0), (1, .int v1)] [] h _
  rw [f_X9_child]
  refine z_iload_n 1 (zat dd_X9_child 0 rfl) rfl rfl ?_
  refine z_iconst (x := 0) (zat dd_X9_child 1 rfl) (by decide) ?_
  refine z_iconst (x := 5) (zat dd_X9_child 2 rfl) (by decide) ?_
  refine z_callS_I0 (M2 := M_X9_within) [.int v1, .int 0, .int 5] (fun l D _ _ => m_X9_within l D v1 0 5 h) u_X9_within ql_X9_63 qi_X9_within rfl rfl (Nat.le_of_ble_eq_true rfl) (by decide) rfl rfl (zat dd_X9_child 3 rfl) (fun x1 h2 => ?_)
  refine z_if_ne (tgt := 16) (zat dd_X9_child 4 rfl) (by decide) ?_ ?_
  · refine z_aload_n 0 (zat dd_X9_child 9 rfl) rfl rfl ?_
    refine z_getR fl_X9_12 (zat dd_X9_child 10 rfl) (fun a3 => ?_)
    refine z_getI fl_X9_79 (zat dd_X9_child 11 rfl) (fun x4 => ?_)
    refine z_istore_n (lv' := [(2, .int x4), (0, .ref v0), (1, .int v1)]) (zat dd_X9_child 12 rfl) rfl (Nat.le_of_ble_eq_true rfl) rfl ?_
    refine z_aload_n 1 (zat dd_X9_child 13 rfl) rfl rfl ?_
    refine z_getR fl_X9_12 (zat dd_X9_child 14 rfl) (fun a5 => ?_)
    refine z_iload_n 2 (zat dd_X9_child 15 rfl) rfl rfl ?_
    refine z_put fl_X9_79 rfl rfl (zat dd_X9_child 16 rfl) (fun h6 => ?_)
    refine z_aload_n 1 (zat dd_X9_child 17 rfl) rfl rfl ?_
    refine z_getR fl_X9_12 (zat dd_X9_child 18 rfl) (fun a7 => ?_)
    refine z_iconst (x := 0) (zat dd_X9_child 19 rfl) (by decide) ?_
    refine z_put fl_X9_82 rfl rfl (zat dd_X9_child 20 rfl) (fun h8 => ?_)
    refine z_iload_n 0 (zat dd_X9_child 21 rfl) rfl rfl ?_
    exact z_iret rfl (zat dd_X9_child 22 rfl)
  · refine z_aload_n 0 (zat dd_X9_child 5 rfl) rfl rfl ?_
    refine z_bipush (x := (-102)) (zat dd_X9_child 6 rfl) (by decide) ?_
    refine z_callV_I0 (M2 := M_X9_refuse) [.int (-102)] (fun l D _ _ => m_X9_refuse l D v0 (-102) h2) u_X9_refuse ql_X9_67 qi_X9_refuse qs_X9_refuse (ci := 5) rfl rfl rfl (Nat.le_of_ble_eq_true rfl) (by decide) rfl rfl (zat dd_X9_child 7 rfl) (fun x9 h10 => ?_)
    exact z_iret rfl (zat dd_X9_child 8 rfl)
/-! PaperDolls.piece(III)I -/
def L_X9_piece : List (Nat × Instr × Nat) := [(0, .iload_n 1, 1), (1, .iconst 0, 1), (2, .iconst 5, 1), (3, .invokestatic 63, 3), (6, .ifCond .eq 22, 3), (9, .iload_n 2, 1), (10, .iconst 0, 1), (11, .iconst 3, 1), (12, .invokestatic 63, 3), (15, .ifCond .eq 13, 3), (18, .iload_n 3, 1), (19, .iconst 1, 1), (20, .bipush 9, 2), (22, .invokestatic 63, 3), (25, .ifCond .ne 10, 3), (28, .aload_n 0, 1), (29, .bipush (-102), 2), (31, .invokevirtual 67, 3), (34, .ireturn, 1), (35, .aload_n 0, 1), (36, .getfield 12, 3), (39, .getfield 71, 3), (42, .bipush 8, 2), (44, .if_icmp .lt 10, 3), (47, .aload_n 0, 1), (48, .bipush (-104), 2), (50, .invokevirtual 67, 3), (53, .ireturn, 1), (54, .aload_n 0, 1), (55, .getfield 12, 3), (58, .iload_n 1, 1), (59, .iload_n 2, 1), (60, .iload_n 3, 1), (61, .invokevirtual 85, 3), (64, .aload_n 0, 1), (65, .getfield 12, 3), (68, .getfield 71, 3), (71, .iconst 1, 1), (72, .isub, 1), (73, .ireturn, 1)]
theorem dd_X9_piece : ∀ q ∈ L_X9_piece, decode cX9_piece q.1 = .ok q.2 := by decide +kernel
abbrev M_X9_piece : zM := (cX9_piece, RX9, "piece", 4, some .int, 1, 0, 0)
theorem u_X9_piece : zCal yX9_piece (M_X9_piece) 3 := ⟨(zmem 309 (by decide +kernel) rfl : Cond.code yX9_piece cX9_piece 4 (some .int) ∈ zTb), zmem 57 (by decide +kernel) rfl, by decide +kernel, Nat.le_of_ble_eq_true rfl⟩
theorem qi_X9_piece : Cond.instanceMethod yX9_piece ∈ zTb := zmem 307 (by decide +kernel) rfl
theorem qs_X9_piece : Cond.selects yX9_piece.cls yX9_piece yX9_piece ∈ zTb := zmem 308 (by decide +kernel) rfl
def f_X9_piece_28 (v0 : Nat) (h : zH) : zR :=
  zoc h v0 5 <|
  zcI (f_X9_refuse v0 (-102) h) fun x1 h2 =>
  zrI x1 h2
set_option maxRecDepth 100000 in
set_option maxHeartbeats 4000000 in
theorem zb_X9_piece_28 (Y : zY) (v0 : Nat) (h : zH) : Z Y M_X9_piece 0 0 28 [(0, .ref v0)] [] h (f_X9_piece_28 v0 h) := by
  rw [f_X9_piece_28]
  refine z_aload_n 0 (zat dd_X9_piece 15 rfl) rfl rfl ?_
  refine z_bipush (x := (-102)) (zat dd_X9_piece 16 rfl) (by decide) ?_
  refine z_callV_I0 (M2 := M_X9_refuse) [.int (-102)] (fun l D _ _ => m_X9_refuse l D v0 (-102) h) u_X9_refuse ql_X9_67 qi_X9_refuse qs_X9_refuse (ci := 5) rfl rfl rfl (Nat.le_of_ble_eq_true rfl) (by decide) rfl rfl (zat dd_X9_piece 17 rfl) (fun x1 h2 => ?_)
  exact z_iret rfl (zat dd_X9_piece 18 rfl)
def f_X9_piece (v0 : Nat) (v1 : Int32) (v2 : Int32) (v3 : Int32) (h : zH) : zR :=
  zcI (f_X9_within v1 0 5 h) fun x1 h2 =>
  if x1 = 0 then
  f_X9_piece_28 v0 h2
  else
  zcI (f_X9_within v2 0 3 h2) fun x3 h4 =>
  if x3 = 0 then
  f_X9_piece_28 v0 h4
  else
  zcI (f_X9_within v3 1 9 h4) fun x5 h6 =>
  if x5 = 0 then
  f_X9_piece_28 v0 h6
  else
  zgR h6 v0 5 0 fun a7 =>
  zgI h6 a7 0 1 fun x8 =>
  if x8 < 8 then
  zgR h6 v0 5 0 fun a9 =>
  zoc h6 a9 0 <|
  zcV (f_X1_addPiece a9 v1 v2 v3 h6) fun h10 =>
  zgR h10 v0 5 0 fun a11 =>
  zgI h10 a11 0 1 fun x12 =>
  zrI (x12 - 1) h10
  else
  zoc h6 v0 5 <|
  zcI (f_X9_refuse v0 (-104) h6) fun x13 h14 =>
  zrI x13 h14
set_option maxRecDepth 100000 in
set_option maxHeartbeats 4000000 in
theorem m_X9_piece (l : Launch) (D : zD) (v0 : Nat) (v1 : Int32) (v2 : Int32) (v3 : Int32) (h : zH) : zMet l D yX9_piece M_X9_piece [.ref v0, .int v1, .int v2, .int v3] h (f_X9_piece v0 v1 v2 v3 h) := by
  refine zMet.of (by decide +kernel) ⟨rfl, rfl⟩ (Nat.le_of_ble_eq_true rfl) (fun Y hl hD => ?_)
  show Z Y M_X9_piece 0 0 0 [(0, .ref v0), (1, .int v1), (2, .int v2), (3, .int v3)] [] h _
  rw [f_X9_piece]
  refine z_iload_n 1 (zat dd_X9_piece 0 rfl) rfl rfl ?_
  refine z_iconst (x := 0) (zat dd_X9_piece 1 rfl) (by decide) ?_
  refine z_iconst (x := 5) (zat dd_X9_piece 2 rfl) (by decide) ?_
  refine z_callS_I0 (M2 := M_X9_within) [.int v1, .int 0, .int 5] (fun l D _ _ => m_X9_within l D v1 0 5 h) u_X9_within ql_X9_63 qi_X9_within rfl rfl (Nat.le_of_ble_eq_true rfl) (by decide) rfl rfl (zat dd_X9_piece 3 rfl) (fun x1 h2 => ?_)
  refine z_if_eq (tgt := 28) (zat dd_X9_piece 4 rfl) (by decide) ?_ ?_
  · refine z_sub [0] rfl ?_
    exact zb_X9_piece_28 Y v0 h2
  · refine z_iload_n 2 (zat dd_X9_piece 5 rfl) rfl rfl ?_
    refine z_iconst (x := 0) (zat dd_X9_piece 6 rfl) (by decide) ?_
    refine z_iconst (x := 3) (zat dd_X9_piece 7 rfl) (by decide) ?_
    refine z_callS_I0 (M2 := M_X9_within) [.int v2, .int 0, .int 3] (fun l D _ _ => m_X9_within l D v2 0 3 h2) u_X9_within ql_X9_63 qi_X9_within rfl rfl (Nat.le_of_ble_eq_true rfl) (by decide) rfl rfl (zat dd_X9_piece 8 rfl) (fun x3 h4 => ?_)
    refine z_if_eq (tgt := 28) (zat dd_X9_piece 9 rfl) (by decide) ?_ ?_
    · refine z_sub [0] rfl ?_
      exact zb_X9_piece_28 Y v0 h4
    · refine z_iload_n 3 (zat dd_X9_piece 10 rfl) rfl rfl ?_
      refine z_iconst (x := 1) (zat dd_X9_piece 11 rfl) (by decide) ?_
      refine z_bipush (x := 9) (zat dd_X9_piece 12 rfl) (by decide) ?_
      refine z_callS_I0 (M2 := M_X9_within) [.int v3, .int 1, .int 9] (fun l D _ _ => m_X9_within l D v3 1 9 h4) u_X9_within ql_X9_63 qi_X9_within rfl rfl (Nat.le_of_ble_eq_true rfl) (by decide) rfl rfl (zat dd_X9_piece 13 rfl) (fun x5 h6 => ?_)
      refine z_if_ne (tgt := 35) (zat dd_X9_piece 14 rfl) (by decide) ?_ ?_
      · refine z_aload_n 0 (zat dd_X9_piece 19 rfl) rfl rfl ?_
        refine z_getR fl_X9_12 (zat dd_X9_piece 20 rfl) (fun a7 => ?_)
        refine z_getI fl_X9_71 (zat dd_X9_piece 21 rfl) (fun x8 => ?_)
        refine z_bipush (x := 8) (zat dd_X9_piece 22 rfl) (by decide) ?_
        refine z_icmp_lt (tgt := 54) (zat dd_X9_piece 23 rfl) (by decide) ?_ ?_
        · refine z_aload_n 0 (zat dd_X9_piece 28 rfl) rfl rfl ?_
          refine z_getR fl_X9_12 (zat dd_X9_piece 29 rfl) (fun a9 => ?_)
          refine z_iload_n 1 (zat dd_X9_piece 30 rfl) rfl rfl ?_
          refine z_iload_n 2 (zat dd_X9_piece 31 rfl) rfl rfl ?_
          refine z_iload_n 3 (zat dd_X9_piece 32 rfl) rfl rfl ?_
          refine z_callV_V0 (M2 := M_X1_addPiece) [.int v1, .int v2, .int v3] (fun l D _ _ => m_X1_addPiece l D a9 v1 v2 v3 h6) u_X1_addPiece ql_X9_85 qi_X1_addPiece qs_X1_addPiece (ci := 0) rfl rfl rfl (Nat.le_of_ble_eq_true rfl) (by decide) rfl rfl (zat dd_X9_piece 33 rfl) (fun h10 => ?_)
          refine z_aload_n 0 (zat dd_X9_piece 34 rfl) rfl rfl ?_
          refine z_getR fl_X9_12 (zat dd_X9_piece 35 rfl) (fun a11 => ?_)
          refine z_getI fl_X9_71 (zat dd_X9_piece 36 rfl) (fun x12 => ?_)
          refine z_iconst (x := 1) (zat dd_X9_piece 37 rfl) (by decide) ?_
          refine z_isub (zat dd_X9_piece 38 rfl) ?_
          exact z_iret rfl (zat dd_X9_piece 39 rfl)
        · refine z_aload_n 0 (zat dd_X9_piece 24 rfl) rfl rfl ?_
          refine z_bipush (x := (-104)) (zat dd_X9_piece 25 rfl) (by decide) ?_
          refine z_callV_I0 (M2 := M_X9_refuse) [.int (-104)] (fun l D _ _ => m_X9_refuse l D v0 (-104) h6) u_X9_refuse ql_X9_67 qi_X9_refuse qs_X9_refuse (ci := 5) rfl rfl rfl (Nat.le_of_ble_eq_true rfl) (by decide) rfl rfl (zat dd_X9_piece 26 rfl) (fun x13 h14 => ?_)
          exact z_iret rfl (zat dd_X9_piece 27 rfl)
      · refine z_sub [0] rfl ?_
        exact zb_X9_piece_28 Y v0 h6
/-! PaperDolls.type(I)I -/
def L_X9_type : List (Nat × Instr × Nat) := [(0, .iload_n 1, 1), (1, .iconst 0, 1), (2, .bipush 127, 2), (4, .invokestatic 63, 3), (7, .ifCond .ne 10, 3), (10, .aload_n 0, 1), (11, .bipush (-102), 2), (13, .invokevirtual 67, 3), (16, .ireturn, 1), (17, .aload_n 0, 1), (18, .getfield 89, 3), (21, .sipush 150, 3), (24, .if_icmp .lt 10, 3), (27, .aload_n 0, 1), (28, .bipush (-104), 2), (30, .invokevirtual 67, 3), (33, .ireturn, 1), (34, .aload_n 0, 1), (35, .getfield 55, 3), (38, .aload_n 0, 1), (39, .getfield 89, 3), (42, .iload_n 1, 1), (43, .i2b, 1), (44, .bastore, 1), (45, .aload_n 0, 1), (46, .dup, 1), (47, .getfield 89, 3), (50, .iconst 1, 1), (51, .iadd, 1), (52, .putfield 89, 3), (55, .aload_n 0, 1), (56, .getfield 89, 3), (59, .ireturn, 1)]
theorem dd_X9_type : ∀ q ∈ L_X9_type, decode cX9_type q.1 = .ok q.2 := by decide +kernel
abbrev M_X9_type : zM := (cX9_type, RX9, "type", 2, some .int, 1, 0, 0)
theorem u_X9_type : zCal yX9_type (M_X9_type) 1 := ⟨(zmem 317 (by decide +kernel) rfl : Cond.code yX9_type cX9_type 2 (some .int) ∈ zTb), zmem 57 (by decide +kernel) rfl, by decide +kernel, Nat.le_of_ble_eq_true rfl⟩
theorem qi_X9_type : Cond.instanceMethod yX9_type ∈ zTb := zmem 315 (by decide +kernel) rfl
theorem qs_X9_type : Cond.selects yX9_type.cls yX9_type yX9_type ∈ zTb := zmem 316 (by decide +kernel) rfl
def f_X9_type (v0 : Nat) (v1 : Int32) (h : zH) : zR :=
  zcI (f_X9_within v1 0 127 h) fun x1 h2 =>
  if x1 = 0 then
  zoc h2 v0 5 <|
  zcI (f_X9_refuse v0 (-102) h2) fun x12 h13 =>
  zrI x12 h13
  else
  zgI h2 v0 5 9 fun x3 =>
  if x3 < 150 then
  zgR h2 v0 5 8 fun a4 =>
  zgI h2 v0 5 9 fun x5 =>
  zsI h2 a4 1 x5 (vp_nar .byte ((v1 : Int32).toInt8.toInt32)) fun h6 =>
  zgI h6 v0 5 9 fun x7 =>
  zpV h6 v0 5 9 (.int (x7 + 1)) fun h8 =>
  zgI h8 v0 5 9 fun x9 =>
  zrI x9 h8
  else
  zoc h2 v0 5 <|
  zcI (f_X9_refuse v0 (-104) h2) fun x10 h11 =>
  zrI x10 h11
set_option maxRecDepth 100000 in
set_option maxHeartbeats 4000000 in
theorem m_X9_type (l : Launch) (D : zD) (v0 : Nat) (v1 : Int32) (h : zH) : zMet l D yX9_type M_X9_type [.ref v0, .int v1] h (f_X9_type v0 v1 h) := by
  refine zMet.of (by decide +kernel) ⟨rfl, rfl⟩ (Nat.le_of_ble_eq_true rfl) (fun Y hl hD => ?_)
  show Z Y M_X9_type 0 0 0 [(0, .ref v0), (1, .int v1)] [] h _
  rw [f_X9_type]
  refine z_iload_n 1 (zat dd_X9_type 0 rfl) rfl rfl ?_
  refine z_iconst (x := 0) (zat dd_X9_type 1 rfl) (by decide) ?_
  refine z_bipush (x := 127) (zat dd_X9_type 2 rfl) (by decide) ?_
  refine z_callS_I0 (M2 := M_X9_within) [.int v1, .int 0, .int 127] (fun l D _ _ => m_X9_within l D v1 0 127 h) u_X9_within ql_X9_63 qi_X9_within rfl rfl (Nat.le_of_ble_eq_true rfl) (by decide) rfl rfl (zat dd_X9_type 3 rfl) (fun x1 h2 => ?_)
  refine z_if_ne (tgt := 17) (zat dd_X9_type 4 rfl) (by decide) ?_ ?_
  · refine z_aload_n 0 (zat dd_X9_type 9 rfl) rfl rfl ?_
    refine z_getI fl_X9_89 (zat dd_X9_type 10 rfl) (fun x3 => ?_)
    refine z_sipush (x := 150) (zat dd_X9_type 11 rfl) (by decide) ?_
    refine z_icmp_lt (tgt := 34) (zat dd_X9_type 12 rfl) (by decide) ?_ ?_
    · refine z_aload_n 0 (zat dd_X9_type 17 rfl) rfl rfl ?_
      refine z_getR fl_X9_55 (zat dd_X9_type 18 rfl) (fun a4 => ?_)
      refine z_aload_n 0 (zat dd_X9_type 19 rfl) rfl rfl ?_
      refine z_getI fl_X9_89 (zat dd_X9_type 20 rfl) (fun x5 => ?_)
      refine z_iload_n 1 (zat dd_X9_type 21 rfl) rfl rfl ?_
      refine z_i2b (zat dd_X9_type 22 rfl) ?_
      refine z_bast (zat dd_X9_type 23 rfl) (fun h6 => ?_)
      refine z_aload_n 0 (zat dd_X9_type 24 rfl) rfl rfl ?_
      refine z_dup (zat dd_X9_type 25 rfl) rfl ?_
      refine z_getI fl_X9_89 (zat dd_X9_type 26 rfl) (fun x7 => ?_)
      refine z_iconst (x := 1) (zat dd_X9_type 27 rfl) (by decide) ?_
      refine z_iadd (zat dd_X9_type 28 rfl) ?_
      refine z_put fl_X9_89 rfl rfl (zat dd_X9_type 29 rfl) (fun h8 => ?_)
      refine z_aload_n 0 (zat dd_X9_type 30 rfl) rfl rfl ?_
      refine z_getI fl_X9_89 (zat dd_X9_type 31 rfl) (fun x9 => ?_)
      exact z_iret rfl (zat dd_X9_type 32 rfl)
    · refine z_aload_n 0 (zat dd_X9_type 13 rfl) rfl rfl ?_
      refine z_bipush (x := (-104)) (zat dd_X9_type 14 rfl) (by decide) ?_
      refine z_callV_I0 (M2 := M_X9_refuse) [.int (-104)] (fun l D _ _ => m_X9_refuse l D v0 (-104) h2) u_X9_refuse ql_X9_67 qi_X9_refuse qs_X9_refuse (ci := 5) rfl rfl rfl (Nat.le_of_ble_eq_true rfl) (by decide) rfl rfl (zat dd_X9_type 15 rfl) (fun x10 h11 => ?_)
      exact z_iret rfl (zat dd_X9_type 16 rfl)
  · refine z_aload_n 0 (zat dd_X9_type 5 rfl) rfl rfl ?_
    refine z_bipush (x := (-102)) (zat dd_X9_type 6 rfl) (by decide) ?_
    refine z_callV_I0 (M2 := M_X9_refuse) [.int (-102)] (fun l D _ _ => m_X9_refuse l D v0 (-102) h2) u_X9_refuse ql_X9_67 qi_X9_refuse qs_X9_refuse (ci := 5) rfl rfl rfl (Nat.le_of_ble_eq_true rfl) (by decide) rfl rfl (zat dd_X9_type 7 rfl) (fun x12 h13 => ?_)
    exact z_iret rfl (zat dd_X9_type 8 rfl)
/-! PaperDolls.clear()I -/
def L_X9_clear : List (Nat × Instr × Nat) := [(0, .aload_n 0, 1), (1, .getfield 89, 3), (4, .istore_n 1, 1), (5, .aload_n 0, 1), (6, .iconst 0, 1), (7, .putfield 89, 3), (10, .iload_n 1, 1), (11, .ireturn, 1)]
theorem dd_X9_clear : ∀ q ∈ L_X9_clear, decode cX9_clear q.1 = .ok q.2 := by decide +kernel
abbrev M_X9_clear : zM := (cX9_clear, RX9, "clear", 2, some .int, 0, 0, 0)
theorem u_X9_clear : zCal yX9_clear (M_X9_clear) 0 := ⟨(zmem 321 (by decide +kernel) rfl : Cond.code yX9_clear cX9_clear 2 (some .int) ∈ zTb), zmem 57 (by decide +kernel) rfl, by decide +kernel, Nat.le_of_ble_eq_true rfl⟩
theorem qi_X9_clear : Cond.instanceMethod yX9_clear ∈ zTb := zmem 319 (by decide +kernel) rfl
theorem qs_X9_clear : Cond.selects yX9_clear.cls yX9_clear yX9_clear ∈ zTb := zmem 320 (by decide +kernel) rfl
def f_X9_clear (v0 : Nat) (h : zH) : zR :=
  zgI h v0 5 9 fun x1 =>
  zpV h v0 5 9 (.int 0) fun h2 =>
  zrI x1 h2
set_option maxRecDepth 100000 in
set_option maxHeartbeats 4000000 in
theorem m_X9_clear (l : Launch) (D : zD) (v0 : Nat) (h : zH) : zMet l D yX9_clear M_X9_clear [.ref v0] h (f_X9_clear v0 h) := by
  refine zMet.of (by decide +kernel) ⟨rfl, rfl⟩ (Nat.le_of_ble_eq_true rfl) (fun Y hl hD => ?_)
  show Z Y M_X9_clear 0 0 0 [(0, .ref v0)] [] h _
  rw [f_X9_clear]
  refine z_aload_n 0 (zat dd_X9_clear 0 rfl) rfl rfl ?_
  refine z_getI fl_X9_89 (zat dd_X9_clear 1 rfl) (fun x1 => ?_)
  refine z_istore_n (lv' := [(1, .int x1), (0, .ref v0)]) (zat dd_X9_clear 2 rfl) rfl (Nat.le_of_ble_eq_true rfl) rfl ?_
  refine z_aload_n 1 (zat dd_X9_clear 3 rfl) rfl rfl ?_
  refine z_iconst (x := 0) (zat dd_X9_clear 4 rfl) (by decide) ?_
  refine z_put fl_X9_89 rfl rfl (zat dd_X9_clear 5 rfl) (fun h2 => ?_)
  refine z_iload_n 0 (zat dd_X9_clear 6 rfl) rfl rfl ?_
  exact z_iret rfl (zat dd_X9_clear 7 rfl)
/-! PaperDolls.read()I -/
def L_X9_read : List (Nat × Instr × Nat) := [(0, .aload_n 0, 1), (1, .getfield 37, 3), (4, .aload_n 0, 1), (5, .getfield 55, 3), (8, .aload_n 0, 1), (9, .getfield 89, 3), (12, .aload_n 0, 1), (13, .getfield 16, 3), (16, .invokevirtual 92, 3), (19, .istore_n 1, 1), (20, .iload_n 1, 1), (21, .ifCond .lt 14, 3), (24, .aload_n 0, 1), (25, .getfield 12, 3), (28, .aload_n 0, 1), (29, .getfield 16, 3), (32, .invokevirtual 96, 3), (35, .iload_n 1, 1), (36, .ireturn, 1)]
theorem dd_X9_read : ∀ q ∈ L_X9_read, decode cX9_read q.1 = .ok q.2 := by decide +kernel
abbrev M_X9_read : zM := (cX9_read, RX9, "read", 2, some .int, 11, 0, 0)
theorem u_X9_read : zCal yX9_read (M_X9_read) 0 := ⟨(zmem 325 (by decide +kernel) rfl : Cond.code yX9_read cX9_read 2 (some .int) ∈ zTb), zmem 57 (by decide +kernel) rfl, by decide +kernel, Nat.le_of_ble_eq_true rfl⟩
theorem qi_X9_read : Cond.instanceMethod yX9_read ∈ zTb := zmem 323 (by decide +kernel) rfl
theorem qs_X9_read : Cond.selects yX9_read.cls yX9_read yX9_read ∈ zTb := zmem 324 (by decide +kernel) rfl
def f_X9_read_35 (v1 : Int32) (h : zH) : zR :=
  zrI v1 h
set_option maxRecDepth 100000 in
set_option maxHeartbeats 4000000 in
theorem zb_X9_read_35 (Y : zY) (v1 : Int32) (h : zH) : Z Y M_X9_read 0 0 35 [(1, .int v1)] [] h (f_X9_read_35 v1 h) := by
  rw [f_X9_read_35]
  refine z_iload_n 0 (zat dd_X9_read 17 rfl) rfl rfl ?_
  exact z_iret rfl (zat dd_X9_read 18 rfl)
def f_X9_read (v0 : Nat) (h : zH) : zR :=
  zgR h v0 5 5 fun a1 =>
  zgR h v0 5 8 fun a2 =>
  zgI h v0 5 9 fun x3 =>
  zgR h v0 5 1 fun a4 =>
  zoc h a1 2 <|
  zcI (f_X5_readDoll a1 a2 x3 a4 h) fun x5 h6 =>
  if x5 < 0 then
  f_X9_read_35 x5 h6
  else
  zgR h6 v0 5 0 fun a7 =>
  zgR h6 v0 5 1 fun a8 =>
  zoc h6 a7 0 <|
  zcV (f_X1_copyFrom a7 a8 h6) fun h9 =>
  f_X9_read_35 x5 h9
set_option maxRecDepth 100000 in
set_option maxHeartbeats 4000000 in
theorem m_X9_read (l : Launch) (D : zD) (v0 : Nat) (h : zH) : zMet l D yX9_read M_X9_read [.ref v0] h (f_X9_read v0 h) := by
  refine zMet.of (by decide +kernel) ⟨rfl, rfl⟩ (Nat.le_of_ble_eq_true rfl) (fun Y hl hD => ?_)
  show Z Y M_X9_read 0 0 0 [(0, .ref v0)] [] h _
  rw [f_X9_read]
  refine z_aload_n 0 (zat dd_X9_read 0 rfl) rfl rfl ?_
  refine z_getR fl_X9_37 (zat dd_X9_read 1 rfl) (fun a1 => ?_)
  refine z_aload_n 0 (zat dd_X9_read 2 rfl) rfl rfl ?_
  refine z_getR fl_X9_55 (zat dd_X9_read 3 rfl) (fun a2 => ?_)
  refine z_aload_n 0 (zat dd_X9_read 4 rfl) rfl rfl ?_
  refine z_getI fl_X9_89 (zat dd_X9_read 5 rfl) (fun x3 => ?_)
  refine z_aload_n 0 (zat dd_X9_read 6 rfl) rfl rfl ?_
  refine z_getR fl_X9_16 (zat dd_X9_read 7 rfl) (fun a4 => ?_)
  refine z_callV_I0 (M2 := M_X5_readDoll) [.ref a2, .int x3, .ref a4] (fun l D _ _ => m_X5_readDoll l D a1 a2 x3 a4 h) u_X5_readDoll ql_X9_92 qi_X5_readDoll qs_X5_readDoll (ci := 2) rfl rfl rfl (Nat.le_of_ble_eq_true rfl) (by decide) rfl rfl (zat dd_X9_read 8 rfl) (fun x5 h6 => ?_)
  refine z_istore_n (lv' := [(1, .int x5), (0, .ref v0)]) (zat dd_X9_read 9 rfl) rfl (Nat.le_of_ble_eq_true rfl) rfl ?_
  refine z_iload_n 0 (zat dd_X9_read 10 rfl) rfl rfl ?_
  refine z_if_lt (tgt := 35) (zat dd_X9_read 11 rfl) (by decide) ?_ ?_
  · refine z_sub [0] rfl ?_
    exact zb_X9_read_35 Y x5 h6
  · refine z_aload_n 1 (zat dd_X9_read 12 rfl) rfl rfl ?_
    refine z_getR fl_X9_12 (zat dd_X9_read 13 rfl) (fun a7 => ?_)
    refine z_aload_n 1 (zat dd_X9_read 14 rfl) rfl rfl ?_
    refine z_getR fl_X9_16 (zat dd_X9_read 15 rfl) (fun a8 => ?_)
    refine z_callV_V0 (M2 := M_X1_copyFrom) [.ref a8] (fun l D _ _ => m_X1_copyFrom l D a7 a8 h6) u_X1_copyFrom ql_X9_96 qi_X1_copyFrom qs_X1_copyFrom (ci := 0) rfl rfl rfl (Nat.le_of_ble_eq_true rfl) (by decide) rfl rfl (zat dd_X9_read 16 rfl) (fun h9 => ?_)
    refine z_sub [0] rfl ?_
    exact zb_X9_read_35 Y x5 h9
/-! PaperDolls.whyNoMove(II)I -/
def L_X9_whyNoMove : List (Nat × Instr × Nat) := [(0, .aload_n 0, 1), (1, .getfield 12, 3), (4, .iload_n 2, 1), (5, .invokevirtual 124, 3), (8, .ifCond .ne 6, 3), (11, .bipush (-102), 2), (13, .ireturn, 1), (14, .aload_n 0, 1), (15, .getfield 12, 3), (18, .getfield 108, 3), (21, .getfield 121, 3), (24, .sipush 9999, 3), (27, .if_icmp .ge 22, 3), (30, .aload_n 0, 1), (31, .getfield 12, 3), (34, .aload_n 0, 1), (35, .getfield 12, 3), (38, .getfield 108, 3), (41, .iload_n 1, 1), (42, .iload_n 2, 1), (43, .invokevirtual 286, 3), (46, .ifCond .ne 6, 3), (49, .bipush (-103), 2), (51, .ireturn, 1), (52, .iconst 0, 1), (53, .ireturn, 1)]
theorem dd_X9_whyNoMove : ∀ q ∈ L_X9_whyNoMove, decode cX9_whyNoMove q.1 = .ok q.2 := by decide +kernel
abbrev M_X9_whyNoMove : zM := (cX9_whyNoMove, RX9, "whyNoMove", 3, some .int, 4, 0, 0)
theorem u_X9_whyNoMove : zCal yX9_whyNoMove (M_X9_whyNoMove) 2 := ⟨(zmem 490 (by decide +kernel) rfl : Cond.code yX9_whyNoMove cX9_whyNoMove 3 (some .int) ∈ zTb), zmem 57 (by decide +kernel) rfl, by decide +kernel, Nat.le_of_ble_eq_true rfl⟩
theorem qi_X9_whyNoMove : Cond.instanceMethod yX9_whyNoMove ∈ zTb := zmem 489 (by decide +kernel) rfl
theorem qs_X9_whyNoMove : Cond.selects yX9_whyNoMove.cls yX9_whyNoMove yX9_whyNoMove ∈ zTb := zmem 12 (by decide +kernel) rfl
def f_X9_whyNoMove_49 (h : zH) : zR :=
  zrI (-103) h
set_option maxRecDepth 100000 in
set_option maxHeartbeats 4000000 in
theorem zb_X9_whyNoMove_49 (Y : zY) (h : zH) : Z Y M_X9_whyNoMove 0 0 49 [] [] h (f_X9_whyNoMove_49  h) := by
  rw [f_X9_whyNoMove_49]
  refine z_bipush (x := (-103)) (zat dd_X9_whyNoMove 22 rfl) (by decide) ?_
  exact z_iret rfl (zat dd_X9_whyNoMove 23 rfl)
def f_X9_whyNoMove (v0 : Nat) (v1 : Int32) (v2 : Int32) (h : zH) : zR :=
  zgR h v0 5 0 fun a1 =>
  zoc h a1 0 <|
  zcI (f_X1_has a1 v2 h) fun x2 h3 =>
  if x2 = 0 then
  zrI (-102) h3
  else
  zgR h3 v0 5 0 fun a4 =>
  zgR h3 a4 0 5 fun a5 =>
  zgI h3 a5 4 3 fun x6 =>
  if 9999 ≤ x6 then
  f_X9_whyNoMove_49 h3
  else
  zgR h3 v0 5 0 fun a7 =>
  zgR h3 v0 5 0 fun a8 =>
  zgR h3 a8 0 5 fun a9 =>
  zoc h3 a7 0 <|
  zcI (f_X1_mayMove a7 a9 v1 v2 h3) fun x10 h11 =>
  if x10 = 0 then
  f_X9_whyNoMove_49 h11
  else
  zrI 0 h11
set_option maxRecDepth 100000 in
set_option maxHeartbeats 4000000 in
theorem m_X9_whyNoMove (l : Launch) (D : zD) (v0 : Nat) (v1 : Int32) (v2 : Int32) (h : zH) : zMet l D yX9_whyNoMove M_X9_whyNoMove [.ref v0, .int v1, .int v2] h (f_X9_whyNoMove v0 v1 v2 h) := by
  refine zMet.of (by decide +kernel) ⟨rfl, rfl⟩ (Nat.le_of_ble_eq_true rfl) (fun Y hl hD => ?_)
  show Z Y M_X9_whyNoMove 0 0 0 [(0, .ref v0), (1, .int v1), (2, .int v2)] [] h _
  rw [f_X9_whyNoMove]
  refine z_aload_n 0 (zat dd_X9_whyNoMove 0 rfl) rfl rfl ?_
  refine z_getR fl_X9_12 (zat dd_X9_whyNoMove 1 rfl) (fun a1 => ?_)
  refine z_iload_n 2 (zat dd_X9_whyNoMove 2 rfl) rfl rfl ?_
  refine z_callV_I0 (M2 := M_X1_has) [.int v2] (fun l D _ _ => m_X1_has l D a1 v2 h) u_X1_has ql_X9_124 qi_X1_has qs_X1_has (ci := 0) rfl rfl rfl (Nat.le_of_ble_eq_true rfl) (by decide) rfl rfl (zat dd_X9_whyNoMove 3 rfl) (fun x2 h3 => ?_)
  refine z_if_ne (tgt := 14) (zat dd_X9_whyNoMove 4 rfl) (by decide) ?_ ?_
  · refine z_aload_n 0 (zat dd_X9_whyNoMove 7 rfl) rfl rfl ?_
    refine z_getR fl_X9_12 (zat dd_X9_whyNoMove 8 rfl) (fun a4 => ?_)
    refine z_getR fl_X9_108 (zat dd_X9_whyNoMove 9 rfl) (fun a5 => ?_)
    refine z_getI fl_X9_121 (zat dd_X9_whyNoMove 10 rfl) (fun x6 => ?_)
    refine z_sipush (x := 9999) (zat dd_X9_whyNoMove 11 rfl) (by decide) ?_
    refine z_icmp_ge (tgt := 49) (zat dd_X9_whyNoMove 12 rfl) (by decide) ?_ ?_
    · refine z_sub [] rfl ?_
      exact zb_X9_whyNoMove_49 Y h3
    · refine z_aload_n 0 (zat dd_X9_whyNoMove 13 rfl) rfl rfl ?_
      refine z_getR fl_X9_12 (zat dd_X9_whyNoMove 14 rfl) (fun a7 => ?_)
      refine z_aload_n 0 (zat dd_X9_whyNoMove 15 rfl) rfl rfl ?_
      refine z_getR fl_X9_12 (zat dd_X9_whyNoMove 16 rfl) (fun a8 => ?_)
      refine z_getR fl_X9_108 (zat dd_X9_whyNoMove 17 rfl) (fun a9 => ?_)
      refine z_iload_n 1 (zat dd_X9_whyNoMove 18 rfl) rfl rfl ?_
      refine z_iload_n 2 (zat dd_X9_whyNoMove 19 rfl) rfl rfl ?_
      refine z_callV_I0 (M2 := M_X1_mayMove) [.ref a9, .int v1, .int v2] (fun l D _ _ => m_X1_mayMove l D a7 a9 v1 v2 h3) u_X1_mayMove ql_X9_286 qi_X1_mayMove qs_X1_mayMove (ci := 0) rfl rfl rfl (Nat.le_of_ble_eq_true rfl) (by decide) rfl rfl (zat dd_X9_whyNoMove 20 rfl) (fun x10 h11 => ?_)
      refine z_if_ne (tgt := 52) (zat dd_X9_whyNoMove 21 rfl) (by decide) ?_ ?_
      · refine z_iconst (x := 0) (zat dd_X9_whyNoMove 24 rfl) (by decide) ?_
        exact z_iret rfl (zat dd_X9_whyNoMove 25 rfl)
      · refine z_sub [] rfl ?_
        exact zb_X9_whyNoMove_49 Y h11
  · refine z_bipush (x := (-102)) (zat dd_X9_whyNoMove 5 rfl) (by decide) ?_
    exact z_iret rfl (zat dd_X9_whyNoMove 6 rfl)
/-! PaperDolls.puts(I)I -/
def L_X9_puts : List (Nat × Instr × Nat) := [(0, .aload_n 0, 1), (1, .iconst 0, 1), (2, .iload_n 1, 1), (3, .invokevirtual 100, 3), (6, .istore_n 2, 1), (7, .iload_n 2, 1), (8, .ifCond .eq 9, 3), (11, .aload_n 0, 1), (12, .iload_n 2, 1), (13, .invokevirtual 67, 3), (16, .ireturn, 1), (17, .aload_n 0, 1), (18, .getfield 12, 3), (21, .iconst 0, 1), (22, .iload_n 1, 1), (23, .invokevirtual 104, 3), (26, .aload_n 0, 1), (27, .getfield 12, 3), (30, .getfield 108, 3), (33, .getfield 111, 3), (36, .ireturn, 1)]
theorem dd_X9_puts : ∀ q ∈ L_X9_puts, decode cX9_puts q.1 = .ok q.2 := by decide +kernel
abbrev M_X9_puts : zM := (cX9_puts, RX9, "puts", 3, some .int, 5, 0, 0)
theorem u_X9_puts : zCal yX9_puts (M_X9_puts) 1 := ⟨(zmem 486 (by decide +kernel) rfl : Cond.code yX9_puts cX9_puts 3 (some .int) ∈ zTb), zmem 57 (by decide +kernel) rfl, by decide +kernel, Nat.le_of_ble_eq_true rfl⟩
theorem qi_X9_puts : Cond.instanceMethod yX9_puts ∈ zTb := zmem 484 (by decide +kernel) rfl
theorem qs_X9_puts : Cond.selects yX9_puts.cls yX9_puts yX9_puts ∈ zTb := zmem 485 (by decide +kernel) rfl
def f_X9_puts (v0 : Nat) (v1 : Int32) (h : zH) : zR :=
  zoc h v0 5 <|
  zcI (f_X9_whyNoMove v0 0 v1 h) fun x1 h2 =>
  if x1 = 0 then
  zgR h2 v0 5 0 fun a3 =>
  zoc h2 a3 0 <|
  zcV (f_X1_moveForGood a3 0 v1 h2) fun h4 =>
  zgR h4 v0 5 0 fun a5 =>
  zgR h4 a5 0 5 fun a6 =>
  zgI h4 a6 4 2 fun x7 =>
  zrI x7 h4
  else
  zoc h2 v0 5 <|
  zcI (f_X9_refuse v0 x1 h2) fun x8 h9 =>
  zrI x8 h9
set_option maxRecDepth 100000 in
set_option maxHeartbeats 4000000 in
theorem m_X9_puts (l : Launch) (D : zD) (v0 : Nat) (v1 : Int32) (h : zH) : zMet l D yX9_puts M_X9_puts [.ref v0, .int v1] h (f_X9_puts v0 v1 h) := by
  refine zMet.of (by decide +kernel) ⟨rfl, rfl⟩ (Nat.le_of_ble_eq_true rfl) (fun Y hl hD => ?_)
  show Z Y M_X9_puts 0 0 0 [(0, .ref v0), (1, .int v1)] [] h _
  rw [f_X9_puts]
  refine z_aload_n 0 (zat dd_X9_puts 0 rfl) rfl rfl ?_
  refine z_iconst (x := 0) (zat dd_X9_puts 1 rfl) (by decide) ?_
  refine z_iload_n 1 (zat dd_X9_puts 2 rfl) rfl rfl ?_
  refine z_callV_I0 (M2 := M_X9_whyNoMove) [.int 0, .int v1] (fun l D _ _ => m_X9_whyNoMove l D v0 0 v1 h) u_X9_whyNoMove ql_X9_100 qi_X9_whyNoMove qs_X9_whyNoMove (ci := 5) rfl rfl rfl (Nat.le_of_ble_eq_true rfl) (by decide) rfl rfl (zat dd_X9_puts 3 rfl) (fun x1 h2 => ?_)
  refine z_istore_n (lv' := [(2, .int x1), (0, .ref v0), (1, .int v1)]) (zat dd_X9_puts 4 rfl) rfl (Nat.le_of_ble_eq_true rfl) rfl ?_
  refine z_iload_n 0 (zat dd_X9_puts 5 rfl) rfl rfl ?_
  refine z_if_eq (tgt := 17) (zat dd_X9_puts 6 rfl) (by decide) ?_ ?_
  · refine z_aload_n 1 (zat dd_X9_puts 11 rfl) rfl rfl ?_
    refine z_getR fl_X9_12 (zat dd_X9_puts 12 rfl) (fun a3 => ?_)
    refine z_iconst (x := 0) (zat dd_X9_puts 13 rfl) (by decide) ?_
    refine z_iload_n 2 (zat dd_X9_puts 14 rfl) rfl rfl ?_
    refine z_callV_V0 (M2 := M_X1_moveForGood) [.int 0, .int v1] (fun l D _ _ => m_X1_moveForGood l D a3 0 v1 h2) u_X1_moveForGood ql_X9_104 qi_X1_moveForGood qs_X1_moveForGood (ci := 0) rfl rfl rfl (Nat.le_of_ble_eq_true rfl) (by decide) rfl rfl (zat dd_X9_puts 15 rfl) (fun h4 => ?_)
    refine z_aload_n 1 (zat dd_X9_puts 16 rfl) rfl rfl ?_
    refine z_getR fl_X9_12 (zat dd_X9_puts 17 rfl) (fun a5 => ?_)
    refine z_getR fl_X9_108 (zat dd_X9_puts 18 rfl) (fun a6 => ?_)
    refine z_getI fl_X9_111 (zat dd_X9_puts 19 rfl) (fun x7 => ?_)
    exact z_iret rfl (zat dd_X9_puts 20 rfl)
  · refine z_aload_n 1 (zat dd_X9_puts 7 rfl) rfl rfl ?_
    refine z_iload_n 0 (zat dd_X9_puts 8 rfl) rfl rfl ?_
    refine z_callV_I0 (M2 := M_X9_refuse) [.int x1] (fun l D _ _ => m_X9_refuse l D v0 x1 h2) u_X9_refuse ql_X9_67 qi_X9_refuse qs_X9_refuse (ci := 5) rfl rfl rfl (Nat.le_of_ble_eq_true rfl) (by decide) rfl rfl (zat dd_X9_puts 9 rfl) (fun x8 h9 => ?_)
    exact z_iret rfl (zat dd_X9_puts 10 rfl)
/-! PaperDolls.takes(I)I -/
def L_X9_takes : List (Nat × Instr × Nat) := [(0, .aload_n 0, 1), (1, .iconst 1, 1), (2, .iload_n 1, 1), (3, .invokevirtual 100, 3), (6, .istore_n 2, 1), (7, .iload_n 2, 1), (8, .ifCond .eq 9, 3), (11, .aload_n 0, 1), (12, .iload_n 2, 1), (13, .invokevirtual 67, 3), (16, .ireturn, 1), (17, .aload_n 0, 1), (18, .getfield 12, 3), (21, .iconst 1, 1), (22, .iload_n 1, 1), (23, .invokevirtual 104, 3), (26, .aload_n 0, 1), (27, .getfield 12, 3), (30, .getfield 108, 3), (33, .getfield 111, 3), (36, .ireturn, 1)]
theorem dd_X9_takes : ∀ q ∈ L_X9_takes, decode cX9_takes q.1 = .ok q.2 := by decide +kernel
abbrev M_X9_takes : zM := (cX9_takes, RX9, "takes", 3, some .int, 5, 0, 0)
theorem u_X9_takes : zCal yX9_takes (M_X9_takes) 1 := ⟨(zmem 505 (by decide +kernel) rfl : Cond.code yX9_takes cX9_takes 3 (some .int) ∈ zTb), zmem 57 (by decide +kernel) rfl, by decide +kernel, Nat.le_of_ble_eq_true rfl⟩
theorem qi_X9_takes : Cond.instanceMethod yX9_takes ∈ zTb := zmem 503 (by decide +kernel) rfl
theorem qs_X9_takes : Cond.selects yX9_takes.cls yX9_takes yX9_takes ∈ zTb := zmem 504 (by decide +kernel) rfl
def f_X9_takes (v0 : Nat) (v1 : Int32) (h : zH) : zR :=
  zoc h v0 5 <|
  zcI (f_X9_whyNoMove v0 1 v1 h) fun x1 h2 =>
  if x1 = 0 then
  zgR h2 v0 5 0 fun a3 =>
  zoc h2 a3 0 <|
  zcV (f_X1_moveForGood a3 1 v1 h2) fun h4 =>
  zgR h4 v0 5 0 fun a5 =>
  zgR h4 a5 0 5 fun a6 =>
  zgI h4 a6 4 2 fun x7 =>
  zrI x7 h4
  else
  zoc h2 v0 5 <|
  zcI (f_X9_refuse v0 x1 h2) fun x8 h9 =>
  zrI x8 h9
set_option maxRecDepth 100000 in
set_option maxHeartbeats 4000000 in
theorem m_X9_takes (l : Launch) (D : zD) (v0 : Nat) (v1 : Int32) (h : zH) : zMet l D yX9_takes M_X9_takes [.ref v0, .int v1] h (f_X9_takes v0 v1 h) := by
  refine zMet.of (by decide +kernel) ⟨rfl, rfl⟩ (Nat.le_of_ble_eq_true rfl) (fun Y hl hD => ?_)
  show Z Y M_X9_takes 0 0 0 [(0, .ref v0), (1, .int v1)] [] h _
  rw [f_X9_takes]
  refine z_aload_n 0 (zat dd_X9_takes 0 rfl) rfl rfl ?_
  refine z_iconst (x := 1) (zat dd_X9_takes 1 rfl) (by decide) ?_
  refine z_iload_n 1 (zat dd_X9_takes 2 rfl) rfl rfl ?_
  refine z_callV_I0 (M2 := M_X9_whyNoMove) [.int 1, .int v1] (fun l D _ _ => m_X9_whyNoMove l D v0 1 v1 h) u_X9_whyNoMove ql_X9_100 qi_X9_whyNoMove qs_X9_whyNoMove (ci := 5) rfl rfl rfl (Nat.le_of_ble_eq_true rfl) (by decide) rfl rfl (zat dd_X9_takes 3 rfl) (fun x1 h2 => ?_)
  refine z_istore_n (lv' := [(2, .int x1), (0, .ref v0), (1, .int v1)]) (zat dd_X9_takes 4 rfl) rfl (Nat.le_of_ble_eq_true rfl) rfl ?_
  refine z_iload_n 0 (zat dd_X9_takes 5 rfl) rfl rfl ?_
  refine z_if_eq (tgt := 17) (zat dd_X9_takes 6 rfl) (by decide) ?_ ?_
  · refine z_aload_n 1 (zat dd_X9_takes 11 rfl) rfl rfl ?_
    refine z_getR fl_X9_12 (zat dd_X9_takes 12 rfl) (fun a3 => ?_)
    refine z_iconst (x := 1) (zat dd_X9_takes 13 rfl) (by decide) ?_
    refine z_iload_n 2 (zat dd_X9_takes 14 rfl) rfl rfl ?_
    refine z_callV_V0 (M2 := M_X1_moveForGood) [.int 1, .int v1] (fun l D _ _ => m_X1_moveForGood l D a3 1 v1 h2) u_X1_moveForGood ql_X9_104 qi_X1_moveForGood qs_X1_moveForGood (ci := 0) rfl rfl rfl (Nat.le_of_ble_eq_true rfl) (by decide) rfl rfl (zat dd_X9_takes 15 rfl) (fun h4 => ?_)
    refine z_aload_n 1 (zat dd_X9_takes 16 rfl) rfl rfl ?_
    refine z_getR fl_X9_12 (zat dd_X9_takes 17 rfl) (fun a5 => ?_)
    refine z_getR fl_X9_108 (zat dd_X9_takes 18 rfl) (fun a6 => ?_)
    refine z_getI fl_X9_111 (zat dd_X9_takes 19 rfl) (fun x7 => ?_)
    exact z_iret rfl (zat dd_X9_takes 20 rfl)
  · refine z_aload_n 1 (zat dd_X9_takes 7 rfl) rfl rfl ?_
    refine z_iload_n 0 (zat dd_X9_takes 8 rfl) rfl rfl ?_
    refine z_callV_I0 (M2 := M_X9_refuse) [.int x1] (fun l D _ _ => m_X9_refuse l D v0 x1 h2) u_X9_refuse ql_X9_67 qi_X9_refuse qs_X9_refuse (ci := 5) rfl rfl rfl (Nat.le_of_ble_eq_true rfl) (by decide) rfl rfl (zat dd_X9_takes 9 rfl) (fun x8 h9 => ?_)
    exact z_iret rfl (zat dd_X9_takes 10 rfl)
/-! PaperDolls.mends(I)I -/
def L_X9_mends : List (Nat × Instr × Nat) := [(0, .aload_n 0, 1), (1, .iconst 2, 1), (2, .iload_n 1, 1), (3, .invokevirtual 100, 3), (6, .istore_n 2, 1), (7, .iload_n 2, 1), (8, .ifCond .eq 9, 3), (11, .aload_n 0, 1), (12, .iload_n 2, 1), (13, .invokevirtual 67, 3), (16, .ireturn, 1), (17, .aload_n 0, 1), (18, .getfield 12, 3), (21, .getfield 108, 3), (24, .getfield 114, 3), (27, .iload_n 1, 1), (28, .iaload, 1), (29, .istore_n 3, 1), (30, .aload_n 0, 1), (31, .getfield 12, 3), (34, .iconst 2, 1), (35, .iload_n 1, 1), (36, .invokevirtual 104, 3), (39, .iload_n 3, 1), (40, .ireturn, 1)]
theorem dd_X9_mends : ∀ q ∈ L_X9_mends, decode cX9_mends q.1 = .ok q.2 := by decide +kernel
abbrev M_X9_mends : zM := (cX9_mends, RX9, "mends", 4, some .int, 5, 0, 0)
theorem u_X9_mends : zCal yX9_mends (M_X9_mends) 1 := ⟨(zmem 509 (by decide +kernel) rfl : Cond.code yX9_mends cX9_mends 4 (some .int) ∈ zTb), zmem 57 (by decide +kernel) rfl, by decide +kernel, Nat.le_of_ble_eq_true rfl⟩
theorem qi_X9_mends : Cond.instanceMethod yX9_mends ∈ zTb := zmem 507 (by decide +kernel) rfl
theorem qs_X9_mends : Cond.selects yX9_mends.cls yX9_mends yX9_mends ∈ zTb := zmem 508 (by decide +kernel) rfl
def f_X9_mends (v0 : Nat) (v1 : Int32) (h : zH) : zR :=
  zoc h v0 5 <|
  zcI (f_X9_whyNoMove v0 2 v1 h) fun x1 h2 =>
  if x1 = 0 then
  zgR h2 v0 5 0 fun a3 =>
  zgR h2 a3 0 5 fun a4 =>
  zgR h2 a4 4 1 fun a5 =>
  zaI h2 a5 0 v1 fun x6 =>
  zgR h2 v0 5 0 fun a7 =>
  zoc h2 a7 0 <|
  zcV (f_X1_moveForGood a7 2 v1 h2) fun h8 =>
  zrI x6 h8
  else
  zoc h2 v0 5 <|
  zcI (f_X9_refuse v0 x1 h2) fun x9 h10 =>
  zrI x9 h10
set_option maxRecDepth 100000 in
set_option maxHeartbeats 4000000 in
theorem m_X9_mends (l : Launch) (D : zD) (v0 : Nat) (v1 : Int32) (h : zH) : zMet l D yX9_mends M_X9_mends [.ref v0, .int v1] h (f_X9_mends v0 v1 h) := by
  refine zMet.of (by decide +kernel) ⟨rfl, rfl⟩ (Nat.le_of_ble_eq_true rfl) (fun Y hl hD => ?_)
  show Z Y M_X9_mends 0 0 0 [(0, .ref v0), (1, .int v1)] [] h _
  rw [f_X9_mends]
  refine z_aload_n 0 (zat dd_X9_mends 0 rfl) rfl rfl ?_
  refine z_iconst (x := 2) (zat dd_X9_mends 1 rfl) (by decide) ?_
  refine z_iload_n 1 (zat dd_X9_mends 2 rfl) rfl rfl ?_
  refine z_callV_I0 (M2 := M_X9_whyNoMove) [.int 2, .int v1] (fun l D _ _ => m_X9_whyNoMove l D v0 2 v1 h) u_X9_whyNoMove ql_X9_100 qi_X9_whyNoMove qs_X9_whyNoMove (ci := 5) rfl rfl rfl (Nat.le_of_ble_eq_true rfl) (by decide) rfl rfl (zat dd_X9_mends 3 rfl) (fun x1 h2 => ?_)
  refine z_istore_n (lv' := [(2, .int x1), (0, .ref v0), (1, .int v1)]) (zat dd_X9_mends 4 rfl) rfl (Nat.le_of_ble_eq_true rfl) rfl ?_
  refine z_iload_n 0 (zat dd_X9_mends 5 rfl) rfl rfl ?_
  refine z_if_eq (tgt := 17) (zat dd_X9_mends 6 rfl) (by decide) ?_ ?_
  · refine z_aload_n 1 (zat dd_X9_mends 11 rfl) rfl rfl ?_
    refine z_getR fl_X9_12 (zat dd_X9_mends 12 rfl) (fun a3 => ?_)
    refine z_getR fl_X9_108 (zat dd_X9_mends 13 rfl) (fun a4 => ?_)
    refine z_getR fl_X9_114 (zat dd_X9_mends 14 rfl) (fun a5 => ?_)
    refine z_iload_n 2 (zat dd_X9_mends 15 rfl) rfl rfl ?_
    refine z_iald (zat dd_X9_mends 16 rfl) (fun x6 => ?_)
    refine z_istore_n (lv' := [(3, .int x6), (2, .int x1), (0, .ref v0), (1, .int v1)]) (zat dd_X9_mends 17 rfl) rfl (Nat.le_of_ble_eq_true rfl) rfl ?_
    refine z_aload_n 2 (zat dd_X9_mends 18 rfl) rfl rfl ?_
    refine z_getR fl_X9_12 (zat dd_X9_mends 19 rfl) (fun a7 => ?_)
    refine z_iconst (x := 2) (zat dd_X9_mends 20 rfl) (by decide) ?_
    refine z_iload_n 3 (zat dd_X9_mends 21 rfl) rfl rfl ?_
    refine z_callV_V0 (M2 := M_X1_moveForGood) [.int 2, .int v1] (fun l D _ _ => m_X1_moveForGood l D a7 2 v1 h2) u_X1_moveForGood ql_X9_104 qi_X1_moveForGood qs_X1_moveForGood (ci := 0) rfl rfl rfl (Nat.le_of_ble_eq_true rfl) (by decide) rfl rfl (zat dd_X9_mends 22 rfl) (fun h8 => ?_)
    refine z_iload_n 0 (zat dd_X9_mends 23 rfl) rfl rfl ?_
    exact z_iret rfl (zat dd_X9_mends 24 rfl)
  · refine z_aload_n 1 (zat dd_X9_mends 7 rfl) rfl rfl ?_
    refine z_iload_n 0 (zat dd_X9_mends 8 rfl) rfl rfl ?_
    refine z_callV_I0 (M2 := M_X9_refuse) [.int x1] (fun l D _ _ => m_X9_refuse l D v0 x1 h2) u_X9_refuse ql_X9_67 qi_X9_refuse qs_X9_refuse (ci := 5) rfl rfl rfl (Nat.le_of_ble_eq_true rfl) (by decide) rfl rfl (zat dd_X9_mends 9 rfl) (fun x9 h10 => ?_)
    exact z_iret rfl (zat dd_X9_mends 10 rfl)
/-! PaperDolls.undo()I -/
def L_X9_undo : List (Nat × Instr × Nat) := [(0, .aload_n 0, 1), (1, .getfield 12, 3), (4, .getfield 82, 3), (7, .iconst 1, 1), (8, .if_icmp .ge 10, 3), (11, .aload_n 0, 1), (12, .bipush (-103), 2), (14, .invokevirtual 67, 3), (17, .ireturn, 1), (18, .aload_n 0, 1), (19, .getfield 12, 3), (22, .invokevirtual 118, 3), (25, .aload_n 0, 1), (26, .getfield 12, 3), (29, .getfield 108, 3), (32, .getfield 121, 3), (35, .ireturn, 1)]
theorem dd_X9_undo : ∀ q ∈ L_X9_undo, decode cX9_undo q.1 = .ok q.2 := by decide +kernel
abbrev M_X9_undo : zM := (cX9_undo, RX9, "undo", 1, some .int, 2, 0, 0)
theorem u_X9_undo : zCal yX9_undo (M_X9_undo) 0 := ⟨(zmem 513 (by decide +kernel) rfl : Cond.code yX9_undo cX9_undo 1 (some .int) ∈ zTb), zmem 57 (by decide +kernel) rfl, by decide +kernel, Nat.le_of_ble_eq_true rfl⟩
theorem qi_X9_undo : Cond.instanceMethod yX9_undo ∈ zTb := zmem 511 (by decide +kernel) rfl
theorem qs_X9_undo : Cond.selects yX9_undo.cls yX9_undo yX9_undo ∈ zTb := zmem 512 (by decide +kernel) rfl
def f_X9_undo (v0 : Nat) (h : zH) : zR :=
  zgR h v0 5 0 fun a1 =>
  zgI h a1 0 7 fun x2 =>
  if 1 ≤ x2 then
  zgR h v0 5 0 fun a3 =>
  zoc h a3 0 <|
  zcV (f_X1_bringBack a3 h) fun h4 =>
  zgR h4 v0 5 0 fun a5 =>
  zgR h4 a5 0 5 fun a6 =>
  zgI h4 a6 4 3 fun x7 =>
  zrI x7 h4
  else
  zoc h v0 5 <|
  zcI (f_X9_refuse v0 (-103) h) fun x8 h9 =>
  zrI x8 h9
set_option maxRecDepth 100000 in
set_option maxHeartbeats 4000000 in
theorem m_X9_undo (l : Launch) (D : zD) (v0 : Nat) (h : zH) : zMet l D yX9_undo M_X9_undo [.ref v0] h (f_X9_undo v0 h) := by
  refine zMet.of (by decide +kernel) ⟨rfl, rfl⟩ (Nat.le_of_ble_eq_true rfl) (fun Y hl hD => ?_)
  show Z Y M_X9_undo 0 0 0 [(0, .ref v0)] [] h _
  rw [f_X9_undo]
  refine z_aload_n 0 (zat dd_X9_undo 0 rfl) rfl rfl ?_
  refine z_getR fl_X9_12 (zat dd_X9_undo 1 rfl) (fun a1 => ?_)
  refine z_getI fl_X9_82 (zat dd_X9_undo 2 rfl) (fun x2 => ?_)
  refine z_iconst (x := 1) (zat dd_X9_undo 3 rfl) (by decide) ?_
  refine z_icmp_ge (tgt := 18) (zat dd_X9_undo 4 rfl) (by decide) ?_ ?_
  · refine z_aload_n 0 (zat dd_X9_undo 9 rfl) rfl rfl ?_
    refine z_getR fl_X9_12 (zat dd_X9_undo 10 rfl) (fun a3 => ?_)
    refine z_callV_V0 (M2 := M_X1_bringBack) [] (fun l D _ _ => m_X1_bringBack l D a3 h) u_X1_bringBack ql_X9_118 qi_X1_bringBack qs_X1_bringBack (ci := 0) rfl rfl rfl (Nat.le_of_ble_eq_true rfl) (by decide) rfl rfl (zat dd_X9_undo 11 rfl) (fun h4 => ?_)
    refine z_aload_n 0 (zat dd_X9_undo 12 rfl) rfl rfl ?_
    refine z_getR fl_X9_12 (zat dd_X9_undo 13 rfl) (fun a5 => ?_)
    refine z_getR fl_X9_108 (zat dd_X9_undo 14 rfl) (fun a6 => ?_)
    refine z_getI fl_X9_121 (zat dd_X9_undo 15 rfl) (fun x7 => ?_)
    exact z_iret rfl (zat dd_X9_undo 16 rfl)
  · refine z_aload_n 0 (zat dd_X9_undo 5 rfl) rfl rfl ?_
    refine z_bipush (x := (-103)) (zat dd_X9_undo 6 rfl) (by decide) ?_
    refine z_callV_I0 (M2 := M_X9_refuse) [.int (-103)] (fun l D _ _ => m_X9_refuse l D v0 (-103) h) u_X9_refuse ql_X9_67 qi_X9_refuse qs_X9_refuse (ci := 5) rfl rfl rfl (Nat.le_of_ble_eq_true rfl) (by decide) rfl rfl (zat dd_X9_undo 7 rfl) (fun x8 h9 => ?_)
    exact z_iret rfl (zat dd_X9_undo 8 rfl)
/-! PaperDolls.of(II)I -/
def L_X9_of : List (Nat × Instr × Nat) := [(0, .aload_n 0, 1), (1, .getfield 12, 3), (4, .iload_n 1, 1), (5, .invokevirtual 124, 3), (8, .ifCond .ne 10, 3), (11, .aload_n 0, 1), (12, .bipush (-102), 2), (14, .invokevirtual 67, 3), (17, .ireturn, 1), (18, .iload_n 2, 1), (19, .tableswitch 121 0 6 #[41, 51, 61, 71, 84, 96, 105], 41), (60, .aload_n 0, 1), (61, .getfield 12, 3), (64, .getfield 128, 3), (67, .iload_n 1, 1), (68, .iaload, 1), (69, .ireturn, 1), (70, .aload_n 0, 1), (71, .getfield 12, 3), (74, .getfield 131, 3), (77, .iload_n 1, 1), (78, .iaload, 1), (79, .ireturn, 1), (80, .aload_n 0, 1), (81, .getfield 12, 3), (84, .getfield 134, 3), (87, .iload_n 1, 1), (88, .iaload, 1), (89, .ireturn, 1), (90, .aload_n 0, 1), (91, .getfield 12, 3), (94, .getfield 108, 3), (97, .getfield 114, 3), (100, .iload_n 1, 1), (101, .iaload, 1), (102, .ireturn, 1), (103, .aload_n 0, 1), (104, .getfield 12, 3), (107, .getfield 108, 3), (110, .iload_n 1, 1), (111, .invokevirtual 137, 3), (114, .ireturn, 1), (115, .aload_n 0, 1), (116, .getfield 12, 3), (119, .iload_n 1, 1), (120, .invokevirtual 140, 3), (123, .ireturn, 1), (124, .aload_n 0, 1), (125, .getfield 12, 3), (128, .aload_n 0, 1), (129, .getfield 12, 3), (132, .getfield 108, 3), (135, .iload_n 1, 1), (136, .invokevirtual 143, 3), (139, .ireturn, 1), (140, .aload_n 0, 1), (141, .bipush (-102), 2), (143, .invokevirtual 67, 3), (146, .ireturn, 1)]
theorem dd_X9_of : ∀ q ∈ L_X9_of, decode cX9_of q.1 = .ok q.2 := by decide +kernel
abbrev M_X9_of : zM := (cX9_of, RX9, "of", 3, some .int, 2, 0, 0)
theorem u_X9_of : zCal yX9_of (M_X9_of) 2 := ⟨(zmem 521 (by decide +kernel) rfl : Cond.code yX9_of cX9_of 3 (some .int) ∈ zTb), zmem 57 (by decide +kernel) rfl, by decide +kernel, Nat.le_of_ble_eq_true rfl⟩
theorem qi_X9_of : Cond.instanceMethod yX9_of ∈ zTb := zmem 519 (by decide +kernel) rfl
theorem qs_X9_of : Cond.selects yX9_of.cls yX9_of yX9_of ∈ zTb := zmem 520 (by decide +kernel) rfl
def f_X9_of (v0 : Nat) (v1 : Int32) (v2 : Int32) (h : zH) : zR :=
  zgR h v0 5 0 fun a1 =>
  zoc h a1 0 <|
  zcI (f_X1_has a1 v1 h) fun x2 h3 =>
  if x2 = 0 then
  zoc h3 v0 5 <|
  zcI (f_X9_refuse v0 (-102) h3) fun x31 h32 =>
  zrI x31 h32
  else
  if v2 = 0 then
  zgR h3 v0 5 0 fun a4 =>
  zgR h3 a4 0 2 fun a5 =>
  zaI h3 a5 0 v1 fun x6 =>
  zrI x6 h3
  else
  if v2 = 1 then
  zgR h3 v0 5 0 fun a7 =>
  zgR h3 a7 0 3 fun a8 =>
  zaI h3 a8 0 v1 fun x9 =>
  zrI x9 h3
  else
  if v2 = 2 then
  zgR h3 v0 5 0 fun a10 =>
  zgR h3 a10 0 4 fun a11 =>
  zaI h3 a11 0 v1 fun x12 =>
  zrI x12 h3
  else
  if v2 = 3 then
  zgR h3 v0 5 0 fun a13 =>
  zgR h3 a13 0 5 fun a14 =>
  zgR h3 a14 4 1 fun a15 =>
  zaI h3 a15 0 v1 fun x16 =>
  zrI x16 h3
  else
  if v2 = 4 then
  zgR h3 v0 5 0 fun a17 =>
  zgR h3 a17 0 5 fun a18 =>
  zoc h3 a18 4 <|
  zcI (f_X8_placeOf a18 v1 h3) fun x19 h20 =>
  zrI x19 h20
  else
  if v2 = 5 then
  zgR h3 v0 5 0 fun a21 =>
  zoc h3 a21 0 <|
  zcI (f_X1_spotsOf a21 v1 h3) fun x22 h23 =>
  zrI x22 h23
  else
  if v2 = 6 then
  zgR h3 v0 5 0 fun a24 =>
  zgR h3 v0 5 0 fun a25 =>
  zgR h3 a25 0 5 fun a26 =>
  zoc h3 a24 0 <|
  zcI (f_X1_holdOf a24 a26 v1 h3) fun x27 h28 =>
  zrI x27 h28
  else
  zoc h3 v0 5 <|
  zcI (f_X9_refuse v0 (-102) h3) fun x29 h30 =>
  zrI x29 h30
set_option maxRecDepth 100000 in
set_option maxHeartbeats 4000000 in
theorem m_X9_of (l : Launch) (D : zD) (v0 : Nat) (v1 : Int32) (v2 : Int32) (h : zH) : zMet l D yX9_of M_X9_of [.ref v0, .int v1, .int v2] h (f_X9_of v0 v1 v2 h) := by
  refine zMet.of (by decide +kernel) ⟨rfl, rfl⟩ (Nat.le_of_ble_eq_true rfl) (fun Y hl hD => ?_)
  show Z Y M_X9_of 0 0 0 [(0, .ref v0), (1, .int v1), (2, .int v2)] [] h _
  rw [f_X9_of]
  refine z_aload_n 0 (zat dd_X9_of 0 rfl) rfl rfl ?_
  refine z_getR fl_X9_12 (zat dd_X9_of 1 rfl) (fun a1 => ?_)
  refine z_iload_n 1 (zat dd_X9_of 2 rfl) rfl rfl ?_
  refine z_callV_I0 (M2 := M_X1_has) [.int v1] (fun l D _ _ => m_X1_has l D a1 v1 h) u_X1_has ql_X9_124 qi_X1_has qs_X1_has (ci := 0) rfl rfl rfl (Nat.le_of_ble_eq_true rfl) (by decide) rfl rfl (zat dd_X9_of 3 rfl) (fun x2 h3 => ?_)
  refine z_if_ne (tgt := 18) (zat dd_X9_of 4 rfl) (by decide) ?_ ?_
  · refine z_iload_n 2 (zat dd_X9_of 9 rfl) rfl rfl ?_
    refine z_ite (fun c0 => ?_) (fun c0 => ?_)
    · refine z_tabIn (tgt := 60) 0 c0 (zat dd_X9_of 10 rfl) (by decide) (by decide) rfl (by decide) ?_
      refine z_aload_n 0 (zat dd_X9_of 11 rfl) rfl rfl ?_
      refine z_getR fl_X9_12 (zat dd_X9_of 12 rfl) (fun a4 => ?_)
      refine z_getR fl_X9_128 (zat dd_X9_of 13 rfl) (fun a5 => ?_)
      refine z_iload_n 1 (zat dd_X9_of 14 rfl) rfl rfl ?_
      refine z_iald (zat dd_X9_of 15 rfl) (fun x6 => ?_)
      exact z_iret rfl (zat dd_X9_of 16 rfl)
    refine z_ite (fun c1 => ?_) (fun c1 => ?_)
    · refine z_tabIn (tgt := 70) 1 c1 (zat dd_X9_of 10 rfl) (by decide) (by decide) rfl (by decide) ?_
      refine z_aload_n 0 (zat dd_X9_of 17 rfl) rfl rfl ?_
      refine z_getR fl_X9_12 (zat dd_X9_of 18 rfl) (fun a7 => ?_)
      refine z_getR fl_X9_131 (zat dd_X9_of 19 rfl) (fun a8 => ?_)
      refine z_iload_n 1 (zat dd_X9_of 20 rfl) rfl rfl ?_
      refine z_iald (zat dd_X9_of 21 rfl) (fun x9 => ?_)
      exact z_iret rfl (zat dd_X9_of 22 rfl)
    refine z_ite (fun c2 => ?_) (fun c2 => ?_)
    · refine z_tabIn (tgt := 80) 2 c2 (zat dd_X9_of 10 rfl) (by decide) (by decide) rfl (by decide) ?_
      refine z_aload_n 0 (zat dd_X9_of 23 rfl) rfl rfl ?_
      refine z_getR fl_X9_12 (zat dd_X9_of 24 rfl) (fun a10 => ?_)
      refine z_getR fl_X9_134 (zat dd_X9_of 25 rfl) (fun a11 => ?_)
      refine z_iload_n 1 (zat dd_X9_of 26 rfl) rfl rfl ?_
      refine z_iald (zat dd_X9_of 27 rfl) (fun x12 => ?_)
      exact z_iret rfl (zat dd_X9_of 28 rfl)
    refine z_ite (fun c3 => ?_) (fun c3 => ?_)
    · refine z_tabIn (tgt := 90) 3 c3 (zat dd_X9_of 10 rfl) (by decide) (by decide) rfl (by decide) ?_
      refine z_aload_n 0 (zat dd_X9_of 29 rfl) rfl rfl ?_
      refine z_getR fl_X9_12 (zat dd_X9_of 30 rfl) (fun a13 => ?_)
      refine z_getR fl_X9_108 (zat dd_X9_of 31 rfl) (fun a14 => ?_)
      refine z_getR fl_X9_114 (zat dd_X9_of 32 rfl) (fun a15 => ?_)
      refine z_iload_n 1 (zat dd_X9_of 33 rfl) rfl rfl ?_
      refine z_iald (zat dd_X9_of 34 rfl) (fun x16 => ?_)
      exact z_iret rfl (zat dd_X9_of 35 rfl)
    refine z_ite (fun c4 => ?_) (fun c4 => ?_)
    · refine z_tabIn (tgt := 103) 4 c4 (zat dd_X9_of 10 rfl) (by decide) (by decide) rfl (by decide) ?_
      refine z_aload_n 0 (zat dd_X9_of 36 rfl) rfl rfl ?_
      refine z_getR fl_X9_12 (zat dd_X9_of 37 rfl) (fun a17 => ?_)
      refine z_getR fl_X9_108 (zat dd_X9_of 38 rfl) (fun a18 => ?_)
      refine z_iload_n 1 (zat dd_X9_of 39 rfl) rfl rfl ?_
      refine z_callV_I0 (M2 := M_X8_placeOf) [.int v1] (fun l D _ _ => m_X8_placeOf l D a18 v1 h3) u_X8_placeOf ql_X9_137 qi_X8_placeOf qs_X8_placeOf (ci := 4) rfl rfl rfl (Nat.le_of_ble_eq_true rfl) (by decide) rfl rfl (zat dd_X9_of 40 rfl) (fun x19 h20 => ?_)
      exact z_iret rfl (zat dd_X9_of 41 rfl)
    refine z_ite (fun c5 => ?_) (fun c5 => ?_)
    · refine z_tabIn (tgt := 115) 5 c5 (zat dd_X9_of 10 rfl) (by decide) (by decide) rfl (by decide) ?_
      refine z_aload_n 0 (zat dd_X9_of 42 rfl) rfl rfl ?_
      refine z_getR fl_X9_12 (zat dd_X9_of 43 rfl) (fun a21 => ?_)
      refine z_iload_n 1 (zat dd_X9_of 44 rfl) rfl rfl ?_
      refine z_callV_I0 (M2 := M_X1_spotsOf) [.int v1] (fun l D _ _ => m_X1_spotsOf l D a21 v1 h3) u_X1_spotsOf ql_X9_140 qi_X1_spotsOf qs_X1_spotsOf (ci := 0) rfl rfl rfl (Nat.le_of_ble_eq_true rfl) (by decide) rfl rfl (zat dd_X9_of 45 rfl) (fun x22 h23 => ?_)
      exact z_iret rfl (zat dd_X9_of 46 rfl)
    refine z_ite (fun c6 => ?_) (fun c6 => ?_)
    · refine z_tabIn (tgt := 124) 6 c6 (zat dd_X9_of 10 rfl) (by decide) (by decide) rfl (by decide) ?_
      refine z_aload_n 0 (zat dd_X9_of 47 rfl) rfl rfl ?_
      refine z_getR fl_X9_12 (zat dd_X9_of 48 rfl) (fun a24 => ?_)
      refine z_aload_n 0 (zat dd_X9_of 49 rfl) rfl rfl ?_
      refine z_getR fl_X9_12 (zat dd_X9_of 50 rfl) (fun a25 => ?_)
      refine z_getR fl_X9_108 (zat dd_X9_of 51 rfl) (fun a26 => ?_)
      refine z_iload_n 1 (zat dd_X9_of 52 rfl) rfl rfl ?_
      refine z_callV_I0 (M2 := M_X1_holdOf) [.ref a26, .int v1] (fun l D _ _ => m_X1_holdOf l D a24 a26 v1 h3) u_X1_holdOf ql_X9_143 qi_X1_holdOf qs_X1_holdOf (ci := 0) rfl rfl rfl (Nat.le_of_ble_eq_true rfl) (by decide) rfl rfl (zat dd_X9_of 53 rfl) (fun x27 h28 => ?_)
      exact z_iret rfl (zat dd_X9_of 54 rfl)
    refine z_tabOut (tgt := 140) (zat dd_X9_of 10 rfl) (by have g0 := lv_neT (a := 0) c0 rfl; have g1 := lv_neT (a := 1) c1 rfl; have g2 := lv_neT (a := 2) c2 rfl; have g3 := lv_neT (a := 3) c3 rfl; have g4 := lv_neT (a := 4) c4 rfl; have g5 := lv_neT (a := 5) c5 rfl; have g6 := lv_neT (a := 6) c6 rfl; omega) (by decide) ?_
    refine z_aload_n 0 (zat dd_X9_of 55 rfl) rfl rfl ?_
    refine z_bipush (x := (-102)) (zat dd_X9_of 56 rfl) (by decide) ?_
    refine z_callV_I0 (M2 := M_X9_refuse) [.int (-102)] (fun l D _ _ => m_X9_refuse l D v0 (-102) h3) u_X9_refuse ql_X9_67 qi_X9_refuse qs_X9_refuse (ci := 5) rfl rfl rfl (Nat.le_of_ble_eq_true rfl) (by decide) rfl rfl (zat dd_X9_of 57 rfl) (fun x29 h30 => ?_)
    exact z_iret rfl (zat dd_X9_of 58 rfl)
  · refine z_aload_n 0 (zat dd_X9_of 5 rfl) rfl rfl ?_
    refine z_bipush (x := (-102)) (zat dd_X9_of 6 rfl) (by decide) ?_
    refine z_callV_I0 (M2 := M_X9_refuse) [.int (-102)] (fun l D _ _ => m_X9_refuse l D v0 (-102) h3) u_X9_refuse ql_X9_67 qi_X9_refuse qs_X9_refuse (ci := 5) rfl rfl rfl (Nat.le_of_ble_eq_true rfl) (by decide) rfl rfl (zat dd_X9_of 7 rfl) (fun x31 h32 => ?_)
    exact z_iret rfl (zat dd_X9_of 8 rfl)
/-! PaperDolls.seen(I)I -/
def L_X9_seen : List (Nat × Instr × Nat) := [(0, .iload_n 1, 1), (1, .iconst 0, 1), (2, .iconst 3, 1), (3, .invokestatic 63, 3), (6, .ifCond .ne 10, 3), (9, .aload_n 0, 1), (10, .bipush (-102), 2), (12, .invokevirtual 67, 3), (15, .ireturn, 1), (16, .aload_n 0, 1), (17, .getfield 12, 3), (20, .getfield 108, 3), (23, .astore_n 2, 1), (24, .aload_n 2, 1), (25, .getfield 111, 3), (28, .iconst 1, 1), (29, .isub, 1), (30, .istore_n 3, 1), (31, .iload_n 3, 1), (32, .ifCond .lt 37, 3), (35, .aload_n 0, 1), (36, .getfield 12, 3), (39, .aload_n 2, 1), (40, .getfield 147, 3), (43, .iload_n 3, 1), (44, .iaload, 1), (45, .invokevirtual 140, 3), (48, .iload_n 1, 1), (49, .ishr, 1), (50, .iconst 1, 1), (51, .iand, 1), (52, .iconst 1, 1), (53, .if_icmp .ne 10, 3), (56, .aload_n 2, 1), (57, .getfield 147, 3), (60, .iload_n 3, 1), (61, .iaload, 1), (62, .ireturn, 1), (63, .iinc 3 (-1), 3), (66, .goto (-35), 3), (69, .bipush (-101), 2), (71, .ireturn, 1)]
theorem dd_X9_seen : ∀ q ∈ L_X9_seen, decode cX9_seen q.1 = .ok q.2 := by decide +kernel
abbrev M_X9_seen : zM := (cX9_seen, RX9, "seen", 4, some .int, 2, 0, 0)
theorem u_X9_seen : zCal yX9_seen (M_X9_seen) 1 := ⟨(zmem 531 (by decide +kernel) rfl : Cond.code yX9_seen cX9_seen 4 (some .int) ∈ zTb), zmem 57 (by decide +kernel) rfl, by decide +kernel, Nat.le_of_ble_eq_true rfl⟩
theorem qi_X9_seen : Cond.instanceMethod yX9_seen ∈ zTb := zmem 529 (by decide +kernel) rfl
theorem qs_X9_seen : Cond.selects yX9_seen.cls yX9_seen yX9_seen ∈ zTb := zmem 530 (by decide +kernel) rfl
def f_X9_seen_31 : Nat → Nat → Int32 → Nat → Int32 → zH → zR
  | 0, _, _, _, _, _ => none
  | n + 1, v0, v1, v2, v3, h =>
  if v3 < 0 then
  zrI (-101) h
  else
  zgR h v0 5 0 fun a1 =>
  zgR h v2 4 0 fun a2 =>
  zaI h a2 0 v3 fun x3 =>
  zoc h a1 0 <|
  zcI (f_X1_spotsOf a1 x3 h) fun x4 h5 =>
  if ((x4 >>> (v1 &&& 31)) &&& 1) = 1 then
  zgR h5 v2 4 0 fun a6 =>
  zaI h5 a6 0 v3 fun x7 =>
  zrI x7 h5
  else
  f_X9_seen_31 n v0 v1 v2 (v3 + (-1)) h5
set_option maxRecDepth 100000 in
set_option maxHeartbeats 4000000 in
theorem zb_X9_seen_31 (Y : zY) : ∀ (n : Nat) (v0 : Nat) (v1 : Int32) (v2 : Nat) (v3 : Int32) (h : zH), Z Y M_X9_seen 0 0 31 [(0, .ref v0), (1, .int v1), (2, .ref v2), (3, .int v3)] [] h (f_X9_seen_31 n v0 v1 v2 v3 h) := by
  intro n
  induction n with
  | zero =>
    intro v0 v1 v2 v3 h
    rw [f_X9_seen_31]
    exact z_none
  | succ n ih =>
    intro v0 v1 v2 v3 h
    rw [f_X9_seen_31]
    refine z_iload_n 3 (zat dd_X9_seen 18 rfl) rfl rfl ?_
    refine z_if_lt (tgt := 69) (zat dd_X9_seen 19 rfl) (by decide) ?_ ?_
    · refine z_bipush (x := (-101)) (zat dd_X9_seen 40 rfl) (by decide) ?_
      exact z_iret rfl (zat dd_X9_seen 41 rfl)
    · refine z_aload_n 0 (zat dd_X9_seen 20 rfl) rfl rfl ?_
      refine z_getR fl_X9_12 (zat dd_X9_seen 21 rfl) (fun a1 => ?_)
      refine z_aload_n 2 (zat dd_X9_seen 22 rfl) rfl rfl ?_
      refine z_getR fl_X9_147 (zat dd_X9_seen 23 rfl) (fun a2 => ?_)
      refine z_iload_n 3 (zat dd_X9_seen 24 rfl) rfl rfl ?_
      refine z_iald (zat dd_X9_seen 25 rfl) (fun x3 => ?_)
      refine z_callV_I0 (M2 := M_X1_spotsOf) [.int x3] (fun l D _ _ => m_X1_spotsOf l D a1 x3 h) u_X1_spotsOf ql_X9_140 qi_X1_spotsOf qs_X1_spotsOf (ci := 0) rfl rfl rfl (Nat.le_of_ble_eq_true rfl) (by decide) rfl rfl (zat dd_X9_seen 26 rfl) (fun x4 h5 => ?_)
      refine z_iload_n 1 (zat dd_X9_seen 27 rfl) rfl rfl ?_
      refine z_ishr (zat dd_X9_seen 28 rfl) ?_
      refine z_iconst (x := 1) (zat dd_X9_seen 29 rfl) (by decide) ?_
      refine z_iand (zat dd_X9_seen 30 rfl) ?_
      refine z_iconst (x := 1) (zat dd_X9_seen 31 rfl) (by decide) ?_
      refine z_icmp_ne (tgt := 63) (zat dd_X9_seen 32 rfl) (by decide) ?_ ?_
      · refine z_iinc (y := v3 + (-1)) (lv' := [(3, .int (v3 + (-1))), (0, .ref v0), (1, .int v1), (2, .ref v2)]) 3 (zat dd_X9_seen 38 rfl) rfl rfl (Nat.le_of_ble_eq_true rfl) rfl ?_
        refine z_goto (tgt := 31) (zat dd_X9_seen 39 rfl) (by decide) ?_
        refine z_sub [1, 2, 3, 0] rfl ?_
        exact ih v0 v1 v2 (v3 + (-1)) h5
      · refine z_aload_n 2 (zat dd_X9_seen 33 rfl) rfl rfl ?_
        refine z_getR fl_X9_147 (zat dd_X9_seen 34 rfl) (fun a6 => ?_)
        refine z_iload_n 3 (zat dd_X9_seen 35 rfl) rfl rfl ?_
        refine z_iald (zat dd_X9_seen 36 rfl) (fun x7 => ?_)
        exact z_iret rfl (zat dd_X9_seen 37 rfl)
def f_X9_seen (v0 : Nat) (v1 : Int32) (h : zH) : zR :=
  zcI (f_X9_within v1 0 3 h) fun x1 h2 =>
  if x1 = 0 then
  zoc h2 v0 5 <|
  zcI (f_X9_refuse v0 (-102) h2) fun x7 h8 =>
  zrI x7 h8
  else
  zgR h2 v0 5 0 fun a3 =>
  zgR h2 a3 0 5 fun a4 =>
  zgI h2 a4 4 2 fun x5 =>
  zlt (x5 - 1) fun x6 =>
  f_X9_seen_31 zF v0 v1 a4 x6 h2
set_option maxRecDepth 100000 in
set_option maxHeartbeats 4000000 in
theorem m_X9_seen (l : Launch) (D : zD) (v0 : Nat) (v1 : Int32) (h : zH) : zMet l D yX9_seen M_X9_seen [.ref v0, .int v1] h (f_X9_seen v0 v1 h) := by
  refine zMet.of (by decide +kernel) ⟨rfl, rfl⟩ (Nat.le_of_ble_eq_true rfl) (fun Y hl hD => ?_)
  show Z Y M_X9_seen 0 0 0 [(0, .ref v0), (1, .int v1)] [] h _
  rw [f_X9_seen]
  refine z_iload_n 1 (zat dd_X9_seen 0 rfl) rfl rfl ?_
  refine z_iconst (x := 0) (zat dd_X9_seen 1 rfl) (by decide) ?_
  refine z_iconst (x := 3) (zat dd_X9_seen 2 rfl) (by decide) ?_
  refine z_callS_I0 (M2 := M_X9_within) [.int v1, .int 0, .int 3] (fun l D _ _ => m_X9_within l D v1 0 3 h) u_X9_within ql_X9_63 qi_X9_within rfl rfl (Nat.le_of_ble_eq_true rfl) (by decide) rfl rfl (zat dd_X9_seen 3 rfl) (fun x1 h2 => ?_)
  refine z_if_ne (tgt := 16) (zat dd_X9_seen 4 rfl) (by decide) ?_ ?_
  · refine z_aload_n 0 (zat dd_X9_seen 9 rfl) rfl rfl ?_
    refine z_getR fl_X9_12 (zat dd_X9_seen 10 rfl) (fun a3 => ?_)
    refine z_getR fl_X9_108 (zat dd_X9_seen 11 rfl) (fun a4 => ?_)
    refine z_astore_n (lv' := [(2, .ref a4), (0, .ref v0), (1, .int v1)]) (zat dd_X9_seen 12 rfl) rfl (Nat.le_of_ble_eq_true rfl) rfl ?_
    refine z_aload_n 0 (zat dd_X9_seen 13 rfl) rfl rfl ?_
    refine z_getI fl_X9_111 (zat dd_X9_seen 14 rfl) (fun x5 => ?_)
    refine z_iconst (x := 1) (zat dd_X9_seen 15 rfl) (by decide) ?_
    refine z_isub (zat dd_X9_seen 16 rfl) ?_
    refine z_let (fun x6 => ?_)
    refine z_istore_n (lv' := [(3, .int x6), (2, .ref a4), (0, .ref v0), (1, .int v1)]) (zat dd_X9_seen 17 rfl) rfl (Nat.le_of_ble_eq_true rfl) rfl ?_
    refine z_sub [2, 3, 1, 0] rfl ?_
    exact zb_X9_seen_31 Y zF v0 v1 a4 x6 h2
  · refine z_aload_n 0 (zat dd_X9_seen 5 rfl) rfl rfl ?_
    refine z_bipush (x := (-102)) (zat dd_X9_seen 6 rfl) (by decide) ?_
    refine z_callV_I0 (M2 := M_X9_refuse) [.int (-102)] (fun l D _ _ => m_X9_refuse l D v0 (-102) h2) u_X9_refuse ql_X9_67 qi_X9_refuse qs_X9_refuse (ci := 5) rfl rfl rfl (Nat.le_of_ble_eq_true rfl) (by decide) rfl rfl (zat dd_X9_seen 7 rfl) (fun x7 h8 => ?_)
    exact z_iret rfl (zat dd_X9_seen 8 rfl)
/-! PaperDolls.can()I -/
def L_X9_can : List (Nat × Instr × Nat) := [(0, .aload_n 0, 1), (1, .getfield 12, 3), (4, .aload_n 0, 1), (5, .getfield 12, 3), (8, .getfield 108, 3), (11, .iconst 0, 1), (12, .invokevirtual 150, 3), (15, .ireturn, 1)]
theorem dd_X9_can : ∀ q ∈ L_X9_can, decode cX9_can q.1 = .ok q.2 := by decide +kernel
abbrev M_X9_can : zM := (cX9_can, RX9, "can", 1, some .int, 5, 0, 0)
theorem u_X9_can : zCal yX9_can (M_X9_can) 0 := ⟨(zmem 535 (by decide +kernel) rfl : Cond.code yX9_can cX9_can 1 (some .int) ∈ zTb), zmem 57 (by decide +kernel) rfl, by decide +kernel, Nat.le_of_ble_eq_true rfl⟩
theorem qi_X9_can : Cond.instanceMethod yX9_can ∈ zTb := zmem 533 (by decide +kernel) rfl
theorem qs_X9_can : Cond.selects yX9_can.cls yX9_can yX9_can ∈ zTb := zmem 534 (by decide +kernel) rfl
def f_X9_can (v0 : Nat) (h : zH) : zR :=
  zgR h v0 5 0 fun a1 =>
  zgR h v0 5 0 fun a2 =>
  zgR h a2 0 5 fun a3 =>
  zoc h a1 0 <|
  zcI (f_X1_setThatMay a1 a3 0 h) fun x4 h5 =>
  zrI x4 h5
set_option maxRecDepth 100000 in
set_option maxHeartbeats 4000000 in
theorem m_X9_can (l : Launch) (D : zD) (v0 : Nat) (h : zH) : zMet l D yX9_can M_X9_can [.ref v0] h (f_X9_can v0 h) := by
  refine zMet.of (by decide +kernel) ⟨rfl, rfl⟩ (Nat.le_of_ble_eq_true rfl) (fun Y hl hD => ?_)
  show Z Y M_X9_can 0 0 0 [(0, .ref v0)] [] h _
  rw [f_X9_can]
  refine z_aload_n 0 (zat dd_X9_can 0 rfl) rfl rfl ?_
  refine z_getR fl_X9_12 (zat dd_X9_can 1 rfl) (fun a1 => ?_)
  refine z_aload_n 0 (zat dd_X9_can 2 rfl) rfl rfl ?_
  refine z_getR fl_X9_12 (zat dd_X9_can 3 rfl) (fun a2 => ?_)
  refine z_getR fl_X9_108 (zat dd_X9_can 4 rfl) (fun a3 => ?_)
  refine z_iconst (x := 0) (zat dd_X9_can 5 rfl) (by decide) ?_
  refine z_callV_I0 (M2 := M_X1_setThatMay) [.ref a3, .int 0] (fun l D _ _ => m_X1_setThatMay l D a1 a3 0 h) u_X1_setThatMay ql_X9_150 qi_X1_setThatMay qs_X1_setThatMay (ci := 0) rfl rfl rfl (Nat.le_of_ble_eq_true rfl) (by decide) rfl rfl (zat dd_X9_can 6 rfl) (fun x4 h5 => ?_)
  exact z_iret rfl (zat dd_X9_can 7 rfl)
/-! PaperDolls.off()I -/
def L_X9_off : List (Nat × Instr × Nat) := [(0, .aload_n 0, 1), (1, .getfield 12, 3), (4, .aload_n 0, 1), (5, .getfield 12, 3), (8, .getfield 108, 3), (11, .iconst 1, 1), (12, .invokevirtual 150, 3), (15, .ireturn, 1)]
theorem dd_X9_off : ∀ q ∈ L_X9_off, decode cX9_off q.1 = .ok q.2 := by decide +kernel
abbrev M_X9_off : zM := (cX9_off, RX9, "off", 1, some .int, 5, 0, 0)
theorem u_X9_off : zCal yX9_off (M_X9_off) 0 := ⟨(zmem 544 (by decide +kernel) rfl : Cond.code yX9_off cX9_off 1 (some .int) ∈ zTb), zmem 57 (by decide +kernel) rfl, by decide +kernel, Nat.le_of_ble_eq_true rfl⟩
theorem qi_X9_off : Cond.instanceMethod yX9_off ∈ zTb := zmem 542 (by decide +kernel) rfl
theorem qs_X9_off : Cond.selects yX9_off.cls yX9_off yX9_off ∈ zTb := zmem 543 (by decide +kernel) rfl
def f_X9_off (v0 : Nat) (h : zH) : zR :=
  zgR h v0 5 0 fun a1 =>
  zgR h v0 5 0 fun a2 =>
  zgR h a2 0 5 fun a3 =>
  zoc h a1 0 <|
  zcI (f_X1_setThatMay a1 a3 1 h) fun x4 h5 =>
  zrI x4 h5
set_option maxRecDepth 100000 in
set_option maxHeartbeats 4000000 in
theorem m_X9_off (l : Launch) (D : zD) (v0 : Nat) (h : zH) : zMet l D yX9_off M_X9_off [.ref v0] h (f_X9_off v0 h) := by
  refine zMet.of (by decide +kernel) ⟨rfl, rfl⟩ (Nat.le_of_ble_eq_true rfl) (fun Y hl hD => ?_)
  show Z Y M_X9_off 0 0 0 [(0, .ref v0)] [] h _
  rw [f_X9_off]
  refine z_aload_n 0 (zat dd_X9_off 0 rfl) rfl rfl ?_
  refine z_getR fl_X9_12 (zat dd_X9_off 1 rfl) (fun a1 => ?_)
  refine z_aload_n 0 (zat dd_X9_off 2 rfl) rfl rfl ?_
  refine z_getR fl_X9_12 (zat dd_X9_off 3 rfl) (fun a2 => ?_)
  refine z_getR fl_X9_108 (zat dd_X9_off 4 rfl) (fun a3 => ?_)
  refine z_iconst (x := 1) (zat dd_X9_off 5 rfl) (by decide) ?_
  refine z_callV_I0 (M2 := M_X1_setThatMay) [.ref a3, .int 1] (fun l D _ _ => m_X1_setThatMay l D a1 a3 1 h) u_X1_setThatMay ql_X9_150 qi_X1_setThatMay qs_X1_setThatMay (ci := 0) rfl rfl rfl (Nat.le_of_ble_eq_true rfl) (by decide) rfl rfl (zat dd_X9_off 6 rfl) (fun x4 h5 => ?_)
  exact z_iret rfl (zat dd_X9_off 7 rfl)
/-! PaperDolls.going(I)I -/
def L_X9_going : List (Nat × Instr × Nat) := [(0, .aload_n 0, 1), (1, .getfield 12, 3), (4, .iload_n 1, 1), (5, .invokevirtual 124, 3), (8, .ifCond .ne 10, 3), (11, .aload_n 0, 1), (12, .bipush (-102), 2), (14, .invokevirtual 67, 3), (17, .ireturn, 1), (18, .aload_n 0, 1), (19, .getfield 12, 3), (22, .iload_n 1, 1), (23, .invokevirtual 153, 3), (26, .ireturn, 1)]
theorem dd_X9_going : ∀ q ∈ L_X9_going, decode cX9_going q.1 = .ok q.2 := by decide +kernel
abbrev M_X9_going : zM := (cX9_going, RX9, "going", 2, some .int, 3, 0, 0)
theorem u_X9_going : zCal yX9_going (M_X9_going) 1 := ⟨(zmem 548 (by decide +kernel) rfl : Cond.code yX9_going cX9_going 2 (some .int) ∈ zTb), zmem 57 (by decide +kernel) rfl, by decide +kernel, Nat.le_of_ble_eq_true rfl⟩
theorem qi_X9_going : Cond.instanceMethod yX9_going ∈ zTb := zmem 546 (by decide +kernel) rfl
theorem qs_X9_going : Cond.selects yX9_going.cls yX9_going yX9_going ∈ zTb := zmem 547 (by decide +kernel) rfl
def f_X9_going (v0 : Nat) (v1 : Int32) (h : zH) : zR :=
  zgR h v0 5 0 fun a1 =>
  zoc h a1 0 <|
  zcI (f_X1_has a1 v1 h) fun x2 h3 =>
  if x2 = 0 then
  zoc h3 v0 5 <|
  zcI (f_X9_refuse v0 (-102) h3) fun x7 h8 =>
  zrI x7 h8
  else
  zgR h3 v0 5 0 fun a4 =>
  zoc h3 a4 0 <|
  zcI (f_X1_matchesOf a4 v1 h3) fun x5 h6 =>
  zrI x5 h6
set_option maxRecDepth 100000 in
set_option maxHeartbeats 4000000 in
theorem m_X9_going (l : Launch) (D : zD) (v0 : Nat) (v1 : Int32) (h : zH) : zMet l D yX9_going M_X9_going [.ref v0, .int v1] h (f_X9_going v0 v1 h) := by
  refine zMet.of (by decide +kernel) ⟨rfl, rfl⟩ (Nat.le_of_ble_eq_true rfl) (fun Y hl hD => ?_)
  show Z Y M_X9_going 0 0 0 [(0, .ref v0), (1, .int v1)] [] h _
  rw [f_X9_going]
  refine z_aload_n 0 (zat dd_X9_going 0 rfl) rfl rfl ?_
  refine z_getR fl_X9_12 (zat dd_X9_going 1 rfl) (fun a1 => ?_)
  refine z_iload_n 1 (zat dd_X9_going 2 rfl) rfl rfl ?_
  refine z_callV_I0 (M2 := M_X1_has) [.int v1] (fun l D _ _ => m_X1_has l D a1 v1 h) u_X1_has ql_X9_124 qi_X1_has qs_X1_has (ci := 0) rfl rfl rfl (Nat.le_of_ble_eq_true rfl) (by decide) rfl rfl (zat dd_X9_going 3 rfl) (fun x2 h3 => ?_)
  refine z_if_ne (tgt := 18) (zat dd_X9_going 4 rfl) (by decide) ?_ ?_
  · refine z_aload_n 0 (zat dd_X9_going 9 rfl) rfl rfl ?_
    refine z_getR fl_X9_12 (zat dd_X9_going 10 rfl) (fun a4 => ?_)
    refine z_iload_n 1 (zat dd_X9_going 11 rfl) rfl rfl ?_
    refine z_callV_I0 (M2 := M_X1_matchesOf) [.int v1] (fun l D _ _ => m_X1_matchesOf l D a4 v1 h3) u_X1_matchesOf ql_X9_153 qi_X1_matchesOf qs_X1_matchesOf (ci := 0) rfl rfl rfl (Nat.le_of_ble_eq_true rfl) (by decide) rfl rfl (zat dd_X9_going 12 rfl) (fun x5 h6 => ?_)
    exact z_iret rfl (zat dd_X9_going 13 rfl)
  · refine z_aload_n 0 (zat dd_X9_going 5 rfl) rfl rfl ?_
    refine z_bipush (x := (-102)) (zat dd_X9_going 6 rfl) (by decide) ?_
    refine z_callV_I0 (M2 := M_X9_refuse) [.int (-102)] (fun l D _ _ => m_X9_refuse l D v0 (-102) h3) u_X9_refuse ql_X9_67 qi_X9_refuse qs_X9_refuse (ci := 5) rfl rfl rfl (Nat.le_of_ble_eq_true rfl) (by decide) rfl rfl (zat dd_X9_going 7 rfl) (fun x7 h8 => ?_)
    exact z_iret rfl (zat dd_X9_going 8 rfl)
/-! PaperDolls.outfits(I)I -/
def L_X9_outfits : List (Nat × Instr × Nat) := [(0, .iload_n 1, 1), (1, .iconst (-1), 1), (2, .if_icmp .ge 10, 3), (5, .aload_n 0, 1), (6, .bipush (-102), 2), (8, .invokevirtual 67, 3), (11, .ireturn, 1), (12, .aload_n 0, 1), (13, .getfield 44, 3), (16, .aload_n 0, 1), (17, .getfield 12, 3), (20, .invokevirtual 156, 3), (23, .iload_n 1, 1), (24, .iconst (-1), 1), (25, .if_icmp .ne 11, 3), (28, .aload_n 0, 1), (29, .getfield 44, 3), (32, .getfield 159, 3), (35, .ireturn, 1), (36, .iload_n 1, 1), (37, .aload_n 0, 1), (38, .getfield 44, 3), (41, .getfield 159, 3), (44, .if_icmp .ge 15, 3), (47, .aload_n 0, 1), (48, .getfield 44, 3), (51, .getfield 162, 3), (54, .iload_n 1, 1), (55, .iaload, 1), (56, .goto 5, 3), (59, .bipush (-5), 2), (61, .ireturn, 1)]
theorem dd_X9_outfits : ∀ q ∈ L_X9_outfits, decode cX9_outfits q.1 = .ok q.2 := by decide +kernel
abbrev M_X9_outfits : zM := (cX9_outfits, RX9, "outfits", 2, some .int, 6, 0, 0)
theorem u_X9_outfits : zCal yX9_outfits (M_X9_outfits) 1 := ⟨(zmem 560 (by decide +kernel) rfl : Cond.code yX9_outfits cX9_outfits 2 (some .int) ∈ zTb), zmem 57 (by decide +kernel) rfl, by decide +kernel, Nat.le_of_ble_eq_true rfl⟩
theorem qi_X9_outfits : Cond.instanceMethod yX9_outfits ∈ zTb := zmem 558 (by decide +kernel) rfl
theorem qs_X9_outfits : Cond.selects yX9_outfits.cls yX9_outfits yX9_outfits ∈ zTb := zmem 559 (by decide +kernel) rfl
def f_X9_outfits_61 (t0 : Int32) (h : zH) : zR :=
  zrI t0 h
set_option maxRecDepth 100000 in
set_option maxHeartbeats 4000000 in
theorem zb_X9_outfits_61 (Y : zY) (t0 : Int32) (h : zH) : Z Y M_X9_outfits 0 0 61 [] [.int t0] h (f_X9_outfits_61 t0 h) := by
  rw [f_X9_outfits_61]
  exact z_iret rfl (zat dd_X9_outfits 31 rfl)
def f_X9_outfits (v0 : Nat) (v1 : Int32) (h : zH) : zR :=
  if (-1) ≤ v1 then
  zgR h v0 5 6 fun a1 =>
  zgR h v0 5 0 fun a2 =>
  zoc h a1 3 <|
  zcV (f_X7_findOutfits a1 a2 h) fun h3 =>
  if v1 = (-1) then
  zgR h3 v0 5 6 fun a9 =>
  zgI h3 a9 3 1 fun x10 =>
  zrI x10 h3
  else
  zgR h3 v0 5 6 fun a4 =>
  zgI h3 a4 3 1 fun x5 =>
  if x5 ≤ v1 then
  f_X9_outfits_61 (-5) h3
  else
  zgR h3 v0 5 6 fun a6 =>
  zgR h3 a6 3 0 fun a7 =>
  zaI h3 a7 0 v1 fun x8 =>
  f_X9_outfits_61 x8 h3
  else
  zoc h v0 5 <|
  zcI (f_X9_refuse v0 (-102) h) fun x11 h12 =>
  zrI x11 h12
set_option maxRecDepth 100000 in
set_option maxHeartbeats 4000000 in
theorem m_X9_outfits (l : Launch) (D : zD) (v0 : Nat) (v1 : Int32) (h : zH) : zMet l D yX9_outfits M_X9_outfits [.ref v0, .int v1] h (f_X9_outfits v0 v1 h) := by
  refine zMet.of (by decide +kernel) ⟨rfl, rfl⟩ (Nat.le_of_ble_eq_true rfl) (fun Y hl hD => ?_)
  show Z Y M_X9_outfits 0 0 0 [(0, .ref v0), (1, .int v1)] [] h _
  rw [f_X9_outfits]
  refine z_iload_n 1 (zat dd_X9_outfits 0 rfl) rfl rfl ?_
  refine z_iconst (x := (-1)) (zat dd_X9_outfits 1 rfl) (by decide) ?_
  refine z_icmp_ge (tgt := 12) (zat dd_X9_outfits 2 rfl) (by decide) ?_ ?_
  · refine z_aload_n 0 (zat dd_X9_outfits 7 rfl) rfl rfl ?_
    refine z_getR fl_X9_44 (zat dd_X9_outfits 8 rfl) (fun a1 => ?_)
    refine z_aload_n 0 (zat dd_X9_outfits 9 rfl) rfl rfl ?_
    refine z_getR fl_X9_12 (zat dd_X9_outfits 10 rfl) (fun a2 => ?_)
    refine z_callV_V0 (M2 := M_X7_findOutfits) [.ref a2] (fun l D _ _ => m_X7_findOutfits l D a1 a2 h) u_X7_findOutfits ql_X9_156 qi_X7_findOutfits qs_X7_findOutfits (ci := 3) rfl rfl rfl (Nat.le_of_ble_eq_true rfl) (by decide) rfl rfl (zat dd_X9_outfits 11 rfl) (fun h3 => ?_)
    refine z_iload_n 1 (zat dd_X9_outfits 12 rfl) rfl rfl ?_
    refine z_iconst (x := (-1)) (zat dd_X9_outfits 13 rfl) (by decide) ?_
    refine z_icmp_ne (tgt := 36) (zat dd_X9_outfits 14 rfl) (by decide) ?_ ?_
    · refine z_iload_n 1 (zat dd_X9_outfits 19 rfl) rfl rfl ?_
      refine z_aload_n 0 (zat dd_X9_outfits 20 rfl) rfl rfl ?_
      refine z_getR fl_X9_44 (zat dd_X9_outfits 21 rfl) (fun a4 => ?_)
      refine z_getI fl_X9_159 (zat dd_X9_outfits 22 rfl) (fun x5 => ?_)
      refine z_icmp_ge (tgt := 59) (zat dd_X9_outfits 23 rfl) (by decide) ?_ ?_
      · refine z_bipush (x := (-5)) (zat dd_X9_outfits 30 rfl) (by decide) ?_
        refine z_sub [] rfl ?_
        exact zb_X9_outfits_61 Y (-5) h3
      · refine z_aload_n 0 (zat dd_X9_outfits 24 rfl) rfl rfl ?_
        refine z_getR fl_X9_44 (zat dd_X9_outfits 25 rfl) (fun a6 => ?_)
        refine z_getR fl_X9_162 (zat dd_X9_outfits 26 rfl) (fun a7 => ?_)
        refine z_iload_n 1 (zat dd_X9_outfits 27 rfl) rfl rfl ?_
        refine z_iald (zat dd_X9_outfits 28 rfl) (fun x8 => ?_)
        refine z_goto (tgt := 61) (zat dd_X9_outfits 29 rfl) (by decide) ?_
        refine z_sub [] rfl ?_
        exact zb_X9_outfits_61 Y x8 h3
    · refine z_aload_n 0 (zat dd_X9_outfits 15 rfl) rfl rfl ?_
      refine z_getR fl_X9_44 (zat dd_X9_outfits 16 rfl) (fun a9 => ?_)
      refine z_getI fl_X9_159 (zat dd_X9_outfits 17 rfl) (fun x10 => ?_)
      exact z_iret rfl (zat dd_X9_outfits 18 rfl)
  · refine z_aload_n 0 (zat dd_X9_outfits 3 rfl) rfl rfl ?_
    refine z_bipush (x := (-102)) (zat dd_X9_outfits 4 rfl) (by decide) ?_
    refine z_callV_I0 (M2 := M_X9_refuse) [.int (-102)] (fun l D _ _ => m_X9_refuse l D v0 (-102) h) u_X9_refuse ql_X9_67 qi_X9_refuse qs_X9_refuse (ci := 5) rfl rfl rfl (Nat.le_of_ble_eq_true rfl) (by decide) rfl rfl (zat dd_X9_outfits 5 rfl) (fun x11 h12 => ?_)
    exact z_iret rfl (zat dd_X9_outfits 6 rfl)
/-! PaperDolls.lean(I)I -/
def L_X9_lean : List (Nat × Instr × Nat) := [(0, .iload_n 1, 1), (1, .iconst 0, 1), (2, .iconst 1, 1), (3, .invokestatic 63, 3), (6, .ifCond .ne 10, 3), (9, .aload_n 0, 1), (10, .bipush (-102), 2), (12, .invokevirtual 67, 3), (15, .ireturn, 1), (16, .aload_n 0, 1), (17, .getfield 44, 3), (20, .aload_n 0, 1), (21, .getfield 12, 3), (24, .invokevirtual 156, 3), (27, .aload_n 0, 1), (28, .getfield 44, 3), (31, .invokevirtual 165, 3), (34, .istore_n 2, 1), (35, .iload_n 2, 1), (36, .bipush (-101), 2), (38, .if_icmp .ne 6, 3), (41, .bipush (-101), 2), (43, .ireturn, 1), (44, .iload_n 1, 1), (45, .ifCond .ne 10, 3), (48, .iload_n 2, 1), (49, .invokestatic 169, 3), (52, .goto 4, 3), (55, .iload_n 2, 1), (56, .ireturn, 1)]
theorem dd_X9_lean : ∀ q ∈ L_X9_lean, decode cX9_lean q.1 = .ok q.2 := by decide +kernel
abbrev M_X9_lean : zM := (cX9_lean, RX9, "lean", 3, some .int, 6, 0, 0)
theorem u_X9_lean : zCal yX9_lean (M_X9_lean) 1 := ⟨(zmem 581 (by decide +kernel) rfl : Cond.code yX9_lean cX9_lean 3 (some .int) ∈ zTb), zmem 57 (by decide +kernel) rfl, by decide +kernel, Nat.le_of_ble_eq_true rfl⟩
theorem qi_X9_lean : Cond.instanceMethod yX9_lean ∈ zTb := zmem 579 (by decide +kernel) rfl
theorem qs_X9_lean : Cond.selects yX9_lean.cls yX9_lean yX9_lean ∈ zTb := zmem 580 (by decide +kernel) rfl
def f_X9_lean_56 (t0 : Int32) (h : zH) : zR :=
  zrI t0 h
set_option maxRecDepth 100000 in
set_option maxHeartbeats 4000000 in
theorem zb_X9_lean_56 (Y : zY) (t0 : Int32) (h : zH) : Z Y M_X9_lean 0 0 56 [] [.int t0] h (f_X9_lean_56 t0 h) := by
  rw [f_X9_lean_56]
  exact z_iret rfl (zat dd_X9_lean 29 rfl)
def f_X9_lean (v0 : Nat) (v1 : Int32) (h : zH) : zR :=
  zcI (f_X9_within v1 0 1 h) fun x1 h2 =>
  if x1 = 0 then
  zoc h2 v0 5 <|
  zcI (f_X9_refuse v0 (-102) h2) fun x11 h12 =>
  zrI x11 h12
  else
  zgR h2 v0 5 6 fun a3 =>
  zgR h2 v0 5 0 fun a4 =>
  zoc h2 a3 3 <|
  zcV (f_X7_findOutfits a3 a4 h2) fun h5 =>
  zgR h5 v0 5 6 fun a6 =>
  zoc h5 a6 3 <|
  zcI (f_X7_smallest a6 h5) fun x7 h8 =>
  if x7 = (-101) then
  zrI (-101) h8
  else
  if v1 = 0 then
  zcI (f_J6_bitCount_0f7a4 x7 h8) fun x9 h10 =>
  f_X9_lean_56 x9 h10
  else
  f_X9_lean_56 x7 h8
set_option maxRecDepth 100000 in
set_option maxHeartbeats 4000000 in
theorem m_X9_lean (l : Launch) (D : zD) (v0 : Nat) (v1 : Int32) (h : zH) : zMet l D yX9_lean M_X9_lean [.ref v0, .int v1] h (f_X9_lean v0 v1 h) := by
  refine zMet.of (by decide +kernel) ⟨rfl, rfl⟩ (Nat.le_of_ble_eq_true rfl) (fun Y hl hD => ?_)
  show Z Y M_X9_lean 0 0 0 [(0, .ref v0), (1, .int v1)] [] h _
  rw [f_X9_lean]
  refine z_iload_n 1 (zat dd_X9_lean 0 rfl) rfl rfl ?_
  refine z_iconst (x := 0) (zat dd_X9_lean 1 rfl) (by decide) ?_
  refine z_iconst (x := 1) (zat dd_X9_lean 2 rfl) (by decide) ?_
  refine z_callS_I0 (M2 := M_X9_within) [.int v1, .int 0, .int 1] (fun l D _ _ => m_X9_within l D v1 0 1 h) u_X9_within ql_X9_63 qi_X9_within rfl rfl (Nat.le_of_ble_eq_true rfl) (by decide) rfl rfl (zat dd_X9_lean 3 rfl) (fun x1 h2 => ?_)
  refine z_if_ne (tgt := 16) (zat dd_X9_lean 4 rfl) (by decide) ?_ ?_
  · refine z_aload_n 0 (zat dd_X9_lean 9 rfl) rfl rfl ?_
    refine z_getR fl_X9_44 (zat dd_X9_lean 10 rfl) (fun a3 => ?_)
    refine z_aload_n 0 (zat dd_X9_lean 11 rfl) rfl rfl ?_
    refine z_getR fl_X9_12 (zat dd_X9_lean 12 rfl) (fun a4 => ?_)
    refine z_callV_V0 (M2 := M_X7_findOutfits) [.ref a4] (fun l D _ _ => m_X7_findOutfits l D a3 a4 h2) u_X7_findOutfits ql_X9_156 qi_X7_findOutfits qs_X7_findOutfits (ci := 3) rfl rfl rfl (Nat.le_of_ble_eq_true rfl) (by decide) rfl rfl (zat dd_X9_lean 13 rfl) (fun h5 => ?_)
    refine z_aload_n 0 (zat dd_X9_lean 14 rfl) rfl rfl ?_
    refine z_getR fl_X9_44 (zat dd_X9_lean 15 rfl) (fun a6 => ?_)
    refine z_callV_I0 (M2 := M_X7_smallest) [] (fun l D _ _ => m_X7_smallest l D a6 h5) u_X7_smallest ql_X9_165 qi_X7_smallest qs_X7_smallest (ci := 3) rfl rfl rfl (Nat.le_of_ble_eq_true rfl) (by decide) rfl rfl (zat dd_X9_lean 16 rfl) (fun x7 h8 => ?_)
    refine z_istore_n (lv' := [(2, .int x7), (0, .ref v0), (1, .int v1)]) (zat dd_X9_lean 17 rfl) rfl (Nat.le_of_ble_eq_true rfl) rfl ?_
    refine z_iload_n 0 (zat dd_X9_lean 18 rfl) rfl rfl ?_
    refine z_bipush (x := (-101)) (zat dd_X9_lean 19 rfl) (by decide) ?_
    refine z_icmp_ne (tgt := 44) (zat dd_X9_lean 20 rfl) (by decide) ?_ ?_
    · refine z_iload_n 2 (zat dd_X9_lean 23 rfl) rfl rfl ?_
      refine z_if_ne (tgt := 55) (zat dd_X9_lean 24 rfl) (by decide) ?_ ?_
      · refine z_iload_n 0 (zat dd_X9_lean 28 rfl) rfl rfl ?_
        refine z_sub [] rfl ?_
        exact zb_X9_lean_56 Y x7 h8
      · refine z_iload_n 0 (zat dd_X9_lean 25 rfl) rfl rfl ?_
        refine z_callS_I0 (M2 := M_J6_bitCount_0f7a4) [.int x7] (fun l D _ _ => m_J6_bitCount_0f7a4 l D x7 h8) u_J6_bitCount_0f7a4 ql_X9_169 qi_J6_bitCount_0f7a4 rfl rfl (Nat.le_of_ble_eq_true rfl) (by decide) rfl rfl (zat dd_X9_lean 26 rfl) (fun x9 h10 => ?_)
        refine z_goto (tgt := 56) (zat dd_X9_lean 27 rfl) (by decide) ?_
        refine z_sub [] rfl ?_
        exact zb_X9_lean_56 Y x9 h10
    · refine z_bipush (x := (-101)) (zat dd_X9_lean 21 rfl) (by decide) ?_
      exact z_iret rfl (zat dd_X9_lean 22 rfl)
  · refine z_aload_n 0 (zat dd_X9_lean 5 rfl) rfl rfl ?_
    refine z_bipush (x := (-102)) (zat dd_X9_lean 6 rfl) (by decide) ?_
    refine z_callV_I0 (M2 := M_X9_refuse) [.int (-102)] (fun l D _ _ => m_X9_refuse l D v0 (-102) h2) u_X9_refuse ql_X9_67 qi_X9_refuse qs_X9_refuse (ci := 5) rfl rfl rfl (Nat.le_of_ble_eq_true rfl) (by decide) rfl rfl (zat dd_X9_lean 7 rfl) (fun x11 h12 => ?_)
    exact z_iret rfl (zat dd_X9_lean 8 rfl)
/-! PaperDolls.days()I -/
def L_X9_days : List (Nat × Instr × Nat) := [(0, .aload_n 0, 1), (1, .getfield 44, 3), (4, .aload_n 0, 1), (5, .getfield 12, 3), (8, .invokevirtual 156, 3), (11, .aload_n 0, 1), (12, .getfield 44, 3), (15, .invokevirtual 174, 3), (18, .ireturn, 1)]
theorem dd_X9_days : ∀ q ∈ L_X9_days, decode cX9_days q.1 = .ok q.2 := by decide +kernel
abbrev M_X9_days : zM := (cX9_days, RX9, "days", 1, some .int, 12, 0, 0)
theorem u_X9_days : zCal yX9_days (M_X9_days) 0 := ⟨(zmem 596 (by decide +kernel) rfl : Cond.code yX9_days cX9_days 1 (some .int) ∈ zTb), zmem 57 (by decide +kernel) rfl, by decide +kernel, Nat.le_of_ble_eq_true rfl⟩
theorem qi_X9_days : Cond.instanceMethod yX9_days ∈ zTb := zmem 594 (by decide +kernel) rfl
theorem qs_X9_days : Cond.selects yX9_days.cls yX9_days yX9_days ∈ zTb := zmem 595 (by decide +kernel) rfl
def f_X9_days (v0 : Nat) (h : zH) : zR :=
  zgR h v0 5 6 fun a1 =>
  zgR h v0 5 0 fun a2 =>
  zoc h a1 3 <|
  zcV (f_X7_findOutfits a1 a2 h) fun h3 =>
  zgR h3 v0 5 6 fun a4 =>
  zoc h3 a4 3 <|
  zcI (f_X7_mostApart a4 h3) fun x5 h6 =>
  zrI x5 h6
set_option maxRecDepth 100000 in
set_option maxHeartbeats 4000000 in
theorem m_X9_days (l : Launch) (D : zD) (v0 : Nat) (h : zH) : zMet l D yX9_days M_X9_days [.ref v0] h (f_X9_days v0 h) := by
  refine zMet.of (by decide +kernel) ⟨rfl, rfl⟩ (Nat.le_of_ble_eq_true rfl) (fun Y hl hD => ?_)
  show Z Y M_X9_days 0 0 0 [(0, .ref v0)] [] h _
  rw [f_X9_days]
  refine z_aload_n 0 (zat dd_X9_days 0 rfl) rfl rfl ?_
  refine z_getR fl_X9_44 (zat dd_X9_days 1 rfl) (fun a1 => ?_)
  refine z_aload_n 0 (zat dd_X9_days 2 rfl) rfl rfl ?_
  refine z_getR fl_X9_12 (zat dd_X9_days 3 rfl) (fun a2 => ?_)
  refine z_callV_V0 (M2 := M_X7_findOutfits) [.ref a2] (fun l D _ _ => m_X7_findOutfits l D a1 a2 h) u_X7_findOutfits ql_X9_156 qi_X7_findOutfits qs_X7_findOutfits (ci := 3) rfl rfl rfl (Nat.le_of_ble_eq_true rfl) (by decide) rfl rfl (zat dd_X9_days 4 rfl) (fun h3 => ?_)
  refine z_aload_n 0 (zat dd_X9_days 5 rfl) rfl rfl ?_
  refine z_getR fl_X9_44 (zat dd_X9_days 6 rfl) (fun a4 => ?_)
  refine z_callV_I0 (M2 := M_X7_mostApart) [] (fun l D _ _ => m_X7_mostApart l D a4 h3) u_X7_mostApart ql_X9_174 qi_X7_mostApart qs_X7_mostApart (ci := 3) rfl rfl rfl (Nat.le_of_ble_eq_true rfl) (by decide) rfl rfl (zat dd_X9_days 7 rfl) (fun x5 h6 => ?_)
  exact z_iret rfl (zat dd_X9_days 8 rfl)
/-! PaperDolls.spared()I -/
def L_X9_spared : List (Nat × Instr × Nat) := [(0, .aload_n 0, 1), (1, .getfield 44, 3), (4, .aload_n 0, 1), (5, .getfield 12, 3), (8, .invokevirtual 156, 3), (11, .aload_n 0, 1), (12, .getfield 12, 3), (15, .invokevirtual 177, 3), (18, .aload_n 0, 1), (19, .getfield 44, 3), (22, .invokevirtual 180, 3), (25, .iconst (-1), 1), (26, .ixor, 1), (27, .iand, 1), (28, .ireturn, 1)]
theorem dd_X9_spared : ∀ q ∈ L_X9_spared, decode cX9_spared q.1 = .ok q.2 := by decide +kernel
abbrev M_X9_spared : zM := (cX9_spared, RX9, "spared", 1, some .int, 6, 0, 0)
theorem u_X9_spared : zCal yX9_spared (M_X9_spared) 0 := ⟨(zmem 611 (by decide +kernel) rfl : Cond.code yX9_spared cX9_spared 1 (some .int) ∈ zTb), zmem 57 (by decide +kernel) rfl, by decide +kernel, Nat.le_of_ble_eq_true rfl⟩
theorem qi_X9_spared : Cond.instanceMethod yX9_spared ∈ zTb := zmem 609 (by decide +kernel) rfl
theorem qs_X9_spared : Cond.selects yX9_spared.cls yX9_spared yX9_spared ∈ zTb := zmem 610 (by decide +kernel) rfl
def f_X9_spared (v0 : Nat) (h : zH) : zR :=
  zgR h v0 5 6 fun a1 =>
  zgR h v0 5 0 fun a2 =>
  zoc h a1 3 <|
  zcV (f_X7_findOutfits a1 a2 h) fun h3 =>
  zgR h3 v0 5 0 fun a4 =>
  zoc h3 a4 0 <|
  zcI (f_X1_allPieces a4 h3) fun x5 h6 =>
  zgR h6 v0 5 6 fun a7 =>
  zoc h6 a7 3 <|
  zcI (f_X7_used a7 h6) fun x8 h9 =>
  zrI (x5 &&& (x8 ^^^ (-1))) h9
set_option maxRecDepth 100000 in
set_option maxHeartbeats 4000000 in
theorem m_X9_spared (l : Launch) (D : zD) (v0 : Nat) (h : zH) : zMet l D yX9_spared M_X9_spared [.ref v0] h (f_X9_spared v0 h) := by
  refine zMet.of (by decide +kernel) ⟨rfl, rfl⟩ (Nat.le_of_ble_eq_true rfl) (fun Y hl hD => ?_)
  show Z Y M_X9_spared 0 0 0 [(0, .ref v0)] [] h _
  rw [f_X9_spared]
  refine z_aload_n 0 (zat dd_X9_spared 0 rfl) rfl rfl ?_
  refine z_getR fl_X9_44 (zat dd_X9_spared 1 rfl) (fun a1 => ?_)
  refine z_aload_n 0 (zat dd_X9_spared 2 rfl) rfl rfl ?_
  refine z_getR fl_X9_12 (zat dd_X9_spared 3 rfl) (fun a2 => ?_)
  refine z_callV_V0 (M2 := M_X7_findOutfits) [.ref a2] (fun l D _ _ => m_X7_findOutfits l D a1 a2 h) u_X7_findOutfits ql_X9_156 qi_X7_findOutfits qs_X7_findOutfits (ci := 3) rfl rfl rfl (Nat.le_of_ble_eq_true rfl) (by decide) rfl rfl (zat dd_X9_spared 4 rfl) (fun h3 => ?_)
  refine z_aload_n 0 (zat dd_X9_spared 5 rfl) rfl rfl ?_
  refine z_getR fl_X9_12 (zat dd_X9_spared 6 rfl) (fun a4 => ?_)
  refine z_callV_I0 (M2 := M_X1_allPieces) [] (fun l D _ _ => m_X1_allPieces l D a4 h3) u_X1_allPieces ql_X9_177 qi_X1_allPieces qs_X1_allPieces (ci := 0) rfl rfl rfl (Nat.le_of_ble_eq_true rfl) (by decide) rfl rfl (zat dd_X9_spared 7 rfl) (fun x5 h6 => ?_)
  refine z_aload_n 0 (zat dd_X9_spared 8 rfl) rfl rfl ?_
  refine z_getR fl_X9_44 (zat dd_X9_spared 9 rfl) (fun a7 => ?_)
  refine z_callV_I0 (M2 := M_X7_used) [] (fun l D _ _ => m_X7_used l D a7 h6) u_X7_used ql_X9_180 qi_X7_used qs_X7_used (ci := 3) rfl rfl rfl (Nat.le_of_ble_eq_true rfl) (by decide) rfl rfl (zat dd_X9_spared 10 rfl) (fun x8 h9 => ?_)
  refine z_iconst (x := (-1)) (zat dd_X9_spared 11 rfl) (by decide) ?_
  refine z_ixor (zat dd_X9_spared 12 rfl) ?_
  refine z_iand (zat dd_X9_spared 13 rfl) ?_
  exact z_iret rfl (zat dd_X9_spared 14 rfl)
/-! PaperDolls.few(I)I -/
def L_X9_few : List (Nat × Instr × Nat) := [(0, .iload_n 1, 1), (1, .iconst (-1), 1), (2, .if_icmp .ge 10, 3), (5, .aload_n 0, 1), (6, .bipush (-102), 2), (8, .invokevirtual 67, 3), (11, .ireturn, 1), (12, .aload_n 0, 1), (13, .getfield 51, 3), (16, .aload_n 0, 1), (17, .getfield 12, 3), (20, .invokevirtual 183, 3), (23, .istore_n 2, 1), (24, .iload_n 2, 1), (25, .bipush (-101), 2), (27, .if_icmp .ne 6, 3), (30, .bipush (-6), 2), (32, .ireturn, 1), (33, .iload_n 1, 1), (34, .iconst (-1), 1), (35, .if_icmp .ne 5, 3), (38, .iload_n 2, 1), (39, .ireturn, 1), (40, .iload_n 1, 1), (41, .iload_n 2, 1), (42, .if_icmp .ge 15, 3), (45, .aload_n 0, 1), (46, .getfield 51, 3), (49, .getfield 187, 3), (52, .iload_n 1, 1), (53, .iaload, 1), (54, .goto 5, 3), (57, .bipush (-5), 2), (59, .ireturn, 1)]
theorem dd_X9_few : ∀ q ∈ L_X9_few, decode cX9_few q.1 = .ok q.2 := by decide +kernel
abbrev M_X9_few : zM := (cX9_few, RX9, "few", 3, some .int, 12, 0, 0)
theorem u_X9_few : zCal yX9_few (M_X9_few) 1 := ⟨(zmem 623 (by decide +kernel) rfl : Cond.code yX9_few cX9_few 3 (some .int) ∈ zTb), zmem 57 (by decide +kernel) rfl, by decide +kernel, Nat.le_of_ble_eq_true rfl⟩
theorem qi_X9_few : Cond.instanceMethod yX9_few ∈ zTb := zmem 621 (by decide +kernel) rfl
theorem qs_X9_few : Cond.selects yX9_few.cls yX9_few yX9_few ∈ zTb := zmem 622 (by decide +kernel) rfl
def f_X9_few_59 (t0 : Int32) (h : zH) : zR :=
  zrI t0 h
set_option maxRecDepth 100000 in
set_option maxHeartbeats 4000000 in
theorem zb_X9_few_59 (Y : zY) (t0 : Int32) (h : zH) : Z Y M_X9_few 0 0 59 [] [.int t0] h (f_X9_few_59 t0 h) := by
  rw [f_X9_few_59]
  exact z_iret rfl (zat dd_X9_few 33 rfl)
def f_X9_few (v0 : Nat) (v1 : Int32) (h : zH) : zR :=
  if (-1) ≤ v1 then
  zgR h v0 5 7 fun a1 =>
  zgR h v0 5 0 fun a2 =>
  zoc h a1 1 <|
  zcI (f_X4_fewest a1 a2 h) fun x3 h4 =>
  if x3 = (-101) then
  zrI (-6) h4
  else
  if v1 = (-1) then
  zrI x3 h4
  else
  if x3 ≤ v1 then
  f_X9_few_59 (-5) h4
  else
  zgR h4 v0 5 7 fun a5 =>
  zgR h4 a5 1 0 fun a6 =>
  zaI h4 a6 0 v1 fun x7 =>
  f_X9_few_59 x7 h4
  else
  zoc h v0 5 <|
  zcI (f_X9_refuse v0 (-102) h) fun x8 h9 =>
  zrI x8 h9
set_option maxRecDepth 100000 in
set_option maxHeartbeats 4000000 in
theorem m_X9_few (l : Launch) (D : zD) (v0 : Nat) (v1 : Int32) (h : zH) : zMet l D yX9_few M_X9_few [.ref v0, .int v1] h (f_X9_few v0 v1 h) := by
  refine zMet.of (by decide +kernel) ⟨rfl, rfl⟩ (Nat.le_of_ble_eq_true rfl) (fun Y hl hD => ?_)
  show Z Y M_X9_few 0 0 0 [(0, .ref v0), (1, .int v1)] [] h _
  rw [f_X9_few]
  refine z_iload_n 1 (zat dd_X9_few 0 rfl) rfl rfl ?_
  refine z_iconst (x := (-1)) (zat dd_X9_few 1 rfl) (by decide) ?_
  refine z_icmp_ge (tgt := 12) (zat dd_X9_few 2 rfl) (by decide) ?_ ?_
  · refine z_aload_n 0 (zat dd_X9_few 7 rfl) rfl rfl ?_
    refine z_getR fl_X9_51 (zat dd_X9_few 8 rfl) (fun a1 => ?_)
    refine z_aload_n 0 (zat dd_X9_few 9 rfl) rfl rfl ?_
    refine z_getR fl_X9_12 (zat dd_X9_few 10 rfl) (fun a2 => ?_)
    refine z_callV_I0 (M2 := M_X4_fewest) [.ref a2] (fun l D _ _ => m_X4_fewest l D a1 a2 h) u_X4_fewest ql_X9_183 qi_X4_fewest qs_X4_fewest (ci := 1) rfl rfl rfl (Nat.le_of_ble_eq_true rfl) (by decide) rfl rfl (zat dd_X9_few 11 rfl) (fun x3 h4 => ?_)
    refine z_istore_n (lv' := [(2, .int x3), (0, .ref v0), (1, .int v1)]) (zat dd_X9_few 12 rfl) rfl (Nat.le_of_ble_eq_true rfl) rfl ?_
    refine z_iload_n 0 (zat dd_X9_few 13 rfl) rfl rfl ?_
    refine z_bipush (x := (-101)) (zat dd_X9_few 14 rfl) (by decide) ?_
    refine z_icmp_ne (tgt := 33) (zat dd_X9_few 15 rfl) (by decide) ?_ ?_
    · refine z_iload_n 2 (zat dd_X9_few 18 rfl) rfl rfl ?_
      refine z_iconst (x := (-1)) (zat dd_X9_few 19 rfl) (by decide) ?_
      refine z_icmp_ne (tgt := 40) (zat dd_X9_few 20 rfl) (by decide) ?_ ?_
      · refine z_iload_n 2 (zat dd_X9_few 23 rfl) rfl rfl ?_
        refine z_iload_n 0 (zat dd_X9_few 24 rfl) rfl rfl ?_
        refine z_icmp_ge (tgt := 57) (zat dd_X9_few 25 rfl) (by decide) ?_ ?_
        · refine z_bipush (x := (-5)) (zat dd_X9_few 32 rfl) (by decide) ?_
          refine z_sub [] rfl ?_
          exact zb_X9_few_59 Y (-5) h4
        · refine z_aload_n 1 (zat dd_X9_few 26 rfl) rfl rfl ?_
          refine z_getR fl_X9_51 (zat dd_X9_few 27 rfl) (fun a5 => ?_)
          refine z_getR fl_X9_187 (zat dd_X9_few 28 rfl) (fun a6 => ?_)
          refine z_iload_n 2 (zat dd_X9_few 29 rfl) rfl rfl ?_
          refine z_iald (zat dd_X9_few 30 rfl) (fun x7 => ?_)
          refine z_goto (tgt := 59) (zat dd_X9_few 31 rfl) (by decide) ?_
          refine z_sub [] rfl ?_
          exact zb_X9_few_59 Y x7 h4
      · refine z_iload_n 0 (zat dd_X9_few 21 rfl) rfl rfl ?_
        exact z_iret rfl (zat dd_X9_few 22 rfl)
    · refine z_bipush (x := (-6)) (zat dd_X9_few 16 rfl) (by decide) ?_
      exact z_iret rfl (zat dd_X9_few 17 rfl)
  · refine z_aload_n 0 (zat dd_X9_few 3 rfl) rfl rfl ?_
    refine z_bipush (x := (-102)) (zat dd_X9_few 4 rfl) (by decide) ?_
    refine z_callV_I0 (M2 := M_X9_refuse) [.int (-102)] (fun l D _ _ => m_X9_refuse l D v0 (-102) h) u_X9_refuse ql_X9_67 qi_X9_refuse qs_X9_refuse (ci := 5) rfl rfl rfl (Nat.le_of_ble_eq_true rfl) (by decide) rfl rfl (zat dd_X9_few 5 rfl) (fun x8 h9 => ?_)
    exact z_iret rfl (zat dd_X9_few 6 rfl)
/-! PaperDolls.note(III)I -/
def L_X9_note : List (Nat × Instr × Nat) := [(0, .iload_n 1, 1), (1, .iconst 0, 1), (2, .iconst 3, 1), (3, .invokestatic 63, 3), (6, .ifCond .eq 21, 3), (9, .iload_n 2, 1), (10, .iload_n 1, 1), (11, .iconst 3, 1), (12, .invokestatic 63, 3), (15, .ifCond .eq 12, 3), (18, .iload_n 3, 1), (19, .iconst 0, 1), (20, .iconst 1, 1), (21, .invokestatic 63, 3), (24, .ifCond .ne 10, 3), (27, .aload_n 0, 1), (28, .bipush (-102), 2), (30, .invokevirtual 67, 3), (33, .ireturn, 1), (34, .aload_n 0, 1), (35, .getfield 12, 3), (38, .getfield 190, 3), (41, .bipush 6, 2), (43, .if_icmp .lt 10, 3), (46, .aload_n 0, 1), (47, .bipush (-104), 2), (49, .invokevirtual 67, 3), (52, .ireturn, 1), (53, .aload_n 0, 1), (54, .getfield 12, 3), (57, .iload_n 1, 1), (58, .iload_n 2, 1), (59, .iload_n 3, 1), (60, .invokevirtual 193, 3), (63, .aload_n 0, 1), (64, .getfield 12, 3), (67, .getfield 190, 3), (70, .ireturn, 1)]
theorem dd_X9_note : ∀ q ∈ L_X9_note, decode cX9_note q.1 = .ok q.2 := by decide +kernel
abbrev M_X9_note : zM := (cX9_note, RX9, "note", 4, some .int, 1, 0, 0)
theorem u_X9_note : zCal yX9_note (M_X9_note) 3 := ⟨(zmem 653 (by decide +kernel) rfl : Cond.code yX9_note cX9_note 4 (some .int) ∈ zTb), zmem 57 (by decide +kernel) rfl, by decide +kernel, Nat.le_of_ble_eq_true rfl⟩
theorem qi_X9_note : Cond.instanceMethod yX9_note ∈ zTb := zmem 651 (by decide +kernel) rfl
theorem qs_X9_note : Cond.selects yX9_note.cls yX9_note yX9_note ∈ zTb := zmem 652 (by decide +kernel) rfl
def f_X9_note_27 (v0 : Nat) (h : zH) : zR :=
  zoc h v0 5 <|
  zcI (f_X9_refuse v0 (-102) h) fun x1 h2 =>
  zrI x1 h2
set_option maxRecDepth 100000 in
set_option maxHeartbeats 4000000 in
theorem zb_X9_note_27 (Y : zY) (v0 : Nat) (h : zH) : Z Y M_X9_note 0 0 27 [(0, .ref v0)] [] h (f_X9_note_27 v0 h) := by
  rw [f_X9_note_27]
  refine z_aload_n 0 (zat dd_X9_note 15 rfl) rfl rfl ?_
  refine z_bipush (x := (-102)) (zat dd_X9_note 16 rfl) (by decide) ?_
  refine z_callV_I0 (M2 := M_X9_refuse) [.int (-102)] (fun l D _ _ => m_X9_refuse l D v0 (-102) h) u_X9_refuse ql_X9_67 qi_X9_refuse qs_X9_refuse (ci := 5) rfl rfl rfl (Nat.le_of_ble_eq_true rfl) (by decide) rfl rfl (zat dd_X9_note 17 rfl) (fun x1 h2 => ?_)
  exact z_iret rfl (zat dd_X9_note 18 rfl)
def f_X9_note (v0 : Nat) (v1 : Int32) (v2 : Int32) (v3 : Int32) (h : zH) : zR :=
  zcI (f_X9_within v1 0 3 h) fun x1 h2 =>
  if x1 = 0 then
  f_X9_note_27 v0 h2
  else
  zcI (f_X9_within v2 v1 3 h2) fun x3 h4 =>
  if x3 = 0 then
  f_X9_note_27 v0 h4
  else
  zcI (f_X9_within v3 0 1 h4) fun x5 h6 =>
  if x5 = 0 then
  f_X9_note_27 v0 h6
  else
  zgR h6 v0 5 0 fun a7 =>
  zgI h6 a7 0 9 fun x8 =>
  if x8 < 6 then
  zgR h6 v0 5 0 fun a9 =>
  zoc h6 a9 0 <|
  zcV (f_X1_addNote a9 v1 v2 v3 h6) fun h10 =>
  zgR h10 v0 5 0 fun a11 =>
  zgI h10 a11 0 9 fun x12 =>
  zrI x12 h10
  else
  zoc h6 v0 5 <|
  zcI (f_X9_refuse v0 (-104) h6) fun x13 h14 =>
  zrI x13 h14
set_option maxRecDepth 100000 in
set_option maxHeartbeats 4000000 in
theorem m_X9_note (l : Launch) (D : zD) (v0 : Nat) (v1 : Int32) (v2 : Int32) (v3 : Int32) (h : zH) : zMet l D yX9_note M_X9_note [.ref v0, .int v1, .int v2, .int v3] h (f_X9_note v0 v1 v2 v3 h) := by
  refine zMet.of (by decide +kernel) ⟨rfl, rfl⟩ (Nat.le_of_ble_eq_true rfl) (fun Y hl hD => ?_)
  show Z Y M_X9_note 0 0 0 [(0, .ref v0), (1, .int v1), (2, .int v2), (3, .int v3)] [] h _
  rw [f_X9_note]
  refine z_iload_n 1 (zat dd_X9_note 0 rfl) rfl rfl ?_
  refine z_iconst (x := 0) (zat dd_X9_note 1 rfl) (by decide) ?_
  refine z_iconst (x := 3) (zat dd_X9_note 2 rfl) (by decide) ?_
  refine z_callS_I0 (M2 := M_X9_within) [.int v1, .int 0, .int 3] (fun l D _ _ => m_X9_within l D v1 0 3 h) u_X9_within ql_X9_63 qi_X9_within rfl rfl (Nat.le_of_ble_eq_true rfl) (by decide) rfl rfl (zat dd_X9_note 3 rfl) (fun x1 h2 => ?_)
  refine z_if_eq (tgt := 27) (zat dd_X9_note 4 rfl) (by decide) ?_ ?_
  · refine z_sub [0] rfl ?_
    exact zb_X9_note_27 Y v0 h2
  · refine z_iload_n 2 (zat dd_X9_note 5 rfl) rfl rfl ?_
    refine z_iload_n 1 (zat dd_X9_note 6 rfl) rfl rfl ?_
    refine z_iconst (x := 3) (zat dd_X9_note 7 rfl) (by decide) ?_
    refine z_callS_I0 (M2 := M_X9_within) [.int v2, .int v1, .int 3] (fun l D _ _ => m_X9_within l D v2 v1 3 h2) u_X9_within ql_X9_63 qi_X9_within rfl rfl (Nat.le_of_ble_eq_true rfl) (by decide) rfl rfl (zat dd_X9_note 8 rfl) (fun x3 h4 => ?_)
    refine z_if_eq (tgt := 27) (zat dd_X9_note 9 rfl) (by decide) ?_ ?_
    · refine z_sub [0] rfl ?_
      exact zb_X9_note_27 Y v0 h4
    · refine z_iload_n 3 (zat dd_X9_note 10 rfl) rfl rfl ?_
      refine z_iconst (x := 0) (zat dd_X9_note 11 rfl) (by decide) ?_
      refine z_iconst (x := 1) (zat dd_X9_note 12 rfl) (by decide) ?_
      refine z_callS_I0 (M2 := M_X9_within) [.int v3, .int 0, .int 1] (fun l D _ _ => m_X9_within l D v3 0 1 h4) u_X9_within ql_X9_63 qi_X9_within rfl rfl (Nat.le_of_ble_eq_true rfl) (by decide) rfl rfl (zat dd_X9_note 13 rfl) (fun x5 h6 => ?_)
      refine z_if_ne (tgt := 34) (zat dd_X9_note 14 rfl) (by decide) ?_ ?_
      · refine z_aload_n 0 (zat dd_X9_note 19 rfl) rfl rfl ?_
        refine z_getR fl_X9_12 (zat dd_X9_note 20 rfl) (fun a7 => ?_)
        refine z_getI fl_X9_190 (zat dd_X9_note 21 rfl) (fun x8 => ?_)
        refine z_bipush (x := 6) (zat dd_X9_note 22 rfl) (by decide) ?_
        refine z_icmp_lt (tgt := 53) (zat dd_X9_note 23 rfl) (by decide) ?_ ?_
        · refine z_aload_n 0 (zat dd_X9_note 28 rfl) rfl rfl ?_
          refine z_getR fl_X9_12 (zat dd_X9_note 29 rfl) (fun a9 => ?_)
          refine z_iload_n 1 (zat dd_X9_note 30 rfl) rfl rfl ?_
          refine z_iload_n 2 (zat dd_X9_note 31 rfl) rfl rfl ?_
          refine z_iload_n 3 (zat dd_X9_note 32 rfl) rfl rfl ?_
          refine z_callV_V0 (M2 := M_X1_addNote) [.int v1, .int v2, .int v3] (fun l D _ _ => m_X1_addNote l D a9 v1 v2 v3 h6) u_X1_addNote ql_X9_193 qi_X1_addNote qs_X1_addNote (ci := 0) rfl rfl rfl (Nat.le_of_ble_eq_true rfl) (by decide) rfl rfl (zat dd_X9_note 33 rfl) (fun h10 => ?_)
          refine z_aload_n 0 (zat dd_X9_note 34 rfl) rfl rfl ?_
          refine z_getR fl_X9_12 (zat dd_X9_note 35 rfl) (fun a11 => ?_)
          refine z_getI fl_X9_190 (zat dd_X9_note 36 rfl) (fun x12 => ?_)
          exact z_iret rfl (zat dd_X9_note 37 rfl)
        · refine z_aload_n 0 (zat dd_X9_note 24 rfl) rfl rfl ?_
          refine z_bipush (x := (-104)) (zat dd_X9_note 25 rfl) (by decide) ?_
          refine z_callV_I0 (M2 := M_X9_refuse) [.int (-104)] (fun l D _ _ => m_X9_refuse l D v0 (-104) h6) u_X9_refuse ql_X9_67 qi_X9_refuse qs_X9_refuse (ci := 5) rfl rfl rfl (Nat.le_of_ble_eq_true rfl) (by decide) rfl rfl (zat dd_X9_note 26 rfl) (fun x13 h14 => ?_)
          exact z_iret rfl (zat dd_X9_note 27 rfl)
      · refine z_sub [0] rfl ?_
        exact zb_X9_note_27 Y v0 h6
/-! PaperDolls.mark(IIII)I -/
def L_X9_mark : List (Nat × Instr × Nat) := [(0, .aload_n 0, 1), (1, .getfield 12, 3), (4, .iload_n 1, 1), (5, .invokevirtual 124, 3), (8, .ifCond .eq 35, 3), (11, .iload_n 2, 1), (12, .iconst 1, 1), (13, .bipush 9, 2), (15, .invokestatic 63, 3), (18, .ifCond .eq 25, 3), (21, .iload_n 3, 1), (22, .iconst 0, 1), (23, .bipush 99, 2), (25, .invokestatic 63, 3), (28, .ifCond .eq 15, 3), (31, .iload 4, 2), (33, .bipush (-99), 2), (35, .bipush 40, 2), (37, .invokestatic 63, 3), (40, .ifCond .ne 10, 3), (43, .aload_n 0, 1), (44, .bipush (-102), 2), (46, .invokevirtual 67, 3), (49, .ireturn, 1), (50, .aload_n 0, 1), (51, .getfield 12, 3), (54, .getfield 196, 3), (57, .bipush 6, 2), (59, .if_icmp .lt 10, 3), (62, .aload_n 0, 1), (63, .bipush (-104), 2), (65, .invokevirtual 67, 3), (68, .ireturn, 1), (69, .aload_n 0, 1), (70, .getfield 12, 3), (73, .iload_n 1, 1), (74, .iload_n 2, 1), (75, .iload_n 3, 1), (76, .iload 4, 2), (78, .invokevirtual 199, 3), (81, .aload_n 0, 1), (82, .getfield 12, 3), (85, .getfield 196, 3), (88, .ireturn, 1)]
theorem dd_X9_mark : ∀ q ∈ L_X9_mark, decode cX9_mark q.1 = .ok q.2 := by decide +kernel
abbrev M_X9_mark : zM := (cX9_mark, RX9, "mark", 5, some .int, 1, 0, 0)
theorem u_X9_mark : zCal yX9_mark (M_X9_mark) 4 := ⟨(zmem 661 (by decide +kernel) rfl : Cond.code yX9_mark cX9_mark 5 (some .int) ∈ zTb), zmem 57 (by decide +kernel) rfl, by decide +kernel, Nat.le_of_ble_eq_true rfl⟩
theorem qi_X9_mark : Cond.instanceMethod yX9_mark ∈ zTb := zmem 659 (by decide +kernel) rfl
theorem qs_X9_mark : Cond.selects yX9_mark.cls yX9_mark yX9_mark ∈ zTb := zmem 660 (by decide +kernel) rfl
def f_X9_mark_43 (v0 : Nat) (h : zH) : zR :=
  zoc h v0 5 <|
  zcI (f_X9_refuse v0 (-102) h) fun x1 h2 =>
  zrI x1 h2
set_option maxRecDepth 100000 in
set_option maxHeartbeats 4000000 in
theorem zb_X9_mark_43 (Y : zY) (v0 : Nat) (h : zH) : Z Y M_X9_mark 0 0 43 [(0, .ref v0)] [] h (f_X9_mark_43 v0 h) := by
  rw [f_X9_mark_43]
  refine z_aload_n 0 (zat dd_X9_mark 20 rfl) rfl rfl ?_
  refine z_bipush (x := (-102)) (zat dd_X9_mark 21 rfl) (by decide) ?_
  refine z_callV_I0 (M2 := M_X9_refuse) [.int (-102)] (fun l D _ _ => m_X9_refuse l D v0 (-102) h) u_X9_refuse ql_X9_67 qi_X9_refuse qs_X9_refuse (ci := 5) rfl rfl rfl (Nat.le_of_ble_eq_true rfl) (by decide) rfl rfl (zat dd_X9_mark 22 rfl) (fun x1 h2 => ?_)
  exact z_iret rfl (zat dd_X9_mark 23 rfl)
def f_X9_mark (v0 : Nat) (v1 : Int32) (v2 : Int32) (v3 : Int32) (v4 : Int32) (h : zH) : zR :=
  zgR h v0 5 0 fun a1 =>
  zoc h a1 0 <|
  zcI (f_X1_has a1 v1 h) fun x2 h3 =>
  if x2 = 0 then
  f_X9_mark_43 v0 h3
  else
  zcI (f_X9_within v2 1 9 h3) fun x4 h5 =>
  if x4 = 0 then
  f_X9_mark_43 v0 h5
  else
  zcI (f_X9_within v3 0 99 h5) fun x6 h7 =>
  if x6 = 0 then
  f_X9_mark_43 v0 h7
  else
  zcI (f_X9_within v4 (-99) 40 h7) fun x8 h9 =>
  if x8 = 0 then
  f_X9_mark_43 v0 h9
  else
  zgR h9 v0 5 0 fun a10 =>
  zgI h9 a10 0 11 fun x11 =>
  if x11 < 6 then
  zgR h9 v0 5 0 fun a12 =>
  zoc h9 a12 0 <|
  zcV (f_X1_addMark a12 v1 v2 v3 v4 h9) fun h13 =>
  zgR h13 v0 5 0 fun a14 =>
  zgI h13 a14 0 11 fun x15 =>
  zrI x15 h13
  else
  zoc h9 v0 5 <|
  zcI (f_X9_refuse v0 (-104) h9) fun x16 h17 =>
  zrI x16 h17
set_option maxRecDepth 100000 in
set_option maxHeartbeats 4000000 in
theorem m_X9_mark (l : Launch) (D : zD) (v0 : Nat) (v1 : Int32) (v2 : Int32) (v3 : Int32) (v4 : Int32) (h : zH) : zMet l D yX9_mark M_X9_mark [.ref v0, .int v1, .int v2, .int v3, .int v4] h (f_X9_mark v0 v1 v2 v3 v4 h) := by
  refine zMet.of (by decide +kernel) ⟨rfl, rfl⟩ (Nat.le_of_ble_eq_true rfl) (fun Y hl hD => ?_)
  show Z Y M_X9_mark 0 0 0 [(0, .ref v0), (1, .int v1), (2, .int v2), (3, .int v3), (4, .int v4)] [] h _
  rw [f_X9_mark]
  refine z_aload_n 0 (zat dd_X9_mark 0 rfl) rfl rfl ?_
  refine z_getR fl_X9_12 (zat dd_X9_mark 1 rfl) (fun a1 => ?_)
  refine z_iload_n 1 (zat dd_X9_mark 2 rfl) rfl rfl ?_
  refine z_callV_I0 (M2 := M_X1_has) [.int v1] (fun l D _ _ => m_X1_has l D a1 v1 h) u_X1_has ql_X9_124 qi_X1_has qs_X1_has (ci := 0) rfl rfl rfl (Nat.le_of_ble_eq_true rfl) (by decide) rfl rfl (zat dd_X9_mark 3 rfl) (fun x2 h3 => ?_)
  refine z_if_eq (tgt := 43) (zat dd_X9_mark 4 rfl) (by decide) ?_ ?_
  · refine z_sub [0] rfl ?_
    exact zb_X9_mark_43 Y v0 h3
  · refine z_iload_n 2 (zat dd_X9_mark 5 rfl) rfl rfl ?_
    refine z_iconst (x := 1) (zat dd_X9_mark 6 rfl) (by decide) ?_
    refine z_bipush (x := 9) (zat dd_X9_mark 7 rfl) (by decide) ?_
    refine z_callS_I0 (M2 := M_X9_within) [.int v2, .int 1, .int 9] (fun l D _ _ => m_X9_within l D v2 1 9 h3) u_X9_within ql_X9_63 qi_X9_within rfl rfl (Nat.le_of_ble_eq_true rfl) (by decide) rfl rfl (zat dd_X9_mark 8 rfl) (fun x4 h5 => ?_)
    refine z_if_eq (tgt := 43) (zat dd_X9_mark 9 rfl) (by decide) ?_ ?_
    · refine z_sub [0] rfl ?_
      exact zb_X9_mark_43 Y v0 h5
    · refine z_iload_n 3 (zat dd_X9_mark 10 rfl) rfl rfl ?_
      refine z_iconst (x := 0) (zat dd_X9_mark 11 rfl) (by decide) ?_
      refine z_bipush (x := 99) (zat dd_X9_mark 12 rfl) (by decide) ?_
      refine z_callS_I0 (M2 := M_X9_within) [.int v3, .int 0, .int 99] (fun l D _ _ => m_X9_within l D v3 0 99 h5) u_X9_within ql_X9_63 qi_X9_within rfl rfl (Nat.le_of_ble_eq_true rfl) (by decide) rfl rfl (zat dd_X9_mark 13 rfl) (fun x6 h7 => ?_)
      refine z_if_eq (tgt := 43) (zat dd_X9_mark 14 rfl) (by decide) ?_ ?_
      · refine z_sub [0] rfl ?_
        exact zb_X9_mark_43 Y v0 h7
      · refine z_iload 4 (zat dd_X9_mark 15 rfl) rfl ?_
        refine z_bipush (x := (-99)) (zat dd_X9_mark 16 rfl) (by decide) ?_
        refine z_bipush (x := 40) (zat dd_X9_mark 17 rfl) (by decide) ?_
        refine z_callS_I0 (M2 := M_X9_within) [.int v4, .int (-99), .int 40] (fun l D _ _ => m_X9_within l D v4 (-99) 40 h7) u_X9_within ql_X9_63 qi_X9_within rfl rfl (Nat.le_of_ble_eq_true rfl) (by decide) rfl rfl (zat dd_X9_mark 18 rfl) (fun x8 h9 => ?_)
        refine z_if_ne (tgt := 50) (zat dd_X9_mark 19 rfl) (by decide) ?_ ?_
        · refine z_aload_n 0 (zat dd_X9_mark 24 rfl) rfl rfl ?_
          refine z_getR fl_X9_12 (zat dd_X9_mark 25 rfl) (fun a10 => ?_)
          refine z_getI fl_X9_196 (zat dd_X9_mark 26 rfl) (fun x11 => ?_)
          refine z_bipush (x := 6) (zat dd_X9_mark 27 rfl) (by decide) ?_
          refine z_icmp_lt (tgt := 69) (zat dd_X9_mark 28 rfl) (by decide) ?_ ?_
          · refine z_aload_n 0 (zat dd_X9_mark 33 rfl) rfl rfl ?_
            refine z_getR fl_X9_12 (zat dd_X9_mark 34 rfl) (fun a12 => ?_)
            refine z_iload_n 1 (zat dd_X9_mark 35 rfl) rfl rfl ?_
            refine z_iload_n 2 (zat dd_X9_mark 36 rfl) rfl rfl ?_
            refine z_iload_n 3 (zat dd_X9_mark 37 rfl) rfl rfl ?_
            refine z_iload 4 (zat dd_X9_mark 38 rfl) rfl ?_
            refine z_callV_V0 (M2 := M_X1_addMark) [.int v1, .int v2, .int v3, .int v4] (fun l D _ _ => m_X1_addMark l D a12 v1 v2 v3 v4 h9) u_X1_addMark ql_X9_199 qi_X1_addMark qs_X1_addMark (ci := 0) rfl rfl rfl (Nat.le_of_ble_eq_true rfl) (by decide) rfl rfl (zat dd_X9_mark 39 rfl) (fun h13 => ?_)
            refine z_aload_n 0 (zat dd_X9_mark 40 rfl) rfl rfl ?_
            refine z_getR fl_X9_12 (zat dd_X9_mark 41 rfl) (fun a14 => ?_)
            refine z_getI fl_X9_196 (zat dd_X9_mark 42 rfl) (fun x15 => ?_)
            exact z_iret rfl (zat dd_X9_mark 43 rfl)
          · refine z_aload_n 0 (zat dd_X9_mark 29 rfl) rfl rfl ?_
            refine z_bipush (x := (-104)) (zat dd_X9_mark 30 rfl) (by decide) ?_
            refine z_callV_I0 (M2 := M_X9_refuse) [.int (-104)] (fun l D _ _ => m_X9_refuse l D v0 (-104) h9) u_X9_refuse ql_X9_67 qi_X9_refuse qs_X9_refuse (ci := 5) rfl rfl rfl (Nat.le_of_ble_eq_true rfl) (by decide) rfl rfl (zat dd_X9_mark 31 rfl) (fun x16 h17 => ?_)
            exact z_iret rfl (zat dd_X9_mark 32 rfl)
        · refine z_sub [0] rfl ?_
          exact zb_X9_mark_43 Y v0 h9
/-! PaperDolls.forget(I)I -/
def L_X9_forget : List (Nat × Instr × Nat) := [(0, .iload_n 1, 1), (1, .iconst 0, 1), (2, .iconst 1, 1), (3, .invokestatic 63, 3), (6, .ifCond .ne 10, 3), (9, .aload_n 0, 1), (10, .bipush (-102), 2), (12, .invokevirtual 67, 3), (15, .ireturn, 1), (16, .iload_n 1, 1), (17, .ifCond .ne 22, 3), (20, .aload_n 0, 1), (21, .getfield 12, 3), (24, .getfield 190, 3), (27, .istore_n 2, 1), (28, .aload_n 0, 1), (29, .getfield 12, 3), (32, .iconst 0, 1), (33, .putfield 190, 3), (36, .goto 19, 3), (39, .aload_n 0, 1), (40, .getfield 12, 3), (43, .getfield 196, 3), (46, .istore_n 2, 1), (47, .aload_n 0, 1), (48, .getfield 12, 3), (51, .iconst 0, 1), (52, .putfield 196, 3), (55, .iload_n 2, 1), (56, .ireturn, 1)]
theorem dd_X9_forget : ∀ q ∈ L_X9_forget, decode cX9_forget q.1 = .ok q.2 := by decide +kernel
abbrev M_X9_forget : zM := (cX9_forget, RX9, "forget", 3, some .int, 1, 0, 0)
theorem u_X9_forget : zCal yX9_forget (M_X9_forget) 1 := ⟨(zmem 669 (by decide +kernel) rfl : Cond.code yX9_forget cX9_forget 3 (some .int) ∈ zTb), zmem 57 (by decide +kernel) rfl, by decide +kernel, Nat.le_of_ble_eq_true rfl⟩
theorem qi_X9_forget : Cond.instanceMethod yX9_forget ∈ zTb := zmem 667 (by decide +kernel) rfl
theorem qs_X9_forget : Cond.selects yX9_forget.cls yX9_forget yX9_forget ∈ zTb := zmem 668 (by decide +kernel) rfl
def f_X9_forget_55 (v2 : Int32) (h : zH) : zR :=
  zrI v2 h
set_option maxRecDepth 100000 in
set_option maxHeartbeats 4000000 in
theorem zb_X9_forget_55 (Y : zY) (v2 : Int32) (h : zH) : Z Y M_X9_forget 0 0 55 [(2, .int v2)] [] h (f_X9_forget_55 v2 h) := by
  rw [f_X9_forget_55]
  refine z_iload_n 0 (zat dd_X9_forget 28 rfl) rfl rfl ?_
  exact z_iret rfl (zat dd_X9_forget 29 rfl)
def f_X9_forget (v0 : Nat) (v1 : Int32) (h : zH) : zR :=
  zcI (f_X9_within v1 0 1 h) fun x1 h2 =>
  if x1 = 0 then
  zoc h2 v0 5 <|
  zcI (f_X9_refuse v0 (-102) h2) fun x11 h12 =>
  zrI x11 h12
  else
  if v1 = 0 then
  zgR h2 v0 5 0 fun a7 =>
  zgI h2 a7 0 9 fun x8 =>
  zgR h2 v0 5 0 fun a9 =>
  zpV h2 a9 0 9 (.int 0) fun h10 =>
  f_X9_forget_55 x8 h10
  else
  zgR h2 v0 5 0 fun a3 =>
  zgI h2 a3 0 11 fun x4 =>
  zgR h2 v0 5 0 fun a5 =>
  zpV h2 a5 0 11 (.int 0) fun h6 =>
  f_X9_forget_55 x4 h6
set_option maxRecDepth 100000 in
set_option maxHeartbeats 4000000 in
theorem m_X9_forget (l : Launch) (D : zD) (v0 : Nat) (v1 : Int32) (h : zH) : zMet l D yX9_forget M_X9_forget [.ref v0, .int v1] h (f_X9_forget v0 v1 h) := by
  refine zMet.of (by decide +kernel) ⟨rfl, rfl⟩ (Nat.le_of_ble_eq_true rfl) (fun Y hl hD => ?_)
  show Z Y M_X9_forget 0 0 0 [(0, .ref v0), (1, .int v1)] [] h _
  rw [f_X9_forget]
  refine z_iload_n 1 (zat dd_X9_forget 0 rfl) rfl rfl ?_
  refine z_iconst (x := 0) (zat dd_X9_forget 1 rfl) (by decide) ?_
  refine z_iconst (x := 1) (zat dd_X9_forget 2 rfl) (by decide) ?_
  refine z_callS_I0 (M2 := M_X9_within) [.int v1, .int 0, .int 1] (fun l D _ _ => m_X9_within l D v1 0 1 h) u_X9_within ql_X9_63 qi_X9_within rfl rfl (Nat.le_of_ble_eq_true rfl) (by decide) rfl rfl (zat dd_X9_forget 3 rfl) (fun x1 h2 => ?_)
  refine z_if_ne (tgt := 16) (zat dd_X9_forget 4 rfl) (by decide) ?_ ?_
  · refine z_iload_n 1 (zat dd_X9_forget 9 rfl) rfl rfl ?_
    refine z_if_ne (tgt := 39) (zat dd_X9_forget 10 rfl) (by decide) ?_ ?_
    · refine z_aload_n 0 (zat dd_X9_forget 20 rfl) rfl rfl ?_
      refine z_getR fl_X9_12 (zat dd_X9_forget 21 rfl) (fun a3 => ?_)
      refine z_getI fl_X9_196 (zat dd_X9_forget 22 rfl) (fun x4 => ?_)
      refine z_istore_n (lv' := [(2, .int x4), (0, .ref v0), (1, .int v1)]) (zat dd_X9_forget 23 rfl) rfl (Nat.le_of_ble_eq_true rfl) rfl ?_
      refine z_aload_n 1 (zat dd_X9_forget 24 rfl) rfl rfl ?_
      refine z_getR fl_X9_12 (zat dd_X9_forget 25 rfl) (fun a5 => ?_)
      refine z_iconst (x := 0) (zat dd_X9_forget 26 rfl) (by decide) ?_
      refine z_put fl_X9_196 rfl rfl (zat dd_X9_forget 27 rfl) (fun h6 => ?_)
      refine z_sub [0] rfl ?_
      exact zb_X9_forget_55 Y x4 h6
    · refine z_aload_n 0 (zat dd_X9_forget 11 rfl) rfl rfl ?_
      refine z_getR fl_X9_12 (zat dd_X9_forget 12 rfl) (fun a7 => ?_)
      refine z_getI fl_X9_190 (zat dd_X9_forget 13 rfl) (fun x8 => ?_)
      refine z_istore_n (lv' := [(2, .int x8), (0, .ref v0), (1, .int v1)]) (zat dd_X9_forget 14 rfl) rfl (Nat.le_of_ble_eq_true rfl) rfl ?_
      refine z_aload_n 1 (zat dd_X9_forget 15 rfl) rfl rfl ?_
      refine z_getR fl_X9_12 (zat dd_X9_forget 16 rfl) (fun a9 => ?_)
      refine z_iconst (x := 0) (zat dd_X9_forget 17 rfl) (by decide) ?_
      refine z_put fl_X9_190 rfl rfl (zat dd_X9_forget 18 rfl) (fun h10 => ?_)
      refine z_goto (tgt := 55) (zat dd_X9_forget 19 rfl) (by decide) ?_
      refine z_sub [0] rfl ?_
      exact zb_X9_forget_55 Y x8 h10
  · refine z_aload_n 0 (zat dd_X9_forget 5 rfl) rfl rfl ?_
    refine z_bipush (x := (-102)) (zat dd_X9_forget 6 rfl) (by decide) ?_
    refine z_callV_I0 (M2 := M_X9_refuse) [.int (-102)] (fun l D _ _ => m_X9_refuse l D v0 (-102) h2) u_X9_refuse ql_X9_67 qi_X9_refuse qs_X9_refuse (ci := 5) rfl rfl rfl (Nat.le_of_ble_eq_true rfl) (by decide) rfl rfl (zat dd_X9_forget 7 rfl) (fun x11 h12 => ?_)
    exact z_iret rfl (zat dd_X9_forget 8 rfl)
/-! PaperDolls.is()I -/
def L_X9_is : List (Nat × Instr × Nat) := [(0, .aload_n 0, 1), (1, .getfield 12, 3), (4, .invokestatic 203, 3), (7, .ireturn, 1)]
theorem dd_X9_is : ∀ q ∈ L_X9_is, decode cX9_is q.1 = .ok q.2 := by decide +kernel
abbrev M_X9_is : zM := (cX9_is, RX9, "is", 1, some .int, 3, 0, 0)
theorem u_X9_is : zCal yX9_is (M_X9_is) 0 := ⟨(zmem 673 (by decide +kernel) rfl : Cond.code yX9_is cX9_is 1 (some .int) ∈ zTb), zmem 57 (by decide +kernel) rfl, by decide +kernel, Nat.le_of_ble_eq_true rfl⟩
theorem qi_X9_is : Cond.instanceMethod yX9_is ∈ zTb := zmem 671 (by decide +kernel) rfl
theorem qs_X9_is : Cond.selects yX9_is.cls yX9_is yX9_is ∈ zTb := zmem 672 (by decide +kernel) rfl
def f_X9_is (v0 : Nat) (h : zH) : zR :=
  zgR h v0 5 0 fun a1 =>
  zcI (f_X3_childKinds a1 h) fun x2 h3 =>
  zrI x2 h3
set_option maxRecDepth 100000 in
set_option maxHeartbeats 4000000 in
theorem m_X9_is (l : Launch) (D : zD) (v0 : Nat) (h : zH) : zMet l D yX9_is M_X9_is [.ref v0] h (f_X9_is v0 h) := by
  refine zMet.of (by decide +kernel) ⟨rfl, rfl⟩ (Nat.le_of_ble_eq_true rfl) (fun Y hl hD => ?_)
  show Z Y M_X9_is 0 0 0 [(0, .ref v0)] [] h _
  rw [f_X9_is]
  refine z_aload_n 0 (zat dd_X9_is 0 rfl) rfl rfl ?_
  refine z_getR fl_X9_12 (zat dd_X9_is 1 rfl) (fun a1 => ?_)
  refine z_callS_I0 (M2 := M_X3_childKinds) [.ref a1] (fun l D _ _ => m_X3_childKinds l D a1 h) u_X3_childKinds ql_X9_203 qi_X3_childKinds rfl rfl (Nat.le_of_ble_eq_true rfl) (by decide) rfl rfl (zat dd_X9_is 2 rfl) (fun x2 h3 => ?_)
  exact z_iret rfl (zat dd_X9_is 3 rfl)
/-! PaperDolls.look()I -/
def L_X9_look : List (Nat × Instr × Nat) := [(0, .aload_n 0, 1), (1, .getfield 12, 3), (4, .invokestatic 203, 3), (7, .invokestatic 208, 3), (10, .ireturn, 1)]
theorem dd_X9_look : ∀ q ∈ L_X9_look, decode cX9_look q.1 = .ok q.2 := by decide +kernel
abbrev M_X9_look : zM := (cX9_look, RX9, "look", 1, some .int, 3, 0, 0)
theorem u_X9_look : zCal yX9_look (M_X9_look) 0 := ⟨(zmem 684 (by decide +kernel) rfl : Cond.code yX9_look cX9_look 1 (some .int) ∈ zTb), zmem 57 (by decide +kernel) rfl, by decide +kernel, Nat.le_of_ble_eq_true rfl⟩
theorem qi_X9_look : Cond.instanceMethod yX9_look ∈ zTb := zmem 682 (by decide +kernel) rfl
theorem qs_X9_look : Cond.selects yX9_look.cls yX9_look yX9_look ∈ zTb := zmem 683 (by decide +kernel) rfl
def f_X9_look (v0 : Nat) (h : zH) : zR :=
  zgR h v0 5 0 fun a1 =>
  zcI (f_X3_childKinds a1 h) fun x2 h3 =>
  zcI (f_X3_bestPair x2 h3) fun x4 h5 =>
  zrI x4 h5
set_option maxRecDepth 100000 in
set_option maxHeartbeats 4000000 in
theorem m_X9_look (l : Launch) (D : zD) (v0 : Nat) (h : zH) : zMet l D yX9_look M_X9_look [.ref v0] h (f_X9_look v0 h) := by
  refine zMet.of (by decide +kernel) ⟨rfl, rfl⟩ (Nat.le_of_ble_eq_true rfl) (fun Y hl hD => ?_)
  show Z Y M_X9_look 0 0 0 [(0, .ref v0)] [] h _
  rw [f_X9_look]
  refine z_aload_n 0 (zat dd_X9_look 0 rfl) rfl rfl ?_
  refine z_getR fl_X9_12 (zat dd_X9_look 1 rfl) (fun a1 => ?_)
  refine z_callS_I0 (M2 := M_X3_childKinds) [.ref a1] (fun l D _ _ => m_X3_childKinds l D a1 h) u_X3_childKinds ql_X9_203 qi_X3_childKinds rfl rfl (Nat.le_of_ble_eq_true rfl) (by decide) rfl rfl (zat dd_X9_look 2 rfl) (fun x2 h3 => ?_)
  refine z_callS_I0 (M2 := M_X3_bestPair) [.int x2] (fun l D _ _ => m_X3_bestPair l D x2 h3) u_X3_bestPair ql_X9_208 qi_X3_bestPair rfl rfl (Nat.le_of_ble_eq_true rfl) (by decide) rfl rfl (zat dd_X9_look 3 rfl) (fun x4 h5 => ?_)
  exact z_iret rfl (zat dd_X9_look 4 rfl)
/-! PaperDolls.kinds(I)I -/
def L_X9_kinds : List (Nat × Instr × Nat) := [(0, .aload_n 0, 1), (1, .getfield 12, 3), (4, .iload_n 1, 1), (5, .invokevirtual 124, 3), (8, .ifCond .ne 10, 3), (11, .aload_n 0, 1), (12, .bipush (-102), 2), (14, .invokevirtual 67, 3), (17, .ireturn, 1), (18, .aload_n 0, 1), (19, .getfield 12, 3), (22, .iload_n 1, 1), (23, .invokestatic 211, 3), (26, .ireturn, 1)]
theorem dd_X9_kinds : ∀ q ∈ L_X9_kinds, decode cX9_kinds q.1 = .ok q.2 := by decide +kernel
abbrev M_X9_kinds : zM := (cX9_kinds, RX9, "kinds", 2, some .int, 3, 0, 0)
theorem u_X9_kinds : zCal yX9_kinds (M_X9_kinds) 1 := ⟨(zmem 696 (by decide +kernel) rfl : Cond.code yX9_kinds cX9_kinds 2 (some .int) ∈ zTb), zmem 57 (by decide +kernel) rfl, by decide +kernel, Nat.le_of_ble_eq_true rfl⟩
theorem qi_X9_kinds : Cond.instanceMethod yX9_kinds ∈ zTb := zmem 694 (by decide +kernel) rfl
theorem qs_X9_kinds : Cond.selects yX9_kinds.cls yX9_kinds yX9_kinds ∈ zTb := zmem 695 (by decide +kernel) rfl
def f_X9_kinds (v0 : Nat) (v1 : Int32) (h : zH) : zR :=
  zgR h v0 5 0 fun a1 =>
  zoc h a1 0 <|
  zcI (f_X1_has a1 v1 h) fun x2 h3 =>
  if x2 = 0 then
  zoc h3 v0 5 <|
  zcI (f_X9_refuse v0 (-102) h3) fun x7 h8 =>
  zrI x7 h8
  else
  zgR h3 v0 5 0 fun a4 =>
  zcI (f_X3_clothKinds a4 v1 h3) fun x5 h6 =>
  zrI x5 h6
set_option maxRecDepth 100000 in
set_option maxHeartbeats 4000000 in
theorem m_X9_kinds (l : Launch) (D : zD) (v0 : Nat) (v1 : Int32) (h : zH) : zMet l D yX9_kinds M_X9_kinds [.ref v0, .int v1] h (f_X9_kinds v0 v1 h) := by
  refine zMet.of (by decide +kernel) ⟨rfl, rfl⟩ (Nat.le_of_ble_eq_true rfl) (fun Y hl hD => ?_)
  show Z Y M_X9_kinds 0 0 0 [(0, .ref v0), (1, .int v1)] [] h _
  rw [f_X9_kinds]
  refine z_aload_n 0 (zat dd_X9_kinds 0 rfl) rfl rfl ?_
  refine z_getR fl_X9_12 (zat dd_X9_kinds 1 rfl) (fun a1 => ?_)
  refine z_iload_n 1 (zat dd_X9_kinds 2 rfl) rfl rfl ?_
  refine z_callV_I0 (M2 := M_X1_has) [.int v1] (fun l D _ _ => m_X1_has l D a1 v1 h) u_X1_has ql_X9_124 qi_X1_has qs_X1_has (ci := 0) rfl rfl rfl (Nat.le_of_ble_eq_true rfl) (by decide) rfl rfl (zat dd_X9_kinds 3 rfl) (fun x2 h3 => ?_)
  refine z_if_ne (tgt := 18) (zat dd_X9_kinds 4 rfl) (by decide) ?_ ?_
  · refine z_aload_n 0 (zat dd_X9_kinds 9 rfl) rfl rfl ?_
    refine z_getR fl_X9_12 (zat dd_X9_kinds 10 rfl) (fun a4 => ?_)
    refine z_iload_n 1 (zat dd_X9_kinds 11 rfl) rfl rfl ?_
    refine z_callS_I0 (M2 := M_X3_clothKinds) [.ref a4, .int v1] (fun l D _ _ => m_X3_clothKinds l D a4 v1 h3) u_X3_clothKinds ql_X9_211 qi_X3_clothKinds rfl rfl (Nat.le_of_ble_eq_true rfl) (by decide) rfl rfl (zat dd_X9_kinds 12 rfl) (fun x5 h6 => ?_)
    exact z_iret rfl (zat dd_X9_kinds 13 rfl)
  · refine z_aload_n 0 (zat dd_X9_kinds 5 rfl) rfl rfl ?_
    refine z_bipush (x := (-102)) (zat dd_X9_kinds 6 rfl) (by decide) ?_
    refine z_callV_I0 (M2 := M_X9_refuse) [.int (-102)] (fun l D _ _ => m_X9_refuse l D v0 (-102) h3) u_X9_refuse ql_X9_67 qi_X9_refuse qs_X9_refuse (ci := 5) rfl rfl rfl (Nat.le_of_ble_eq_true rfl) (by decide) rfl rfl (zat dd_X9_kinds 7 rfl) (fun x7 h8 => ?_)
    exact z_iret rfl (zat dd_X9_kinds 8 rfl)
/-! PaperDolls.ask(I)I -/
def L_X9_ask : List (Nat × Instr × Nat) := [(0, .aload_n 0, 1), (1, .getfield 12, 3), (4, .iload_n 1, 1), (5, .invokevirtual 124, 3), (8, .ifCond .ne 10, 3), (11, .aload_n 0, 1), (12, .bipush (-102), 2), (14, .invokevirtual 67, 3), (17, .ireturn, 1), (18, .aload_n 0, 1), (19, .getfield 12, 3), (22, .iload_n 1, 1), (23, .invokestatic 211, 3), (26, .aload_n 0, 1), (27, .getfield 12, 3), (30, .getfield 134, 3), (33, .iload_n 1, 1), (34, .iaload, 1), (35, .invokestatic 215, 3), (38, .ireturn, 1)]
theorem dd_X9_ask : ∀ q ∈ L_X9_ask, decode cX9_ask q.1 = .ok q.2 := by decide +kernel
abbrev M_X9_ask : zM := (cX9_ask, RX9, "ask", 2, some .int, 4, 0, 0)
theorem u_X9_ask : zCal yX9_ask (M_X9_ask) 1 := ⟨(zmem 707 (by decide +kernel) rfl : Cond.code yX9_ask cX9_ask 2 (some .int) ∈ zTb), zmem 57 (by decide +kernel) rfl, by decide +kernel, Nat.le_of_ble_eq_true rfl⟩
theorem qi_X9_ask : Cond.instanceMethod yX9_ask ∈ zTb := zmem 705 (by decide +kernel) rfl
theorem qs_X9_ask : Cond.selects yX9_ask.cls yX9_ask yX9_ask ∈ zTb := zmem 706 (by decide +kernel) rfl
def f_X9_ask (v0 : Nat) (v1 : Int32) (h : zH) : zR :=
  zgR h v0 5 0 fun a1 =>
  zoc h a1 0 <|
  zcI (f_X1_has a1 v1 h) fun x2 h3 =>
  if x2 = 0 then
  zoc h3 v0 5 <|
  zcI (f_X9_refuse v0 (-102) h3) fun x12 h13 =>
  zrI x12 h13
  else
  zgR h3 v0 5 0 fun a4 =>
  zcI (f_X3_clothKinds a4 v1 h3) fun x5 h6 =>
  zgR h6 v0 5 0 fun a7 =>
  zgR h6 a7 0 4 fun a8 =>
  zaI h6 a8 0 v1 fun x9 =>
  zcI (f_X3_bestWear x5 x9 h6) fun x10 h11 =>
  zrI x10 h11
set_option maxRecDepth 100000 in
set_option maxHeartbeats 4000000 in
theorem m_X9_ask (l : Launch) (D : zD) (v0 : Nat) (v1 : Int32) (h : zH) : zMet l D yX9_ask M_X9_ask [.ref v0, .int v1] h (f_X9_ask v0 v1 h) := by
  refine zMet.of (by decide +kernel) ⟨rfl, rfl⟩ (Nat.le_of_ble_eq_true rfl) (fun Y hl hD => ?_)
  show Z Y M_X9_ask 0 0 0 [(0, .ref v0), (1, .int v1)] [] h _
  rw [f_X9_ask]
  refine z_aload_n 0 (zat dd_X9_ask 0 rfl) rfl rfl ?_
  refine z_getR fl_X9_12 (zat dd_X9_ask 1 rfl) (fun a1 => ?_)
  refine z_iload_n 1 (zat dd_X9_ask 2 rfl) rfl rfl ?_
  refine z_callV_I0 (M2 := M_X1_has) [.int v1] (fun l D _ _ => m_X1_has l D a1 v1 h) u_X1_has ql_X9_124 qi_X1_has qs_X1_has (ci := 0) rfl rfl rfl (Nat.le_of_ble_eq_true rfl) (by decide) rfl rfl (zat dd_X9_ask 3 rfl) (fun x2 h3 => ?_)
  refine z_if_ne (tgt := 18) (zat dd_X9_ask 4 rfl) (by decide) ?_ ?_
  · refine z_aload_n 0 (zat dd_X9_ask 9 rfl) rfl rfl ?_
    refine z_getR fl_X9_12 (zat dd_X9_ask 10 rfl) (fun a4 => ?_)
    refine z_iload_n 1 (zat dd_X9_ask 11 rfl) rfl rfl ?_
    refine z_callS_I0 (M2 := M_X3_clothKinds) [.ref a4, .int v1] (fun l D _ _ => m_X3_clothKinds l D a4 v1 h3) u_X3_clothKinds ql_X9_211 qi_X3_clothKinds rfl rfl (Nat.le_of_ble_eq_true rfl) (by decide) rfl rfl (zat dd_X9_ask 12 rfl) (fun x5 h6 => ?_)
    refine z_aload_n 0 (zat dd_X9_ask 13 rfl) rfl rfl ?_
    refine z_getR fl_X9_12 (zat dd_X9_ask 14 rfl) (fun a7 => ?_)
    refine z_getR fl_X9_134 (zat dd_X9_ask 15 rfl) (fun a8 => ?_)
    refine z_iload_n 1 (zat dd_X9_ask 16 rfl) rfl rfl ?_
    refine z_iald (zat dd_X9_ask 17 rfl) (fun x9 => ?_)
    refine z_callS_I0 (M2 := M_X3_bestWear) [.int x5, .int x9] (fun l D _ _ => m_X3_bestWear l D x5 x9 h6) u_X3_bestWear ql_X9_215 qi_X3_bestWear rfl rfl (Nat.le_of_ble_eq_true rfl) (by decide) rfl rfl (zat dd_X9_ask 18 rfl) (fun x10 h11 => ?_)
    exact z_iret rfl (zat dd_X9_ask 19 rfl)
  · refine z_aload_n 0 (zat dd_X9_ask 5 rfl) rfl rfl ?_
    refine z_bipush (x := (-102)) (zat dd_X9_ask 6 rfl) (by decide) ?_
    refine z_callV_I0 (M2 := M_X9_refuse) [.int (-102)] (fun l D _ _ => m_X9_refuse l D v0 (-102) h3) u_X9_refuse ql_X9_67 qi_X9_refuse qs_X9_refuse (ci := 5) rfl rfl rfl (Nat.le_of_ble_eq_true rfl) (by decide) rfl rfl (zat dd_X9_ask 7 rfl) (fun x12 h13 => ?_)
    exact z_iret rfl (zat dd_X9_ask 8 rfl)
/-! PaperDolls.two(I)I -/
def L_X9_two : List (Nat × Instr × Nat) := [(0, .iload_n 1, 1), (1, .iconst (-1), 1), (2, .if_icmp .ge 10, 3), (5, .aload_n 0, 1), (6, .bipush (-102), 2), (8, .invokevirtual 67, 3), (11, .ireturn, 1), (12, .aload_n 0, 1), (13, .getfield 12, 3), (16, .aload_n 0, 1), (17, .getfield 12, 3), (20, .getfield 108, 3), (23, .iconst 0, 1), (24, .invokevirtual 150, 3), (27, .istore_n 2, 1), (28, .aload_n 0, 1), (29, .getfield 12, 3), (32, .invokevirtual 177, 3), (35, .aload_n 0, 1), (36, .getfield 12, 3), (39, .getfield 108, 3), (42, .invokevirtual 218, 3), (45, .iconst (-1), 1), (46, .ixor, 1), (47, .iand, 1), (48, .istore_n 3, 1), (49, .iconst 0, 1), (50, .istore 4, 2), (52, .iconst 0, 1), (53, .istore 5, 2), (55, .iload 5, 2), (57, .aload_n 0, 1), (58, .getfield 12, 3), (61, .getfield 71, 3), (64, .if_icmp .ge 64, 3), (67, .iconst 0, 1), (68, .istore 6, 2), (70, .iload 6, 2), (72, .aload_n 0, 1), (73, .getfield 12, 3), (76, .getfield 71, 3), (79, .if_icmp .ge 43, 3), (82, .aload_n 0, 1), (83, .getfield 12, 3), (86, .iload_n 2, 1), (87, .iload_n 3, 1), (88, .iload 5, 2), (90, .iload 6, 2), (92, .invokestatic 221, 3), (95, .ifCond .eq 21, 3), (98, .iload 4, 2), (100, .iload_n 1, 1), (101, .if_icmp .ne 12, 3), (104, .bipush 10, 2), (106, .iload 5, 2), (108, .imul, 1), (109, .iload 6, 2), (111, .iadd, 1), (112, .ireturn, 1), (113, .iinc 4 1, 3), (116, .iinc 6 1, 3), (119, .goto (-49), 3), (122, .iinc 5 1, 3), (125, .goto (-70), 3), (128, .iload_n 1, 1), (129, .iconst (-1), 1), (130, .if_icmp .ne 8, 3), (133, .iload 4, 2), (135, .goto 5, 3), (138, .bipush (-5), 2), (140, .ireturn, 1)]
theorem dd_X9_two : ∀ q ∈ L_X9_two, decode cX9_two q.1 = .ok q.2 := by decide +kernel
abbrev M_X9_two : zM := (cX9_two, RX9, "two", 7, some .int, 5, 0, 0)
theorem u_X9_two : zCal yX9_two (M_X9_two) 1 := ⟨(zmem 720 (by decide +kernel) rfl : Cond.code yX9_two cX9_two 7 (some .int) ∈ zTb), zmem 57 (by decide +kernel) rfl, by decide +kernel, Nat.le_of_ble_eq_true rfl⟩
theorem qi_X9_two : Cond.instanceMethod yX9_two ∈ zTb := zmem 718 (by decide +kernel) rfl
theorem qs_X9_two : Cond.selects yX9_two.cls yX9_two yX9_two ∈ zTb := zmem 719 (by decide +kernel) rfl
def f_X9_two_140 (t0 : Int32) (h : zH) : zR :=
  zrI t0 h
set_option maxRecDepth 100000 in
set_option maxHeartbeats 4000000 in
theorem zb_X9_two_140 (Y : zY) (t0 : Int32) (h : zH) : Z Y M_X9_two 0 0 140 [] [.int t0] h (f_X9_two_140 t0 h) := by
  rw [f_X9_two_140]
  exact z_iret rfl (zat dd_X9_two 70 rfl)
def f_X9_two_116 (k70 : Nat → Int32 → Int32 → Int32 → Int32 → Int32 → Int32 → zH → zR) (v0 : Nat) (v1 : Int32) (v2 : Int32) (v3 : Int32) (v4 : Int32) (v5 : Int32) (v6 : Int32) (h : zH) : zR :=
  k70 v0 v1 v2 v3 v4 v5 (v6 + 1) h
set_option maxRecDepth 100000 in
set_option maxHeartbeats 4000000 in
theorem zb_X9_two_116 (Y : zY) (k70 : Nat → Int32 → Int32 → Int32 → Int32 → Int32 → Int32 → zH → zR) (hk70 : ∀ (v0 : Nat) (v1 : Int32) (v2 : Int32) (v3 : Int32) (v4 : Int32) (v5 : Int32) (v6 : Int32) (h : zH), Z Y M_X9_two 0 0 70 [(0, .ref v0), (1, .int v1), (2, .int v2), (3, .int v3), (4, .int v4), (5, .int v5), (6, .int v6)] [] h (k70 v0 v1 v2 v3 v4 v5 v6 h)) (v0 : Nat) (v1 : Int32) (v2 : Int32) (v3 : Int32) (v4 : Int32) (v5 : Int32) (v6 : Int32) (h : zH) : Z Y M_X9_two 0 0 116 [(0, .ref v0), (1, .int v1), (2, .int v2), (3, .int v3), (4, .int v4), (5, .int v5), (6, .int v6)] [] h (f_X9_two_116 k70 v0 v1 v2 v3 v4 v5 v6 h) := by
  rw [f_X9_two_116]
  refine z_iinc (y := v6 + 1) (lv' := [(6, .int (v6 + 1)), (0, .ref v0), (1, .int v1), (2, .int v2), (3, .int v3), (4, .int v4), (5, .int v5)]) 6 (zat dd_X9_two 60 rfl) rfl rfl (Nat.le_of_ble_eq_true rfl) rfl ?_
  refine z_goto (tgt := 70) (zat dd_X9_two 61 rfl) (by decide) ?_
  refine z_sub [1, 2, 3, 4, 5, 6, 0] rfl ?_
  exact hk70 v0 v1 v2 v3 v4 v5 (v6 + 1) h
def f_X9_two_70 (k55 : Nat → Int32 → Int32 → Int32 → Int32 → Int32 → zH → zR) : Nat → Nat → Int32 → Int32 → Int32 → Int32 → Int32 → Int32 → zH → zR
  | 0, _, _, _, _, _, _, _, _ => none
  | n + 1, v0, v1, v2, v3, v4, v5, v6, h =>
  zgR h v0 5 0 fun a1 =>
  zgI h a1 0 1 fun x2 =>
  if x2 ≤ v6 then
  k55 v0 v1 v2 v3 v4 (v5 + 1) h
  else
  zgR h v0 5 0 fun a3 =>
  zcI (f_X2_rests a3 v2 v3 v5 v6 h) fun x4 h5 =>
  if x4 = 0 then
  f_X9_two_116 (f_X9_two_70 k55 n) v0 v1 v2 v3 v4 v5 v6 h5
  else
  if v4 = v1 then
  zrI ((10 * v5) + v6) h5
  else
  f_X9_two_116 (f_X9_two_70 k55 n) v0 v1 v2 v3 (v4 + 1) v5 v6 h5
set_option maxRecDepth 100000 in
set_option maxHeartbeats 4000000 in
theorem zb_X9_two_70 (Y : zY) (k55 : Nat → Int32 → Int32 → Int32 → Int32 → Int32 → zH → zR) (hk55 : ∀ (v0 : Nat) (v1 : Int32) (v2 : Int32) (v3 : Int32) (v4 : Int32) (v5 : Int32) (h : zH), Z Y M_X9_two 0 0 55 [(0, .ref v0), (1, .int v1), (2, .int v2), (3, .int v3), (4, .int v4), (5, .int v5)] [] h (k55 v0 v1 v2 v3 v4 v5 h)) : ∀ (n : Nat) (v0 : Nat) (v1 : Int32) (v2 : Int32) (v3 : Int32) (v4 : Int32) (v5 : Int32) (v6 : Int32) (h : zH), Z Y M_X9_two 0 0 70 [(0, .ref v0), (1, .int v1), (2, .int v2), (3, .int v3), (4, .int v4), (5, .int v5), (6, .int v6)] [] h (f_X9_two_70 k55 n v0 v1 v2 v3 v4 v5 v6 h) := by
  intro n
  induction n with
  | zero =>
    intro v0 v1 v2 v3 v4 v5 v6 h
    rw [f_X9_two_70]
    exact z_none
  | succ n ih =>
    intro v0 v1 v2 v3 v4 v5 v6 h
    rw [f_X9_two_70]
    refine z_iload 6 (zat dd_X9_two 37 rfl) rfl ?_
    refine z_aload_n 0 (zat dd_X9_two 38 rfl) rfl rfl ?_
    refine z_getR fl_X9_12 (zat dd_X9_two 39 rfl) (fun a1 => ?_)
    refine z_getI fl_X9_71 (zat dd_X9_two 40 rfl) (fun x2 => ?_)
    refine z_icmp_ge (tgt := 122) (zat dd_X9_two 41 rfl) (by decide) ?_ ?_
    · refine z_iinc (y := v5 + 1) (lv' := [(5, .int (v5 + 1)), (0, .ref v0), (1, .int v1), (2, .int v2), (3, .int v3), (4, .int v4), (6, .int v6)]) 5 (zat dd_X9_two 62 rfl) rfl rfl (Nat.le_of_ble_eq_true rfl) rfl ?_
      refine z_goto (tgt := 55) (zat dd_X9_two 63 rfl) (by decide) ?_
      refine z_sub [1, 2, 3, 4, 5, 0] rfl ?_
      exact hk55 v0 v1 v2 v3 v4 (v5 + 1) h
    · refine z_aload_n 0 (zat dd_X9_two 42 rfl) rfl rfl ?_
      refine z_getR fl_X9_12 (zat dd_X9_two 43 rfl) (fun a3 => ?_)
      refine z_iload_n 2 (zat dd_X9_two 44 rfl) rfl rfl ?_
      refine z_iload_n 3 (zat dd_X9_two 45 rfl) rfl rfl ?_
      refine z_iload 5 (zat dd_X9_two 46 rfl) rfl ?_
      refine z_iload 6 (zat dd_X9_two 47 rfl) rfl ?_
      refine z_callS_I0 (M2 := M_X2_rests) [.ref a3, .int v2, .int v3, .int v5, .int v6] (fun l D _ _ => m_X2_rests l D a3 v2 v3 v5 v6 h) u_X2_rests ql_X9_221 qi_X2_rests rfl rfl (Nat.le_of_ble_eq_true rfl) (by decide) rfl rfl (zat dd_X9_two 48 rfl) (fun x4 h5 => ?_)
      refine z_if_eq (tgt := 116) (zat dd_X9_two 49 rfl) (by decide) ?_ ?_
      · exact zb_X9_two_116 Y (f_X9_two_70 k55 n) ih v0 v1 v2 v3 v4 v5 v6 h5
      · refine z_iload 4 (zat dd_X9_two 50 rfl) rfl ?_
        refine z_iload_n 1 (zat dd_X9_two 51 rfl) rfl rfl ?_
        refine z_icmp_ne (tgt := 113) (zat dd_X9_two 52 rfl) (by decide) ?_ ?_
        · refine z_iinc (y := v4 + 1) (lv' := [(4, .int (v4 + 1)), (0, .ref v0), (1, .int v1), (2, .int v2), (3, .int v3), (5, .int v5), (6, .int v6)]) 4 (zat dd_X9_two 59 rfl) rfl rfl (Nat.le_of_ble_eq_true rfl) rfl ?_
          refine z_sub [1, 2, 3, 4, 0, 5, 6] rfl ?_
          exact zb_X9_two_116 Y (f_X9_two_70 k55 n) ih v0 v1 v2 v3 (v4 + 1) v5 v6 h5
        · refine z_bipush (x := 10) (zat dd_X9_two 53 rfl) (by decide) ?_
          refine z_iload 5 (zat dd_X9_two 54 rfl) rfl ?_
          refine z_imul (zat dd_X9_two 55 rfl) ?_
          refine z_iload 6 (zat dd_X9_two 56 rfl) rfl ?_
          refine z_iadd (zat dd_X9_two 57 rfl) ?_
          exact z_iret rfl (zat dd_X9_two 58 rfl)
def f_X9_two_55 : Nat → Nat → Int32 → Int32 → Int32 → Int32 → Int32 → zH → zR
  | 0, _, _, _, _, _, _, _ => none
  | n + 1, v0, v1, v2, v3, v4, v5, h =>
  zgR h v0 5 0 fun a1 =>
  zgI h a1 0 1 fun x2 =>
  if x2 ≤ v5 then
  if v1 = (-1) then
  f_X9_two_140 v4 h
  else
  f_X9_two_140 (-5) h
  else
  f_X9_two_70 (f_X9_two_55 n) zF v0 v1 v2 v3 v4 v5 0 h
set_option maxRecDepth 100000 in
set_option maxHeartbeats 4000000 in
theorem zb_X9_two_55 (Y : zY) : ∀ (n : Nat) (v0 : Nat) (v1 : Int32) (v2 : Int32) (v3 : Int32) (v4 : Int32) (v5 : Int32) (h : zH), Z Y M_X9_two 0 0 55 [(0, .ref v0), (1, .int v1), (2, .int v2), (3, .int v3), (4, .int v4), (5, .int v5)] [] h (f_X9_two_55 n v0 v1 v2 v3 v4 v5 h) := by
  intro n
  induction n with
  | zero =>
    intro v0 v1 v2 v3 v4 v5 h
    rw [f_X9_two_55]
    exact z_none
  | succ n ih =>
    intro v0 v1 v2 v3 v4 v5 h
    rw [f_X9_two_55]
    refine z_iload 5 (zat dd_X9_two 30 rfl) rfl ?_
    refine z_aload_n 0 (zat dd_X9_two 31 rfl) rfl rfl ?_
    refine z_getR fl_X9_12 (zat dd_X9_two 32 rfl) (fun a1 => ?_)
    refine z_getI fl_X9_71 (zat dd_X9_two 33 rfl) (fun x2 => ?_)
    refine z_icmp_ge (tgt := 128) (zat dd_X9_two 34 rfl) (by decide) ?_ ?_
    · refine z_iload_n 1 (zat dd_X9_two 64 rfl) rfl rfl ?_
      refine z_iconst (x := (-1)) (zat dd_X9_two 65 rfl) (by decide) ?_
      refine z_icmp_ne (tgt := 138) (zat dd_X9_two 66 rfl) (by decide) ?_ ?_
      · refine z_bipush (x := (-5)) (zat dd_X9_two 69 rfl) (by decide) ?_
        refine z_sub [] rfl ?_
        exact zb_X9_two_140 Y (-5) h
      · refine z_iload 4 (zat dd_X9_two 67 rfl) rfl ?_
        refine z_goto (tgt := 140) (zat dd_X9_two 68 rfl) (by decide) ?_
        refine z_sub [] rfl ?_
        exact zb_X9_two_140 Y v4 h
    · refine z_iconst (x := 0) (zat dd_X9_two 35 rfl) (by decide) ?_
      refine z_istore (lv' := [(6, .int 0), (0, .ref v0), (1, .int v1), (2, .int v2), (3, .int v3), (4, .int v4), (5, .int v5)]) (zat dd_X9_two 36 rfl) (Nat.le_of_ble_eq_true rfl) rfl ?_
      refine z_sub [1, 2, 3, 4, 5, 6, 0] rfl ?_
      exact zb_X9_two_70 Y (f_X9_two_55 n) ih zF v0 v1 v2 v3 v4 v5 0 h
def f_X9_two (v0 : Nat) (v1 : Int32) (h : zH) : zR :=
  if (-1) ≤ v1 then
  zgR h v0 5 0 fun a1 =>
  zgR h v0 5 0 fun a2 =>
  zgR h a2 0 5 fun a3 =>
  zoc h a1 0 <|
  zcI (f_X1_setThatMay a1 a3 0 h) fun x4 h5 =>
  zgR h5 v0 5 0 fun a6 =>
  zoc h5 a6 0 <|
  zcI (f_X1_allPieces a6 h5) fun x7 h8 =>
  zgR h8 v0 5 0 fun a9 =>
  zgR h8 a9 0 5 fun a10 =>
  zoc h8 a10 4 <|
  zcI (f_X8_onSet a10 h8) fun x11 h12 =>
  zlt (x7 &&& (x11 ^^^ (-1))) fun x13 =>
  f_X9_two_55 zF v0 v1 x4 x13 0 0 h12
  else
  zoc h v0 5 <|
  zcI (f_X9_refuse v0 (-102) h) fun x14 h15 =>
  zrI x14 h15
set_option maxRecDepth 100000 in
set_option maxHeartbeats 4000000 in
theorem m_X9_two (l : Launch) (D : zD) (v0 : Nat) (v1 : Int32) (h : zH) : zMet l D yX9_two M_X9_two [.ref v0, .int v1] h (f_X9_two v0 v1 h) := by
  refine zMet.of (by decide +kernel) ⟨rfl, rfl⟩ (Nat.le_of_ble_eq_true rfl) (fun Y hl hD => ?_)
  show Z Y M_X9_two 0 0 0 [(0, .ref v0), (1, .int v1)] [] h _
  rw [f_X9_two]
  refine z_iload_n 1 (zat dd_X9_two 0 rfl) rfl rfl ?_
  refine z_iconst (x := (-1)) (zat dd_X9_two 1 rfl) (by decide) ?_
  refine z_icmp_ge (tgt := 12) (zat dd_X9_two 2 rfl) (by decide) ?_ ?_
  · refine z_aload_n 0 (zat dd_X9_two 7 rfl) rfl rfl ?_
    refine z_getR fl_X9_12 (zat dd_X9_two 8 rfl) (fun a1 => ?_)
    refine z_aload_n 0 (zat dd_X9_two 9 rfl) rfl rfl ?_
    refine z_getR fl_X9_12 (zat dd_X9_two 10 rfl) (fun a2 => ?_)
    refine z_getR fl_X9_108 (zat dd_X9_two 11 rfl) (fun a3 => ?_)
    refine z_iconst (x := 0) (zat dd_X9_two 12 rfl) (by decide) ?_
    refine z_callV_I0 (M2 := M_X1_setThatMay) [.ref a3, .int 0] (fun l D _ _ => m_X1_setThatMay l D a1 a3 0 h) u_X1_setThatMay ql_X9_150 qi_X1_setThatMay qs_X1_setThatMay (ci := 0) rfl rfl rfl (Nat.le_of_ble_eq_true rfl) (by decide) rfl rfl (zat dd_X9_two 13 rfl) (fun x4 h5 => ?_)
    refine z_istore_n (lv' := [(2, .int x4), (0, .ref v0), (1, .int v1)]) (zat dd_X9_two 14 rfl) rfl (Nat.le_of_ble_eq_true rfl) rfl ?_
    refine z_aload_n 1 (zat dd_X9_two 15 rfl) rfl rfl ?_
    refine z_getR fl_X9_12 (zat dd_X9_two 16 rfl) (fun a6 => ?_)
    refine z_callV_I0 (M2 := M_X1_allPieces) [] (fun l D _ _ => m_X1_allPieces l D a6 h5) u_X1_allPieces ql_X9_177 qi_X1_allPieces qs_X1_allPieces (ci := 0) rfl rfl rfl (Nat.le_of_ble_eq_true rfl) (by decide) rfl rfl (zat dd_X9_two 17 rfl) (fun x7 h8 => ?_)
    refine z_aload_n 1 (zat dd_X9_two 18 rfl) rfl rfl ?_
    refine z_getR fl_X9_12 (zat dd_X9_two 19 rfl) (fun a9 => ?_)
    refine z_getR fl_X9_108 (zat dd_X9_two 20 rfl) (fun a10 => ?_)
    refine z_callV_I0 (M2 := M_X8_onSet) [] (fun l D _ _ => m_X8_onSet l D a10 h8) u_X8_onSet ql_X9_218 qi_X8_onSet qs_X8_onSet (ci := 4) rfl rfl rfl (Nat.le_of_ble_eq_true rfl) (by decide) rfl rfl (zat dd_X9_two 21 rfl) (fun x11 h12 => ?_)
    refine z_iconst (x := (-1)) (zat dd_X9_two 22 rfl) (by decide) ?_
    refine z_ixor (zat dd_X9_two 23 rfl) ?_
    refine z_iand (zat dd_X9_two 24 rfl) ?_
    refine z_let (fun x13 => ?_)
    refine z_istore_n (lv' := [(3, .int x13), (2, .int x4), (0, .ref v0), (1, .int v1)]) (zat dd_X9_two 25 rfl) rfl (Nat.le_of_ble_eq_true rfl) rfl ?_
    refine z_iconst (x := 0) (zat dd_X9_two 26 rfl) (by decide) ?_
    refine z_istore (lv' := [(4, .int 0), (3, .int x13), (2, .int x4), (0, .ref v0), (1, .int v1)]) (zat dd_X9_two 27 rfl) (Nat.le_of_ble_eq_true rfl) rfl ?_
    refine z_iconst (x := 0) (zat dd_X9_two 28 rfl) (by decide) ?_
    refine z_istore (lv' := [(5, .int 0), (4, .int 0), (3, .int x13), (2, .int x4), (0, .ref v0), (1, .int v1)]) (zat dd_X9_two 29 rfl) (Nat.le_of_ble_eq_true rfl) rfl ?_
    refine z_sub [4, 5, 3, 2, 1, 0] rfl ?_
    exact zb_X9_two_55 Y zF v0 v1 x4 x13 0 0 h12
  · refine z_aload_n 0 (zat dd_X9_two 3 rfl) rfl rfl ?_
    refine z_bipush (x := (-102)) (zat dd_X9_two 4 rfl) (by decide) ?_
    refine z_callV_I0 (M2 := M_X9_refuse) [.int (-102)] (fun l D _ _ => m_X9_refuse l D v0 (-102) h) u_X9_refuse ql_X9_67 qi_X9_refuse qs_X9_refuse (ci := 5) rfl rfl rfl (Nat.le_of_ble_eq_true rfl) (by decide) rfl rfl (zat dd_X9_two 5 rfl) (fun x14 h15 => ?_)
    exact z_iret rfl (zat dd_X9_two 6 rfl)
/-! PaperDolls.setFraction(II)V -/
def L_X9_setFraction : List (Nat × Instr × Nat) := [(0, .aload_n 0, 1), (1, .lconst 0, 1), (2, .putfield 263, 3), (5, .aload_n 0, 1), (6, .lconst 1, 1), (7, .putfield 59, 3), (10, .iload_n 2, 1), (11, .istore_n 3, 1), (12, .iload_n 3, 1), (13, .iconst 1, 1), (14, .if_icmp .lt 38, 3), (17, .iload_n 1, 1), (18, .iload_n 3, 1), (19, .irem, 1), (20, .ifCond .ne 26, 3), (23, .iload_n 2, 1), (24, .iload_n 3, 1), (25, .irem, 1), (26, .ifCond .ne 20, 3), (29, .aload_n 0, 1), (30, .iload_n 1, 1), (31, .iload_n 3, 1), (32, .idiv, 1), (33, .i2l, 1), (34, .putfield 263, 3), (37, .aload_n 0, 1), (38, .iload_n 2, 1), (39, .iload_n 3, 1), (40, .idiv, 1), (41, .i2l, 1), (42, .putfield 59, 3), (45, .return_, 1), (46, .iinc 3 (-1), 3), (49, .goto (-37), 3), (52, .return_, 1)]
theorem dd_X9_setFraction : ∀ q ∈ L_X9_setFraction, decode cX9_setFraction q.1 = .ok q.2 := by decide +kernel
abbrev M_X9_setFraction : zM := (cX9_setFraction, RX9, "setFraction", 4, none, 0, 0, 0)
theorem u_X9_setFraction : zCal yX9_setFraction (M_X9_setFraction) 2 := ⟨(zmem 744 (by decide +kernel) rfl : Cond.code yX9_setFraction cX9_setFraction 4 (none) ∈ zTb), zmem 57 (by decide +kernel) rfl, by decide +kernel, Nat.le_of_ble_eq_true rfl⟩
theorem qi_X9_setFraction : Cond.instanceMethod yX9_setFraction ∈ zTb := zmem 743 (by decide +kernel) rfl
theorem qs_X9_setFraction : Cond.selects yX9_setFraction.cls yX9_setFraction yX9_setFraction ∈ zTb := zmem 17 (by decide +kernel) rfl
def f_X9_setFraction_46 (k12 : Nat → Int32 → Int32 → Int32 → zH → zR) (v0 : Nat) (v1 : Int32) (v2 : Int32) (v3 : Int32) (h : zH) : zR :=
  k12 v0 v1 v2 (v3 + (-1)) h
set_option maxRecDepth 100000 in
set_option maxHeartbeats 4000000 in
theorem zb_X9_setFraction_46 (Y : zY) (k12 : Nat → Int32 → Int32 → Int32 → zH → zR) (hk12 : ∀ (v0 : Nat) (v1 : Int32) (v2 : Int32) (v3 : Int32) (h : zH), Z Y M_X9_setFraction 0 0 12 [(0, .ref v0), (1, .int v1), (2, .int v2), (3, .int v3)] [] h (k12 v0 v1 v2 v3 h)) (v0 : Nat) (v1 : Int32) (v2 : Int32) (v3 : Int32) (h : zH) : Z Y M_X9_setFraction 0 0 46 [(0, .ref v0), (1, .int v1), (2, .int v2), (3, .int v3)] [] h (f_X9_setFraction_46 k12 v0 v1 v2 v3 h) := by
  rw [f_X9_setFraction_46]
  refine z_iinc (y := v3 + (-1)) (lv' := [(3, .int (v3 + (-1))), (0, .ref v0), (1, .int v1), (2, .int v2)]) 3 (zat dd_X9_setFraction 32 rfl) rfl rfl (Nat.le_of_ble_eq_true rfl) rfl ?_
  refine z_goto (tgt := 12) (zat dd_X9_setFraction 33 rfl) (by decide) ?_
  refine z_sub [1, 2, 3, 0] rfl ?_
  exact hk12 v0 v1 v2 (v3 + (-1)) h
def f_X9_setFraction_12 : Nat → Nat → Int32 → Int32 → Int32 → zH → zR
  | 0, _, _, _, _, _ => none
  | n + 1, v0, v1, v2, v3, h =>
  if v3 < 1 then
  zrV h
  else
  zdv v3 <|
  if (v1 - v1 / v3 * v3) = 0 then
  zdv v3 <|
  if (v2 - v2 / v3 * v3) = 0 then
  zdv v3 <|
  zpV h v0 5 10 (.long ((v1 / v3 : Int32).toInt64)) fun h1 =>
  zdv v3 <|
  zpV h1 v0 5 11 (.long ((v2 / v3 : Int32).toInt64)) fun h2 =>
  zrV h2
  else
  f_X9_setFraction_46 (f_X9_setFraction_12 n) v0 v1 v2 v3 h
  else
  f_X9_setFraction_46 (f_X9_setFraction_12 n) v0 v1 v2 v3 h
set_option maxRecDepth 100000 in
set_option maxHeartbeats 4000000 in
theorem zb_X9_setFraction_12 (Y : zY) : ∀ (n : Nat) (v0 : Nat) (v1 : Int32) (v2 : Int32) (v3 : Int32) (h : zH), Z Y M_X9_setFraction 0 0 12 [(0, .ref v0), (1, .int v1), (2, .int v2), (3, .int v3)] [] h (f_X9_setFraction_12 n v0 v1 v2 v3 h) := by
  intro n
  induction n with
  | zero =>
    intro v0 v1 v2 v3 h
    rw [f_X9_setFraction_12]
    exact z_none
  | succ n ih =>
    intro v0 v1 v2 v3 h
    rw [f_X9_setFraction_12]
    refine z_iload_n 3 (zat dd_X9_setFraction 8 rfl) rfl rfl ?_
    refine z_iconst (x := 1) (zat dd_X9_setFraction 9 rfl) (by decide) ?_
    refine z_icmp_lt (tgt := 52) (zat dd_X9_setFraction 10 rfl) (by decide) ?_ ?_
    · exact z_vret rfl (zat dd_X9_setFraction 34 rfl)
    · refine z_iload_n 1 (zat dd_X9_setFraction 11 rfl) rfl rfl ?_
      refine z_iload_n 3 (zat dd_X9_setFraction 12 rfl) rfl rfl ?_
      refine z_irem (zat dd_X9_setFraction 13 rfl) ?_
      refine z_if_ne (tgt := 46) (zat dd_X9_setFraction 14 rfl) (by decide) ?_ ?_
      · exact zb_X9_setFraction_46 Y (f_X9_setFraction_12 n) ih v0 v1 v2 v3 h
      · refine z_iload_n 2 (zat dd_X9_setFraction 15 rfl) rfl rfl ?_
        refine z_iload_n 3 (zat dd_X9_setFraction 16 rfl) rfl rfl ?_
        refine z_irem (zat dd_X9_setFraction 17 rfl) ?_
        refine z_if_ne (tgt := 46) (zat dd_X9_setFraction 18 rfl) (by decide) ?_ ?_
        · exact zb_X9_setFraction_46 Y (f_X9_setFraction_12 n) ih v0 v1 v2 v3 h
        · refine z_aload_n 0 (zat dd_X9_setFraction 19 rfl) rfl rfl ?_
          refine z_iload_n 1 (zat dd_X9_setFraction 20 rfl) rfl rfl ?_
          refine z_iload_n 3 (zat dd_X9_setFraction 21 rfl) rfl rfl ?_
          refine z_idiv (zat dd_X9_setFraction 22 rfl) ?_
          refine z_i2l (zat dd_X9_setFraction 23 rfl) ?_
          refine z_put fl_X9_263 rfl rfl (zat dd_X9_setFraction 24 rfl) (fun h1 => ?_)
          refine z_aload_n 0 (zat dd_X9_setFraction 25 rfl) rfl rfl ?_
          refine z_iload_n 2 (zat dd_X9_setFraction 26 rfl) rfl rfl ?_
          refine z_iload_n 3 (zat dd_X9_setFraction 27 rfl) rfl rfl ?_
          refine z_idiv (zat dd_X9_setFraction 28 rfl) ?_
          refine z_i2l (zat dd_X9_setFraction 29 rfl) ?_
          refine z_put fl_X9_59 rfl rfl (zat dd_X9_setFraction 30 rfl) (fun h2 => ?_)
          exact z_vret rfl (zat dd_X9_setFraction 31 rfl)
def f_X9_setFraction (v0 : Nat) (v1 : Int32) (v2 : Int32) (h : zH) : zR :=
  zpV h v0 5 10 (.long 0) fun h1 =>
  zpV h1 v0 5 11 (.long 1) fun h2 =>
  f_X9_setFraction_12 zF v0 v1 v2 v2 h2
set_option maxRecDepth 100000 in
set_option maxHeartbeats 4000000 in
theorem m_X9_setFraction (l : Launch) (D : zD) (v0 : Nat) (v1 : Int32) (v2 : Int32) (h : zH) : zMet l D yX9_setFraction M_X9_setFraction [.ref v0, .int v1, .int v2] h (f_X9_setFraction v0 v1 v2 h) := by
  refine zMet.of (by decide +kernel) ⟨rfl, rfl⟩ (Nat.le_of_ble_eq_true rfl) (fun Y hl hD => ?_)
  show Z Y M_X9_setFraction 0 0 0 [(0, .ref v0), (1, .int v1), (2, .int v2)] [] h _
  rw [f_X9_setFraction]
  refine z_aload_n 0 (zat dd_X9_setFraction 0 rfl) rfl rfl ?_
  refine z_lconst (x := 0) (zat dd_X9_setFraction 1 rfl) (by decide) ?_
  refine z_put fl_X9_263 rfl rfl (zat dd_X9_setFraction 2 rfl) (fun h1 => ?_)
  refine z_aload_n 0 (zat dd_X9_setFraction 3 rfl) rfl rfl ?_
  refine z_lconst (x := 1) (zat dd_X9_setFraction 4 rfl) (by decide) ?_
  refine z_put fl_X9_59 rfl rfl (zat dd_X9_setFraction 5 rfl) (fun h2 => ?_)
  refine z_iload_n 2 (zat dd_X9_setFraction 6 rfl) rfl rfl ?_
  refine z_istore_n (lv' := [(3, .int v2), (0, .ref v0), (1, .int v1), (2, .int v2)]) (zat dd_X9_setFraction 7 rfl) rfl (Nat.le_of_ble_eq_true rfl) rfl ?_
  refine z_sub [1, 2, 3, 0] rfl ?_
  exact zb_X9_setFraction_12 Y zF v0 v1 v2 v2 h2
/-! PaperDolls.luck(I)I -/
def L_X9_luck : List (Nat × Instr × Nat) := [(0, .iload_n 1, 1), (1, .iconst 0, 1), (2, .iconst 4, 1), (3, .invokestatic 63, 3), (6, .ifCond .ne 10, 3), (9, .aload_n 0, 1), (10, .bipush (-102), 2), (12, .invokevirtual 67, 3), (15, .ireturn, 1), (16, .aload_n 0, 1), (17, .getfield 12, 3), (20, .getfield 108, 3), (23, .invokevirtual 218, 3), (26, .istore_n 2, 1), (27, .aload_n 0, 1), (28, .getfield 12, 3), (31, .invokevirtual 177, 3), (34, .iload_n 2, 1), (35, .iconst (-1), 1), (36, .ixor, 1), (37, .iand, 1), (38, .istore_n 3, 1), (39, .aload_n 0, 1), (40, .getfield 12, 3), (43, .aload_n 0, 1), (44, .getfield 12, 3), (47, .getfield 108, 3), (50, .iconst 0, 1), (51, .invokevirtual 150, 3), (54, .istore 4, 2), (56, .iload_n 1, 1), (57, .iload_n 3, 1), (58, .invokestatic 169, 3), (61, .invokestatic 227, 3), (64, .istore 5, 2), (66, .iconst 0, 1), (67, .istore 6, 2), (69, .iconst 0, 1), (70, .istore 7, 2), (72, .iconst 0, 1), (73, .istore 8, 2), (75, .iload 8, 2), (77, .sipush 256, 3), (80, .if_icmp .ge 72, 3), (83, .iload 8, 2), (85, .iload_n 3, 1), (86, .iconst (-1), 1), (87, .ixor, 1), (88, .iand, 1), (89, .ifCond .ne 57, 3), (92, .iload 8, 2), (94, .invokestatic 169, 3), (97, .iload 5, 2), (99, .if_icmp .ne 47, 3), (102, .iinc 7 1, 3), (105, .iload 8, 2), (107, .iload 4, 2), (109, .iconst (-1), 1), (110, .ixor, 1), (111, .iand, 1), (112, .ifCond .ne 34, 3), (115, .aload_n 0, 1), (116, .getfield 12, 3), (119, .iload 8, 2), (121, .iload_n 2, 1), (122, .ior, 1), (123, .invokevirtual 232, 3), (126, .bipush 15, 2), (128, .if_icmp .ne 18, 3), (131, .aload_n 0, 1), (132, .getfield 12, 3), (135, .iload 8, 2), (137, .invokevirtual 235, 3), (140, .ifCond .eq 6, 3), (143, .iinc 6 1, 3), (146, .iinc 8 1, 3), (149, .goto (-74), 3), (152, .aload_n 0, 1), (153, .iload 6, 2), (155, .iload 7, 2), (157, .invokevirtual 238, 3), (160, .iconst 1, 1), (161, .ireturn, 1)]
theorem dd_X9_luck : ∀ q ∈ L_X9_luck, decode cX9_luck q.1 = .ok q.2 := by decide +kernel
abbrev M_X9_luck : zM := (cX9_luck, RX9, "luck", 9, some .int, 5, 0, 0)
theorem u_X9_luck : zCal yX9_luck (M_X9_luck) 1 := ⟨(zmem 737 (by decide +kernel) rfl : Cond.code yX9_luck cX9_luck 9 (some .int) ∈ zTb), zmem 57 (by decide +kernel) rfl, by decide +kernel, Nat.le_of_ble_eq_true rfl⟩
theorem qi_X9_luck : Cond.instanceMethod yX9_luck ∈ zTb := zmem 735 (by decide +kernel) rfl
theorem qs_X9_luck : Cond.selects yX9_luck.cls yX9_luck yX9_luck ∈ zTb := zmem 736 (by decide +kernel) rfl
def f_X9_luck_146 (k75 : Nat → Int32 → Int32 → Int32 → Int32 → Int32 → Int32 → Int32 → zH → zR) (v0 : Nat) (v2 : Int32) (v3 : Int32) (v4 : Int32) (v5 : Int32) (v6 : Int32) (v7 : Int32) (v8 : Int32) (h : zH) : zR :=
  k75 v0 v2 v3 v4 v5 v6 v7 (v8 + 1) h
set_option maxRecDepth 100000 in
set_option maxHeartbeats 4000000 in
theorem zb_X9_luck_146 (Y : zY) (k75 : Nat → Int32 → Int32 → Int32 → Int32 → Int32 → Int32 → Int32 → zH → zR) (hk75 : ∀ (v0 : Nat) (v2 : Int32) (v3 : Int32) (v4 : Int32) (v5 : Int32) (v6 : Int32) (v7 : Int32) (v8 : Int32) (h : zH), Z Y M_X9_luck 0 0 75 [(0, .ref v0), (2, .int v2), (3, .int v3), (4, .int v4), (5, .int v5), (6, .int v6), (7, .int v7), (8, .int v8)] [] h (k75 v0 v2 v3 v4 v5 v6 v7 v8 h)) (v0 : Nat) (v2 : Int32) (v3 : Int32) (v4 : Int32) (v5 : Int32) (v6 : Int32) (v7 : Int32) (v8 : Int32) (h : zH) : Z Y M_X9_luck 0 0 146 [(0, .ref v0), (2, .int v2), (3, .int v3), (4, .int v4), (5, .int v5), (6, .int v6), (7, .int v7), (8, .int v8)] [] h (f_X9_luck_146 k75 v0 v2 v3 v4 v5 v6 v7 v8 h) := by
  rw [f_X9_luck_146]
  refine z_iinc (y := v8 + 1) (lv' := [(8, .int (v8 + 1)), (0, .ref v0), (2, .int v2), (3, .int v3), (4, .int v4), (5, .int v5), (6, .int v6), (7, .int v7)]) 7 (zat dd_X9_luck 75 rfl) rfl rfl (Nat.le_of_ble_eq_true rfl) rfl ?_
  refine z_goto (tgt := 75) (zat dd_X9_luck 76 rfl) (by decide) ?_
  refine z_sub [1, 2, 3, 4, 5, 6, 7, 0] rfl ?_
  exact hk75 v0 v2 v3 v4 v5 v6 v7 (v8 + 1) h
def f_X9_luck_75 : Nat → Nat → Int32 → Int32 → Int32 → Int32 → Int32 → Int32 → Int32 → zH → zR
  | 0, _, _, _, _, _, _, _, _, _ => none
  | n + 1, v0, v2, v3, v4, v5, v6, v7, v8, h =>
  if 256 ≤ v8 then
  zoc h v0 5 <|
  zcV (f_X9_setFraction v0 v6 v7 h) fun h1 =>
  zrI 1 h1
  else
  if (v8 &&& (v3 ^^^ (-1))) = 0 then
  zcI (f_J6_bitCount_0f7a4 v8 h) fun x2 h3 =>
  if x2 = v5 then
  if (v8 &&& (v4 ^^^ (-1))) = 0 then
  zgR h3 v0 5 0 fun a4 =>
  zoc h3 a4 0 <|
  zcI (f_X1_spotsOfSet a4 (v8 ||| v2) h3) fun x5 h6 =>
  if x5 = 15 then
  zgR h6 v0 5 0 fun a7 =>
  zoc h6 a7 0 <|
  zcI (f_X1_allMatch a7 v8 h6) fun x8 h9 =>
  if x8 = 0 then
  f_X9_luck_146 (f_X9_luck_75 n) v0 v2 v3 v4 v5 v6 (v7 + 1) v8 h9
  else
  f_X9_luck_146 (f_X9_luck_75 n) v0 v2 v3 v4 v5 (v6 + 1) (v7 + 1) v8 h9
  else
  f_X9_luck_146 (f_X9_luck_75 n) v0 v2 v3 v4 v5 v6 (v7 + 1) v8 h6
  else
  f_X9_luck_146 (f_X9_luck_75 n) v0 v2 v3 v4 v5 v6 (v7 + 1) v8 h3
  else
  f_X9_luck_146 (f_X9_luck_75 n) v0 v2 v3 v4 v5 v6 v7 v8 h3
  else
  f_X9_luck_146 (f_X9_luck_75 n) v0 v2 v3 v4 v5 v6 v7 v8 h
set_option maxRecDepth 100000 in
set_option maxHeartbeats 4000000 in
theorem zb_X9_luck_75 (Y : zY) : ∀ (n : Nat) (v0 : Nat) (v2 : Int32) (v3 : Int32) (v4 : Int32) (v5 : Int32) (v6 : Int32) (v7 : Int32) (v8 : Int32) (h : zH), Z Y M_X9_luck 0 0 75 [(0, .ref v0), (2, .int v2), (3, .int v3), (4, .int v4), (5, .int v5), (6, .int v6), (7, .int v7), (8, .int v8)] [] h (f_X9_luck_75 n v0 v2 v3 v4 v5 v6 v7 v8 h) := by
  intro n
  induction n with
  | zero =>
    intro v0 v2 v3 v4 v5 v6 v7 v8 h
    rw [f_X9_luck_75]
    exact z_none
  | succ n ih =>
    intro v0 v2 v3 v4 v5 v6 v7 v8 h
    rw [f_X9_luck_75]
    refine z_iload 7 (zat dd_X9_luck 41 rfl) rfl ?_
    refine z_sipush (x := 256) (zat dd_X9_luck 42 rfl) (by decide) ?_
    refine z_icmp_ge (tgt := 152) (zat dd_X9_luck 43 rfl) (by decide) ?_ ?_
    · refine z_aload_n 0 (zat dd_X9_luck 77 rfl) rfl rfl ?_
      refine z_iload 5 (zat dd_X9_luck 78 rfl) rfl ?_
      refine z_iload 6 (zat dd_X9_luck 79 rfl) rfl ?_
      refine z_callV_V0 (M2 := M_X9_setFraction) [.int v6, .int v7] (fun l D _ _ => m_X9_setFraction l D v0 v6 v7 h) u_X9_setFraction ql_X9_238 qi_X9_setFraction qs_X9_setFraction (ci := 5) rfl rfl rfl (Nat.le_of_ble_eq_true rfl) (by decide) rfl rfl (zat dd_X9_luck 80 rfl) (fun h1 => ?_)
      refine z_iconst (x := 1) (zat dd_X9_luck 81 rfl) (by decide) ?_
      exact z_iret rfl (zat dd_X9_luck 82 rfl)
    · refine z_iload 7 (zat dd_X9_luck 44 rfl) rfl ?_
      refine z_iload_n 2 (zat dd_X9_luck 45 rfl) rfl rfl ?_
      refine z_iconst (x := (-1)) (zat dd_X9_luck 46 rfl) (by decide) ?_
      refine z_ixor (zat dd_X9_luck 47 rfl) ?_
      refine z_iand (zat dd_X9_luck 48 rfl) ?_
      refine z_if_ne (tgt := 146) (zat dd_X9_luck 49 rfl) (by decide) ?_ ?_
      · exact zb_X9_luck_146 Y (f_X9_luck_75 n) ih v0 v2 v3 v4 v5 v6 v7 v8 h
      · refine z_iload 7 (zat dd_X9_luck 50 rfl) rfl ?_
        refine z_callS_I0 (M2 := M_J6_bitCount_0f7a4) [.int v8] (fun l D _ _ => m_J6_bitCount_0f7a4 l D v8 h) u_J6_bitCount_0f7a4 ql_X9_169 qi_J6_bitCount_0f7a4 rfl rfl (Nat.le_of_ble_eq_true rfl) (by decide) rfl rfl (zat dd_X9_luck 51 rfl) (fun x2 h3 => ?_)
        refine z_iload 4 (zat dd_X9_luck 52 rfl) rfl ?_
        refine z_icmp_ne (tgt := 146) (zat dd_X9_luck 53 rfl) (by decide) ?_ ?_
        · exact zb_X9_luck_146 Y (f_X9_luck_75 n) ih v0 v2 v3 v4 v5 v6 v7 v8 h3
        · refine z_iinc (y := v7 + 1) (lv' := [(7, .int (v7 + 1)), (0, .ref v0), (2, .int v2), (3, .int v3), (4, .int v4), (5, .int v5), (6, .int v6), (8, .int v8)]) 6 (zat dd_X9_luck 54 rfl) rfl rfl (Nat.le_of_ble_eq_true rfl) rfl ?_
          refine z_iload 7 (zat dd_X9_luck 55 rfl) rfl ?_
          refine z_iload 4 (zat dd_X9_luck 56 rfl) rfl ?_
          refine z_iconst (x := (-1)) (zat dd_X9_luck 57 rfl) (by decide) ?_
          refine z_ixor (zat dd_X9_luck 58 rfl) ?_
          refine z_iand (zat dd_X9_luck 59 rfl) ?_
          refine z_if_ne (tgt := 146) (zat dd_X9_luck 60 rfl) (by decide) ?_ ?_
          · refine z_sub [1, 2, 3, 4, 5, 6, 0, 7] rfl ?_
            exact zb_X9_luck_146 Y (f_X9_luck_75 n) ih v0 v2 v3 v4 v5 v6 (v7 + 1) v8 h3
          · refine z_aload_n 1 (zat dd_X9_luck 61 rfl) rfl rfl ?_
            refine z_getR fl_X9_12 (zat dd_X9_luck 62 rfl) (fun a4 => ?_)
            refine z_iload 7 (zat dd_X9_luck 63 rfl) rfl ?_
            refine z_iload_n 2 (zat dd_X9_luck 64 rfl) rfl rfl ?_
            refine z_ior (zat dd_X9_luck 65 rfl) ?_
            refine z_callV_I0 (M2 := M_X1_spotsOfSet) [.int (v8 ||| v2)] (fun l D _ _ => m_X1_spotsOfSet l D a4 (v8 ||| v2) h3) u_X1_spotsOfSet ql_X9_232 qi_X1_spotsOfSet qs_X1_spotsOfSet (ci := 0) rfl rfl rfl (Nat.le_of_ble_eq_true rfl) (by decide) rfl rfl (zat dd_X9_luck 66 rfl) (fun x5 h6 => ?_)
            refine z_bipush (x := 15) (zat dd_X9_luck 67 rfl) (by decide) ?_
            refine z_icmp_ne (tgt := 146) (zat dd_X9_luck 68 rfl) (by decide) ?_ ?_
            · refine z_sub [1, 2, 3, 4, 5, 6, 0, 7] rfl ?_
              exact zb_X9_luck_146 Y (f_X9_luck_75 n) ih v0 v2 v3 v4 v5 v6 (v7 + 1) v8 h6
            · refine z_aload_n 1 (zat dd_X9_luck 69 rfl) rfl rfl ?_
              refine z_getR fl_X9_12 (zat dd_X9_luck 70 rfl) (fun a7 => ?_)
              refine z_iload 7 (zat dd_X9_luck 71 rfl) rfl ?_
              refine z_callV_I0 (M2 := M_X1_allMatch) [.int v8] (fun l D _ _ => m_X1_allMatch l D a7 v8 h6) u_X1_allMatch ql_X9_235 qi_X1_allMatch qs_X1_allMatch (ci := 0) rfl rfl rfl (Nat.le_of_ble_eq_true rfl) (by decide) rfl rfl (zat dd_X9_luck 72 rfl) (fun x8 h9 => ?_)
              refine z_if_eq (tgt := 146) (zat dd_X9_luck 73 rfl) (by decide) ?_ ?_
              · refine z_sub [1, 2, 3, 4, 5, 6, 0, 7] rfl ?_
                exact zb_X9_luck_146 Y (f_X9_luck_75 n) ih v0 v2 v3 v4 v5 v6 (v7 + 1) v8 h9
              · refine z_iinc (y := v6 + 1) (lv' := [(6, .int (v6 + 1)), (7, .int (v7 + 1)), (0, .ref v0), (2, .int v2), (3, .int v3), (4, .int v4), (5, .int v5), (8, .int v8)]) 6 (zat dd_X9_luck 74 rfl) rfl rfl (Nat.le_of_ble_eq_true rfl) rfl ?_
                refine z_sub [2, 3, 4, 5, 6, 0, 1, 7] rfl ?_
                exact zb_X9_luck_146 Y (f_X9_luck_75 n) ih v0 v2 v3 v4 v5 (v6 + 1) (v7 + 1) v8 h9
def f_X9_luck (v0 : Nat) (v1 : Int32) (h : zH) : zR :=
  zcI (f_X9_within v1 0 4 h) fun x1 h2 =>
  if x1 = 0 then
  zoc h2 v0 5 <|
  zcI (f_X9_refuse v0 (-102) h2) fun x19 h20 =>
  zrI x19 h20
  else
  zgR h2 v0 5 0 fun a3 =>
  zgR h2 a3 0 5 fun a4 =>
  zoc h2 a4 4 <|
  zcI (f_X8_onSet a4 h2) fun x5 h6 =>
  zgR h6 v0 5 0 fun a7 =>
  zoc h6 a7 0 <|
  zcI (f_X1_allPieces a7 h6) fun x8 h9 =>
  zlt (x8 &&& (x5 ^^^ (-1))) fun x10 =>
  zgR h9 v0 5 0 fun a11 =>
  zgR h9 v0 5 0 fun a12 =>
  zgR h9 a12 0 5 fun a13 =>
  zoc h9 a11 0 <|
  zcI (f_X1_setThatMay a11 a13 0 h9) fun x14 h15 =>
  zcI (f_J6_bitCount_0f7a4 x10 h15) fun x16 h17 =>
  zlt (if x16 < v1 then x16 else v1) fun x18 =>
  f_X9_luck_75 zF v0 x5 x10 x14 x18 0 0 0 h17
set_option maxRecDepth 100000 in
set_option maxHeartbeats 4000000 in
theorem m_X9_luck (l : Launch) (D : zD) (v0 : Nat) (v1 : Int32) (h : zH) : zMet l D yX9_luck M_X9_luck [.ref v0, .int v1] h (f_X9_luck v0 v1 h) := by
  refine zMet.of (by decide +kernel) ⟨rfl, rfl⟩ (Nat.le_of_ble_eq_true rfl) (fun Y hl hD => ?_)
  show Z Y M_X9_luck 0 0 0 [(0, .ref v0), (1, .int v1)] [] h _
  rw [f_X9_luck]
  refine z_iload_n 1 (zat dd_X9_luck 0 rfl) rfl rfl ?_
  refine z_iconst (x := 0) (zat dd_X9_luck 1 rfl) (by decide) ?_
  refine z_iconst (x := 4) (zat dd_X9_luck 2 rfl) (by decide) ?_
  refine z_callS_I0 (M2 := M_X9_within) [.int v1, .int 0, .int 4] (fun l D _ _ => m_X9_within l D v1 0 4 h) u_X9_within ql_X9_63 qi_X9_within rfl rfl (Nat.le_of_ble_eq_true rfl) (by decide) rfl rfl (zat dd_X9_luck 3 rfl) (fun x1 h2 => ?_)
  refine z_if_ne (tgt := 16) (zat dd_X9_luck 4 rfl) (by decide) ?_ ?_
  · refine z_aload_n 0 (zat dd_X9_luck 9 rfl) rfl rfl ?_
    refine z_getR fl_X9_12 (zat dd_X9_luck 10 rfl) (fun a3 => ?_)
    refine z_getR fl_X9_108 (zat dd_X9_luck 11 rfl) (fun a4 => ?_)
    refine z_callV_I0 (M2 := M_X8_onSet) [] (fun l D _ _ => m_X8_onSet l D a4 h2) u_X8_onSet ql_X9_218 qi_X8_onSet qs_X8_onSet (ci := 4) rfl rfl rfl (Nat.le_of_ble_eq_true rfl) (by decide) rfl rfl (zat dd_X9_luck 12 rfl) (fun x5 h6 => ?_)
    refine z_istore_n (lv' := [(2, .int x5), (0, .ref v0), (1, .int v1)]) (zat dd_X9_luck 13 rfl) rfl (Nat.le_of_ble_eq_true rfl) rfl ?_
    refine z_aload_n 1 (zat dd_X9_luck 14 rfl) rfl rfl ?_
    refine z_getR fl_X9_12 (zat dd_X9_luck 15 rfl) (fun a7 => ?_)
    refine z_callV_I0 (M2 := M_X1_allPieces) [] (fun l D _ _ => m_X1_allPieces l D a7 h6) u_X1_allPieces ql_X9_177 qi_X1_allPieces qs_X1_allPieces (ci := 0) rfl rfl rfl (Nat.le_of_ble_eq_true rfl) (by decide) rfl rfl (zat dd_X9_luck 16 rfl) (fun x8 h9 => ?_)
    refine z_iload_n 0 (zat dd_X9_luck 17 rfl) rfl rfl ?_
    refine z_iconst (x := (-1)) (zat dd_X9_luck 18 rfl) (by decide) ?_
    refine z_ixor (zat dd_X9_luck 19 rfl) ?_
    refine z_iand (zat dd_X9_luck 20 rfl) ?_
    refine z_let (fun x10 => ?_)
    refine z_istore_n (lv' := [(3, .int x10), (2, .int x5), (0, .ref v0), (1, .int v1)]) (zat dd_X9_luck 21 rfl) rfl (Nat.le_of_ble_eq_true rfl) rfl ?_
    refine z_aload_n 2 (zat dd_X9_luck 22 rfl) rfl rfl ?_
    refine z_getR fl_X9_12 (zat dd_X9_luck 23 rfl) (fun a11 => ?_)
    refine z_aload_n 2 (zat dd_X9_luck 24 rfl) rfl rfl ?_
    refine z_getR fl_X9_12 (zat dd_X9_luck 25 rfl) (fun a12 => ?_)
    refine z_getR fl_X9_108 (zat dd_X9_luck 26 rfl) (fun a13 => ?_)
    refine z_iconst (x := 0) (zat dd_X9_luck 27 rfl) (by decide) ?_
    refine z_callV_I0 (M2 := M_X1_setThatMay) [.ref a13, .int 0] (fun l D _ _ => m_X1_setThatMay l D a11 a13 0 h9) u_X1_setThatMay ql_X9_150 qi_X1_setThatMay qs_X1_setThatMay (ci := 0) rfl rfl rfl (Nat.le_of_ble_eq_true rfl) (by decide) rfl rfl (zat dd_X9_luck 28 rfl) (fun x14 h15 => ?_)
    refine z_istore (lv' := [(4, .int x14), (3, .int x10), (2, .int x5), (0, .ref v0), (1, .int v1)]) (zat dd_X9_luck 29 rfl) (Nat.le_of_ble_eq_true rfl) rfl ?_
    refine z_iload_n 4 (zat dd_X9_luck 30 rfl) rfl rfl ?_
    refine z_iload_n 1 (zat dd_X9_luck 31 rfl) rfl rfl ?_
    refine z_callS_I0 (M2 := M_J6_bitCount_0f7a4) [.int x10] (fun l D _ _ => m_J6_bitCount_0f7a4 l D x10 h15) u_J6_bitCount_0f7a4 ql_X9_169 qi_J6_bitCount_0f7a4 rfl rfl (Nat.le_of_ble_eq_true rfl) (by decide) rfl rfl (zat dd_X9_luck 32 rfl) (fun x16 h17 => ?_)
    refine z_mmin ql_X9_227 qm_min1 qm_2 qm_min3 (Nat.le_of_ble_eq_true rfl) (zat dd_X9_luck 33 rfl) ?_
    refine z_let (fun x18 => ?_)
    refine z_istore (lv' := [(5, .int x18), (4, .int x14), (3, .int x10), (2, .int x5), (0, .ref v0), (1, .int v1)]) (zat dd_X9_luck 34 rfl) (Nat.le_of_ble_eq_true rfl) rfl ?_
    refine z_iconst (x := 0) (zat dd_X9_luck 35 rfl) (by decide) ?_
    refine z_istore (lv' := [(6, .int 0), (5, .int x18), (4, .int x14), (3, .int x10), (2, .int x5), (0, .ref v0), (1, .int v1)]) (zat dd_X9_luck 36 rfl) (Nat.le_of_ble_eq_true rfl) rfl ?_
    refine z_iconst (x := 0) (zat dd_X9_luck 37 rfl) (by decide) ?_
    refine z_istore (lv' := [(7, .int 0), (6, .int 0), (5, .int x18), (4, .int x14), (3, .int x10), (2, .int x5), (0, .ref v0), (1, .int v1)]) (zat dd_X9_luck 38 rfl) (Nat.le_of_ble_eq_true rfl) rfl ?_
    refine z_iconst (x := 0) (zat dd_X9_luck 39 rfl) (by decide) ?_
    refine z_istore (lv' := [(8, .int 0), (7, .int 0), (6, .int 0), (5, .int x18), (4, .int x14), (3, .int x10), (2, .int x5), (0, .ref v0), (1, .int v1)]) (zat dd_X9_luck 40 rfl) (Nat.le_of_ble_eq_true rfl) rfl ?_
    refine z_sub [7, 6, 5, 4, 3, 2, 1, 0] rfl ?_
    exact zb_X9_luck_75 Y zF v0 x5 x10 x14 x18 0 0 0 h17
  · refine z_aload_n 0 (zat dd_X9_luck 5 rfl) rfl rfl ?_
    refine z_bipush (x := (-102)) (zat dd_X9_luck 6 rfl) (by decide) ?_
    refine z_callV_I0 (M2 := M_X9_refuse) [.int (-102)] (fun l D _ _ => m_X9_refuse l D v0 (-102) h2) u_X9_refuse ql_X9_67 qi_X9_refuse qs_X9_refuse (ci := 5) rfl rfl rfl (Nat.le_of_ble_eq_true rfl) (by decide) rfl rfl (zat dd_X9_luck 7 rfl) (fun x19 h20 => ?_)
    exact z_iret rfl (zat dd_X9_luck 8 rfl)
/-! PaperDolls.evenings(II)I -/
def L_X9_evenings : List (Nat × Instr × Nat) := [(0, .iload_n 1, 1), (1, .iconst 0, 1), (2, .ldc 241, 2), (4, .invokestatic 63, 3), (7, .ifCond .eq 13, 3), (10, .iload_n 2, 1), (11, .iconst 0, 1), (12, .bipush 60, 2), (14, .invokestatic 63, 3), (17, .ifCond .ne 10, 3), (20, .aload_n 0, 1), (21, .bipush (-102), 2), (23, .invokevirtual 67, 3), (26, .ireturn, 1), (27, .aload_n 0, 1), (28, .getfield 30, 3), (31, .aload_n 0, 1), (32, .getfield 12, 3), (35, .getfield 108, 3), (38, .invokevirtual 242, 3), (41, .iload_n 1, 1), (42, .i2l, 1), (43, .lstore_n 3, 1), (44, .iconst 0, 1), (45, .istore 5, 2), (47, .iconst 0, 1), (48, .istore 6, 2), (50, .iload 6, 2), (52, .iload_n 2, 1), (53, .if_icmp .ge 61, 3), (56, .lload_n 3, 1), (57, .ldc2_w 245, 3), (60, .lmul, 1), (61, .ldc2_w 247, 3), (64, .ladd, 1), (65, .ldc2_w 249, 3), (68, .lrem, 1), (69, .lstore_n 3, 1), (70, .aload_n 0, 1), (71, .getfield 12, 3), (74, .aload_n 0, 1), (75, .getfield 30, 3), (78, .lload_n 3, 1), (79, .ldc2_w 251, 3), (82, .ldiv, 1), (83, .ldc2_w 253, 3), (86, .lrem, 1), (87, .l2i, 1), (88, .invokevirtual 255, 3), (91, .aload_n 0, 1), (92, .getfield 12, 3), (95, .aload_n 0, 1), (96, .getfield 30, 3), (99, .invokevirtual 259, 3), (102, .ifCond .eq 6, 3), (105, .iinc 5 1, 3), (108, .iinc 6 1, 3), (111, .goto (-61), 3), (114, .iload 5, 2), (116, .ireturn, 1)]
theorem dd_X9_evenings : ∀ q ∈ L_X9_evenings, decode cX9_evenings q.1 = .ok q.2 := by decide +kernel
abbrev M_X9_evenings : zM := (cX9_evenings, RX9, "evenings", 7, some .int, 5, 0, 0)
theorem u_X9_evenings : zCal yX9_evenings (M_X9_evenings) 2 := ⟨(zmem 748 (by decide +kernel) rfl : Cond.code yX9_evenings cX9_evenings 7 (some .int) ∈ zTb), zmem 57 (by decide +kernel) rfl, by decide +kernel, Nat.le_of_ble_eq_true rfl⟩
theorem qi_X9_evenings : Cond.instanceMethod yX9_evenings ∈ zTb := zmem 746 (by decide +kernel) rfl
theorem qs_X9_evenings : Cond.selects yX9_evenings.cls yX9_evenings yX9_evenings ∈ zTb := zmem 747 (by decide +kernel) rfl
def f_X9_evenings_108 (k50 : Nat → Int32 → Int64 → Int32 → Int32 → zH → zR) (v0 : Nat) (v2 : Int32) (v3 : Int64) (v5 : Int32) (v6 : Int32) (h : zH) : zR :=
  k50 v0 v2 v3 v5 (v6 + 1) h
set_option maxRecDepth 100000 in
set_option maxHeartbeats 4000000 in
theorem zb_X9_evenings_108 (Y : zY) (k50 : Nat → Int32 → Int64 → Int32 → Int32 → zH → zR) (hk50 : ∀ (v0 : Nat) (v2 : Int32) (v3 : Int64) (v5 : Int32) (v6 : Int32) (h : zH), Z Y M_X9_evenings 0 0 50 [(0, .ref v0), (2, .int v2), (3, .long v3), (5, .int v5), (6, .int v6)] [] h (k50 v0 v2 v3 v5 v6 h)) (v0 : Nat) (v2 : Int32) (v3 : Int64) (v5 : Int32) (v6 : Int32) (h : zH) : Z Y M_X9_evenings 0 0 108 [(0, .ref v0), (2, .int v2), (3, .long v3), (5, .int v5), (6, .int v6)] [] h (f_X9_evenings_108 k50 v0 v2 v3 v5 v6 h) := by
  rw [f_X9_evenings_108]
  refine z_iinc (y := v6 + 1) (lv' := [(6, .int (v6 + 1)), (0, .ref v0), (2, .int v2), (3, .long v3), (5, .int v5)]) 4 (zat dd_X9_evenings 56 rfl) rfl rfl (Nat.le_of_ble_eq_true rfl) rfl ?_
  refine z_goto (tgt := 50) (zat dd_X9_evenings 57 rfl) (by decide) ?_
  refine z_sub [1, 2, 3, 4, 0] rfl ?_
  exact hk50 v0 v2 v3 v5 (v6 + 1) h
def f_X9_evenings_50 : Nat → Nat → Int32 → Int64 → Int32 → Int32 → zH → zR
  | 0, _, _, _, _, _, _ => none
  | n + 1, v0, v2, v3, v5, v6, h =>
  if v2 ≤ v6 then
  zrI v5 h
  else
  zdvJ 2147483648 <|
  zlt (((v3 * 1103515245) + 12345) - ((v3 * 1103515245) + 12345) / 2147483648 * 2147483648) fun x1 =>
  zgR h v0 5 0 fun a2 =>
  zgR h v0 5 4 fun a3 =>
  zdvJ 65536 <|
  zdvJ 8 <|
  zoc h a2 0 <|
  zcV (f_X1_playWith a2 a3 (((x1 / 65536) - (x1 / 65536) / 8 * 8 : Int64).toInt32) h) fun h4 =>
  zgR h4 v0 5 0 fun a5 =>
  zgR h4 v0 5 4 fun a6 =>
  zoc h4 a5 0 <|
  zcI (f_X1_isDressed a5 a6 h4) fun x7 h8 =>
  if x7 = 0 then
  f_X9_evenings_108 (f_X9_evenings_50 n) v0 v2 x1 v5 v6 h8
  else
  f_X9_evenings_108 (f_X9_evenings_50 n) v0 v2 x1 (v5 + 1) v6 h8
set_option maxRecDepth 100000 in
set_option maxHeartbeats 4000000 in
theorem zb_X9_evenings_50 (Y : zY) : ∀ (n : Nat) (v0 : Nat) (v2 : Int32) (v3 : Int64) (v5 : Int32) (v6 : Int32) (h : zH), Z Y M_X9_evenings 0 0 50 [(0, .ref v0), (2, .int v2), (3, .long v3), (5, .int v5), (6, .int v6)] [] h (f_X9_evenings_50 n v0 v2 v3 v5 v6 h) := by
  intro n
  induction n with
  | zero =>
    intro v0 v2 v3 v5 v6 h
    rw [f_X9_evenings_50]
    exact z_none
  | succ n ih =>
    intro v0 v2 v3 v5 v6 h
    rw [f_X9_evenings_50]
    refine z_iload 4 (zat dd_X9_evenings 27 rfl) rfl ?_
    refine z_iload_n 1 (zat dd_X9_evenings 28 rfl) rfl rfl ?_
    refine z_icmp_ge (tgt := 114) (zat dd_X9_evenings 29 rfl) (by decide) ?_ ?_
    · refine z_iload 3 (zat dd_X9_evenings 58 rfl) rfl ?_
      exact z_iret rfl (zat dd_X9_evenings 59 rfl)
    · refine z_lload_n 2 (zat dd_X9_evenings 30 rfl) rfl rfl ?_
      refine z_ldc2 (x := 1103515245) qk_X9_245 (zat dd_X9_evenings 31 rfl) ?_
      refine z_lmul (zat dd_X9_evenings 32 rfl) ?_
      refine z_ldc2 (x := 12345) qk_X9_247 (zat dd_X9_evenings 33 rfl) ?_
      refine z_ladd (zat dd_X9_evenings 34 rfl) ?_
      refine z_ldc2 (x := 2147483648) qk_X9_249 (zat dd_X9_evenings 35 rfl) ?_
      refine z_lrem (zat dd_X9_evenings 36 rfl) ?_
      refine z_letJ (fun x1 => ?_)
      refine z_lstore_n (lv' := [(3, .long x1), (0, .ref v0), (2, .int v2), (5, .int v5), (6, .int v6)]) (zat dd_X9_evenings 37 rfl) rfl (Nat.le_of_ble_eq_true rfl) rfl ?_
      refine z_aload_n 1 (zat dd_X9_evenings 38 rfl) rfl rfl ?_
      refine z_getR fl_X9_12 (zat dd_X9_evenings 39 rfl) (fun a2 => ?_)
      refine z_aload_n 1 (zat dd_X9_evenings 40 rfl) rfl rfl ?_
      refine z_getR fl_X9_30 (zat dd_X9_evenings 41 rfl) (fun a3 => ?_)
      refine z_lload_n 0 (zat dd_X9_evenings 42 rfl) rfl rfl ?_
      refine z_ldc2 (x := 65536) qk_X9_251 (zat dd_X9_evenings 43 rfl) ?_
      refine z_ldiv (zat dd_X9_evenings 44 rfl) ?_
      refine z_ldc2 (x := 8) qk_X9_253 (zat dd_X9_evenings 45 rfl) ?_
      refine z_lrem (zat dd_X9_evenings 46 rfl) ?_
      refine z_l2i (zat dd_X9_evenings 47 rfl) ?_
      refine z_callV_V0 (M2 := M_X1_playWith) [.ref a3, .int (((x1 / 65536) - (x1 / 65536) / 8 * 8 : Int64).toInt32)] (fun l D _ _ => m_X1_playWith l D a2 a3 (((x1 / 65536) - (x1 / 65536) / 8 * 8 : Int64).toInt32) h) u_X1_playWith ql_X9_255 qi_X1_playWith qs_X1_playWith (ci := 0) rfl rfl rfl (Nat.le_of_ble_eq_true rfl) (by decide) rfl rfl (zat dd_X9_evenings 48 rfl) (fun h4 => ?_)
      refine z_aload_n 1 (zat dd_X9_evenings 49 rfl) rfl rfl ?_
      refine z_getR fl_X9_12 (zat dd_X9_evenings 50 rfl) (fun a5 => ?_)
      refine z_aload_n 1 (zat dd_X9_evenings 51 rfl) rfl rfl ?_
      refine z_getR fl_X9_30 (zat dd_X9_evenings 52 rfl) (fun a6 => ?_)
      refine z_callV_I0 (M2 := M_X1_isDressed) [.ref a6] (fun l D _ _ => m_X1_isDressed l D a5 a6 h4) u_X1_isDressed ql_X9_259 qi_X1_isDressed qs_X1_isDressed (ci := 0) rfl rfl rfl (Nat.le_of_ble_eq_true rfl) (by decide) rfl rfl (zat dd_X9_evenings 53 rfl) (fun x7 h8 => ?_)
      refine z_if_eq (tgt := 108) (zat dd_X9_evenings 54 rfl) (by decide) ?_ ?_
      · refine z_sub [1, 2, 0, 3, 4] rfl ?_
        exact zb_X9_evenings_108 Y (f_X9_evenings_50 n) ih v0 v2 x1 v5 v6 h8
      · refine z_iinc (y := v5 + 1) (lv' := [(5, .int (v5 + 1)), (3, .long x1), (0, .ref v0), (2, .int v2), (6, .int v6)]) 3 (zat dd_X9_evenings 55 rfl) rfl rfl (Nat.le_of_ble_eq_true rfl) rfl ?_
        refine z_sub [2, 3, 1, 0, 4] rfl ?_
        exact zb_X9_evenings_108 Y (f_X9_evenings_50 n) ih v0 v2 x1 (v5 + 1) v6 h8
def f_X9_evenings_20 (v0 : Nat) (h : zH) : zR :=
  zoc h v0 5 <|
  zcI (f_X9_refuse v0 (-102) h) fun x1 h2 =>
  zrI x1 h2
set_option maxRecDepth 100000 in
set_option maxHeartbeats 4000000 in
theorem zb_X9_evenings_20 (Y : zY) (v0 : Nat) (h : zH) : Z Y M_X9_evenings 0 0 20 [(0, .ref v0)] [] h (f_X9_evenings_20 v0 h) := by
  rw [f_X9_evenings_20]
  refine z_aload_n 0 (zat dd_X9_evenings 10 rfl) rfl rfl ?_
  refine z_bipush (x := (-102)) (zat dd_X9_evenings 11 rfl) (by decide) ?_
  refine z_callV_I0 (M2 := M_X9_refuse) [.int (-102)] (fun l D _ _ => m_X9_refuse l D v0 (-102) h) u_X9_refuse ql_X9_67 qi_X9_refuse qs_X9_refuse (ci := 5) rfl rfl rfl (Nat.le_of_ble_eq_true rfl) (by decide) rfl rfl (zat dd_X9_evenings 12 rfl) (fun x1 h2 => ?_)
  exact z_iret rfl (zat dd_X9_evenings 13 rfl)
def f_X9_evenings (v0 : Nat) (v1 : Int32) (v2 : Int32) (h : zH) : zR :=
  zcI (f_X9_within v1 0 999999 h) fun x1 h2 =>
  if x1 = 0 then
  f_X9_evenings_20 v0 h2
  else
  zcI (f_X9_within v2 0 60 h2) fun x3 h4 =>
  if x3 = 0 then
  f_X9_evenings_20 v0 h4
  else
  zgR h4 v0 5 4 fun a5 =>
  zgR h4 v0 5 0 fun a6 =>
  zgR h4 a6 0 5 fun a7 =>
  zoc h4 a5 4 <|
  zcV (f_X8_copyFrom a5 a7 h4) fun h8 =>
  zlt ((v1 : Int32).toInt64) fun x9 =>
  f_X9_evenings_50 zF v0 v2 x9 0 0 h8
set_option maxRecDepth 100000 in
set_option maxHeartbeats 4000000 in
theorem m_X9_evenings (l : Launch) (D : zD) (v0 : Nat) (v1 : Int32) (v2 : Int32) (h : zH) : zMet l D yX9_evenings M_X9_evenings [.ref v0, .int v1, .int v2] h (f_X9_evenings v0 v1 v2 h) := by
  refine zMet.of (by decide +kernel) ⟨rfl, rfl⟩ (Nat.le_of_ble_eq_true rfl) (fun Y hl hD => ?_)
  show Z Y M_X9_evenings 0 0 0 [(0, .ref v0), (1, .int v1), (2, .int v2)] [] h _
  rw [f_X9_evenings]
  refine z_iload_n 1 (zat dd_X9_evenings 0 rfl) rfl rfl ?_
  refine z_iconst (x := 0) (zat dd_X9_evenings 1 rfl) (by decide) ?_
  refine z_ldc (x := 999999) qk_X9_241 (zat dd_X9_evenings 2 rfl) ?_
  refine z_callS_I0 (M2 := M_X9_within) [.int v1, .int 0, .int 999999] (fun l D _ _ => m_X9_within l D v1 0 999999 h) u_X9_within ql_X9_63 qi_X9_within rfl rfl (Nat.le_of_ble_eq_true rfl) (by decide) rfl rfl (zat dd_X9_evenings 3 rfl) (fun x1 h2 => ?_)
  refine z_if_eq (tgt := 20) (zat dd_X9_evenings 4 rfl) (by decide) ?_ ?_
  · refine z_sub [0] rfl ?_
    exact zb_X9_evenings_20 Y v0 h2
  · refine z_iload_n 2 (zat dd_X9_evenings 5 rfl) rfl rfl ?_
    refine z_iconst (x := 0) (zat dd_X9_evenings 6 rfl) (by decide) ?_
    refine z_bipush (x := 60) (zat dd_X9_evenings 7 rfl) (by decide) ?_
    refine z_callS_I0 (M2 := M_X9_within) [.int v2, .int 0, .int 60] (fun l D _ _ => m_X9_within l D v2 0 60 h2) u_X9_within ql_X9_63 qi_X9_within rfl rfl (Nat.le_of_ble_eq_true rfl) (by decide) rfl rfl (zat dd_X9_evenings 8 rfl) (fun x3 h4 => ?_)
    refine z_if_ne (tgt := 27) (zat dd_X9_evenings 9 rfl) (by decide) ?_ ?_
    · refine z_aload_n 0 (zat dd_X9_evenings 14 rfl) rfl rfl ?_
      refine z_getR fl_X9_30 (zat dd_X9_evenings 15 rfl) (fun a5 => ?_)
      refine z_aload_n 0 (zat dd_X9_evenings 16 rfl) rfl rfl ?_
      refine z_getR fl_X9_12 (zat dd_X9_evenings 17 rfl) (fun a6 => ?_)
      refine z_getR fl_X9_108 (zat dd_X9_evenings 18 rfl) (fun a7 => ?_)
      refine z_callV_V0 (M2 := M_X8_copyFrom) [.ref a7] (fun l D _ _ => m_X8_copyFrom l D a5 a7 h4) u_X8_copyFrom ql_X9_242 qi_X8_copyFrom qs_X8_copyFrom (ci := 4) rfl rfl rfl (Nat.le_of_ble_eq_true rfl) (by decide) rfl rfl (zat dd_X9_evenings 19 rfl) (fun h8 => ?_)
      refine z_iload_n 1 (zat dd_X9_evenings 20 rfl) rfl rfl ?_
      refine z_i2l (zat dd_X9_evenings 21 rfl) ?_
      refine z_letJ (fun x9 => ?_)
      refine z_lstore_n (lv' := [(3, .long x9), (0, .ref v0), (1, .int v1), (2, .int v2)]) (zat dd_X9_evenings 22 rfl) rfl (Nat.le_of_ble_eq_true rfl) rfl ?_
      refine z_iconst (x := 0) (zat dd_X9_evenings 23 rfl) (by decide) ?_
      refine z_istore (lv' := [(5, .int 0), (3, .long x9), (0, .ref v0), (1, .int v1), (2, .int v2)]) (zat dd_X9_evenings 24 rfl) (Nat.le_of_ble_eq_true rfl) rfl ?_
      refine z_iconst (x := 0) (zat dd_X9_evenings 25 rfl) (by decide) ?_
      refine z_istore (lv' := [(6, .int 0), (5, .int 0), (3, .long x9), (0, .ref v0), (1, .int v1), (2, .int v2)]) (zat dd_X9_evenings 26 rfl) (Nat.le_of_ble_eq_true rfl) rfl ?_
      refine z_sub [3, 5, 2, 1, 0] rfl ?_
      exact zb_X9_evenings_50 Y zF v0 v2 x9 0 0 h8
    · refine z_sub [0] rfl ?_
      exact zb_X9_evenings_20 Y v0 h4
/-! PaperDolls.part(I)J -/
def L_X9_part : List (Nat × Instr × Nat) := [(0, .iload_n 1, 1), (1, .iconst 0, 1), (2, .iconst 1, 1), (3, .invokestatic 63, 3), (6, .ifCond .ne 11, 3), (9, .aload_n 0, 1), (10, .bipush (-102), 2), (12, .invokevirtual 67, 3), (15, .i2l, 1), (16, .lreturn, 1), (17, .iload_n 1, 1), (18, .ifCond .ne 10, 3), (21, .aload_n 0, 1), (22, .getfield 263, 3), (25, .goto 7, 3), (28, .aload_n 0, 1), (29, .getfield 59, 3), (32, .lreturn, 1)]
theorem dd_X9_part : ∀ q ∈ L_X9_part, decode cX9_part q.1 = .ok q.2 := by decide +kernel
abbrev M_X9_part : zM := (cX9_part, RX9, "part", 2, some .long, 1, 0, 0)
theorem u_X9_part : zCal yX9_part (M_X9_part) 1 := ⟨(zmem 764 (by decide +kernel) rfl : Cond.code yX9_part cX9_part 2 (some .long) ∈ zTb), zmem 57 (by decide +kernel) rfl, by decide +kernel, Nat.le_of_ble_eq_true rfl⟩
theorem qi_X9_part : Cond.instanceMethod yX9_part ∈ zTb := zmem 762 (by decide +kernel) rfl
theorem qs_X9_part : Cond.selects yX9_part.cls yX9_part yX9_part ∈ zTb := zmem 763 (by decide +kernel) rfl
def f_X9_part_32 (t0 : Int64) (h : zH) : zR :=
  zrJ t0 h
set_option maxRecDepth 100000 in
set_option maxHeartbeats 4000000 in
theorem zb_X9_part_32 (Y : zY) (t0 : Int64) (h : zH) : Z Y M_X9_part 0 0 32 [] [.long t0] h (f_X9_part_32 t0 h) := by
  rw [f_X9_part_32]
  exact z_lret rfl (zat dd_X9_part 17 rfl)
def f_X9_part (v0 : Nat) (v1 : Int32) (h : zH) : zR :=
  zcI (f_X9_within v1 0 1 h) fun x1 h2 =>
  if x1 = 0 then
  zoc h2 v0 5 <|
  zcI (f_X9_refuse v0 (-102) h2) fun x5 h6 =>
  zrJ ((x5 : Int32).toInt64) h6
  else
  if v1 = 0 then
  zgJ h2 v0 5 10 fun x4 =>
  f_X9_part_32 x4 h2
  else
  zgJ h2 v0 5 11 fun x3 =>
  f_X9_part_32 x3 h2
set_option maxRecDepth 100000 in
set_option maxHeartbeats 4000000 in
theorem m_X9_part (l : Launch) (D : zD) (v0 : Nat) (v1 : Int32) (h : zH) : zMet l D yX9_part M_X9_part [.ref v0, .int v1] h (f_X9_part v0 v1 h) := by
  refine zMet.of (by decide +kernel) ⟨rfl, rfl⟩ (Nat.le_of_ble_eq_true rfl) (fun Y hl hD => ?_)
  show Z Y M_X9_part 0 0 0 [(0, .ref v0), (1, .int v1)] [] h _
  rw [f_X9_part]
  refine z_iload_n 1 (zat dd_X9_part 0 rfl) rfl rfl ?_
  refine z_iconst (x := 0) (zat dd_X9_part 1 rfl) (by decide) ?_
  refine z_iconst (x := 1) (zat dd_X9_part 2 rfl) (by decide) ?_
  refine z_callS_I0 (M2 := M_X9_within) [.int v1, .int 0, .int 1] (fun l D _ _ => m_X9_within l D v1 0 1 h) u_X9_within ql_X9_63 qi_X9_within rfl rfl (Nat.le_of_ble_eq_true rfl) (by decide) rfl rfl (zat dd_X9_part 3 rfl) (fun x1 h2 => ?_)
  refine z_if_ne (tgt := 17) (zat dd_X9_part 4 rfl) (by decide) ?_ ?_
  · refine z_iload_n 1 (zat dd_X9_part 10 rfl) rfl rfl ?_
    refine z_if_ne (tgt := 28) (zat dd_X9_part 11 rfl) (by decide) ?_ ?_
    · refine z_aload_n 0 (zat dd_X9_part 15 rfl) rfl rfl ?_
      refine z_getJ fl_X9_59 (zat dd_X9_part 16 rfl) (fun x3 => ?_)
      refine z_sub [] rfl ?_
      exact zb_X9_part_32 Y x3 h2
    · refine z_aload_n 0 (zat dd_X9_part 12 rfl) rfl rfl ?_
      refine z_getJ fl_X9_263 (zat dd_X9_part 13 rfl) (fun x4 => ?_)
      refine z_goto (tgt := 32) (zat dd_X9_part 14 rfl) (by decide) ?_
      refine z_sub [] rfl ?_
      exact zb_X9_part_32 Y x4 h2
  · refine z_aload_n 0 (zat dd_X9_part 5 rfl) rfl rfl ?_
    refine z_bipush (x := (-102)) (zat dd_X9_part 6 rfl) (by decide) ?_
    refine z_callV_I0 (M2 := M_X9_refuse) [.int (-102)] (fun l D _ _ => m_X9_refuse l D v0 (-102) h2) u_X9_refuse ql_X9_67 qi_X9_refuse qs_X9_refuse (ci := 5) rfl rfl rfl (Nat.le_of_ble_eq_true rfl) (by decide) rfl rfl (zat dd_X9_part 7 rfl) (fun x5 h6 => ?_)
    refine z_i2l (zat dd_X9_part 8 rfl) ?_
    exact z_lret rfl (zat dd_X9_part 9 rfl)
/-! PaperDolls.image(I)I -/
def L_X9_image : List (Nat × Instr × Nat) := [(0, .iload_n 1, 1), (1, .iconst 0, 1), (2, .iconst 1, 1), (3, .invokestatic 63, 3), (6, .ifCond .ne 10, 3), (9, .aload_n 0, 1), (10, .bipush (-102), 2), (12, .invokevirtual 67, 3), (15, .ireturn, 1), (16, .aload_n 0, 1), (17, .getfield 19, 3), (20, .iload_n 1, 1), (21, .aaload, 1), (22, .aload_n 0, 1), (23, .getfield 12, 3), (26, .invokevirtual 96, 3), (29, .aload_n 0, 1), (30, .getfield 23, 3), (33, .iload_n 1, 1), (34, .iconst 1, 1), (35, .bastore, 1), (36, .iconst 1, 1), (37, .ireturn, 1)]
theorem dd_X9_image : ∀ q ∈ L_X9_image, decode cX9_image q.1 = .ok q.2 := by decide +kernel
abbrev M_X9_image : zM := (cX9_image, RX9, "image", 2, some .int, 2, 0, 0)
theorem u_X9_image : zCal yX9_image (M_X9_image) 1 := ⟨(zmem 768 (by decide +kernel) rfl : Cond.code yX9_image cX9_image 2 (some .int) ∈ zTb), zmem 57 (by decide +kernel) rfl, by decide +kernel, Nat.le_of_ble_eq_true rfl⟩
theorem qi_X9_image : Cond.instanceMethod yX9_image ∈ zTb := zmem 766 (by decide +kernel) rfl
theorem qs_X9_image : Cond.selects yX9_image.cls yX9_image yX9_image ∈ zTb := zmem 767 (by decide +kernel) rfl
def f_X9_image (v0 : Nat) (v1 : Int32) (h : zH) : zR :=
  zcI (f_X9_within v1 0 1 h) fun x1 h2 =>
  if x1 = 0 then
  zoc h2 v0 5 <|
  zcI (f_X9_refuse v0 (-102) h2) fun x9 h10 =>
  zrI x9 h10
  else
  zgR h2 v0 5 2 fun a3 =>
  zaR h2 a3 4 v1 fun a4 =>
  zgR h2 v0 5 0 fun a5 =>
  zoc h2 a4 0 <|
  zcV (f_X1_copyFrom a4 a5 h2) fun h6 =>
  zgR h6 v0 5 3 fun a7 =>
  zsI h6 a7 2 v1 (vp_nar .boolean 1) fun h8 =>
  zrI 1 h8
set_option maxRecDepth 100000 in
set_option maxHeartbeats 4000000 in
theorem m_X9_image (l : Launch) (D : zD) (v0 : Nat) (v1 : Int32) (h : zH) : zMet l D yX9_image M_X9_image [.ref v0, .int v1] h (f_X9_image v0 v1 h) := by
  refine zMet.of (by decide +kernel) ⟨rfl, rfl⟩ (Nat.le_of_ble_eq_true rfl) (fun Y hl hD => ?_)
  show Z Y M_X9_image 0 0 0 [(0, .ref v0), (1, .int v1)] [] h _
  rw [f_X9_image]
  refine z_iload_n 1 (zat dd_X9_image 0 rfl) rfl rfl ?_
  refine z_iconst (x := 0) (zat dd_X9_image 1 rfl) (by decide) ?_
  refine z_iconst (x := 1) (zat dd_X9_image 2 rfl) (by decide) ?_
  refine z_callS_I0 (M2 := M_X9_within) [.int v1, .int 0, .int 1] (fun l D _ _ => m_X9_within l D v1 0 1 h) u_X9_within ql_X9_63 qi_X9_within rfl rfl (Nat.le_of_ble_eq_true rfl) (by decide) rfl rfl (zat dd_X9_image 3 rfl) (fun x1 h2 => ?_)
  refine z_if_ne (tgt := 16) (zat dd_X9_image 4 rfl) (by decide) ?_ ?_
  · refine z_aload_n 0 (zat dd_X9_image 9 rfl) rfl rfl ?_
    refine z_getR fl_X9_19 (zat dd_X9_image 10 rfl) (fun a3 => ?_)
    refine z_iload_n 1 (zat dd_X9_image 11 rfl) rfl rfl ?_
    refine z_aald (fun _ => rfl) (zat dd_X9_image 12 rfl) (fun a4 => ?_)
    refine z_aload_n 0 (zat dd_X9_image 13 rfl) rfl rfl ?_
    refine z_getR fl_X9_12 (zat dd_X9_image 14 rfl) (fun a5 => ?_)
    refine z_callV_V0 (M2 := M_X1_copyFrom) [.ref a5] (fun l D _ _ => m_X1_copyFrom l D a4 a5 h2) u_X1_copyFrom ql_X9_96 qi_X1_copyFrom qs_X1_copyFrom (ci := 0) rfl rfl rfl (Nat.le_of_ble_eq_true rfl) (by decide) rfl rfl (zat dd_X9_image 15 rfl) (fun h6 => ?_)
    refine z_aload_n 0 (zat dd_X9_image 16 rfl) rfl rfl ?_
    refine z_getR fl_X9_23 (zat dd_X9_image 17 rfl) (fun a7 => ?_)
    refine z_iload_n 1 (zat dd_X9_image 18 rfl) rfl rfl ?_
    refine z_iconst (x := 1) (zat dd_X9_image 19 rfl) (by decide) ?_
    refine z_zast (zat dd_X9_image 20 rfl) (fun h8 => ?_)
    refine z_iconst (x := 1) (zat dd_X9_image 21 rfl) (by decide) ?_
    exact z_iret rfl (zat dd_X9_image 22 rfl)
  · refine z_aload_n 0 (zat dd_X9_image 5 rfl) rfl rfl ?_
    refine z_bipush (x := (-102)) (zat dd_X9_image 6 rfl) (by decide) ?_
    refine z_callV_I0 (M2 := M_X9_refuse) [.int (-102)] (fun l D _ _ => m_X9_refuse l D v0 (-102) h2) u_X9_refuse ql_X9_67 qi_X9_refuse qs_X9_refuse (ci := 5) rfl rfl rfl (Nat.le_of_ble_eq_true rfl) (by decide) rfl rfl (zat dd_X9_image 7 rfl) (fun x9 h10 => ?_)
    exact z_iret rfl (zat dd_X9_image 8 rfl)
/-! PaperDolls.from(I)I -/
def L_X9_from : List (Nat × Instr × Nat) := [(0, .iload_n 1, 1), (1, .iconst 0, 1), (2, .iconst 1, 1), (3, .invokestatic 63, 3), (6, .ifCond .ne 10, 3), (9, .aload_n 0, 1), (10, .bipush (-102), 2), (12, .invokevirtual 67, 3), (15, .ireturn, 1), (16, .aload_n 0, 1), (17, .getfield 23, 3), (20, .iload_n 1, 1), (21, .baload, 1), (22, .ifCond .ne 10, 3), (25, .aload_n 0, 1), (26, .bipush (-103), 2), (28, .invokevirtual 67, 3), (31, .ireturn, 1), (32, .aload_n 0, 1), (33, .getfield 12, 3), (36, .aload_n 0, 1), (37, .getfield 19, 3), (40, .iload_n 1, 1), (41, .aaload, 1), (42, .invokevirtual 96, 3), (45, .iconst 1, 1), (46, .ireturn, 1)]
theorem dd_X9_from : ∀ q ∈ L_X9_from, decode cX9_from q.1 = .ok q.2 := by decide +kernel
abbrev M_X9_from : zM := (cX9_from, RX9, "from", 2, some .int, 2, 0, 0)
theorem u_X9_from : zCal yX9_from (M_X9_from) 1 := ⟨(zmem 772 (by decide +kernel) rfl : Cond.code yX9_from cX9_from 2 (some .int) ∈ zTb), zmem 57 (by decide +kernel) rfl, by decide +kernel, Nat.le_of_ble_eq_true rfl⟩
theorem qi_X9_from : Cond.instanceMethod yX9_from ∈ zTb := zmem 770 (by decide +kernel) rfl
theorem qs_X9_from : Cond.selects yX9_from.cls yX9_from yX9_from ∈ zTb := zmem 771 (by decide +kernel) rfl
def f_X9_from (v0 : Nat) (v1 : Int32) (h : zH) : zR :=
  zcI (f_X9_within v1 0 1 h) fun x1 h2 =>
  if x1 = 0 then
  zoc h2 v0 5 <|
  zcI (f_X9_refuse v0 (-102) h2) fun x11 h12 =>
  zrI x11 h12
  else
  zgR h2 v0 5 3 fun a3 =>
  zaI h2 a3 2 v1 fun x4 =>
  if x4 = 0 then
  zoc h2 v0 5 <|
  zcI (f_X9_refuse v0 (-103) h2) fun x9 h10 =>
  zrI x9 h10
  else
  zgR h2 v0 5 0 fun a5 =>
  zgR h2 v0 5 2 fun a6 =>
  zaR h2 a6 4 v1 fun a7 =>
  zoc h2 a5 0 <|
  zcV (f_X1_copyFrom a5 a7 h2) fun h8 =>
  zrI 1 h8
set_option maxRecDepth 100000 in
set_option maxHeartbeats 4000000 in
theorem m_X9_from (l : Launch) (D : zD) (v0 : Nat) (v1 : Int32) (h : zH) : zMet l D yX9_from M_X9_from [.ref v0, .int v1] h (f_X9_from v0 v1 h) := by
  refine zMet.of (by decide +kernel) ⟨rfl, rfl⟩ (Nat.le_of_ble_eq_true rfl) (fun Y hl hD => ?_)
  show Z Y M_X9_from 0 0 0 [(0, .ref v0), (1, .int v1)] [] h _
  rw [f_X9_from]
  refine z_iload_n 1 (zat dd_X9_from 0 rfl) rfl rfl ?_
  refine z_iconst (x := 0) (zat dd_X9_from 1 rfl) (by decide) ?_
  refine z_iconst (x := 1) (zat dd_X9_from 2 rfl) (by decide) ?_
  refine z_callS_I0 (M2 := M_X9_within) [.int v1, .int 0, .int 1] (fun l D _ _ => m_X9_within l D v1 0 1 h) u_X9_within ql_X9_63 qi_X9_within rfl rfl (Nat.le_of_ble_eq_true rfl) (by decide) rfl rfl (zat dd_X9_from 3 rfl) (fun x1 h2 => ?_)
  refine z_if_ne (tgt := 16) (zat dd_X9_from 4 rfl) (by decide) ?_ ?_
  · refine z_aload_n 0 (zat dd_X9_from 9 rfl) rfl rfl ?_
    refine z_getR fl_X9_23 (zat dd_X9_from 10 rfl) (fun a3 => ?_)
    refine z_iload_n 1 (zat dd_X9_from 11 rfl) rfl rfl ?_
    refine z_zald (zat dd_X9_from 12 rfl) (fun x4 => ?_)
    refine z_if_ne (tgt := 32) (zat dd_X9_from 13 rfl) (by decide) ?_ ?_
    · refine z_aload_n 0 (zat dd_X9_from 18 rfl) rfl rfl ?_
      refine z_getR fl_X9_12 (zat dd_X9_from 19 rfl) (fun a5 => ?_)
      refine z_aload_n 0 (zat dd_X9_from 20 rfl) rfl rfl ?_
      refine z_getR fl_X9_19 (zat dd_X9_from 21 rfl) (fun a6 => ?_)
      refine z_iload_n 1 (zat dd_X9_from 22 rfl) rfl rfl ?_
      refine z_aald (fun _ => rfl) (zat dd_X9_from 23 rfl) (fun a7 => ?_)
      refine z_callV_V0 (M2 := M_X1_copyFrom) [.ref a7] (fun l D _ _ => m_X1_copyFrom l D a5 a7 h2) u_X1_copyFrom ql_X9_96 qi_X1_copyFrom qs_X1_copyFrom (ci := 0) rfl rfl rfl (Nat.le_of_ble_eq_true rfl) (by decide) rfl rfl (zat dd_X9_from 24 rfl) (fun h8 => ?_)
      refine z_iconst (x := 1) (zat dd_X9_from 25 rfl) (by decide) ?_
      exact z_iret rfl (zat dd_X9_from 26 rfl)
    · refine z_aload_n 0 (zat dd_X9_from 14 rfl) rfl rfl ?_
      refine z_bipush (x := (-103)) (zat dd_X9_from 15 rfl) (by decide) ?_
      refine z_callV_I0 (M2 := M_X9_refuse) [.int (-103)] (fun l D _ _ => m_X9_refuse l D v0 (-103) h2) u_X9_refuse ql_X9_67 qi_X9_refuse qs_X9_refuse (ci := 5) rfl rfl rfl (Nat.le_of_ble_eq_true rfl) (by decide) rfl rfl (zat dd_X9_from 16 rfl) (fun x9 h10 => ?_)
      exact z_iret rfl (zat dd_X9_from 17 rfl)
  · refine z_aload_n 0 (zat dd_X9_from 5 rfl) rfl rfl ?_
    refine z_bipush (x := (-102)) (zat dd_X9_from 6 rfl) (by decide) ?_
    refine z_callV_I0 (M2 := M_X9_refuse) [.int (-102)] (fun l D _ _ => m_X9_refuse l D v0 (-102) h2) u_X9_refuse ql_X9_67 qi_X9_refuse qs_X9_refuse (ci := 5) rfl rfl rfl (Nat.le_of_ble_eq_true rfl) (by decide) rfl rfl (zat dd_X9_from 7 rfl) (fun x11 h12 => ?_)
    exact z_iret rfl (zat dd_X9_from 8 rfl)
/-! PaperDolls.status(I)I -/
def L_X9_status : List (Nat × Instr × Nat) := [(0, .iload_n 1, 1), (1, .tableswitch 42 0 2 #[27, 32, 37], 27), (28, .aload_n 0, 1), (29, .getfield 266, 3), (32, .ireturn, 1), (33, .aload_n 0, 1), (34, .getfield 269, 3), (37, .ireturn, 1), (38, .aload_n 0, 1), (39, .getfield 272, 3), (42, .ireturn, 1), (43, .aload_n 0, 1), (44, .bipush (-102), 2), (46, .invokevirtual 67, 3), (49, .pop, 1), (50, .iconst (-1), 1), (51, .ireturn, 1)]
theorem dd_X9_status : ∀ q ∈ L_X9_status, decode cX9_status q.1 = .ok q.2 := by decide +kernel
abbrev M_X9_status : zM := (cX9_status, RX9, "status", 2, some .int, 1, 0, 0)
theorem u_X9_status : zCal yX9_status (M_X9_status) 1 := ⟨(zmem 776 (by decide +kernel) rfl : Cond.code yX9_status cX9_status 2 (some .int) ∈ zTb), zmem 57 (by decide +kernel) rfl, by decide +kernel, Nat.le_of_ble_eq_true rfl⟩
theorem qi_X9_status : Cond.instanceMethod yX9_status ∈ zTb := zmem 774 (by decide +kernel) rfl
theorem qs_X9_status : Cond.selects yX9_status.cls yX9_status yX9_status ∈ zTb := zmem 775 (by decide +kernel) rfl
def f_X9_status (v0 : Nat) (v1 : Int32) (h : zH) : zR :=
  if v1 = 0 then
  zgI h v0 5 12 fun x1 =>
  zrI x1 h
  else
  if v1 = 1 then
  zgI h v0 5 13 fun x2 =>
  zrI x2 h
  else
  if v1 = 2 then
  zgI h v0 5 14 fun x3 =>
  zrI x3 h
  else
  zoc h v0 5 <|
  zcI (f_X9_refuse v0 (-102) h) fun x4 h5 =>
  zrI (-1) h5
set_option maxRecDepth 100000 in
set_option maxHeartbeats 4000000 in
theorem m_X9_status (l : Launch) (D : zD) (v0 : Nat) (v1 : Int32) (h : zH) : zMet l D yX9_status M_X9_status [.ref v0, .int v1] h (f_X9_status v0 v1 h) := by
  refine zMet.of (by decide +kernel) ⟨rfl, rfl⟩ (Nat.le_of_ble_eq_true rfl) (fun Y hl hD => ?_)
  show Z Y M_X9_status 0 0 0 [(0, .ref v0), (1, .int v1)] [] h _
  rw [f_X9_status]
  refine z_iload_n 1 (zat dd_X9_status 0 rfl) rfl rfl ?_
  refine z_ite (fun c0 => ?_) (fun c0 => ?_)
  · refine z_tabIn (tgt := 28) 0 c0 (zat dd_X9_status 1 rfl) (by decide) (by decide) rfl (by decide) ?_
    refine z_aload_n 0 (zat dd_X9_status 2 rfl) rfl rfl ?_
    refine z_getI fl_X9_266 (zat dd_X9_status 3 rfl) (fun x1 => ?_)
    exact z_iret rfl (zat dd_X9_status 4 rfl)
  refine z_ite (fun c1 => ?_) (fun c1 => ?_)
  · refine z_tabIn (tgt := 33) 1 c1 (zat dd_X9_status 1 rfl) (by decide) (by decide) rfl (by decide) ?_
    refine z_aload_n 0 (zat dd_X9_status 5 rfl) rfl rfl ?_
    refine z_getI fl_X9_269 (zat dd_X9_status 6 rfl) (fun x2 => ?_)
    exact z_iret rfl (zat dd_X9_status 7 rfl)
  refine z_ite (fun c2 => ?_) (fun c2 => ?_)
  · refine z_tabIn (tgt := 38) 2 c2 (zat dd_X9_status 1 rfl) (by decide) (by decide) rfl (by decide) ?_
    refine z_aload_n 0 (zat dd_X9_status 8 rfl) rfl rfl ?_
    refine z_getI fl_X9_272 (zat dd_X9_status 9 rfl) (fun x3 => ?_)
    exact z_iret rfl (zat dd_X9_status 10 rfl)
  refine z_tabOut (tgt := 43) (zat dd_X9_status 1 rfl) (by have g0 := lv_neT (a := 0) c0 rfl; have g1 := lv_neT (a := 1) c1 rfl; have g2 := lv_neT (a := 2) c2 rfl; omega) (by decide) ?_
  refine z_aload_n 0 (zat dd_X9_status 11 rfl) rfl rfl ?_
  refine z_bipush (x := (-102)) (zat dd_X9_status 12 rfl) (by decide) ?_
  refine z_callV_I0 (M2 := M_X9_refuse) [.int (-102)] (fun l D _ _ => m_X9_refuse l D v0 (-102) h) u_X9_refuse ql_X9_67 qi_X9_refuse qs_X9_refuse (ci := 5) rfl rfl rfl (Nat.le_of_ble_eq_true rfl) (by decide) rfl rfl (zat dd_X9_status 13 rfl) (fun x4 h5 => ?_)
  refine z_pop (zat dd_X9_status 14 rfl) rfl ?_
  refine z_iconst (x := (-1)) (zat dd_X9_status 15 rfl) (by decide) ?_
  exact z_iret rfl (zat dd_X9_status 16 rfl)
/-! PaperDolls.countOf(I)I -/
def L_X9_countOf : List (Nat × Instr × Nat) := [(0, .iload_n 1, 1), (1, .tableswitch 169 0 9 #[55, 63, 74, 85, 103, 126, 137, 145, 153, 161], 55), (56, .aload_n 0, 1), (57, .getfield 12, 3), (60, .getfield 71, 3), (63, .ireturn, 1), (64, .aload_n 0, 1), (65, .getfield 12, 3), (68, .getfield 108, 3), (71, .getfield 111, 3), (74, .ireturn, 1), (75, .aload_n 0, 1), (76, .getfield 12, 3), (79, .getfield 108, 3), (82, .getfield 121, 3), (85, .ireturn, 1), (86, .aload_n 0, 1), (87, .getfield 12, 3), (90, .aload_n 0, 1), (91, .getfield 12, 3), (94, .getfield 108, 3), (97, .invokevirtual 218, 3), (100, .invokevirtual 232, 3), (103, .ireturn, 1), (104, .aload_n 0, 1), (105, .getfield 12, 3), (108, .aload_n 0, 1), (109, .getfield 12, 3), (112, .getfield 108, 3), (115, .invokevirtual 259, 3), (118, .ifCond .eq 7, 3), (121, .iconst 1, 1), (122, .goto 4, 3), (125, .iconst 0, 1), (126, .ireturn, 1), (127, .aload_n 0, 1), (128, .getfield 12, 3), (131, .getfield 108, 3), (134, .invokevirtual 290, 3), (137, .ireturn, 1), (138, .aload_n 0, 1), (139, .getfield 12, 3), (142, .getfield 79, 3), (145, .ireturn, 1), (146, .aload_n 0, 1), (147, .getfield 12, 3), (150, .getfield 190, 3), (153, .ireturn, 1), (154, .aload_n 0, 1), (155, .getfield 12, 3), (158, .getfield 196, 3), (161, .ireturn, 1), (162, .aload_n 0, 1), (163, .getfield 12, 3), (166, .getfield 82, 3), (169, .ireturn, 1), (170, .aload_n 0, 1), (171, .getfield 89, 3), (174, .ireturn, 1)]
theorem dd_X9_countOf : ∀ q ∈ L_X9_countOf, decode cX9_countOf q.1 = .ok q.2 := by decide +kernel
abbrev M_X9_countOf : zM := (cX9_countOf, RX9, "countOf", 2, some .int, 3, 0, 0)
theorem u_X9_countOf : zCal yX9_countOf (M_X9_countOf) 1 := ⟨(zmem 784 (by decide +kernel) rfl : Cond.code yX9_countOf cX9_countOf 2 (some .int) ∈ zTb), zmem 57 (by decide +kernel) rfl, by decide +kernel, Nat.le_of_ble_eq_true rfl⟩
theorem qi_X9_countOf : Cond.instanceMethod yX9_countOf ∈ zTb := zmem 783 (by decide +kernel) rfl
theorem qs_X9_countOf : Cond.selects yX9_countOf.cls yX9_countOf yX9_countOf ∈ zTb := zmem 18 (by decide +kernel) rfl
def f_X9_countOf_126 (t0 : Int32) (h : zH) : zR :=
  zrI t0 h
set_option maxRecDepth 100000 in
set_option maxHeartbeats 4000000 in
theorem zb_X9_countOf_126 (Y : zY) (t0 : Int32) (h : zH) : Z Y M_X9_countOf 0 0 126 [] [.int t0] h (f_X9_countOf_126 t0 h) := by
  rw [f_X9_countOf_126]
  exact z_iret rfl (zat dd_X9_countOf 34 rfl)
def f_X9_countOf (v0 : Nat) (v1 : Int32) (h : zH) : zR :=
  if v1 = 0 then
  zgR h v0 5 0 fun a1 =>
  zgI h a1 0 1 fun x2 =>
  zrI x2 h
  else
  if v1 = 1 then
  zgR h v0 5 0 fun a3 =>
  zgR h a3 0 5 fun a4 =>
  zgI h a4 4 2 fun x5 =>
  zrI x5 h
  else
  if v1 = 2 then
  zgR h v0 5 0 fun a6 =>
  zgR h a6 0 5 fun a7 =>
  zgI h a7 4 3 fun x8 =>
  zrI x8 h
  else
  if v1 = 3 then
  zgR h v0 5 0 fun a9 =>
  zgR h v0 5 0 fun a10 =>
  zgR h a10 0 5 fun a11 =>
  zoc h a11 4 <|
  zcI (f_X8_onSet a11 h) fun x12 h13 =>
  zoc h13 a9 0 <|
  zcI (f_X1_spotsOfSet a9 x12 h13) fun x14 h15 =>
  zrI x14 h15
  else
  if v1 = 4 then
  zgR h v0 5 0 fun a16 =>
  zgR h v0 5 0 fun a17 =>
  zgR h a17 0 5 fun a18 =>
  zoc h a16 0 <|
  zcI (f_X1_isDressed a16 a18 h) fun x19 h20 =>
  if x19 = 0 then
  f_X9_countOf_126 0 h20
  else
  f_X9_countOf_126 1 h20
  else
  if v1 = 5 then
  zgR h v0 5 0 fun a21 =>
  zgR h a21 0 5 fun a22 =>
  zoc h a22 4 <|
  zcI (f_X8_wornTogether a22 h) fun x23 h24 =>
  zrI x23 h24
  else
  if v1 = 6 then
  zgR h v0 5 0 fun a25 =>
  zgI h a25 0 0 fun x26 =>
  zrI x26 h
  else
  if v1 = 7 then
  zgR h v0 5 0 fun a27 =>
  zgI h a27 0 9 fun x28 =>
  zrI x28 h
  else
  if v1 = 8 then
  zgR h v0 5 0 fun a29 =>
  zgI h a29 0 11 fun x30 =>
  zrI x30 h
  else
  if v1 = 9 then
  zgR h v0 5 0 fun a31 =>
  zgI h a31 0 7 fun x32 =>
  zrI x32 h
  else
  zgI h v0 5 9 fun x33 =>
  zrI x33 h
set_option maxRecDepth 100000 in
set_option maxHeartbeats 4000000 in
theorem m_X9_countOf (l : Launch) (D : zD) (v0 : Nat) (v1 : Int32) (h : zH) : zMet l D yX9_countOf M_X9_countOf [.ref v0, .int v1] h (f_X9_countOf v0 v1 h) := by
  refine zMet.of (by decide +kernel) ⟨rfl, rfl⟩ (Nat.le_of_ble_eq_true rfl) (fun Y hl hD => ?_)
  show Z Y M_X9_countOf 0 0 0 [(0, .ref v0), (1, .int v1)] [] h _
  rw [f_X9_countOf]
  refine z_iload_n 1 (zat dd_X9_countOf 0 rfl) rfl rfl ?_
  refine z_ite (fun c0 => ?_) (fun c0 => ?_)
  · refine z_tabIn (tgt := 56) 0 c0 (zat dd_X9_countOf 1 rfl) (by decide) (by decide) rfl (by decide) ?_
    refine z_aload_n 0 (zat dd_X9_countOf 2 rfl) rfl rfl ?_
    refine z_getR fl_X9_12 (zat dd_X9_countOf 3 rfl) (fun a1 => ?_)
    refine z_getI fl_X9_71 (zat dd_X9_countOf 4 rfl) (fun x2 => ?_)
    exact z_iret rfl (zat dd_X9_countOf 5 rfl)
  refine z_ite (fun c1 => ?_) (fun c1 => ?_)
  · refine z_tabIn (tgt := 64) 1 c1 (zat dd_X9_countOf 1 rfl) (by decide) (by decide) rfl (by decide) ?_
    refine z_aload_n 0 (zat dd_X9_countOf 6 rfl) rfl rfl ?_
    refine z_getR fl_X9_12 (zat dd_X9_countOf 7 rfl) (fun a3 => ?_)
    refine z_getR fl_X9_108 (zat dd_X9_countOf 8 rfl) (fun a4 => ?_)
    refine z_getI fl_X9_111 (zat dd_X9_countOf 9 rfl) (fun x5 => ?_)
    exact z_iret rfl (zat dd_X9_countOf 10 rfl)
  refine z_ite (fun c2 => ?_) (fun c2 => ?_)
  · refine z_tabIn (tgt := 75) 2 c2 (zat dd_X9_countOf 1 rfl) (by decide) (by decide) rfl (by decide) ?_
    refine z_aload_n 0 (zat dd_X9_countOf 11 rfl) rfl rfl ?_
    refine z_getR fl_X9_12 (zat dd_X9_countOf 12 rfl) (fun a6 => ?_)
    refine z_getR fl_X9_108 (zat dd_X9_countOf 13 rfl) (fun a7 => ?_)
    refine z_getI fl_X9_121 (zat dd_X9_countOf 14 rfl) (fun x8 => ?_)
    exact z_iret rfl (zat dd_X9_countOf 15 rfl)
  refine z_ite (fun c3 => ?_) (fun c3 => ?_)
  · refine z_tabIn (tgt := 86) 3 c3 (zat dd_X9_countOf 1 rfl) (by decide) (by decide) rfl (by decide) ?_
    refine z_aload_n 0 (zat dd_X9_countOf 16 rfl) rfl rfl ?_
    refine z_getR fl_X9_12 (zat dd_X9_countOf 17 rfl) (fun a9 => ?_)
    refine z_aload_n 0 (zat dd_X9_countOf 18 rfl) rfl rfl ?_
    refine z_getR fl_X9_12 (zat dd_X9_countOf 19 rfl) (fun a10 => ?_)
    refine z_getR fl_X9_108 (zat dd_X9_countOf 20 rfl) (fun a11 => ?_)
    refine z_callV_I0 (M2 := M_X8_onSet) [] (fun l D _ _ => m_X8_onSet l D a11 h) u_X8_onSet ql_X9_218 qi_X8_onSet qs_X8_onSet (ci := 4) rfl rfl rfl (Nat.le_of_ble_eq_true rfl) (by decide) rfl rfl (zat dd_X9_countOf 21 rfl) (fun x12 h13 => ?_)
    refine z_callV_I0 (M2 := M_X1_spotsOfSet) [.int x12] (fun l D _ _ => m_X1_spotsOfSet l D a9 x12 h13) u_X1_spotsOfSet ql_X9_232 qi_X1_spotsOfSet qs_X1_spotsOfSet (ci := 0) rfl rfl rfl (Nat.le_of_ble_eq_true rfl) (by decide) rfl rfl (zat dd_X9_countOf 22 rfl) (fun x14 h15 => ?_)
    exact z_iret rfl (zat dd_X9_countOf 23 rfl)
  refine z_ite (fun c4 => ?_) (fun c4 => ?_)
  · refine z_tabIn (tgt := 104) 4 c4 (zat dd_X9_countOf 1 rfl) (by decide) (by decide) rfl (by decide) ?_
    refine z_aload_n 0 (zat dd_X9_countOf 24 rfl) rfl rfl ?_
    refine z_getR fl_X9_12 (zat dd_X9_countOf 25 rfl) (fun a16 => ?_)
    refine z_aload_n 0 (zat dd_X9_countOf 26 rfl) rfl rfl ?_
    refine z_getR fl_X9_12 (zat dd_X9_countOf 27 rfl) (fun a17 => ?_)
    refine z_getR fl_X9_108 (zat dd_X9_countOf 28 rfl) (fun a18 => ?_)
    refine z_callV_I0 (M2 := M_X1_isDressed) [.ref a18] (fun l D _ _ => m_X1_isDressed l D a16 a18 h) u_X1_isDressed ql_X9_259 qi_X1_isDressed qs_X1_isDressed (ci := 0) rfl rfl rfl (Nat.le_of_ble_eq_true rfl) (by decide) rfl rfl (zat dd_X9_countOf 29 rfl) (fun x19 h20 => ?_)
    refine z_if_eq (tgt := 125) (zat dd_X9_countOf 30 rfl) (by decide) ?_ ?_
    · refine z_iconst (x := 0) (zat dd_X9_countOf 33 rfl) (by decide) ?_
      refine z_sub [] rfl ?_
      exact zb_X9_countOf_126 Y 0 h20
    · refine z_iconst (x := 1) (zat dd_X9_countOf 31 rfl) (by decide) ?_
      refine z_goto (tgt := 126) (zat dd_X9_countOf 32 rfl) (by decide) ?_
      refine z_sub [] rfl ?_
      exact zb_X9_countOf_126 Y 1 h20
  refine z_ite (fun c5 => ?_) (fun c5 => ?_)
  · refine z_tabIn (tgt := 127) 5 c5 (zat dd_X9_countOf 1 rfl) (by decide) (by decide) rfl (by decide) ?_
    refine z_aload_n 0 (zat dd_X9_countOf 35 rfl) rfl rfl ?_
    refine z_getR fl_X9_12 (zat dd_X9_countOf 36 rfl) (fun a21 => ?_)
    refine z_getR fl_X9_108 (zat dd_X9_countOf 37 rfl) (fun a22 => ?_)
    refine z_callV_I0 (M2 := M_X8_wornTogether) [] (fun l D _ _ => m_X8_wornTogether l D a22 h) u_X8_wornTogether ql_X9_290 qi_X8_wornTogether qs_X8_wornTogether (ci := 4) rfl rfl rfl (Nat.le_of_ble_eq_true rfl) (by decide) rfl rfl (zat dd_X9_countOf 38 rfl) (fun x23 h24 => ?_)
    exact z_iret rfl (zat dd_X9_countOf 39 rfl)
  refine z_ite (fun c6 => ?_) (fun c6 => ?_)
  · refine z_tabIn (tgt := 138) 6 c6 (zat dd_X9_countOf 1 rfl) (by decide) (by decide) rfl (by decide) ?_
    refine z_aload_n 0 (zat dd_X9_countOf 40 rfl) rfl rfl ?_
    refine z_getR fl_X9_12 (zat dd_X9_countOf 41 rfl) (fun a25 => ?_)
    refine z_getI fl_X9_79 (zat dd_X9_countOf 42 rfl) (fun x26 => ?_)
    exact z_iret rfl (zat dd_X9_countOf 43 rfl)
  refine z_ite (fun c7 => ?_) (fun c7 => ?_)
  · refine z_tabIn (tgt := 146) 7 c7 (zat dd_X9_countOf 1 rfl) (by decide) (by decide) rfl (by decide) ?_
    refine z_aload_n 0 (zat dd_X9_countOf 44 rfl) rfl rfl ?_
    refine z_getR fl_X9_12 (zat dd_X9_countOf 45 rfl) (fun a27 => ?_)
    refine z_getI fl_X9_190 (zat dd_X9_countOf 46 rfl) (fun x28 => ?_)
    exact z_iret rfl (zat dd_X9_countOf 47 rfl)
  refine z_ite (fun c8 => ?_) (fun c8 => ?_)
  · refine z_tabIn (tgt := 154) 8 c8 (zat dd_X9_countOf 1 rfl) (by decide) (by decide) rfl (by decide) ?_
    refine z_aload_n 0 (zat dd_X9_countOf 48 rfl) rfl rfl ?_
    refine z_getR fl_X9_12 (zat dd_X9_countOf 49 rfl) (fun a29 => ?_)
    refine z_getI fl_X9_196 (zat dd_X9_countOf 50 rfl) (fun x30 => ?_)
    exact z_iret rfl (zat dd_X9_countOf 51 rfl)
  refine z_ite (fun c9 => ?_) (fun c9 => ?_)
  · refine z_tabIn (tgt := 162) 9 c9 (zat dd_X9_countOf 1 rfl) (by decide) (by decide) rfl (by decide) ?_
    refine z_aload_n 0 (zat dd_X9_countOf 52 rfl) rfl rfl ?_
    refine z_getR fl_X9_12 (zat dd_X9_countOf 53 rfl) (fun a31 => ?_)
    refine z_getI fl_X9_82 (zat dd_X9_countOf 54 rfl) (fun x32 => ?_)
    exact z_iret rfl (zat dd_X9_countOf 55 rfl)
  refine z_tabOut (tgt := 170) (zat dd_X9_countOf 1 rfl) (by have g0 := lv_neT (a := 0) c0 rfl; have g1 := lv_neT (a := 1) c1 rfl; have g2 := lv_neT (a := 2) c2 rfl; have g3 := lv_neT (a := 3) c3 rfl; have g4 := lv_neT (a := 4) c4 rfl; have g5 := lv_neT (a := 5) c5 rfl; have g6 := lv_neT (a := 6) c6 rfl; have g7 := lv_neT (a := 7) c7 rfl; have g8 := lv_neT (a := 8) c8 rfl; have g9 := lv_neT (a := 9) c9 rfl; omega) (by decide) ?_
  refine z_aload_n 0 (zat dd_X9_countOf 56 rfl) rfl rfl ?_
  refine z_getI fl_X9_89 (zat dd_X9_countOf 57 rfl) (fun x33 => ?_)
  exact z_iret rfl (zat dd_X9_countOf 58 rfl)
/-! PaperDolls.count(I)I -/
def L_X9_count : List (Nat × Instr × Nat) := [(0, .iload_n 1, 1), (1, .iconst 0, 1), (2, .bipush 10, 2), (4, .invokestatic 63, 3), (7, .ifCond .ne 10, 3), (10, .aload_n 0, 1), (11, .bipush (-102), 2), (13, .invokevirtual 67, 3), (16, .ireturn, 1), (17, .aload_n 0, 1), (18, .iload_n 1, 1), (19, .invokevirtual 275, 3), (22, .ireturn, 1)]
theorem dd_X9_count : ∀ q ∈ L_X9_count, decode cX9_count q.1 = .ok q.2 := by decide +kernel
abbrev M_X9_count : zM := (cX9_count, RX9, "count", 2, some .int, 4, 0, 0)
theorem u_X9_count : zCal yX9_count (M_X9_count) 1 := ⟨(zmem 780 (by decide +kernel) rfl : Cond.code yX9_count cX9_count 2 (some .int) ∈ zTb), zmem 57 (by decide +kernel) rfl, by decide +kernel, Nat.le_of_ble_eq_true rfl⟩
theorem qi_X9_count : Cond.instanceMethod yX9_count ∈ zTb := zmem 778 (by decide +kernel) rfl
theorem qs_X9_count : Cond.selects yX9_count.cls yX9_count yX9_count ∈ zTb := zmem 779 (by decide +kernel) rfl
def f_X9_count (v0 : Nat) (v1 : Int32) (h : zH) : zR :=
  zcI (f_X9_within v1 0 10 h) fun x1 h2 =>
  if x1 = 0 then
  zoc h2 v0 5 <|
  zcI (f_X9_refuse v0 (-102) h2) fun x5 h6 =>
  zrI x5 h6
  else
  zoc h2 v0 5 <|
  zcI (f_X9_countOf v0 v1 h2) fun x3 h4 =>
  zrI x3 h4
set_option maxRecDepth 100000 in
set_option maxHeartbeats 4000000 in
theorem m_X9_count (l : Launch) (D : zD) (v0 : Nat) (v1 : Int32) (h : zH) : zMet l D yX9_count M_X9_count [.ref v0, .int v1] h (f_X9_count v0 v1 h) := by
  refine zMet.of (by decide +kernel) ⟨rfl, rfl⟩ (Nat.le_of_ble_eq_true rfl) (fun Y hl hD => ?_)
  show Z Y M_X9_count 0 0 0 [(0, .ref v0), (1, .int v1)] [] h _
  rw [f_X9_count]
  refine z_iload_n 1 (zat dd_X9_count 0 rfl) rfl rfl ?_
  refine z_iconst (x := 0) (zat dd_X9_count 1 rfl) (by decide) ?_
  refine z_bipush (x := 10) (zat dd_X9_count 2 rfl) (by decide) ?_
  refine z_callS_I0 (M2 := M_X9_within) [.int v1, .int 0, .int 10] (fun l D _ _ => m_X9_within l D v1 0 10 h) u_X9_within ql_X9_63 qi_X9_within rfl rfl (Nat.le_of_ble_eq_true rfl) (by decide) rfl rfl (zat dd_X9_count 3 rfl) (fun x1 h2 => ?_)
  refine z_if_ne (tgt := 17) (zat dd_X9_count 4 rfl) (by decide) ?_ ?_
  · refine z_aload_n 0 (zat dd_X9_count 9 rfl) rfl rfl ?_
    refine z_iload_n 1 (zat dd_X9_count 10 rfl) rfl rfl ?_
    refine z_callV_I0 (M2 := M_X9_countOf) [.int v1] (fun l D _ _ => m_X9_countOf l D v0 v1 h2) u_X9_countOf ql_X9_275 qi_X9_countOf qs_X9_countOf (ci := 5) rfl rfl rfl (Nat.le_of_ble_eq_true rfl) (by decide) rfl rfl (zat dd_X9_count 11 rfl) (fun x3 h4 => ?_)
    exact z_iret rfl (zat dd_X9_count 12 rfl)
  · refine z_aload_n 0 (zat dd_X9_count 5 rfl) rfl rfl ?_
    refine z_bipush (x := (-102)) (zat dd_X9_count 6 rfl) (by decide) ?_
    refine z_callV_I0 (M2 := M_X9_refuse) [.int (-102)] (fun l D _ _ => m_X9_refuse l D v0 (-102) h2) u_X9_refuse ql_X9_67 qi_X9_refuse qs_X9_refuse (ci := 5) rfl rfl rfl (Nat.le_of_ble_eq_true rfl) (by decide) rfl rfl (zat dd_X9_count 7 rfl) (fun x5 h6 => ?_)
    exact z_iret rfl (zat dd_X9_count 8 rfl)
/-! PaperDolls.digest()J -/
def L_X9_digest : List (Nat × Instr × Nat) := [(0, .ldc2_w 278, 3), (3, .lstore_n 1, 1), (4, .iconst 0, 1), (5, .istore_n 3, 1), (6, .iload_n 3, 1), (7, .bipush 10, 2), (9, .if_icmp .gt 22, 3), (12, .ldc2_w 280, 3), (15, .lload_n 1, 1), (16, .lmul, 1), (17, .aload_n 0, 1), (18, .iload_n 3, 1), (19, .invokevirtual 275, 3), (22, .i2l, 1), (23, .ladd, 1), (24, .lstore_n 1, 1), (25, .iinc 3 1, 3), (28, .goto (-22), 3), (31, .aload_n 0, 1), (32, .getfield 12, 3), (35, .lload_n 1, 1), (36, .invokevirtual 282, 3), (39, .lstore_n 1, 1), (40, .ldc2_w 280, 3), (43, .lload_n 1, 1), (44, .lmul, 1), (45, .aload_n 0, 1), (46, .getfield 263, 3), (49, .ladd, 1), (50, .lstore_n 1, 1), (51, .ldc2_w 280, 3), (54, .lload_n 1, 1), (55, .lmul, 1), (56, .aload_n 0, 1), (57, .getfield 59, 3), (60, .ladd, 1), (61, .lreturn, 1)]
theorem dd_X9_digest : ∀ q ∈ L_X9_digest, decode cX9_digest q.1 = .ok q.2 := by decide +kernel
abbrev M_X9_digest : zM := (cX9_digest, RX9, "digest", 4, some .long, 4, 0, 0)
theorem u_X9_digest : zCal yX9_digest (M_X9_digest) 0 := ⟨(zmem 792 (by decide +kernel) rfl : Cond.code yX9_digest cX9_digest 4 (some .long) ∈ zTb), zmem 57 (by decide +kernel) rfl, by decide +kernel, Nat.le_of_ble_eq_true rfl⟩
theorem qi_X9_digest : Cond.instanceMethod yX9_digest ∈ zTb := zmem 790 (by decide +kernel) rfl
theorem qs_X9_digest : Cond.selects yX9_digest.cls yX9_digest yX9_digest ∈ zTb := zmem 791 (by decide +kernel) rfl
def f_X9_digest_6 : Nat → Nat → Int64 → Int32 → zH → zR
  | 0, _, _, _, _ => none
  | n + 1, v0, v1, v3, h =>
  if 10 < v3 then
  zgR h v0 5 0 fun a1 =>
  zoc h a1 0 <|
  zcJ (f_X1_digestOn a1 v1 h) fun x2 h3 =>
  zgJ h3 v0 5 10 fun x4 =>
  zlt ((31 * x2) + x4) fun x5 =>
  zgJ h3 v0 5 11 fun x6 =>
  zrJ ((31 * x5) + x6) h3
  else
  zoc h v0 5 <|
  zcI (f_X9_countOf v0 v3 h) fun x7 h8 =>
  zlt ((31 * v1) + ((x7 : Int32).toInt64)) fun x9 =>
  f_X9_digest_6 n v0 x9 (v3 + 1) h8
set_option maxRecDepth 100000 in
set_option maxHeartbeats 4000000 in
theorem zb_X9_digest_6 (Y : zY) : ∀ (n : Nat) (v0 : Nat) (v1 : Int64) (v3 : Int32) (h : zH), Z Y M_X9_digest 0 0 6 [(0, .ref v0), (1, .long v1), (3, .int v3)] [] h (f_X9_digest_6 n v0 v1 v3 h) := by
  intro n
  induction n with
  | zero =>
    intro v0 v1 v3 h
    rw [f_X9_digest_6]
    exact z_none
  | succ n ih =>
    intro v0 v1 v3 h
    rw [f_X9_digest_6]
    refine z_iload_n 2 (zat dd_X9_digest 4 rfl) rfl rfl ?_
    refine z_bipush (x := 10) (zat dd_X9_digest 5 rfl) (by decide) ?_
    refine z_icmp_gt (tgt := 31) (zat dd_X9_digest 6 rfl) (by decide) ?_ ?_
    · refine z_aload_n 0 (zat dd_X9_digest 18 rfl) rfl rfl ?_
      refine z_getR fl_X9_12 (zat dd_X9_digest 19 rfl) (fun a1 => ?_)
      refine z_lload_n 1 (zat dd_X9_digest 20 rfl) rfl rfl ?_
      refine z_callV_J0 (M2 := M_X1_digestOn) [.long v1] (fun l D _ _ => m_X1_digestOn l D a1 v1 h) u_X1_digestOn ql_X9_282 qi_X1_digestOn qs_X1_digestOn (ci := 0) rfl rfl rfl (Nat.le_of_ble_eq_true rfl) (by decide) rfl rfl (zat dd_X9_digest 21 rfl) (fun x2 h3 => ?_)
      refine z_lstore_n (lv' := [(1, .long x2), (0, .ref v0), (3, .int v3)]) (zat dd_X9_digest 22 rfl) rfl (Nat.le_of_ble_eq_true rfl) rfl ?_
      refine z_ldc2 (x := 31) qk_X9_280 (zat dd_X9_digest 23 rfl) ?_
      refine z_lload_n 0 (zat dd_X9_digest 24 rfl) rfl rfl ?_
      refine z_lmul (zat dd_X9_digest 25 rfl) ?_
      refine z_aload_n 1 (zat dd_X9_digest 26 rfl) rfl rfl ?_
      refine z_getJ fl_X9_263 (zat dd_X9_digest 27 rfl) (fun x4 => ?_)
      refine z_ladd (zat dd_X9_digest 28 rfl) ?_
      refine z_letJ (fun x5 => ?_)
      refine z_lstore_n (lv' := [(1, .long x5), (0, .ref v0), (3, .int v3)]) (zat dd_X9_digest 29 rfl) rfl (Nat.le_of_ble_eq_true rfl) rfl ?_
      refine z_ldc2 (x := 31) qk_X9_280 (zat dd_X9_digest 30 rfl) ?_
      refine z_lload_n 0 (zat dd_X9_digest 31 rfl) rfl rfl ?_
      refine z_lmul (zat dd_X9_digest 32 rfl) ?_
      refine z_aload_n 1 (zat dd_X9_digest 33 rfl) rfl rfl ?_
      refine z_getJ fl_X9_59 (zat dd_X9_digest 34 rfl) (fun x6 => ?_)
      refine z_ladd (zat dd_X9_digest 35 rfl) ?_
      exact z_lret rfl (zat dd_X9_digest 36 rfl)
    · refine z_ldc2 (x := 31) qk_X9_280 (zat dd_X9_digest 7 rfl) ?_
      refine z_lload_n 1 (zat dd_X9_digest 8 rfl) rfl rfl ?_
      refine z_lmul (zat dd_X9_digest 9 rfl) ?_
      refine z_aload_n 0 (zat dd_X9_digest 10 rfl) rfl rfl ?_
      refine z_iload_n 2 (zat dd_X9_digest 11 rfl) rfl rfl ?_
      refine z_callV_I0 (M2 := M_X9_countOf) [.int v3] (fun l D _ _ => m_X9_countOf l D v0 v3 h) u_X9_countOf ql_X9_275 qi_X9_countOf qs_X9_countOf (ci := 5) rfl rfl rfl (Nat.le_of_ble_eq_true rfl) (by decide) rfl rfl (zat dd_X9_digest 12 rfl) (fun x7 h8 => ?_)
      refine z_i2l (zat dd_X9_digest 13 rfl) ?_
      refine z_ladd (zat dd_X9_digest 14 rfl) ?_
      refine z_letJ (fun x9 => ?_)
      refine z_lstore_n (lv' := [(1, .long x9), (0, .ref v0), (3, .int v3)]) (zat dd_X9_digest 15 rfl) rfl (Nat.le_of_ble_eq_true rfl) rfl ?_
      refine z_iinc (y := v3 + 1) (lv' := [(3, .int (v3 + 1)), (1, .long x9), (0, .ref v0)]) 2 (zat dd_X9_digest 16 rfl) rfl rfl (Nat.le_of_ble_eq_true rfl) rfl ?_
      refine z_goto (tgt := 6) (zat dd_X9_digest 17 rfl) (by decide) ?_
      refine z_sub [2, 1, 0] rfl ?_
      exact ih v0 x9 (v3 + 1) h8
def f_X9_digest (v0 : Nat) (h : zH) : zR :=
  f_X9_digest_6 zF v0 1867 0 h
set_option maxRecDepth 100000 in
set_option maxHeartbeats 4000000 in
theorem m_X9_digest (l : Launch) (D : zD) (v0 : Nat) (h : zH) : zMet l D yX9_digest M_X9_digest [.ref v0] h (f_X9_digest v0 h) := by
  refine zMet.of (by decide +kernel) ⟨rfl, rfl⟩ (Nat.le_of_ble_eq_true rfl) (fun Y hl hD => ?_)
  show Z Y M_X9_digest 0 0 0 [(0, .ref v0)] [] h _
  rw [f_X9_digest]
  refine z_ldc2 (x := 1867) qk_X9_278 (zat dd_X9_digest 0 rfl) ?_
  refine z_lstore_n (lv' := [(1, .long 1867), (0, .ref v0)]) (zat dd_X9_digest 1 rfl) rfl (Nat.le_of_ble_eq_true rfl) rfl ?_
  refine z_iconst (x := 0) (zat dd_X9_digest 2 rfl) (by decide) ?_
  refine z_istore_n (lv' := [(3, .int 0), (1, .long 1867), (0, .ref v0)]) (zat dd_X9_digest 3 rfl) rfl (Nat.le_of_ble_eq_true rfl) rfl ?_
  refine z_sub [2, 1, 0] rfl ?_
  exact zb_X9_digest_6 Y zF v0 1867 0 h
