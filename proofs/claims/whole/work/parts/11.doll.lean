/-! PaperDolls$Doll.<init>()V -/
def L_X1_init : List (Nat × Instr × Nat) := [(0, .aload_n 0, 1), (1, .invokespecial 3, 3), (4, .aload_n 0, 1), (5, .bipush 8, 2), (7, .newarray .int, 2), (9, .putfield 9, 3), (12, .aload_n 0, 1), (13, .bipush 8, 2), (15, .newarray .int, 2), (17, .putfield 15, 3), (20, .aload_n 0, 1), (21, .bipush 8, 2), (23, .newarray .int, 2), (25, .putfield 18, 3), (28, .aload_n 0, 1), (29, .new 21, 3), (32, .dup, 1), (33, .invokespecial 23, 3), (36, .putfield 24, 3), (39, .aload_n 0, 1), (40, .bipush 8, 2), (42, .anewarray 21, 3), (45, .putfield 28, 3), (48, .aload_n 0, 1), (49, .bipush 18, 2), (51, .newarray .int, 2), (53, .putfield 32, 3), (56, .aload_n 0, 1), (57, .bipush 24, 2), (59, .newarray .int, 2), (61, .putfield 35, 3), (64, .iconst 0, 1), (65, .istore_n 1, 1), (66, .iload_n 1, 1), (67, .bipush 8, 2), (69, .if_icmp .ge 22, 3), (72, .aload_n 0, 1), (73, .getfield 28, 3), (76, .iload_n 1, 1), (77, .new 21, 3), (80, .dup, 1), (81, .invokespecial 23, 3), (84, .aastore, 1), (85, .iinc 1 1, 3), (88, .goto (-22), 3), (91, .return_, 1)]
theorem dd_X1_init : ∀ q ∈ L_X1_init, decode cX1_init q.1 = .ok q.2 := by decide +kernel
abbrev M_X1_init : zM := (cX1_init, RX1, "<init>", 2, none, 1, 33, 254)
theorem u_X1_init : zCal yX1_init (M_X1_init) 0 := ⟨(zmem 87 (by decide +kernel) rfl : Cond.code yX1_init cX1_init 2 (none) ∈ zTb), zmem 58 (by decide +kernel) rfl, by decide +kernel, Nat.le_of_ble_eq_true rfl⟩
theorem qi_X1_init : Cond.instanceMethod yX1_init ∈ zTb := zmem 86 (by decide +kernel) rfl
def f_X1_init (v0 : Nat) (h : zH) : zR :=
  zN h (.inl (0, 8, .inl fun _ => 0)) fun a1 h2 =>
  zpV h2 v0 0 2 (.ref a1) fun h3 =>
  zN h3 (.inl (0, 8, .inl fun _ => 0)) fun a4 h5 =>
  zpV h5 v0 0 3 (.ref a4) fun h6 =>
  zN h6 (.inl (0, 8, .inl fun _ => 0)) fun a7 h8 =>
  zpV h8 v0 0 4 (.ref a7) fun h9 =>
  zN h9 (.inr (4, [.null, .null, .int 0, .int 0])) fun a10 h11 =>
  zcV (f_X8_init a10 h11) fun h12 =>
  zpV h12 v0 0 5 (.ref a10) fun h13 =>
  zN h13 (.inl (3, 8, .inr fun _ => none)) fun a14 h15 =>
  zpV h15 v0 0 6 (.ref a14) fun h16 =>
  zN h16 (.inl (0, 18, .inl fun _ => 0)) fun a17 h18 =>
  zpV h18 v0 0 8 (.ref a17) fun h19 =>
  zN h19 (.inl (0, 24, .inl fun _ => 0)) fun a20 h21 =>
  zpV h21 v0 0 10 (.ref a20) fun h22 =>
  zgR h22 v0 0 6 fun a23 =>
  zN h22 (.inr (4, [.null, .null, .int 0, .int 0])) fun a24 h25 =>
  zcV (f_X8_init a24 h25) fun h26 =>
  zsR h26 a23 3 0 a24 4 fun h27 =>
  zgR h27 v0 0 6 fun a28 =>
  zN h27 (.inr (4, [.null, .null, .int 0, .int 0])) fun a29 h30 =>
  zcV (f_X8_init a29 h30) fun h31 =>
  zsR h31 a28 3 1 a29 4 fun h32 =>
  zgR h32 v0 0 6 fun a33 =>
  zN h32 (.inr (4, [.null, .null, .int 0, .int 0])) fun a34 h35 =>
  zcV (f_X8_init a34 h35) fun h36 =>
  zsR h36 a33 3 2 a34 4 fun h37 =>
  zgR h37 v0 0 6 fun a38 =>
  zN h37 (.inr (4, [.null, .null, .int 0, .int 0])) fun a39 h40 =>
  zcV (f_X8_init a39 h40) fun h41 =>
  zsR h41 a38 3 3 a39 4 fun h42 =>
  zgR h42 v0 0 6 fun a43 =>
  zN h42 (.inr (4, [.null, .null, .int 0, .int 0])) fun a44 h45 =>
  zcV (f_X8_init a44 h45) fun h46 =>
  zsR h46 a43 3 4 a44 4 fun h47 =>
  zgR h47 v0 0 6 fun a48 =>
  zN h47 (.inr (4, [.null, .null, .int 0, .int 0])) fun a49 h50 =>
  zcV (f_X8_init a49 h50) fun h51 =>
  zsR h51 a48 3 5 a49 4 fun h52 =>
  zgR h52 v0 0 6 fun a53 =>
  zN h52 (.inr (4, [.null, .null, .int 0, .int 0])) fun a54 h55 =>
  zcV (f_X8_init a54 h55) fun h56 =>
  zsR h56 a53 3 6 a54 4 fun h57 =>
  zgR h57 v0 0 6 fun a58 =>
  zN h57 (.inr (4, [.null, .null, .int 0, .int 0])) fun a59 h60 =>
  zcV (f_X8_init a59 h60) fun h61 =>
  zsR h61 a58 3 7 a59 4 fun h62 =>
  zrV h62
set_option maxRecDepth 100000 in
set_option maxHeartbeats 4000000 in
theorem m_X1_init (l : Launch) (D : zD) (v0 : Nat) (h : zH) : zMet l D yX1_init M_X1_init [.ref v0] h (f_X1_init v0 h) := by
  refine zMet.of (by decide +kernel) ⟨rfl, rfl⟩ (Nat.le_of_ble_eq_true rfl) (fun Y hl hD => ?_)
  show Z Y M_X1_init 0 0 0 [(0, .ref v0)] [] h _
  rw [f_X1_init]
  refine z_aload_n 0 (zat dd_X1_init 0 rfl) rfl rfl ?_
  refine z_objInit ql_X1_3 qo_inst qo_code (Nat.le_of_ble_eq_true rfl) (zat dd_X1_init 1 rfl) ?_
  refine z_aload_n 0 (zat dd_X1_init 2 rfl) rfl rfl ?_
  refine z_bipush (x := 8) (zat dd_X1_init 3 rfl) (by decide) ?_
  refine z_newA0 (cells2 := 1) (slots2 := 8) qa_int (by decide) (by decide) (by decide) (by decide) (by decide) rfl rfl (zat dd_X1_init 4 rfl) (fun a1 h2 => ?_)
  refine z_putF fl_X1_9 rfl rfl rfl rfl (zat dd_X1_init 5 rfl) (fun h3 => ?_)
  refine z_aload_n 0 (zat dd_X1_init 6 rfl) rfl rfl ?_
  refine z_bipush (x := 8) (zat dd_X1_init 7 rfl) (by decide) ?_
  refine z_newA0 (cells2 := 2) (slots2 := 16) qa_int (by decide) (by decide) (by decide) (by decide) (by decide) rfl rfl (zat dd_X1_init 8 rfl) (fun a4 h5 => ?_)
  refine z_putF fl_X1_15 rfl rfl rfl rfl (zat dd_X1_init 9 rfl) (fun h6 => ?_)
  refine z_aload_n 0 (zat dd_X1_init 10 rfl) rfl rfl ?_
  refine z_bipush (x := 8) (zat dd_X1_init 11 rfl) (by decide) ?_
  refine z_newA0 (cells2 := 3) (slots2 := 24) qa_int (by decide) (by decide) (by decide) (by decide) (by decide) rfl rfl (zat dd_X1_init 12 rfl) (fun a7 h8 => ?_)
  refine z_putF fl_X1_18 rfl rfl rfl rfl (zat dd_X1_init 13 rfl) (fun h9 => ?_)
  refine z_aload_n 0 (zat dd_X1_init 14 rfl) rfl rfl ?_
  refine z_newN (cells2 := 4) (slots2 := 28) nw_X1_21 (by decide) (by decide) rfl rfl (zat dd_X1_init 15 rfl) (fun a10 h11 => ?_)
  refine z_dup (zat dd_X1_init 16 rfl) rfl ?_
  refine z_callIN_VA (cells2 := 6) (slots2 := 44) (M2 := M_X8_init) [] (fun l D _ _ => m_X8_init l D a10 h11) u_X8_init (by decide) qi_X8_init rfl rfl rfl rfl (Nat.le_of_ble_eq_true rfl) (by decide) (by decide) (by decide) rfl rfl (zat dd_X1_init 17 rfl) (fun h12 => ?_)
  refine z_putF fl_X1_24 rfl rfl rfl rfl (zat dd_X1_init 18 rfl) (fun h13 => ?_)
  refine z_aload_n 0 (zat dd_X1_init 19 rfl) rfl rfl ?_
  refine z_bipush (x := 8) (zat dd_X1_init 20 rfl) (by decide) ?_
  refine z_newA3 (cells2 := 7) (slots2 := 52) qc_X1_21 (by decide) (by decide) (by decide) (by decide) (by decide) rfl rfl (zat dd_X1_init 21 rfl) (fun a14 h15 => ?_)
  refine z_putF fl_X1_28 rfl rfl rfl rfl (zat dd_X1_init 22 rfl) (fun h16 => ?_)
  refine z_aload_n 0 (zat dd_X1_init 23 rfl) rfl rfl ?_
  refine z_bipush (x := 18) (zat dd_X1_init 24 rfl) (by decide) ?_
  refine z_newA0 (cells2 := 8) (slots2 := 70) qa_int (by decide) (by decide) (by decide) (by decide) (by decide) rfl rfl (zat dd_X1_init 25 rfl) (fun a17 h18 => ?_)
  refine z_putF fl_X1_32 rfl rfl rfl rfl (zat dd_X1_init 26 rfl) (fun h19 => ?_)
  refine z_aload_n 0 (zat dd_X1_init 27 rfl) rfl rfl ?_
  refine z_bipush (x := 24) (zat dd_X1_init 28 rfl) (by decide) ?_
  refine z_newA0 (cells2 := 9) (slots2 := 94) qa_int (by decide) (by decide) (by decide) (by decide) (by decide) rfl rfl (zat dd_X1_init 29 rfl) (fun a20 h21 => ?_)
  refine z_putF fl_X1_35 rfl rfl rfl rfl (zat dd_X1_init 30 rfl) (fun h22 => ?_)
  refine z_iconst (x := 0) (zat dd_X1_init 31 rfl) (by decide) ?_
  refine z_istore_n (lv' := [(1, .int 0), (0, .ref v0)]) (zat dd_X1_init 32 rfl) rfl (Nat.le_of_ble_eq_true rfl) rfl ?_
  refine z_iload_n 0 (zat dd_X1_init 33 rfl) rfl rfl ?_
  refine z_bipush (x := 8) (zat dd_X1_init 34 rfl) (by decide) ?_
  refine z_icmp_ge_f (tgt := 91) (zat dd_X1_init 35 rfl) (by decide) (by decide) ?_
  refine z_aload_n 1 (zat dd_X1_init 36 rfl) rfl rfl ?_
  refine z_getR fl_X1_28 (zat dd_X1_init 37 rfl) (fun a23 => ?_)
  refine z_iload_n 0 (zat dd_X1_init 38 rfl) rfl rfl ?_
  refine z_newN (cells2 := 10) (slots2 := 98) nw_X1_21 (by decide) (by decide) rfl rfl (zat dd_X1_init 39 rfl) (fun a24 h25 => ?_)
  refine z_dup (zat dd_X1_init 40 rfl) rfl ?_
  refine z_callIN_VA (cells2 := 12) (slots2 := 114) (M2 := M_X8_init) [] (fun l D _ _ => m_X8_init l D a24 h25) u_X8_init (by decide) qi_X8_init rfl rfl rfl rfl (Nat.le_of_ble_eq_true rfl) (by decide) (by decide) (by decide) rfl rfl (zat dd_X1_init 41 rfl) (fun h26 => ?_)
  refine z_aast (q := (RX8, TX8, 4)) (fun _ => rfl) rfl (zat dd_X1_init 42 rfl) (fun h27 => ?_)
  refine z_iinc (y := 1) (lv' := [(1, .int 1), (0, .ref v0)]) 0 (zat dd_X1_init 43 rfl) rfl (by decide) (Nat.le_of_ble_eq_true rfl) rfl ?_
  refine z_goto (tgt := 66) (zat dd_X1_init 44 rfl) (by decide) ?_
  refine z_iload_n 0 (zat dd_X1_init 33 rfl) rfl rfl ?_
  refine z_bipush (x := 8) (zat dd_X1_init 34 rfl) (by decide) ?_
  refine z_icmp_ge_f (tgt := 91) (zat dd_X1_init 35 rfl) (by decide) (by decide) ?_
  refine z_aload_n 1 (zat dd_X1_init 36 rfl) rfl rfl ?_
  refine z_getR fl_X1_28 (zat dd_X1_init 37 rfl) (fun a28 => ?_)
  refine z_iload_n 0 (zat dd_X1_init 38 rfl) rfl rfl ?_
  refine z_newN (cells2 := 13) (slots2 := 118) nw_X1_21 (by decide) (by decide) rfl rfl (zat dd_X1_init 39 rfl) (fun a29 h30 => ?_)
  refine z_dup (zat dd_X1_init 40 rfl) rfl ?_
  refine z_callIN_VA (cells2 := 15) (slots2 := 134) (M2 := M_X8_init) [] (fun l D _ _ => m_X8_init l D a29 h30) u_X8_init (by decide) qi_X8_init rfl rfl rfl rfl (Nat.le_of_ble_eq_true rfl) (by decide) (by decide) (by decide) rfl rfl (zat dd_X1_init 41 rfl) (fun h31 => ?_)
  refine z_aast (q := (RX8, TX8, 4)) (fun _ => rfl) rfl (zat dd_X1_init 42 rfl) (fun h32 => ?_)
  refine z_iinc (y := 2) (lv' := [(1, .int 2), (0, .ref v0)]) 0 (zat dd_X1_init 43 rfl) rfl (by decide) (Nat.le_of_ble_eq_true rfl) rfl ?_
  refine z_goto (tgt := 66) (zat dd_X1_init 44 rfl) (by decide) ?_
  refine z_iload_n 0 (zat dd_X1_init 33 rfl) rfl rfl ?_
  refine z_bipush (x := 8) (zat dd_X1_init 34 rfl) (by decide) ?_
  refine z_icmp_ge_f (tgt := 91) (zat dd_X1_init 35 rfl) (by decide) (by decide) ?_
  refine z_aload_n 1 (zat dd_X1_init 36 rfl) rfl rfl ?_
  refine z_getR fl_X1_28 (zat dd_X1_init 37 rfl) (fun a33 => ?_)
  refine z_iload_n 0 (zat dd_X1_init 38 rfl) rfl rfl ?_
  refine z_newN (cells2 := 16) (slots2 := 138) nw_X1_21 (by decide) (by decide) rfl rfl (zat dd_X1_init 39 rfl) (fun a34 h35 => ?_)
  refine z_dup (zat dd_X1_init 40 rfl) rfl ?_
  refine z_callIN_VA (cells2 := 18) (slots2 := 154) (M2 := M_X8_init) [] (fun l D _ _ => m_X8_init l D a34 h35) u_X8_init (by decide) qi_X8_init rfl rfl rfl rfl (Nat.le_of_ble_eq_true rfl) (by decide) (by decide) (by decide) rfl rfl (zat dd_X1_init 41 rfl) (fun h36 => ?_)
  refine z_aast (q := (RX8, TX8, 4)) (fun _ => rfl) rfl (zat dd_X1_init 42 rfl) (fun h37 => ?_)
  refine z_iinc (y := 3) (lv' := [(1, .int 3), (0, .ref v0)]) 0 (zat dd_X1_init 43 rfl) rfl (by decide) (Nat.le_of_ble_eq_true rfl) rfl ?_
  refine z_goto (tgt := 66) (zat dd_X1_init 44 rfl) (by decide) ?_
  refine z_iload_n 0 (zat dd_X1_init 33 rfl) rfl rfl ?_
  refine z_bipush (x := 8) (zat dd_X1_init 34 rfl) (by decide) ?_
  refine z_icmp_ge_f (tgt := 91) (zat dd_X1_init 35 rfl) (by decide) (by decide) ?_
  refine z_aload_n 1 (zat dd_X1_init 36 rfl) rfl rfl ?_
  refine z_getR fl_X1_28 (zat dd_X1_init 37 rfl) (fun a38 => ?_)
  refine z_iload_n 0 (zat dd_X1_init 38 rfl) rfl rfl ?_
  refine z_newN (cells2 := 19) (slots2 := 158) nw_X1_21 (by decide) (by decide) rfl rfl (zat dd_X1_init 39 rfl) (fun a39 h40 => ?_)
  refine z_dup (zat dd_X1_init 40 rfl) rfl ?_
  refine z_callIN_VA (cells2 := 21) (slots2 := 174) (M2 := M_X8_init) [] (fun l D _ _ => m_X8_init l D a39 h40) u_X8_init (by decide) qi_X8_init rfl rfl rfl rfl (Nat.le_of_ble_eq_true rfl) (by decide) (by decide) (by decide) rfl rfl (zat dd_X1_init 41 rfl) (fun h41 => ?_)
  refine z_aast (q := (RX8, TX8, 4)) (fun _ => rfl) rfl (zat dd_X1_init 42 rfl) (fun h42 => ?_)
  refine z_iinc (y := 4) (lv' := [(1, .int 4), (0, .ref v0)]) 0 (zat dd_X1_init 43 rfl) rfl (by decide) (Nat.le_of_ble_eq_true rfl) rfl ?_
  refine z_goto (tgt := 66) (zat dd_X1_init 44 rfl) (by decide) ?_
  refine z_iload_n 0 (zat dd_X1_init 33 rfl) rfl rfl ?_
  refine z_bipush (x := 8) (zat dd_X1_init 34 rfl) (by decide) ?_
  refine z_icmp_ge_f (tgt := 91) (zat dd_X1_init 35 rfl) (by decide) (by decide) ?_
  refine z_aload_n 1 (zat dd_X1_init 36 rfl) rfl rfl ?_
  refine z_getR fl_X1_28 (zat dd_X1_init 37 rfl) (fun a43 => ?_)
  refine z_iload_n 0 (zat dd_X1_init 38 rfl) rfl rfl ?_
  refine z_newN (cells2 := 22) (slots2 := 178) nw_X1_21 (by decide) (by decide) rfl rfl (zat dd_X1_init 39 rfl) (fun a44 h45 => ?_)
  refine z_dup (zat dd_X1_init 40 rfl) rfl ?_
  refine z_callIN_VA (cells2 := 24) (slots2 := 194) (M2 := M_X8_init) [] (fun l D _ _ => m_X8_init l D a44 h45) u_X8_init (by decide) qi_X8_init rfl rfl rfl rfl (Nat.le_of_ble_eq_true rfl) (by decide) (by decide) (by decide) rfl rfl (zat dd_X1_init 41 rfl) (fun h46 => ?_)
  refine z_aast (q := (RX8, TX8, 4)) (fun _ => rfl) rfl (zat dd_X1_init 42 rfl) (fun h47 => ?_)
  refine z_iinc (y := 5) (lv' := [(1, .int 5), (0, .ref v0)]) 0 (zat dd_X1_init 43 rfl) rfl (by decide) (Nat.le_of_ble_eq_true rfl) rfl ?_
  refine z_goto (tgt := 66) (zat dd_X1_init 44 rfl) (by decide) ?_
  refine z_iload_n 0 (zat dd_X1_init 33 rfl) rfl rfl ?_
  refine z_bipush (x := 8) (zat dd_X1_init 34 rfl) (by decide) ?_
  refine z_icmp_ge_f (tgt := 91) (zat dd_X1_init 35 rfl) (by decide) (by decide) ?_
  refine z_aload_n 1 (zat dd_X1_init 36 rfl) rfl rfl ?_
  refine z_getR fl_X1_28 (zat dd_X1_init 37 rfl) (fun a48 => ?_)
  refine z_iload_n 0 (zat dd_X1_init 38 rfl) rfl rfl ?_
  refine z_newN (cells2 := 25) (slots2 := 198) nw_X1_21 (by decide) (by decide) rfl rfl (zat dd_X1_init 39 rfl) (fun a49 h50 => ?_)
  refine z_dup (zat dd_X1_init 40 rfl) rfl ?_
  refine z_callIN_VA (cells2 := 27) (slots2 := 214) (M2 := M_X8_init) [] (fun l D _ _ => m_X8_init l D a49 h50) u_X8_init (by decide) qi_X8_init rfl rfl rfl rfl (Nat.le_of_ble_eq_true rfl) (by decide) (by decide) (by decide) rfl rfl (zat dd_X1_init 41 rfl) (fun h51 => ?_)
  refine z_aast (q := (RX8, TX8, 4)) (fun _ => rfl) rfl (zat dd_X1_init 42 rfl) (fun h52 => ?_)
  refine z_iinc (y := 6) (lv' := [(1, .int 6), (0, .ref v0)]) 0 (zat dd_X1_init 43 rfl) rfl (by decide) (Nat.le_of_ble_eq_true rfl) rfl ?_
  refine z_goto (tgt := 66) (zat dd_X1_init 44 rfl) (by decide) ?_
  refine z_iload_n 0 (zat dd_X1_init 33 rfl) rfl rfl ?_
  refine z_bipush (x := 8) (zat dd_X1_init 34 rfl) (by decide) ?_
  refine z_icmp_ge_f (tgt := 91) (zat dd_X1_init 35 rfl) (by decide) (by decide) ?_
  refine z_aload_n 1 (zat dd_X1_init 36 rfl) rfl rfl ?_
  refine z_getR fl_X1_28 (zat dd_X1_init 37 rfl) (fun a53 => ?_)
  refine z_iload_n 0 (zat dd_X1_init 38 rfl) rfl rfl ?_
  refine z_newN (cells2 := 28) (slots2 := 218) nw_X1_21 (by decide) (by decide) rfl rfl (zat dd_X1_init 39 rfl) (fun a54 h55 => ?_)
  refine z_dup (zat dd_X1_init 40 rfl) rfl ?_
  refine z_callIN_VA (cells2 := 30) (slots2 := 234) (M2 := M_X8_init) [] (fun l D _ _ => m_X8_init l D a54 h55) u_X8_init (by decide) qi_X8_init rfl rfl rfl rfl (Nat.le_of_ble_eq_true rfl) (by decide) (by decide) (by decide) rfl rfl (zat dd_X1_init 41 rfl) (fun h56 => ?_)
  refine z_aast (q := (RX8, TX8, 4)) (fun _ => rfl) rfl (zat dd_X1_init 42 rfl) (fun h57 => ?_)
  refine z_iinc (y := 7) (lv' := [(1, .int 7), (0, .ref v0)]) 0 (zat dd_X1_init 43 rfl) rfl (by decide) (Nat.le_of_ble_eq_true rfl) rfl ?_
  refine z_goto (tgt := 66) (zat dd_X1_init 44 rfl) (by decide) ?_
  refine z_iload_n 0 (zat dd_X1_init 33 rfl) rfl rfl ?_
  refine z_bipush (x := 8) (zat dd_X1_init 34 rfl) (by decide) ?_
  refine z_icmp_ge_f (tgt := 91) (zat dd_X1_init 35 rfl) (by decide) (by decide) ?_
  refine z_aload_n 1 (zat dd_X1_init 36 rfl) rfl rfl ?_
  refine z_getR fl_X1_28 (zat dd_X1_init 37 rfl) (fun a58 => ?_)
  refine z_iload_n 0 (zat dd_X1_init 38 rfl) rfl rfl ?_
  refine z_newN (cells2 := 31) (slots2 := 238) nw_X1_21 (by decide) (by decide) rfl rfl (zat dd_X1_init 39 rfl) (fun a59 h60 => ?_)
  refine z_dup (zat dd_X1_init 40 rfl) rfl ?_
  refine z_callIN_VA (cells2 := 33) (slots2 := 254) (M2 := M_X8_init) [] (fun l D _ _ => m_X8_init l D a59 h60) u_X8_init (by decide) qi_X8_init rfl rfl rfl rfl (Nat.le_of_ble_eq_true rfl) (by decide) (by decide) (by decide) rfl rfl (zat dd_X1_init 41 rfl) (fun h61 => ?_)
  refine z_aast (q := (RX8, TX8, 4)) (fun _ => rfl) rfl (zat dd_X1_init 42 rfl) (fun h62 => ?_)
  refine z_iinc (y := 8) (lv' := [(1, .int 8), (0, .ref v0)]) 0 (zat dd_X1_init 43 rfl) rfl (by decide) (Nat.le_of_ble_eq_true rfl) rfl ?_
  refine z_goto (tgt := 66) (zat dd_X1_init 44 rfl) (by decide) ?_
  refine z_iload_n 0 (zat dd_X1_init 33 rfl) rfl rfl ?_
  refine z_bipush (x := 8) (zat dd_X1_init 34 rfl) (by decide) ?_
  refine z_icmp_ge_t (tgt := 91) (zat dd_X1_init 35 rfl) (by decide) (by decide) ?_
  exact z_vret rfl (zat dd_X1_init 45 rfl)
/-! PaperDolls$Doll.begin(I)V -/
def L_X1_begin : List (Nat × Instr × Nat) := [(0, .aload_n 0, 1), (1, .iload_n 1, 1), (2, .putfield 38, 3), (5, .aload_n 0, 1), (6, .iconst 0, 1), (7, .putfield 42, 3), (10, .aload_n 0, 1), (11, .getfield 24, 3), (14, .invokevirtual 45, 3), (17, .aload_n 0, 1), (18, .iconst 0, 1), (19, .putfield 48, 3), (22, .aload_n 0, 1), (23, .iconst 0, 1), (24, .putfield 51, 3), (27, .aload_n 0, 1), (28, .iconst 0, 1), (29, .putfield 54, 3), (32, .return_, 1)]
theorem dd_X1_begin : ∀ q ∈ L_X1_begin, decode cX1_begin q.1 = .ok q.2 := by decide +kernel
abbrev M_X1_begin : zM := (cX1_begin, RX1, "begin", 2, none, 1, 0, 0)
theorem u_X1_begin : zCal yX1_begin (M_X1_begin) 1 := ⟨(zmem 297 (by decide +kernel) rfl : Cond.code yX1_begin cX1_begin 2 (none) ∈ zTb), zmem 58 (by decide +kernel) rfl, by decide +kernel, Nat.le_of_ble_eq_true rfl⟩
theorem qi_X1_begin : Cond.instanceMethod yX1_begin ∈ zTb := zmem 295 (by decide +kernel) rfl
theorem qs_X1_begin : Cond.selects yX1_begin.cls yX1_begin yX1_begin ∈ zTb := zmem 296 (by decide +kernel) rfl
def f_X1_begin (v0 : Nat) (v1 : Int32) (h : zH) : zR :=
  zpV h v0 0 0 (.int v1) fun h1 =>
  zpV h1 v0 0 1 (.int 0) fun h2 =>
  zgR h2 v0 0 5 fun a3 =>
  zoc h2 a3 4 <|
  zcV (f_X8_begin a3 h2) fun h4 =>
  zpV h4 v0 0 7 (.int 0) fun h5 =>
  zpV h5 v0 0 9 (.int 0) fun h6 =>
  zpV h6 v0 0 11 (.int 0) fun h7 =>
  zrV h7
set_option maxRecDepth 100000 in
set_option maxHeartbeats 4000000 in
theorem m_X1_begin (l : Launch) (D : zD) (v0 : Nat) (v1 : Int32) (h : zH) : zMet l D yX1_begin M_X1_begin [.ref v0, .int v1] h (f_X1_begin v0 v1 h) := by
  refine zMet.of (by decide +kernel) ⟨rfl, rfl⟩ (Nat.le_of_ble_eq_true rfl) (fun Y hl hD => ?_)
  show Z Y M_X1_begin 0 0 0 [(0, .ref v0), (1, .int v1)] [] h _
  rw [f_X1_begin]
  refine z_aload_n 0 (zat dd_X1_begin 0 rfl) rfl rfl ?_
  refine z_iload_n 1 (zat dd_X1_begin 1 rfl) rfl rfl ?_
  refine z_put fl_X1_38 rfl rfl (zat dd_X1_begin 2 rfl) (fun h1 => ?_)
  refine z_aload_n 0 (zat dd_X1_begin 3 rfl) rfl rfl ?_
  refine z_iconst (x := 0) (zat dd_X1_begin 4 rfl) (by decide) ?_
  refine z_put fl_X1_42 rfl rfl (zat dd_X1_begin 5 rfl) (fun h2 => ?_)
  refine z_aload_n 0 (zat dd_X1_begin 6 rfl) rfl rfl ?_
  refine z_getR fl_X1_24 (zat dd_X1_begin 7 rfl) (fun a3 => ?_)
  refine z_callV_V0 (M2 := M_X8_begin) [] (fun l D _ _ => m_X8_begin l D a3 h2) u_X8_begin ql_X1_45 qi_X8_begin qs_X8_begin (ci := 4) rfl rfl rfl (Nat.le_of_ble_eq_true rfl) (by decide) rfl rfl (zat dd_X1_begin 8 rfl) (fun h4 => ?_)
  refine z_aload_n 0 (zat dd_X1_begin 9 rfl) rfl rfl ?_
  refine z_iconst (x := 0) (zat dd_X1_begin 10 rfl) (by decide) ?_
  refine z_put fl_X1_48 rfl rfl (zat dd_X1_begin 11 rfl) (fun h5 => ?_)
  refine z_aload_n 0 (zat dd_X1_begin 12 rfl) rfl rfl ?_
  refine z_iconst (x := 0) (zat dd_X1_begin 13 rfl) (by decide) ?_
  refine z_put fl_X1_51 rfl rfl (zat dd_X1_begin 14 rfl) (fun h6 => ?_)
  refine z_aload_n 0 (zat dd_X1_begin 15 rfl) rfl rfl ?_
  refine z_iconst (x := 0) (zat dd_X1_begin 16 rfl) (by decide) ?_
  refine z_put fl_X1_54 rfl rfl (zat dd_X1_begin 17 rfl) (fun h7 => ?_)
  exact z_vret rfl (zat dd_X1_begin 18 rfl)
/-! PaperDolls$Doll.copyFrom(LPaperDolls$Doll;)V -/
def L_X1_copyFrom : List (Nat × Instr × Nat) := [(0, .aload_n 0, 1), (1, .aload_n 1, 1), (2, .getfield 38, 3), (5, .putfield 38, 3), (8, .aload_n 0, 1), (9, .aload_n 1, 1), (10, .getfield 42, 3), (13, .putfield 42, 3), (16, .aload_n 1, 1), (17, .getfield 9, 3), (20, .iconst 0, 1), (21, .aload_n 0, 1), (22, .getfield 9, 3), (25, .iconst 0, 1), (26, .bipush 8, 2), (28, .invokestatic 57, 3), (31, .aload_n 1, 1), (32, .getfield 15, 3), (35, .iconst 0, 1), (36, .aload_n 0, 1), (37, .getfield 15, 3), (40, .iconst 0, 1), (41, .bipush 8, 2), (43, .invokestatic 57, 3), (46, .aload_n 1, 1), (47, .getfield 18, 3), (50, .iconst 0, 1), (51, .aload_n 0, 1), (52, .getfield 18, 3), (55, .iconst 0, 1), (56, .bipush 8, 2), (58, .invokestatic 57, 3), (61, .aload_n 0, 1), (62, .getfield 24, 3), (65, .aload_n 1, 1), (66, .getfield 24, 3), (69, .invokevirtual 63, 3), (72, .aload_n 0, 1), (73, .aload_n 1, 1), (74, .getfield 48, 3), (77, .putfield 48, 3), (80, .iconst 0, 1), (81, .istore_n 2, 1), (82, .iload_n 2, 1), (83, .aload_n 0, 1), (84, .getfield 48, 3), (87, .if_icmp .ge 24, 3), (90, .aload_n 0, 1), (91, .getfield 28, 3), (94, .iload_n 2, 1), (95, .aaload, 1), (96, .aload_n 1, 1), (97, .getfield 28, 3), (100, .iload_n 2, 1), (101, .aaload, 1), (102, .invokevirtual 63, 3), (105, .iinc 2 1, 3), (108, .goto (-26), 3), (111, .aload_n 0, 1), (112, .aload_n 1, 1), (113, .getfield 51, 3), (116, .putfield 51, 3), (119, .aload_n 1, 1), (120, .getfield 32, 3), (123, .iconst 0, 1), (124, .aload_n 0, 1), (125, .getfield 32, 3), (128, .iconst 0, 1), (129, .bipush 18, 2), (131, .invokestatic 57, 3), (134, .aload_n 0, 1), (135, .aload_n 1, 1), (136, .getfield 54, 3), (139, .putfield 54, 3), (142, .aload_n 1, 1), (143, .getfield 35, 3), (146, .iconst 0, 1), (147, .aload_n 0, 1), (148, .getfield 35, 3), (151, .iconst 0, 1), (152, .bipush 24, 2), (154, .invokestatic 57, 3), (157, .return_, 1)]
theorem dd_X1_copyFrom : ∀ q ∈ L_X1_copyFrom, decode cX1_copyFrom q.1 = .ok q.2 := by decide +kernel
abbrev M_X1_copyFrom : zM := (cX1_copyFrom, RX1, "copyFrom", 3, none, 1, 0, 0)
theorem u_X1_copyFrom : zCal yX1_copyFrom (M_X1_copyFrom) 1 := ⟨(zmem 474 (by decide +kernel) rfl : Cond.code yX1_copyFrom cX1_copyFrom 3 (none) ∈ zTb), zmem 58 (by decide +kernel) rfl, by decide +kernel, Nat.le_of_ble_eq_true rfl⟩
theorem qi_X1_copyFrom : Cond.instanceMethod yX1_copyFrom ∈ zTb := zmem 472 (by decide +kernel) rfl
theorem qs_X1_copyFrom : Cond.selects yX1_copyFrom.cls yX1_copyFrom yX1_copyFrom ∈ zTb := zmem 473 (by decide +kernel) rfl
def f_X1_copyFrom_82 : Nat → Nat → Nat → Int32 → zH → zR
  | 0, _, _, _, _ => none
  | n + 1, v0, v1, v2, h =>
  zgI h v0 0 7 fun x1 =>
  if x1 ≤ v2 then
  zgI h v1 0 9 fun x2 =>
  zpV h v0 0 9 (.int x2) fun h3 =>
  zgR h3 v1 0 8 fun a4 =>
  zgR h3 v0 0 8 fun a5 =>
  zcp h3 a4 0 a5 0 18 fun h6 =>
  zgI h6 v1 0 11 fun x7 =>
  zpV h6 v0 0 11 (.int x7) fun h8 =>
  zgR h8 v1 0 10 fun a9 =>
  zgR h8 v0 0 10 fun a10 =>
  zcp h8 a9 0 a10 0 24 fun h11 =>
  zrV h11
  else
  zgR h v0 0 6 fun a12 =>
  zaR h a12 3 v2 fun a13 =>
  zgR h v1 0 6 fun a14 =>
  zaR h a14 3 v2 fun a15 =>
  zoc h a13 4 <|
  zcV (f_X8_copyFrom a13 a15 h) fun h16 =>
  f_X1_copyFrom_82 n v0 v1 (v2 + 1) h16
set_option maxRecDepth 100000 in
set_option maxHeartbeats 4000000 in
theorem zb_X1_copyFrom_82 (Y : zY) : ∀ (n : Nat) (v0 : Nat) (v1 : Nat) (v2 : Int32) (h : zH), Z Y M_X1_copyFrom 0 0 82 [(0, .ref v0), (1, .ref v1), (2, .int v2)] [] h (f_X1_copyFrom_82 n v0 v1 v2 h) := by
  intro n
  induction n with
  | zero =>
    intro v0 v1 v2 h
    rw [f_X1_copyFrom_82]
    exact z_none
  | succ n ih =>
    intro v0 v1 v2 h
    rw [f_X1_copyFrom_82]
    refine z_iload_n 2 (zat dd_X1_copyFrom 43 rfl) rfl rfl ?_
    refine z_aload_n 0 (zat dd_X1_copyFrom 44 rfl) rfl rfl ?_
    refine z_getI fl_X1_48 (zat dd_X1_copyFrom 45 rfl) (fun x1 => ?_)
    refine z_icmp_ge (tgt := 111) (zat dd_X1_copyFrom 46 rfl) (by decide) ?_ ?_
    · refine z_aload_n 0 (zat dd_X1_copyFrom 58 rfl) rfl rfl ?_
      refine z_aload_n 1 (zat dd_X1_copyFrom 59 rfl) rfl rfl ?_
      refine z_getI fl_X1_51 (zat dd_X1_copyFrom 60 rfl) (fun x2 => ?_)
      refine z_put fl_X1_51 rfl rfl (zat dd_X1_copyFrom 61 rfl) (fun h3 => ?_)
      refine z_aload_n 1 (zat dd_X1_copyFrom 62 rfl) rfl rfl ?_
      refine z_getR fl_X1_32 (zat dd_X1_copyFrom 63 rfl) (fun a4 => ?_)
      refine z_iconst (x := 0) (zat dd_X1_copyFrom 64 rfl) (by decide) ?_
      refine z_aload_n 0 (zat dd_X1_copyFrom 65 rfl) rfl rfl ?_
      refine z_getR fl_X1_32 (zat dd_X1_copyFrom 66 rfl) (fun a5 => ?_)
      refine z_iconst (x := 0) (zat dd_X1_copyFrom 67 rfl) (by decide) ?_
      refine z_bipush (x := 18) (zat dd_X1_copyFrom 68 rfl) (by decide) ?_
      refine z_copy ql_X1_57 qo_nat qo_cst qo_sys (Nat.le_of_ble_eq_true rfl) (zat dd_X1_copyFrom 69 rfl) (fun h6 => ?_)
      refine z_aload_n 0 (zat dd_X1_copyFrom 70 rfl) rfl rfl ?_
      refine z_aload_n 1 (zat dd_X1_copyFrom 71 rfl) rfl rfl ?_
      refine z_getI fl_X1_54 (zat dd_X1_copyFrom 72 rfl) (fun x7 => ?_)
      refine z_put fl_X1_54 rfl rfl (zat dd_X1_copyFrom 73 rfl) (fun h8 => ?_)
      refine z_aload_n 1 (zat dd_X1_copyFrom 74 rfl) rfl rfl ?_
      refine z_getR fl_X1_35 (zat dd_X1_copyFrom 75 rfl) (fun a9 => ?_)
      refine z_iconst (x := 0) (zat dd_X1_copyFrom 76 rfl) (by decide) ?_
      refine z_aload_n 0 (zat dd_X1_copyFrom 77 rfl) rfl rfl ?_
      refine z_getR fl_X1_35 (zat dd_X1_copyFrom 78 rfl) (fun a10 => ?_)
      refine z_iconst (x := 0) (zat dd_X1_copyFrom 79 rfl) (by decide) ?_
      refine z_bipush (x := 24) (zat dd_X1_copyFrom 80 rfl) (by decide) ?_
      refine z_copy ql_X1_57 qo_nat qo_cst qo_sys (Nat.le_of_ble_eq_true rfl) (zat dd_X1_copyFrom 81 rfl) (fun h11 => ?_)
      exact z_vret rfl (zat dd_X1_copyFrom 82 rfl)
    · refine z_aload_n 0 (zat dd_X1_copyFrom 47 rfl) rfl rfl ?_
      refine z_getR fl_X1_28 (zat dd_X1_copyFrom 48 rfl) (fun a12 => ?_)
      refine z_iload_n 2 (zat dd_X1_copyFrom 49 rfl) rfl rfl ?_
      refine z_aald (fun _ => rfl) (zat dd_X1_copyFrom 50 rfl) (fun a13 => ?_)
      refine z_aload_n 1 (zat dd_X1_copyFrom 51 rfl) rfl rfl ?_
      refine z_getR fl_X1_28 (zat dd_X1_copyFrom 52 rfl) (fun a14 => ?_)
      refine z_iload_n 2 (zat dd_X1_copyFrom 53 rfl) rfl rfl ?_
      refine z_aald (fun _ => rfl) (zat dd_X1_copyFrom 54 rfl) (fun a15 => ?_)
      refine z_callV_V0 (M2 := M_X8_copyFrom) [.ref a15] (fun l D _ _ => m_X8_copyFrom l D a13 a15 h) u_X8_copyFrom ql_X1_63 qi_X8_copyFrom qs_X8_copyFrom (ci := 4) rfl rfl rfl (Nat.le_of_ble_eq_true rfl) (by decide) rfl rfl (zat dd_X1_copyFrom 55 rfl) (fun h16 => ?_)
      refine z_iinc (y := v2 + 1) (lv' := [(2, .int (v2 + 1)), (0, .ref v0), (1, .ref v1)]) 2 (zat dd_X1_copyFrom 56 rfl) rfl rfl (Nat.le_of_ble_eq_true rfl) rfl ?_
      refine z_goto (tgt := 82) (zat dd_X1_copyFrom 57 rfl) (by decide) ?_
      refine z_sub [1, 2, 0] rfl ?_
      exact ih v0 v1 (v2 + 1) h16
def f_X1_copyFrom (v0 : Nat) (v1 : Nat) (h : zH) : zR :=
  zgI h v1 0 0 fun x1 =>
  zpV h v0 0 0 (.int x1) fun h2 =>
  zgI h2 v1 0 1 fun x3 =>
  zpV h2 v0 0 1 (.int x3) fun h4 =>
  zgR h4 v1 0 2 fun a5 =>
  zgR h4 v0 0 2 fun a6 =>
  zcp h4 a5 0 a6 0 8 fun h7 =>
  zgR h7 v1 0 3 fun a8 =>
  zgR h7 v0 0 3 fun a9 =>
  zcp h7 a8 0 a9 0 8 fun h10 =>
  zgR h10 v1 0 4 fun a11 =>
  zgR h10 v0 0 4 fun a12 =>
  zcp h10 a11 0 a12 0 8 fun h13 =>
  zgR h13 v0 0 5 fun a14 =>
  zgR h13 v1 0 5 fun a15 =>
  zoc h13 a14 4 <|
  zcV (f_X8_copyFrom a14 a15 h13) fun h16 =>
  zgI h16 v1 0 7 fun x17 =>
  zpV h16 v0 0 7 (.int x17) fun h18 =>
  f_X1_copyFrom_82 zF v0 v1 0 h18
set_option maxRecDepth 100000 in
set_option maxHeartbeats 4000000 in
theorem m_X1_copyFrom (l : Launch) (D : zD) (v0 : Nat) (v1 : Nat) (h : zH) : zMet l D yX1_copyFrom M_X1_copyFrom [.ref v0, .ref v1] h (f_X1_copyFrom v0 v1 h) := by
  refine zMet.of (by decide +kernel) ⟨rfl, rfl⟩ (Nat.le_of_ble_eq_true rfl) (fun Y hl hD => ?_)
  show Z Y M_X1_copyFrom 0 0 0 [(0, .ref v0), (1, .ref v1)] [] h _
  rw [f_X1_copyFrom]
  refine z_aload_n 0 (zat dd_X1_copyFrom 0 rfl) rfl rfl ?_
  refine z_aload_n 1 (zat dd_X1_copyFrom 1 rfl) rfl rfl ?_
  refine z_getI fl_X1_38 (zat dd_X1_copyFrom 2 rfl) (fun x1 => ?_)
  refine z_put fl_X1_38 rfl rfl (zat dd_X1_copyFrom 3 rfl) (fun h2 => ?_)
  refine z_aload_n 0 (zat dd_X1_copyFrom 4 rfl) rfl rfl ?_
  refine z_aload_n 1 (zat dd_X1_copyFrom 5 rfl) rfl rfl ?_
  refine z_getI fl_X1_42 (zat dd_X1_copyFrom 6 rfl) (fun x3 => ?_)
  refine z_put fl_X1_42 rfl rfl (zat dd_X1_copyFrom 7 rfl) (fun h4 => ?_)
  refine z_aload_n 1 (zat dd_X1_copyFrom 8 rfl) rfl rfl ?_
  refine z_getR fl_X1_9 (zat dd_X1_copyFrom 9 rfl) (fun a5 => ?_)
  refine z_iconst (x := 0) (zat dd_X1_copyFrom 10 rfl) (by decide) ?_
  refine z_aload_n 0 (zat dd_X1_copyFrom 11 rfl) rfl rfl ?_
  refine z_getR fl_X1_9 (zat dd_X1_copyFrom 12 rfl) (fun a6 => ?_)
  refine z_iconst (x := 0) (zat dd_X1_copyFrom 13 rfl) (by decide) ?_
  refine z_bipush (x := 8) (zat dd_X1_copyFrom 14 rfl) (by decide) ?_
  refine z_copy ql_X1_57 qo_nat qo_cst qo_sys (Nat.le_of_ble_eq_true rfl) (zat dd_X1_copyFrom 15 rfl) (fun h7 => ?_)
  refine z_aload_n 1 (zat dd_X1_copyFrom 16 rfl) rfl rfl ?_
  refine z_getR fl_X1_15 (zat dd_X1_copyFrom 17 rfl) (fun a8 => ?_)
  refine z_iconst (x := 0) (zat dd_X1_copyFrom 18 rfl) (by decide) ?_
  refine z_aload_n 0 (zat dd_X1_copyFrom 19 rfl) rfl rfl ?_
  refine z_getR fl_X1_15 (zat dd_X1_copyFrom 20 rfl) (fun a9 => ?_)
  refine z_iconst (x := 0) (zat dd_X1_copyFrom 21 rfl) (by decide) ?_
  refine z_bipush (x := 8) (zat dd_X1_copyFrom 22 rfl) (by decide) ?_
  refine z_copy ql_X1_57 qo_nat qo_cst qo_sys (Nat.le_of_ble_eq_true rfl) (zat dd_X1_copyFrom 23 rfl) (fun h10 => ?_)
  refine z_aload_n 1 (zat dd_X1_copyFrom 24 rfl) rfl rfl ?_
  refine z_getR fl_X1_18 (zat dd_X1_copyFrom 25 rfl) (fun a11 => ?_)
  refine z_iconst (x := 0) (zat dd_X1_copyFrom 26 rfl) (by decide) ?_
  refine z_aload_n 0 (zat dd_X1_copyFrom 27 rfl) rfl rfl ?_
  refine z_getR fl_X1_18 (zat dd_X1_copyFrom 28 rfl) (fun a12 => ?_)
  refine z_iconst (x := 0) (zat dd_X1_copyFrom 29 rfl) (by decide) ?_
  refine z_bipush (x := 8) (zat dd_X1_copyFrom 30 rfl) (by decide) ?_
  refine z_copy ql_X1_57 qo_nat qo_cst qo_sys (Nat.le_of_ble_eq_true rfl) (zat dd_X1_copyFrom 31 rfl) (fun h13 => ?_)
  refine z_aload_n 0 (zat dd_X1_copyFrom 32 rfl) rfl rfl ?_
  refine z_getR fl_X1_24 (zat dd_X1_copyFrom 33 rfl) (fun a14 => ?_)
  refine z_aload_n 1 (zat dd_X1_copyFrom 34 rfl) rfl rfl ?_
  refine z_getR fl_X1_24 (zat dd_X1_copyFrom 35 rfl) (fun a15 => ?_)
  refine z_callV_V0 (M2 := M_X8_copyFrom) [.ref a15] (fun l D _ _ => m_X8_copyFrom l D a14 a15 h13) u_X8_copyFrom ql_X1_63 qi_X8_copyFrom qs_X8_copyFrom (ci := 4) rfl rfl rfl (Nat.le_of_ble_eq_true rfl) (by decide) rfl rfl (zat dd_X1_copyFrom 36 rfl) (fun h16 => ?_)
  refine z_aload_n 0 (zat dd_X1_copyFrom 37 rfl) rfl rfl ?_
  refine z_aload_n 1 (zat dd_X1_copyFrom 38 rfl) rfl rfl ?_
  refine z_getI fl_X1_48 (zat dd_X1_copyFrom 39 rfl) (fun x17 => ?_)
  refine z_put fl_X1_48 rfl rfl (zat dd_X1_copyFrom 40 rfl) (fun h18 => ?_)
  refine z_iconst (x := 0) (zat dd_X1_copyFrom 41 rfl) (by decide) ?_
  refine z_istore_n (lv' := [(2, .int 0), (0, .ref v0), (1, .ref v1)]) (zat dd_X1_copyFrom 42 rfl) rfl (Nat.le_of_ble_eq_true rfl) rfl ?_
  refine z_sub [1, 2, 0] rfl ?_
  exact zb_X1_copyFrom_82 Y zF v0 v1 0 h18
/-! PaperDolls$Doll.has(I)Z -/
def L_X1_has : List (Nat × Instr × Nat) := [(0, .iload_n 1, 1), (1, .ifCond .lt 15, 3), (4, .iload_n 1, 1), (5, .aload_n 0, 1), (6, .getfield 42, 3), (9, .if_icmp .ge 7, 3), (12, .iconst 1, 1), (13, .goto 4, 3), (16, .iconst 0, 1), (17, .ireturn, 1)]
theorem dd_X1_has : ∀ q ∈ L_X1_has, decode cX1_has q.1 = .ok q.2 := by decide +kernel
abbrev M_X1_has : zM := (cX1_has, RX1, "has", 2, some .boolean, 0, 0, 0)
theorem u_X1_has : zCal yX1_has (M_X1_has) 1 := ⟨(zmem 430 (by decide +kernel) rfl : Cond.code yX1_has cX1_has 2 (some .boolean) ∈ zTb), zmem 58 (by decide +kernel) rfl, by decide +kernel, Nat.le_of_ble_eq_true rfl⟩
theorem qi_X1_has : Cond.instanceMethod yX1_has ∈ zTb := zmem 428 (by decide +kernel) rfl
theorem qs_X1_has : Cond.selects yX1_has.cls yX1_has yX1_has ∈ zTb := zmem 429 (by decide +kernel) rfl
def f_X1_has_17 (t0 : Int32) (h : zH) : zR :=
  zrZ t0 h
set_option maxRecDepth 100000 in
set_option maxHeartbeats 4000000 in
theorem zb_X1_has_17 (Y : zY) (t0 : Int32) (h : zH) : Z Y M_X1_has 0 0 17 [] [.int t0] h (f_X1_has_17 t0 h) := by
  rw [f_X1_has_17]
  exact z_zret rfl (zat dd_X1_has 9 rfl)
def f_X1_has_16 (h : zH) : zR :=
  f_X1_has_17 0 h
set_option maxRecDepth 100000 in
set_option maxHeartbeats 4000000 in
theorem zb_X1_has_16 (Y : zY) (h : zH) : Z Y M_X1_has 0 0 16 [] [] h (f_X1_has_16  h) := by
  rw [f_X1_has_16]
  refine z_iconst (x := 0) (zat dd_X1_has 8 rfl) (by decide) ?_
  exact zb_X1_has_17 Y 0 h
def f_X1_has (v0 : Nat) (v1 : Int32) (h : zH) : zR :=
  if v1 < 0 then
  f_X1_has_16 h
  else
  zgI h v0 0 1 fun x1 =>
  if x1 ≤ v1 then
  f_X1_has_16 h
  else
  f_X1_has_17 1 h
set_option maxRecDepth 100000 in
set_option maxHeartbeats 4000000 in
theorem m_X1_has (l : Launch) (D : zD) (v0 : Nat) (v1 : Int32) (h : zH) : zMet l D yX1_has M_X1_has [.ref v0, .int v1] h (f_X1_has v0 v1 h) := by
  refine zMet.of (by decide +kernel) ⟨rfl, rfl⟩ (Nat.le_of_ble_eq_true rfl) (fun Y hl hD => ?_)
  show Z Y M_X1_has 0 0 0 [(0, .ref v0), (1, .int v1)] [] h _
  rw [f_X1_has]
  refine z_iload_n 1 (zat dd_X1_has 0 rfl) rfl rfl ?_
  refine z_if_lt (tgt := 16) (zat dd_X1_has 1 rfl) (by decide) ?_ ?_
  · refine z_sub [] rfl ?_
    exact zb_X1_has_16 Y h
  · refine z_iload_n 1 (zat dd_X1_has 2 rfl) rfl rfl ?_
    refine z_aload_n 0 (zat dd_X1_has 3 rfl) rfl rfl ?_
    refine z_getI fl_X1_42 (zat dd_X1_has 4 rfl) (fun x1 => ?_)
    refine z_icmp_ge (tgt := 16) (zat dd_X1_has 5 rfl) (by decide) ?_ ?_
    · refine z_sub [] rfl ?_
      exact zb_X1_has_16 Y h
    · refine z_iconst (x := 1) (zat dd_X1_has 6 rfl) (by decide) ?_
      refine z_goto (tgt := 17) (zat dd_X1_has 7 rfl) (by decide) ?_
      refine z_sub [] rfl ?_
      exact zb_X1_has_17 Y 1 h
/-! PaperDolls$Doll.allPieces()I -/
def L_X1_allPieces : List (Nat × Instr × Nat) := [(0, .iconst 1, 1), (1, .aload_n 0, 1), (2, .getfield 42, 3), (5, .ishl, 1), (6, .iconst 1, 1), (7, .isub, 1), (8, .ireturn, 1)]
theorem dd_X1_allPieces : ∀ q ∈ L_X1_allPieces, decode cX1_allPieces q.1 = .ok q.2 := by decide +kernel
abbrev M_X1_allPieces : zM := (cX1_allPieces, RX1, "allPieces", 1, some .int, 0, 0, 0)
theorem u_X1_allPieces : zCal yX1_allPieces (M_X1_allPieces) 0 := ⟨(zmem 615 (by decide +kernel) rfl : Cond.code yX1_allPieces cX1_allPieces 1 (some .int) ∈ zTb), zmem 58 (by decide +kernel) rfl, by decide +kernel, Nat.le_of_ble_eq_true rfl⟩
theorem qi_X1_allPieces : Cond.instanceMethod yX1_allPieces ∈ zTb := zmem 613 (by decide +kernel) rfl
theorem qs_X1_allPieces : Cond.selects yX1_allPieces.cls yX1_allPieces yX1_allPieces ∈ zTb := zmem 614 (by decide +kernel) rfl
def f_X1_allPieces (v0 : Nat) (h : zH) : zR :=
  zgI h v0 0 1 fun x1 =>
  zrI ((1 <<< (x1 &&& 31)) - 1) h
set_option maxRecDepth 100000 in
set_option maxHeartbeats 4000000 in
theorem m_X1_allPieces (l : Launch) (D : zD) (v0 : Nat) (h : zH) : zMet l D yX1_allPieces M_X1_allPieces [.ref v0] h (f_X1_allPieces v0 h) := by
  refine zMet.of (by decide +kernel) ⟨rfl, rfl⟩ (Nat.le_of_ble_eq_true rfl) (fun Y hl hD => ?_)
  show Z Y M_X1_allPieces 0 0 0 [(0, .ref v0)] [] h _
  rw [f_X1_allPieces]
  refine z_iconst (x := 1) (zat dd_X1_allPieces 0 rfl) (by decide) ?_
  refine z_aload_n 0 (zat dd_X1_allPieces 1 rfl) rfl rfl ?_
  refine z_getI fl_X1_42 (zat dd_X1_allPieces 2 rfl) (fun x1 => ?_)
  refine z_ishl (zat dd_X1_allPieces 3 rfl) ?_
  refine z_iconst (x := 1) (zat dd_X1_allPieces 4 rfl) (by decide) ?_
  refine z_isub (zat dd_X1_allPieces 5 rfl) ?_
  exact z_iret rfl (zat dd_X1_allPieces 6 rfl)
/-! PaperDolls$Doll.addPiece(III)V -/
def L_X1_addPiece : List (Nat × Instr × Nat) := [(0, .aload_n 0, 1), (1, .getfield 42, 3), (4, .bipush 8, 2), (6, .if_icmp .ge 48, 3), (9, .aload_n 0, 1), (10, .getfield 9, 3), (13, .aload_n 0, 1), (14, .getfield 42, 3), (17, .iload_n 1, 1), (18, .iastore, 1), (19, .aload_n 0, 1), (20, .getfield 15, 3), (23, .aload_n 0, 1), (24, .getfield 42, 3), (27, .iload_n 2, 1), (28, .iastore, 1), (29, .aload_n 0, 1), (30, .getfield 18, 3), (33, .aload_n 0, 1), (34, .getfield 42, 3), (37, .iload_n 3, 1), (38, .iastore, 1), (39, .aload_n 0, 1), (40, .dup, 1), (41, .getfield 42, 3), (44, .iconst 1, 1), (45, .iadd, 1), (46, .putfield 42, 3), (49, .aload_n 0, 1), (50, .iconst 0, 1), (51, .putfield 48, 3), (54, .return_, 1)]
theorem dd_X1_addPiece : ∀ q ∈ L_X1_addPiece, decode cX1_addPiece q.1 = .ok q.2 := by decide +kernel
abbrev M_X1_addPiece : zM := (cX1_addPiece, RX1, "addPiece", 4, none, 0, 0, 0)
theorem u_X1_addPiece : zCal yX1_addPiece (M_X1_addPiece) 3 := ⟨(zmem 313 (by decide +kernel) rfl : Cond.code yX1_addPiece cX1_addPiece 4 (none) ∈ zTb), zmem 58 (by decide +kernel) rfl, by decide +kernel, Nat.le_of_ble_eq_true rfl⟩
theorem qi_X1_addPiece : Cond.instanceMethod yX1_addPiece ∈ zTb := zmem 311 (by decide +kernel) rfl
theorem qs_X1_addPiece : Cond.selects yX1_addPiece.cls yX1_addPiece yX1_addPiece ∈ zTb := zmem 312 (by decide +kernel) rfl
def f_X1_addPiece_54 (h : zH) : zR :=
  zrV h
set_option maxRecDepth 100000 in
set_option maxHeartbeats 4000000 in
theorem zb_X1_addPiece_54 (Y : zY) (h : zH) : Z Y M_X1_addPiece 0 0 54 [] [] h (f_X1_addPiece_54  h) := by
  rw [f_X1_addPiece_54]
  exact z_vret rfl (zat dd_X1_addPiece 31 rfl)
def f_X1_addPiece (v0 : Nat) (v1 : Int32) (v2 : Int32) (v3 : Int32) (h : zH) : zR :=
  zgI h v0 0 1 fun x1 =>
  if 8 ≤ x1 then
  f_X1_addPiece_54 h
  else
  zgR h v0 0 2 fun a2 =>
  zgI h v0 0 1 fun x3 =>
  zsI h a2 0 x3 v1 fun h4 =>
  zgR h4 v0 0 3 fun a5 =>
  zgI h4 v0 0 1 fun x6 =>
  zsI h4 a5 0 x6 v2 fun h7 =>
  zgR h7 v0 0 4 fun a8 =>
  zgI h7 v0 0 1 fun x9 =>
  zsI h7 a8 0 x9 v3 fun h10 =>
  zgI h10 v0 0 1 fun x11 =>
  zpV h10 v0 0 1 (.int (x11 + 1)) fun h12 =>
  zpV h12 v0 0 7 (.int 0) fun h13 =>
  f_X1_addPiece_54 h13
set_option maxRecDepth 100000 in
set_option maxHeartbeats 4000000 in
theorem m_X1_addPiece (l : Launch) (D : zD) (v0 : Nat) (v1 : Int32) (v2 : Int32) (v3 : Int32) (h : zH) : zMet l D yX1_addPiece M_X1_addPiece [.ref v0, .int v1, .int v2, .int v3] h (f_X1_addPiece v0 v1 v2 v3 h) := by
  refine zMet.of (by decide +kernel) ⟨rfl, rfl⟩ (Nat.le_of_ble_eq_true rfl) (fun Y hl hD => ?_)
  show Z Y M_X1_addPiece 0 0 0 [(0, .ref v0), (1, .int v1), (2, .int v2), (3, .int v3)] [] h _
  rw [f_X1_addPiece]
  refine z_aload_n 0 (zat dd_X1_addPiece 0 rfl) rfl rfl ?_
  refine z_getI fl_X1_42 (zat dd_X1_addPiece 1 rfl) (fun x1 => ?_)
  refine z_bipush (x := 8) (zat dd_X1_addPiece 2 rfl) (by decide) ?_
  refine z_icmp_ge (tgt := 54) (zat dd_X1_addPiece 3 rfl) (by decide) ?_ ?_
  · refine z_sub [] rfl ?_
    exact zb_X1_addPiece_54 Y h
  · refine z_aload_n 0 (zat dd_X1_addPiece 4 rfl) rfl rfl ?_
    refine z_getR fl_X1_9 (zat dd_X1_addPiece 5 rfl) (fun a2 => ?_)
    refine z_aload_n 0 (zat dd_X1_addPiece 6 rfl) rfl rfl ?_
    refine z_getI fl_X1_42 (zat dd_X1_addPiece 7 rfl) (fun x3 => ?_)
    refine z_iload_n 1 (zat dd_X1_addPiece 8 rfl) rfl rfl ?_
    refine z_iast (zat dd_X1_addPiece 9 rfl) (fun h4 => ?_)
    refine z_aload_n 0 (zat dd_X1_addPiece 10 rfl) rfl rfl ?_
    refine z_getR fl_X1_15 (zat dd_X1_addPiece 11 rfl) (fun a5 => ?_)
    refine z_aload_n 0 (zat dd_X1_addPiece 12 rfl) rfl rfl ?_
    refine z_getI fl_X1_42 (zat dd_X1_addPiece 13 rfl) (fun x6 => ?_)
    refine z_iload_n 2 (zat dd_X1_addPiece 14 rfl) rfl rfl ?_
    refine z_iast (zat dd_X1_addPiece 15 rfl) (fun h7 => ?_)
    refine z_aload_n 0 (zat dd_X1_addPiece 16 rfl) rfl rfl ?_
    refine z_getR fl_X1_18 (zat dd_X1_addPiece 17 rfl) (fun a8 => ?_)
    refine z_aload_n 0 (zat dd_X1_addPiece 18 rfl) rfl rfl ?_
    refine z_getI fl_X1_42 (zat dd_X1_addPiece 19 rfl) (fun x9 => ?_)
    refine z_iload_n 3 (zat dd_X1_addPiece 20 rfl) rfl rfl ?_
    refine z_iast (zat dd_X1_addPiece 21 rfl) (fun h10 => ?_)
    refine z_aload_n 0 (zat dd_X1_addPiece 22 rfl) rfl rfl ?_
    refine z_dup (zat dd_X1_addPiece 23 rfl) rfl ?_
    refine z_getI fl_X1_42 (zat dd_X1_addPiece 24 rfl) (fun x11 => ?_)
    refine z_iconst (x := 1) (zat dd_X1_addPiece 25 rfl) (by decide) ?_
    refine z_iadd (zat dd_X1_addPiece 26 rfl) ?_
    refine z_put fl_X1_42 rfl rfl (zat dd_X1_addPiece 27 rfl) (fun h12 => ?_)
    refine z_aload_n 0 (zat dd_X1_addPiece 28 rfl) rfl rfl ?_
    refine z_iconst (x := 0) (zat dd_X1_addPiece 29 rfl) (by decide) ?_
    refine z_put fl_X1_48 rfl rfl (zat dd_X1_addPiece 30 rfl) (fun h13 => ?_)
    refine z_sub [] rfl ?_
    exact zb_X1_addPiece_54 Y h13
/-! PaperDolls$Doll.addNote(III)V -/
def L_X1_addNote : List (Nat × Instr × Nat) := [(0, .aload_n 0, 1), (1, .getfield 51, 3), (4, .bipush 6, 2), (6, .if_icmp .ge 49, 3), (9, .aload_n 0, 1), (10, .getfield 51, 3), (13, .iconst 3, 1), (14, .imul, 1), (15, .istore 4, 2), (17, .aload_n 0, 1), (18, .getfield 32, 3), (21, .iload 4, 2), (23, .iload_n 1, 1), (24, .iastore, 1), (25, .aload_n 0, 1), (26, .getfield 32, 3), (29, .iload 4, 2), (31, .iconst 1, 1), (32, .iadd, 1), (33, .iload_n 2, 1), (34, .iastore, 1), (35, .aload_n 0, 1), (36, .getfield 32, 3), (39, .iload 4, 2), (41, .iconst 2, 1), (42, .iadd, 1), (43, .iload_n 3, 1), (44, .iastore, 1), (45, .aload_n 0, 1), (46, .dup, 1), (47, .getfield 51, 3), (50, .iconst 1, 1), (51, .iadd, 1), (52, .putfield 51, 3), (55, .return_, 1)]
theorem dd_X1_addNote : ∀ q ∈ L_X1_addNote, decode cX1_addNote q.1 = .ok q.2 := by decide +kernel
abbrev M_X1_addNote : zM := (cX1_addNote, RX1, "addNote", 5, none, 0, 0, 0)
theorem u_X1_addNote : zCal yX1_addNote (M_X1_addNote) 3 := ⟨(zmem 657 (by decide +kernel) rfl : Cond.code yX1_addNote cX1_addNote 5 (none) ∈ zTb), zmem 58 (by decide +kernel) rfl, by decide +kernel, Nat.le_of_ble_eq_true rfl⟩
theorem qi_X1_addNote : Cond.instanceMethod yX1_addNote ∈ zTb := zmem 655 (by decide +kernel) rfl
theorem qs_X1_addNote : Cond.selects yX1_addNote.cls yX1_addNote yX1_addNote ∈ zTb := zmem 656 (by decide +kernel) rfl
def f_X1_addNote_55 (h : zH) : zR :=
  zrV h
set_option maxRecDepth 100000 in
set_option maxHeartbeats 4000000 in
theorem zb_X1_addNote_55 (Y : zY) (h : zH) : Z Y M_X1_addNote 0 0 55 [] [] h (f_X1_addNote_55  h) := by
  rw [f_X1_addNote_55]
  exact z_vret rfl (zat dd_X1_addNote 34 rfl)
def f_X1_addNote (v0 : Nat) (v1 : Int32) (v2 : Int32) (v3 : Int32) (h : zH) : zR :=
  zgI h v0 0 9 fun x1 =>
  if 6 ≤ x1 then
  f_X1_addNote_55 h
  else
  zgI h v0 0 9 fun x2 =>
  zlt (x2 * 3) fun x3 =>
  zgR h v0 0 8 fun a4 =>
  zsI h a4 0 x3 v1 fun h5 =>
  zgR h5 v0 0 8 fun a6 =>
  zsI h5 a6 0 (x3 + 1) v2 fun h7 =>
  zgR h7 v0 0 8 fun a8 =>
  zsI h7 a8 0 (x3 + 2) v3 fun h9 =>
  zgI h9 v0 0 9 fun x10 =>
  zpV h9 v0 0 9 (.int (x10 + 1)) fun h11 =>
  f_X1_addNote_55 h11
set_option maxRecDepth 100000 in
set_option maxHeartbeats 4000000 in
theorem m_X1_addNote (l : Launch) (D : zD) (v0 : Nat) (v1 : Int32) (v2 : Int32) (v3 : Int32) (h : zH) : zMet l D yX1_addNote M_X1_addNote [.ref v0, .int v1, .int v2, .int v3] h (f_X1_addNote v0 v1 v2 v3 h) := by
  refine zMet.of (by decide +kernel) ⟨rfl, rfl⟩ (Nat.le_of_ble_eq_true rfl) (fun Y hl hD => ?_)
  show Z Y M_X1_addNote 0 0 0 [(0, .ref v0), (1, .int v1), (2, .int v2), (3, .int v3)] [] h _
  rw [f_X1_addNote]
  refine z_aload_n 0 (zat dd_X1_addNote 0 rfl) rfl rfl ?_
  refine z_getI fl_X1_51 (zat dd_X1_addNote 1 rfl) (fun x1 => ?_)
  refine z_bipush (x := 6) (zat dd_X1_addNote 2 rfl) (by decide) ?_
  refine z_icmp_ge (tgt := 55) (zat dd_X1_addNote 3 rfl) (by decide) ?_ ?_
  · refine z_sub [] rfl ?_
    exact zb_X1_addNote_55 Y h
  · refine z_aload_n 0 (zat dd_X1_addNote 4 rfl) rfl rfl ?_
    refine z_getI fl_X1_51 (zat dd_X1_addNote 5 rfl) (fun x2 => ?_)
    refine z_iconst (x := 3) (zat dd_X1_addNote 6 rfl) (by decide) ?_
    refine z_imul (zat dd_X1_addNote 7 rfl) ?_
    refine z_let (fun x3 => ?_)
    refine z_istore (lv' := [(4, .int x3), (0, .ref v0), (1, .int v1), (2, .int v2), (3, .int v3)]) (zat dd_X1_addNote 8 rfl) (Nat.le_of_ble_eq_true rfl) rfl ?_
    refine z_aload_n 1 (zat dd_X1_addNote 9 rfl) rfl rfl ?_
    refine z_getR fl_X1_32 (zat dd_X1_addNote 10 rfl) (fun a4 => ?_)
    refine z_iload 0 (zat dd_X1_addNote 11 rfl) rfl ?_
    refine z_iload_n 2 (zat dd_X1_addNote 12 rfl) rfl rfl ?_
    refine z_iast (zat dd_X1_addNote 13 rfl) (fun h5 => ?_)
    refine z_aload_n 1 (zat dd_X1_addNote 14 rfl) rfl rfl ?_
    refine z_getR fl_X1_32 (zat dd_X1_addNote 15 rfl) (fun a6 => ?_)
    refine z_iload 0 (zat dd_X1_addNote 16 rfl) rfl ?_
    refine z_iconst (x := 1) (zat dd_X1_addNote 17 rfl) (by decide) ?_
    refine z_iadd (zat dd_X1_addNote 18 rfl) ?_
    refine z_iload_n 3 (zat dd_X1_addNote 19 rfl) rfl rfl ?_
    refine z_iast (zat dd_X1_addNote 20 rfl) (fun h7 => ?_)
    refine z_aload_n 1 (zat dd_X1_addNote 21 rfl) rfl rfl ?_
    refine z_getR fl_X1_32 (zat dd_X1_addNote 22 rfl) (fun a8 => ?_)
    refine z_iload 0 (zat dd_X1_addNote 23 rfl) rfl ?_
    refine z_iconst (x := 2) (zat dd_X1_addNote 24 rfl) (by decide) ?_
    refine z_iadd (zat dd_X1_addNote 25 rfl) ?_
    refine z_iload_n 4 (zat dd_X1_addNote 26 rfl) rfl rfl ?_
    refine z_iast (zat dd_X1_addNote 27 rfl) (fun h9 => ?_)
    refine z_aload_n 1 (zat dd_X1_addNote 28 rfl) rfl rfl ?_
    refine z_dup (zat dd_X1_addNote 29 rfl) rfl ?_
    refine z_getI fl_X1_51 (zat dd_X1_addNote 30 rfl) (fun x10 => ?_)
    refine z_iconst (x := 1) (zat dd_X1_addNote 31 rfl) (by decide) ?_
    refine z_iadd (zat dd_X1_addNote 32 rfl) ?_
    refine z_put fl_X1_51 rfl rfl (zat dd_X1_addNote 33 rfl) (fun h11 => ?_)
    refine z_sub [] rfl ?_
    exact zb_X1_addNote_55 Y h11
/-! PaperDolls$Doll.addMark(IIII)V -/
def L_X1_addMark : List (Nat × Instr × Nat) := [(0, .aload_n 0, 1), (1, .getfield 54, 3), (4, .bipush 6, 2), (6, .if_icmp .ge 60, 3), (9, .aload_n 0, 1), (10, .getfield 54, 3), (13, .iconst 4, 1), (14, .imul, 1), (15, .istore 5, 2), (17, .aload_n 0, 1), (18, .getfield 35, 3), (21, .iload 5, 2), (23, .iload_n 1, 1), (24, .iastore, 1), (25, .aload_n 0, 1), (26, .getfield 35, 3), (29, .iload 5, 2), (31, .iconst 1, 1), (32, .iadd, 1), (33, .iload_n 2, 1), (34, .iastore, 1), (35, .aload_n 0, 1), (36, .getfield 35, 3), (39, .iload 5, 2), (41, .iconst 2, 1), (42, .iadd, 1), (43, .iload_n 3, 1), (44, .iastore, 1), (45, .aload_n 0, 1), (46, .getfield 35, 3), (49, .iload 5, 2), (51, .iconst 3, 1), (52, .iadd, 1), (53, .iload 4, 2), (55, .iastore, 1), (56, .aload_n 0, 1), (57, .dup, 1), (58, .getfield 54, 3), (61, .iconst 1, 1), (62, .iadd, 1), (63, .putfield 54, 3), (66, .return_, 1)]
theorem dd_X1_addMark : ∀ q ∈ L_X1_addMark, decode cX1_addMark q.1 = .ok q.2 := by decide +kernel
abbrev M_X1_addMark : zM := (cX1_addMark, RX1, "addMark", 6, none, 0, 0, 0)
theorem u_X1_addMark : zCal yX1_addMark (M_X1_addMark) 4 := ⟨(zmem 665 (by decide +kernel) rfl : Cond.code yX1_addMark cX1_addMark 6 (none) ∈ zTb), zmem 58 (by decide +kernel) rfl, by decide +kernel, Nat.le_of_ble_eq_true rfl⟩
theorem qi_X1_addMark : Cond.instanceMethod yX1_addMark ∈ zTb := zmem 663 (by decide +kernel) rfl
theorem qs_X1_addMark : Cond.selects yX1_addMark.cls yX1_addMark yX1_addMark ∈ zTb := zmem 664 (by decide +kernel) rfl
def f_X1_addMark_66 (h : zH) : zR :=
  zrV h
set_option maxRecDepth 100000 in
set_option maxHeartbeats 4000000 in
theorem zb_X1_addMark_66 (Y : zY) (h : zH) : Z Y M_X1_addMark 0 0 66 [] [] h (f_X1_addMark_66  h) := by
  rw [f_X1_addMark_66]
  exact z_vret rfl (zat dd_X1_addMark 41 rfl)
def f_X1_addMark (v0 : Nat) (v1 : Int32) (v2 : Int32) (v3 : Int32) (v4 : Int32) (h : zH) : zR :=
  zgI h v0 0 11 fun x1 =>
  if 6 ≤ x1 then
  f_X1_addMark_66 h
  else
  zgI h v0 0 11 fun x2 =>
  zlt (x2 * 4) fun x3 =>
  zgR h v0 0 10 fun a4 =>
  zsI h a4 0 x3 v1 fun h5 =>
  zgR h5 v0 0 10 fun a6 =>
  zsI h5 a6 0 (x3 + 1) v2 fun h7 =>
  zgR h7 v0 0 10 fun a8 =>
  zsI h7 a8 0 (x3 + 2) v3 fun h9 =>
  zgR h9 v0 0 10 fun a10 =>
  zsI h9 a10 0 (x3 + 3) v4 fun h11 =>
  zgI h11 v0 0 11 fun x12 =>
  zpV h11 v0 0 11 (.int (x12 + 1)) fun h13 =>
  f_X1_addMark_66 h13
set_option maxRecDepth 100000 in
set_option maxHeartbeats 4000000 in
theorem m_X1_addMark (l : Launch) (D : zD) (v0 : Nat) (v1 : Int32) (v2 : Int32) (v3 : Int32) (v4 : Int32) (h : zH) : zMet l D yX1_addMark M_X1_addMark [.ref v0, .int v1, .int v2, .int v3, .int v4] h (f_X1_addMark v0 v1 v2 v3 v4 h) := by
  refine zMet.of (by decide +kernel) ⟨rfl, rfl⟩ (Nat.le_of_ble_eq_true rfl) (fun Y hl hD => ?_)
  show Z Y M_X1_addMark 0 0 0 [(0, .ref v0), (1, .int v1), (2, .int v2), (3, .int v3), (4, .int v4)] [] h _
  rw [f_X1_addMark]
  refine z_aload_n 0 (zat dd_X1_addMark 0 rfl) rfl rfl ?_
  refine z_getI fl_X1_54 (zat dd_X1_addMark 1 rfl) (fun x1 => ?_)
  refine z_bipush (x := 6) (zat dd_X1_addMark 2 rfl) (by decide) ?_
  refine z_icmp_ge (tgt := 66) (zat dd_X1_addMark 3 rfl) (by decide) ?_ ?_
  · refine z_sub [] rfl ?_
    exact zb_X1_addMark_66 Y h
  · refine z_aload_n 0 (zat dd_X1_addMark 4 rfl) rfl rfl ?_
    refine z_getI fl_X1_54 (zat dd_X1_addMark 5 rfl) (fun x2 => ?_)
    refine z_iconst (x := 4) (zat dd_X1_addMark 6 rfl) (by decide) ?_
    refine z_imul (zat dd_X1_addMark 7 rfl) ?_
    refine z_let (fun x3 => ?_)
    refine z_istore (lv' := [(5, .int x3), (0, .ref v0), (1, .int v1), (2, .int v2), (3, .int v3), (4, .int v4)]) (zat dd_X1_addMark 8 rfl) (Nat.le_of_ble_eq_true rfl) rfl ?_
    refine z_aload_n 1 (zat dd_X1_addMark 9 rfl) rfl rfl ?_
    refine z_getR fl_X1_35 (zat dd_X1_addMark 10 rfl) (fun a4 => ?_)
    refine z_iload 0 (zat dd_X1_addMark 11 rfl) rfl ?_
    refine z_iload_n 2 (zat dd_X1_addMark 12 rfl) rfl rfl ?_
    refine z_iast (zat dd_X1_addMark 13 rfl) (fun h5 => ?_)
    refine z_aload_n 1 (zat dd_X1_addMark 14 rfl) rfl rfl ?_
    refine z_getR fl_X1_35 (zat dd_X1_addMark 15 rfl) (fun a6 => ?_)
    refine z_iload 0 (zat dd_X1_addMark 16 rfl) rfl ?_
    refine z_iconst (x := 1) (zat dd_X1_addMark 17 rfl) (by decide) ?_
    refine z_iadd (zat dd_X1_addMark 18 rfl) ?_
    refine z_iload_n 3 (zat dd_X1_addMark 19 rfl) rfl rfl ?_
    refine z_iast (zat dd_X1_addMark 20 rfl) (fun h7 => ?_)
    refine z_aload_n 1 (zat dd_X1_addMark 21 rfl) rfl rfl ?_
    refine z_getR fl_X1_35 (zat dd_X1_addMark 22 rfl) (fun a8 => ?_)
    refine z_iload 0 (zat dd_X1_addMark 23 rfl) rfl ?_
    refine z_iconst (x := 2) (zat dd_X1_addMark 24 rfl) (by decide) ?_
    refine z_iadd (zat dd_X1_addMark 25 rfl) ?_
    refine z_iload_n 4 (zat dd_X1_addMark 26 rfl) rfl rfl ?_
    refine z_iast (zat dd_X1_addMark 27 rfl) (fun h9 => ?_)
    refine z_aload_n 1 (zat dd_X1_addMark 28 rfl) rfl rfl ?_
    refine z_getR fl_X1_35 (zat dd_X1_addMark 29 rfl) (fun a10 => ?_)
    refine z_iload 0 (zat dd_X1_addMark 30 rfl) rfl ?_
    refine z_iconst (x := 3) (zat dd_X1_addMark 31 rfl) (by decide) ?_
    refine z_iadd (zat dd_X1_addMark 32 rfl) ?_
    refine z_iload 5 (zat dd_X1_addMark 33 rfl) rfl ?_
    refine z_iast (zat dd_X1_addMark 34 rfl) (fun h11 => ?_)
    refine z_aload_n 1 (zat dd_X1_addMark 35 rfl) rfl rfl ?_
    refine z_dup (zat dd_X1_addMark 36 rfl) rfl ?_
    refine z_getI fl_X1_54 (zat dd_X1_addMark 37 rfl) (fun x12 => ?_)
    refine z_iconst (x := 1) (zat dd_X1_addMark 38 rfl) (by decide) ?_
    refine z_iadd (zat dd_X1_addMark 39 rfl) ?_
    refine z_put fl_X1_54 rfl rfl (zat dd_X1_addMark 40 rfl) (fun h13 => ?_)
    refine z_sub [] rfl ?_
    exact zb_X1_addMark_66 Y h13
/-! PaperDolls$Doll.spotsOf(I)I -/
def L_X1_spotsOf : List (Nat × Instr × Nat) := [(0, .aload_n 0, 1), (1, .iload_n 1, 1), (2, .invokevirtual 67, 3), (5, .ifCond .eq 15, 3), (8, .aload_n 0, 1), (9, .getfield 9, 3), (12, .iload_n 1, 1), (13, .iaload, 1), (14, .invokestatic 71, 3), (17, .goto 4, 3), (20, .iconst 0, 1), (21, .ireturn, 1)]
theorem dd_X1_spotsOf : ∀ q ∈ L_X1_spotsOf, decode cX1_spotsOf q.1 = .ok q.2 := by decide +kernel
abbrev M_X1_spotsOf : zM := (cX1_spotsOf, RX1, "spotsOf", 2, some .int, 1, 0, 0)
theorem u_X1_spotsOf : zCal yX1_spotsOf (M_X1_spotsOf) 1 := ⟨(zmem 452 (by decide +kernel) rfl : Cond.code yX1_spotsOf cX1_spotsOf 2 (some .int) ∈ zTb), zmem 58 (by decide +kernel) rfl, by decide +kernel, Nat.le_of_ble_eq_true rfl⟩
theorem qi_X1_spotsOf : Cond.instanceMethod yX1_spotsOf ∈ zTb := zmem 450 (by decide +kernel) rfl
theorem qs_X1_spotsOf : Cond.selects yX1_spotsOf.cls yX1_spotsOf yX1_spotsOf ∈ zTb := zmem 451 (by decide +kernel) rfl
def f_X1_spotsOf_21 (t0 : Int32) (h : zH) : zR :=
  zrI t0 h
set_option maxRecDepth 100000 in
set_option maxHeartbeats 4000000 in
theorem zb_X1_spotsOf_21 (Y : zY) (t0 : Int32) (h : zH) : Z Y M_X1_spotsOf 0 0 21 [] [.int t0] h (f_X1_spotsOf_21 t0 h) := by
  rw [f_X1_spotsOf_21]
  exact z_iret rfl (zat dd_X1_spotsOf 11 rfl)
def f_X1_spotsOf (v0 : Nat) (v1 : Int32) (h : zH) : zR :=
  zoc h v0 0 <|
  zcI (f_X1_has v0 v1 h) fun x1 h2 =>
  if x1 = 0 then
  f_X1_spotsOf_21 0 h2
  else
  zgR h2 v0 0 2 fun a3 =>
  zaI h2 a3 0 v1 fun x4 =>
  zcI (f_X0_covers x4 h2) fun x5 h6 =>
  f_X1_spotsOf_21 x5 h6
set_option maxRecDepth 100000 in
set_option maxHeartbeats 4000000 in
theorem m_X1_spotsOf (l : Launch) (D : zD) (v0 : Nat) (v1 : Int32) (h : zH) : zMet l D yX1_spotsOf M_X1_spotsOf [.ref v0, .int v1] h (f_X1_spotsOf v0 v1 h) := by
  refine zMet.of (by decide +kernel) ⟨rfl, rfl⟩ (Nat.le_of_ble_eq_true rfl) (fun Y hl hD => ?_)
  show Z Y M_X1_spotsOf 0 0 0 [(0, .ref v0), (1, .int v1)] [] h _
  rw [f_X1_spotsOf]
  refine z_aload_n 0 (zat dd_X1_spotsOf 0 rfl) rfl rfl ?_
  refine z_iload_n 1 (zat dd_X1_spotsOf 1 rfl) rfl rfl ?_
  refine z_callV_I0 (M2 := M_X1_has) [.int v1] (fun l D _ _ => m_X1_has l D v0 v1 h) u_X1_has ql_X1_67 qi_X1_has qs_X1_has (ci := 0) rfl rfl rfl (Nat.le_of_ble_eq_true rfl) (by decide) rfl rfl (zat dd_X1_spotsOf 2 rfl) (fun x1 h2 => ?_)
  refine z_if_eq (tgt := 20) (zat dd_X1_spotsOf 3 rfl) (by decide) ?_ ?_
  · refine z_iconst (x := 0) (zat dd_X1_spotsOf 10 rfl) (by decide) ?_
    refine z_sub [] rfl ?_
    exact zb_X1_spotsOf_21 Y 0 h2
  · refine z_aload_n 0 (zat dd_X1_spotsOf 4 rfl) rfl rfl ?_
    refine z_getR fl_X1_9 (zat dd_X1_spotsOf 5 rfl) (fun a3 => ?_)
    refine z_iload_n 1 (zat dd_X1_spotsOf 6 rfl) rfl rfl ?_
    refine z_iald (zat dd_X1_spotsOf 7 rfl) (fun x4 => ?_)
    refine z_callS_I0 (M2 := M_X0_covers) [.int x4] (fun l D _ _ => m_X0_covers l D x4 h2) u_X0_covers ql_X1_71 qi_X0_covers rfl rfl (Nat.le_of_ble_eq_true rfl) (by decide) rfl rfl (zat dd_X1_spotsOf 8 rfl) (fun x5 h6 => ?_)
    refine z_goto (tgt := 21) (zat dd_X1_spotsOf 9 rfl) (by decide) ?_
    refine z_sub [] rfl ?_
    exact zb_X1_spotsOf_21 Y x5 h6
/-! PaperDolls$Doll.spotsOfSet(I)I -/
def L_X1_spotsOfSet : List (Nat × Instr × Nat) := [(0, .iconst 0, 1), (1, .istore_n 2, 1), (2, .iconst 0, 1), (3, .istore_n 3, 1), (4, .iload_n 3, 1), (5, .aload_n 0, 1), (6, .getfield 42, 3), (9, .if_icmp .ge 30, 3), (12, .iload_n 1, 1), (13, .iload_n 3, 1), (14, .ishr, 1), (15, .iconst 1, 1), (16, .iand, 1), (17, .iconst 1, 1), (18, .if_icmp .ne 15, 3), (21, .iload_n 2, 1), (22, .aload_n 0, 1), (23, .getfield 9, 3), (26, .iload_n 3, 1), (27, .iaload, 1), (28, .invokestatic 71, 3), (31, .ior, 1), (32, .istore_n 2, 1), (33, .iinc 3 1, 3), (36, .goto (-32), 3), (39, .iload_n 2, 1), (40, .ireturn, 1)]
theorem dd_X1_spotsOfSet : ∀ q ∈ L_X1_spotsOfSet, decode cX1_spotsOfSet q.1 = .ok q.2 := by decide +kernel
abbrev M_X1_spotsOfSet : zM := (cX1_spotsOfSet, RX1, "spotsOfSet", 4, some .int, 1, 0, 0)
theorem u_X1_spotsOfSet : zCal yX1_spotsOfSet (M_X1_spotsOfSet) 1 := ⟨(zmem 572 (by decide +kernel) rfl : Cond.code yX1_spotsOfSet cX1_spotsOfSet 4 (some .int) ∈ zTb), zmem 58 (by decide +kernel) rfl, by decide +kernel, Nat.le_of_ble_eq_true rfl⟩
theorem qi_X1_spotsOfSet : Cond.instanceMethod yX1_spotsOfSet ∈ zTb := zmem 570 (by decide +kernel) rfl
theorem qs_X1_spotsOfSet : Cond.selects yX1_spotsOfSet.cls yX1_spotsOfSet yX1_spotsOfSet ∈ zTb := zmem 571 (by decide +kernel) rfl
def f_X1_spotsOfSet_33 (k4 : Nat → Int32 → Int32 → Int32 → zH → zR) (v0 : Nat) (v1 : Int32) (v2 : Int32) (v3 : Int32) (h : zH) : zR :=
  k4 v0 v1 v2 (v3 + 1) h
set_option maxRecDepth 100000 in
set_option maxHeartbeats 4000000 in
theorem zb_X1_spotsOfSet_33 (Y : zY) (k4 : Nat → Int32 → Int32 → Int32 → zH → zR) (hk4 : ∀ (v0 : Nat) (v1 : Int32) (v2 : Int32) (v3 : Int32) (h : zH), Z Y M_X1_spotsOfSet 0 0 4 [(0, .ref v0), (1, .int v1), (2, .int v2), (3, .int v3)] [] h (k4 v0 v1 v2 v3 h)) (v0 : Nat) (v1 : Int32) (v2 : Int32) (v3 : Int32) (h : zH) : Z Y M_X1_spotsOfSet 0 0 33 [(0, .ref v0), (1, .int v1), (2, .int v2), (3, .int v3)] [] h (f_X1_spotsOfSet_33 k4 v0 v1 v2 v3 h) := by
  rw [f_X1_spotsOfSet_33]
  refine z_iinc (y := v3 + 1) (lv' := [(3, .int (v3 + 1)), (0, .ref v0), (1, .int v1), (2, .int v2)]) 3 (zat dd_X1_spotsOfSet 23 rfl) rfl rfl (Nat.le_of_ble_eq_true rfl) rfl ?_
  refine z_goto (tgt := 4) (zat dd_X1_spotsOfSet 24 rfl) (by decide) ?_
  refine z_sub [1, 2, 3, 0] rfl ?_
  exact hk4 v0 v1 v2 (v3 + 1) h
def f_X1_spotsOfSet_4 : Nat → Nat → Int32 → Int32 → Int32 → zH → zR
  | 0, _, _, _, _, _ => none
  | n + 1, v0, v1, v2, v3, h =>
  zgI h v0 0 1 fun x1 =>
  if x1 ≤ v3 then
  zrI v2 h
  else
  if ((v1 >>> (v3 &&& 31)) &&& 1) = 1 then
  zgR h v0 0 2 fun a2 =>
  zaI h a2 0 v3 fun x3 =>
  zcI (f_X0_covers x3 h) fun x4 h5 =>
  zlt (v2 ||| x4) fun x6 =>
  f_X1_spotsOfSet_33 (f_X1_spotsOfSet_4 n) v0 v1 x6 v3 h5
  else
  f_X1_spotsOfSet_33 (f_X1_spotsOfSet_4 n) v0 v1 v2 v3 h
set_option maxRecDepth 100000 in
set_option maxHeartbeats 4000000 in
theorem zb_X1_spotsOfSet_4 (Y : zY) : ∀ (n : Nat) (v0 : Nat) (v1 : Int32) (v2 : Int32) (v3 : Int32) (h : zH), Z Y M_X1_spotsOfSet 0 0 4 [(0, .ref v0), (1, .int v1), (2, .int v2), (3, .int v3)] [] h (f_X1_spotsOfSet_4 n v0 v1 v2 v3 h) := by
  intro n
  induction n with
  | zero =>
    intro v0 v1 v2 v3 h
    rw [f_X1_spotsOfSet_4]
    exact z_none
  | succ n ih =>
    intro v0 v1 v2 v3 h
    rw [f_X1_spotsOfSet_4]
    refine z_iload_n 3 (zat dd_X1_spotsOfSet 4 rfl) rfl rfl ?_
    refine z_aload_n 0 (zat dd_X1_spotsOfSet 5 rfl) rfl rfl ?_
    refine z_getI fl_X1_42 (zat dd_X1_spotsOfSet 6 rfl) (fun x1 => ?_)
    refine z_icmp_ge (tgt := 39) (zat dd_X1_spotsOfSet 7 rfl) (by decide) ?_ ?_
    · refine z_iload_n 2 (zat dd_X1_spotsOfSet 25 rfl) rfl rfl ?_
      exact z_iret rfl (zat dd_X1_spotsOfSet 26 rfl)
    · refine z_iload_n 1 (zat dd_X1_spotsOfSet 8 rfl) rfl rfl ?_
      refine z_iload_n 3 (zat dd_X1_spotsOfSet 9 rfl) rfl rfl ?_
      refine z_ishr (zat dd_X1_spotsOfSet 10 rfl) ?_
      refine z_iconst (x := 1) (zat dd_X1_spotsOfSet 11 rfl) (by decide) ?_
      refine z_iand (zat dd_X1_spotsOfSet 12 rfl) ?_
      refine z_iconst (x := 1) (zat dd_X1_spotsOfSet 13 rfl) (by decide) ?_
      refine z_icmp_ne (tgt := 33) (zat dd_X1_spotsOfSet 14 rfl) (by decide) ?_ ?_
      · exact zb_X1_spotsOfSet_33 Y (f_X1_spotsOfSet_4 n) ih v0 v1 v2 v3 h
      · refine z_iload_n 2 (zat dd_X1_spotsOfSet 15 rfl) rfl rfl ?_
        refine z_aload_n 0 (zat dd_X1_spotsOfSet 16 rfl) rfl rfl ?_
        refine z_getR fl_X1_9 (zat dd_X1_spotsOfSet 17 rfl) (fun a2 => ?_)
        refine z_iload_n 3 (zat dd_X1_spotsOfSet 18 rfl) rfl rfl ?_
        refine z_iald (zat dd_X1_spotsOfSet 19 rfl) (fun x3 => ?_)
        refine z_callS_I0 (M2 := M_X0_covers) [.int x3] (fun l D _ _ => m_X0_covers l D x3 h) u_X0_covers ql_X1_71 qi_X0_covers rfl rfl (Nat.le_of_ble_eq_true rfl) (by decide) rfl rfl (zat dd_X1_spotsOfSet 20 rfl) (fun x4 h5 => ?_)
        refine z_ior (zat dd_X1_spotsOfSet 21 rfl) ?_
        refine z_let (fun x6 => ?_)
        refine z_istore_n (lv' := [(2, .int x6), (0, .ref v0), (1, .int v1), (3, .int v3)]) (zat dd_X1_spotsOfSet 22 rfl) rfl (Nat.le_of_ble_eq_true rfl) rfl ?_
        refine z_sub [1, 2, 0, 3] rfl ?_
        exact zb_X1_spotsOfSet_33 Y (f_X1_spotsOfSet_4 n) ih v0 v1 x6 v3 h5
def f_X1_spotsOfSet (v0 : Nat) (v1 : Int32) (h : zH) : zR :=
  f_X1_spotsOfSet_4 zF v0 v1 0 0 h
set_option maxRecDepth 100000 in
set_option maxHeartbeats 4000000 in
theorem m_X1_spotsOfSet (l : Launch) (D : zD) (v0 : Nat) (v1 : Int32) (h : zH) : zMet l D yX1_spotsOfSet M_X1_spotsOfSet [.ref v0, .int v1] h (f_X1_spotsOfSet v0 v1 h) := by
  refine zMet.of (by decide +kernel) ⟨rfl, rfl⟩ (Nat.le_of_ble_eq_true rfl) (fun Y hl hD => ?_)
  show Z Y M_X1_spotsOfSet 0 0 0 [(0, .ref v0), (1, .int v1)] [] h _
  rw [f_X1_spotsOfSet]
  refine z_iconst (x := 0) (zat dd_X1_spotsOfSet 0 rfl) (by decide) ?_
  refine z_istore_n (lv' := [(2, .int 0), (0, .ref v0), (1, .int v1)]) (zat dd_X1_spotsOfSet 1 rfl) rfl (Nat.le_of_ble_eq_true rfl) rfl ?_
  refine z_iconst (x := 0) (zat dd_X1_spotsOfSet 2 rfl) (by decide) ?_
  refine z_istore_n (lv' := [(3, .int 0), (2, .int 0), (0, .ref v0), (1, .int v1)]) (zat dd_X1_spotsOfSet 3 rfl) rfl (Nat.le_of_ble_eq_true rfl) rfl ?_
  refine z_sub [2, 3, 1, 0] rfl ?_
  exact zb_X1_spotsOfSet_4 Y zF v0 v1 0 0 h
/-! PaperDolls$Doll.isDressed(LPaperDolls$Wear;)Z -/
def L_X1_isDressed : List (Nat × Instr × Nat) := [(0, .aload_n 0, 1), (1, .aload_n 1, 1), (2, .invokevirtual 77, 3), (5, .invokevirtual 81, 3), (8, .bipush 15, 2), (10, .if_icmp .ne 7, 3), (13, .iconst 1, 1), (14, .goto 4, 3), (17, .iconst 0, 1), (18, .ireturn, 1)]
theorem dd_X1_isDressed : ∀ q ∈ L_X1_isDressed, decode cX1_isDressed q.1 = .ok q.2 := by decide +kernel
abbrev M_X1_isDressed : zM := (cX1_isDressed, RX1, "isDressed", 2, some .boolean, 2, 0, 0)
theorem u_X1_isDressed : zCal yX1_isDressed (M_X1_isDressed) 1 := ⟨(zmem 631 (by decide +kernel) rfl : Cond.code yX1_isDressed cX1_isDressed 2 (some .boolean) ∈ zTb), zmem 58 (by decide +kernel) rfl, by decide +kernel, Nat.le_of_ble_eq_true rfl⟩
theorem qi_X1_isDressed : Cond.instanceMethod yX1_isDressed ∈ zTb := zmem 629 (by decide +kernel) rfl
theorem qs_X1_isDressed : Cond.selects yX1_isDressed.cls yX1_isDressed yX1_isDressed ∈ zTb := zmem 630 (by decide +kernel) rfl
def f_X1_isDressed_18 (t0 : Int32) (h : zH) : zR :=
  zrZ t0 h
set_option maxRecDepth 100000 in
set_option maxHeartbeats 4000000 in
theorem zb_X1_isDressed_18 (Y : zY) (t0 : Int32) (h : zH) : Z Y M_X1_isDressed 0 0 18 [] [.int t0] h (f_X1_isDressed_18 t0 h) := by
  rw [f_X1_isDressed_18]
  exact z_zret rfl (zat dd_X1_isDressed 9 rfl)
def f_X1_isDressed (v0 : Nat) (v1 : Nat) (h : zH) : zR :=
  zoc h v1 4 <|
  zcI (f_X8_onSet v1 h) fun x1 h2 =>
  zoc h2 v0 0 <|
  zcI (f_X1_spotsOfSet v0 x1 h2) fun x3 h4 =>
  if x3 = 15 then
  f_X1_isDressed_18 1 h4
  else
  f_X1_isDressed_18 0 h4
set_option maxRecDepth 100000 in
set_option maxHeartbeats 4000000 in
theorem m_X1_isDressed (l : Launch) (D : zD) (v0 : Nat) (v1 : Nat) (h : zH) : zMet l D yX1_isDressed M_X1_isDressed [.ref v0, .ref v1] h (f_X1_isDressed v0 v1 h) := by
  refine zMet.of (by decide +kernel) ⟨rfl, rfl⟩ (Nat.le_of_ble_eq_true rfl) (fun Y hl hD => ?_)
  show Z Y M_X1_isDressed 0 0 0 [(0, .ref v0), (1, .ref v1)] [] h _
  rw [f_X1_isDressed]
  refine z_aload_n 0 (zat dd_X1_isDressed 0 rfl) rfl rfl ?_
  refine z_aload_n 1 (zat dd_X1_isDressed 1 rfl) rfl rfl ?_
  refine z_callV_I0 (M2 := M_X8_onSet) [] (fun l D _ _ => m_X8_onSet l D v1 h) u_X8_onSet ql_X1_77 qi_X8_onSet qs_X8_onSet (ci := 4) rfl rfl rfl (Nat.le_of_ble_eq_true rfl) (by decide) rfl rfl (zat dd_X1_isDressed 2 rfl) (fun x1 h2 => ?_)
  refine z_callV_I0 (M2 := M_X1_spotsOfSet) [.int x1] (fun l D _ _ => m_X1_spotsOfSet l D v0 x1 h2) u_X1_spotsOfSet ql_X1_81 qi_X1_spotsOfSet qs_X1_spotsOfSet (ci := 0) rfl rfl rfl (Nat.le_of_ble_eq_true rfl) (by decide) rfl rfl (zat dd_X1_isDressed 3 rfl) (fun x3 h4 => ?_)
  refine z_bipush (x := 15) (zat dd_X1_isDressed 4 rfl) (by decide) ?_
  refine z_icmp_ne (tgt := 17) (zat dd_X1_isDressed 5 rfl) (by decide) ?_ ?_
  · refine z_iconst (x := 0) (zat dd_X1_isDressed 8 rfl) (by decide) ?_
    refine z_sub [] rfl ?_
    exact zb_X1_isDressed_18 Y 0 h4
  · refine z_iconst (x := 1) (zat dd_X1_isDressed 6 rfl) (by decide) ?_
    refine z_goto (tgt := 18) (zat dd_X1_isDressed 7 rfl) (by decide) ?_
    refine z_sub [] rfl ?_
    exact zb_X1_isDressed_18 Y 1 h4
/-! PaperDolls$Doll.holdOf(LPaperDolls$Wear;I)I -/
def L_X1_holdOf : List (Nat × Instr × Nat) := [(0, .aload_n 0, 1), (1, .iload_n 2, 1), (2, .invokevirtual 67, 3), (5, .ifCond .eq 27, 3), (8, .aload_n 0, 1), (9, .getfield 9, 3), (12, .iload_n 2, 1), (13, .iaload, 1), (14, .aload_n 0, 1), (15, .getfield 18, 3), (18, .iload_n 2, 1), (19, .iaload, 1), (20, .aload_n 1, 1), (21, .getfield 84, 3), (24, .iload_n 2, 1), (25, .iaload, 1), (26, .invokestatic 87, 3), (29, .goto 4, 3), (32, .iconst 0, 1), (33, .ireturn, 1)]
theorem dd_X1_holdOf : ∀ q ∈ L_X1_holdOf, decode cX1_holdOf q.1 = .ok q.2 := by decide +kernel
abbrev M_X1_holdOf : zM := (cX1_holdOf, RX1, "holdOf", 3, some .int, 1, 0, 0)
theorem u_X1_holdOf : zCal yX1_holdOf (M_X1_holdOf) 2 := ⟨(zmem 527 (by decide +kernel) rfl : Cond.code yX1_holdOf cX1_holdOf 3 (some .int) ∈ zTb), zmem 58 (by decide +kernel) rfl, by decide +kernel, Nat.le_of_ble_eq_true rfl⟩
theorem qi_X1_holdOf : Cond.instanceMethod yX1_holdOf ∈ zTb := zmem 525 (by decide +kernel) rfl
theorem qs_X1_holdOf : Cond.selects yX1_holdOf.cls yX1_holdOf yX1_holdOf ∈ zTb := zmem 526 (by decide +kernel) rfl
def f_X1_holdOf_33 (t0 : Int32) (h : zH) : zR :=
  zrI t0 h
set_option maxRecDepth 100000 in
set_option maxHeartbeats 4000000 in
theorem zb_X1_holdOf_33 (Y : zY) (t0 : Int32) (h : zH) : Z Y M_X1_holdOf 0 0 33 [] [.int t0] h (f_X1_holdOf_33 t0 h) := by
  rw [f_X1_holdOf_33]
  exact z_iret rfl (zat dd_X1_holdOf 19 rfl)
def f_X1_holdOf (v0 : Nat) (v1 : Nat) (v2 : Int32) (h : zH) : zR :=
  zoc h v0 0 <|
  zcI (f_X1_has v0 v2 h) fun x1 h2 =>
  if x1 = 0 then
  f_X1_holdOf_33 0 h2
  else
  zgR h2 v0 0 2 fun a3 =>
  zaI h2 a3 0 v2 fun x4 =>
  zgR h2 v0 0 4 fun a5 =>
  zaI h2 a5 0 v2 fun x6 =>
  zgR h2 v1 4 1 fun a7 =>
  zaI h2 a7 0 v2 fun x8 =>
  zcI (f_X0_holds x4 x6 x8 h2) fun x9 h10 =>
  f_X1_holdOf_33 x9 h10
set_option maxRecDepth 100000 in
set_option maxHeartbeats 4000000 in
theorem m_X1_holdOf (l : Launch) (D : zD) (v0 : Nat) (v1 : Nat) (v2 : Int32) (h : zH) : zMet l D yX1_holdOf M_X1_holdOf [.ref v0, .ref v1, .int v2] h (f_X1_holdOf v0 v1 v2 h) := by
  refine zMet.of (by decide +kernel) ⟨rfl, rfl⟩ (Nat.le_of_ble_eq_true rfl) (fun Y hl hD => ?_)
  show Z Y M_X1_holdOf 0 0 0 [(0, .ref v0), (1, .ref v1), (2, .int v2)] [] h _
  rw [f_X1_holdOf]
  refine z_aload_n 0 (zat dd_X1_holdOf 0 rfl) rfl rfl ?_
  refine z_iload_n 2 (zat dd_X1_holdOf 1 rfl) rfl rfl ?_
  refine z_callV_I0 (M2 := M_X1_has) [.int v2] (fun l D _ _ => m_X1_has l D v0 v2 h) u_X1_has ql_X1_67 qi_X1_has qs_X1_has (ci := 0) rfl rfl rfl (Nat.le_of_ble_eq_true rfl) (by decide) rfl rfl (zat dd_X1_holdOf 2 rfl) (fun x1 h2 => ?_)
  refine z_if_eq (tgt := 32) (zat dd_X1_holdOf 3 rfl) (by decide) ?_ ?_
  · refine z_iconst (x := 0) (zat dd_X1_holdOf 18 rfl) (by decide) ?_
    refine z_sub [] rfl ?_
    exact zb_X1_holdOf_33 Y 0 h2
  · refine z_aload_n 0 (zat dd_X1_holdOf 4 rfl) rfl rfl ?_
    refine z_getR fl_X1_9 (zat dd_X1_holdOf 5 rfl) (fun a3 => ?_)
    refine z_iload_n 2 (zat dd_X1_holdOf 6 rfl) rfl rfl ?_
    refine z_iald (zat dd_X1_holdOf 7 rfl) (fun x4 => ?_)
    refine z_aload_n 0 (zat dd_X1_holdOf 8 rfl) rfl rfl ?_
    refine z_getR fl_X1_18 (zat dd_X1_holdOf 9 rfl) (fun a5 => ?_)
    refine z_iload_n 2 (zat dd_X1_holdOf 10 rfl) rfl rfl ?_
    refine z_iald (zat dd_X1_holdOf 11 rfl) (fun x6 => ?_)
    refine z_aload_n 1 (zat dd_X1_holdOf 12 rfl) rfl rfl ?_
    refine z_getR fl_X1_84 (zat dd_X1_holdOf 13 rfl) (fun a7 => ?_)
    refine z_iload_n 2 (zat dd_X1_holdOf 14 rfl) rfl rfl ?_
    refine z_iald (zat dd_X1_holdOf 15 rfl) (fun x8 => ?_)
    refine z_callS_I0 (M2 := M_X0_holds) [.int x4, .int x6, .int x8] (fun l D _ _ => m_X0_holds l D x4 x6 x8 h2) u_X0_holds ql_X1_87 qi_X0_holds rfl rfl (Nat.le_of_ble_eq_true rfl) (by decide) rfl rfl (zat dd_X1_holdOf 16 rfl) (fun x9 h10 => ?_)
    refine z_goto (tgt := 33) (zat dd_X1_holdOf 17 rfl) (by decide) ?_
    refine z_sub [] rfl ?_
    exact zb_X1_holdOf_33 Y x9 h10
/-! PaperDolls$Doll.match(II)Z -/
def L_X1_match : List (Nat × Instr × Nat) := [(0, .aload_n 0, 1), (1, .iload_n 1, 1), (2, .invokevirtual 67, 3), (5, .ifCond .eq 37, 3), (8, .aload_n 0, 1), (9, .iload_n 2, 1), (10, .invokevirtual 67, 3), (13, .ifCond .eq 29, 3), (16, .aload_n 0, 1), (17, .getfield 38, 3), (20, .aload_n 0, 1), (21, .getfield 15, 3), (24, .iload_n 1, 1), (25, .iaload, 1), (26, .aload_n 0, 1), (27, .getfield 15, 3), (30, .iload_n 2, 1), (31, .iaload, 1), (32, .invokestatic 91, 3), (35, .ifCond .eq 7, 3), (38, .iconst 1, 1), (39, .goto 4, 3), (42, .iconst 0, 1), (43, .ireturn, 1)]
theorem dd_X1_match : ∀ q ∈ L_X1_match, decode cX1_match q.1 = .ok q.2 := by decide +kernel
abbrev M_X1_match : zM := (cX1_match, RX1, "match", 3, some .boolean, 1, 0, 0)
theorem u_X1_match : zCal yX1_match (M_X1_match) 2 := ⟨(zmem 556 (by decide +kernel) rfl : Cond.code yX1_match cX1_match 3 (some .boolean) ∈ zTb), zmem 58 (by decide +kernel) rfl, by decide +kernel, Nat.le_of_ble_eq_true rfl⟩
theorem qi_X1_match : Cond.instanceMethod yX1_match ∈ zTb := zmem 554 (by decide +kernel) rfl
theorem qs_X1_match : Cond.selects yX1_match.cls yX1_match yX1_match ∈ zTb := zmem 555 (by decide +kernel) rfl
def f_X1_match_43 (t0 : Int32) (h : zH) : zR :=
  zrZ t0 h
set_option maxRecDepth 100000 in
set_option maxHeartbeats 4000000 in
theorem zb_X1_match_43 (Y : zY) (t0 : Int32) (h : zH) : Z Y M_X1_match 0 0 43 [] [.int t0] h (f_X1_match_43 t0 h) := by
  rw [f_X1_match_43]
  exact z_zret rfl (zat dd_X1_match 23 rfl)
def f_X1_match_42 (h : zH) : zR :=
  f_X1_match_43 0 h
set_option maxRecDepth 100000 in
set_option maxHeartbeats 4000000 in
theorem zb_X1_match_42 (Y : zY) (h : zH) : Z Y M_X1_match 0 0 42 [] [] h (f_X1_match_42  h) := by
  rw [f_X1_match_42]
  refine z_iconst (x := 0) (zat dd_X1_match 22 rfl) (by decide) ?_
  exact zb_X1_match_43 Y 0 h
def f_X1_match (v0 : Nat) (v1 : Int32) (v2 : Int32) (h : zH) : zR :=
  zoc h v0 0 <|
  zcI (f_X1_has v0 v1 h) fun x1 h2 =>
  if x1 = 0 then
  f_X1_match_42 h2
  else
  zoc h2 v0 0 <|
  zcI (f_X1_has v0 v2 h2) fun x3 h4 =>
  if x3 = 0 then
  f_X1_match_42 h4
  else
  zgI h4 v0 0 0 fun x5 =>
  zgR h4 v0 0 3 fun a6 =>
  zaI h4 a6 0 v1 fun x7 =>
  zgR h4 v0 0 3 fun a8 =>
  zaI h4 a8 0 v2 fun x9 =>
  zcI (f_X6_allows x5 x7 x9 h4) fun x10 h11 =>
  if x10 = 0 then
  f_X1_match_42 h11
  else
  f_X1_match_43 1 h11
set_option maxRecDepth 100000 in
set_option maxHeartbeats 4000000 in
theorem m_X1_match (l : Launch) (D : zD) (v0 : Nat) (v1 : Int32) (v2 : Int32) (h : zH) : zMet l D yX1_match M_X1_match [.ref v0, .int v1, .int v2] h (f_X1_match v0 v1 v2 h) := by
  refine zMet.of (by decide +kernel) ⟨rfl, rfl⟩ (Nat.le_of_ble_eq_true rfl) (fun Y hl hD => ?_)
  show Z Y M_X1_match 0 0 0 [(0, .ref v0), (1, .int v1), (2, .int v2)] [] h _
  rw [f_X1_match]
  refine z_aload_n 0 (zat dd_X1_match 0 rfl) rfl rfl ?_
  refine z_iload_n 1 (zat dd_X1_match 1 rfl) rfl rfl ?_
  refine z_callV_I0 (M2 := M_X1_has) [.int v1] (fun l D _ _ => m_X1_has l D v0 v1 h) u_X1_has ql_X1_67 qi_X1_has qs_X1_has (ci := 0) rfl rfl rfl (Nat.le_of_ble_eq_true rfl) (by decide) rfl rfl (zat dd_X1_match 2 rfl) (fun x1 h2 => ?_)
  refine z_if_eq (tgt := 42) (zat dd_X1_match 3 rfl) (by decide) ?_ ?_
  · refine z_sub [] rfl ?_
    exact zb_X1_match_42 Y h2
  · refine z_aload_n 0 (zat dd_X1_match 4 rfl) rfl rfl ?_
    refine z_iload_n 2 (zat dd_X1_match 5 rfl) rfl rfl ?_
    refine z_callV_I0 (M2 := M_X1_has) [.int v2] (fun l D _ _ => m_X1_has l D v0 v2 h2) u_X1_has ql_X1_67 qi_X1_has qs_X1_has (ci := 0) rfl rfl rfl (Nat.le_of_ble_eq_true rfl) (by decide) rfl rfl (zat dd_X1_match 6 rfl) (fun x3 h4 => ?_)
    refine z_if_eq (tgt := 42) (zat dd_X1_match 7 rfl) (by decide) ?_ ?_
    · refine z_sub [] rfl ?_
      exact zb_X1_match_42 Y h4
    · refine z_aload_n 0 (zat dd_X1_match 8 rfl) rfl rfl ?_
      refine z_getI fl_X1_38 (zat dd_X1_match 9 rfl) (fun x5 => ?_)
      refine z_aload_n 0 (zat dd_X1_match 10 rfl) rfl rfl ?_
      refine z_getR fl_X1_15 (zat dd_X1_match 11 rfl) (fun a6 => ?_)
      refine z_iload_n 1 (zat dd_X1_match 12 rfl) rfl rfl ?_
      refine z_iald (zat dd_X1_match 13 rfl) (fun x7 => ?_)
      refine z_aload_n 0 (zat dd_X1_match 14 rfl) rfl rfl ?_
      refine z_getR fl_X1_15 (zat dd_X1_match 15 rfl) (fun a8 => ?_)
      refine z_iload_n 2 (zat dd_X1_match 16 rfl) rfl rfl ?_
      refine z_iald (zat dd_X1_match 17 rfl) (fun x9 => ?_)
      refine z_callS_I0 (M2 := M_X6_allows) [.int x5, .int x7, .int x9] (fun l D _ _ => m_X6_allows l D x5 x7 x9 h4) u_X6_allows ql_X1_91 qi_X6_allows rfl rfl (Nat.le_of_ble_eq_true rfl) (by decide) rfl rfl (zat dd_X1_match 18 rfl) (fun x10 h11 => ?_)
      refine z_if_eq (tgt := 42) (zat dd_X1_match 19 rfl) (by decide) ?_ ?_
      · refine z_sub [] rfl ?_
        exact zb_X1_match_42 Y h11
      · refine z_iconst (x := 1) (zat dd_X1_match 20 rfl) (by decide) ?_
        refine z_goto (tgt := 43) (zat dd_X1_match 21 rfl) (by decide) ?_
        refine z_sub [] rfl ?_
        exact zb_X1_match_43 Y 1 h11
/-! PaperDolls$Doll.matchesOf(I)I -/
def L_X1_matchesOf : List (Nat × Instr × Nat) := [(0, .iconst 0, 1), (1, .istore_n 2, 1), (2, .iconst 0, 1), (3, .istore_n 3, 1), (4, .iload_n 3, 1), (5, .aload_n 0, 1), (6, .getfield 42, 3), (9, .if_icmp .ge 24, 3), (12, .aload_n 0, 1), (13, .iload_n 1, 1), (14, .iload_n 3, 1), (15, .invokevirtual 97, 3), (18, .ifCond .eq 9, 3), (21, .iload_n 2, 1), (22, .iconst 1, 1), (23, .iload_n 3, 1), (24, .ishl, 1), (25, .ior, 1), (26, .istore_n 2, 1), (27, .iinc 3 1, 3), (30, .goto (-26), 3), (33, .iload_n 2, 1), (34, .ireturn, 1)]
theorem dd_X1_matchesOf : ∀ q ∈ L_X1_matchesOf, decode cX1_matchesOf q.1 = .ok q.2 := by decide +kernel
abbrev M_X1_matchesOf : zM := (cX1_matchesOf, RX1, "matchesOf", 4, some .int, 2, 0, 0)
theorem u_X1_matchesOf : zCal yX1_matchesOf (M_X1_matchesOf) 1 := ⟨(zmem 552 (by decide +kernel) rfl : Cond.code yX1_matchesOf cX1_matchesOf 4 (some .int) ∈ zTb), zmem 58 (by decide +kernel) rfl, by decide +kernel, Nat.le_of_ble_eq_true rfl⟩
theorem qi_X1_matchesOf : Cond.instanceMethod yX1_matchesOf ∈ zTb := zmem 550 (by decide +kernel) rfl
theorem qs_X1_matchesOf : Cond.selects yX1_matchesOf.cls yX1_matchesOf yX1_matchesOf ∈ zTb := zmem 551 (by decide +kernel) rfl
def f_X1_matchesOf_27 (k4 : Nat → Int32 → Int32 → Int32 → zH → zR) (v0 : Nat) (v1 : Int32) (v2 : Int32) (v3 : Int32) (h : zH) : zR :=
  k4 v0 v1 v2 (v3 + 1) h
set_option maxRecDepth 100000 in
set_option maxHeartbeats 4000000 in
theorem zb_X1_matchesOf_27 (Y : zY) (k4 : Nat → Int32 → Int32 → Int32 → zH → zR) (hk4 : ∀ (v0 : Nat) (v1 : Int32) (v2 : Int32) (v3 : Int32) (h : zH), Z Y M_X1_matchesOf 0 0 4 [(0, .ref v0), (1, .int v1), (2, .int v2), (3, .int v3)] [] h (k4 v0 v1 v2 v3 h)) (v0 : Nat) (v1 : Int32) (v2 : Int32) (v3 : Int32) (h : zH) : Z Y M_X1_matchesOf 0 0 27 [(0, .ref v0), (1, .int v1), (2, .int v2), (3, .int v3)] [] h (f_X1_matchesOf_27 k4 v0 v1 v2 v3 h) := by
  rw [f_X1_matchesOf_27]
  refine z_iinc (y := v3 + 1) (lv' := [(3, .int (v3 + 1)), (0, .ref v0), (1, .int v1), (2, .int v2)]) 3 (zat dd_X1_matchesOf 19 rfl) rfl rfl (Nat.le_of_ble_eq_true rfl) rfl ?_
  refine z_goto (tgt := 4) (zat dd_X1_matchesOf 20 rfl) (by decide) ?_
  refine z_sub [1, 2, 3, 0] rfl ?_
  exact hk4 v0 v1 v2 (v3 + 1) h
def f_X1_matchesOf_4 : Nat → Nat → Int32 → Int32 → Int32 → zH → zR
  | 0, _, _, _, _, _ => none
  | n + 1, v0, v1, v2, v3, h =>
  zgI h v0 0 1 fun x1 =>
  if x1 ≤ v3 then
  zrI v2 h
  else
  zoc h v0 0 <|
  zcI (f_X1_match v0 v1 v3 h) fun x2 h3 =>
  if x2 = 0 then
  f_X1_matchesOf_27 (f_X1_matchesOf_4 n) v0 v1 v2 v3 h3
  else
  zlt (v2 ||| (1 <<< (v3 &&& 31))) fun x4 =>
  f_X1_matchesOf_27 (f_X1_matchesOf_4 n) v0 v1 x4 v3 h3
set_option maxRecDepth 100000 in
set_option maxHeartbeats 4000000 in
theorem zb_X1_matchesOf_4 (Y : zY) : ∀ (n : Nat) (v0 : Nat) (v1 : Int32) (v2 : Int32) (v3 : Int32) (h : zH), Z Y M_X1_matchesOf 0 0 4 [(0, .ref v0), (1, .int v1), (2, .int v2), (3, .int v3)] [] h (f_X1_matchesOf_4 n v0 v1 v2 v3 h) := by
  intro n
  induction n with
  | zero =>
    intro v0 v1 v2 v3 h
    rw [f_X1_matchesOf_4]
    exact z_none
  | succ n ih =>
    intro v0 v1 v2 v3 h
    rw [f_X1_matchesOf_4]
    refine z_iload_n 3 (zat dd_X1_matchesOf 4 rfl) rfl rfl ?_
    refine z_aload_n 0 (zat dd_X1_matchesOf 5 rfl) rfl rfl ?_
    refine z_getI fl_X1_42 (zat dd_X1_matchesOf 6 rfl) (fun x1 => ?_)
    refine z_icmp_ge (tgt := 33) (zat dd_X1_matchesOf 7 rfl) (by decide) ?_ ?_
    · refine z_iload_n 2 (zat dd_X1_matchesOf 21 rfl) rfl rfl ?_
      exact z_iret rfl (zat dd_X1_matchesOf 22 rfl)
    · refine z_aload_n 0 (zat dd_X1_matchesOf 8 rfl) rfl rfl ?_
      refine z_iload_n 1 (zat dd_X1_matchesOf 9 rfl) rfl rfl ?_
      refine z_iload_n 3 (zat dd_X1_matchesOf 10 rfl) rfl rfl ?_
      refine z_callV_I0 (M2 := M_X1_match) [.int v1, .int v3] (fun l D _ _ => m_X1_match l D v0 v1 v3 h) u_X1_match ql_X1_97 qi_X1_match qs_X1_match (ci := 0) rfl rfl rfl (Nat.le_of_ble_eq_true rfl) (by decide) rfl rfl (zat dd_X1_matchesOf 11 rfl) (fun x2 h3 => ?_)
      refine z_if_eq (tgt := 27) (zat dd_X1_matchesOf 12 rfl) (by decide) ?_ ?_
      · exact zb_X1_matchesOf_27 Y (f_X1_matchesOf_4 n) ih v0 v1 v2 v3 h3
      · refine z_iload_n 2 (zat dd_X1_matchesOf 13 rfl) rfl rfl ?_
        refine z_iconst (x := 1) (zat dd_X1_matchesOf 14 rfl) (by decide) ?_
        refine z_iload_n 3 (zat dd_X1_matchesOf 15 rfl) rfl rfl ?_
        refine z_ishl (zat dd_X1_matchesOf 16 rfl) ?_
        refine z_ior (zat dd_X1_matchesOf 17 rfl) ?_
        refine z_let (fun x4 => ?_)
        refine z_istore_n (lv' := [(2, .int x4), (0, .ref v0), (1, .int v1), (3, .int v3)]) (zat dd_X1_matchesOf 18 rfl) rfl (Nat.le_of_ble_eq_true rfl) rfl ?_
        refine z_sub [1, 2, 0, 3] rfl ?_
        exact zb_X1_matchesOf_27 Y (f_X1_matchesOf_4 n) ih v0 v1 x4 v3 h3
def f_X1_matchesOf (v0 : Nat) (v1 : Int32) (h : zH) : zR :=
  f_X1_matchesOf_4 zF v0 v1 0 0 h
set_option maxRecDepth 100000 in
set_option maxHeartbeats 4000000 in
theorem m_X1_matchesOf (l : Launch) (D : zD) (v0 : Nat) (v1 : Int32) (h : zH) : zMet l D yX1_matchesOf M_X1_matchesOf [.ref v0, .int v1] h (f_X1_matchesOf v0 v1 h) := by
  refine zMet.of (by decide +kernel) ⟨rfl, rfl⟩ (Nat.le_of_ble_eq_true rfl) (fun Y hl hD => ?_)
  show Z Y M_X1_matchesOf 0 0 0 [(0, .ref v0), (1, .int v1)] [] h _
  rw [f_X1_matchesOf]
  refine z_iconst (x := 0) (zat dd_X1_matchesOf 0 rfl) (by decide) ?_
  refine z_istore_n (lv' := [(2, .int 0), (0, .ref v0), (1, .int v1)]) (zat dd_X1_matchesOf 1 rfl) rfl (Nat.le_of_ble_eq_true rfl) rfl ?_
  refine z_iconst (x := 0) (zat dd_X1_matchesOf 2 rfl) (by decide) ?_
  refine z_istore_n (lv' := [(3, .int 0), (2, .int 0), (0, .ref v0), (1, .int v1)]) (zat dd_X1_matchesOf 3 rfl) rfl (Nat.le_of_ble_eq_true rfl) rfl ?_
  refine z_sub [2, 3, 1, 0] rfl ?_
  exact zb_X1_matchesOf_4 Y zF v0 v1 0 0 h
/-! PaperDolls$Doll.allMatch(I)Z -/
def L_X1_allMatch : List (Nat × Instr × Nat) := [(0, .iconst 0, 1), (1, .istore_n 2, 1), (2, .iload_n 2, 1), (3, .aload_n 0, 1), (4, .getfield 42, 3), (7, .if_icmp .ge 38, 3), (10, .iload_n 1, 1), (11, .iload_n 2, 1), (12, .ishr, 1), (13, .iconst 1, 1), (14, .iand, 1), (15, .iconst 1, 1), (16, .if_icmp .ne 23, 3), (19, .iload_n 1, 1), (20, .iconst 1, 1), (21, .iload_n 2, 1), (22, .ishl, 1), (23, .iconst (-1), 1), (24, .ixor, 1), (25, .iand, 1), (26, .aload_n 0, 1), (27, .iload_n 2, 1), (28, .invokevirtual 101, 3), (31, .iconst (-1), 1), (32, .ixor, 1), (33, .iand, 1), (34, .ifCond .eq 5, 3), (37, .iconst 0, 1), (38, .ireturn, 1), (39, .iinc 2 1, 3), (42, .goto (-40), 3), (45, .iconst 1, 1), (46, .ireturn, 1)]
theorem dd_X1_allMatch : ∀ q ∈ L_X1_allMatch, decode cX1_allMatch q.1 = .ok q.2 := by decide +kernel
abbrev M_X1_allMatch : zM := (cX1_allMatch, RX1, "allMatch", 3, some .boolean, 3, 0, 0)
theorem u_X1_allMatch : zCal yX1_allMatch (M_X1_allMatch) 1 := ⟨(zmem 576 (by decide +kernel) rfl : Cond.code yX1_allMatch cX1_allMatch 3 (some .boolean) ∈ zTb), zmem 58 (by decide +kernel) rfl, by decide +kernel, Nat.le_of_ble_eq_true rfl⟩
theorem qi_X1_allMatch : Cond.instanceMethod yX1_allMatch ∈ zTb := zmem 574 (by decide +kernel) rfl
theorem qs_X1_allMatch : Cond.selects yX1_allMatch.cls yX1_allMatch yX1_allMatch ∈ zTb := zmem 575 (by decide +kernel) rfl
def f_X1_allMatch_39 (k2 : Nat → Int32 → Int32 → zH → zR) (v0 : Nat) (v1 : Int32) (v2 : Int32) (h : zH) : zR :=
  k2 v0 v1 (v2 + 1) h
set_option maxRecDepth 100000 in
set_option maxHeartbeats 4000000 in
theorem zb_X1_allMatch_39 (Y : zY) (k2 : Nat → Int32 → Int32 → zH → zR) (hk2 : ∀ (v0 : Nat) (v1 : Int32) (v2 : Int32) (h : zH), Z Y M_X1_allMatch 0 0 2 [(0, .ref v0), (1, .int v1), (2, .int v2)] [] h (k2 v0 v1 v2 h)) (v0 : Nat) (v1 : Int32) (v2 : Int32) (h : zH) : Z Y M_X1_allMatch 0 0 39 [(0, .ref v0), (1, .int v1), (2, .int v2)] [] h (f_X1_allMatch_39 k2 v0 v1 v2 h) := by
  rw [f_X1_allMatch_39]
  refine z_iinc (y := v2 + 1) (lv' := [(2, .int (v2 + 1)), (0, .ref v0), (1, .int v1)]) 2 (zat dd_X1_allMatch 29 rfl) rfl rfl (Nat.le_of_ble_eq_true rfl) rfl ?_
  refine z_goto (tgt := 2) (zat dd_X1_allMatch 30 rfl) (by decide) ?_
  refine z_sub [1, 2, 0] rfl ?_
  exact hk2 v0 v1 (v2 + 1) h
def f_X1_allMatch_2 : Nat → Nat → Int32 → Int32 → zH → zR
  | 0, _, _, _, _ => none
  | n + 1, v0, v1, v2, h =>
  zgI h v0 0 1 fun x1 =>
  if x1 ≤ v2 then
  zrZ 1 h
  else
  if ((v1 >>> (v2 &&& 31)) &&& 1) = 1 then
  zoc h v0 0 <|
  zcI (f_X1_matchesOf v0 v2 h) fun x2 h3 =>
  if ((v1 &&& ((1 <<< (v2 &&& 31)) ^^^ (-1))) &&& (x2 ^^^ (-1))) = 0 then
  f_X1_allMatch_39 (f_X1_allMatch_2 n) v0 v1 v2 h3
  else
  zrZ 0 h3
  else
  f_X1_allMatch_39 (f_X1_allMatch_2 n) v0 v1 v2 h
set_option maxRecDepth 100000 in
set_option maxHeartbeats 4000000 in
theorem zb_X1_allMatch_2 (Y : zY) : ∀ (n : Nat) (v0 : Nat) (v1 : Int32) (v2 : Int32) (h : zH), Z Y M_X1_allMatch 0 0 2 [(0, .ref v0), (1, .int v1), (2, .int v2)] [] h (f_X1_allMatch_2 n v0 v1 v2 h) := by
  intro n
  induction n with
  | zero =>
    intro v0 v1 v2 h
    rw [f_X1_allMatch_2]
    exact z_none
  | succ n ih =>
    intro v0 v1 v2 h
    rw [f_X1_allMatch_2]
    refine z_iload_n 2 (zat dd_X1_allMatch 2 rfl) rfl rfl ?_
    refine z_aload_n 0 (zat dd_X1_allMatch 3 rfl) rfl rfl ?_
    refine z_getI fl_X1_42 (zat dd_X1_allMatch 4 rfl) (fun x1 => ?_)
    refine z_icmp_ge (tgt := 45) (zat dd_X1_allMatch 5 rfl) (by decide) ?_ ?_
    · refine z_iconst (x := 1) (zat dd_X1_allMatch 31 rfl) (by decide) ?_
      exact z_zret rfl (zat dd_X1_allMatch 32 rfl)
    · refine z_iload_n 1 (zat dd_X1_allMatch 6 rfl) rfl rfl ?_
      refine z_iload_n 2 (zat dd_X1_allMatch 7 rfl) rfl rfl ?_
      refine z_ishr (zat dd_X1_allMatch 8 rfl) ?_
      refine z_iconst (x := 1) (zat dd_X1_allMatch 9 rfl) (by decide) ?_
      refine z_iand (zat dd_X1_allMatch 10 rfl) ?_
      refine z_iconst (x := 1) (zat dd_X1_allMatch 11 rfl) (by decide) ?_
      refine z_icmp_ne (tgt := 39) (zat dd_X1_allMatch 12 rfl) (by decide) ?_ ?_
      · exact zb_X1_allMatch_39 Y (f_X1_allMatch_2 n) ih v0 v1 v2 h
      · refine z_iload_n 1 (zat dd_X1_allMatch 13 rfl) rfl rfl ?_
        refine z_iconst (x := 1) (zat dd_X1_allMatch 14 rfl) (by decide) ?_
        refine z_iload_n 2 (zat dd_X1_allMatch 15 rfl) rfl rfl ?_
        refine z_ishl (zat dd_X1_allMatch 16 rfl) ?_
        refine z_iconst (x := (-1)) (zat dd_X1_allMatch 17 rfl) (by decide) ?_
        refine z_ixor (zat dd_X1_allMatch 18 rfl) ?_
        refine z_iand (zat dd_X1_allMatch 19 rfl) ?_
        refine z_aload_n 0 (zat dd_X1_allMatch 20 rfl) rfl rfl ?_
        refine z_iload_n 2 (zat dd_X1_allMatch 21 rfl) rfl rfl ?_
        refine z_callV_I0 (M2 := M_X1_matchesOf) [.int v2] (fun l D _ _ => m_X1_matchesOf l D v0 v2 h) u_X1_matchesOf ql_X1_101 qi_X1_matchesOf qs_X1_matchesOf (ci := 0) rfl rfl rfl (Nat.le_of_ble_eq_true rfl) (by decide) rfl rfl (zat dd_X1_allMatch 22 rfl) (fun x2 h3 => ?_)
        refine z_iconst (x := (-1)) (zat dd_X1_allMatch 23 rfl) (by decide) ?_
        refine z_ixor (zat dd_X1_allMatch 24 rfl) ?_
        refine z_iand (zat dd_X1_allMatch 25 rfl) ?_
        refine z_if_eq (tgt := 39) (zat dd_X1_allMatch 26 rfl) (by decide) ?_ ?_
        · exact zb_X1_allMatch_39 Y (f_X1_allMatch_2 n) ih v0 v1 v2 h3
        · refine z_iconst (x := 0) (zat dd_X1_allMatch 27 rfl) (by decide) ?_
          exact z_zret rfl (zat dd_X1_allMatch 28 rfl)
def f_X1_allMatch (v0 : Nat) (v1 : Int32) (h : zH) : zR :=
  f_X1_allMatch_2 zF v0 v1 0 h
set_option maxRecDepth 100000 in
set_option maxHeartbeats 4000000 in
theorem m_X1_allMatch (l : Launch) (D : zD) (v0 : Nat) (v1 : Int32) (h : zH) : zMet l D yX1_allMatch M_X1_allMatch [.ref v0, .int v1] h (f_X1_allMatch v0 v1 h) := by
  refine zMet.of (by decide +kernel) ⟨rfl, rfl⟩ (Nat.le_of_ble_eq_true rfl) (fun Y hl hD => ?_)
  show Z Y M_X1_allMatch 0 0 0 [(0, .ref v0), (1, .int v1)] [] h _
  rw [f_X1_allMatch]
  refine z_iconst (x := 0) (zat dd_X1_allMatch 0 rfl) (by decide) ?_
  refine z_istore_n (lv' := [(2, .int 0), (0, .ref v0), (1, .int v1)]) (zat dd_X1_allMatch 1 rfl) rfl (Nat.le_of_ble_eq_true rfl) rfl ?_
  refine z_sub [1, 2, 0] rfl ?_
  exact zb_X1_allMatch_2 Y zF v0 v1 0 h
/-! PaperDolls$Doll.mayPut(LPaperDolls$Wear;I)Z -/
def L_X1_mayPut : List (Nat × Instr × Nat) := [(0, .aload_n 1, 1), (1, .iload_n 2, 1), (2, .invokevirtual 111, 3), (5, .bipush (-101), 2), (7, .if_icmp .ne 28, 3), (10, .aload_n 0, 1), (11, .getfield 9, 3), (14, .iload_n 2, 1), (15, .iaload, 1), (16, .aload_n 0, 1), (17, .getfield 18, 3), (20, .iload_n 2, 1), (21, .iaload, 1), (22, .aload_n 1, 1), (23, .getfield 84, 3), (26, .iload_n 2, 1), (27, .iaload, 1), (28, .invokestatic 87, 3), (31, .iconst 1, 1), (32, .if_icmp .ge 5, 3), (35, .iconst 0, 1), (36, .ireturn, 1), (37, .iconst 0, 1), (38, .istore_n 3, 1), (39, .iload_n 3, 1), (40, .aload_n 1, 1), (41, .getfield 114, 3), (44, .if_icmp .ge 38, 3), (47, .aload_n 0, 1), (48, .getfield 38, 3), (51, .aload_n 0, 1), (52, .getfield 15, 3), (55, .iload_n 2, 1), (56, .iaload, 1), (57, .aload_n 0, 1), (58, .getfield 15, 3), (61, .aload_n 1, 1), (62, .getfield 117, 3), (65, .iload_n 3, 1), (66, .iaload, 1), (67, .iaload, 1), (68, .invokestatic 91, 3), (71, .ifCond .ne 5, 3), (74, .iconst 0, 1), (75, .ireturn, 1), (76, .iinc 3 1, 3), (79, .goto (-40), 3), (82, .iconst 1, 1), (83, .ireturn, 1)]
theorem dd_X1_mayPut : ∀ q ∈ L_X1_mayPut, decode cX1_mayPut q.1 = .ok q.2 := by decide +kernel
abbrev M_X1_mayPut : zM := (cX1_mayPut, RX1, "mayPut", 4, some .boolean, 1, 0, 0)
theorem u_X1_mayPut : zCal yX1_mayPut (M_X1_mayPut) 2 := ⟨(zmem 434 (by decide +kernel) rfl : Cond.code yX1_mayPut cX1_mayPut 4 (some .boolean) ∈ zTb), zmem 58 (by decide +kernel) rfl, by decide +kernel, Nat.le_of_ble_eq_true rfl⟩
theorem qi_X1_mayPut : Cond.instanceMethod yX1_mayPut ∈ zTb := zmem 433 (by decide +kernel) rfl
theorem qs_X1_mayPut : Cond.selects yX1_mayPut.cls yX1_mayPut yX1_mayPut ∈ zTb := zmem 10 (by decide +kernel) rfl
def f_X1_mayPut_39 : Nat → Nat → Nat → Int32 → Int32 → zH → zR
  | 0, _, _, _, _, _ => none
  | n + 1, v0, v1, v2, v3, h =>
  zgI h v1 4 2 fun x1 =>
  if x1 ≤ v3 then
  zrZ 1 h
  else
  zgI h v0 0 0 fun x2 =>
  zgR h v0 0 3 fun a3 =>
  zaI h a3 0 v2 fun x4 =>
  zgR h v0 0 3 fun a5 =>
  zgR h v1 4 0 fun a6 =>
  zaI h a6 0 v3 fun x7 =>
  zaI h a5 0 x7 fun x8 =>
  zcI (f_X6_allows x2 x4 x8 h) fun x9 h10 =>
  if x9 = 0 then
  zrZ 0 h10
  else
  f_X1_mayPut_39 n v0 v1 v2 (v3 + 1) h10
set_option maxRecDepth 100000 in
set_option maxHeartbeats 4000000 in
theorem zb_X1_mayPut_39 (Y : zY) : ∀ (n : Nat) (v0 : Nat) (v1 : Nat) (v2 : Int32) (v3 : Int32) (h : zH), Z Y M_X1_mayPut 0 0 39 [(0, .ref v0), (1, .ref v1), (2, .int v2), (3, .int v3)] [] h (f_X1_mayPut_39 n v0 v1 v2 v3 h) := by
  intro n
  induction n with
  | zero =>
    intro v0 v1 v2 v3 h
    rw [f_X1_mayPut_39]
    exact z_none
  | succ n ih =>
    intro v0 v1 v2 v3 h
    rw [f_X1_mayPut_39]
    refine z_iload_n 3 (zat dd_X1_mayPut 24 rfl) rfl rfl ?_
    refine z_aload_n 1 (zat dd_X1_mayPut 25 rfl) rfl rfl ?_
    refine z_getI fl_X1_114 (zat dd_X1_mayPut 26 rfl) (fun x1 => ?_)
    refine z_icmp_ge (tgt := 82) (zat dd_X1_mayPut 27 rfl) (by decide) ?_ ?_
    · refine z_iconst (x := 1) (zat dd_X1_mayPut 47 rfl) (by decide) ?_
      exact z_zret rfl (zat dd_X1_mayPut 48 rfl)
    · refine z_aload_n 0 (zat dd_X1_mayPut 28 rfl) rfl rfl ?_
      refine z_getI fl_X1_38 (zat dd_X1_mayPut 29 rfl) (fun x2 => ?_)
      refine z_aload_n 0 (zat dd_X1_mayPut 30 rfl) rfl rfl ?_
      refine z_getR fl_X1_15 (zat dd_X1_mayPut 31 rfl) (fun a3 => ?_)
      refine z_iload_n 2 (zat dd_X1_mayPut 32 rfl) rfl rfl ?_
      refine z_iald (zat dd_X1_mayPut 33 rfl) (fun x4 => ?_)
      refine z_aload_n 0 (zat dd_X1_mayPut 34 rfl) rfl rfl ?_
      refine z_getR fl_X1_15 (zat dd_X1_mayPut 35 rfl) (fun a5 => ?_)
      refine z_aload_n 1 (zat dd_X1_mayPut 36 rfl) rfl rfl ?_
      refine z_getR fl_X1_117 (zat dd_X1_mayPut 37 rfl) (fun a6 => ?_)
      refine z_iload_n 3 (zat dd_X1_mayPut 38 rfl) rfl rfl ?_
      refine z_iald (zat dd_X1_mayPut 39 rfl) (fun x7 => ?_)
      refine z_iald (zat dd_X1_mayPut 40 rfl) (fun x8 => ?_)
      refine z_callS_I0 (M2 := M_X6_allows) [.int x2, .int x4, .int x8] (fun l D _ _ => m_X6_allows l D x2 x4 x8 h) u_X6_allows ql_X1_91 qi_X6_allows rfl rfl (Nat.le_of_ble_eq_true rfl) (by decide) rfl rfl (zat dd_X1_mayPut 41 rfl) (fun x9 h10 => ?_)
      refine z_if_ne (tgt := 76) (zat dd_X1_mayPut 42 rfl) (by decide) ?_ ?_
      · refine z_iinc (y := v3 + 1) (lv' := [(3, .int (v3 + 1)), (0, .ref v0), (1, .ref v1), (2, .int v2)]) 3 (zat dd_X1_mayPut 45 rfl) rfl rfl (Nat.le_of_ble_eq_true rfl) rfl ?_
        refine z_goto (tgt := 39) (zat dd_X1_mayPut 46 rfl) (by decide) ?_
        refine z_sub [1, 2, 3, 0] rfl ?_
        exact ih v0 v1 v2 (v3 + 1) h10
      · refine z_iconst (x := 0) (zat dd_X1_mayPut 43 rfl) (by decide) ?_
        exact z_zret rfl (zat dd_X1_mayPut 44 rfl)
def f_X1_mayPut_35 (h : zH) : zR :=
  zrZ 0 h
set_option maxRecDepth 100000 in
set_option maxHeartbeats 4000000 in
theorem zb_X1_mayPut_35 (Y : zY) (h : zH) : Z Y M_X1_mayPut 0 0 35 [] [] h (f_X1_mayPut_35  h) := by
  rw [f_X1_mayPut_35]
  refine z_iconst (x := 0) (zat dd_X1_mayPut 20 rfl) (by decide) ?_
  exact z_zret rfl (zat dd_X1_mayPut 21 rfl)
def f_X1_mayPut (v0 : Nat) (v1 : Nat) (v2 : Int32) (h : zH) : zR :=
  zoc h v1 4 <|
  zcI (f_X8_placeOf v1 v2 h) fun x1 h2 =>
  if x1 = (-101) then
  zgR h2 v0 0 2 fun a3 =>
  zaI h2 a3 0 v2 fun x4 =>
  zgR h2 v0 0 4 fun a5 =>
  zaI h2 a5 0 v2 fun x6 =>
  zgR h2 v1 4 1 fun a7 =>
  zaI h2 a7 0 v2 fun x8 =>
  zcI (f_X0_holds x4 x6 x8 h2) fun x9 h10 =>
  if 1 ≤ x9 then
  f_X1_mayPut_39 zF v0 v1 v2 0 h10
  else
  f_X1_mayPut_35 h10
  else
  f_X1_mayPut_35 h2
set_option maxRecDepth 100000 in
set_option maxHeartbeats 4000000 in
theorem m_X1_mayPut (l : Launch) (D : zD) (v0 : Nat) (v1 : Nat) (v2 : Int32) (h : zH) : zMet l D yX1_mayPut M_X1_mayPut [.ref v0, .ref v1, .int v2] h (f_X1_mayPut v0 v1 v2 h) := by
  refine zMet.of (by decide +kernel) ⟨rfl, rfl⟩ (Nat.le_of_ble_eq_true rfl) (fun Y hl hD => ?_)
  show Z Y M_X1_mayPut 0 0 0 [(0, .ref v0), (1, .ref v1), (2, .int v2)] [] h _
  rw [f_X1_mayPut]
  refine z_aload_n 1 (zat dd_X1_mayPut 0 rfl) rfl rfl ?_
  refine z_iload_n 2 (zat dd_X1_mayPut 1 rfl) rfl rfl ?_
  refine z_callV_I0 (M2 := M_X8_placeOf) [.int v2] (fun l D _ _ => m_X8_placeOf l D v1 v2 h) u_X8_placeOf ql_X1_111 qi_X8_placeOf qs_X8_placeOf (ci := 4) rfl rfl rfl (Nat.le_of_ble_eq_true rfl) (by decide) rfl rfl (zat dd_X1_mayPut 2 rfl) (fun x1 h2 => ?_)
  refine z_bipush (x := (-101)) (zat dd_X1_mayPut 3 rfl) (by decide) ?_
  refine z_icmp_ne (tgt := 35) (zat dd_X1_mayPut 4 rfl) (by decide) ?_ ?_
  · refine z_sub [] rfl ?_
    exact zb_X1_mayPut_35 Y h2
  · refine z_aload_n 0 (zat dd_X1_mayPut 5 rfl) rfl rfl ?_
    refine z_getR fl_X1_9 (zat dd_X1_mayPut 6 rfl) (fun a3 => ?_)
    refine z_iload_n 2 (zat dd_X1_mayPut 7 rfl) rfl rfl ?_
    refine z_iald (zat dd_X1_mayPut 8 rfl) (fun x4 => ?_)
    refine z_aload_n 0 (zat dd_X1_mayPut 9 rfl) rfl rfl ?_
    refine z_getR fl_X1_18 (zat dd_X1_mayPut 10 rfl) (fun a5 => ?_)
    refine z_iload_n 2 (zat dd_X1_mayPut 11 rfl) rfl rfl ?_
    refine z_iald (zat dd_X1_mayPut 12 rfl) (fun x6 => ?_)
    refine z_aload_n 1 (zat dd_X1_mayPut 13 rfl) rfl rfl ?_
    refine z_getR fl_X1_84 (zat dd_X1_mayPut 14 rfl) (fun a7 => ?_)
    refine z_iload_n 2 (zat dd_X1_mayPut 15 rfl) rfl rfl ?_
    refine z_iald (zat dd_X1_mayPut 16 rfl) (fun x8 => ?_)
    refine z_callS_I0 (M2 := M_X0_holds) [.int x4, .int x6, .int x8] (fun l D _ _ => m_X0_holds l D x4 x6 x8 h2) u_X0_holds ql_X1_87 qi_X0_holds rfl rfl (Nat.le_of_ble_eq_true rfl) (by decide) rfl rfl (zat dd_X1_mayPut 17 rfl) (fun x9 h10 => ?_)
    refine z_iconst (x := 1) (zat dd_X1_mayPut 18 rfl) (by decide) ?_
    refine z_icmp_ge (tgt := 37) (zat dd_X1_mayPut 19 rfl) (by decide) ?_ ?_
    · refine z_iconst (x := 0) (zat dd_X1_mayPut 22 rfl) (by decide) ?_
      refine z_istore_n (lv' := [(3, .int 0), (0, .ref v0), (1, .ref v1), (2, .int v2)]) (zat dd_X1_mayPut 23 rfl) rfl (Nat.le_of_ble_eq_true rfl) rfl ?_
      refine z_sub [1, 2, 3, 0] rfl ?_
      exact zb_X1_mayPut_39 Y zF v0 v1 v2 0 h10
    · refine z_sub [] rfl ?_
      exact zb_X1_mayPut_35 Y h10
/-! PaperDolls$Doll.mayTake(LPaperDolls$Wear;I)Z -/
def L_X1_mayTake : List (Nat × Instr × Nat) := [(0, .aload_n 1, 1), (1, .iload_n 2, 1), (2, .invokevirtual 111, 3), (5, .istore_n 3, 1), (6, .iload_n 3, 1), (7, .bipush (-101), 2), (9, .if_icmp .ne 5, 3), (12, .iconst 0, 1), (13, .ireturn, 1), (14, .aload_n 0, 1), (15, .iload_n 2, 1), (16, .invokevirtual 120, 3), (19, .istore 4, 2), (21, .iload_n 3, 1), (22, .iconst 1, 1), (23, .iadd, 1), (24, .istore 5, 2), (26, .iload 5, 2), (28, .aload_n 1, 1), (29, .getfield 114, 3), (32, .if_icmp .ge 28, 3), (35, .aload_n 0, 1), (36, .aload_n 1, 1), (37, .getfield 117, 3), (40, .iload 5, 2), (42, .iaload, 1), (43, .invokevirtual 120, 3), (46, .iload 4, 2), (48, .iand, 1), (49, .ifCond .eq 5, 3), (52, .iconst 0, 1), (53, .ireturn, 1), (54, .iinc 5 1, 3), (57, .goto (-31), 3), (60, .iconst 1, 1), (61, .ireturn, 1)]
theorem dd_X1_mayTake : ∀ q ∈ L_X1_mayTake, decode cX1_mayTake q.1 = .ok q.2 := by decide +kernel
abbrev M_X1_mayTake : zM := (cX1_mayTake, RX1, "mayTake", 6, some .boolean, 2, 0, 0)
theorem u_X1_mayTake : zCal yX1_mayTake (M_X1_mayTake) 2 := ⟨(zmem 448 (by decide +kernel) rfl : Cond.code yX1_mayTake cX1_mayTake 6 (some .boolean) ∈ zTb), zmem 58 (by decide +kernel) rfl, by decide +kernel, Nat.le_of_ble_eq_true rfl⟩
theorem qi_X1_mayTake : Cond.instanceMethod yX1_mayTake ∈ zTb := zmem 447 (by decide +kernel) rfl
theorem qs_X1_mayTake : Cond.selects yX1_mayTake.cls yX1_mayTake yX1_mayTake ∈ zTb := zmem 11 (by decide +kernel) rfl
def f_X1_mayTake_26 : Nat → Nat → Nat → Int32 → Int32 → zH → zR
  | 0, _, _, _, _, _ => none
  | n + 1, v0, v1, v4, v5, h =>
  zgI h v1 4 2 fun x1 =>
  if x1 ≤ v5 then
  zrZ 1 h
  else
  zgR h v1 4 0 fun a2 =>
  zaI h a2 0 v5 fun x3 =>
  zoc h v0 0 <|
  zcI (f_X1_spotsOf v0 x3 h) fun x4 h5 =>
  if (x4 &&& v4) = 0 then
  f_X1_mayTake_26 n v0 v1 v4 (v5 + 1) h5
  else
  zrZ 0 h5
set_option maxRecDepth 100000 in
set_option maxHeartbeats 4000000 in
theorem zb_X1_mayTake_26 (Y : zY) : ∀ (n : Nat) (v0 : Nat) (v1 : Nat) (v4 : Int32) (v5 : Int32) (h : zH), Z Y M_X1_mayTake 0 0 26 [(0, .ref v0), (1, .ref v1), (4, .int v4), (5, .int v5)] [] h (f_X1_mayTake_26 n v0 v1 v4 v5 h) := by
  intro n
  induction n with
  | zero =>
    intro v0 v1 v4 v5 h
    rw [f_X1_mayTake_26]
    exact z_none
  | succ n ih =>
    intro v0 v1 v4 v5 h
    rw [f_X1_mayTake_26]
    refine z_iload 3 (zat dd_X1_mayTake 17 rfl) rfl ?_
    refine z_aload_n 1 (zat dd_X1_mayTake 18 rfl) rfl rfl ?_
    refine z_getI fl_X1_114 (zat dd_X1_mayTake 19 rfl) (fun x1 => ?_)
    refine z_icmp_ge (tgt := 60) (zat dd_X1_mayTake 20 rfl) (by decide) ?_ ?_
    · refine z_iconst (x := 1) (zat dd_X1_mayTake 34 rfl) (by decide) ?_
      exact z_zret rfl (zat dd_X1_mayTake 35 rfl)
    · refine z_aload_n 0 (zat dd_X1_mayTake 21 rfl) rfl rfl ?_
      refine z_aload_n 1 (zat dd_X1_mayTake 22 rfl) rfl rfl ?_
      refine z_getR fl_X1_117 (zat dd_X1_mayTake 23 rfl) (fun a2 => ?_)
      refine z_iload 3 (zat dd_X1_mayTake 24 rfl) rfl ?_
      refine z_iald (zat dd_X1_mayTake 25 rfl) (fun x3 => ?_)
      refine z_callV_I0 (M2 := M_X1_spotsOf) [.int x3] (fun l D _ _ => m_X1_spotsOf l D v0 x3 h) u_X1_spotsOf ql_X1_120 qi_X1_spotsOf qs_X1_spotsOf (ci := 0) rfl rfl rfl (Nat.le_of_ble_eq_true rfl) (by decide) rfl rfl (zat dd_X1_mayTake 26 rfl) (fun x4 h5 => ?_)
      refine z_iload 2 (zat dd_X1_mayTake 27 rfl) rfl ?_
      refine z_iand (zat dd_X1_mayTake 28 rfl) ?_
      refine z_if_eq (tgt := 54) (zat dd_X1_mayTake 29 rfl) (by decide) ?_ ?_
      · refine z_iinc (y := v5 + 1) (lv' := [(5, .int (v5 + 1)), (0, .ref v0), (1, .ref v1), (4, .int v4)]) 3 (zat dd_X1_mayTake 32 rfl) rfl rfl (Nat.le_of_ble_eq_true rfl) rfl ?_
        refine z_goto (tgt := 26) (zat dd_X1_mayTake 33 rfl) (by decide) ?_
        refine z_sub [1, 2, 3, 0] rfl ?_
        exact ih v0 v1 v4 (v5 + 1) h5
      · refine z_iconst (x := 0) (zat dd_X1_mayTake 30 rfl) (by decide) ?_
        exact z_zret rfl (zat dd_X1_mayTake 31 rfl)
def f_X1_mayTake (v0 : Nat) (v1 : Nat) (v2 : Int32) (h : zH) : zR :=
  zoc h v1 4 <|
  zcI (f_X8_placeOf v1 v2 h) fun x1 h2 =>
  if x1 = (-101) then
  zrZ 0 h2
  else
  zoc h2 v0 0 <|
  zcI (f_X1_spotsOf v0 v2 h2) fun x3 h4 =>
  zlt (x1 + 1) fun x5 =>
  f_X1_mayTake_26 zF v0 v1 x3 x5 h4
set_option maxRecDepth 100000 in
set_option maxHeartbeats 4000000 in
theorem m_X1_mayTake (l : Launch) (D : zD) (v0 : Nat) (v1 : Nat) (v2 : Int32) (h : zH) : zMet l D yX1_mayTake M_X1_mayTake [.ref v0, .ref v1, .int v2] h (f_X1_mayTake v0 v1 v2 h) := by
  refine zMet.of (by decide +kernel) ⟨rfl, rfl⟩ (Nat.le_of_ble_eq_true rfl) (fun Y hl hD => ?_)
  show Z Y M_X1_mayTake 0 0 0 [(0, .ref v0), (1, .ref v1), (2, .int v2)] [] h _
  rw [f_X1_mayTake]
  refine z_aload_n 1 (zat dd_X1_mayTake 0 rfl) rfl rfl ?_
  refine z_iload_n 2 (zat dd_X1_mayTake 1 rfl) rfl rfl ?_
  refine z_callV_I0 (M2 := M_X8_placeOf) [.int v2] (fun l D _ _ => m_X8_placeOf l D v1 v2 h) u_X8_placeOf ql_X1_111 qi_X8_placeOf qs_X8_placeOf (ci := 4) rfl rfl rfl (Nat.le_of_ble_eq_true rfl) (by decide) rfl rfl (zat dd_X1_mayTake 2 rfl) (fun x1 h2 => ?_)
  refine z_istore_n (lv' := [(3, .int x1), (0, .ref v0), (1, .ref v1), (2, .int v2)]) (zat dd_X1_mayTake 3 rfl) rfl (Nat.le_of_ble_eq_true rfl) rfl ?_
  refine z_iload_n 0 (zat dd_X1_mayTake 4 rfl) rfl rfl ?_
  refine z_bipush (x := (-101)) (zat dd_X1_mayTake 5 rfl) (by decide) ?_
  refine z_icmp_ne (tgt := 14) (zat dd_X1_mayTake 6 rfl) (by decide) ?_ ?_
  · refine z_aload_n 1 (zat dd_X1_mayTake 9 rfl) rfl rfl ?_
    refine z_iload_n 3 (zat dd_X1_mayTake 10 rfl) rfl rfl ?_
    refine z_callV_I0 (M2 := M_X1_spotsOf) [.int v2] (fun l D _ _ => m_X1_spotsOf l D v0 v2 h2) u_X1_spotsOf ql_X1_120 qi_X1_spotsOf qs_X1_spotsOf (ci := 0) rfl rfl rfl (Nat.le_of_ble_eq_true rfl) (by decide) rfl rfl (zat dd_X1_mayTake 11 rfl) (fun x3 h4 => ?_)
    refine z_istore (lv' := [(4, .int x3), (3, .int x1), (0, .ref v0), (1, .ref v1), (2, .int v2)]) (zat dd_X1_mayTake 12 rfl) (Nat.le_of_ble_eq_true rfl) rfl ?_
    refine z_iload_n 1 (zat dd_X1_mayTake 13 rfl) rfl rfl ?_
    refine z_iconst (x := 1) (zat dd_X1_mayTake 14 rfl) (by decide) ?_
    refine z_iadd (zat dd_X1_mayTake 15 rfl) ?_
    refine z_let (fun x5 => ?_)
    refine z_istore (lv' := [(5, .int x5), (4, .int x3), (3, .int x1), (0, .ref v0), (1, .ref v1), (2, .int v2)]) (zat dd_X1_mayTake 16 rfl) (Nat.le_of_ble_eq_true rfl) rfl ?_
    refine z_sub [3, 4, 1, 0] rfl ?_
    exact zb_X1_mayTake_26 Y zF v0 v1 x3 x5 h4
  · refine z_iconst (x := 0) (zat dd_X1_mayTake 7 rfl) (by decide) ?_
    exact z_zret rfl (zat dd_X1_mayTake 8 rfl)
/-! PaperDolls$Doll.mayMove(LPaperDolls$Wear;II)Z -/
def L_X1_mayMove : List (Nat × Instr × Nat) := [(0, .aload_n 0, 1), (1, .iload_n 3, 1), (2, .invokevirtual 67, 3), (5, .ifCond .ne 5, 3), (8, .iconst 0, 1), (9, .ireturn, 1), (10, .iload_n 2, 1), (11, .tableswitch 54 0 2 #[25, 32, 39], 25), (36, .aload_n 0, 1), (37, .aload_n 1, 1), (38, .iload_n 3, 1), (39, .invokevirtual 104, 3), (42, .ireturn, 1), (43, .aload_n 0, 1), (44, .aload_n 1, 1), (45, .iload_n 3, 1), (46, .invokevirtual 108, 3), (49, .ireturn, 1), (50, .aload_n 1, 1), (51, .getfield 84, 3), (54, .iload_n 3, 1), (55, .iaload, 1), (56, .ifCond .le 7, 3), (59, .iconst 1, 1), (60, .goto 4, 3), (63, .iconst 0, 1), (64, .ireturn, 1), (65, .iconst 0, 1), (66, .ireturn, 1)]
theorem dd_X1_mayMove : ∀ q ∈ L_X1_mayMove, decode cX1_mayMove q.1 = .ok q.2 := by decide +kernel
abbrev M_X1_mayMove : zM := (cX1_mayMove, RX1, "mayMove", 4, some .boolean, 3, 0, 0)
theorem u_X1_mayMove : zCal yX1_mayMove (M_X1_mayMove) 3 := ⟨(zmem 426 (by decide +kernel) rfl : Cond.code yX1_mayMove cX1_mayMove 4 (some .boolean) ∈ zTb), zmem 58 (by decide +kernel) rfl, by decide +kernel, Nat.le_of_ble_eq_true rfl⟩
theorem qi_X1_mayMove : Cond.instanceMethod yX1_mayMove ∈ zTb := zmem 424 (by decide +kernel) rfl
theorem qs_X1_mayMove : Cond.selects yX1_mayMove.cls yX1_mayMove yX1_mayMove ∈ zTb := zmem 425 (by decide +kernel) rfl
def f_X1_mayMove_64 (t0 : Int32) (h : zH) : zR :=
  zrZ t0 h
set_option maxRecDepth 100000 in
set_option maxHeartbeats 4000000 in
theorem zb_X1_mayMove_64 (Y : zY) (t0 : Int32) (h : zH) : Z Y M_X1_mayMove 0 0 64 [] [.int t0] h (f_X1_mayMove_64 t0 h) := by
  rw [f_X1_mayMove_64]
  exact z_zret rfl (zat dd_X1_mayMove 26 rfl)
def f_X1_mayMove (v0 : Nat) (v1 : Nat) (v2 : Int32) (v3 : Int32) (h : zH) : zR :=
  zoc h v0 0 <|
  zcI (f_X1_has v0 v3 h) fun x1 h2 =>
  if x1 = 0 then
  zrZ 0 h2
  else
  if v2 = 0 then
  zoc h2 v0 0 <|
  zcI (f_X1_mayPut v0 v1 v3 h2) fun x3 h4 =>
  zrZ x3 h4
  else
  if v2 = 1 then
  zoc h2 v0 0 <|
  zcI (f_X1_mayTake v0 v1 v3 h2) fun x5 h6 =>
  zrZ x5 h6
  else
  if v2 = 2 then
  zgR h2 v1 4 1 fun a7 =>
  zaI h2 a7 0 v3 fun x8 =>
  if x8 ≤ 0 then
  f_X1_mayMove_64 0 h2
  else
  f_X1_mayMove_64 1 h2
  else
  zrZ 0 h2
set_option maxRecDepth 100000 in
set_option maxHeartbeats 4000000 in
theorem m_X1_mayMove (l : Launch) (D : zD) (v0 : Nat) (v1 : Nat) (v2 : Int32) (v3 : Int32) (h : zH) : zMet l D yX1_mayMove M_X1_mayMove [.ref v0, .ref v1, .int v2, .int v3] h (f_X1_mayMove v0 v1 v2 v3 h) := by
  refine zMet.of (by decide +kernel) ⟨rfl, rfl⟩ (Nat.le_of_ble_eq_true rfl) (fun Y hl hD => ?_)
  show Z Y M_X1_mayMove 0 0 0 [(0, .ref v0), (1, .ref v1), (2, .int v2), (3, .int v3)] [] h _
  rw [f_X1_mayMove]
  refine z_aload_n 0 (zat dd_X1_mayMove 0 rfl) rfl rfl ?_
  refine z_iload_n 3 (zat dd_X1_mayMove 1 rfl) rfl rfl ?_
  refine z_callV_I0 (M2 := M_X1_has) [.int v3] (fun l D _ _ => m_X1_has l D v0 v3 h) u_X1_has ql_X1_67 qi_X1_has qs_X1_has (ci := 0) rfl rfl rfl (Nat.le_of_ble_eq_true rfl) (by decide) rfl rfl (zat dd_X1_mayMove 2 rfl) (fun x1 h2 => ?_)
  refine z_if_ne (tgt := 10) (zat dd_X1_mayMove 3 rfl) (by decide) ?_ ?_
  · refine z_iload_n 2 (zat dd_X1_mayMove 6 rfl) rfl rfl ?_
    refine z_ite (fun c0 => ?_) (fun c0 => ?_)
    · refine z_tabIn (tgt := 36) 0 c0 (zat dd_X1_mayMove 7 rfl) (by decide) (by decide) rfl (by decide) ?_
      refine z_aload_n 0 (zat dd_X1_mayMove 8 rfl) rfl rfl ?_
      refine z_aload_n 1 (zat dd_X1_mayMove 9 rfl) rfl rfl ?_
      refine z_iload_n 3 (zat dd_X1_mayMove 10 rfl) rfl rfl ?_
      refine z_callV_I0 (M2 := M_X1_mayPut) [.ref v1, .int v3] (fun l D _ _ => m_X1_mayPut l D v0 v1 v3 h2) u_X1_mayPut ql_X1_104 qi_X1_mayPut qs_X1_mayPut (ci := 0) rfl rfl rfl (Nat.le_of_ble_eq_true rfl) (by decide) rfl rfl (zat dd_X1_mayMove 11 rfl) (fun x3 h4 => ?_)
      exact z_zret rfl (zat dd_X1_mayMove 12 rfl)
    refine z_ite (fun c1 => ?_) (fun c1 => ?_)
    · refine z_tabIn (tgt := 43) 1 c1 (zat dd_X1_mayMove 7 rfl) (by decide) (by decide) rfl (by decide) ?_
      refine z_aload_n 0 (zat dd_X1_mayMove 13 rfl) rfl rfl ?_
      refine z_aload_n 1 (zat dd_X1_mayMove 14 rfl) rfl rfl ?_
      refine z_iload_n 3 (zat dd_X1_mayMove 15 rfl) rfl rfl ?_
      refine z_callV_I0 (M2 := M_X1_mayTake) [.ref v1, .int v3] (fun l D _ _ => m_X1_mayTake l D v0 v1 v3 h2) u_X1_mayTake ql_X1_108 qi_X1_mayTake qs_X1_mayTake (ci := 0) rfl rfl rfl (Nat.le_of_ble_eq_true rfl) (by decide) rfl rfl (zat dd_X1_mayMove 16 rfl) (fun x5 h6 => ?_)
      exact z_zret rfl (zat dd_X1_mayMove 17 rfl)
    refine z_ite (fun c2 => ?_) (fun c2 => ?_)
    · refine z_tabIn (tgt := 50) 2 c2 (zat dd_X1_mayMove 7 rfl) (by decide) (by decide) rfl (by decide) ?_
      refine z_aload_n 1 (zat dd_X1_mayMove 18 rfl) rfl rfl ?_
      refine z_getR fl_X1_84 (zat dd_X1_mayMove 19 rfl) (fun a7 => ?_)
      refine z_iload_n 3 (zat dd_X1_mayMove 20 rfl) rfl rfl ?_
      refine z_iald (zat dd_X1_mayMove 21 rfl) (fun x8 => ?_)
      refine z_if_le (tgt := 63) (zat dd_X1_mayMove 22 rfl) (by decide) ?_ ?_
      · refine z_iconst (x := 0) (zat dd_X1_mayMove 25 rfl) (by decide) ?_
        refine z_sub [] rfl ?_
        exact zb_X1_mayMove_64 Y 0 h2
      · refine z_iconst (x := 1) (zat dd_X1_mayMove 23 rfl) (by decide) ?_
        refine z_goto (tgt := 64) (zat dd_X1_mayMove 24 rfl) (by decide) ?_
        refine z_sub [] rfl ?_
        exact zb_X1_mayMove_64 Y 1 h2
    refine z_tabOut (tgt := 65) (zat dd_X1_mayMove 7 rfl) (by have g0 := lv_neT (a := 0) c0 rfl; have g1 := lv_neT (a := 1) c1 rfl; have g2 := lv_neT (a := 2) c2 rfl; omega) (by decide) ?_
    refine z_iconst (x := 0) (zat dd_X1_mayMove 27 rfl) (by decide) ?_
    exact z_zret rfl (zat dd_X1_mayMove 28 rfl)
  · refine z_iconst (x := 0) (zat dd_X1_mayMove 4 rfl) (by decide) ?_
    exact z_zret rfl (zat dd_X1_mayMove 5 rfl)
/-! PaperDolls$Doll.setThatMay(LPaperDolls$Wear;I)I -/
def L_X1_setThatMay : List (Nat × Instr × Nat) := [(0, .iconst 0, 1), (1, .istore_n 3, 1), (2, .iconst 0, 1), (3, .istore 4, 2), (5, .iload 4, 2), (7, .aload_n 0, 1), (8, .getfield 42, 3), (11, .if_icmp .ge 27, 3), (14, .aload_n 0, 1), (15, .aload_n 1, 1), (16, .iload_n 2, 1), (17, .iload 4, 2), (19, .invokevirtual 123, 3), (22, .ifCond .eq 10, 3), (25, .iload_n 3, 1), (26, .iconst 1, 1), (27, .iload 4, 2), (29, .ishl, 1), (30, .ior, 1), (31, .istore_n 3, 1), (32, .iinc 4 1, 3), (35, .goto (-30), 3), (38, .iload_n 3, 1), (39, .ireturn, 1)]
theorem dd_X1_setThatMay : ∀ q ∈ L_X1_setThatMay, decode cX1_setThatMay q.1 = .ok q.2 := by decide +kernel
abbrev M_X1_setThatMay : zM := (cX1_setThatMay, RX1, "setThatMay", 5, some .int, 4, 0, 0)
theorem u_X1_setThatMay : zCal yX1_setThatMay (M_X1_setThatMay) 2 := ⟨(zmem 539 (by decide +kernel) rfl : Cond.code yX1_setThatMay cX1_setThatMay 5 (some .int) ∈ zTb), zmem 58 (by decide +kernel) rfl, by decide +kernel, Nat.le_of_ble_eq_true rfl⟩
theorem qi_X1_setThatMay : Cond.instanceMethod yX1_setThatMay ∈ zTb := zmem 537 (by decide +kernel) rfl
theorem qs_X1_setThatMay : Cond.selects yX1_setThatMay.cls yX1_setThatMay yX1_setThatMay ∈ zTb := zmem 538 (by decide +kernel) rfl
def f_X1_setThatMay_32 (k5 : Nat → Nat → Int32 → Int32 → Int32 → zH → zR) (v0 : Nat) (v1 : Nat) (v2 : Int32) (v3 : Int32) (v4 : Int32) (h : zH) : zR :=
  k5 v0 v1 v2 v3 (v4 + 1) h
set_option maxRecDepth 100000 in
set_option maxHeartbeats 4000000 in
theorem zb_X1_setThatMay_32 (Y : zY) (k5 : Nat → Nat → Int32 → Int32 → Int32 → zH → zR) (hk5 : ∀ (v0 : Nat) (v1 : Nat) (v2 : Int32) (v3 : Int32) (v4 : Int32) (h : zH), Z Y M_X1_setThatMay 0 0 5 [(0, .ref v0), (1, .ref v1), (2, .int v2), (3, .int v3), (4, .int v4)] [] h (k5 v0 v1 v2 v3 v4 h)) (v0 : Nat) (v1 : Nat) (v2 : Int32) (v3 : Int32) (v4 : Int32) (h : zH) : Z Y M_X1_setThatMay 0 0 32 [(0, .ref v0), (1, .ref v1), (2, .int v2), (3, .int v3), (4, .int v4)] [] h (f_X1_setThatMay_32 k5 v0 v1 v2 v3 v4 h) := by
  rw [f_X1_setThatMay_32]
  refine z_iinc (y := v4 + 1) (lv' := [(4, .int (v4 + 1)), (0, .ref v0), (1, .ref v1), (2, .int v2), (3, .int v3)]) 4 (zat dd_X1_setThatMay 20 rfl) rfl rfl (Nat.le_of_ble_eq_true rfl) rfl ?_
  refine z_goto (tgt := 5) (zat dd_X1_setThatMay 21 rfl) (by decide) ?_
  refine z_sub [1, 2, 3, 4, 0] rfl ?_
  exact hk5 v0 v1 v2 v3 (v4 + 1) h
def f_X1_setThatMay_5 : Nat → Nat → Nat → Int32 → Int32 → Int32 → zH → zR
  | 0, _, _, _, _, _, _ => none
  | n + 1, v0, v1, v2, v3, v4, h =>
  zgI h v0 0 1 fun x1 =>
  if x1 ≤ v4 then
  zrI v3 h
  else
  zoc h v0 0 <|
  zcI (f_X1_mayMove v0 v1 v2 v4 h) fun x2 h3 =>
  if x2 = 0 then
  f_X1_setThatMay_32 (f_X1_setThatMay_5 n) v0 v1 v2 v3 v4 h3
  else
  zlt (v3 ||| (1 <<< (v4 &&& 31))) fun x4 =>
  f_X1_setThatMay_32 (f_X1_setThatMay_5 n) v0 v1 v2 x4 v4 h3
set_option maxRecDepth 100000 in
set_option maxHeartbeats 4000000 in
theorem zb_X1_setThatMay_5 (Y : zY) : ∀ (n : Nat) (v0 : Nat) (v1 : Nat) (v2 : Int32) (v3 : Int32) (v4 : Int32) (h : zH), Z Y M_X1_setThatMay 0 0 5 [(0, .ref v0), (1, .ref v1), (2, .int v2), (3, .int v3), (4, .int v4)] [] h (f_X1_setThatMay_5 n v0 v1 v2 v3 v4 h) := by
  intro n
  induction n with
  | zero =>
    intro v0 v1 v2 v3 v4 h
    rw [f_X1_setThatMay_5]
    exact z_none
  | succ n ih =>
    intro v0 v1 v2 v3 v4 h
    rw [f_X1_setThatMay_5]
    refine z_iload 4 (zat dd_X1_setThatMay 4 rfl) rfl ?_
    refine z_aload_n 0 (zat dd_X1_setThatMay 5 rfl) rfl rfl ?_
    refine z_getI fl_X1_42 (zat dd_X1_setThatMay 6 rfl) (fun x1 => ?_)
    refine z_icmp_ge (tgt := 38) (zat dd_X1_setThatMay 7 rfl) (by decide) ?_ ?_
    · refine z_iload_n 3 (zat dd_X1_setThatMay 22 rfl) rfl rfl ?_
      exact z_iret rfl (zat dd_X1_setThatMay 23 rfl)
    · refine z_aload_n 0 (zat dd_X1_setThatMay 8 rfl) rfl rfl ?_
      refine z_aload_n 1 (zat dd_X1_setThatMay 9 rfl) rfl rfl ?_
      refine z_iload_n 2 (zat dd_X1_setThatMay 10 rfl) rfl rfl ?_
      refine z_iload 4 (zat dd_X1_setThatMay 11 rfl) rfl ?_
      refine z_callV_I0 (M2 := M_X1_mayMove) [.ref v1, .int v2, .int v4] (fun l D _ _ => m_X1_mayMove l D v0 v1 v2 v4 h) u_X1_mayMove ql_X1_123 qi_X1_mayMove qs_X1_mayMove (ci := 0) rfl rfl rfl (Nat.le_of_ble_eq_true rfl) (by decide) rfl rfl (zat dd_X1_setThatMay 12 rfl) (fun x2 h3 => ?_)
      refine z_if_eq (tgt := 32) (zat dd_X1_setThatMay 13 rfl) (by decide) ?_ ?_
      · exact zb_X1_setThatMay_32 Y (f_X1_setThatMay_5 n) ih v0 v1 v2 v3 v4 h3
      · refine z_iload_n 3 (zat dd_X1_setThatMay 14 rfl) rfl rfl ?_
        refine z_iconst (x := 1) (zat dd_X1_setThatMay 15 rfl) (by decide) ?_
        refine z_iload 4 (zat dd_X1_setThatMay 16 rfl) rfl ?_
        refine z_ishl (zat dd_X1_setThatMay 17 rfl) ?_
        refine z_ior (zat dd_X1_setThatMay 18 rfl) ?_
        refine z_let (fun x4 => ?_)
        refine z_istore_n (lv' := [(3, .int x4), (0, .ref v0), (1, .ref v1), (2, .int v2), (4, .int v4)]) (zat dd_X1_setThatMay 19 rfl) rfl (Nat.le_of_ble_eq_true rfl) rfl ?_
        refine z_sub [1, 2, 3, 0, 4] rfl ?_
        exact zb_X1_setThatMay_32 Y (f_X1_setThatMay_5 n) ih v0 v1 v2 x4 v4 h3
def f_X1_setThatMay (v0 : Nat) (v1 : Nat) (v2 : Int32) (h : zH) : zR :=
  f_X1_setThatMay_5 zF v0 v1 v2 0 0 h
set_option maxRecDepth 100000 in
set_option maxHeartbeats 4000000 in
theorem m_X1_setThatMay (l : Launch) (D : zD) (v0 : Nat) (v1 : Nat) (v2 : Int32) (h : zH) : zMet l D yX1_setThatMay M_X1_setThatMay [.ref v0, .ref v1, .int v2] h (f_X1_setThatMay v0 v1 v2 h) := by
  refine zMet.of (by decide +kernel) ⟨rfl, rfl⟩ (Nat.le_of_ble_eq_true rfl) (fun Y hl hD => ?_)
  show Z Y M_X1_setThatMay 0 0 0 [(0, .ref v0), (1, .ref v1), (2, .int v2)] [] h _
  rw [f_X1_setThatMay]
  refine z_iconst (x := 0) (zat dd_X1_setThatMay 0 rfl) (by decide) ?_
  refine z_istore_n (lv' := [(3, .int 0), (0, .ref v0), (1, .ref v1), (2, .int v2)]) (zat dd_X1_setThatMay 1 rfl) rfl (Nat.le_of_ble_eq_true rfl) rfl ?_
  refine z_iconst (x := 0) (zat dd_X1_setThatMay 2 rfl) (by decide) ?_
  refine z_istore (lv' := [(4, .int 0), (3, .int 0), (0, .ref v0), (1, .ref v1), (2, .int v2)]) (zat dd_X1_setThatMay 3 rfl) (Nat.le_of_ble_eq_true rfl) rfl ?_
  refine z_sub [2, 3, 4, 1, 0] rfl ?_
  exact zb_X1_setThatMay_5 Y zF v0 v1 v2 0 0 h
/-! PaperDolls$Doll.move(LPaperDolls$Wear;II)V -/
def L_X1_move : List (Nat × Instr × Nat) := [(0, .aload_n 0, 1), (1, .iload_n 3, 1), (2, .invokevirtual 67, 3), (5, .ifCond .ne 4, 3), (8, .return_, 1), (9, .iload_n 2, 1), (10, .ifCond .ne 11, 3), (13, .aload_n 1, 1), (14, .iload_n 3, 1), (15, .invokevirtual 127, 3), (18, .goto 23, 3), (21, .iload_n 2, 1), (22, .iconst 1, 1), (23, .if_icmp .ne 11, 3), (26, .aload_n 1, 1), (27, .iload_n 3, 1), (28, .invokevirtual 131, 3), (31, .goto 10, 3), (34, .aload_n 1, 1), (35, .getfield 84, 3), (38, .iload_n 3, 1), (39, .iconst 0, 1), (40, .iastore, 1), (41, .aload_n 1, 1), (42, .dup, 1), (43, .getfield 134, 3), (46, .iconst 1, 1), (47, .iadd, 1), (48, .putfield 134, 3), (51, .return_, 1)]
theorem dd_X1_move : ∀ q ∈ L_X1_move, decode cX1_move q.1 = .ok q.2 := by decide +kernel
abbrev M_X1_move : zM := (cX1_move, RX1, "move", 4, none, 2, 0, 0)
theorem u_X1_move : zCal yX1_move (M_X1_move) 3 := ⟨(zmem 459 (by decide +kernel) rfl : Cond.code yX1_move cX1_move 4 (none) ∈ zTb), zmem 58 (by decide +kernel) rfl, by decide +kernel, Nat.le_of_ble_eq_true rfl⟩
theorem qi_X1_move : Cond.instanceMethod yX1_move ∈ zTb := zmem 457 (by decide +kernel) rfl
theorem qs_X1_move : Cond.selects yX1_move.cls yX1_move yX1_move ∈ zTb := zmem 458 (by decide +kernel) rfl
def f_X1_move_41 (v1 : Nat) (h : zH) : zR :=
  zgI h v1 4 3 fun x1 =>
  zpV h v1 4 3 (.int (x1 + 1)) fun h2 =>
  zrV h2
set_option maxRecDepth 100000 in
set_option maxHeartbeats 4000000 in
theorem zb_X1_move_41 (Y : zY) (v1 : Nat) (h : zH) : Z Y M_X1_move 0 0 41 [(1, .ref v1)] [] h (f_X1_move_41 v1 h) := by
  rw [f_X1_move_41]
  refine z_aload_n 0 (zat dd_X1_move 23 rfl) rfl rfl ?_
  refine z_dup (zat dd_X1_move 24 rfl) rfl ?_
  refine z_getI fl_X1_134 (zat dd_X1_move 25 rfl) (fun x1 => ?_)
  refine z_iconst (x := 1) (zat dd_X1_move 26 rfl) (by decide) ?_
  refine z_iadd (zat dd_X1_move 27 rfl) ?_
  refine z_put fl_X1_134 rfl rfl (zat dd_X1_move 28 rfl) (fun h2 => ?_)
  exact z_vret rfl (zat dd_X1_move 29 rfl)
def f_X1_move (v0 : Nat) (v1 : Nat) (v2 : Int32) (v3 : Int32) (h : zH) : zR :=
  zoc h v0 0 <|
  zcI (f_X1_has v0 v3 h) fun x1 h2 =>
  if x1 = 0 then
  zrV h2
  else
  if v2 = 0 then
  zoc h2 v1 4 <|
  zcV (f_X8_layOver v1 v3 h2) fun h6 =>
  f_X1_move_41 v1 h6
  else
  if v2 = 1 then
  zoc h2 v1 4 <|
  zcV (f_X8_pullOut v1 v3 h2) fun h5 =>
  f_X1_move_41 v1 h5
  else
  zgR h2 v1 4 1 fun a3 =>
  zsI h2 a3 0 v3 0 fun h4 =>
  f_X1_move_41 v1 h4
set_option maxRecDepth 100000 in
set_option maxHeartbeats 4000000 in
theorem m_X1_move (l : Launch) (D : zD) (v0 : Nat) (v1 : Nat) (v2 : Int32) (v3 : Int32) (h : zH) : zMet l D yX1_move M_X1_move [.ref v0, .ref v1, .int v2, .int v3] h (f_X1_move v0 v1 v2 v3 h) := by
  refine zMet.of (by decide +kernel) ⟨rfl, rfl⟩ (Nat.le_of_ble_eq_true rfl) (fun Y hl hD => ?_)
  show Z Y M_X1_move 0 0 0 [(0, .ref v0), (1, .ref v1), (2, .int v2), (3, .int v3)] [] h _
  rw [f_X1_move]
  refine z_aload_n 0 (zat dd_X1_move 0 rfl) rfl rfl ?_
  refine z_iload_n 3 (zat dd_X1_move 1 rfl) rfl rfl ?_
  refine z_callV_I0 (M2 := M_X1_has) [.int v3] (fun l D _ _ => m_X1_has l D v0 v3 h) u_X1_has ql_X1_67 qi_X1_has qs_X1_has (ci := 0) rfl rfl rfl (Nat.le_of_ble_eq_true rfl) (by decide) rfl rfl (zat dd_X1_move 2 rfl) (fun x1 h2 => ?_)
  refine z_if_ne (tgt := 9) (zat dd_X1_move 3 rfl) (by decide) ?_ ?_
  · refine z_iload_n 2 (zat dd_X1_move 5 rfl) rfl rfl ?_
    refine z_if_ne (tgt := 21) (zat dd_X1_move 6 rfl) (by decide) ?_ ?_
    · refine z_iload_n 2 (zat dd_X1_move 11 rfl) rfl rfl ?_
      refine z_iconst (x := 1) (zat dd_X1_move 12 rfl) (by decide) ?_
      refine z_icmp_ne (tgt := 34) (zat dd_X1_move 13 rfl) (by decide) ?_ ?_
      · refine z_aload_n 1 (zat dd_X1_move 18 rfl) rfl rfl ?_
        refine z_getR fl_X1_84 (zat dd_X1_move 19 rfl) (fun a3 => ?_)
        refine z_iload_n 3 (zat dd_X1_move 20 rfl) rfl rfl ?_
        refine z_iconst (x := 0) (zat dd_X1_move 21 rfl) (by decide) ?_
        refine z_iast (zat dd_X1_move 22 rfl) (fun h4 => ?_)
        refine z_sub [1] rfl ?_
        exact zb_X1_move_41 Y v1 h4
      · refine z_aload_n 1 (zat dd_X1_move 14 rfl) rfl rfl ?_
        refine z_iload_n 3 (zat dd_X1_move 15 rfl) rfl rfl ?_
        refine z_callV_V0 (M2 := M_X8_pullOut) [.int v3] (fun l D _ _ => m_X8_pullOut l D v1 v3 h2) u_X8_pullOut ql_X1_131 qi_X8_pullOut qs_X8_pullOut (ci := 4) rfl rfl rfl (Nat.le_of_ble_eq_true rfl) (by decide) rfl rfl (zat dd_X1_move 16 rfl) (fun h5 => ?_)
        refine z_goto (tgt := 41) (zat dd_X1_move 17 rfl) (by decide) ?_
        refine z_sub [1] rfl ?_
        exact zb_X1_move_41 Y v1 h5
    · refine z_aload_n 1 (zat dd_X1_move 7 rfl) rfl rfl ?_
      refine z_iload_n 3 (zat dd_X1_move 8 rfl) rfl rfl ?_
      refine z_callV_V0 (M2 := M_X8_layOver) [.int v3] (fun l D _ _ => m_X8_layOver l D v1 v3 h2) u_X8_layOver ql_X1_127 qi_X8_layOver qs_X8_layOver (ci := 4) rfl rfl rfl (Nat.le_of_ble_eq_true rfl) (by decide) rfl rfl (zat dd_X1_move 9 rfl) (fun h6 => ?_)
      refine z_goto (tgt := 41) (zat dd_X1_move 10 rfl) (by decide) ?_
      refine z_sub [1] rfl ?_
      exact zb_X1_move_41 Y v1 h6
  · exact z_vret rfl (zat dd_X1_move 4 rfl)
/-! PaperDolls$Doll.keepPast()V -/
def L_X1_keepPast : List (Nat × Instr × Nat) := [(0, .aload_n 0, 1), (1, .getfield 48, 3), (4, .bipush 8, 2), (6, .if_icmp .lt 52, 3), (9, .aload_n 0, 1), (10, .getfield 28, 3), (13, .iconst 0, 1), (14, .aaload, 1), (15, .astore_n 1, 1), (16, .iconst 1, 1), (17, .istore_n 2, 1), (18, .iload_n 2, 1), (19, .bipush 8, 2), (21, .if_icmp .ge 23, 3), (24, .aload_n 0, 1), (25, .getfield 28, 3), (28, .iload_n 2, 1), (29, .iconst 1, 1), (30, .isub, 1), (31, .aload_n 0, 1), (32, .getfield 28, 3), (35, .iload_n 2, 1), (36, .aaload, 1), (37, .aastore, 1), (38, .iinc 2 1, 3), (41, .goto (-23), 3), (44, .aload_n 0, 1), (45, .getfield 28, 3), (48, .bipush 7, 2), (50, .aload_n 1, 1), (51, .aastore, 1), (52, .aload_n 0, 1), (53, .bipush 7, 2), (55, .putfield 48, 3), (58, .aload_n 0, 1), (59, .getfield 28, 3), (62, .aload_n 0, 1), (63, .getfield 48, 3), (66, .aaload, 1), (67, .aload_n 0, 1), (68, .getfield 24, 3), (71, .invokevirtual 63, 3), (74, .aload_n 0, 1), (75, .dup, 1), (76, .getfield 48, 3), (79, .iconst 1, 1), (80, .iadd, 1), (81, .putfield 48, 3), (84, .return_, 1)]
theorem dd_X1_keepPast : ∀ q ∈ L_X1_keepPast, decode cX1_keepPast q.1 = .ok q.2 := by decide +kernel
abbrev M_X1_keepPast : zM := (cX1_keepPast, RX1, "keepPast", 3, none, 1, 0, 0)
theorem u_X1_keepPast : zCal yX1_keepPast (M_X1_keepPast) 0 := ⟨(zmem 500 (by decide +kernel) rfl : Cond.code yX1_keepPast cX1_keepPast 3 (none) ∈ zTb), zmem 58 (by decide +kernel) rfl, by decide +kernel, Nat.le_of_ble_eq_true rfl⟩
theorem qi_X1_keepPast : Cond.instanceMethod yX1_keepPast ∈ zTb := zmem 499 (by decide +kernel) rfl
theorem qs_X1_keepPast : Cond.selects yX1_keepPast.cls yX1_keepPast yX1_keepPast ∈ zTb := zmem 13 (by decide +kernel) rfl
def f_X1_keepPast_58 (v0 : Nat) (h : zH) : zR :=
  zgR h v0 0 6 fun a1 =>
  zgI h v0 0 7 fun x2 =>
  zaR h a1 3 x2 fun a3 =>
  zgR h v0 0 5 fun a4 =>
  zoc h a3 4 <|
  zcV (f_X8_copyFrom a3 a4 h) fun h5 =>
  zgI h5 v0 0 7 fun x6 =>
  zpV h5 v0 0 7 (.int (x6 + 1)) fun h7 =>
  zrV h7
set_option maxRecDepth 100000 in
set_option maxHeartbeats 4000000 in
theorem zb_X1_keepPast_58 (Y : zY) (v0 : Nat) (h : zH) : Z Y M_X1_keepPast 0 0 58 [(0, .ref v0)] [] h (f_X1_keepPast_58 v0 h) := by
  rw [f_X1_keepPast_58]
  refine z_aload_n 0 (zat dd_X1_keepPast 34 rfl) rfl rfl ?_
  refine z_getR fl_X1_28 (zat dd_X1_keepPast 35 rfl) (fun a1 => ?_)
  refine z_aload_n 0 (zat dd_X1_keepPast 36 rfl) rfl rfl ?_
  refine z_getI fl_X1_48 (zat dd_X1_keepPast 37 rfl) (fun x2 => ?_)
  refine z_aald (fun _ => rfl) (zat dd_X1_keepPast 38 rfl) (fun a3 => ?_)
  refine z_aload_n 0 (zat dd_X1_keepPast 39 rfl) rfl rfl ?_
  refine z_getR fl_X1_24 (zat dd_X1_keepPast 40 rfl) (fun a4 => ?_)
  refine z_callV_V0 (M2 := M_X8_copyFrom) [.ref a4] (fun l D _ _ => m_X8_copyFrom l D a3 a4 h) u_X8_copyFrom ql_X1_63 qi_X8_copyFrom qs_X8_copyFrom (ci := 4) rfl rfl rfl (Nat.le_of_ble_eq_true rfl) (by decide) rfl rfl (zat dd_X1_keepPast 41 rfl) (fun h5 => ?_)
  refine z_aload_n 0 (zat dd_X1_keepPast 42 rfl) rfl rfl ?_
  refine z_dup (zat dd_X1_keepPast 43 rfl) rfl ?_
  refine z_getI fl_X1_48 (zat dd_X1_keepPast 44 rfl) (fun x6 => ?_)
  refine z_iconst (x := 1) (zat dd_X1_keepPast 45 rfl) (by decide) ?_
  refine z_iadd (zat dd_X1_keepPast 46 rfl) ?_
  refine z_put fl_X1_48 rfl rfl (zat dd_X1_keepPast 47 rfl) (fun h7 => ?_)
  exact z_vret rfl (zat dd_X1_keepPast 48 rfl)
def f_X1_keepPast_18 : Nat → Nat → Nat → Int32 → zH → zR
  | 0, _, _, _, _ => none
  | n + 1, v0, v1, v2, h =>
  if 8 ≤ v2 then
  zgR h v0 0 6 fun a1 =>
  zsR h a1 3 7 v1 4 fun h2 =>
  zpV h2 v0 0 7 (.int 7) fun h3 =>
  f_X1_keepPast_58 v0 h3
  else
  zgR h v0 0 6 fun a4 =>
  zgR h v0 0 6 fun a5 =>
  zaR h a5 3 v2 fun a6 =>
  zsR h a4 3 (v2 - 1) a6 4 fun h7 =>
  f_X1_keepPast_18 n v0 v1 (v2 + 1) h7
set_option maxRecDepth 100000 in
set_option maxHeartbeats 4000000 in
theorem zb_X1_keepPast_18 (Y : zY) : ∀ (n : Nat) (v0 : Nat) (v1 : Nat) (v2 : Int32) (h : zH), Z Y M_X1_keepPast 0 0 18 [(0, .ref v0), (1, .ref v1), (2, .int v2)] [] h (f_X1_keepPast_18 n v0 v1 v2 h) := by
  intro n
  induction n with
  | zero =>
    intro v0 v1 v2 h
    rw [f_X1_keepPast_18]
    exact z_none
  | succ n ih =>
    intro v0 v1 v2 h
    rw [f_X1_keepPast_18]
    refine z_iload_n 2 (zat dd_X1_keepPast 11 rfl) rfl rfl ?_
    refine z_bipush (x := 8) (zat dd_X1_keepPast 12 rfl) (by decide) ?_
    refine z_icmp_ge (tgt := 44) (zat dd_X1_keepPast 13 rfl) (by decide) ?_ ?_
    · refine z_aload_n 0 (zat dd_X1_keepPast 26 rfl) rfl rfl ?_
      refine z_getR fl_X1_28 (zat dd_X1_keepPast 27 rfl) (fun a1 => ?_)
      refine z_bipush (x := 7) (zat dd_X1_keepPast 28 rfl) (by decide) ?_
      refine z_aload_n 1 (zat dd_X1_keepPast 29 rfl) rfl rfl ?_
      refine z_aast (q := (RX8, TX8, 4)) (fun _ => rfl) rfl (zat dd_X1_keepPast 30 rfl) (fun h2 => ?_)
      refine z_aload_n 0 (zat dd_X1_keepPast 31 rfl) rfl rfl ?_
      refine z_bipush (x := 7) (zat dd_X1_keepPast 32 rfl) (by decide) ?_
      refine z_put fl_X1_48 rfl rfl (zat dd_X1_keepPast 33 rfl) (fun h3 => ?_)
      refine z_sub [0] rfl ?_
      exact zb_X1_keepPast_58 Y v0 h3
    · refine z_aload_n 0 (zat dd_X1_keepPast 14 rfl) rfl rfl ?_
      refine z_getR fl_X1_28 (zat dd_X1_keepPast 15 rfl) (fun a4 => ?_)
      refine z_iload_n 2 (zat dd_X1_keepPast 16 rfl) rfl rfl ?_
      refine z_iconst (x := 1) (zat dd_X1_keepPast 17 rfl) (by decide) ?_
      refine z_isub (zat dd_X1_keepPast 18 rfl) ?_
      refine z_aload_n 0 (zat dd_X1_keepPast 19 rfl) rfl rfl ?_
      refine z_getR fl_X1_28 (zat dd_X1_keepPast 20 rfl) (fun a5 => ?_)
      refine z_iload_n 2 (zat dd_X1_keepPast 21 rfl) rfl rfl ?_
      refine z_aald (fun _ => rfl) (zat dd_X1_keepPast 22 rfl) (fun a6 => ?_)
      refine z_aast (q := (RX8, TX8, 4)) (fun _ => rfl) rfl (zat dd_X1_keepPast 23 rfl) (fun h7 => ?_)
      refine z_iinc (y := v2 + 1) (lv' := [(2, .int (v2 + 1)), (0, .ref v0), (1, .ref v1)]) 2 (zat dd_X1_keepPast 24 rfl) rfl rfl (Nat.le_of_ble_eq_true rfl) rfl ?_
      refine z_goto (tgt := 18) (zat dd_X1_keepPast 25 rfl) (by decide) ?_
      refine z_sub [1, 2, 0] rfl ?_
      exact ih v0 v1 (v2 + 1) h7
def f_X1_keepPast (v0 : Nat) (h : zH) : zR :=
  zgI h v0 0 7 fun x1 =>
  if x1 < 8 then
  f_X1_keepPast_58 v0 h
  else
  zgR h v0 0 6 fun a2 =>
  zaR h a2 3 0 fun a3 =>
  f_X1_keepPast_18 zF v0 a3 1 h
set_option maxRecDepth 100000 in
set_option maxHeartbeats 4000000 in
theorem m_X1_keepPast (l : Launch) (D : zD) (v0 : Nat) (h : zH) : zMet l D yX1_keepPast M_X1_keepPast [.ref v0] h (f_X1_keepPast v0 h) := by
  refine zMet.of (by decide +kernel) ⟨rfl, rfl⟩ (Nat.le_of_ble_eq_true rfl) (fun Y hl hD => ?_)
  show Z Y M_X1_keepPast 0 0 0 [(0, .ref v0)] [] h _
  rw [f_X1_keepPast]
  refine z_aload_n 0 (zat dd_X1_keepPast 0 rfl) rfl rfl ?_
  refine z_getI fl_X1_48 (zat dd_X1_keepPast 1 rfl) (fun x1 => ?_)
  refine z_bipush (x := 8) (zat dd_X1_keepPast 2 rfl) (by decide) ?_
  refine z_icmp_lt (tgt := 58) (zat dd_X1_keepPast 3 rfl) (by decide) ?_ ?_
  · exact zb_X1_keepPast_58 Y v0 h
  · refine z_aload_n 0 (zat dd_X1_keepPast 4 rfl) rfl rfl ?_
    refine z_getR fl_X1_28 (zat dd_X1_keepPast 5 rfl) (fun a2 => ?_)
    refine z_iconst (x := 0) (zat dd_X1_keepPast 6 rfl) (by decide) ?_
    refine z_aald (fun _ => rfl) (zat dd_X1_keepPast 7 rfl) (fun a3 => ?_)
    refine z_astore_n (lv' := [(1, .ref a3), (0, .ref v0)]) (zat dd_X1_keepPast 8 rfl) rfl (Nat.le_of_ble_eq_true rfl) rfl ?_
    refine z_iconst (x := 1) (zat dd_X1_keepPast 9 rfl) (by decide) ?_
    refine z_istore_n (lv' := [(2, .int 1), (1, .ref a3), (0, .ref v0)]) (zat dd_X1_keepPast 10 rfl) rfl (Nat.le_of_ble_eq_true rfl) rfl ?_
    refine z_sub [2, 1, 0] rfl ?_
    exact zb_X1_keepPast_18 Y zF v0 a3 1 h
/-! PaperDolls$Doll.moveForGood(II)V -/
def L_X1_moveForGood : List (Nat × Instr × Nat) := [(0, .aload_n 0, 1), (1, .invokevirtual 137, 3), (4, .aload_n 0, 1), (5, .aload_n 0, 1), (6, .getfield 24, 3), (9, .iload_n 1, 1), (10, .iload_n 2, 1), (11, .invokevirtual 140, 3), (14, .return_, 1)]
theorem dd_X1_moveForGood : ∀ q ∈ L_X1_moveForGood, decode cX1_moveForGood q.1 = .ok q.2 := by decide +kernel
abbrev M_X1_moveForGood : zM := (cX1_moveForGood, RX1, "moveForGood", 3, none, 3, 0, 0)
theorem u_X1_moveForGood : zCal yX1_moveForGood (M_X1_moveForGood) 2 := ⟨(zmem 496 (by decide +kernel) rfl : Cond.code yX1_moveForGood cX1_moveForGood 3 (none) ∈ zTb), zmem 58 (by decide +kernel) rfl, by decide +kernel, Nat.le_of_ble_eq_true rfl⟩
theorem qi_X1_moveForGood : Cond.instanceMethod yX1_moveForGood ∈ zTb := zmem 494 (by decide +kernel) rfl
theorem qs_X1_moveForGood : Cond.selects yX1_moveForGood.cls yX1_moveForGood yX1_moveForGood ∈ zTb := zmem 495 (by decide +kernel) rfl
def f_X1_moveForGood (v0 : Nat) (v1 : Int32) (v2 : Int32) (h : zH) : zR :=
  zoc h v0 0 <|
  zcV (f_X1_keepPast v0 h) fun h1 =>
  zgR h1 v0 0 5 fun a2 =>
  zoc h1 v0 0 <|
  zcV (f_X1_move v0 a2 v1 v2 h1) fun h3 =>
  zrV h3
set_option maxRecDepth 100000 in
set_option maxHeartbeats 4000000 in
theorem m_X1_moveForGood (l : Launch) (D : zD) (v0 : Nat) (v1 : Int32) (v2 : Int32) (h : zH) : zMet l D yX1_moveForGood M_X1_moveForGood [.ref v0, .int v1, .int v2] h (f_X1_moveForGood v0 v1 v2 h) := by
  refine zMet.of (by decide +kernel) ⟨rfl, rfl⟩ (Nat.le_of_ble_eq_true rfl) (fun Y hl hD => ?_)
  show Z Y M_X1_moveForGood 0 0 0 [(0, .ref v0), (1, .int v1), (2, .int v2)] [] h _
  rw [f_X1_moveForGood]
  refine z_aload_n 0 (zat dd_X1_moveForGood 0 rfl) rfl rfl ?_
  refine z_callV_V0 (M2 := M_X1_keepPast) [] (fun l D _ _ => m_X1_keepPast l D v0 h) u_X1_keepPast ql_X1_137 qi_X1_keepPast qs_X1_keepPast (ci := 0) rfl rfl rfl (Nat.le_of_ble_eq_true rfl) (by decide) rfl rfl (zat dd_X1_moveForGood 1 rfl) (fun h1 => ?_)
  refine z_aload_n 0 (zat dd_X1_moveForGood 2 rfl) rfl rfl ?_
  refine z_aload_n 0 (zat dd_X1_moveForGood 3 rfl) rfl rfl ?_
  refine z_getR fl_X1_24 (zat dd_X1_moveForGood 4 rfl) (fun a2 => ?_)
  refine z_iload_n 1 (zat dd_X1_moveForGood 5 rfl) rfl rfl ?_
  refine z_iload_n 2 (zat dd_X1_moveForGood 6 rfl) rfl rfl ?_
  refine z_callV_V0 (M2 := M_X1_move) [.ref a2, .int v1, .int v2] (fun l D _ _ => m_X1_move l D v0 a2 v1 v2 h1) u_X1_move ql_X1_140 qi_X1_move qs_X1_move (ci := 0) rfl rfl rfl (Nat.le_of_ble_eq_true rfl) (by decide) rfl rfl (zat dd_X1_moveForGood 7 rfl) (fun h3 => ?_)
  exact z_vret rfl (zat dd_X1_moveForGood 8 rfl)
/-! PaperDolls$Doll.bringBack()V -/
def L_X1_bringBack : List (Nat × Instr × Nat) := [(0, .aload_n 0, 1), (1, .getfield 48, 3), (4, .ifCond .le 29, 3), (7, .aload_n 0, 1), (8, .dup, 1), (9, .getfield 48, 3), (12, .iconst 1, 1), (13, .isub, 1), (14, .putfield 48, 3), (17, .aload_n 0, 1), (18, .getfield 24, 3), (21, .aload_n 0, 1), (22, .getfield 28, 3), (25, .aload_n 0, 1), (26, .getfield 48, 3), (29, .aaload, 1), (30, .invokevirtual 63, 3), (33, .return_, 1)]
theorem dd_X1_bringBack : ∀ q ∈ L_X1_bringBack, decode cX1_bringBack q.1 = .ok q.2 := by decide +kernel
abbrev M_X1_bringBack : zM := (cX1_bringBack, RX1, "bringBack", 1, none, 1, 0, 0)
theorem u_X1_bringBack : zCal yX1_bringBack (M_X1_bringBack) 0 := ⟨(zmem 517 (by decide +kernel) rfl : Cond.code yX1_bringBack cX1_bringBack 1 (none) ∈ zTb), zmem 58 (by decide +kernel) rfl, by decide +kernel, Nat.le_of_ble_eq_true rfl⟩
theorem qi_X1_bringBack : Cond.instanceMethod yX1_bringBack ∈ zTb := zmem 515 (by decide +kernel) rfl
theorem qs_X1_bringBack : Cond.selects yX1_bringBack.cls yX1_bringBack yX1_bringBack ∈ zTb := zmem 516 (by decide +kernel) rfl
def f_X1_bringBack_33 (h : zH) : zR :=
  zrV h
set_option maxRecDepth 100000 in
set_option maxHeartbeats 4000000 in
theorem zb_X1_bringBack_33 (Y : zY) (h : zH) : Z Y M_X1_bringBack 0 0 33 [] [] h (f_X1_bringBack_33  h) := by
  rw [f_X1_bringBack_33]
  exact z_vret rfl (zat dd_X1_bringBack 17 rfl)
def f_X1_bringBack (v0 : Nat) (h : zH) : zR :=
  zgI h v0 0 7 fun x1 =>
  if x1 ≤ 0 then
  f_X1_bringBack_33 h
  else
  zgI h v0 0 7 fun x2 =>
  zpV h v0 0 7 (.int (x2 - 1)) fun h3 =>
  zgR h3 v0 0 5 fun a4 =>
  zgR h3 v0 0 6 fun a5 =>
  zgI h3 v0 0 7 fun x6 =>
  zaR h3 a5 3 x6 fun a7 =>
  zoc h3 a4 4 <|
  zcV (f_X8_copyFrom a4 a7 h3) fun h8 =>
  f_X1_bringBack_33 h8
set_option maxRecDepth 100000 in
set_option maxHeartbeats 4000000 in
theorem m_X1_bringBack (l : Launch) (D : zD) (v0 : Nat) (h : zH) : zMet l D yX1_bringBack M_X1_bringBack [.ref v0] h (f_X1_bringBack v0 h) := by
  refine zMet.of (by decide +kernel) ⟨rfl, rfl⟩ (Nat.le_of_ble_eq_true rfl) (fun Y hl hD => ?_)
  show Z Y M_X1_bringBack 0 0 0 [(0, .ref v0)] [] h _
  rw [f_X1_bringBack]
  refine z_aload_n 0 (zat dd_X1_bringBack 0 rfl) rfl rfl ?_
  refine z_getI fl_X1_48 (zat dd_X1_bringBack 1 rfl) (fun x1 => ?_)
  refine z_if_le (tgt := 33) (zat dd_X1_bringBack 2 rfl) (by decide) ?_ ?_
  · refine z_sub [] rfl ?_
    exact zb_X1_bringBack_33 Y h
  · refine z_aload_n 0 (zat dd_X1_bringBack 3 rfl) rfl rfl ?_
    refine z_dup (zat dd_X1_bringBack 4 rfl) rfl ?_
    refine z_getI fl_X1_48 (zat dd_X1_bringBack 5 rfl) (fun x2 => ?_)
    refine z_iconst (x := 1) (zat dd_X1_bringBack 6 rfl) (by decide) ?_
    refine z_isub (zat dd_X1_bringBack 7 rfl) ?_
    refine z_put fl_X1_48 rfl rfl (zat dd_X1_bringBack 8 rfl) (fun h3 => ?_)
    refine z_aload_n 0 (zat dd_X1_bringBack 9 rfl) rfl rfl ?_
    refine z_getR fl_X1_24 (zat dd_X1_bringBack 10 rfl) (fun a4 => ?_)
    refine z_aload_n 0 (zat dd_X1_bringBack 11 rfl) rfl rfl ?_
    refine z_getR fl_X1_28 (zat dd_X1_bringBack 12 rfl) (fun a5 => ?_)
    refine z_aload_n 0 (zat dd_X1_bringBack 13 rfl) rfl rfl ?_
    refine z_getI fl_X1_48 (zat dd_X1_bringBack 14 rfl) (fun x6 => ?_)
    refine z_aald (fun _ => rfl) (zat dd_X1_bringBack 15 rfl) (fun a7 => ?_)
    refine z_callV_V0 (M2 := M_X8_copyFrom) [.ref a7] (fun l D _ _ => m_X8_copyFrom l D a4 a7 h3) u_X8_copyFrom ql_X1_63 qi_X8_copyFrom qs_X8_copyFrom (ci := 4) rfl rfl rfl (Nat.le_of_ble_eq_true rfl) (by decide) rfl rfl (zat dd_X1_bringBack 16 rfl) (fun h8 => ?_)
    refine z_sub [] rfl ?_
    exact zb_X1_bringBack_33 Y h8
/-! PaperDolls$Doll.playWith(LPaperDolls$Wear;I)V -/
def L_X1_playWith : List (Nat × Instr × Nat) := [(0, .aload_n 0, 1), (1, .aload_n 1, 1), (2, .iconst 0, 1), (3, .iload_n 2, 1), (4, .invokevirtual 123, 3), (7, .ifCond .eq 13, 3), (10, .aload_n 0, 1), (11, .aload_n 1, 1), (12, .iconst 0, 1), (13, .iload_n 2, 1), (14, .invokevirtual 140, 3), (17, .goto 30, 3), (20, .aload_n 0, 1), (21, .aload_n 1, 1), (22, .iconst 1, 1), (23, .iload_n 2, 1), (24, .invokevirtual 123, 3), (27, .ifCond .eq 13, 3), (30, .aload_n 0, 1), (31, .aload_n 1, 1), (32, .iconst 1, 1), (33, .iload_n 2, 1), (34, .invokevirtual 140, 3), (37, .goto 10, 3), (40, .aload_n 0, 1), (41, .aload_n 1, 1), (42, .iconst 2, 1), (43, .iload_n 2, 1), (44, .invokevirtual 140, 3), (47, .return_, 1)]
theorem dd_X1_playWith : ∀ q ∈ L_X1_playWith, decode cX1_playWith q.1 = .ok q.2 := by decide +kernel
abbrev M_X1_playWith : zM := (cX1_playWith, RX1, "playWith", 3, none, 4, 0, 0)
theorem u_X1_playWith : zCal yX1_playWith (M_X1_playWith) 2 := ⟨(zmem 759 (by decide +kernel) rfl : Cond.code yX1_playWith cX1_playWith 3 (none) ∈ zTb), zmem 58 (by decide +kernel) rfl, by decide +kernel, Nat.le_of_ble_eq_true rfl⟩
theorem qi_X1_playWith : Cond.instanceMethod yX1_playWith ∈ zTb := zmem 757 (by decide +kernel) rfl
theorem qs_X1_playWith : Cond.selects yX1_playWith.cls yX1_playWith yX1_playWith ∈ zTb := zmem 758 (by decide +kernel) rfl
def f_X1_playWith_47 (h : zH) : zR :=
  zrV h
set_option maxRecDepth 100000 in
set_option maxHeartbeats 4000000 in
theorem zb_X1_playWith_47 (Y : zY) (h : zH) : Z Y M_X1_playWith 0 0 47 [] [] h (f_X1_playWith_47  h) := by
  rw [f_X1_playWith_47]
  exact z_vret rfl (zat dd_X1_playWith 29 rfl)
def f_X1_playWith (v0 : Nat) (v1 : Nat) (v2 : Int32) (h : zH) : zR :=
  zoc h v0 0 <|
  zcI (f_X1_mayMove v0 v1 0 v2 h) fun x1 h2 =>
  if x1 = 0 then
  zoc h2 v0 0 <|
  zcI (f_X1_mayMove v0 v1 1 v2 h2) fun x3 h4 =>
  if x3 = 0 then
  zoc h4 v0 0 <|
  zcV (f_X1_move v0 v1 2 v2 h4) fun h5 =>
  f_X1_playWith_47 h5
  else
  zoc h4 v0 0 <|
  zcV (f_X1_move v0 v1 1 v2 h4) fun h6 =>
  f_X1_playWith_47 h6
  else
  zoc h2 v0 0 <|
  zcV (f_X1_move v0 v1 0 v2 h2) fun h7 =>
  f_X1_playWith_47 h7
set_option maxRecDepth 100000 in
set_option maxHeartbeats 4000000 in
theorem m_X1_playWith (l : Launch) (D : zD) (v0 : Nat) (v1 : Nat) (v2 : Int32) (h : zH) : zMet l D yX1_playWith M_X1_playWith [.ref v0, .ref v1, .int v2] h (f_X1_playWith v0 v1 v2 h) := by
  refine zMet.of (by decide +kernel) ⟨rfl, rfl⟩ (Nat.le_of_ble_eq_true rfl) (fun Y hl hD => ?_)
  show Z Y M_X1_playWith 0 0 0 [(0, .ref v0), (1, .ref v1), (2, .int v2)] [] h _
  rw [f_X1_playWith]
  refine z_aload_n 0 (zat dd_X1_playWith 0 rfl) rfl rfl ?_
  refine z_aload_n 1 (zat dd_X1_playWith 1 rfl) rfl rfl ?_
  refine z_iconst (x := 0) (zat dd_X1_playWith 2 rfl) (by decide) ?_
  refine z_iload_n 2 (zat dd_X1_playWith 3 rfl) rfl rfl ?_
  refine z_callV_I0 (M2 := M_X1_mayMove) [.ref v1, .int 0, .int v2] (fun l D _ _ => m_X1_mayMove l D v0 v1 0 v2 h) u_X1_mayMove ql_X1_123 qi_X1_mayMove qs_X1_mayMove (ci := 0) rfl rfl rfl (Nat.le_of_ble_eq_true rfl) (by decide) rfl rfl (zat dd_X1_playWith 4 rfl) (fun x1 h2 => ?_)
  refine z_if_eq (tgt := 20) (zat dd_X1_playWith 5 rfl) (by decide) ?_ ?_
  · refine z_aload_n 0 (zat dd_X1_playWith 12 rfl) rfl rfl ?_
    refine z_aload_n 1 (zat dd_X1_playWith 13 rfl) rfl rfl ?_
    refine z_iconst (x := 1) (zat dd_X1_playWith 14 rfl) (by decide) ?_
    refine z_iload_n 2 (zat dd_X1_playWith 15 rfl) rfl rfl ?_
    refine z_callV_I0 (M2 := M_X1_mayMove) [.ref v1, .int 1, .int v2] (fun l D _ _ => m_X1_mayMove l D v0 v1 1 v2 h2) u_X1_mayMove ql_X1_123 qi_X1_mayMove qs_X1_mayMove (ci := 0) rfl rfl rfl (Nat.le_of_ble_eq_true rfl) (by decide) rfl rfl (zat dd_X1_playWith 16 rfl) (fun x3 h4 => ?_)
    refine z_if_eq (tgt := 40) (zat dd_X1_playWith 17 rfl) (by decide) ?_ ?_
    · refine z_aload_n 0 (zat dd_X1_playWith 24 rfl) rfl rfl ?_
      refine z_aload_n 1 (zat dd_X1_playWith 25 rfl) rfl rfl ?_
      refine z_iconst (x := 2) (zat dd_X1_playWith 26 rfl) (by decide) ?_
      refine z_iload_n 2 (zat dd_X1_playWith 27 rfl) rfl rfl ?_
      refine z_callV_V0 (M2 := M_X1_move) [.ref v1, .int 2, .int v2] (fun l D _ _ => m_X1_move l D v0 v1 2 v2 h4) u_X1_move ql_X1_140 qi_X1_move qs_X1_move (ci := 0) rfl rfl rfl (Nat.le_of_ble_eq_true rfl) (by decide) rfl rfl (zat dd_X1_playWith 28 rfl) (fun h5 => ?_)
      refine z_sub [] rfl ?_
      exact zb_X1_playWith_47 Y h5
    · refine z_aload_n 0 (zat dd_X1_playWith 18 rfl) rfl rfl ?_
      refine z_aload_n 1 (zat dd_X1_playWith 19 rfl) rfl rfl ?_
      refine z_iconst (x := 1) (zat dd_X1_playWith 20 rfl) (by decide) ?_
      refine z_iload_n 2 (zat dd_X1_playWith 21 rfl) rfl rfl ?_
      refine z_callV_V0 (M2 := M_X1_move) [.ref v1, .int 1, .int v2] (fun l D _ _ => m_X1_move l D v0 v1 1 v2 h4) u_X1_move ql_X1_140 qi_X1_move qs_X1_move (ci := 0) rfl rfl rfl (Nat.le_of_ble_eq_true rfl) (by decide) rfl rfl (zat dd_X1_playWith 22 rfl) (fun h6 => ?_)
      refine z_goto (tgt := 47) (zat dd_X1_playWith 23 rfl) (by decide) ?_
      refine z_sub [] rfl ?_
      exact zb_X1_playWith_47 Y h6
  · refine z_aload_n 0 (zat dd_X1_playWith 6 rfl) rfl rfl ?_
    refine z_aload_n 1 (zat dd_X1_playWith 7 rfl) rfl rfl ?_
    refine z_iconst (x := 0) (zat dd_X1_playWith 8 rfl) (by decide) ?_
    refine z_iload_n 2 (zat dd_X1_playWith 9 rfl) rfl rfl ?_
    refine z_callV_V0 (M2 := M_X1_move) [.ref v1, .int 0, .int v2] (fun l D _ _ => m_X1_move l D v0 v1 0 v2 h2) u_X1_move ql_X1_140 qi_X1_move qs_X1_move (ci := 0) rfl rfl rfl (Nat.le_of_ble_eq_true rfl) (by decide) rfl rfl (zat dd_X1_playWith 10 rfl) (fun h7 => ?_)
    refine z_goto (tgt := 47) (zat dd_X1_playWith 11 rfl) (by decide) ?_
    refine z_sub [] rfl ?_
    exact zb_X1_playWith_47 Y h7
/-! PaperDolls$Doll.digestOn(J)J -/
def L_X1_digestOn : List (Nat × Instr × Nat) := [(0, .lload_n 1, 1), (1, .lstore_n 3, 1), (2, .iconst 0, 1), (3, .istore 5, 2), (5, .iload 5, 2), (7, .aload_n 0, 1), (8, .getfield 42, 3), (11, .if_icmp .ge 72, 3), (14, .ldc2_w 144, 3), (17, .lload_n 3, 1), (18, .lmul, 1), (19, .aload_n 0, 1), (20, .getfield 9, 3), (23, .iload 5, 2), (25, .iaload, 1), (26, .i2l, 1), (27, .ladd, 1), (28, .lstore_n 3, 1), (29, .ldc2_w 144, 3), (32, .lload_n 3, 1), (33, .lmul, 1), (34, .aload_n 0, 1), (35, .getfield 15, 3), (38, .iload 5, 2), (40, .iaload, 1), (41, .i2l, 1), (42, .ladd, 1), (43, .lstore_n 3, 1), (44, .ldc2_w 144, 3), (47, .lload_n 3, 1), (48, .lmul, 1), (49, .aload_n 0, 1), (50, .getfield 18, 3), (53, .iload 5, 2), (55, .iaload, 1), (56, .i2l, 1), (57, .ladd, 1), (58, .lstore_n 3, 1), (59, .ldc2_w 144, 3), (62, .lload_n 3, 1), (63, .lmul, 1), (64, .aload_n 0, 1), (65, .getfield 24, 3), (68, .getfield 84, 3), (71, .iload 5, 2), (73, .iaload, 1), (74, .i2l, 1), (75, .ladd, 1), (76, .lstore_n 3, 1), (77, .iinc 5 1, 3), (80, .goto (-75), 3), (83, .iconst 0, 1), (84, .istore 5, 2), (86, .iload 5, 2), (88, .aload_n 0, 1), (89, .getfield 24, 3), (92, .getfield 114, 3), (95, .if_icmp .ge 27, 3), (98, .ldc2_w 144, 3), (101, .lload_n 3, 1), (102, .lmul, 1), (103, .aload_n 0, 1), (104, .getfield 24, 3), (107, .getfield 117, 3), (110, .iload 5, 2), (112, .iaload, 1), (113, .i2l, 1), (114, .ladd, 1), (115, .lstore_n 3, 1), (116, .iinc 5 1, 3), (119, .goto (-33), 3), (122, .iconst 0, 1), (123, .istore 5, 2), (125, .iload 5, 2), (127, .aload_n 0, 1), (128, .getfield 51, 3), (131, .iconst 3, 1), (132, .imul, 1), (133, .if_icmp .ge 24, 3), (136, .ldc2_w 144, 3), (139, .lload_n 3, 1), (140, .lmul, 1), (141, .aload_n 0, 1), (142, .getfield 32, 3), (145, .iload 5, 2), (147, .iaload, 1), (148, .i2l, 1), (149, .ladd, 1), (150, .lstore_n 3, 1), (151, .iinc 5 1, 3), (154, .goto (-29), 3), (157, .iconst 0, 1), (158, .istore 5, 2), (160, .iload 5, 2), (162, .aload_n 0, 1), (163, .getfield 54, 3), (166, .iconst 4, 1), (167, .imul, 1), (168, .if_icmp .ge 24, 3), (171, .ldc2_w 144, 3), (174, .lload_n 3, 1), (175, .lmul, 1), (176, .aload_n 0, 1), (177, .getfield 35, 3), (180, .iload 5, 2), (182, .iaload, 1), (183, .i2l, 1), (184, .ladd, 1), (185, .lstore_n 3, 1), (186, .iinc 5 1, 3), (189, .goto (-29), 3), (192, .lload_n 3, 1), (193, .lreturn, 1)]
theorem dd_X1_digestOn : ∀ q ∈ L_X1_digestOn, decode cX1_digestOn q.1 = .ok q.2 := by decide +kernel
abbrev M_X1_digestOn : zM := (cX1_digestOn, RX1, "digestOn", 6, some .long, 0, 0, 0)
theorem u_X1_digestOn : zCal yX1_digestOn (M_X1_digestOn) 1 := ⟨(zmem 798 (by decide +kernel) rfl : Cond.code yX1_digestOn cX1_digestOn 6 (some .long) ∈ zTb), zmem 58 (by decide +kernel) rfl, by decide +kernel, Nat.le_of_ble_eq_true rfl⟩
theorem qi_X1_digestOn : Cond.instanceMethod yX1_digestOn ∈ zTb := zmem 796 (by decide +kernel) rfl
theorem qs_X1_digestOn : Cond.selects yX1_digestOn.cls yX1_digestOn yX1_digestOn ∈ zTb := zmem 797 (by decide +kernel) rfl
def f_X1_digestOn_160 : Nat → Nat → Int64 → Int32 → zH → zR
  | 0, _, _, _, _ => none
  | n + 1, v0, v3, v5, h =>
  zgI h v0 0 11 fun x1 =>
  if (x1 * 4) ≤ v5 then
  zrJ v3 h
  else
  zgR h v0 0 10 fun a2 =>
  zaI h a2 0 v5 fun x3 =>
  zlt ((31 * v3) + ((x3 : Int32).toInt64)) fun x4 =>
  f_X1_digestOn_160 n v0 x4 (v5 + 1) h
set_option maxRecDepth 100000 in
set_option maxHeartbeats 4000000 in
theorem zb_X1_digestOn_160 (Y : zY) : ∀ (n : Nat) (v0 : Nat) (v3 : Int64) (v5 : Int32) (h : zH), Z Y M_X1_digestOn 0 0 160 [(0, .ref v0), (3, .long v3), (5, .int v5)] [] h (f_X1_digestOn_160 n v0 v3 v5 h) := by
  intro n
  induction n with
  | zero =>
    intro v0 v3 v5 h
    rw [f_X1_digestOn_160]
    exact z_none
  | succ n ih =>
    intro v0 v3 v5 h
    rw [f_X1_digestOn_160]
    refine z_iload 2 (zat dd_X1_digestOn 93 rfl) rfl ?_
    refine z_aload_n 0 (zat dd_X1_digestOn 94 rfl) rfl rfl ?_
    refine z_getI fl_X1_54 (zat dd_X1_digestOn 95 rfl) (fun x1 => ?_)
    refine z_iconst (x := 4) (zat dd_X1_digestOn 96 rfl) (by decide) ?_
    refine z_imul (zat dd_X1_digestOn 97 rfl) ?_
    refine z_icmp_ge (tgt := 192) (zat dd_X1_digestOn 98 rfl) (by decide) ?_ ?_
    · refine z_lload_n 1 (zat dd_X1_digestOn 111 rfl) rfl rfl ?_
      exact z_lret rfl (zat dd_X1_digestOn 112 rfl)
    · refine z_ldc2 (x := 31) qk_X1_144 (zat dd_X1_digestOn 99 rfl) ?_
      refine z_lload_n 1 (zat dd_X1_digestOn 100 rfl) rfl rfl ?_
      refine z_lmul (zat dd_X1_digestOn 101 rfl) ?_
      refine z_aload_n 0 (zat dd_X1_digestOn 102 rfl) rfl rfl ?_
      refine z_getR fl_X1_35 (zat dd_X1_digestOn 103 rfl) (fun a2 => ?_)
      refine z_iload 2 (zat dd_X1_digestOn 104 rfl) rfl ?_
      refine z_iald (zat dd_X1_digestOn 105 rfl) (fun x3 => ?_)
      refine z_i2l (zat dd_X1_digestOn 106 rfl) ?_
      refine z_ladd (zat dd_X1_digestOn 107 rfl) ?_
      refine z_letJ (fun x4 => ?_)
      refine z_lstore_n (lv' := [(3, .long x4), (0, .ref v0), (5, .int v5)]) (zat dd_X1_digestOn 108 rfl) rfl (Nat.le_of_ble_eq_true rfl) rfl ?_
      refine z_iinc (y := v5 + 1) (lv' := [(5, .int (v5 + 1)), (3, .long x4), (0, .ref v0)]) 2 (zat dd_X1_digestOn 109 rfl) rfl rfl (Nat.le_of_ble_eq_true rfl) rfl ?_
      refine z_goto (tgt := 160) (zat dd_X1_digestOn 110 rfl) (by decide) ?_
      refine z_sub [2, 1, 0] rfl ?_
      exact ih v0 x4 (v5 + 1) h
def f_X1_digestOn_125 : Nat → Nat → Int64 → Int32 → zH → zR
  | 0, _, _, _, _ => none
  | n + 1, v0, v3, v5, h =>
  zgI h v0 0 9 fun x1 =>
  if (x1 * 3) ≤ v5 then
  f_X1_digestOn_160 zF v0 v3 0 h
  else
  zgR h v0 0 8 fun a2 =>
  zaI h a2 0 v5 fun x3 =>
  zlt ((31 * v3) + ((x3 : Int32).toInt64)) fun x4 =>
  f_X1_digestOn_125 n v0 x4 (v5 + 1) h
set_option maxRecDepth 100000 in
set_option maxHeartbeats 4000000 in
theorem zb_X1_digestOn_125 (Y : zY) : ∀ (n : Nat) (v0 : Nat) (v3 : Int64) (v5 : Int32) (h : zH), Z Y M_X1_digestOn 0 0 125 [(0, .ref v0), (3, .long v3), (5, .int v5)] [] h (f_X1_digestOn_125 n v0 v3 v5 h) := by
  intro n
  induction n with
  | zero =>
    intro v0 v3 v5 h
    rw [f_X1_digestOn_125]
    exact z_none
  | succ n ih =>
    intro v0 v3 v5 h
    rw [f_X1_digestOn_125]
    refine z_iload 2 (zat dd_X1_digestOn 73 rfl) rfl ?_
    refine z_aload_n 0 (zat dd_X1_digestOn 74 rfl) rfl rfl ?_
    refine z_getI fl_X1_51 (zat dd_X1_digestOn 75 rfl) (fun x1 => ?_)
    refine z_iconst (x := 3) (zat dd_X1_digestOn 76 rfl) (by decide) ?_
    refine z_imul (zat dd_X1_digestOn 77 rfl) ?_
    refine z_icmp_ge (tgt := 157) (zat dd_X1_digestOn 78 rfl) (by decide) ?_ ?_
    · refine z_iconst (x := 0) (zat dd_X1_digestOn 91 rfl) (by decide) ?_
      refine z_istore (lv' := [(5, .int 0), (0, .ref v0), (3, .long v3)]) (zat dd_X1_digestOn 92 rfl) (Nat.le_of_ble_eq_true rfl) rfl ?_
      refine z_sub [1, 2, 0] rfl ?_
      exact zb_X1_digestOn_160 Y zF v0 v3 0 h
    · refine z_ldc2 (x := 31) qk_X1_144 (zat dd_X1_digestOn 79 rfl) ?_
      refine z_lload_n 1 (zat dd_X1_digestOn 80 rfl) rfl rfl ?_
      refine z_lmul (zat dd_X1_digestOn 81 rfl) ?_
      refine z_aload_n 0 (zat dd_X1_digestOn 82 rfl) rfl rfl ?_
      refine z_getR fl_X1_32 (zat dd_X1_digestOn 83 rfl) (fun a2 => ?_)
      refine z_iload 2 (zat dd_X1_digestOn 84 rfl) rfl ?_
      refine z_iald (zat dd_X1_digestOn 85 rfl) (fun x3 => ?_)
      refine z_i2l (zat dd_X1_digestOn 86 rfl) ?_
      refine z_ladd (zat dd_X1_digestOn 87 rfl) ?_
      refine z_letJ (fun x4 => ?_)
      refine z_lstore_n (lv' := [(3, .long x4), (0, .ref v0), (5, .int v5)]) (zat dd_X1_digestOn 88 rfl) rfl (Nat.le_of_ble_eq_true rfl) rfl ?_
      refine z_iinc (y := v5 + 1) (lv' := [(5, .int (v5 + 1)), (3, .long x4), (0, .ref v0)]) 2 (zat dd_X1_digestOn 89 rfl) rfl rfl (Nat.le_of_ble_eq_true rfl) rfl ?_
      refine z_goto (tgt := 125) (zat dd_X1_digestOn 90 rfl) (by decide) ?_
      refine z_sub [2, 1, 0] rfl ?_
      exact ih v0 x4 (v5 + 1) h
def f_X1_digestOn_86 : Nat → Nat → Int64 → Int32 → zH → zR
  | 0, _, _, _, _ => none
  | n + 1, v0, v3, v5, h =>
  zgR h v0 0 5 fun a1 =>
  zgI h a1 4 2 fun x2 =>
  if x2 ≤ v5 then
  f_X1_digestOn_125 zF v0 v3 0 h
  else
  zgR h v0 0 5 fun a3 =>
  zgR h a3 4 0 fun a4 =>
  zaI h a4 0 v5 fun x5 =>
  zlt ((31 * v3) + ((x5 : Int32).toInt64)) fun x6 =>
  f_X1_digestOn_86 n v0 x6 (v5 + 1) h
set_option maxRecDepth 100000 in
set_option maxHeartbeats 4000000 in
theorem zb_X1_digestOn_86 (Y : zY) : ∀ (n : Nat) (v0 : Nat) (v3 : Int64) (v5 : Int32) (h : zH), Z Y M_X1_digestOn 0 0 86 [(0, .ref v0), (3, .long v3), (5, .int v5)] [] h (f_X1_digestOn_86 n v0 v3 v5 h) := by
  intro n
  induction n with
  | zero =>
    intro v0 v3 v5 h
    rw [f_X1_digestOn_86]
    exact z_none
  | succ n ih =>
    intro v0 v3 v5 h
    rw [f_X1_digestOn_86]
    refine z_iload 2 (zat dd_X1_digestOn 53 rfl) rfl ?_
    refine z_aload_n 0 (zat dd_X1_digestOn 54 rfl) rfl rfl ?_
    refine z_getR fl_X1_24 (zat dd_X1_digestOn 55 rfl) (fun a1 => ?_)
    refine z_getI fl_X1_114 (zat dd_X1_digestOn 56 rfl) (fun x2 => ?_)
    refine z_icmp_ge (tgt := 122) (zat dd_X1_digestOn 57 rfl) (by decide) ?_ ?_
    · refine z_iconst (x := 0) (zat dd_X1_digestOn 71 rfl) (by decide) ?_
      refine z_istore (lv' := [(5, .int 0), (0, .ref v0), (3, .long v3)]) (zat dd_X1_digestOn 72 rfl) (Nat.le_of_ble_eq_true rfl) rfl ?_
      refine z_sub [1, 2, 0] rfl ?_
      exact zb_X1_digestOn_125 Y zF v0 v3 0 h
    · refine z_ldc2 (x := 31) qk_X1_144 (zat dd_X1_digestOn 58 rfl) ?_
      refine z_lload_n 1 (zat dd_X1_digestOn 59 rfl) rfl rfl ?_
      refine z_lmul (zat dd_X1_digestOn 60 rfl) ?_
      refine z_aload_n 0 (zat dd_X1_digestOn 61 rfl) rfl rfl ?_
      refine z_getR fl_X1_24 (zat dd_X1_digestOn 62 rfl) (fun a3 => ?_)
      refine z_getR fl_X1_117 (zat dd_X1_digestOn 63 rfl) (fun a4 => ?_)
      refine z_iload 2 (zat dd_X1_digestOn 64 rfl) rfl ?_
      refine z_iald (zat dd_X1_digestOn 65 rfl) (fun x5 => ?_)
      refine z_i2l (zat dd_X1_digestOn 66 rfl) ?_
      refine z_ladd (zat dd_X1_digestOn 67 rfl) ?_
      refine z_letJ (fun x6 => ?_)
      refine z_lstore_n (lv' := [(3, .long x6), (0, .ref v0), (5, .int v5)]) (zat dd_X1_digestOn 68 rfl) rfl (Nat.le_of_ble_eq_true rfl) rfl ?_
      refine z_iinc (y := v5 + 1) (lv' := [(5, .int (v5 + 1)), (3, .long x6), (0, .ref v0)]) 2 (zat dd_X1_digestOn 69 rfl) rfl rfl (Nat.le_of_ble_eq_true rfl) rfl ?_
      refine z_goto (tgt := 86) (zat dd_X1_digestOn 70 rfl) (by decide) ?_
      refine z_sub [2, 1, 0] rfl ?_
      exact ih v0 x6 (v5 + 1) h
def f_X1_digestOn_5 : Nat → Nat → Int64 → Int32 → zH → zR
  | 0, _, _, _, _ => none
  | n + 1, v0, v3, v5, h =>
  zgI h v0 0 1 fun x1 =>
  if x1 ≤ v5 then
  f_X1_digestOn_86 zF v0 v3 0 h
  else
  zgR h v0 0 2 fun a2 =>
  zaI h a2 0 v5 fun x3 =>
  zlt ((31 * v3) + ((x3 : Int32).toInt64)) fun x4 =>
  zgR h v0 0 3 fun a5 =>
  zaI h a5 0 v5 fun x6 =>
  zlt ((31 * x4) + ((x6 : Int32).toInt64)) fun x7 =>
  zgR h v0 0 4 fun a8 =>
  zaI h a8 0 v5 fun x9 =>
  zlt ((31 * x7) + ((x9 : Int32).toInt64)) fun x10 =>
  zgR h v0 0 5 fun a11 =>
  zgR h a11 4 1 fun a12 =>
  zaI h a12 0 v5 fun x13 =>
  zlt ((31 * x10) + ((x13 : Int32).toInt64)) fun x14 =>
  f_X1_digestOn_5 n v0 x14 (v5 + 1) h
set_option maxRecDepth 100000 in
set_option maxHeartbeats 4000000 in
theorem zb_X1_digestOn_5 (Y : zY) : ∀ (n : Nat) (v0 : Nat) (v3 : Int64) (v5 : Int32) (h : zH), Z Y M_X1_digestOn 0 0 5 [(0, .ref v0), (3, .long v3), (5, .int v5)] [] h (f_X1_digestOn_5 n v0 v3 v5 h) := by
  intro n
  induction n with
  | zero =>
    intro v0 v3 v5 h
    rw [f_X1_digestOn_5]
    exact z_none
  | succ n ih =>
    intro v0 v3 v5 h
    rw [f_X1_digestOn_5]
    refine z_iload 2 (zat dd_X1_digestOn 4 rfl) rfl ?_
    refine z_aload_n 0 (zat dd_X1_digestOn 5 rfl) rfl rfl ?_
    refine z_getI fl_X1_42 (zat dd_X1_digestOn 6 rfl) (fun x1 => ?_)
    refine z_icmp_ge (tgt := 83) (zat dd_X1_digestOn 7 rfl) (by decide) ?_ ?_
    · refine z_iconst (x := 0) (zat dd_X1_digestOn 51 rfl) (by decide) ?_
      refine z_istore (lv' := [(5, .int 0), (0, .ref v0), (3, .long v3)]) (zat dd_X1_digestOn 52 rfl) (Nat.le_of_ble_eq_true rfl) rfl ?_
      refine z_sub [1, 2, 0] rfl ?_
      exact zb_X1_digestOn_86 Y zF v0 v3 0 h
    · refine z_ldc2 (x := 31) qk_X1_144 (zat dd_X1_digestOn 8 rfl) ?_
      refine z_lload_n 1 (zat dd_X1_digestOn 9 rfl) rfl rfl ?_
      refine z_lmul (zat dd_X1_digestOn 10 rfl) ?_
      refine z_aload_n 0 (zat dd_X1_digestOn 11 rfl) rfl rfl ?_
      refine z_getR fl_X1_9 (zat dd_X1_digestOn 12 rfl) (fun a2 => ?_)
      refine z_iload 2 (zat dd_X1_digestOn 13 rfl) rfl ?_
      refine z_iald (zat dd_X1_digestOn 14 rfl) (fun x3 => ?_)
      refine z_i2l (zat dd_X1_digestOn 15 rfl) ?_
      refine z_ladd (zat dd_X1_digestOn 16 rfl) ?_
      refine z_letJ (fun x4 => ?_)
      refine z_lstore_n (lv' := [(3, .long x4), (0, .ref v0), (5, .int v5)]) (zat dd_X1_digestOn 17 rfl) rfl (Nat.le_of_ble_eq_true rfl) rfl ?_
      refine z_ldc2 (x := 31) qk_X1_144 (zat dd_X1_digestOn 18 rfl) ?_
      refine z_lload_n 0 (zat dd_X1_digestOn 19 rfl) rfl rfl ?_
      refine z_lmul (zat dd_X1_digestOn 20 rfl) ?_
      refine z_aload_n 1 (zat dd_X1_digestOn 21 rfl) rfl rfl ?_
      refine z_getR fl_X1_15 (zat dd_X1_digestOn 22 rfl) (fun a5 => ?_)
      refine z_iload 2 (zat dd_X1_digestOn 23 rfl) rfl ?_
      refine z_iald (zat dd_X1_digestOn 24 rfl) (fun x6 => ?_)
      refine z_i2l (zat dd_X1_digestOn 25 rfl) ?_
      refine z_ladd (zat dd_X1_digestOn 26 rfl) ?_
      refine z_letJ (fun x7 => ?_)
      refine z_lstore_n (lv' := [(3, .long x7), (0, .ref v0), (5, .int v5)]) (zat dd_X1_digestOn 27 rfl) rfl (Nat.le_of_ble_eq_true rfl) rfl ?_
      refine z_ldc2 (x := 31) qk_X1_144 (zat dd_X1_digestOn 28 rfl) ?_
      refine z_lload_n 0 (zat dd_X1_digestOn 29 rfl) rfl rfl ?_
      refine z_lmul (zat dd_X1_digestOn 30 rfl) ?_
      refine z_aload_n 1 (zat dd_X1_digestOn 31 rfl) rfl rfl ?_
      refine z_getR fl_X1_18 (zat dd_X1_digestOn 32 rfl) (fun a8 => ?_)
      refine z_iload 2 (zat dd_X1_digestOn 33 rfl) rfl ?_
      refine z_iald (zat dd_X1_digestOn 34 rfl) (fun x9 => ?_)
      refine z_i2l (zat dd_X1_digestOn 35 rfl) ?_
      refine z_ladd (zat dd_X1_digestOn 36 rfl) ?_
      refine z_letJ (fun x10 => ?_)
      refine z_lstore_n (lv' := [(3, .long x10), (0, .ref v0), (5, .int v5)]) (zat dd_X1_digestOn 37 rfl) rfl (Nat.le_of_ble_eq_true rfl) rfl ?_
      refine z_ldc2 (x := 31) qk_X1_144 (zat dd_X1_digestOn 38 rfl) ?_
      refine z_lload_n 0 (zat dd_X1_digestOn 39 rfl) rfl rfl ?_
      refine z_lmul (zat dd_X1_digestOn 40 rfl) ?_
      refine z_aload_n 1 (zat dd_X1_digestOn 41 rfl) rfl rfl ?_
      refine z_getR fl_X1_24 (zat dd_X1_digestOn 42 rfl) (fun a11 => ?_)
      refine z_getR fl_X1_84 (zat dd_X1_digestOn 43 rfl) (fun a12 => ?_)
      refine z_iload 2 (zat dd_X1_digestOn 44 rfl) rfl ?_
      refine z_iald (zat dd_X1_digestOn 45 rfl) (fun x13 => ?_)
      refine z_i2l (zat dd_X1_digestOn 46 rfl) ?_
      refine z_ladd (zat dd_X1_digestOn 47 rfl) ?_
      refine z_letJ (fun x14 => ?_)
      refine z_lstore_n (lv' := [(3, .long x14), (0, .ref v0), (5, .int v5)]) (zat dd_X1_digestOn 48 rfl) rfl (Nat.le_of_ble_eq_true rfl) rfl ?_
      refine z_iinc (y := v5 + 1) (lv' := [(5, .int (v5 + 1)), (3, .long x14), (0, .ref v0)]) 2 (zat dd_X1_digestOn 49 rfl) rfl rfl (Nat.le_of_ble_eq_true rfl) rfl ?_
      refine z_goto (tgt := 5) (zat dd_X1_digestOn 50 rfl) (by decide) ?_
      refine z_sub [2, 1, 0] rfl ?_
      exact ih v0 x14 (v5 + 1) h
def f_X1_digestOn (v0 : Nat) (v1 : Int64) (h : zH) : zR :=
  f_X1_digestOn_5 zF v0 v1 0 h
set_option maxRecDepth 100000 in
set_option maxHeartbeats 4000000 in
theorem m_X1_digestOn (l : Launch) (D : zD) (v0 : Nat) (v1 : Int64) (h : zH) : zMet l D yX1_digestOn M_X1_digestOn [.ref v0, .long v1] h (f_X1_digestOn v0 v1 h) := by
  refine zMet.of (by decide +kernel) ⟨rfl, rfl⟩ (Nat.le_of_ble_eq_true rfl) (fun Y hl hD => ?_)
  show Z Y M_X1_digestOn 0 0 0 [(0, .ref v0), (1, .long v1)] [] h _
  rw [f_X1_digestOn]
  refine z_lload_n 1 (zat dd_X1_digestOn 0 rfl) rfl rfl ?_
  refine z_lstore_n (lv' := [(3, .long v1), (0, .ref v0), (1, .long v1)]) (zat dd_X1_digestOn 1 rfl) rfl (Nat.le_of_ble_eq_true rfl) rfl ?_
  refine z_iconst (x := 0) (zat dd_X1_digestOn 2 rfl) (by decide) ?_
  refine z_istore (lv' := [(5, .int 0), (3, .long v1), (0, .ref v0), (1, .long v1)]) (zat dd_X1_digestOn 3 rfl) (Nat.le_of_ble_eq_true rfl) rfl ?_
  refine z_sub [2, 1, 0] rfl ?_
  exact zb_X1_digestOn_5 Y zF v0 v1 0 h
