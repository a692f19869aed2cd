/-! PaperDolls$Cloth.covers(I)I -/
def L_X0_covers : List (Nat × Instr × Nat) := [(0, .bipush 6, 2), (2, .istore_n 1, 1), (3, .iload_n 0, 1), (4, .tableswitch 58 0 5 #[40, 42, 44, 48, 50, 53], 40), (44, .iconst 2, 1), (45, .ireturn, 1), (46, .iload_n 1, 1), (47, .ireturn, 1), (48, .iload_n 1, 1), (49, .iconst 1, 1), (50, .ior, 1), (51, .ireturn, 1), (52, .iconst 1, 1), (53, .ireturn, 1), (54, .bipush 8, 2), (56, .ireturn, 1), (57, .iload_n 1, 1), (58, .bipush 8, 2), (60, .ior, 1), (61, .ireturn, 1), (62, .iconst 0, 1), (63, .ireturn, 1)]
theorem dd_X0_covers : ∀ q ∈ L_X0_covers, decode cX0_covers q.1 = .ok q.2 := by decide +kernel
abbrev M_X0_covers : zM := (cX0_covers, RX0, "covers", 2, some .int, 0, 0, 0)
theorem u_X0_covers : zCal yX0_covers (M_X0_covers) 1 := ⟨(zmem 455 (by decide +kernel) rfl : Cond.code yX0_covers cX0_covers 2 (some .int) ∈ zTb), zmem 69 (by decide +kernel) rfl, by decide +kernel, Nat.le_of_ble_eq_true rfl⟩
theorem qi_X0_covers : Cond.static yX0_covers ∈ zTb := zmem 454 (by decide +kernel) rfl
def f_X0_covers (v0 : Int32) (h : zH) : zR :=
  if v0 = 0 then
  zrI 2 h
  else
  if v0 = 1 then
  zrI 6 h
  else
  if v0 = 2 then
  zrI (6 ||| 1) h
  else
  if v0 = 3 then
  zrI 1 h
  else
  if v0 = 4 then
  zrI 8 h
  else
  if v0 = 5 then
  zrI (6 ||| 8) h
  else
  zrI 0 h
set_option maxRecDepth 100000 in
set_option maxHeartbeats 4000000 in
theorem m_X0_covers (l : Launch) (D : zD) (v0 : Int32) (h : zH) : zMet l D yX0_covers M_X0_covers [.int v0] h (f_X0_covers v0 h) := by
  refine zMet.of (by decide +kernel) ⟨rfl, rfl⟩ (Nat.le_of_ble_eq_true rfl) (fun Y hl hD => ?_)
  show Z Y M_X0_covers 0 0 0 [(0, .int v0)] [] h _
  rw [f_X0_covers]
  refine z_bipush (x := 6) (zat dd_X0_covers 0 rfl) (by decide) ?_
  refine z_istore_n (lv' := [(1, .int 6), (0, .int v0)]) (zat dd_X0_covers 1 rfl) rfl (Nat.le_of_ble_eq_true rfl) rfl ?_
  refine z_iload_n 1 (zat dd_X0_covers 2 rfl) rfl rfl ?_
  refine z_ite (fun c0 => ?_) (fun c0 => ?_)
  · refine z_tabIn (tgt := 44) 0 c0 (zat dd_X0_covers 3 rfl) (by decide) (by decide) rfl (by decide) ?_
    refine z_iconst (x := 2) (zat dd_X0_covers 4 rfl) (by decide) ?_
    exact z_iret rfl (zat dd_X0_covers 5 rfl)
  refine z_ite (fun c1 => ?_) (fun c1 => ?_)
  · refine z_tabIn (tgt := 46) 1 c1 (zat dd_X0_covers 3 rfl) (by decide) (by decide) rfl (by decide) ?_
    refine z_iload_n 0 (zat dd_X0_covers 6 rfl) rfl rfl ?_
    exact z_iret rfl (zat dd_X0_covers 7 rfl)
  refine z_ite (fun c2 => ?_) (fun c2 => ?_)
  · refine z_tabIn (tgt := 48) 2 c2 (zat dd_X0_covers 3 rfl) (by decide) (by decide) rfl (by decide) ?_
    refine z_iload_n 0 (zat dd_X0_covers 8 rfl) rfl rfl ?_
    refine z_iconst (x := 1) (zat dd_X0_covers 9 rfl) (by decide) ?_
    refine z_ior (zat dd_X0_covers 10 rfl) ?_
    exact z_iret rfl (zat dd_X0_covers 11 rfl)
  refine z_ite (fun c3 => ?_) (fun c3 => ?_)
  · refine z_tabIn (tgt := 52) 3 c3 (zat dd_X0_covers 3 rfl) (by decide) (by decide) rfl (by decide) ?_
    refine z_iconst (x := 1) (zat dd_X0_covers 12 rfl) (by decide) ?_
    exact z_iret rfl (zat dd_X0_covers 13 rfl)
  refine z_ite (fun c4 => ?_) (fun c4 => ?_)
  · refine z_tabIn (tgt := 54) 4 c4 (zat dd_X0_covers 3 rfl) (by decide) (by decide) rfl (by decide) ?_
    refine z_bipush (x := 8) (zat dd_X0_covers 14 rfl) (by decide) ?_
    exact z_iret rfl (zat dd_X0_covers 15 rfl)
  refine z_ite (fun c5 => ?_) (fun c5 => ?_)
  · refine z_tabIn (tgt := 57) 5 c5 (zat dd_X0_covers 3 rfl) (by decide) (by decide) rfl (by decide) ?_
    refine z_iload_n 0 (zat dd_X0_covers 16 rfl) rfl rfl ?_
    refine z_bipush (x := 8) (zat dd_X0_covers 17 rfl) (by decide) ?_
    refine z_ior (zat dd_X0_covers 18 rfl) ?_
    exact z_iret rfl (zat dd_X0_covers 19 rfl)
  refine z_tabOut (tgt := 62) (zat dd_X0_covers 3 rfl) (by have g0 := lv_neT (a := 0) c0 rfl; have g1 := lv_neT (a := 1) c1 rfl; have g2 := lv_neT (a := 2) c2 rfl; have g3 := lv_neT (a := 3) c3 rfl; have g4 := lv_neT (a := 4) c4 rfl; have g5 := lv_neT (a := 5) c5 rfl; omega) (by decide) ?_
  refine z_iconst (x := 0) (zat dd_X0_covers 20 rfl) (by decide) ?_
  exact z_iret rfl (zat dd_X0_covers 21 rfl)
/-! PaperDolls$Cloth.holds(III)I -/
def L_X0_holds : List (Nat × Instr × Nat) := [(0, .iload_n 1, 1), (1, .iload_n 2, 1), (2, .iconst 3, 1), (3, .idiv, 1), (4, .isub, 1), (5, .istore_n 3, 1), (6, .iload_n 3, 1), (7, .iconst 1, 1), (8, .isub, 1), (9, .istore 4, 2), (11, .iload_n 3, 1), (12, .iconst 2, 1), (13, .iadd, 1), (14, .istore 5, 2), (16, .iload_n 0, 1), (17, .tableswitch 60 0 5 #[39, 41, 44, 47, 50, 55], 39), (56, .iload_n 3, 1), (57, .ireturn, 1), (58, .iload 4, 2), (60, .ireturn, 1), (61, .iload 4, 2), (63, .ireturn, 1), (64, .iload 5, 2), (66, .ireturn, 1), (67, .iload 5, 2), (69, .iload_n 2, 1), (70, .isub, 1), (71, .ireturn, 1), (72, .iconst 2, 1), (73, .iload 4, 2), (75, .imul, 1), (76, .ireturn, 1), (77, .iconst 0, 1), (78, .ireturn, 1)]
theorem dd_X0_holds : ∀ q ∈ L_X0_holds, decode cX0_holds q.1 = .ok q.2 := by decide +kernel
abbrev M_X0_holds : zM := (cX0_holds, RX0, "holds", 6, some .int, 0, 0, 0)
theorem u_X0_holds : zCal yX0_holds (M_X0_holds) 3 := ⟨(zmem 441 (by decide +kernel) rfl : Cond.code yX0_holds cX0_holds 6 (some .int) ∈ zTb), zmem 69 (by decide +kernel) rfl, by decide +kernel, Nat.le_of_ble_eq_true rfl⟩
theorem qi_X0_holds : Cond.static yX0_holds ∈ zTb := zmem 440 (by decide +kernel) rfl
def f_X0_holds (v0 : Int32) (v1 : Int32) (v2 : Int32) (h : zH) : zR :=
  zdv 3 <|
  zlt (v1 - (v2 / 3)) fun x1 =>
  zlt (x1 - 1) fun x2 =>
  zlt (x1 + 2) fun x3 =>
  if v0 = 0 then
  zrI x1 h
  else
  if v0 = 1 then
  zrI x2 h
  else
  if v0 = 2 then
  zrI x2 h
  else
  if v0 = 3 then
  zrI x3 h
  else
  if v0 = 4 then
  zrI (x3 - v2) h
  else
  if v0 = 5 then
  zrI (2 * x2) h
  else
  zrI 0 h
set_option maxRecDepth 100000 in
set_option maxHeartbeats 4000000 in
theorem m_X0_holds (l : Launch) (D : zD) (v0 : Int32) (v1 : Int32) (v2 : Int32) (h : zH) : zMet l D yX0_holds M_X0_holds [.int v0, .int v1, .int v2] h (f_X0_holds v0 v1 v2 h) := by
  refine zMet.of (by decide +kernel) ⟨rfl, rfl⟩ (Nat.le_of_ble_eq_true rfl) (fun Y hl hD => ?_)
  show Z Y M_X0_holds 0 0 0 [(0, .int v0), (1, .int v1), (2, .int v2)] [] h _
  rw [f_X0_holds]
  refine z_iload_n 1 (zat dd_X0_holds 0 rfl) rfl rfl ?_
  refine z_iload_n 2 (zat dd_X0_holds 1 rfl) rfl rfl ?_
  refine z_iconst (x := 3) (zat dd_X0_holds 2 rfl) (by decide) ?_
  refine z_idiv (zat dd_X0_holds 3 rfl) ?_
  refine z_isub (zat dd_X0_holds 4 rfl) ?_
  refine z_let (fun x1 => ?_)
  refine z_istore_n (lv' := [(3, .int x1), (0, .int v0), (1, .int v1), (2, .int v2)]) (zat dd_X0_holds 5 rfl) rfl (Nat.le_of_ble_eq_true rfl) rfl ?_
  refine z_iload_n 0 (zat dd_X0_holds 6 rfl) rfl rfl ?_
  refine z_iconst (x := 1) (zat dd_X0_holds 7 rfl) (by decide) ?_
  refine z_isub (zat dd_X0_holds 8 rfl) ?_
  refine z_let (fun x2 => ?_)
  refine z_istore (lv' := [(4, .int x2), (3, .int x1), (0, .int v0), (1, .int v1), (2, .int v2)]) (zat dd_X0_holds 9 rfl) (Nat.le_of_ble_eq_true rfl) rfl ?_
  refine z_iload_n 1 (zat dd_X0_holds 10 rfl) rfl rfl ?_
  refine z_iconst (x := 2) (zat dd_X0_holds 11 rfl) (by decide) ?_
  refine z_iadd (zat dd_X0_holds 12 rfl) ?_
  refine z_let (fun x3 => ?_)
  refine z_istore (lv' := [(5, .int x3), (4, .int x2), (3, .int x1), (0, .int v0), (1, .int v1), (2, .int v2)]) (zat dd_X0_holds 13 rfl) (Nat.le_of_ble_eq_true rfl) rfl ?_
  refine z_iload_n 3 (zat dd_X0_holds 14 rfl) rfl rfl ?_
  refine z_ite (fun c0 => ?_) (fun c0 => ?_)
  · refine z_tabIn (tgt := 56) 0 c0 (zat dd_X0_holds 15 rfl) (by decide) (by decide) rfl (by decide) ?_
    refine z_iload_n 2 (zat dd_X0_holds 16 rfl) rfl rfl ?_
    exact z_iret rfl (zat dd_X0_holds 17 rfl)
  refine z_ite (fun c1 => ?_) (fun c1 => ?_)
  · refine z_tabIn (tgt := 58) 1 c1 (zat dd_X0_holds 15 rfl) (by decide) (by decide) rfl (by decide) ?_
    refine z_iload 1 (zat dd_X0_holds 18 rfl) rfl ?_
    exact z_iret rfl (zat dd_X0_holds 19 rfl)
  refine z_ite (fun c2 => ?_) (fun c2 => ?_)
  · refine z_tabIn (tgt := 61) 2 c2 (zat dd_X0_holds 15 rfl) (by decide) (by decide) rfl (by decide) ?_
    refine z_iload 1 (zat dd_X0_holds 20 rfl) rfl ?_
    exact z_iret rfl (zat dd_X0_holds 21 rfl)
  refine z_ite (fun c3 => ?_) (fun c3 => ?_)
  · refine z_tabIn (tgt := 64) 3 c3 (zat dd_X0_holds 15 rfl) (by decide) (by decide) rfl (by decide) ?_
    refine z_iload 0 (zat dd_X0_holds 22 rfl) rfl ?_
    exact z_iret rfl (zat dd_X0_holds 23 rfl)
  refine z_ite (fun c4 => ?_) (fun c4 => ?_)
  · refine z_tabIn (tgt := 67) 4 c4 (zat dd_X0_holds 15 rfl) (by decide) (by decide) rfl (by decide) ?_
    refine z_iload 0 (zat dd_X0_holds 24 rfl) rfl ?_
    refine z_iload_n 5 (zat dd_X0_holds 25 rfl) rfl rfl ?_
    refine z_isub (zat dd_X0_holds 26 rfl) ?_
    exact z_iret rfl (zat dd_X0_holds 27 rfl)
  refine z_ite (fun c5 => ?_) (fun c5 => ?_)
  · refine z_tabIn (tgt := 72) 5 c5 (zat dd_X0_holds 15 rfl) (by decide) (by decide) rfl (by decide) ?_
    refine z_iconst (x := 2) (zat dd_X0_holds 28 rfl) (by decide) ?_
    refine z_iload 1 (zat dd_X0_holds 29 rfl) rfl ?_
    refine z_imul (zat dd_X0_holds 30 rfl) ?_
    exact z_iret rfl (zat dd_X0_holds 31 rfl)
  refine z_tabOut (tgt := 77) (zat dd_X0_holds 15 rfl) (by have g0 := lv_neT (a := 0) c0 rfl; have g1 := lv_neT (a := 1) c1 rfl; have g2 := lv_neT (a := 2) c2 rfl; have g3 := lv_neT (a := 3) c3 rfl; have g4 := lv_neT (a := 4) c4 rfl; have g5 := lv_neT (a := 5) c5 rfl; omega) (by decide) ?_
  refine z_iconst (x := 0) (zat dd_X0_holds 32 rfl) (by decide) ?_
  exact z_iret rfl (zat dd_X0_holds 33 rfl)
/-! PaperDolls$Wear.<init>()V -/
def L_X8_init : List (Nat × Instr × Nat) := [(0, .aload_n 0, 1), (1, .invokespecial 3, 3), (4, .aload_n 0, 1), (5, .bipush 8, 2), (7, .newarray .int, 2), (9, .putfield 9, 3), (12, .aload_n 0, 1), (13, .bipush 8, 2), (15, .newarray .int, 2), (17, .putfield 15, 3), (20, .return_, 1)]
theorem dd_X8_init : ∀ q ∈ L_X8_init, decode cX8_init q.1 = .ok q.2 := by decide +kernel
abbrev M_X8_init : zM := (cX8_init, RX8, "<init>", 1, none, 0, 2, 16)
theorem u_X8_init : zCal yX8_init (M_X8_init) 0 := ⟨(zmem 93 (by decide +kernel) rfl : Cond.code yX8_init cX8_init 1 (none) ∈ zTb), zmem 59 (by decide +kernel) rfl, by decide +kernel, Nat.le_of_ble_eq_true rfl⟩
theorem qi_X8_init : Cond.instanceMethod yX8_init ∈ zTb := zmem 92 (by decide +kernel) rfl
def f_X8_init (v0 : Nat) (h : zH) : zR :=
  zN h (.inl (0, 8, .inl fun _ => 0)) fun a1 h2 =>
  zpV h2 v0 4 0 (.ref a1) fun h3 =>
  zN h3 (.inl (0, 8, .inl fun _ => 0)) fun a4 h5 =>
  zpV h5 v0 4 1 (.ref a4) fun h6 =>
  zrV h6
set_option maxRecDepth 100000 in
set_option maxHeartbeats 4000000 in
theorem m_X8_init (l : Launch) (D : zD) (v0 : Nat) (h : zH) : zMet l D yX8_init M_X8_init [.ref v0] h (f_X8_init v0 h) := by
  refine zMet.of (by decide +kernel) ⟨rfl, rfl⟩ (Nat.le_of_ble_eq_true rfl) (fun Y hl hD => ?_)
  show Z Y M_X8_init 0 0 0 [(0, .ref v0)] [] h _
  rw [f_X8_init]
  refine z_aload_n 0 (zat dd_X8_init 0 rfl) rfl rfl ?_
  refine z_objInit ql_X8_3 qo_inst qo_code (Nat.le_of_ble_eq_true rfl) (zat dd_X8_init 1 rfl) ?_
  refine z_aload_n 0 (zat dd_X8_init 2 rfl) rfl rfl ?_
  refine z_bipush (x := 8) (zat dd_X8_init 3 rfl) (by decide) ?_
  refine z_newA0 (cells2 := 1) (slots2 := 8) qa_int (by decide) (by decide) (by decide) (by decide) (by decide) rfl rfl (zat dd_X8_init 4 rfl) (fun a1 h2 => ?_)
  refine z_putF fl_X8_9 rfl rfl rfl rfl (zat dd_X8_init 5 rfl) (fun h3 => ?_)
  refine z_aload_n 0 (zat dd_X8_init 6 rfl) rfl rfl ?_
  refine z_bipush (x := 8) (zat dd_X8_init 7 rfl) (by decide) ?_
  refine z_newA0 (cells2 := 2) (slots2 := 16) qa_int (by decide) (by decide) (by decide) (by decide) (by decide) rfl rfl (zat dd_X8_init 8 rfl) (fun a4 h5 => ?_)
  refine z_putF fl_X8_15 rfl rfl rfl rfl (zat dd_X8_init 9 rfl) (fun h6 => ?_)
  exact z_vret rfl (zat dd_X8_init 10 rfl)
/-! PaperDolls$Wear.begin()V -/
def L_X8_begin : List (Nat × Instr × Nat) := [(0, .aload_n 0, 1), (1, .iconst 0, 1), (2, .putfield 18, 3), (5, .aload_n 0, 1), (6, .iconst 0, 1), (7, .putfield 22, 3), (10, .iconst 0, 1), (11, .istore_n 1, 1), (12, .iload_n 1, 1), (13, .bipush 8, 2), (15, .if_icmp .ge 16, 3), (18, .aload_n 0, 1), (19, .getfield 15, 3), (22, .iload_n 1, 1), (23, .iconst 0, 1), (24, .iastore, 1), (25, .iinc 1 1, 3), (28, .goto (-16), 3), (31, .return_, 1)]
theorem dd_X8_begin : ∀ q ∈ L_X8_begin, decode cX8_begin q.1 = .ok q.2 := by decide +kernel
abbrev M_X8_begin : zM := (cX8_begin, RX8, "begin", 2, none, 0, 0, 0)
theorem u_X8_begin : zCal yX8_begin (M_X8_begin) 0 := ⟨(zmem 301 (by decide +kernel) rfl : Cond.code yX8_begin cX8_begin 2 (none) ∈ zTb), zmem 59 (by decide +kernel) rfl, by decide +kernel, Nat.le_of_ble_eq_true rfl⟩
theorem qi_X8_begin : Cond.instanceMethod yX8_begin ∈ zTb := zmem 299 (by decide +kernel) rfl
theorem qs_X8_begin : Cond.selects yX8_begin.cls yX8_begin yX8_begin ∈ zTb := zmem 300 (by decide +kernel) rfl
def f_X8_begin_12 : Nat → Nat → Int32 → zH → zR
  | 0, _, _, _ => none
  | n + 1, v0, v1, h =>
  if 8 ≤ v1 then
  zrV h
  else
  zgR h v0 4 1 fun a1 =>
  zsI h a1 0 v1 0 fun h2 =>
  f_X8_begin_12 n v0 (v1 + 1) h2
set_option maxRecDepth 100000 in
set_option maxHeartbeats 4000000 in
theorem zb_X8_begin_12 (Y : zY) : ∀ (n : Nat) (v0 : Nat) (v1 : Int32) (h : zH), Z Y M_X8_begin 0 0 12 [(0, .ref v0), (1, .int v1)] [] h (f_X8_begin_12 n v0 v1 h) := by
  intro n
  induction n with
  | zero =>
    intro v0 v1 h
    rw [f_X8_begin_12]
    exact z_none
  | succ n ih =>
    intro v0 v1 h
    rw [f_X8_begin_12]
    refine z_iload_n 1 (zat dd_X8_begin 8 rfl) rfl rfl ?_
    refine z_bipush (x := 8) (zat dd_X8_begin 9 rfl) (by decide) ?_
    refine z_icmp_ge (tgt := 31) (zat dd_X8_begin 10 rfl) (by decide) ?_ ?_
    · exact z_vret rfl (zat dd_X8_begin 18 rfl)
    · refine z_aload_n 0 (zat dd_X8_begin 11 rfl) rfl rfl ?_
      refine z_getR fl_X8_15 (zat dd_X8_begin 12 rfl) (fun a1 => ?_)
      refine z_iload_n 1 (zat dd_X8_begin 13 rfl) rfl rfl ?_
      refine z_iconst (x := 0) (zat dd_X8_begin 14 rfl) (by decide) ?_
      refine z_iast (zat dd_X8_begin 15 rfl) (fun h2 => ?_)
      refine z_iinc (y := v1 + 1) (lv' := [(1, .int (v1 + 1)), (0, .ref v0)]) 1 (zat dd_X8_begin 16 rfl) rfl rfl (Nat.le_of_ble_eq_true rfl) rfl ?_
      refine z_goto (tgt := 12) (zat dd_X8_begin 17 rfl) (by decide) ?_
      refine z_sub [1, 0] rfl ?_
      exact ih v0 (v1 + 1) h2
def f_X8_begin (v0 : Nat) (h : zH) : zR :=
  zpV h v0 4 2 (.int 0) fun h1 =>
  zpV h1 v0 4 3 (.int 0) fun h2 =>
  f_X8_begin_12 zF v0 0 h2
set_option maxRecDepth 100000 in
set_option maxHeartbeats 4000000 in
theorem m_X8_begin (l : Launch) (D : zD) (v0 : Nat) (h : zH) : zMet l D yX8_begin M_X8_begin [.ref v0] h (f_X8_begin v0 h) := by
  refine zMet.of (by decide +kernel) ⟨rfl, rfl⟩ (Nat.le_of_ble_eq_true rfl) (fun Y hl hD => ?_)
  show Z Y M_X8_begin 0 0 0 [(0, .ref v0)] [] h _
  rw [f_X8_begin]
  refine z_aload_n 0 (zat dd_X8_begin 0 rfl) rfl rfl ?_
  refine z_iconst (x := 0) (zat dd_X8_begin 1 rfl) (by decide) ?_
  refine z_put fl_X8_18 rfl rfl (zat dd_X8_begin 2 rfl) (fun h1 => ?_)
  refine z_aload_n 0 (zat dd_X8_begin 3 rfl) rfl rfl ?_
  refine z_iconst (x := 0) (zat dd_X8_begin 4 rfl) (by decide) ?_
  refine z_put fl_X8_22 rfl rfl (zat dd_X8_begin 5 rfl) (fun h2 => ?_)
  refine z_iconst (x := 0) (zat dd_X8_begin 6 rfl) (by decide) ?_
  refine z_istore_n (lv' := [(1, .int 0), (0, .ref v0)]) (zat dd_X8_begin 7 rfl) rfl (Nat.le_of_ble_eq_true rfl) rfl ?_
  refine z_sub [1, 0] rfl ?_
  exact zb_X8_begin_12 Y zF v0 0 h2
/-! PaperDolls$Wear.copyFrom(LPaperDolls$Wear;)V -/
def L_X8_copyFrom : List (Nat × Instr × Nat) := [(0, .aload_n 1, 1), (1, .getfield 9, 3), (4, .iconst 0, 1), (5, .aload_n 0, 1), (6, .getfield 9, 3), (9, .iconst 0, 1), (10, .bipush 8, 2), (12, .invokestatic 25, 3), (15, .aload_n 1, 1), (16, .getfield 15, 3), (19, .iconst 0, 1), (20, .aload_n 0, 1), (21, .getfield 15, 3), (24, .iconst 0, 1), (25, .bipush 8, 2), (27, .invokestatic 25, 3), (30, .aload_n 0, 1), (31, .aload_n 1, 1), (32, .getfield 18, 3), (35, .putfield 18, 3), (38, .aload_n 0, 1), (39, .aload_n 1, 1), (40, .getfield 22, 3), (43, .putfield 22, 3), (46, .return_, 1)]
theorem dd_X8_copyFrom : ∀ q ∈ L_X8_copyFrom, decode cX8_copyFrom q.1 = .ok q.2 := by decide +kernel
abbrev M_X8_copyFrom : zM := (cX8_copyFrom, RX8, "copyFrom", 2, none, 0, 0, 0)
theorem u_X8_copyFrom : zCal yX8_copyFrom (M_X8_copyFrom) 1 := ⟨(zmem 481 (by decide +kernel) rfl : Cond.code yX8_copyFrom cX8_copyFrom 2 (none) ∈ zTb), zmem 59 (by decide +kernel) rfl, by decide +kernel, Nat.le_of_ble_eq_true rfl⟩
theorem qi_X8_copyFrom : Cond.instanceMethod yX8_copyFrom ∈ zTb := zmem 479 (by decide +kernel) rfl
theorem qs_X8_copyFrom : Cond.selects yX8_copyFrom.cls yX8_copyFrom yX8_copyFrom ∈ zTb := zmem 480 (by decide +kernel) rfl
def f_X8_copyFrom (v0 : Nat) (v1 : Nat) (h : zH) : zR :=
  zgR h v1 4 0 fun a1 =>
  zgR h v0 4 0 fun a2 =>
  zcp h a1 0 a2 0 8 fun h3 =>
  zgR h3 v1 4 1 fun a4 =>
  zgR h3 v0 4 1 fun a5 =>
  zcp h3 a4 0 a5 0 8 fun h6 =>
  zgI h6 v1 4 2 fun x7 =>
  zpV h6 v0 4 2 (.int x7) fun h8 =>
  zgI h8 v1 4 3 fun x9 =>
  zpV h8 v0 4 3 (.int x9) fun h10 =>
  zrV h10
set_option maxRecDepth 100000 in
set_option maxHeartbeats 4000000 in
theorem m_X8_copyFrom (l : Launch) (D : zD) (v0 : Nat) (v1 : Nat) (h : zH) : zMet l D yX8_copyFrom M_X8_copyFrom [.ref v0, .ref v1] h (f_X8_copyFrom v0 v1 h) := by
  refine zMet.of (by decide +kernel) ⟨rfl, rfl⟩ (Nat.le_of_ble_eq_true rfl) (fun Y hl hD => ?_)
  show Z Y M_X8_copyFrom 0 0 0 [(0, .ref v0), (1, .ref v1)] [] h _
  rw [f_X8_copyFrom]
  refine z_aload_n 1 (zat dd_X8_copyFrom 0 rfl) rfl rfl ?_
  refine z_getR fl_X8_9 (zat dd_X8_copyFrom 1 rfl) (fun a1 => ?_)
  refine z_iconst (x := 0) (zat dd_X8_copyFrom 2 rfl) (by decide) ?_
  refine z_aload_n 0 (zat dd_X8_copyFrom 3 rfl) rfl rfl ?_
  refine z_getR fl_X8_9 (zat dd_X8_copyFrom 4 rfl) (fun a2 => ?_)
  refine z_iconst (x := 0) (zat dd_X8_copyFrom 5 rfl) (by decide) ?_
  refine z_bipush (x := 8) (zat dd_X8_copyFrom 6 rfl) (by decide) ?_
  refine z_copy ql_X8_25 qo_nat qo_cst qo_sys (Nat.le_of_ble_eq_true rfl) (zat dd_X8_copyFrom 7 rfl) (fun h3 => ?_)
  refine z_aload_n 1 (zat dd_X8_copyFrom 8 rfl) rfl rfl ?_
  refine z_getR fl_X8_15 (zat dd_X8_copyFrom 9 rfl) (fun a4 => ?_)
  refine z_iconst (x := 0) (zat dd_X8_copyFrom 10 rfl) (by decide) ?_
  refine z_aload_n 0 (zat dd_X8_copyFrom 11 rfl) rfl rfl ?_
  refine z_getR fl_X8_15 (zat dd_X8_copyFrom 12 rfl) (fun a5 => ?_)
  refine z_iconst (x := 0) (zat dd_X8_copyFrom 13 rfl) (by decide) ?_
  refine z_bipush (x := 8) (zat dd_X8_copyFrom 14 rfl) (by decide) ?_
  refine z_copy ql_X8_25 qo_nat qo_cst qo_sys (Nat.le_of_ble_eq_true rfl) (zat dd_X8_copyFrom 15 rfl) (fun h6 => ?_)
  refine z_aload_n 0 (zat dd_X8_copyFrom 16 rfl) rfl rfl ?_
  refine z_aload_n 1 (zat dd_X8_copyFrom 17 rfl) rfl rfl ?_
  refine z_getI fl_X8_18 (zat dd_X8_copyFrom 18 rfl) (fun x7 => ?_)
  refine z_put fl_X8_18 rfl rfl (zat dd_X8_copyFrom 19 rfl) (fun h8 => ?_)
  refine z_aload_n 0 (zat dd_X8_copyFrom 20 rfl) rfl rfl ?_
  refine z_aload_n 1 (zat dd_X8_copyFrom 21 rfl) rfl rfl ?_
  refine z_getI fl_X8_22 (zat dd_X8_copyFrom 22 rfl) (fun x9 => ?_)
  refine z_put fl_X8_22 rfl rfl (zat dd_X8_copyFrom 23 rfl) (fun h10 => ?_)
  exact z_vret rfl (zat dd_X8_copyFrom 24 rfl)
/-! PaperDolls$Wear.onSet()I -/
def L_X8_onSet : List (Nat × Instr × Nat) := [(0, .iconst 0, 1), (1, .istore_n 1, 1), (2, .iconst 0, 1), (3, .istore_n 2, 1), (4, .iload_n 2, 1), (5, .aload_n 0, 1), (6, .getfield 18, 3), (9, .if_icmp .ge 20, 3), (12, .iload_n 1, 1), (13, .iconst 1, 1), (14, .aload_n 0, 1), (15, .getfield 9, 3), (18, .iload_n 2, 1), (19, .iaload, 1), (20, .ishl, 1), (21, .ior, 1), (22, .istore_n 1, 1), (23, .iinc 2 1, 3), (26, .goto (-22), 3), (29, .iload_n 1, 1), (30, .ireturn, 1)]
theorem dd_X8_onSet : ∀ q ∈ L_X8_onSet, decode cX8_onSet q.1 = .ok q.2 := by decide +kernel
abbrev M_X8_onSet : zM := (cX8_onSet, RX8, "onSet", 3, some .int, 0, 0, 0)
theorem u_X8_onSet : zCal yX8_onSet (M_X8_onSet) 0 := ⟨(zmem 635 (by decide +kernel) rfl : Cond.code yX8_onSet cX8_onSet 3 (some .int) ∈ zTb), zmem 59 (by decide +kernel) rfl, by decide +kernel, Nat.le_of_ble_eq_true rfl⟩
theorem qi_X8_onSet : Cond.instanceMethod yX8_onSet ∈ zTb := zmem 633 (by decide +kernel) rfl
theorem qs_X8_onSet : Cond.selects yX8_onSet.cls yX8_onSet yX8_onSet ∈ zTb := zmem 634 (by decide +kernel) rfl
def f_X8_onSet_4 : Nat → Nat → Int32 → Int32 → zH → zR
  | 0, _, _, _, _ => none
  | n + 1, v0, v1, v2, h =>
  zgI h v0 4 2 fun x1 =>
  if x1 ≤ v2 then
  zrI v1 h
  else
  zgR h v0 4 0 fun a2 =>
  zaI h a2 0 v2 fun x3 =>
  zlt (v1 ||| (1 <<< (x3 &&& 31))) fun x4 =>
  f_X8_onSet_4 n v0 x4 (v2 + 1) h
set_option maxRecDepth 100000 in
set_option maxHeartbeats 4000000 in
theorem zb_X8_onSet_4 (Y : zY) : ∀ (n : Nat) (v0 : Nat) (v1 : Int32) (v2 : Int32) (h : zH), Z Y M_X8_onSet 0 0 4 [(0, .ref v0), (1, .int v1), (2, .int v2)] [] h (f_X8_onSet_4 n v0 v1 v2 h) := by
  intro n
  induction n with
  | zero =>
    intro v0 v1 v2 h
    rw [f_X8_onSet_4]
    exact z_none
  | succ n ih =>
    intro v0 v1 v2 h
    rw [f_X8_onSet_4]
    refine z_iload_n 2 (zat dd_X8_onSet 4 rfl) rfl rfl ?_
    refine z_aload_n 0 (zat dd_X8_onSet 5 rfl) rfl rfl ?_
    refine z_getI fl_X8_18 (zat dd_X8_onSet 6 rfl) (fun x1 => ?_)
    refine z_icmp_ge (tgt := 29) (zat dd_X8_onSet 7 rfl) (by decide) ?_ ?_
    · refine z_iload_n 1 (zat dd_X8_onSet 19 rfl) rfl rfl ?_
      exact z_iret rfl (zat dd_X8_onSet 20 rfl)
    · refine z_iload_n 1 (zat dd_X8_onSet 8 rfl) rfl rfl ?_
      refine z_iconst (x := 1) (zat dd_X8_onSet 9 rfl) (by decide) ?_
      refine z_aload_n 0 (zat dd_X8_onSet 10 rfl) rfl rfl ?_
      refine z_getR fl_X8_9 (zat dd_X8_onSet 11 rfl) (fun a2 => ?_)
      refine z_iload_n 2 (zat dd_X8_onSet 12 rfl) rfl rfl ?_
      refine z_iald (zat dd_X8_onSet 13 rfl) (fun x3 => ?_)
      refine z_ishl (zat dd_X8_onSet 14 rfl) ?_
      refine z_ior (zat dd_X8_onSet 15 rfl) ?_
      refine z_let (fun x4 => ?_)
      refine z_istore_n (lv' := [(1, .int x4), (0, .ref v0), (2, .int v2)]) (zat dd_X8_onSet 16 rfl) rfl (Nat.le_of_ble_eq_true rfl) rfl ?_
      refine z_iinc (y := v2 + 1) (lv' := [(2, .int (v2 + 1)), (1, .int x4), (0, .ref v0)]) 2 (zat dd_X8_onSet 17 rfl) rfl rfl (Nat.le_of_ble_eq_true rfl) rfl ?_
      refine z_goto (tgt := 4) (zat dd_X8_onSet 18 rfl) (by decide) ?_
      refine z_sub [2, 1, 0] rfl ?_
      exact ih v0 x4 (v2 + 1) h
def f_X8_onSet (v0 : Nat) (h : zH) : zR :=
  f_X8_onSet_4 zF v0 0 0 h
set_option maxRecDepth 100000 in
set_option maxHeartbeats 4000000 in
theorem m_X8_onSet (l : Launch) (D : zD) (v0 : Nat) (h : zH) : zMet l D yX8_onSet M_X8_onSet [.ref v0] h (f_X8_onSet v0 h) := by
  refine zMet.of (by decide +kernel) ⟨rfl, rfl⟩ (Nat.le_of_ble_eq_true rfl) (fun Y hl hD => ?_)
  show Z Y M_X8_onSet 0 0 0 [(0, .ref v0)] [] h _
  rw [f_X8_onSet]
  refine z_iconst (x := 0) (zat dd_X8_onSet 0 rfl) (by decide) ?_
  refine z_istore_n (lv' := [(1, .int 0), (0, .ref v0)]) (zat dd_X8_onSet 1 rfl) rfl (Nat.le_of_ble_eq_true rfl) rfl ?_
  refine z_iconst (x := 0) (zat dd_X8_onSet 2 rfl) (by decide) ?_
  refine z_istore_n (lv' := [(2, .int 0), (1, .int 0), (0, .ref v0)]) (zat dd_X8_onSet 3 rfl) rfl (Nat.le_of_ble_eq_true rfl) rfl ?_
  refine z_sub [2, 1, 0] rfl ?_
  exact zb_X8_onSet_4 Y zF v0 0 0 h
/-! PaperDolls$Taste.allows(III)Z -/
def L_X6_allows : List (Nat × Instr × Nat) := [(0, .iload_n 1, 1), (1, .iload_n 2, 1), (2, .if_icmp .ge 7, 3), (5, .iload_n 1, 1), (6, .goto 4, 3), (9, .iload_n 2, 1), (10, .istore_n 3, 1), (11, .iload_n 1, 1), (12, .iload_n 2, 1), (13, .if_icmp .ge 7, 3), (16, .iload_n 2, 1), (17, .goto 4, 3), (20, .iload_n 1, 1), (21, .istore 4, 2), (23, .iload 4, 2), (25, .iload_n 3, 1), (26, .if_icmp .ne 7, 3), (29, .iconst 1, 1), (30, .goto 4, 3), (33, .iconst 0, 1), (34, .istore 5, 2), (36, .iload 5, 2), (38, .ifCond .ne 11, 3), (41, .iload 4, 2), (43, .iload_n 3, 1), (44, .iconst 1, 1), (45, .iadd, 1), (46, .if_icmp .ne 7, 3), (49, .iconst 1, 1), (50, .goto 4, 3), (53, .iconst 0, 1), (54, .istore 6, 2), (56, .iload_n 0, 1), (57, .tableswitch 107 0 5 #[39, 42, 45, 56, 75, 92], 39), (96, .iload 6, 2), (98, .ireturn, 1), (99, .iload 5, 2), (101, .ireturn, 1), (102, .iload 6, 2), (104, .ifCond .ne 7, 3), (107, .iconst 1, 1), (108, .goto 4, 3), (111, .iconst 0, 1), (112, .ireturn, 1), (113, .iload 5, 2), (115, .ifCond .ne 11, 3), (118, .iload_n 3, 1), (119, .iload 4, 2), (121, .iadd, 1), (122, .iconst 3, 1), (123, .if_icmp .ne 7, 3), (126, .iconst 1, 1), (127, .goto 4, 3), (130, .iconst 0, 1), (131, .ireturn, 1), (132, .iload 6, 2), (134, .ifCond .eq 13, 3), (137, .iload 4, 2), (139, .iconst 3, 1), (140, .if_icmp .eq 7, 3), (143, .iconst 1, 1), (144, .goto 4, 3), (147, .iconst 0, 1), (148, .ireturn, 1), (149, .iload 6, 2), (151, .ifCond .eq 7, 3), (154, .iload_n 3, 1), (155, .ifCond .ne 7, 3), (158, .iconst 1, 1), (159, .goto 4, 3), (162, .iconst 0, 1), (163, .ireturn, 1), (164, .iconst 0, 1), (165, .ireturn, 1)]
theorem dd_X6_allows : ∀ q ∈ L_X6_allows, decode cX6_allows q.1 = .ok q.2 := by decide +kernel
abbrev M_X6_allows : zM := (cX6_allows, RX6, "allows", 7, some .boolean, 0, 0, 0)
theorem u_X6_allows : zCal yX6_allows (M_X6_allows) 3 := ⟨(zmem 444 (by decide +kernel) rfl : Cond.code yX6_allows cX6_allows 7 (some .boolean) ∈ zTb), zmem 70 (by decide +kernel) rfl, by decide +kernel, Nat.le_of_ble_eq_true rfl⟩
theorem qi_X6_allows : Cond.static yX6_allows ∈ zTb := zmem 443 (by decide +kernel) rfl
def f_X6_allows_163 (t0 : Int32) (h : zH) : zR :=
  zrZ t0 h
set_option maxRecDepth 100000 in
set_option maxHeartbeats 4000000 in
theorem zb_X6_allows_163 (Y : zY) (t0 : Int32) (h : zH) : Z Y M_X6_allows 0 0 163 [] [.int t0] h (f_X6_allows_163 t0 h) := by
  rw [f_X6_allows_163]
  exact z_zret rfl (zat dd_X6_allows 71 rfl)
def f_X6_allows_158 (h : zH) : zR :=
  f_X6_allows_163 1 h
set_option maxRecDepth 100000 in
set_option maxHeartbeats 4000000 in
theorem zb_X6_allows_158 (Y : zY) (h : zH) : Z Y M_X6_allows 0 0 158 [] [] h (f_X6_allows_158  h) := by
  rw [f_X6_allows_158]
  refine z_iconst (x := 1) (zat dd_X6_allows 68 rfl) (by decide) ?_
  refine z_goto (tgt := 163) (zat dd_X6_allows 69 rfl) (by decide) ?_
  exact zb_X6_allows_163 Y 1 h
def f_X6_allows_148 (t0 : Int32) (h : zH) : zR :=
  zrZ t0 h
set_option maxRecDepth 100000 in
set_option maxHeartbeats 4000000 in
theorem zb_X6_allows_148 (Y : zY) (t0 : Int32) (h : zH) : Z Y M_X6_allows 0 0 148 [] [.int t0] h (f_X6_allows_148 t0 h) := by
  rw [f_X6_allows_148]
  exact z_zret rfl (zat dd_X6_allows 63 rfl)
def f_X6_allows_147 (h : zH) : zR :=
  f_X6_allows_148 0 h
set_option maxRecDepth 100000 in
set_option maxHeartbeats 4000000 in
theorem zb_X6_allows_147 (Y : zY) (h : zH) : Z Y M_X6_allows 0 0 147 [] [] h (f_X6_allows_147  h) := by
  rw [f_X6_allows_147]
  refine z_iconst (x := 0) (zat dd_X6_allows 62 rfl) (by decide) ?_
  exact zb_X6_allows_148 Y 0 h
def f_X6_allows_131 (t0 : Int32) (h : zH) : zR :=
  zrZ t0 h
set_option maxRecDepth 100000 in
set_option maxHeartbeats 4000000 in
theorem zb_X6_allows_131 (Y : zY) (t0 : Int32) (h : zH) : Z Y M_X6_allows 0 0 131 [] [.int t0] h (f_X6_allows_131 t0 h) := by
  rw [f_X6_allows_131]
  exact z_zret rfl (zat dd_X6_allows 54 rfl)
def f_X6_allows_126 (h : zH) : zR :=
  f_X6_allows_131 1 h
set_option maxRecDepth 100000 in
set_option maxHeartbeats 4000000 in
theorem zb_X6_allows_126 (Y : zY) (h : zH) : Z Y M_X6_allows 0 0 126 [] [] h (f_X6_allows_126  h) := by
  rw [f_X6_allows_126]
  refine z_iconst (x := 1) (zat dd_X6_allows 51 rfl) (by decide) ?_
  refine z_goto (tgt := 131) (zat dd_X6_allows 52 rfl) (by decide) ?_
  exact zb_X6_allows_131 Y 1 h
def f_X6_allows_112 (t0 : Int32) (h : zH) : zR :=
  zrZ t0 h
set_option maxRecDepth 100000 in
set_option maxHeartbeats 4000000 in
theorem zb_X6_allows_112 (Y : zY) (t0 : Int32) (h : zH) : Z Y M_X6_allows 0 0 112 [] [.int t0] h (f_X6_allows_112 t0 h) := by
  rw [f_X6_allows_112]
  exact z_zret rfl (zat dd_X6_allows 43 rfl)
def f_X6_allows_54 (v0 : Int32) (v3 : Int32) (v4 : Int32) (v5 : Int32) (t0 : Int32) (h : zH) : zR :=
  if v0 = 0 then
  zrZ t0 h
  else
  if v0 = 1 then
  zrZ v5 h
  else
  if v0 = 2 then
  if t0 = 0 then
  f_X6_allows_112 1 h
  else
  f_X6_allows_112 0 h
  else
  if v0 = 3 then
  if v5 = 0 then
  if (v3 + v4) = 3 then
  f_X6_allows_126 h
  else
  f_X6_allows_131 0 h
  else
  f_X6_allows_126 h
  else
  if v0 = 4 then
  if t0 = 0 then
  f_X6_allows_147 h
  else
  if v4 = 3 then
  f_X6_allows_147 h
  else
  f_X6_allows_148 1 h
  else
  if v0 = 5 then
  if t0 = 0 then
  f_X6_allows_158 h
  else
  if v3 = 0 then
  f_X6_allows_158 h
  else
  f_X6_allows_163 0 h
  else
  zrZ 0 h
set_option maxRecDepth 100000 in
set_option maxHeartbeats 4000000 in
theorem zb_X6_allows_54 (Y : zY) (v0 : Int32) (v3 : Int32) (v4 : Int32) (v5 : Int32) (t0 : Int32) (h : zH) : Z Y M_X6_allows 0 0 54 [(0, .int v0), (3, .int v3), (4, .int v4), (5, .int v5)] [.int t0] h (f_X6_allows_54 v0 v3 v4 v5 t0 h) := by
  rw [f_X6_allows_54]
  refine z_istore (lv' := [(6, .int t0), (0, .int v0), (3, .int v3), (4, .int v4), (5, .int v5)]) (zat dd_X6_allows 31 rfl) (Nat.le_of_ble_eq_true rfl) rfl ?_
  refine z_iload_n 1 (zat dd_X6_allows 32 rfl) rfl rfl ?_
  refine z_ite (fun c0 => ?_) (fun c0 => ?_)
  · refine z_tabIn (tgt := 96) 0 c0 (zat dd_X6_allows 33 rfl) (by decide) (by decide) rfl (by decide) ?_
    refine z_iload 0 (zat dd_X6_allows 34 rfl) rfl ?_
    exact z_zret rfl (zat dd_X6_allows 35 rfl)
  refine z_ite (fun c1 => ?_) (fun c1 => ?_)
  · refine z_tabIn (tgt := 99) 1 c1 (zat dd_X6_allows 33 rfl) (by decide) (by decide) rfl (by decide) ?_
    refine z_iload 4 (zat dd_X6_allows 36 rfl) rfl ?_
    exact z_zret rfl (zat dd_X6_allows 37 rfl)
  refine z_ite (fun c2 => ?_) (fun c2 => ?_)
  · refine z_tabIn (tgt := 102) 2 c2 (zat dd_X6_allows 33 rfl) (by decide) (by decide) rfl (by decide) ?_
    refine z_iload 0 (zat dd_X6_allows 38 rfl) rfl ?_
    refine z_if_ne (tgt := 111) (zat dd_X6_allows 39 rfl) (by decide) ?_ ?_
    · refine z_iconst (x := 0) (zat dd_X6_allows 42 rfl) (by decide) ?_
      refine z_sub [] rfl ?_
      exact zb_X6_allows_112 Y 0 h
    · refine z_iconst (x := 1) (zat dd_X6_allows 40 rfl) (by decide) ?_
      refine z_goto (tgt := 112) (zat dd_X6_allows 41 rfl) (by decide) ?_
      refine z_sub [] rfl ?_
      exact zb_X6_allows_112 Y 1 h
  refine z_ite (fun c3 => ?_) (fun c3 => ?_)
  · refine z_tabIn (tgt := 113) 3 c3 (zat dd_X6_allows 33 rfl) (by decide) (by decide) rfl (by decide) ?_
    refine z_iload 4 (zat dd_X6_allows 44 rfl) rfl ?_
    refine z_if_ne (tgt := 126) (zat dd_X6_allows 45 rfl) (by decide) ?_ ?_
    · refine z_sub [] rfl ?_
      exact zb_X6_allows_126 Y h
    · refine z_iload_n 2 (zat dd_X6_allows 46 rfl) rfl rfl ?_
      refine z_iload 3 (zat dd_X6_allows 47 rfl) rfl ?_
      refine z_iadd (zat dd_X6_allows 48 rfl) ?_
      refine z_iconst (x := 3) (zat dd_X6_allows 49 rfl) (by decide) ?_
      refine z_icmp_ne (tgt := 130) (zat dd_X6_allows 50 rfl) (by decide) ?_ ?_
      · refine z_iconst (x := 0) (zat dd_X6_allows 53 rfl) (by decide) ?_
        refine z_sub [] rfl ?_
        exact zb_X6_allows_131 Y 0 h
      · refine z_sub [] rfl ?_
        exact zb_X6_allows_126 Y h
  refine z_ite (fun c4 => ?_) (fun c4 => ?_)
  · refine z_tabIn (tgt := 132) 4 c4 (zat dd_X6_allows 33 rfl) (by decide) (by decide) rfl (by decide) ?_
    refine z_iload 0 (zat dd_X6_allows 55 rfl) rfl ?_
    refine z_if_eq (tgt := 147) (zat dd_X6_allows 56 rfl) (by decide) ?_ ?_
    · refine z_sub [] rfl ?_
      exact zb_X6_allows_147 Y h
    · refine z_iload 3 (zat dd_X6_allows 57 rfl) rfl ?_
      refine z_iconst (x := 3) (zat dd_X6_allows 58 rfl) (by decide) ?_
      refine z_icmp_eq (tgt := 147) (zat dd_X6_allows 59 rfl) (by decide) ?_ ?_
      · refine z_sub [] rfl ?_
        exact zb_X6_allows_147 Y h
      · refine z_iconst (x := 1) (zat dd_X6_allows 60 rfl) (by decide) ?_
        refine z_goto (tgt := 148) (zat dd_X6_allows 61 rfl) (by decide) ?_
        refine z_sub [] rfl ?_
        exact zb_X6_allows_148 Y 1 h
  refine z_ite (fun c5 => ?_) (fun c5 => ?_)
  · refine z_tabIn (tgt := 149) 5 c5 (zat dd_X6_allows 33 rfl) (by decide) (by decide) rfl (by decide) ?_
    refine z_iload 0 (zat dd_X6_allows 64 rfl) rfl ?_
    refine z_if_eq (tgt := 158) (zat dd_X6_allows 65 rfl) (by decide) ?_ ?_
    · refine z_sub [] rfl ?_
      exact zb_X6_allows_158 Y h
    · refine z_iload_n 2 (zat dd_X6_allows 66 rfl) rfl rfl ?_
      refine z_if_ne (tgt := 162) (zat dd_X6_allows 67 rfl) (by decide) ?_ ?_
      · refine z_iconst (x := 0) (zat dd_X6_allows 70 rfl) (by decide) ?_
        refine z_sub [] rfl ?_
        exact zb_X6_allows_163 Y 0 h
      · refine z_sub [] rfl ?_
        exact zb_X6_allows_158 Y h
  refine z_tabOut (tgt := 164) (zat dd_X6_allows 33 rfl) (by have g0 := lv_neT (a := 0) c0 rfl; have g1 := lv_neT (a := 1) c1 rfl; have g2 := lv_neT (a := 2) c2 rfl; have g3 := lv_neT (a := 3) c3 rfl; have g4 := lv_neT (a := 4) c4 rfl; have g5 := lv_neT (a := 5) c5 rfl; omega) (by decide) ?_
  refine z_iconst (x := 0) (zat dd_X6_allows 72 rfl) (by decide) ?_
  exact z_zret rfl (zat dd_X6_allows 73 rfl)
def f_X6_allows_49 (v0 : Int32) (v3 : Int32) (v4 : Int32) (v5 : Int32) (h : zH) : zR :=
  f_X6_allows_54 v0 v3 v4 v5 1 h
set_option maxRecDepth 100000 in
set_option maxHeartbeats 4000000 in
theorem zb_X6_allows_49 (Y : zY) (v0 : Int32) (v3 : Int32) (v4 : Int32) (v5 : Int32) (h : zH) : Z Y M_X6_allows 0 0 49 [(0, .int v0), (3, .int v3), (4, .int v4), (5, .int v5)] [] h (f_X6_allows_49 v0 v3 v4 v5 h) := by
  rw [f_X6_allows_49]
  refine z_iconst (x := 1) (zat dd_X6_allows 28 rfl) (by decide) ?_
  refine z_goto (tgt := 54) (zat dd_X6_allows 29 rfl) (by decide) ?_
  exact zb_X6_allows_54 Y v0 v3 v4 v5 1 h
def f_X6_allows_34 (v0 : Int32) (v3 : Int32) (v4 : Int32) (t0 : Int32) (h : zH) : zR :=
  if t0 = 0 then
  if v4 = (v3 + 1) then
  f_X6_allows_49 v0 v3 v4 t0 h
  else
  f_X6_allows_54 v0 v3 v4 t0 0 h
  else
  f_X6_allows_49 v0 v3 v4 t0 h
set_option maxRecDepth 100000 in
set_option maxHeartbeats 4000000 in
theorem zb_X6_allows_34 (Y : zY) (v0 : Int32) (v3 : Int32) (v4 : Int32) (t0 : Int32) (h : zH) : Z Y M_X6_allows 0 0 34 [(0, .int v0), (3, .int v3), (4, .int v4)] [.int t0] h (f_X6_allows_34 v0 v3 v4 t0 h) := by
  rw [f_X6_allows_34]
  refine z_istore (lv' := [(5, .int t0), (0, .int v0), (3, .int v3), (4, .int v4)]) (zat dd_X6_allows 20 rfl) (Nat.le_of_ble_eq_true rfl) rfl ?_
  refine z_iload 0 (zat dd_X6_allows 21 rfl) rfl ?_
  refine z_if_ne (tgt := 49) (zat dd_X6_allows 22 rfl) (by decide) ?_ ?_
  · refine z_sub [1, 2, 3, 0] rfl ?_
    exact zb_X6_allows_49 Y v0 v3 v4 t0 h
  · refine z_iload 3 (zat dd_X6_allows 23 rfl) rfl ?_
    refine z_iload_n 2 (zat dd_X6_allows 24 rfl) rfl rfl ?_
    refine z_iconst (x := 1) (zat dd_X6_allows 25 rfl) (by decide) ?_
    refine z_iadd (zat dd_X6_allows 26 rfl) ?_
    refine z_icmp_ne (tgt := 53) (zat dd_X6_allows 27 rfl) (by decide) ?_ ?_
    · refine z_iconst (x := 0) (zat dd_X6_allows 30 rfl) (by decide) ?_
      refine z_sub [1, 2, 3, 0] rfl ?_
      exact zb_X6_allows_54 Y v0 v3 v4 t0 0 h
    · refine z_sub [1, 2, 3, 0] rfl ?_
      exact zb_X6_allows_49 Y v0 v3 v4 t0 h
def f_X6_allows_21 (v0 : Int32) (v3 : Int32) (t0 : Int32) (h : zH) : zR :=
  if t0 = v3 then
  f_X6_allows_34 v0 v3 t0 1 h
  else
  f_X6_allows_34 v0 v3 t0 0 h
set_option maxRecDepth 100000 in
set_option maxHeartbeats 4000000 in
theorem zb_X6_allows_21 (Y : zY) (v0 : Int32) (v3 : Int32) (t0 : Int32) (h : zH) : Z Y M_X6_allows 0 0 21 [(0, .int v0), (3, .int v3)] [.int t0] h (f_X6_allows_21 v0 v3 t0 h) := by
  rw [f_X6_allows_21]
  refine z_istore (lv' := [(4, .int t0), (0, .int v0), (3, .int v3)]) (zat dd_X6_allows 13 rfl) (Nat.le_of_ble_eq_true rfl) rfl ?_
  refine z_iload 0 (zat dd_X6_allows 14 rfl) rfl ?_
  refine z_iload_n 2 (zat dd_X6_allows 15 rfl) rfl rfl ?_
  refine z_icmp_ne (tgt := 33) (zat dd_X6_allows 16 rfl) (by decide) ?_ ?_
  · refine z_iconst (x := 0) (zat dd_X6_allows 19 rfl) (by decide) ?_
    refine z_sub [1, 2, 0] rfl ?_
    exact zb_X6_allows_34 Y v0 v3 t0 0 h
  · refine z_iconst (x := 1) (zat dd_X6_allows 17 rfl) (by decide) ?_
    refine z_goto (tgt := 34) (zat dd_X6_allows 18 rfl) (by decide) ?_
    refine z_sub [1, 2, 0] rfl ?_
    exact zb_X6_allows_34 Y v0 v3 t0 1 h
def f_X6_allows_10 (v0 : Int32) (v1 : Int32) (v2 : Int32) (t0 : Int32) (h : zH) : zR :=
  if v2 ≤ v1 then
  f_X6_allows_21 v0 t0 v1 h
  else
  f_X6_allows_21 v0 t0 v2 h
set_option maxRecDepth 100000 in
set_option maxHeartbeats 4000000 in
theorem zb_X6_allows_10 (Y : zY) (v0 : Int32) (v1 : Int32) (v2 : Int32) (t0 : Int32) (h : zH) : Z Y M_X6_allows 0 0 10 [(0, .int v0), (1, .int v1), (2, .int v2)] [.int t0] h (f_X6_allows_10 v0 v1 v2 t0 h) := by
  rw [f_X6_allows_10]
  refine z_istore_n (lv' := [(3, .int t0), (0, .int v0), (1, .int v1), (2, .int v2)]) (zat dd_X6_allows 6 rfl) rfl (Nat.le_of_ble_eq_true rfl) rfl ?_
  refine z_iload_n 2 (zat dd_X6_allows 7 rfl) rfl rfl ?_
  refine z_iload_n 3 (zat dd_X6_allows 8 rfl) rfl rfl ?_
  refine z_icmp_ge (tgt := 20) (zat dd_X6_allows 9 rfl) (by decide) ?_ ?_
  · refine z_iload_n 2 (zat dd_X6_allows 12 rfl) rfl rfl ?_
    refine z_sub [1, 0] rfl ?_
    exact zb_X6_allows_21 Y v0 t0 v1 h
  · refine z_iload_n 3 (zat dd_X6_allows 10 rfl) rfl rfl ?_
    refine z_goto (tgt := 21) (zat dd_X6_allows 11 rfl) (by decide) ?_
    refine z_sub [1, 0] rfl ?_
    exact zb_X6_allows_21 Y v0 t0 v2 h
def f_X6_allows (v0 : Int32) (v1 : Int32) (v2 : Int32) (h : zH) : zR :=
  if v2 ≤ v1 then
  f_X6_allows_10 v0 v1 v2 v2 h
  else
  f_X6_allows_10 v0 v1 v2 v1 h
set_option maxRecDepth 100000 in
set_option maxHeartbeats 4000000 in
theorem m_X6_allows (l : Launch) (D : zD) (v0 : Int32) (v1 : Int32) (v2 : Int32) (h : zH) : zMet l D yX6_allows M_X6_allows [.int v0, .int v1, .int v2] h (f_X6_allows v0 v1 v2 h) := by
  refine zMet.of (by decide +kernel) ⟨rfl, rfl⟩ (Nat.le_of_ble_eq_true rfl) (fun Y hl hD => ?_)
  show Z Y M_X6_allows 0 0 0 [(0, .int v0), (1, .int v1), (2, .int v2)] [] h _
  rw [f_X6_allows]
  refine z_iload_n 1 (zat dd_X6_allows 0 rfl) rfl rfl ?_
  refine z_iload_n 2 (zat dd_X6_allows 1 rfl) rfl rfl ?_
  refine z_icmp_ge (tgt := 9) (zat dd_X6_allows 2 rfl) (by decide) ?_ ?_
  · refine z_iload_n 2 (zat dd_X6_allows 5 rfl) rfl rfl ?_
    exact zb_X6_allows_10 Y v0 v1 v2 v2 h
  · refine z_iload_n 1 (zat dd_X6_allows 3 rfl) rfl rfl ?_
    refine z_goto (tgt := 10) (zat dd_X6_allows 4 rfl) (by decide) ?_
    exact zb_X6_allows_10 Y v0 v1 v2 v1 h
/-! PaperDolls$Wear.placeOf(I)I -/
def L_X8_placeOf : List (Nat × Instr × Nat) := [(0, .iconst 0, 1), (1, .istore_n 2, 1), (2, .iload_n 2, 1), (3, .aload_n 0, 1), (4, .getfield 18, 3), (7, .if_icmp .ge 21, 3), (10, .aload_n 0, 1), (11, .getfield 9, 3), (14, .iload_n 2, 1), (15, .iaload, 1), (16, .iload_n 1, 1), (17, .if_icmp .ne 5, 3), (20, .iload_n 2, 1), (21, .ireturn, 1), (22, .iinc 2 1, 3), (25, .goto (-23), 3), (28, .bipush (-101), 2), (30, .ireturn, 1)]
theorem dd_X8_placeOf : ∀ q ∈ L_X8_placeOf, decode cX8_placeOf q.1 = .ok q.2 := by decide +kernel
abbrev M_X8_placeOf : zM := (cX8_placeOf, RX8, "placeOf", 3, some .int, 0, 0, 0)
theorem u_X8_placeOf : zCal yX8_placeOf (M_X8_placeOf) 1 := ⟨(zmem 438 (by decide +kernel) rfl : Cond.code yX8_placeOf cX8_placeOf 3 (some .int) ∈ zTb), zmem 59 (by decide +kernel) rfl, by decide +kernel, Nat.le_of_ble_eq_true rfl⟩
theorem qi_X8_placeOf : Cond.instanceMethod yX8_placeOf ∈ zTb := zmem 436 (by decide +kernel) rfl
theorem qs_X8_placeOf : Cond.selects yX8_placeOf.cls yX8_placeOf yX8_placeOf ∈ zTb := zmem 437 (by decide +kernel) rfl
def f_X8_placeOf_2 : Nat → Nat → Int32 → Int32 → zH → zR
  | 0, _, _, _, _ => none
  | n + 1, v0, v1, v2, h =>
  zgI h v0 4 2 fun x1 =>
  if x1 ≤ v2 then
  zrI (-101) h
  else
  zgR h v0 4 0 fun a2 =>
  zaI h a2 0 v2 fun x3 =>
  if x3 = v1 then
  zrI v2 h
  else
  f_X8_placeOf_2 n v0 v1 (v2 + 1) h
set_option maxRecDepth 100000 in
set_option maxHeartbeats 4000000 in
theorem zb_X8_placeOf_2 (Y : zY) : ∀ (n : Nat) (v0 : Nat) (v1 : Int32) (v2 : Int32) (h : zH), Z Y M_X8_placeOf 0 0 2 [(0, .ref v0), (1, .int v1), (2, .int v2)] [] h (f_X8_placeOf_2 n v0 v1 v2 h) := by
  intro n
  induction n with
  | zero =>
    intro v0 v1 v2 h
    rw [f_X8_placeOf_2]
    exact z_none
  | succ n ih =>
    intro v0 v1 v2 h
    rw [f_X8_placeOf_2]
    refine z_iload_n 2 (zat dd_X8_placeOf 2 rfl) rfl rfl ?_
    refine z_aload_n 0 (zat dd_X8_placeOf 3 rfl) rfl rfl ?_
    refine z_getI fl_X8_18 (zat dd_X8_placeOf 4 rfl) (fun x1 => ?_)
    refine z_icmp_ge (tgt := 28) (zat dd_X8_placeOf 5 rfl) (by decide) ?_ ?_
    · refine z_bipush (x := (-101)) (zat dd_X8_placeOf 16 rfl) (by decide) ?_
      exact z_iret rfl (zat dd_X8_placeOf 17 rfl)
    · refine z_aload_n 0 (zat dd_X8_placeOf 6 rfl) rfl rfl ?_
      refine z_getR fl_X8_9 (zat dd_X8_placeOf 7 rfl) (fun a2 => ?_)
      refine z_iload_n 2 (zat dd_X8_placeOf 8 rfl) rfl rfl ?_
      refine z_iald (zat dd_X8_placeOf 9 rfl) (fun x3 => ?_)
      refine z_iload_n 1 (zat dd_X8_placeOf 10 rfl) rfl rfl ?_
      refine z_icmp_ne (tgt := 22) (zat dd_X8_placeOf 11 rfl) (by decide) ?_ ?_
      · refine z_iinc (y := v2 + 1) (lv' := [(2, .int (v2 + 1)), (0, .ref v0), (1, .int v1)]) 2 (zat dd_X8_placeOf 14 rfl) rfl rfl (Nat.le_of_ble_eq_true rfl) rfl ?_
        refine z_goto (tgt := 2) (zat dd_X8_placeOf 15 rfl) (by decide) ?_
        refine z_sub [1, 2, 0] rfl ?_
        exact ih v0 v1 (v2 + 1) h
      · refine z_iload_n 2 (zat dd_X8_placeOf 12 rfl) rfl rfl ?_
        exact z_iret rfl (zat dd_X8_placeOf 13 rfl)
def f_X8_placeOf (v0 : Nat) (v1 : Int32) (h : zH) : zR :=
  f_X8_placeOf_2 zF v0 v1 0 h
set_option maxRecDepth 100000 in
set_option maxHeartbeats 4000000 in
theorem m_X8_placeOf (l : Launch) (D : zD) (v0 : Nat) (v1 : Int32) (h : zH) : zMet l D yX8_placeOf M_X8_placeOf [.ref v0, .int v1] h (f_X8_placeOf v0 v1 h) := by
  refine zMet.of (by decide +kernel) ⟨rfl, rfl⟩ (Nat.le_of_ble_eq_true rfl) (fun Y hl hD => ?_)
  show Z Y M_X8_placeOf 0 0 0 [(0, .ref v0), (1, .int v1)] [] h _
  rw [f_X8_placeOf]
  refine z_iconst (x := 0) (zat dd_X8_placeOf 0 rfl) (by decide) ?_
  refine z_istore_n (lv' := [(2, .int 0), (0, .ref v0), (1, .int v1)]) (zat dd_X8_placeOf 1 rfl) rfl (Nat.le_of_ble_eq_true rfl) rfl ?_
  refine z_sub [1, 2, 0] rfl ?_
  exact zb_X8_placeOf_2 Y zF v0 v1 0 h
/-! PaperDolls$Wear.layOver(I)V -/
def L_X8_layOver : List (Nat × Instr × Nat) := [(0, .aload_n 0, 1), (1, .getfield 18, 3), (4, .bipush 8, 2), (6, .if_icmp .ge 33, 3), (9, .aload_n 0, 1), (10, .getfield 9, 3), (13, .aload_n 0, 1), (14, .getfield 18, 3), (17, .iload_n 1, 1), (18, .iastore, 1), (19, .aload_n 0, 1), (20, .dup, 1), (21, .getfield 18, 3), (24, .iconst 1, 1), (25, .iadd, 1), (26, .putfield 18, 3), (29, .aload_n 0, 1), (30, .getfield 15, 3), (33, .iload_n 1, 1), (34, .dup2, 1), (35, .iaload, 1), (36, .iconst 1, 1), (37, .iadd, 1), (38, .iastore, 1), (39, .return_, 1)]
theorem dd_X8_layOver : ∀ q ∈ L_X8_layOver, decode cX8_layOver q.1 = .ok q.2 := by decide +kernel
abbrev M_X8_layOver : zM := (cX8_layOver, RX8, "layOver", 2, none, 0, 0, 0)
theorem u_X8_layOver : zCal yX8_layOver (M_X8_layOver) 1 := ⟨(zmem 463 (by decide +kernel) rfl : Cond.code yX8_layOver cX8_layOver 2 (none) ∈ zTb), zmem 59 (by decide +kernel) rfl, by decide +kernel, Nat.le_of_ble_eq_true rfl⟩
theorem qi_X8_layOver : Cond.instanceMethod yX8_layOver ∈ zTb := zmem 461 (by decide +kernel) rfl
theorem qs_X8_layOver : Cond.selects yX8_layOver.cls yX8_layOver yX8_layOver ∈ zTb := zmem 462 (by decide +kernel) rfl
def f_X8_layOver_39 (h : zH) : zR :=
  zrV h
set_option maxRecDepth 100000 in
set_option maxHeartbeats 4000000 in
theorem zb_X8_layOver_39 (Y : zY) (h : zH) : Z Y M_X8_layOver 0 0 39 [] [] h (f_X8_layOver_39  h) := by
  rw [f_X8_layOver_39]
  exact z_vret rfl (zat dd_X8_layOver 24 rfl)
def f_X8_layOver (v0 : Nat) (v1 : Int32) (h : zH) : zR :=
  zgI h v0 4 2 fun x1 =>
  if 8 ≤ x1 then
  f_X8_layOver_39 h
  else
  zgR h v0 4 0 fun a2 =>
  zgI h v0 4 2 fun x3 =>
  zsI h a2 0 x3 v1 fun h4 =>
  zgI h4 v0 4 2 fun x5 =>
  zpV h4 v0 4 2 (.int (x5 + 1)) fun h6 =>
  zgR h6 v0 4 1 fun a7 =>
  zaI h6 a7 0 v1 fun x8 =>
  zsI h6 a7 0 v1 (x8 + 1) fun h9 =>
  f_X8_layOver_39 h9
set_option maxRecDepth 100000 in
set_option maxHeartbeats 4000000 in
theorem m_X8_layOver (l : Launch) (D : zD) (v0 : Nat) (v1 : Int32) (h : zH) : zMet l D yX8_layOver M_X8_layOver [.ref v0, .int v1] h (f_X8_layOver v0 v1 h) := by
  refine zMet.of (by decide +kernel) ⟨rfl, rfl⟩ (Nat.le_of_ble_eq_true rfl) (fun Y hl hD => ?_)
  show Z Y M_X8_layOver 0 0 0 [(0, .ref v0), (1, .int v1)] [] h _
  rw [f_X8_layOver]
  refine z_aload_n 0 (zat dd_X8_layOver 0 rfl) rfl rfl ?_
  refine z_getI fl_X8_18 (zat dd_X8_layOver 1 rfl) (fun x1 => ?_)
  refine z_bipush (x := 8) (zat dd_X8_layOver 2 rfl) (by decide) ?_
  refine z_icmp_ge (tgt := 39) (zat dd_X8_layOver 3 rfl) (by decide) ?_ ?_
  · refine z_sub [] rfl ?_
    exact zb_X8_layOver_39 Y h
  · refine z_aload_n 0 (zat dd_X8_layOver 4 rfl) rfl rfl ?_
    refine z_getR fl_X8_9 (zat dd_X8_layOver 5 rfl) (fun a2 => ?_)
    refine z_aload_n 0 (zat dd_X8_layOver 6 rfl) rfl rfl ?_
    refine z_getI fl_X8_18 (zat dd_X8_layOver 7 rfl) (fun x3 => ?_)
    refine z_iload_n 1 (zat dd_X8_layOver 8 rfl) rfl rfl ?_
    refine z_iast (zat dd_X8_layOver 9 rfl) (fun h4 => ?_)
    refine z_aload_n 0 (zat dd_X8_layOver 10 rfl) rfl rfl ?_
    refine z_dup (zat dd_X8_layOver 11 rfl) rfl ?_
    refine z_getI fl_X8_18 (zat dd_X8_layOver 12 rfl) (fun x5 => ?_)
    refine z_iconst (x := 1) (zat dd_X8_layOver 13 rfl) (by decide) ?_
    refine z_iadd (zat dd_X8_layOver 14 rfl) ?_
    refine z_put fl_X8_18 rfl rfl (zat dd_X8_layOver 15 rfl) (fun h6 => ?_)
    refine z_aload_n 0 (zat dd_X8_layOver 16 rfl) rfl rfl ?_
    refine z_getR fl_X8_15 (zat dd_X8_layOver 17 rfl) (fun a7 => ?_)
    refine z_iload_n 1 (zat dd_X8_layOver 18 rfl) rfl rfl ?_
    refine z_dup2 (zat dd_X8_layOver 19 rfl) rfl rfl ?_
    refine z_iald (zat dd_X8_layOver 20 rfl) (fun x8 => ?_)
    refine z_iconst (x := 1) (zat dd_X8_layOver 21 rfl) (by decide) ?_
    refine z_iadd (zat dd_X8_layOver 22 rfl) ?_
    refine z_iast (zat dd_X8_layOver 23 rfl) (fun h9 => ?_)
    refine z_sub [] rfl ?_
    exact zb_X8_layOver_39 Y h9
/-! PaperDolls$Wear.pullOut(I)V -/
def L_X8_pullOut : List (Nat × Instr × Nat) := [(0, .aload_n 0, 1), (1, .iload_n 1, 1), (2, .invokevirtual 31, 3), (5, .istore_n 2, 1), (6, .iload_n 2, 1), (7, .bipush (-101), 2), (9, .if_icmp .ne 4, 3), (12, .return_, 1), (13, .aload_n 0, 1), (14, .dup, 1), (15, .getfield 18, 3), (18, .iconst 1, 1), (19, .isub, 1), (20, .putfield 18, 3), (23, .iload_n 2, 1), (24, .istore_n 3, 1), (25, .iload_n 3, 1), (26, .aload_n 0, 1), (27, .getfield 18, 3), (30, .if_icmp .ge 23, 3), (33, .aload_n 0, 1), (34, .getfield 9, 3), (37, .iload_n 3, 1), (38, .aload_n 0, 1), (39, .getfield 9, 3), (42, .iload_n 3, 1), (43, .iconst 1, 1), (44, .iadd, 1), (45, .iaload, 1), (46, .iastore, 1), (47, .iinc 3 1, 3), (50, .goto (-25), 3), (53, .return_, 1)]
theorem dd_X8_pullOut : ∀ q ∈ L_X8_pullOut, decode cX8_pullOut q.1 = .ok q.2 := by decide +kernel
abbrev M_X8_pullOut : zM := (cX8_pullOut, RX8, "pullOut", 4, none, 1, 0, 0)
theorem u_X8_pullOut : zCal yX8_pullOut (M_X8_pullOut) 1 := ⟨(zmem 467 (by decide +kernel) rfl : Cond.code yX8_pullOut cX8_pullOut 4 (none) ∈ zTb), zmem 59 (by decide +kernel) rfl, by decide +kernel, Nat.le_of_ble_eq_true rfl⟩
theorem qi_X8_pullOut : Cond.instanceMethod yX8_pullOut ∈ zTb := zmem 465 (by decide +kernel) rfl
theorem qs_X8_pullOut : Cond.selects yX8_pullOut.cls yX8_pullOut yX8_pullOut ∈ zTb := zmem 466 (by decide +kernel) rfl
def f_X8_pullOut_25 : Nat → Nat → Int32 → zH → zR
  | 0, _, _, _ => none
  | n + 1, v0, v3, h =>
  zgI h v0 4 2 fun x1 =>
  if x1 ≤ v3 then
  zrV h
  else
  zgR h v0 4 0 fun a2 =>
  zgR h v0 4 0 fun a3 =>
  zaI h a3 0 (v3 + 1) fun x4 =>
  zsI h a2 0 v3 x4 fun h5 =>
  f_X8_pullOut_25 n v0 (v3 + 1) h5
set_option maxRecDepth 100000 in
set_option maxHeartbeats 4000000 in
theorem zb_X8_pullOut_25 (Y : zY) : ∀ (n : Nat) (v0 : Nat) (v3 : Int32) (h : zH), Z Y M_X8_pullOut 0 0 25 [(0, .ref v0), (3, .int v3)] [] h (f_X8_pullOut_25 n v0 v3 h) := by
  intro n
  induction n with
  | zero =>
    intro v0 v3 h
    rw [f_X8_pullOut_25]
    exact z_none
  | succ n ih =>
    intro v0 v3 h
    rw [f_X8_pullOut_25]
    refine z_iload_n 1 (zat dd_X8_pullOut 16 rfl) rfl rfl ?_
    refine z_aload_n 0 (zat dd_X8_pullOut 17 rfl) rfl rfl ?_
    refine z_getI fl_X8_18 (zat dd_X8_pullOut 18 rfl) (fun x1 => ?_)
    refine z_icmp_ge (tgt := 53) (zat dd_X8_pullOut 19 rfl) (by decide) ?_ ?_
    · exact z_vret rfl (zat dd_X8_pullOut 32 rfl)
    · refine z_aload_n 0 (zat dd_X8_pullOut 20 rfl) rfl rfl ?_
      refine z_getR fl_X8_9 (zat dd_X8_pullOut 21 rfl) (fun a2 => ?_)
      refine z_iload_n 1 (zat dd_X8_pullOut 22 rfl) rfl rfl ?_
      refine z_aload_n 0 (zat dd_X8_pullOut 23 rfl) rfl rfl ?_
      refine z_getR fl_X8_9 (zat dd_X8_pullOut 24 rfl) (fun a3 => ?_)
      refine z_iload_n 1 (zat dd_X8_pullOut 25 rfl) rfl rfl ?_
      refine z_iconst (x := 1) (zat dd_X8_pullOut 26 rfl) (by decide) ?_
      refine z_iadd (zat dd_X8_pullOut 27 rfl) ?_
      refine z_iald (zat dd_X8_pullOut 28 rfl) (fun x4 => ?_)
      refine z_iast (zat dd_X8_pullOut 29 rfl) (fun h5 => ?_)
      refine z_iinc (y := v3 + 1) (lv' := [(3, .int (v3 + 1)), (0, .ref v0)]) 1 (zat dd_X8_pullOut 30 rfl) rfl rfl (Nat.le_of_ble_eq_true rfl) rfl ?_
      refine z_goto (tgt := 25) (zat dd_X8_pullOut 31 rfl) (by decide) ?_
      refine z_sub [1, 0] rfl ?_
      exact ih v0 (v3 + 1) h5
def f_X8_pullOut (v0 : Nat) (v1 : Int32) (h : zH) : zR :=
  zoc h v0 4 <|
  zcI (f_X8_placeOf v0 v1 h) fun x1 h2 =>
  if x1 = (-101) then
  zrV h2
  else
  zgI h2 v0 4 2 fun x3 =>
  zpV h2 v0 4 2 (.int (x3 - 1)) fun h4 =>
  f_X8_pullOut_25 zF v0 x1 h4
set_option maxRecDepth 100000 in
set_option maxHeartbeats 4000000 in
theorem m_X8_pullOut (l : Launch) (D : zD) (v0 : Nat) (v1 : Int32) (h : zH) : zMet l D yX8_pullOut M_X8_pullOut [.ref v0, .int v1] h (f_X8_pullOut v0 v1 h) := by
  refine zMet.of (by decide +kernel) ⟨rfl, rfl⟩ (Nat.le_of_ble_eq_true rfl) (fun Y hl hD => ?_)
  show Z Y M_X8_pullOut 0 0 0 [(0, .ref v0), (1, .int v1)] [] h _
  rw [f_X8_pullOut]
  refine z_aload_n 0 (zat dd_X8_pullOut 0 rfl) rfl rfl ?_
  refine z_iload_n 1 (zat dd_X8_pullOut 1 rfl) rfl rfl ?_
  refine z_callV_I0 (M2 := M_X8_placeOf) [.int v1] (fun l D _ _ => m_X8_placeOf l D v0 v1 h) u_X8_placeOf ql_X8_31 qi_X8_placeOf qs_X8_placeOf (ci := 4) rfl rfl rfl (Nat.le_of_ble_eq_true rfl) (by decide) rfl rfl (zat dd_X8_pullOut 2 rfl) (fun x1 h2 => ?_)
  refine z_istore_n (lv' := [(2, .int x1), (0, .ref v0), (1, .int v1)]) (zat dd_X8_pullOut 3 rfl) rfl (Nat.le_of_ble_eq_true rfl) rfl ?_
  refine z_iload_n 0 (zat dd_X8_pullOut 4 rfl) rfl rfl ?_
  refine z_bipush (x := (-101)) (zat dd_X8_pullOut 5 rfl) (by decide) ?_
  refine z_icmp_ne (tgt := 13) (zat dd_X8_pullOut 6 rfl) (by decide) ?_ ?_
  · refine z_aload_n 1 (zat dd_X8_pullOut 8 rfl) rfl rfl ?_
    refine z_dup (zat dd_X8_pullOut 9 rfl) rfl ?_
    refine z_getI fl_X8_18 (zat dd_X8_pullOut 10 rfl) (fun x3 => ?_)
    refine z_iconst (x := 1) (zat dd_X8_pullOut 11 rfl) (by decide) ?_
    refine z_isub (zat dd_X8_pullOut 12 rfl) ?_
    refine z_put fl_X8_18 rfl rfl (zat dd_X8_pullOut 13 rfl) (fun h4 => ?_)
    refine z_iload_n 0 (zat dd_X8_pullOut 14 rfl) rfl rfl ?_
    refine z_istore_n (lv' := [(3, .int x1), (2, .int x1), (0, .ref v0), (1, .int v1)]) (zat dd_X8_pullOut 15 rfl) rfl (Nat.le_of_ble_eq_true rfl) rfl ?_
    refine z_sub [2, 0] rfl ?_
    exact zb_X8_pullOut_25 Y zF v0 x1 h4
  · exact z_vret rfl (zat dd_X8_pullOut 7 rfl)
/-! java/lang/Integer.bitCount(I)I -/
def L_J6_bitCount_0f7a4 : List (Nat × Instr × Nat) := [(0, .iload_n 0, 1), (1, .iload_n 0, 1), (2, .iconst 1, 1), (3, .iushr, 1), (4, .ldc_w 265, 3), (7, .iand, 1), (8, .isub, 1), (9, .istore_n 0, 1), (10, .iload_n 0, 1), (11, .ldc_w 266, 3), (14, .iand, 1), (15, .iload_n 0, 1), (16, .iconst 2, 1), (17, .iushr, 1), (18, .ldc_w 266, 3), (21, .iand, 1), (22, .iadd, 1), (23, .istore_n 0, 1), (24, .iload_n 0, 1), (25, .iload_n 0, 1), (26, .iconst 4, 1), (27, .iushr, 1), (28, .iadd, 1), (29, .ldc_w 267, 3), (32, .iand, 1), (33, .istore_n 0, 1), (34, .iload_n 0, 1), (35, .iload_n 0, 1), (36, .bipush 8, 2), (38, .iushr, 1), (39, .iadd, 1), (40, .istore_n 0, 1), (41, .iload_n 0, 1), (42, .iload_n 0, 1), (43, .bipush 16, 2), (45, .iushr, 1), (46, .iadd, 1), (47, .istore_n 0, 1), (48, .iload_n 0, 1), (49, .bipush 63, 2), (51, .iand, 1), (52, .ireturn, 1)]
theorem dd_J6_bitCount_0f7a4 : ∀ q ∈ L_J6_bitCount_0f7a4, decode cJ6_bitCount_0f7a4 q.1 = .ok q.2 := by decide +kernel
abbrev M_J6_bitCount_0f7a4 : zM := (cJ6_bitCount_0f7a4, RJ6, "bitCount", 1, some .int, 0, 0, 0)
theorem u_J6_bitCount_0f7a4 : zCal yJ6_bitCount_0f7a4 (M_J6_bitCount_0f7a4) 1 := ⟨(zmem 588 (by decide +kernel) rfl : Cond.code yJ6_bitCount_0f7a4 cJ6_bitCount_0f7a4 1 (some .int) ∈ zTb), zmem 72 (by decide +kernel) rfl, by decide +kernel, Nat.le_of_ble_eq_true rfl⟩
theorem qi_J6_bitCount_0f7a4 : Cond.static yJ6_bitCount_0f7a4 ∈ zTb := zmem 587 (by decide +kernel) rfl
def f_J6_bitCount_0f7a4 (v0 : Int32) (h : zH) : zR :=
  zlt (v0 - ((((v0 : Int32).toUInt32 >>> ((1 : Int32).toUInt32 &&& Int32.toUInt32 31)).toInt32) &&& 1431655765)) fun x1 =>
  zlt ((x1 &&& 858993459) + ((((x1 : Int32).toUInt32 >>> ((2 : Int32).toUInt32 &&& Int32.toUInt32 31)).toInt32) &&& 858993459)) fun x2 =>
  zlt ((x2 + (((x2 : Int32).toUInt32 >>> ((4 : Int32).toUInt32 &&& Int32.toUInt32 31)).toInt32)) &&& 252645135) fun x3 =>
  zlt (x3 + (((x3 : Int32).toUInt32 >>> ((8 : Int32).toUInt32 &&& Int32.toUInt32 31)).toInt32)) fun x4 =>
  zlt (x4 + (((x4 : Int32).toUInt32 >>> ((16 : Int32).toUInt32 &&& Int32.toUInt32 31)).toInt32)) fun x5 =>
  zrI (x5 &&& 63) h
set_option maxRecDepth 100000 in
set_option maxHeartbeats 4000000 in
theorem m_J6_bitCount_0f7a4 (l : Launch) (D : zD) (v0 : Int32) (h : zH) : zMet l D yJ6_bitCount_0f7a4 M_J6_bitCount_0f7a4 [.int v0] h (f_J6_bitCount_0f7a4 v0 h) := by
  refine zMet.of (by decide +kernel) ⟨rfl, rfl⟩ (Nat.le_of_ble_eq_true rfl) (fun Y hl hD => ?_)
  show Z Y M_J6_bitCount_0f7a4 0 0 0 [(0, .int v0)] [] h _
  rw [f_J6_bitCount_0f7a4]
  refine z_iload_n 0 (zat dd_J6_bitCount_0f7a4 0 rfl) rfl rfl ?_
  refine z_iload_n 0 (zat dd_J6_bitCount_0f7a4 1 rfl) rfl rfl ?_
  refine z_iconst (x := 1) (zat dd_J6_bitCount_0f7a4 2 rfl) (by decide) ?_
  refine z_iushr (zat dd_J6_bitCount_0f7a4 3 rfl) ?_
  refine z_ldcw (x := 1431655765) qk_J6_265 (zat dd_J6_bitCount_0f7a4 4 rfl) ?_
  refine z_iand (zat dd_J6_bitCount_0f7a4 5 rfl) ?_
  refine z_isub (zat dd_J6_bitCount_0f7a4 6 rfl) ?_
  refine z_let (fun x1 => ?_)
  refine z_istore_n (lv' := [(0, .int x1)]) (zat dd_J6_bitCount_0f7a4 7 rfl) rfl (Nat.le_of_ble_eq_true rfl) rfl ?_
  refine z_iload_n 0 (zat dd_J6_bitCount_0f7a4 8 rfl) rfl rfl ?_
  refine z_ldcw (x := 858993459) qk_J6_266 (zat dd_J6_bitCount_0f7a4 9 rfl) ?_
  refine z_iand (zat dd_J6_bitCount_0f7a4 10 rfl) ?_
  refine z_iload_n 0 (zat dd_J6_bitCount_0f7a4 11 rfl) rfl rfl ?_
  refine z_iconst (x := 2) (zat dd_J6_bitCount_0f7a4 12 rfl) (by decide) ?_
  refine z_iushr (zat dd_J6_bitCount_0f7a4 13 rfl) ?_
  refine z_ldcw (x := 858993459) qk_J6_266 (zat dd_J6_bitCount_0f7a4 14 rfl) ?_
  refine z_iand (zat dd_J6_bitCount_0f7a4 15 rfl) ?_
  refine z_iadd (zat dd_J6_bitCount_0f7a4 16 rfl) ?_
  refine z_let (fun x2 => ?_)
  refine z_istore_n (lv' := [(0, .int x2)]) (zat dd_J6_bitCount_0f7a4 17 rfl) rfl (Nat.le_of_ble_eq_true rfl) rfl ?_
  refine z_iload_n 0 (zat dd_J6_bitCount_0f7a4 18 rfl) rfl rfl ?_
  refine z_iload_n 0 (zat dd_J6_bitCount_0f7a4 19 rfl) rfl rfl ?_
  refine z_iconst (x := 4) (zat dd_J6_bitCount_0f7a4 20 rfl) (by decide) ?_
  refine z_iushr (zat dd_J6_bitCount_0f7a4 21 rfl) ?_
  refine z_iadd (zat dd_J6_bitCount_0f7a4 22 rfl) ?_
  refine z_ldcw (x := 252645135) qk_J6_267 (zat dd_J6_bitCount_0f7a4 23 rfl) ?_
  refine z_iand (zat dd_J6_bitCount_0f7a4 24 rfl) ?_
  refine z_let (fun x3 => ?_)
  refine z_istore_n (lv' := [(0, .int x3)]) (zat dd_J6_bitCount_0f7a4 25 rfl) rfl (Nat.le_of_ble_eq_true rfl) rfl ?_
  refine z_iload_n 0 (zat dd_J6_bitCount_0f7a4 26 rfl) rfl rfl ?_
  refine z_iload_n 0 (zat dd_J6_bitCount_0f7a4 27 rfl) rfl rfl ?_
  refine z_bipush (x := 8) (zat dd_J6_bitCount_0f7a4 28 rfl) (by decide) ?_
  refine z_iushr (zat dd_J6_bitCount_0f7a4 29 rfl) ?_
  refine z_iadd (zat dd_J6_bitCount_0f7a4 30 rfl) ?_
  refine z_let (fun x4 => ?_)
  refine z_istore_n (lv' := [(0, .int x4)]) (zat dd_J6_bitCount_0f7a4 31 rfl) rfl (Nat.le_of_ble_eq_true rfl) rfl ?_
  refine z_iload_n 0 (zat dd_J6_bitCount_0f7a4 32 rfl) rfl rfl ?_
  refine z_iload_n 0 (zat dd_J6_bitCount_0f7a4 33 rfl) rfl rfl ?_
  refine z_bipush (x := 16) (zat dd_J6_bitCount_0f7a4 34 rfl) (by decide) ?_
  refine z_iushr (zat dd_J6_bitCount_0f7a4 35 rfl) ?_
  refine z_iadd (zat dd_J6_bitCount_0f7a4 36 rfl) ?_
  refine z_let (fun x5 => ?_)
  refine z_istore_n (lv' := [(0, .int x5)]) (zat dd_J6_bitCount_0f7a4 37 rfl) rfl (Nat.le_of_ble_eq_true rfl) rfl ?_
  refine z_iload_n 0 (zat dd_J6_bitCount_0f7a4 38 rfl) rfl rfl ?_
  refine z_bipush (x := 63) (zat dd_J6_bitCount_0f7a4 39 rfl) (by decide) ?_
  refine z_iand (zat dd_J6_bitCount_0f7a4 40 rfl) ?_
  exact z_iret rfl (zat dd_J6_bitCount_0f7a4 41 rfl)
/-! PaperDolls$Wear.wornTogether()I -/
def L_X8_wornTogether : List (Nat × Instr × Nat) := [(0, .iconst 0, 1), (1, .istore_n 1, 1), (2, .iconst 0, 1), (3, .istore_n 2, 1), (4, .iload_n 2, 1), (5, .bipush 8, 2), (7, .if_icmp .ge 18, 3), (10, .iload_n 1, 1), (11, .aload_n 0, 1), (12, .getfield 15, 3), (15, .iload_n 2, 1), (16, .iaload, 1), (17, .iadd, 1), (18, .istore_n 1, 1), (19, .iinc 2 1, 3), (22, .goto (-18), 3), (25, .iload_n 1, 1), (26, .ireturn, 1)]
theorem dd_X8_wornTogether : ∀ q ∈ L_X8_wornTogether, decode cX8_wornTogether q.1 = .ok q.2 := by decide +kernel
abbrev M_X8_wornTogether : zM := (cX8_wornTogether, RX8, "wornTogether", 3, some .int, 0, 0, 0)
theorem u_X8_wornTogether : zCal yX8_wornTogether (M_X8_wornTogether) 0 := ⟨(zmem 788 (by decide +kernel) rfl : Cond.code yX8_wornTogether cX8_wornTogether 3 (some .int) ∈ zTb), zmem 59 (by decide +kernel) rfl, by decide +kernel, Nat.le_of_ble_eq_true rfl⟩
theorem qi_X8_wornTogether : Cond.instanceMethod yX8_wornTogether ∈ zTb := zmem 786 (by decide +kernel) rfl
theorem qs_X8_wornTogether : Cond.selects yX8_wornTogether.cls yX8_wornTogether yX8_wornTogether ∈ zTb := zmem 787 (by decide +kernel) rfl
def f_X8_wornTogether_4 : Nat → Nat → Int32 → Int32 → zH → zR
  | 0, _, _, _, _ => none
  | n + 1, v0, v1, v2, h =>
  if 8 ≤ v2 then
  zrI v1 h
  else
  zgR h v0 4 1 fun a1 =>
  zaI h a1 0 v2 fun x2 =>
  zlt (v1 + x2) fun x3 =>
  f_X8_wornTogether_4 n v0 x3 (v2 + 1) h
set_option maxRecDepth 100000 in
set_option maxHeartbeats 4000000 in
theorem zb_X8_wornTogether_4 (Y : zY) : ∀ (n : Nat) (v0 : Nat) (v1 : Int32) (v2 : Int32) (h : zH), Z Y M_X8_wornTogether 0 0 4 [(0, .ref v0), (1, .int v1), (2, .int v2)] [] h (f_X8_wornTogether_4 n v0 v1 v2 h) := by
  intro n
  induction n with
  | zero =>
    intro v0 v1 v2 h
    rw [f_X8_wornTogether_4]
    exact z_none
  | succ n ih =>
    intro v0 v1 v2 h
    rw [f_X8_wornTogether_4]
    refine z_iload_n 2 (zat dd_X8_wornTogether 4 rfl) rfl rfl ?_
    refine z_bipush (x := 8) (zat dd_X8_wornTogether 5 rfl) (by decide) ?_
    refine z_icmp_ge (tgt := 25) (zat dd_X8_wornTogether 6 rfl) (by decide) ?_ ?_
    · refine z_iload_n 1 (zat dd_X8_wornTogether 16 rfl) rfl rfl ?_
      exact z_iret rfl (zat dd_X8_wornTogether 17 rfl)
    · refine z_iload_n 1 (zat dd_X8_wornTogether 7 rfl) rfl rfl ?_
      refine z_aload_n 0 (zat dd_X8_wornTogether 8 rfl) rfl rfl ?_
      refine z_getR fl_X8_15 (zat dd_X8_wornTogether 9 rfl) (fun a1 => ?_)
      refine z_iload_n 2 (zat dd_X8_wornTogether 10 rfl) rfl rfl ?_
      refine z_iald (zat dd_X8_wornTogether 11 rfl) (fun x2 => ?_)
      refine z_iadd (zat dd_X8_wornTogether 12 rfl) ?_
      refine z_let (fun x3 => ?_)
      refine z_istore_n (lv' := [(1, .int x3), (0, .ref v0), (2, .int v2)]) (zat dd_X8_wornTogether 13 rfl) rfl (Nat.le_of_ble_eq_true rfl) rfl ?_
      refine z_iinc (y := v2 + 1) (lv' := [(2, .int (v2 + 1)), (1, .int x3), (0, .ref v0)]) 2 (zat dd_X8_wornTogether 14 rfl) rfl rfl (Nat.le_of_ble_eq_true rfl) rfl ?_
      refine z_goto (tgt := 4) (zat dd_X8_wornTogether 15 rfl) (by decide) ?_
      refine z_sub [2, 1, 0] rfl ?_
      exact ih v0 x3 (v2 + 1) h
def f_X8_wornTogether (v0 : Nat) (h : zH) : zR :=
  f_X8_wornTogether_4 zF v0 0 0 h
set_option maxRecDepth 100000 in
set_option maxHeartbeats 4000000 in
theorem m_X8_wornTogether (l : Launch) (D : zD) (v0 : Nat) (h : zH) : zMet l D yX8_wornTogether M_X8_wornTogether [.ref v0] h (f_X8_wornTogether v0 h) := by
  refine zMet.of (by decide +kernel) ⟨rfl, rfl⟩ (Nat.le_of_ble_eq_true rfl) (fun Y hl hD => ?_)
  show Z Y M_X8_wornTogether 0 0 0 [(0, .ref v0)] [] h _
  rw [f_X8_wornTogether]
  refine z_iconst (x := 0) (zat dd_X8_wornTogether 0 rfl) (by decide) ?_
  refine z_istore_n (lv' := [(1, .int 0), (0, .ref v0)]) (zat dd_X8_wornTogether 1 rfl) rfl (Nat.le_of_ble_eq_true rfl) rfl ?_
  refine z_iconst (x := 0) (zat dd_X8_wornTogether 2 rfl) (by decide) ?_
  refine z_istore_n (lv' := [(2, .int 0), (1, .int 0), (0, .ref v0)]) (zat dd_X8_wornTogether 3 rfl) rfl (Nat.le_of_ble_eq_true rfl) rfl ?_
  refine z_sub [2, 1, 0] rfl ?_
  exact zb_X8_wornTogether_4 Y zF v0 0 0 h
